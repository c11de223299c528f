theorem dX13_marksFits_0 : decode cX13_marksFits 0 = .ok (.iconst 0, 1) := by decide +kernel
theorem dX13_marksFits_1 : decode cX13_marksFits 1 = .ok (.istore_n 2, 1) := by decide +kernel
theorem dX13_marksFits_2 : decode cX13_marksFits 2 = .ok (.iload_n 2, 1) := by decide +kernel
theorem dX13_marksFits_3 : decode cX13_marksFits 3 = .ok (.bipush 8, 2) := by decide +kernel
theorem dX13_marksFits_5 : decode cX13_marksFits 5 = .ok (.aload_n 0, 1) := by decide +kernel
theorem dX13_marksFits_6 : decode cX13_marksFits 6 = .ok (.getfield 243, 3) := by decide +kernel
theorem dX13_marksFits_9 : decode cX13_marksFits 9 = .ok (.imul, 1) := by decide +kernel
theorem dX13_marksFits_10 : decode cX13_marksFits 10 = .ok (.if_icmp .ge 176, 3) := by decide +kernel
theorem dX13_marksFits_13 : decode cX13_marksFits 13 = .ok (.iload_n 2, 1) := by decide +kernel
theorem dX13_marksFits_14 : decode cX13_marksFits 14 = .ok (.bipush 8, 2) := by decide +kernel
theorem dX13_marksFits_16 : decode cX13_marksFits 16 = .ok (.idiv, 1) := by decide +kernel
theorem dX13_marksFits_17 : decode cX13_marksFits 17 = .ok (.istore_n 3, 1) := by decide +kernel
theorem dX13_marksFits_18 : decode cX13_marksFits 18 = .ok (.aload_n 0, 1) := by decide +kernel
theorem dX13_marksFits_19 : decode cX13_marksFits 19 = .ok (.getfield 163, 3) := by decide +kernel
theorem dX13_marksFits_22 : decode cX13_marksFits 22 = .ok (.iload_n 2, 1) := by decide +kernel
theorem dX13_marksFits_23 : decode cX13_marksFits 23 = .ok (.baload, 1) := by decide +kernel
theorem dX13_marksFits_24 : decode cX13_marksFits 24 = .ok (.ifCond .ne 156, 3) := by decide +kernel
theorem dX13_marksFits_27 : decode cX13_marksFits 27 = .ok (.iload_n 2, 1) := by decide +kernel
theorem dX13_marksFits_28 : decode cX13_marksFits 28 = .ok (.bipush 8, 2) := by decide +kernel
theorem dX13_marksFits_30 : decode cX13_marksFits 30 = .ok (.irem, 1) := by decide +kernel
theorem dX13_marksFits_31 : decode cX13_marksFits 31 = .ok (.aload_n 0, 1) := by decide +kernel
theorem dX13_marksFits_32 : decode cX13_marksFits 32 = .ok (.getfield 20, 3) := by decide +kernel
theorem dX13_marksFits_35 : decode cX13_marksFits 35 = .ok (.iload_n 3, 1) := by decide +kernel
theorem dX13_marksFits_36 : decode cX13_marksFits 36 = .ok (.iaload, 1) := by decide +kernel
theorem dX13_marksFits_37 : decode cX13_marksFits 37 = .ok (.if_icmp .ge 143, 3) := by decide +kernel
theorem dX13_marksFits_40 : decode cX13_marksFits 40 = .ok (.aload_n 0, 1) := by decide +kernel
theorem dX13_marksFits_41 : decode cX13_marksFits 41 = .ok (.iload_n 3, 1) := by decide +kernel
theorem dX13_marksFits_42 : decode cX13_marksFits 42 = .ok (.iload_n 1, 1) := by decide +kernel
theorem dX13_marksFits_43 : decode cX13_marksFits 43 = .ok (.invokevirtual 314, 3) := by decide +kernel
theorem dX13_marksFits_46 : decode cX13_marksFits 46 = .ok (.ifCond .ne 6, 3) := by decide +kernel
theorem dX13_marksFits_49 : decode cX13_marksFits 49 = .ok (.goto 131, 3) := by decide +kernel
theorem dX13_marksFits_52 : decode cX13_marksFits 52 = .ok (.iconst 0, 1) := by decide +kernel
theorem dX13_marksFits_53 : decode cX13_marksFits 53 = .ok (.istore 4, 2) := by decide +kernel
theorem dX13_marksFits_55 : decode cX13_marksFits 55 = .ok (.iconst 0, 1) := by decide +kernel
theorem dX13_marksFits_56 : decode cX13_marksFits 56 = .ok (.istore 5, 2) := by decide +kernel
theorem dX13_marksFits_58 : decode cX13_marksFits 58 = .ok (.iload 5, 2) := by decide +kernel
theorem dX13_marksFits_60 : decode cX13_marksFits 60 = .ok (.aload_n 0, 1) := by decide +kernel
theorem dX13_marksFits_61 : decode cX13_marksFits 61 = .ok (.getfield 414, 3) := by decide +kernel
theorem dX13_marksFits_64 : decode cX13_marksFits 64 = .ok (.if_icmp .ge 51, 3) := by decide +kernel
theorem dX13_marksFits_67 : decode cX13_marksFits 67 = .ok (.iload 4, 2) := by decide +kernel
theorem dX13_marksFits_69 : decode cX13_marksFits 69 = .ok (.ifCond .ne 33, 3) := by decide +kernel
theorem dX13_marksFits_72 : decode cX13_marksFits 72 = .ok (.aload_n 0, 1) := by decide +kernel
theorem dX13_marksFits_73 : decode cX13_marksFits 73 = .ok (.getfield 127, 3) := by decide +kernel
theorem dX13_marksFits_76 : decode cX13_marksFits 76 = .ok (.aload_n 0, 1) := by decide +kernel
theorem dX13_marksFits_77 : decode cX13_marksFits 77 = .ok (.getfield 145, 3) := by decide +kernel
theorem dX13_marksFits_80 : decode cX13_marksFits 80 = .ok (.iload 5, 2) := by decide +kernel
theorem dX13_marksFits_82 : decode cX13_marksFits 82 = .ok (.iaload, 1) := by decide +kernel
theorem dX13_marksFits_83 : decode cX13_marksFits 83 = .ok (.iaload, 1) := by decide +kernel
theorem dX13_marksFits_84 : decode cX13_marksFits 84 = .ok (.iload_n 3, 1) := by decide +kernel
theorem dX13_marksFits_85 : decode cX13_marksFits 85 = .ok (.if_icmp .ne 21, 3) := by decide +kernel
theorem dX13_marksFits_88 : decode cX13_marksFits 88 = .ok (.aload_n 0, 1) := by decide +kernel
theorem dX13_marksFits_89 : decode cX13_marksFits 89 = .ok (.getfield 148, 3) := by decide +kernel
theorem dX13_marksFits_92 : decode cX13_marksFits 92 = .ok (.iload 5, 2) := by decide +kernel
theorem dX13_marksFits_94 : decode cX13_marksFits 94 = .ok (.iaload, 1) := by decide +kernel
theorem dX13_marksFits_95 : decode cX13_marksFits 95 = .ok (.iload_n 2, 1) := by decide +kernel
theorem dX13_marksFits_96 : decode cX13_marksFits 96 = .ok (.bipush 8, 2) := by decide +kernel
theorem dX13_marksFits_98 : decode cX13_marksFits 98 = .ok (.irem, 1) := by decide +kernel
theorem dX13_marksFits_99 : decode cX13_marksFits 99 = .ok (.if_icmp .ne 7, 3) := by decide +kernel
theorem dX13_marksFits_102 : decode cX13_marksFits 102 = .ok (.iconst 1, 1) := by decide +kernel
theorem dX13_marksFits_103 : decode cX13_marksFits 103 = .ok (.goto 4, 3) := by decide +kernel
theorem dX13_marksFits_106 : decode cX13_marksFits 106 = .ok (.iconst 0, 1) := by decide +kernel
theorem dX13_marksFits_107 : decode cX13_marksFits 107 = .ok (.istore 4, 2) := by decide +kernel
theorem dX13_marksFits_109 : decode cX13_marksFits 109 = .ok (.iinc 5 1, 3) := by decide +kernel
theorem dX13_marksFits_112 : decode cX13_marksFits 112 = .ok (.goto (-54), 3) := by decide +kernel
theorem dX13_marksFits_115 : decode cX13_marksFits 115 = .ok (.iload 4, 2) := by decide +kernel
theorem dX13_marksFits_117 : decode cX13_marksFits 117 = .ok (.ifCond .eq 6, 3) := by decide +kernel
theorem dX13_marksFits_120 : decode cX13_marksFits 120 = .ok (.goto 60, 3) := by decide +kernel
theorem dX13_marksFits_123 : decode cX13_marksFits 123 = .ok (.iconst 0, 1) := by decide +kernel
theorem dX13_marksFits_124 : decode cX13_marksFits 124 = .ok (.istore 5, 2) := by decide +kernel
theorem dX13_marksFits_126 : decode cX13_marksFits 126 = .ok (.iload 5, 2) := by decide +kernel
theorem dX13_marksFits_128 : decode cX13_marksFits 128 = .ok (.bipush 40, 2) := by decide +kernel
theorem dX13_marksFits_130 : decode cX13_marksFits 130 = .ok (.if_icmp .ge 35, 3) := by decide +kernel
theorem dX13_marksFits_133 : decode cX13_marksFits 133 = .ok (.aload_n 0, 1) := by decide +kernel
theorem dX13_marksFits_134 : decode cX13_marksFits 134 = .ok (.getfield 151, 3) := by decide +kernel
theorem dX13_marksFits_137 : decode cX13_marksFits 137 = .ok (.sipush 280, 3) := by decide +kernel
theorem dX13_marksFits_140 : decode cX13_marksFits 140 = .ok (.iload 5, 2) := by decide +kernel
theorem dX13_marksFits_142 : decode cX13_marksFits 142 = .ok (.iadd, 1) := by decide +kernel
theorem dX13_marksFits_143 : decode cX13_marksFits 143 = .ok (.aload_n 0, 1) := by decide +kernel
theorem dX13_marksFits_144 : decode cX13_marksFits 144 = .ok (.getfield 151, 3) := by decide +kernel
theorem dX13_marksFits_147 : decode cX13_marksFits 147 = .ok (.bipush 40, 2) := by decide +kernel
theorem dX13_marksFits_149 : decode cX13_marksFits 149 = .ok (.aload_n 0, 1) := by decide +kernel
theorem dX13_marksFits_150 : decode cX13_marksFits 150 = .ok (.getfield 414, 3) := by decide +kernel
theorem dX13_marksFits_153 : decode cX13_marksFits 153 = .ok (.imul, 1) := by decide +kernel
theorem dX13_marksFits_154 : decode cX13_marksFits 154 = .ok (.iload 5, 2) := by decide +kernel
theorem dX13_marksFits_156 : decode cX13_marksFits 156 = .ok (.iadd, 1) := by decide +kernel
theorem dX13_marksFits_157 : decode cX13_marksFits 157 = .ok (.iaload, 1) := by decide +kernel
theorem dX13_marksFits_158 : decode cX13_marksFits 158 = .ok (.iastore, 1) := by decide +kernel
theorem dX13_marksFits_159 : decode cX13_marksFits 159 = .ok (.iinc 5 1, 3) := by decide +kernel
theorem dX13_marksFits_162 : decode cX13_marksFits 162 = .ok (.goto (-36), 3) := by decide +kernel
theorem dX13_marksFits_165 : decode cX13_marksFits 165 = .ok (.aload_n 0, 1) := by decide +kernel
theorem dX13_marksFits_166 : decode cX13_marksFits 166 = .ok (.getfield 163, 3) := by decide +kernel
theorem dX13_marksFits_169 : decode cX13_marksFits 169 = .ok (.iload_n 2, 1) := by decide +kernel
theorem dX13_marksFits_170 : decode cX13_marksFits 170 = .ok (.aload_n 0, 1) := by decide +kernel
theorem dX13_marksFits_171 : decode cX13_marksFits 171 = .ok (.bipush 7, 2) := by decide +kernel
theorem dX13_marksFits_173 : decode cX13_marksFits 173 = .ok (.iload_n 2, 1) := by decide +kernel
theorem dX13_marksFits_174 : decode cX13_marksFits 174 = .ok (.bipush 6, 2) := by decide +kernel
theorem dX13_marksFits_176 : decode cX13_marksFits 176 = .ok (.invokevirtual 408, 3) := by decide +kernel
theorem dX13_marksFits_179 : decode cX13_marksFits 179 = .ok (.bastore, 1) := by decide +kernel
theorem dX13_marksFits_180 : decode cX13_marksFits 180 = .ok (.iinc 2 1, 3) := by decide +kernel
theorem dX13_marksFits_183 : decode cX13_marksFits 183 = .ok (.goto (-181), 3) := by decide +kernel
theorem dX13_marksFits_186 : decode cX13_marksFits 186 = .ok (.return_, 1) := by decide +kernel
noncomputable def f_X13_marksFits_180 (rec2 : Int32 → Int32 → jM → Option (Unit × jM)) (l1 : Int32) (l2 : Int32) (σ : jM) : Option (Unit × jM) :=
  rec2 l1 (l2 + 1) σ
noncomputable def s_X13_marksFits_126 (rec2 : Int32 → Int32 → jM → Option (Unit × jM)) (rec126 : Int32 → Int32 → Int32 → jM → Option (Unit × jM)) (l1 : Int32) (l2 : Int32) (l5 : Int32) (σ : jM) : Option (Unit × jM) :=
  (if 40 ≤ l5 then bd (f_X13_agrees 7 l2 6 σ) (fun r10 σ11 => gd (inb l2 192) (f_X13_marksFits_180 rec2 l1 l2 (wI σ11 373 (Int32.toNatClampNeg l2) (vp_nar .boolean r10)))) else gd (inb ((40 * (rI σ 324 64)) + l5) 320) (gd (inb (280 + l5) 320) (rec126 l1 l2 (l5 + 1) (wI σ 369 (Int32.toNatClampNeg (280 + l5)) (rI σ 369 (Int32.toNatClampNeg ((40 * (rI σ 324 64)) + l5)))))))
noncomputable def f_X13_marksFits_126 (rec2 : Int32 → Int32 → jM → Option (Unit × jM)) (n : Nat) : Int32 → Int32 → Int32 → jM → Option (Unit × jM) := Nat.rec (motive := fun _ => Int32 → Int32 → Int32 → jM → Option (Unit × jM)) (fun _ _ _ _ => none) (fun _ q => s_X13_marksFits_126 rec2 q) n
noncomputable def f_X13_marksFits_107 (rec2 : Int32 → Int32 → jM → Option (Unit × jM)) (rec58 : Int32 → Int32 → Int32 → Int32 → Int32 → jM → Option (Unit × jM)) (l1 : Int32) (l2 : Int32) (l3 : Int32) (l5 : Int32) (s0 : Int32) (σ : jM) : Option (Unit × jM) :=
  rec58 l1 l2 l3 s0 (l5 + 1) σ
noncomputable def f_X13_marksFits_102 (rec2 : Int32 → Int32 → jM → Option (Unit × jM)) (rec58 : Int32 → Int32 → Int32 → Int32 → Int32 → jM → Option (Unit × jM)) (l1 : Int32) (l2 : Int32) (l3 : Int32) (l5 : Int32) (σ : jM) : Option (Unit × jM) :=
  f_X13_marksFits_107 rec2 rec58 l1 l2 l3 l5 1 σ
noncomputable def f_X13_marksFits_106 (rec2 : Int32 → Int32 → jM → Option (Unit × jM)) (rec58 : Int32 → Int32 → Int32 → Int32 → Int32 → jM → Option (Unit × jM)) (l1 : Int32) (l2 : Int32) (l3 : Int32) (l5 : Int32) (σ : jM) : Option (Unit × jM) :=
  f_X13_marksFits_107 rec2 rec58 l1 l2 l3 l5 0 σ
noncomputable def s_X13_marksFits_58 (rec2 : Int32 → Int32 → jM → Option (Unit × jM)) (rec58 : Int32 → Int32 → Int32 → Int32 → Int32 → jM → Option (Unit × jM)) (l1 : Int32) (l2 : Int32) (l3 : Int32) (l4 : Int32) (l5 : Int32) (σ : jM) : Option (Unit × jM) :=
  (if (rI σ 324 64) ≤ l5 then (if l4 = 0 then f_X13_marksFits_126 rec2 Fu l1 l2 0 σ else f_X13_marksFits_180 rec2 l1 l2 σ) else (if l4 = 0 then gd (inb l5 7) (gd (inb (rI σ 367 (Int32.toNatClampNeg l5)) 7) ((if (rI σ 361 (Int32.toNatClampNeg (rI σ 367 (Int32.toNatClampNeg l5)))) = l3 then gd (inb l5 7) ((if (rI σ 368 (Int32.toNatClampNeg l5)) = (l2 - l2 / 8 * 8) then f_X13_marksFits_102 rec2 rec58 l1 l2 l3 l5 σ else f_X13_marksFits_106 rec2 rec58 l1 l2 l3 l5 σ)) else f_X13_marksFits_106 rec2 rec58 l1 l2 l3 l5 σ))) else f_X13_marksFits_102 rec2 rec58 l1 l2 l3 l5 σ))
noncomputable def f_X13_marksFits_58 (rec2 : Int32 → Int32 → jM → Option (Unit × jM)) (n : Nat) : Int32 → Int32 → Int32 → Int32 → Int32 → jM → Option (Unit × jM) := Nat.rec (motive := fun _ => Int32 → Int32 → Int32 → Int32 → Int32 → jM → Option (Unit × jM)) (fun _ _ _ _ _ _ => none) (fun _ q => s_X13_marksFits_58 rec2 q) n
noncomputable def s_X13_marksFits_2  (rec2 : Int32 → Int32 → jM → Option (Unit × jM)) (l1 : Int32) (l2 : Int32) (σ : jM) : Option (Unit × jM) :=
  (if (8 * (rI σ 324 2)) ≤ l2 then some ((), σ) else gd (inb l2 192) ((if (rI σ 373 (Int32.toNatClampNeg l2)) = 0 then gd (inb (l2 / 8) 25) ((if (rI σ 327 (Int32.toNatClampNeg (l2 / 8))) ≤ (l2 - l2 / 8 * 8) then f_X13_marksFits_180 rec2 l1 l2 σ else bd (f_X13_tabletCounts (l2 / 8) l1 σ) (fun r44 σ45 => (if r44 = 0 then f_X13_marksFits_180 rec2 l1 l2 σ45 else f_X13_marksFits_58 rec2 Fu l1 l2 (l2 / 8) 0 0 σ45)))) else f_X13_marksFits_180 rec2 l1 l2 σ)))
noncomputable def f_X13_marksFits_2  (n : Nat) : Int32 → Int32 → jM → Option (Unit × jM) := Nat.rec (motive := fun _ => Int32 → Int32 → jM → Option (Unit × jM)) (fun _ _ _ => none) (fun _ q => s_X13_marksFits_2  q) n
noncomputable def f_X13_marksFits (a1 : Int32) (σ : jM) : Option (Unit × jM) :=
  f_X13_marksFits_2  Fu a1 0 σ
set_option maxRecDepth 20000 in
set_option maxHeartbeats 4000000 in
theorem t_X13_marksFits_180 {rec2 : Int32 → Int32 → jM → Option (Unit × jM)} (hrec2 : ∀ (l1 : Int32) (l2 : Int32) (σ : jM) (r : Unit × jM), rec2 l1 l2 σ = some r → J mi_X13_marksFits 3 0 0 (jqV r) 2 [(0, .ref 324), (1, .int l1), (2, .int l2)] [] (ms σ)) (l1 : Int32) (l2 : Int32) (σ : jM) (r : Unit × jM)  (h : f_X13_marksFits_180 rec2 l1 l2 σ = some r) : J mi_X13_marksFits 3 0 0 (jqV r) 180 [(0, .ref 324), (1, .int l1), (2, .int l2)] [] (ms σ) := by
  unfold f_X13_marksFits_180 at h
  refine J_iinc (v := (l2 + 1)) (ls' := [(2, .int (l2 + 1)), (0, .ref 324), (1, .int l1)]) 2 dX13_marksFits_180 rfl rfl (by decide) rfl ?_
  refine J_goto (tgt := 2) dX13_marksFits_183 (by decide) ?_
  refine J_pick [1, 2, 0] rfl ?_
  exact hrec2 _ _ _ _  h
set_option maxRecDepth 20000 in
set_option maxHeartbeats 4000000 in
theorem t_X13_marksFits_126 {rec2 : Int32 → Int32 → jM → Option (Unit × jM)} (hrec2 : ∀ (l1 : Int32) (l2 : Int32) (σ : jM) (r : Unit × jM), rec2 l1 l2 σ = some r → J mi_X13_marksFits 3 0 0 (jqV r) 2 [(0, .ref 324), (1, .int l1), (2, .int l2)] [] (ms σ)) : ∀ (n : Nat) (l1 : Int32) (l2 : Int32) (l5 : Int32) (σ : jM) (r : Unit × jM), f_X13_marksFits_126 rec2 n l1 l2 l5 σ = some r → J mi_X13_marksFits 3 0 0 (jqV r) 126 [(0, .ref 324), (1, .int l1), (2, .int l2), (5, .int l5)] [] (ms σ) := by
  intro n
  induction n with
  | zero =>
    intro l1 l2 l5 σ r  h
    have h : (none : Option (Unit × jM)) = some r := h
    cases h
  | succ n ih =>
    intro l1 l2 l5 σ r  h
    have h : s_X13_marksFits_126 rec2 (f_X13_marksFits_126 rec2 n) l1 l2 l5 σ = some r := h
    unfold s_X13_marksFits_126 at h
    refine J_iload 3 dX13_marksFits_126 rfl ?_
    refine J_bipush (v := 40) dX13_marksFits_128 (by decide) ?_
    refine J_icmp_ge (tgt := 165) dX13_marksFits_130 (by decide) (fun c16 => ?_) (fun c16 => ?_)
    · have h := (if_pos c16).symm.trans h
      refine J_aload_n 0 dX13_marksFits_165 rfl ?_
      refine M_getR gf_X13_163_12 dX13_marksFits_166 (g_324_73 _) k_324 n_324 ?_
      refine J_iload_n 2 dX13_marksFits_169 rfl ?_
      refine J_aload_n 0 dX13_marksFits_170 rfl ?_
      refine J_bipush (v := 7) dX13_marksFits_171 (by decide) ?_
      refine J_iload_n 2 dX13_marksFits_173 rfl ?_
      refine J_bipush (v := 6) dX13_marksFits_174 (by decide) ?_
      obtain ⟨r17, σ18, h19, h⟩ := bd_inv h
      refine M_callVI (d' := 2) (k := 324) (As := [.int 7, .int l2, .int 6]) (st := [.int l2, .ref 373]) cv_X13_408 dX13_marksFits_176 rfl (by decide) rfl (Nat.le_of_ble_eq_true rfl) (Nat.le_of_ble_eq_true rfl) (by decide) n_324 k_324 rfl rfl (t_X13_agrees  h19) ?_
      obtain ⟨g20, h⟩ := gd_inv h
      refine M_zast dX13_marksFits_179 a_373 n_373 g20 ?_
      refine J_pick [0, 1, 2] rfl ?_
      exact t_X13_marksFits_180 hrec2 _ _ _ _  h
    · have h := (if_neg c16).symm.trans h
      refine J_aload_n 0 dX13_marksFits_133 rfl ?_
      refine M_getR gf_X13_151_12 dX13_marksFits_134 (g_324_67 _) k_324 n_324 ?_
      refine J_sipush (v := 280) dX13_marksFits_137 (by decide) ?_
      refine J_iload 3 dX13_marksFits_140 rfl ?_
      refine J_iadd dX13_marksFits_142 ?_
      refine J_aload_n 0 dX13_marksFits_143 rfl ?_
      refine M_getR gf_X13_151_12 dX13_marksFits_144 (g_324_67 _) k_324 n_324 ?_
      refine J_bipush (v := 40) dX13_marksFits_147 (by decide) ?_
      refine J_aload_n 0 dX13_marksFits_149 rfl ?_
      refine M_getI gf_X13_414_12 dX13_marksFits_150 k_324 n_324 ?_
      refine J_imul dX13_marksFits_153 ?_
      refine J_iload 3 dX13_marksFits_154 rfl ?_
      refine J_iadd dX13_marksFits_156 ?_
      obtain ⟨g21, h⟩ := gd_inv h
      refine M_iald dX13_marksFits_157 a_369 n_369 g21 ?_
      obtain ⟨g22, h⟩ := gd_inv h
      refine M_iast dX13_marksFits_158 a_369 n_369 g22 ?_
      refine J_iinc (v := (l5 + 1)) (ls' := [(5, .int (l5 + 1)), (0, .ref 324), (1, .int l1), (2, .int l2)]) 3 dX13_marksFits_159 rfl rfl (by decide) rfl ?_
      refine J_goto (tgt := 126) dX13_marksFits_162 (by decide) ?_
      refine J_pick [1, 2, 3, 0] rfl ?_
      exact ih _ _ _ _ _  h
set_option maxRecDepth 20000 in
set_option maxHeartbeats 4000000 in
theorem t_X13_marksFits_107 {rec2 : Int32 → Int32 → jM → Option (Unit × jM)} (hrec2 : ∀ (l1 : Int32) (l2 : Int32) (σ : jM) (r : Unit × jM), rec2 l1 l2 σ = some r → J mi_X13_marksFits 3 0 0 (jqV r) 2 [(0, .ref 324), (1, .int l1), (2, .int l2)] [] (ms σ)) {rec58 : Int32 → Int32 → Int32 → Int32 → Int32 → jM → Option (Unit × jM)} (hrec58 : ∀ (l1 : Int32) (l2 : Int32) (l3 : Int32) (l4 : Int32) (l5 : Int32) (σ : jM) (r : Unit × jM), rec58 l1 l2 l3 l4 l5 σ = some r → J mi_X13_marksFits 3 0 0 (jqV r) 58 [(0, .ref 324), (1, .int l1), (2, .int l2), (3, .int l3), (4, .int l4), (5, .int l5)] [] (ms σ)) (l1 : Int32) (l2 : Int32) (l3 : Int32) (l5 : Int32) (s0 : Int32) (σ : jM) (r : Unit × jM)  (h : f_X13_marksFits_107 rec2 rec58 l1 l2 l3 l5 s0 σ = some r) : J mi_X13_marksFits 3 0 0 (jqV r) 107 [(0, .ref 324), (1, .int l1), (2, .int l2), (3, .int l3), (5, .int l5)] [.int s0] (ms σ) := by
  unfold f_X13_marksFits_107 at h
  refine J_istore (i := 4) (ls' := [(4, .int s0), (0, .ref 324), (1, .int l1), (2, .int l2), (3, .int l3), (5, .int l5)]) dX13_marksFits_107 (by decide) rfl ?_
  refine J_iinc (v := (l5 + 1)) (ls' := [(5, .int (l5 + 1)), (4, .int s0), (0, .ref 324), (1, .int l1), (2, .int l2), (3, .int l3)]) 5 dX13_marksFits_109 rfl rfl (by decide) rfl ?_
  refine J_goto (tgt := 58) dX13_marksFits_112 (by decide) ?_
  refine J_pick [2, 3, 4, 5, 1, 0] rfl ?_
  exact hrec58 _ _ _ _ _ _ _  h
set_option maxRecDepth 20000 in
set_option maxHeartbeats 4000000 in
theorem t_X13_marksFits_102 {rec2 : Int32 → Int32 → jM → Option (Unit × jM)} (hrec2 : ∀ (l1 : Int32) (l2 : Int32) (σ : jM) (r : Unit × jM), rec2 l1 l2 σ = some r → J mi_X13_marksFits 3 0 0 (jqV r) 2 [(0, .ref 324), (1, .int l1), (2, .int l2)] [] (ms σ)) {rec58 : Int32 → Int32 → Int32 → Int32 → Int32 → jM → Option (Unit × jM)} (hrec58 : ∀ (l1 : Int32) (l2 : Int32) (l3 : Int32) (l4 : Int32) (l5 : Int32) (σ : jM) (r : Unit × jM), rec58 l1 l2 l3 l4 l5 σ = some r → J mi_X13_marksFits 3 0 0 (jqV r) 58 [(0, .ref 324), (1, .int l1), (2, .int l2), (3, .int l3), (4, .int l4), (5, .int l5)] [] (ms σ)) (l1 : Int32) (l2 : Int32) (l3 : Int32) (l5 : Int32) (σ : jM) (r : Unit × jM)  (h : f_X13_marksFits_102 rec2 rec58 l1 l2 l3 l5 σ = some r) : J mi_X13_marksFits 3 0 0 (jqV r) 102 [(0, .ref 324), (1, .int l1), (2, .int l2), (3, .int l3), (5, .int l5)] [] (ms σ) := by
  unfold f_X13_marksFits_102 at h
  refine J_iconst (v := 1) dX13_marksFits_102 (by decide) ?_
  refine J_goto (tgt := 107) dX13_marksFits_103 (by decide) ?_
  exact t_X13_marksFits_107 hrec2 hrec58 _ _ _ _ _ _ _  h
set_option maxRecDepth 20000 in
set_option maxHeartbeats 4000000 in
theorem t_X13_marksFits_106 {rec2 : Int32 → Int32 → jM → Option (Unit × jM)} (hrec2 : ∀ (l1 : Int32) (l2 : Int32) (σ : jM) (r : Unit × jM), rec2 l1 l2 σ = some r → J mi_X13_marksFits 3 0 0 (jqV r) 2 [(0, .ref 324), (1, .int l1), (2, .int l2)] [] (ms σ)) {rec58 : Int32 → Int32 → Int32 → Int32 → Int32 → jM → Option (Unit × jM)} (hrec58 : ∀ (l1 : Int32) (l2 : Int32) (l3 : Int32) (l4 : Int32) (l5 : Int32) (σ : jM) (r : Unit × jM), rec58 l1 l2 l3 l4 l5 σ = some r → J mi_X13_marksFits 3 0 0 (jqV r) 58 [(0, .ref 324), (1, .int l1), (2, .int l2), (3, .int l3), (4, .int l4), (5, .int l5)] [] (ms σ)) (l1 : Int32) (l2 : Int32) (l3 : Int32) (l5 : Int32) (σ : jM) (r : Unit × jM)  (h : f_X13_marksFits_106 rec2 rec58 l1 l2 l3 l5 σ = some r) : J mi_X13_marksFits 3 0 0 (jqV r) 106 [(0, .ref 324), (1, .int l1), (2, .int l2), (3, .int l3), (5, .int l5)] [] (ms σ) := by
  unfold f_X13_marksFits_106 at h
  refine J_iconst (v := 0) dX13_marksFits_106 (by decide) ?_
  exact t_X13_marksFits_107 hrec2 hrec58 _ _ _ _ _ _ _  h
set_option maxRecDepth 20000 in
set_option maxHeartbeats 4000000 in
theorem t_X13_marksFits_58 {rec2 : Int32 → Int32 → jM → Option (Unit × jM)} (hrec2 : ∀ (l1 : Int32) (l2 : Int32) (σ : jM) (r : Unit × jM), rec2 l1 l2 σ = some r → J mi_X13_marksFits 3 0 0 (jqV r) 2 [(0, .ref 324), (1, .int l1), (2, .int l2)] [] (ms σ)) : ∀ (n : Nat) (l1 : Int32) (l2 : Int32) (l3 : Int32) (l4 : Int32) (l5 : Int32) (σ : jM) (r : Unit × jM), f_X13_marksFits_58 rec2 n l1 l2 l3 l4 l5 σ = some r → J mi_X13_marksFits 3 0 0 (jqV r) 58 [(0, .ref 324), (1, .int l1), (2, .int l2), (3, .int l3), (4, .int l4), (5, .int l5)] [] (ms σ) := by
  intro n
  induction n with
  | zero =>
    intro l1 l2 l3 l4 l5 σ r  h
    have h : (none : Option (Unit × jM)) = some r := h
    cases h
  | succ n ih =>
    intro l1 l2 l3 l4 l5 σ r  h
    have h : s_X13_marksFits_58 rec2 (f_X13_marksFits_58 rec2 n) l1 l2 l3 l4 l5 σ = some r := h
    unfold s_X13_marksFits_58 at h
    refine J_iload 5 dX13_marksFits_58 rfl ?_
    refine J_aload_n 0 dX13_marksFits_60 rfl ?_
    refine M_getI gf_X13_414_12 dX13_marksFits_61 k_324 n_324 ?_
    refine J_icmp_ge (tgt := 115) dX13_marksFits_64 (by decide) (fun c31 => ?_) (fun c31 => ?_)
    · have h := (if_pos c31).symm.trans h
      refine J_iload 4 dX13_marksFits_115 rfl ?_
      refine J_if_eq (tgt := 123) dX13_marksFits_117 (by decide) (fun c32 => ?_) (fun c32 => ?_)
      · have h := (if_pos c32).symm.trans h
        refine J_iconst (v := 0) dX13_marksFits_123 (by decide) ?_
        refine J_istore (i := 5) (ls' := [(5, .int 0), (0, .ref 324), (1, .int l1), (2, .int l2), (3, .int l3), (4, .int l4)]) dX13_marksFits_124 (by decide) rfl ?_
        refine J_pick [1, 2, 3, 0] rfl ?_
        exact t_X13_marksFits_126 hrec2 _ _ _ _ _ _  h
      · have h := (if_neg c32).symm.trans h
        refine J_goto (tgt := 180) dX13_marksFits_120 (by decide) ?_
        refine J_pick [0, 1, 2] rfl ?_
        exact t_X13_marksFits_180 hrec2 _ _ _ _  h
    · have h := (if_neg c31).symm.trans h
      refine J_iload 4 dX13_marksFits_67 rfl ?_
      refine J_if_ne (tgt := 102) dX13_marksFits_69 (by decide) (fun c33 => ?_) (fun c33 => ?_)
      · have h := (if_neg c33).symm.trans h
        refine J_pick [0, 1, 2, 3, 5] rfl ?_
        exact t_X13_marksFits_102 hrec2 ih _ _ _ _ _ _  h
      · have h := (if_pos c33).symm.trans h
        refine J_aload_n 0 dX13_marksFits_72 rfl ?_
        refine M_getR gf_X13_127_12 dX13_marksFits_73 (g_324_58 _) k_324 n_324 ?_
        refine J_aload_n 0 dX13_marksFits_76 rfl ?_
        refine M_getR gf_X13_145_12 dX13_marksFits_77 (g_324_65 _) k_324 n_324 ?_
        refine J_iload 5 dX13_marksFits_80 rfl ?_
        obtain ⟨g34, h⟩ := gd_inv h
        refine M_iald dX13_marksFits_82 a_367 n_367 g34 ?_
        obtain ⟨g35, h⟩ := gd_inv h
        refine M_iald dX13_marksFits_83 a_361 n_361 g35 ?_
        refine J_iload_n 3 dX13_marksFits_84 rfl ?_
        refine J_icmp_ne (tgt := 106) dX13_marksFits_85 (by decide) (fun c36 => ?_) (fun c36 => ?_)
        · have h := (if_neg c36).symm.trans h
          refine J_pick [0, 1, 2, 3, 5] rfl ?_
          exact t_X13_marksFits_106 hrec2 ih _ _ _ _ _ _  h
        · have h := (if_pos c36).symm.trans h
          refine J_aload_n 0 dX13_marksFits_88 rfl ?_
          refine M_getR gf_X13_148_12 dX13_marksFits_89 (g_324_66 _) k_324 n_324 ?_
          refine J_iload 5 dX13_marksFits_92 rfl ?_
          obtain ⟨g37, h⟩ := gd_inv h
          refine M_iald dX13_marksFits_94 a_368 n_368 g37 ?_
          refine J_iload_n 2 dX13_marksFits_95 rfl ?_
          refine J_bipush (v := 8) dX13_marksFits_96 (by decide) ?_
          refine J_irem dX13_marksFits_98 (by decide) ?_
          refine J_icmp_ne (tgt := 106) dX13_marksFits_99 (by decide) (fun c38 => ?_) (fun c38 => ?_)
          · have h := (if_neg c38).symm.trans h
            refine J_pick [0, 1, 2, 3, 5] rfl ?_
            exact t_X13_marksFits_106 hrec2 ih _ _ _ _ _ _  h
          · have h := (if_pos c38).symm.trans h
            refine J_pick [0, 1, 2, 3, 5] rfl ?_
            exact t_X13_marksFits_102 hrec2 ih _ _ _ _ _ _  h
set_option maxRecDepth 20000 in
set_option maxHeartbeats 4000000 in
theorem t_X13_marksFits_2  : ∀ (n : Nat) (l1 : Int32) (l2 : Int32) (σ : jM) (r : Unit × jM), f_X13_marksFits_2  n l1 l2 σ = some r → J mi_X13_marksFits 3 0 0 (jqV r) 2 [(0, .ref 324), (1, .int l1), (2, .int l2)] [] (ms σ) := by
  intro n
  induction n with
  | zero =>
    intro l1 l2 σ r  h
    have h : (none : Option (Unit × jM)) = some r := h
    cases h
  | succ n ih =>
    intro l1 l2 σ r  h
    have h : s_X13_marksFits_2  (f_X13_marksFits_2  n) l1 l2 σ = some r := h
    unfold s_X13_marksFits_2 at h
    refine J_iload_n 2 dX13_marksFits_2 rfl ?_
    refine J_bipush (v := 8) dX13_marksFits_3 (by decide) ?_
    refine J_aload_n 0 dX13_marksFits_5 rfl ?_
    refine M_getI gf_X13_243_12 dX13_marksFits_6 k_324 n_324 ?_
    refine J_imul dX13_marksFits_9 ?_
    refine J_icmp_ge (tgt := 186) dX13_marksFits_10 (by decide) (fun c48 => ?_) (fun c48 => ?_)
    · have h := (if_pos c48).symm.trans h
      exact J_ret (v := none) rfl ⟨dX13_marksFits_186, rfl⟩ (jqV_mk h)
    · have h := (if_neg c48).symm.trans h
      refine J_iload_n 2 dX13_marksFits_13 rfl ?_
      refine J_bipush (v := 8) dX13_marksFits_14 (by decide) ?_
      refine J_idiv dX13_marksFits_16 (by decide) ?_
      refine J_istore_n (i := 3) (ls' := [(3, .int (l2 / 8)), (0, .ref 324), (1, .int l1), (2, .int l2)]) dX13_marksFits_17 rfl (by decide) rfl ?_
      refine J_aload_n 1 dX13_marksFits_18 rfl ?_
      refine M_getR gf_X13_163_12 dX13_marksFits_19 (g_324_73 _) k_324 n_324 ?_
      refine J_iload_n 3 dX13_marksFits_22 rfl ?_
      obtain ⟨g49, h⟩ := gd_inv h
      refine M_zald dX13_marksFits_23 a_373 n_373 g49 ?_
      refine J_if_ne (tgt := 180) dX13_marksFits_24 (by decide) (fun c50 => ?_) (fun c50 => ?_)
      · have h := (if_neg c50).symm.trans h
        refine J_pick [1, 2, 3] rfl ?_
        exact t_X13_marksFits_180 ih _ _ _ _  h
      · have h := (if_pos c50).symm.trans h
        refine J_iload_n 3 dX13_marksFits_27 rfl ?_
        refine J_bipush (v := 8) dX13_marksFits_28 (by decide) ?_
        refine J_irem dX13_marksFits_30 (by decide) ?_
        refine J_aload_n 1 dX13_marksFits_31 rfl ?_
        refine M_getR gf_X13_20_12 dX13_marksFits_32 (g_324_5 _) k_324 n_324 ?_
        refine J_iload_n 0 dX13_marksFits_35 rfl ?_
        obtain ⟨g51, h⟩ := gd_inv h
        refine M_iald dX13_marksFits_36 a_327 n_327 g51 ?_
        refine J_icmp_ge (tgt := 180) dX13_marksFits_37 (by decide) (fun c52 => ?_) (fun c52 => ?_)
        · have h := (if_pos c52).symm.trans h
          refine J_pick [1, 2, 3] rfl ?_
          exact t_X13_marksFits_180 ih _ _ _ _  h
        · have h := (if_neg c52).symm.trans h
          refine J_aload_n 1 dX13_marksFits_40 rfl ?_
          refine J_iload_n 0 dX13_marksFits_41 rfl ?_
          refine J_iload_n 2 dX13_marksFits_42 rfl ?_
          obtain ⟨r53, σ54, h55, h⟩ := bd_inv h
          refine M_callVI (d' := 2) (k := 324) (As := [.int (l2 / 8), .int l1]) (st := []) cv_X13_314 dX13_marksFits_43 rfl (by decide) rfl (Nat.le_of_ble_eq_true rfl) (Nat.le_of_ble_eq_true rfl) (by decide) n_324 k_324 rfl rfl (t_X13_tabletCounts  h55) ?_
          refine J_if_ne (tgt := 52) dX13_marksFits_46 (by decide) (fun c56 => ?_) (fun c56 => ?_)
          · have h := (if_neg c56).symm.trans h
            refine J_iconst (v := 0) dX13_marksFits_52 (by decide) ?_
            refine J_istore (i := 4) (ls' := [(4, .int 0), (3, .int (l2 / 8)), (0, .ref 324), (1, .int l1), (2, .int l2)]) dX13_marksFits_53 (by decide) rfl ?_
            refine J_iconst (v := 0) dX13_marksFits_55 (by decide) ?_
            refine J_istore (i := 5) (ls' := [(5, .int 0), (4, .int 0), (3, .int (l2 / 8)), (0, .ref 324), (1, .int l1), (2, .int l2)]) dX13_marksFits_56 (by decide) rfl ?_
            refine J_pick [3, 4, 5, 2, 1, 0] rfl ?_
            exact t_X13_marksFits_58 ih _ _ _ _ _ _ _ _  h
          · have h := (if_pos c56).symm.trans h
            refine J_goto (tgt := 180) dX13_marksFits_49 (by decide) ?_
            refine J_pick [1, 2, 3] rfl ?_
            exact t_X13_marksFits_180 ih _ _ _ _  h
set_option maxRecDepth 20000 in
set_option maxHeartbeats 4000000 in
theorem t_X13_marksFits {a1 : Int32} {σ : jM} {r : Unit × jM}  (h : f_X13_marksFits a1 σ = some r) : J mi_X13_marksFits 3 0 0 (jqV r) 0 [(0, .ref 324), (1, .int a1)] [] (ms σ) := by
  unfold f_X13_marksFits at h
  refine J_iconst (v := 0) dX13_marksFits_0 (by decide) ?_
  refine J_istore_n (i := 2) (ls' := [(2, .int 0), (0, .ref 324), (1, .int a1)]) dX13_marksFits_1 rfl (by decide) rfl ?_
  refine J_pick [1, 2, 0] rfl ?_
  exact t_X13_marksFits_2  _ _ _ _ _  h
theorem dX1_forcedCell_0 : decode cX1_forcedCell 0 = .ok (.aload_n 0, 1) := by decide +kernel
theorem dX1_forcedCell_1 : decode cX1_forcedCell 1 = .ok (.iload_n 1, 1) := by decide +kernel
theorem dX1_forcedCell_2 : decode cX1_forcedCell 2 = .ok (.iconst 0, 1) := by decide +kernel
theorem dX1_forcedCell_3 : decode cX1_forcedCell 3 = .ok (.invokevirtual 46, 3) := by decide +kernel
theorem dX1_forcedCell_6 : decode cX1_forcedCell 6 = .ok (.istore_n 2, 1) := by decide +kernel
theorem dX1_forcedCell_7 : decode cX1_forcedCell 7 = .ok (.iload_n 2, 1) := by decide +kernel
theorem dX1_forcedCell_8 : decode cX1_forcedCell 8 = .ok (.iconst (-1), 1) := by decide +kernel
theorem dX1_forcedCell_9 : decode cX1_forcedCell 9 = .ok (.if_icmp .eq 20, 3) := by decide +kernel
theorem dX1_forcedCell_12 : decode cX1_forcedCell 12 = .ok (.aload_n 0, 1) := by decide +kernel
theorem dX1_forcedCell_13 : decode cX1_forcedCell 13 = .ok (.iload_n 1, 1) := by decide +kernel
theorem dX1_forcedCell_14 : decode cX1_forcedCell 14 = .ok (.iload_n 2, 1) := by decide +kernel
theorem dX1_forcedCell_15 : decode cX1_forcedCell 15 = .ok (.invokevirtual 50, 3) := by decide +kernel
theorem dX1_forcedCell_18 : decode cX1_forcedCell 18 = .ok (.aload_n 0, 1) := by decide +kernel
theorem dX1_forcedCell_19 : decode cX1_forcedCell 19 = .ok (.getfield 39, 3) := by decide +kernel
theorem dX1_forcedCell_22 : decode cX1_forcedCell 22 = .ok (.if_icmp .ne 7, 3) := by decide +kernel
theorem dX1_forcedCell_25 : decode cX1_forcedCell 25 = .ok (.iload_n 2, 1) := by decide +kernel
theorem dX1_forcedCell_26 : decode cX1_forcedCell 26 = .ok (.goto 4, 3) := by decide +kernel
theorem dX1_forcedCell_29 : decode cX1_forcedCell 29 = .ok (.iconst (-1), 1) := by decide +kernel
theorem dX1_forcedCell_30 : decode cX1_forcedCell 30 = .ok (.ireturn, 1) := by decide +kernel
noncomputable def f_X1_forcedCell_30  (s0 : Int32) (σ : jM) : Option (Int32 × jM) :=
  some (s0, σ)
noncomputable def f_X1_forcedCell_29   (σ : jM) : Option (Int32 × jM) :=
  f_X1_forcedCell_30  (-1) σ
noncomputable def f_X1_forcedCell (a1 : Int32) (σ : jM) : Option (Int32 × jM) :=
  bd (f_X1_possibleCell a1 0 σ) (fun r1 σ2 => (if r1 = (-1) then f_X1_forcedCell_29   σ2 else bd (f_X1_waysWith a1 r1 σ2) (fun r5 σ6 => (if r5 = (rI σ6 322 0) then f_X1_forcedCell_30  r1 σ6 else f_X1_forcedCell_29   σ6))))
set_option maxRecDepth 20000 in
set_option maxHeartbeats 4000000 in
theorem t_X1_forcedCell_30  (s0 : Int32) (σ : jM) (r : Int32 × jM)  (h : f_X1_forcedCell_30  s0 σ = some r) : J mi_X1_forcedCell 3 0 0 (jqI r) 30 [] [.int s0] (ms σ) := by
  unfold f_X1_forcedCell_30 at h
  exact J_ret (v := some (.int s0)) rfl ⟨dX1_forcedCell_30, Or.inl rfl⟩ (jqI_mk h)
set_option maxRecDepth 20000 in
set_option maxHeartbeats 4000000 in
theorem t_X1_forcedCell_29   (σ : jM) (r : Int32 × jM)  (h : f_X1_forcedCell_29   σ = some r) : J mi_X1_forcedCell 3 0 0 (jqI r) 29 [] [] (ms σ) := by
  unfold f_X1_forcedCell_29 at h
  refine J_iconst (v := (-1)) dX1_forcedCell_29 (by decide) ?_
  exact t_X1_forcedCell_30  _ _ _  h
set_option maxRecDepth 20000 in
set_option maxHeartbeats 4000000 in
theorem t_X1_forcedCell {a1 : Int32} {σ : jM} {r : Int32 × jM}  (h : f_X1_forcedCell a1 σ = some r) : J mi_X1_forcedCell 3 0 0 (jqI r) 0 [(0, .ref 322), (1, .int a1)] [] (ms σ) := by
  unfold f_X1_forcedCell at h
  refine J_aload_n 0 dX1_forcedCell_0 rfl ?_
  refine J_iload_n 1 dX1_forcedCell_1 rfl ?_
  refine J_iconst (v := 0) dX1_forcedCell_2 (by decide) ?_
  obtain ⟨r1, σ2, h3, h⟩ := bd_inv h
  refine M_callVI (d' := 2) (k := 322) (As := [.int a1, .int 0]) (st := []) cv_X1_46 dX1_forcedCell_3 rfl (by decide) rfl (Nat.le_of_ble_eq_true rfl) (Nat.le_of_ble_eq_true rfl) (by decide) n_322 k_322 rfl rfl (t_X1_possibleCell  h3) ?_
  refine J_istore_n (i := 2) (ls' := [(2, .int r1), (0, .ref 322), (1, .int a1)]) dX1_forcedCell_6 rfl (by decide) rfl ?_
  refine J_iload_n 0 dX1_forcedCell_7 rfl ?_
  refine J_iconst (v := (-1)) dX1_forcedCell_8 (by decide) ?_
  refine J_icmp_eq (tgt := 29) dX1_forcedCell_9 (by decide) (fun c4 => ?_) (fun c4 => ?_)
  · have h := (if_pos c4).symm.trans h
    refine J_pick [] rfl ?_
    exact t_X1_forcedCell_29   _ _  h
  · have h := (if_neg c4).symm.trans h
    refine J_aload_n 1 dX1_forcedCell_12 rfl ?_
    refine J_iload_n 2 dX1_forcedCell_13 rfl ?_
    refine J_iload_n 0 dX1_forcedCell_14 rfl ?_
    obtain ⟨r5, σ6, h7, h⟩ := bd_inv h
    refine M_callVI (d' := 1) (k := 322) (As := [.int a1, .int r1]) (st := []) cv_X1_50 dX1_forcedCell_15 rfl (by decide) rfl (Nat.le_of_ble_eq_true rfl) (Nat.le_of_ble_eq_true rfl) (by decide) n_322 k_322 rfl rfl (t_X1_waysWith  h7) ?_
    refine J_aload_n 1 dX1_forcedCell_18 rfl ?_
    refine M_getI gf_X1_39_1 dX1_forcedCell_19 k_322 n_322 ?_
    refine J_icmp_ne (tgt := 29) dX1_forcedCell_22 (by decide) (fun c8 => ?_) (fun c8 => ?_)
    · have h := (if_neg c8).symm.trans h
      refine J_pick [] rfl ?_
      exact t_X1_forcedCell_29   _ _  h
    · have h := (if_pos c8).symm.trans h
      refine J_iload_n 0 dX1_forcedCell_25 rfl ?_
      refine J_goto (tgt := 30) dX1_forcedCell_26 (by decide) ?_
      refine J_pick [] rfl ?_
      exact t_X1_forcedCell_30  _ _ _  h
theorem dX1_settlingSign_0 : decode cX1_settlingSign 0 = .ok (.iconst 0, 1) := by decide +kernel
theorem dX1_settlingSign_1 : decode cX1_settlingSign 1 = .ok (.istore_n 1, 1) := by decide +kernel
theorem dX1_settlingSign_2 : decode cX1_settlingSign 2 = .ok (.aload_n 0, 1) := by decide +kernel
theorem dX1_settlingSign_3 : decode cX1_settlingSign 3 = .ok (.iconst 0, 1) := by decide +kernel
theorem dX1_settlingSign_4 : decode cX1_settlingSign 4 = .ok (.invokevirtual 61, 3) := by decide +kernel
theorem dX1_settlingSign_7 : decode cX1_settlingSign 7 = .ok (.istore_n 2, 1) := by decide +kernel
theorem dX1_settlingSign_8 : decode cX1_settlingSign 8 = .ok (.iconst 1, 1) := by decide +kernel
theorem dX1_settlingSign_9 : decode cX1_settlingSign 9 = .ok (.istore_n 3, 1) := by decide +kernel
theorem dX1_settlingSign_10 : decode cX1_settlingSign 10 = .ok (.iload_n 3, 1) := by decide +kernel
theorem dX1_settlingSign_11 : decode cX1_settlingSign 11 = .ok (.bipush 40, 2) := by decide +kernel
theorem dX1_settlingSign_13 : decode cX1_settlingSign 13 = .ok (.if_icmp .ge 27, 3) := by decide +kernel
theorem dX1_settlingSign_16 : decode cX1_settlingSign 16 = .ok (.aload_n 0, 1) := by decide +kernel
theorem dX1_settlingSign_17 : decode cX1_settlingSign 17 = .ok (.iload_n 3, 1) := by decide +kernel
theorem dX1_settlingSign_18 : decode cX1_settlingSign 18 = .ok (.invokevirtual 61, 3) := by decide +kernel
theorem dX1_settlingSign_21 : decode cX1_settlingSign 21 = .ok (.istore 4, 2) := by decide +kernel
theorem dX1_settlingSign_23 : decode cX1_settlingSign 23 = .ok (.iload 4, 2) := by decide +kernel
theorem dX1_settlingSign_25 : decode cX1_settlingSign 25 = .ok (.iload_n 2, 1) := by decide +kernel
theorem dX1_settlingSign_26 : decode cX1_settlingSign 26 = .ok (.if_icmp .ge 8, 3) := by decide +kernel
theorem dX1_settlingSign_29 : decode cX1_settlingSign 29 = .ok (.iload_n 3, 1) := by decide +kernel
theorem dX1_settlingSign_30 : decode cX1_settlingSign 30 = .ok (.istore_n 1, 1) := by decide +kernel
theorem dX1_settlingSign_31 : decode cX1_settlingSign 31 = .ok (.iload 4, 2) := by decide +kernel
theorem dX1_settlingSign_33 : decode cX1_settlingSign 33 = .ok (.istore_n 2, 1) := by decide +kernel
theorem dX1_settlingSign_34 : decode cX1_settlingSign 34 = .ok (.iinc 3 1, 3) := by decide +kernel
theorem dX1_settlingSign_37 : decode cX1_settlingSign 37 = .ok (.goto (-27), 3) := by decide +kernel
theorem dX1_settlingSign_40 : decode cX1_settlingSign 40 = .ok (.iload_n 1, 1) := by decide +kernel
theorem dX1_settlingSign_41 : decode cX1_settlingSign 41 = .ok (.ireturn, 1) := by decide +kernel
noncomputable def f_X1_settlingSign_34 (rec10 : Int32 → Int32 → Int32 → jM → Option (Int32 × jM)) (l1 : Int32) (l2 : Int32) (l3 : Int32) (σ : jM) : Option (Int32 × jM) :=
  rec10 l1 l2 (l3 + 1) σ
noncomputable def s_X1_settlingSign_10  (rec10 : Int32 → Int32 → Int32 → jM → Option (Int32 × jM)) (l1 : Int32) (l2 : Int32) (l3 : Int32) (σ : jM) : Option (Int32 × jM) :=
  (if 40 ≤ l3 then some (l1, σ) else bd (f_X1_mostAgreeing l3 σ) (fun r2 σ3 => (if l2 ≤ r2 then f_X1_settlingSign_34 rec10 l1 l2 l3 σ3 else f_X1_settlingSign_34 rec10 l3 r2 l3 σ3)))
noncomputable def f_X1_settlingSign_10  (n : Nat) : Int32 → Int32 → Int32 → jM → Option (Int32 × jM) := Nat.rec (motive := fun _ => Int32 → Int32 → Int32 → jM → Option (Int32 × jM)) (fun _ _ _ _ => none) (fun _ q => s_X1_settlingSign_10  q) n
noncomputable def f_X1_settlingSign  (σ : jM) : Option (Int32 × jM) :=
  bd (f_X1_mostAgreeing 0 σ) (fun r11 σ12 => f_X1_settlingSign_10  Fu 0 r11 1 σ12)
set_option maxRecDepth 20000 in
set_option maxHeartbeats 4000000 in
theorem t_X1_settlingSign_34 {rec10 : Int32 → Int32 → Int32 → jM → Option (Int32 × jM)} (hrec10 : ∀ (l1 : Int32) (l2 : Int32) (l3 : Int32) (σ : jM) (r : Int32 × jM), rec10 l1 l2 l3 σ = some r → J mi_X1_settlingSign 3 0 0 (jqI r) 10 [(0, .ref 322), (1, .int l1), (2, .int l2), (3, .int l3)] [] (ms σ)) (l1 : Int32) (l2 : Int32) (l3 : Int32) (σ : jM) (r : Int32 × jM)  (h : f_X1_settlingSign_34 rec10 l1 l2 l3 σ = some r) : J mi_X1_settlingSign 3 0 0 (jqI r) 34 [(0, .ref 322), (1, .int l1), (2, .int l2), (3, .int l3)] [] (ms σ) := by
  unfold f_X1_settlingSign_34 at h
  refine J_iinc (v := (l3 + 1)) (ls' := [(3, .int (l3 + 1)), (0, .ref 322), (1, .int l1), (2, .int l2)]) 3 dX1_settlingSign_34 rfl rfl (by decide) rfl ?_
  refine J_goto (tgt := 10) dX1_settlingSign_37 (by decide) ?_
  refine J_pick [1, 2, 3, 0] rfl ?_
  exact hrec10 _ _ _ _ _  h
set_option maxRecDepth 20000 in
set_option maxHeartbeats 4000000 in
theorem t_X1_settlingSign_10  : ∀ (n : Nat) (l1 : Int32) (l2 : Int32) (l3 : Int32) (σ : jM) (r : Int32 × jM), f_X1_settlingSign_10  n l1 l2 l3 σ = some r → J mi_X1_settlingSign 3 0 0 (jqI r) 10 [(0, .ref 322), (1, .int l1), (2, .int l2), (3, .int l3)] [] (ms σ) := by
  intro n
  induction n with
  | zero =>
    intro l1 l2 l3 σ r  h
    have h : (none : Option (Int32 × jM)) = some r := h
    cases h
  | succ n ih =>
    intro l1 l2 l3 σ r  h
    have h : s_X1_settlingSign_10  (f_X1_settlingSign_10  n) l1 l2 l3 σ = some r := h
    unfold s_X1_settlingSign_10 at h
    refine J_iload_n 3 dX1_settlingSign_10 rfl ?_
    refine J_bipush (v := 40) dX1_settlingSign_11 (by decide) ?_
    refine J_icmp_ge (tgt := 40) dX1_settlingSign_13 (by decide) (fun c6 => ?_) (fun c6 => ?_)
    · have h := (if_pos c6).symm.trans h
      refine J_iload_n 1 dX1_settlingSign_40 rfl ?_
      exact J_ret (v := some (.int l1)) rfl ⟨dX1_settlingSign_41, Or.inl rfl⟩ (jqI_mk h)
    · have h := (if_neg c6).symm.trans h
      refine J_aload_n 0 dX1_settlingSign_16 rfl ?_
      refine J_iload_n 3 dX1_settlingSign_17 rfl ?_
      obtain ⟨r7, σ8, h9, h⟩ := bd_inv h
      refine M_callVI (d' := 2) (k := 322) (As := [.int l3]) (st := []) cv_X1_61 dX1_settlingSign_18 rfl (by decide) rfl (Nat.le_of_ble_eq_true rfl) (Nat.le_of_ble_eq_true rfl) (by decide) n_322 k_322 rfl rfl (t_X1_mostAgreeing  h9) ?_
      refine J_istore (i := 4) (ls' := [(4, .int r7), (0, .ref 322), (1, .int l1), (2, .int l2), (3, .int l3)]) dX1_settlingSign_21 (by decide) rfl ?_
      refine J_iload 0 dX1_settlingSign_23 rfl ?_
      refine J_iload_n 3 dX1_settlingSign_25 rfl ?_
      refine J_icmp_ge (tgt := 34) dX1_settlingSign_26 (by decide) (fun c10 => ?_) (fun c10 => ?_)
      · have h := (if_pos c10).symm.trans h
        refine J_pick [1, 2, 3, 4] rfl ?_
        exact t_X1_settlingSign_34 ih _ _ _ _ _  h
      · have h := (if_neg c10).symm.trans h
        refine J_iload_n 4 dX1_settlingSign_29 rfl ?_
        refine J_istore_n (i := 1) (ls' := [(1, .int l3), (4, .int r7), (0, .ref 322), (2, .int l2), (3, .int l3)]) dX1_settlingSign_30 rfl (by decide) rfl ?_
        refine J_iload 1 dX1_settlingSign_31 rfl ?_
        refine J_istore_n (i := 2) (ls' := [(2, .int r7), (1, .int l3), (4, .int r7), (0, .ref 322), (3, .int l3)]) dX1_settlingSign_33 rfl (by decide) rfl ?_
        refine J_pick [3, 1, 0, 4] rfl ?_
        exact t_X1_settlingSign_34 ih _ _ _ _ _  h
set_option maxRecDepth 20000 in
set_option maxHeartbeats 4000000 in
theorem t_X1_settlingSign  {σ : jM} {r : Int32 × jM}  (h : f_X1_settlingSign  σ = some r) : J mi_X1_settlingSign 3 0 0 (jqI r) 0 [(0, .ref 322)] [] (ms σ) := by
  unfold f_X1_settlingSign at h
  refine J_iconst (v := 0) dX1_settlingSign_0 (by decide) ?_
  refine J_istore_n (i := 1) (ls' := [(1, .int 0), (0, .ref 322)]) dX1_settlingSign_1 rfl (by decide) rfl ?_
  refine J_aload_n 1 dX1_settlingSign_2 rfl ?_
  refine J_iconst (v := 0) dX1_settlingSign_3 (by decide) ?_
  obtain ⟨r11, σ12, h13, h⟩ := bd_inv h
  refine M_callVI (d' := 2) (k := 322) (As := [.int 0]) (st := []) cv_X1_61 dX1_settlingSign_4 rfl (by decide) rfl (Nat.le_of_ble_eq_true rfl) (Nat.le_of_ble_eq_true rfl) (by decide) n_322 k_322 rfl rfl (t_X1_mostAgreeing  h13) ?_
  refine J_istore_n (i := 2) (ls' := [(2, .int r11), (1, .int 0), (0, .ref 322)]) dX1_settlingSign_7 rfl (by decide) rfl ?_
  refine J_iconst (v := 1) dX1_settlingSign_8 (by decide) ?_
  refine J_istore_n (i := 3) (ls' := [(3, .int 1), (2, .int r11), (1, .int 0), (0, .ref 322)]) dX1_settlingSign_9 rfl (by decide) rfl ?_
  refine J_pick [3, 2, 1, 0] rfl ?_
  exact t_X1_settlingSign_10  _ _ _ _ _ _  h
theorem dX1_countPlaces_0 : decode cX1_countPlaces 0 = .ok (.aload_n 0, 1) := by decide +kernel
theorem dX1_countPlaces_1 : decode cX1_countPlaces 1 = .ok (.getfield 30, 3) := by decide +kernel
theorem dX1_countPlaces_4 : decode cX1_countPlaces 4 = .ok (.ifCond .eq 4, 3) := by decide +kernel
theorem dX1_countPlaces_7 : decode cX1_countPlaces 7 = .ok (.return_, 1) := by decide +kernel
theorem dX1_countPlaces_8 : decode cX1_countPlaces 8 = .ok (.aload_n 0, 1) := by decide +kernel
theorem dX1_countPlaces_9 : decode cX1_countPlaces 9 = .ok (.iconst 1, 1) := by decide +kernel
theorem dX1_countPlaces_10 : decode cX1_countPlaces 10 = .ok (.putfield 30, 3) := by decide +kernel
theorem dX1_countPlaces_13 : decode cX1_countPlaces 13 = .ok (.aload_n 0, 1) := by decide +kernel
theorem dX1_countPlaces_14 : decode cX1_countPlaces 14 = .ok (.getfield 11, 3) := by decide +kernel
theorem dX1_countPlaces_17 : decode cX1_countPlaces 17 = .ok (.iconst 0, 1) := by decide +kernel
theorem dX1_countPlaces_18 : decode cX1_countPlaces 18 = .ok (.invokestatic 90, 3) := by decide +kernel
theorem dX1_countPlaces_21 : decode cX1_countPlaces 21 = .ok (.iconst 0, 1) := by decide +kernel
theorem dX1_countPlaces_22 : decode cX1_countPlaces 22 = .ok (.istore_n 1, 1) := by decide +kernel
theorem dX1_countPlaces_23 : decode cX1_countPlaces 23 = .ok (.iload_n 1, 1) := by decide +kernel
theorem dX1_countPlaces_24 : decode cX1_countPlaces 24 = .ok (.aload_n 0, 1) := by decide +kernel
theorem dX1_countPlaces_25 : decode cX1_countPlaces 25 = .ok (.getfield 15, 3) := by decide +kernel
theorem dX1_countPlaces_28 : decode cX1_countPlaces 28 = .ok (.getfield 96, 3) := by decide +kernel
theorem dX1_countPlaces_31 : decode cX1_countPlaces 31 = .ok (.if_icmp .ge 33, 3) := by decide +kernel
theorem dX1_countPlaces_34 : decode cX1_countPlaces 34 = .ok (.aload_n 0, 1) := by decide +kernel
theorem dX1_countPlaces_35 : decode cX1_countPlaces 35 = .ok (.getfield 15, 3) := by decide +kernel
theorem dX1_countPlaces_38 : decode cX1_countPlaces 38 = .ok (.iload_n 1, 1) := by decide +kernel
theorem dX1_countPlaces_39 : decode cX1_countPlaces 39 = .ok (.invokevirtual 99, 3) := by decide +kernel
theorem dX1_countPlaces_42 : decode cX1_countPlaces 42 = .ok (.ifCond .eq 16, 3) := by decide +kernel
theorem dX1_countPlaces_45 : decode cX1_countPlaces 45 = .ok (.aload_n 0, 1) := by decide +kernel
theorem dX1_countPlaces_46 : decode cX1_countPlaces 46 = .ok (.aload_n 0, 1) := by decide +kernel
theorem dX1_countPlaces_47 : decode cX1_countPlaces 47 = .ok (.getfield 15, 3) := by decide +kernel
theorem dX1_countPlaces_50 : decode cX1_countPlaces 50 = .ok (.getfield 102, 3) := by decide +kernel
theorem dX1_countPlaces_53 : decode cX1_countPlaces 53 = .ok (.iload_n 1, 1) := by decide +kernel
theorem dX1_countPlaces_54 : decode cX1_countPlaces 54 = .ok (.aaload, 1) := by decide +kernel
theorem dX1_countPlaces_55 : decode cX1_countPlaces 55 = .ok (.invokevirtual 106, 3) := by decide +kernel
theorem dX1_countPlaces_58 : decode cX1_countPlaces 58 = .ok (.iinc 1 1, 3) := by decide +kernel
theorem dX1_countPlaces_61 : decode cX1_countPlaces 61 = .ok (.goto (-38), 3) := by decide +kernel
theorem dX1_countPlaces_64 : decode cX1_countPlaces 64 = .ok (.return_, 1) := by decide +kernel
noncomputable def f_X1_countPlaces_58 (rec23 : Int32 → jM → Option (Unit × jM)) (l1 : Int32) (σ : jM) : Option (Unit × jM) :=
  rec23 (l1 + 1) σ
noncomputable def s_X1_countPlaces_23  (rec23 : Int32 → jM → Option (Unit × jM)) (l1 : Int32) (σ : jM) : Option (Unit × jM) :=
  (if (rI σ 3 2) ≤ l1 then some ((), σ) else bd (f_X0_tabletCounts l1 σ) (fun r3 σ4 => (if r3 = 0 then f_X1_countPlaces_58 rec23 l1 σ4 else gd (inb l1 24) (bd (f_X1_countPlacesOf (Int32.toNatClampNeg l1) σ4) (fun _ σ9 => f_X1_countPlaces_58 rec23 l1 σ9)))))
noncomputable def f_X1_countPlaces_23  (n : Nat) : Int32 → jM → Option (Unit × jM) := Nat.rec (motive := fun _ => Int32 → jM → Option (Unit × jM)) (fun _ _ => none) (fun _ q => s_X1_countPlaces_23  q) n
noncomputable def f_X1_countPlaces  (σ : jM) : Option (Unit × jM) :=
  (if (rI σ 322 7) = 0 then bd (f_J7_fill_53178 323 0 (wI σ 322 7 1)) (fun _ σ22 => f_X1_countPlaces_23  Fu 0 σ22) else some ((), σ))
set_option maxRecDepth 20000 in
set_option maxHeartbeats 4000000 in
theorem t_X1_countPlaces_58 {rec23 : Int32 → jM → Option (Unit × jM)} (hrec23 : ∀ (l1 : Int32) (σ : jM) (r : Unit × jM), rec23 l1 σ = some r → J mi_X1_countPlaces 3 0 0 (jqV r) 23 [(0, .ref 322), (1, .int l1)] [] (ms σ)) (l1 : Int32) (σ : jM) (r : Unit × jM)  (h : f_X1_countPlaces_58 rec23 l1 σ = some r) : J mi_X1_countPlaces 3 0 0 (jqV r) 58 [(0, .ref 322), (1, .int l1)] [] (ms σ) := by
  unfold f_X1_countPlaces_58 at h
  refine J_iinc (v := (l1 + 1)) (ls' := [(1, .int (l1 + 1)), (0, .ref 322)]) 1 dX1_countPlaces_58 rfl rfl (by decide) rfl ?_
  refine J_goto (tgt := 23) dX1_countPlaces_61 (by decide) ?_
  refine J_pick [1, 0] rfl ?_
  exact hrec23 _ _ _  h
set_option maxRecDepth 20000 in
set_option maxHeartbeats 4000000 in
theorem t_X1_countPlaces_23  : ∀ (n : Nat) (l1 : Int32) (σ : jM) (r : Unit × jM), f_X1_countPlaces_23  n l1 σ = some r → J mi_X1_countPlaces 3 0 0 (jqV r) 23 [(0, .ref 322), (1, .int l1)] [] (ms σ) := by
  intro n
  induction n with
  | zero =>
    intro l1 σ r  h
    have h : (none : Option (Unit × jM)) = some r := h
    cases h
  | succ n ih =>
    intro l1 σ r  h
    have h : s_X1_countPlaces_23  (f_X1_countPlaces_23  n) l1 σ = some r := h
    unfold s_X1_countPlaces_23 at h
    refine J_iload_n 1 dX1_countPlaces_23 rfl ?_
    refine J_aload_n 0 dX1_countPlaces_24 rfl ?_
    refine M_getR gf_X1_15_1 dX1_countPlaces_25 (g_322_3 _) k_322 n_322 ?_
    refine M_getI gf_X1_96_0 dX1_countPlaces_28 k_3 n_3 ?_
    refine J_icmp_ge (tgt := 64) dX1_countPlaces_31 (by decide) (fun c11 => ?_) (fun c11 => ?_)
    · have h := (if_pos c11).symm.trans h
      exact J_ret (v := none) rfl ⟨dX1_countPlaces_64, rfl⟩ (jqV_mk h)
    · have h := (if_neg c11).symm.trans h
      refine J_aload_n 0 dX1_countPlaces_34 rfl ?_
      refine M_getR gf_X1_15_1 dX1_countPlaces_35 (g_322_3 _) k_322 n_322 ?_
      refine J_iload_n 1 dX1_countPlaces_38 rfl ?_
      obtain ⟨r12, σ13, h14, h⟩ := bd_inv h
      refine M_callVI (d' := 2) (k := 3) (As := [.int l1]) (st := []) cv_X1_99 dX1_countPlaces_39 rfl (by decide) rfl (Nat.le_of_ble_eq_true rfl) (Nat.le_of_ble_eq_true rfl) (by decide) n_3 k_3 rfl rfl (t_X0_tabletCounts  h14) ?_
      refine J_if_eq (tgt := 58) dX1_countPlaces_42 (by decide) (fun c15 => ?_) (fun c15 => ?_)
      · have h := (if_pos c15).symm.trans h
        exact t_X1_countPlaces_58 ih _ _ _  h
      · have h := (if_neg c15).symm.trans h
        refine J_aload_n 0 dX1_countPlaces_45 rfl ?_
        refine J_aload_n 0 dX1_countPlaces_46 rfl ?_
        refine M_getR gf_X1_15_1 dX1_countPlaces_47 (g_322_3 _) k_322 n_322 ?_
        refine M_getR gf_X1_102_0 dX1_countPlaces_50 (g_3_1 _) k_3 n_3 ?_
        refine J_iload_n 1 dX1_countPlaces_53 rfl ?_
        obtain ⟨g16, h⟩ := gd_inv h
        refine M_aald dX1_countPlaces_54 a_4 (by decide) n_4 g16 (r_tab _ g16.2) ?_
        obtain ⟨_, σ18, h19, h⟩ := bd_inv h
        refine M_callVV (d' := 2) (k := 322) (As := [.ref (tabX (Int32.toNatClampNeg l1))]) (st := []) cv_X1_106 dX1_countPlaces_55 rfl (by decide) rfl (Nat.le_of_ble_eq_true rfl) (Nat.le_of_ble_eq_true rfl) (by decide) n_322 k_322 rfl rfl (t_X1_countPlacesOf g16.2 h19) ?_
        exact t_X1_countPlaces_58 ih _ _ _  h
set_option maxRecDepth 20000 in
set_option maxHeartbeats 4000000 in
theorem t_X1_countPlaces  {σ : jM} {r : Unit × jM}  (h : f_X1_countPlaces  σ = some r) : J mi_X1_countPlaces 3 0 0 (jqV r) 0 [(0, .ref 322)] [] (ms σ) := by
  unfold f_X1_countPlaces at h
  refine J_aload_n 0 dX1_countPlaces_0 rfl ?_
  refine M_getI gf_X1_30_1 dX1_countPlaces_1 k_322 n_322 ?_
  refine J_if_eq (tgt := 8) dX1_countPlaces_4 (by decide) (fun c20 => ?_) (fun c20 => ?_)
  · have h := (if_pos c20).symm.trans h
    refine J_aload_n 0 dX1_countPlaces_8 rfl ?_
    refine J_iconst (v := 1) dX1_countPlaces_9 (by decide) ?_
    refine M_putI pf_X1_30_1 dX1_countPlaces_10 k_322 n_322 (jbool (Or.inr rfl)) ?_
    refine J_aload_n 0 dX1_countPlaces_13 rfl ?_
    refine M_getR gf_X1_11_1 dX1_countPlaces_14 (g_322_2 _) k_322 n_322 ?_
    refine J_iconst (v := 0) dX1_countPlaces_17 (by decide) ?_
    obtain ⟨_, σ22, h23, h⟩ := bd_inv h
    refine M_callSV (d' := 1) (As := [.ref 323, .int 0]) (st := []) cs_X1_90 dX1_countPlaces_18 rfl (Nat.le_of_ble_eq_true rfl) (Nat.le_of_ble_eq_true rfl) (by decide) rfl rfl (t_J7_fill_53178 ⟨congrArg Prod.fst a_323, n_323⟩ h23) ?_
    refine J_iconst (v := 0) dX1_countPlaces_21 (by decide) ?_
    refine J_istore_n (i := 1) (ls' := [(1, .int 0), (0, .ref 322)]) dX1_countPlaces_22 rfl (by decide) rfl ?_
    refine J_pick [1, 0] rfl ?_
    exact t_X1_countPlaces_23  _ _ _ _  h
  · have h := (if_neg c20).symm.trans h
    exact J_ret (v := none) rfl ⟨dX1_countPlaces_7, rfl⟩ (jqV_mk h)
theorem dX1_signRanked_0 : decode cX1_signRanked 0 = .ok (.iconst 0, 1) := by decide +kernel
theorem dX1_signRanked_1 : decode cX1_signRanked 1 = .ok (.istore_n 2, 1) := by decide +kernel
theorem dX1_signRanked_2 : decode cX1_signRanked 2 = .ok (.iload_n 2, 1) := by decide +kernel
theorem dX1_signRanked_3 : decode cX1_signRanked 3 = .ok (.bipush 40, 2) := by decide +kernel
theorem dX1_signRanked_5 : decode cX1_signRanked 5 = .ok (.if_icmp .ge 28, 3) := by decide +kernel
theorem dX1_signRanked_8 : decode cX1_signRanked 8 = .ok (.aload_n 0, 1) := by decide +kernel
theorem dX1_signRanked_9 : decode cX1_signRanked 9 = .ok (.iload_n 2, 1) := by decide +kernel
theorem dX1_signRanked_10 : decode cX1_signRanked 10 = .ok (.invokevirtual 127, 3) := by decide +kernel
theorem dX1_signRanked_13 : decode cX1_signRanked 13 = .ok (.ifCond .eq 14, 3) := by decide +kernel
theorem dX1_signRanked_16 : decode cX1_signRanked 16 = .ok (.aload_n 0, 1) := by decide +kernel
theorem dX1_signRanked_17 : decode cX1_signRanked 17 = .ok (.iload_n 2, 1) := by decide +kernel
theorem dX1_signRanked_18 : decode cX1_signRanked 18 = .ok (.invokevirtual 130, 3) := by decide +kernel
theorem dX1_signRanked_21 : decode cX1_signRanked 21 = .ok (.iload_n 1, 1) := by decide +kernel
theorem dX1_signRanked_22 : decode cX1_signRanked 22 = .ok (.if_icmp .ne 5, 3) := by decide +kernel
theorem dX1_signRanked_25 : decode cX1_signRanked 25 = .ok (.iload_n 2, 1) := by decide +kernel
theorem dX1_signRanked_26 : decode cX1_signRanked 26 = .ok (.ireturn, 1) := by decide +kernel
theorem dX1_signRanked_27 : decode cX1_signRanked 27 = .ok (.iinc 2 1, 3) := by decide +kernel
theorem dX1_signRanked_30 : decode cX1_signRanked 30 = .ok (.goto (-28), 3) := by decide +kernel
theorem dX1_signRanked_33 : decode cX1_signRanked 33 = .ok (.iconst (-1), 1) := by decide +kernel
theorem dX1_signRanked_34 : decode cX1_signRanked 34 = .ok (.ireturn, 1) := by decide +kernel
noncomputable def f_X1_signRanked_27 (rec2 : Int32 → Int32 → jM → Option (Int32 × jM)) (l1 : Int32) (l2 : Int32) (σ : jM) : Option (Int32 × jM) :=
  rec2 l1 (l2 + 1) σ
noncomputable def s_X1_signRanked_2  (rec2 : Int32 → Int32 → jM → Option (Int32 × jM)) (l1 : Int32) (l2 : Int32) (σ : jM) : Option (Int32 × jM) :=
  (if 40 ≤ l2 then some ((-1), σ) else bd (f_X1_isAnywhere l2 σ) (fun r2 σ3 => (if r2 = 0 then f_X1_signRanked_27 rec2 l1 l2 σ3 else bd (f_X1_countAhead l2 σ3) (fun r6 σ7 => (if r6 = l1 then some (l2, σ7) else f_X1_signRanked_27 rec2 l1 l2 σ7)))))
noncomputable def f_X1_signRanked_2  (n : Nat) : Int32 → Int32 → jM → Option (Int32 × jM) := Nat.rec (motive := fun _ => Int32 → Int32 → jM → Option (Int32 × jM)) (fun _ _ _ => none) (fun _ q => s_X1_signRanked_2  q) n
noncomputable def f_X1_signRanked (a1 : Int32) (σ : jM) : Option (Int32 × jM) :=
  f_X1_signRanked_2  Fu a1 0 σ
set_option maxRecDepth 20000 in
set_option maxHeartbeats 4000000 in
theorem t_X1_signRanked_27 {rec2 : Int32 → Int32 → jM → Option (Int32 × jM)} (hrec2 : ∀ (l1 : Int32) (l2 : Int32) (σ : jM) (r : Int32 × jM), rec2 l1 l2 σ = some r → J mi_X1_signRanked 3 0 0 (jqI r) 2 [(0, .ref 322), (1, .int l1), (2, .int l2)] [] (ms σ)) (l1 : Int32) (l2 : Int32) (σ : jM) (r : Int32 × jM)  (h : f_X1_signRanked_27 rec2 l1 l2 σ = some r) : J mi_X1_signRanked 3 0 0 (jqI r) 27 [(0, .ref 322), (1, .int l1), (2, .int l2)] [] (ms σ) := by
  unfold f_X1_signRanked_27 at h
  refine J_iinc (v := (l2 + 1)) (ls' := [(2, .int (l2 + 1)), (0, .ref 322), (1, .int l1)]) 2 dX1_signRanked_27 rfl rfl (by decide) rfl ?_
  refine J_goto (tgt := 2) dX1_signRanked_30 (by decide) ?_
  refine J_pick [1, 2, 0] rfl ?_
  exact hrec2 _ _ _ _  h
set_option maxRecDepth 20000 in
set_option maxHeartbeats 4000000 in
theorem t_X1_signRanked_2  : ∀ (n : Nat) (l1 : Int32) (l2 : Int32) (σ : jM) (r : Int32 × jM), f_X1_signRanked_2  n l1 l2 σ = some r → J mi_X1_signRanked 3 0 0 (jqI r) 2 [(0, .ref 322), (1, .int l1), (2, .int l2)] [] (ms σ) := by
  intro n
  induction n with
  | zero =>
    intro l1 l2 σ r  h
    have h : (none : Option (Int32 × jM)) = some r := h
    cases h
  | succ n ih =>
    intro l1 l2 σ r  h
    have h : s_X1_signRanked_2  (f_X1_signRanked_2  n) l1 l2 σ = some r := h
    unfold s_X1_signRanked_2 at h
    refine J_iload_n 2 dX1_signRanked_2 rfl ?_
    refine J_bipush (v := 40) dX1_signRanked_3 (by decide) ?_
    refine J_icmp_ge (tgt := 33) dX1_signRanked_5 (by decide) (fun c10 => ?_) (fun c10 => ?_)
    · have h := (if_pos c10).symm.trans h
      refine J_iconst (v := (-1)) dX1_signRanked_33 (by decide) ?_
      exact J_ret (v := some (.int (-1))) rfl ⟨dX1_signRanked_34, Or.inl rfl⟩ (jqI_mk h)
    · have h := (if_neg c10).symm.trans h
      refine J_aload_n 0 dX1_signRanked_8 rfl ?_
      refine J_iload_n 2 dX1_signRanked_9 rfl ?_
      obtain ⟨r11, σ12, h13, h⟩ := bd_inv h
      refine M_callVI (d' := 1) (k := 322) (As := [.int l2]) (st := []) cv_X1_127 dX1_signRanked_10 rfl (by decide) rfl (Nat.le_of_ble_eq_true rfl) (Nat.le_of_ble_eq_true rfl) (by decide) n_322 k_322 rfl rfl (t_X1_isAnywhere  h13) ?_
      refine J_if_eq (tgt := 27) dX1_signRanked_13 (by decide) (fun c14 => ?_) (fun c14 => ?_)
      · have h := (if_pos c14).symm.trans h
        exact t_X1_signRanked_27 ih _ _ _ _  h
      · have h := (if_neg c14).symm.trans h
        refine J_aload_n 0 dX1_signRanked_16 rfl ?_
        refine J_iload_n 2 dX1_signRanked_17 rfl ?_
        obtain ⟨r15, σ16, h17, h⟩ := bd_inv h
        refine M_callVI (d' := 2) (k := 322) (As := [.int l2]) (st := []) cv_X1_130 dX1_signRanked_18 rfl (by decide) rfl (Nat.le_of_ble_eq_true rfl) (Nat.le_of_ble_eq_true rfl) (by decide) n_322 k_322 rfl rfl (t_X1_countAhead  h17) ?_
        refine J_iload_n 1 dX1_signRanked_21 rfl ?_
        refine J_icmp_ne (tgt := 27) dX1_signRanked_22 (by decide) (fun c18 => ?_) (fun c18 => ?_)
        · have h := (if_neg c18).symm.trans h
          exact t_X1_signRanked_27 ih _ _ _ _  h
        · have h := (if_pos c18).symm.trans h
          refine J_iload_n 2 dX1_signRanked_25 rfl ?_
          exact J_ret (v := some (.int l2)) rfl ⟨dX1_signRanked_26, Or.inl rfl⟩ (jqI_mk h)
set_option maxRecDepth 20000 in
set_option maxHeartbeats 4000000 in
theorem t_X1_signRanked {a1 : Int32} {σ : jM} {r : Int32 × jM}  (h : f_X1_signRanked a1 σ = some r) : J mi_X1_signRanked 3 0 0 (jqI r) 0 [(0, .ref 322), (1, .int a1)] [] (ms σ) := by
  unfold f_X1_signRanked at h
  refine J_iconst (v := 0) dX1_signRanked_0 (by decide) ?_
  refine J_istore_n (i := 2) (ls' := [(2, .int 0), (0, .ref 322), (1, .int a1)]) dX1_signRanked_1 rfl (by decide) rfl ?_
  refine J_pick [1, 2, 0] rfl ?_
  exact t_X1_signRanked_2  _ _ _ _ _  h
theorem dX2_weighAll_0 : decode cX2_weighAll 0 = .ok (.lload_n 2, 1) := by decide +kernel
theorem dX2_weighAll_1 : decode cX2_weighAll 1 = .ok (.lconst 0, 1) := by decide +kernel
theorem dX2_weighAll_2 : decode cX2_weighAll 2 = .ok (.lcmp, 1) := by decide +kernel
theorem dX2_weighAll_3 : decode cX2_weighAll 3 = .ok (.ifCond .ne 4, 3) := by decide +kernel
theorem dX2_weighAll_6 : decode cX2_weighAll 6 = .ok (.return_, 1) := by decide +kernel
theorem dX2_weighAll_7 : decode cX2_weighAll 7 = .ok (.aload_n 0, 1) := by decide +kernel
theorem dX2_weighAll_8 : decode cX2_weighAll 8 = .ok (.iconst 0, 1) := by decide +kernel
theorem dX2_weighAll_9 : decode cX2_weighAll 9 = .ok (.iload_n 1, 1) := by decide +kernel
theorem dX2_weighAll_10 : decode cX2_weighAll 10 = .ok (.invokevirtual 70, 3) := by decide +kernel
theorem dX2_weighAll_13 : decode cX2_weighAll 13 = .ok (.aload_n 0, 1) := by decide +kernel
theorem dX2_weighAll_14 : decode cX2_weighAll 14 = .ok (.iconst 1, 1) := by decide +kernel
theorem dX2_weighAll_15 : decode cX2_weighAll 15 = .ok (.iload_n 1, 1) := by decide +kernel
theorem dX2_weighAll_16 : decode cX2_weighAll 16 = .ok (.invokevirtual 70, 3) := by decide +kernel
theorem dX2_weighAll_19 : decode cX2_weighAll 19 = .ok (.iload_n 1, 1) := by decide +kernel
theorem dX2_weighAll_20 : decode cX2_weighAll 20 = .ok (.iconst 1, 1) := by decide +kernel
theorem dX2_weighAll_21 : decode cX2_weighAll 21 = .ok (.iadd, 1) := by decide +kernel
theorem dX2_weighAll_22 : decode cX2_weighAll 22 = .ok (.istore 4, 2) := by decide +kernel
theorem dX2_weighAll_24 : decode cX2_weighAll 24 = .ok (.iload 4, 2) := by decide +kernel
theorem dX2_weighAll_26 : decode cX2_weighAll 26 = .ok (.bipush 40, 2) := by decide +kernel
theorem dX2_weighAll_28 : decode cX2_weighAll 28 = .ok (.if_icmp .ge 25, 3) := by decide +kernel
theorem dX2_weighAll_31 : decode cX2_weighAll 31 = .ok (.lload_n 2, 1) := by decide +kernel
theorem dX2_weighAll_32 : decode cX2_weighAll 32 = .ok (.iload 4, 2) := by decide +kernel
theorem dX2_weighAll_34 : decode cX2_weighAll 34 = .ok (.invokestatic 74, 3) := by decide +kernel
theorem dX2_weighAll_37 : decode cX2_weighAll 37 = .ok (.ifCond .eq 10, 3) := by decide +kernel
theorem dX2_weighAll_40 : decode cX2_weighAll 40 = .ok (.aload_n 0, 1) := by decide +kernel
theorem dX2_weighAll_41 : decode cX2_weighAll 41 = .ok (.iload_n 1, 1) := by decide +kernel
theorem dX2_weighAll_42 : decode cX2_weighAll 42 = .ok (.iload 4, 2) := by decide +kernel
theorem dX2_weighAll_44 : decode cX2_weighAll 44 = .ok (.invokevirtual 78, 3) := by decide +kernel
theorem dX2_weighAll_47 : decode cX2_weighAll 47 = .ok (.iinc 4 1, 3) := by decide +kernel
theorem dX2_weighAll_50 : decode cX2_weighAll 50 = .ok (.goto (-26), 3) := by decide +kernel
theorem dX2_weighAll_53 : decode cX2_weighAll 53 = .ok (.return_, 1) := by decide +kernel
noncomputable def f_X2_weighAll_47 (rec24 : Int32 → Int64 → Int32 → jM → Option (Unit × jM)) (l1 : Int32) (l2 : Int64) (l4 : Int32) (σ : jM) : Option (Unit × jM) :=
  rec24 l1 l2 (l4 + 1) σ
noncomputable def s_X2_weighAll_24  (rec24 : Int32 → Int64 → Int32 → jM → Option (Unit × jM)) (l1 : Int32) (l2 : Int64) (l4 : Int32) (σ : jM) : Option (Unit × jM) :=
  (if 40 ≤ l4 then some ((), σ) else bd (f_X12_has l2 l4 σ) (fun r2 σ3 => (if r2 = 0 then f_X2_weighAll_47 rec24 l1 l2 l4 σ3 else bd (f_X2_weigh l1 l4 σ3) (fun _ σ7 => f_X2_weighAll_47 rec24 l1 l2 l4 σ7))))
noncomputable def f_X2_weighAll_24  (n : Nat) : Int32 → Int64 → Int32 → jM → Option (Unit × jM) := Nat.rec (motive := fun _ => Int32 → Int64 → Int32 → jM → Option (Unit × jM)) (fun _ _ _ _ => none) (fun _ q => s_X2_weighAll_24  q) n
noncomputable def f_X2_weighAll (a1 : Int32) (a2 : Int64) (σ : jM) : Option (Unit × jM) :=
  (if (lg_cmp a2 0) = 0 then some ((), σ) else bd (f_X2_measure 0 a1 σ) (fun _ σ19 => bd (f_X2_measure 1 a1 σ19) (fun _ σ22 => f_X2_weighAll_24  Fu a1 a2 (a1 + 1) σ22)))
set_option maxRecDepth 20000 in
set_option maxHeartbeats 4000000 in
theorem t_X2_weighAll_47 {rec24 : Int32 → Int64 → Int32 → jM → Option (Unit × jM)} (hrec24 : ∀ (l1 : Int32) (l2 : Int64) (l4 : Int32) (σ : jM) (r : Unit × jM), rec24 l1 l2 l4 σ = some r → J mi_X2_weighAll 4 0 0 (jqV r) 24 [(0, .ref 289), (1, .int l1), (2, .long l2), (4, .int l4)] [] (ms σ)) (l1 : Int32) (l2 : Int64) (l4 : Int32) (σ : jM) (r : Unit × jM)  (h : f_X2_weighAll_47 rec24 l1 l2 l4 σ = some r) : J mi_X2_weighAll 4 0 0 (jqV r) 47 [(0, .ref 289), (1, .int l1), (2, .long l2), (4, .int l4)] [] (ms σ) := by
  unfold f_X2_weighAll_47 at h
  refine J_iinc (v := (l4 + 1)) (ls' := [(4, .int (l4 + 1)), (0, .ref 289), (1, .int l1), (2, .long l2)]) 3 dX2_weighAll_47 rfl rfl (by decide) rfl ?_
  refine J_goto (tgt := 24) dX2_weighAll_50 (by decide) ?_
  refine J_pick [1, 2, 3, 0] rfl ?_
  exact hrec24 _ _ _ _ _  h
set_option maxRecDepth 20000 in
set_option maxHeartbeats 4000000 in
theorem t_X2_weighAll_24  : ∀ (n : Nat) (l1 : Int32) (l2 : Int64) (l4 : Int32) (σ : jM) (r : Unit × jM), f_X2_weighAll_24  n l1 l2 l4 σ = some r → J mi_X2_weighAll 4 0 0 (jqV r) 24 [(0, .ref 289), (1, .int l1), (2, .long l2), (4, .int l4)] [] (ms σ) := by
  intro n
  induction n with
  | zero =>
    intro l1 l2 l4 σ r  h
    have h : (none : Option (Unit × jM)) = some r := h
    cases h
  | succ n ih =>
    intro l1 l2 l4 σ r  h
    have h : s_X2_weighAll_24  (f_X2_weighAll_24  n) l1 l2 l4 σ = some r := h
    unfold s_X2_weighAll_24 at h
    refine J_iload 3 dX2_weighAll_24 rfl ?_
    refine J_bipush (v := 40) dX2_weighAll_26 (by decide) ?_
    refine J_icmp_ge (tgt := 53) dX2_weighAll_28 (by decide) (fun c9 => ?_) (fun c9 => ?_)
    · have h := (if_pos c9).symm.trans h
      exact J_ret (v := none) rfl ⟨dX2_weighAll_53, rfl⟩ (jqV_mk h)
    · have h := (if_neg c9).symm.trans h
      refine J_lload_n 2 dX2_weighAll_31 rfl ?_
      refine J_iload 3 dX2_weighAll_32 rfl ?_
      obtain ⟨r10, σ11, h12, h⟩ := bd_inv h
      refine M_callNI (d' := 1) (As := [.long l2, .int l4]) (st := []) cn_X2_74 dX2_weighAll_34 rfl (Nat.le_of_ble_eq_true rfl) (Nat.le_of_ble_eq_true rfl) (by decide) rfl rfl (t_X12_has  h12) ?_
      refine J_if_eq (tgt := 47) dX2_weighAll_37 (by decide) (fun c13 => ?_) (fun c13 => ?_)
      · have h := (if_pos c13).symm.trans h
        exact t_X2_weighAll_47 ih _ _ _ _ _  h
      · have h := (if_neg c13).symm.trans h
        refine J_aload_n 0 dX2_weighAll_40 rfl ?_
        refine J_iload_n 1 dX2_weighAll_41 rfl ?_
        refine J_iload 3 dX2_weighAll_42 rfl ?_
        obtain ⟨_, σ15, h16, h⟩ := bd_inv h
        refine M_callVV (d' := 2) (k := 289) (As := [.int l1, .int l4]) (st := []) cv_X2_78 dX2_weighAll_44 rfl (by decide) rfl (Nat.le_of_ble_eq_true rfl) (Nat.le_of_ble_eq_true rfl) (by decide) n_289 k_289 rfl rfl (t_X2_weigh  h16) ?_
        exact t_X2_weighAll_47 ih _ _ _ _ _  h
set_option maxRecDepth 20000 in
set_option maxHeartbeats 4000000 in
theorem t_X2_weighAll {a1 : Int32} {a2 : Int64} {σ : jM} {r : Unit × jM}  (h : f_X2_weighAll a1 a2 σ = some r) : J mi_X2_weighAll 4 0 0 (jqV r) 0 [(0, .ref 289), (1, .int a1), (2, .long a2)] [] (ms σ) := by
  unfold f_X2_weighAll at h
  refine J_lload_n 2 dX2_weighAll_0 rfl ?_
  refine J_lconst (v := 0) dX2_weighAll_1 (by decide) ?_
  refine J_lcmp dX2_weighAll_2 ?_
  refine J_if_ne (tgt := 7) dX2_weighAll_3 (by decide) (fun c17 => ?_) (fun c17 => ?_)
  · have h := (if_neg c17).symm.trans h
    refine J_aload_n 0 dX2_weighAll_7 rfl ?_
    refine J_iconst (v := 0) dX2_weighAll_8 (by decide) ?_
    refine J_iload_n 1 dX2_weighAll_9 rfl ?_
    obtain ⟨_, σ19, h20, h⟩ := bd_inv h
    refine M_callVV (d' := 3) (k := 289) (As := [.int 0, .int a1]) (st := []) cv_X2_70 dX2_weighAll_10 rfl (by decide) rfl (Nat.le_of_ble_eq_true rfl) (Nat.le_of_ble_eq_true rfl) (by decide) n_289 k_289 rfl rfl (t_X2_measure  h20) ?_
    refine J_aload_n 0 dX2_weighAll_13 rfl ?_
    refine J_iconst (v := 1) dX2_weighAll_14 (by decide) ?_
    refine J_iload_n 1 dX2_weighAll_15 rfl ?_
    obtain ⟨_, σ22, h23, h⟩ := bd_inv h
    refine M_callVV (d' := 3) (k := 289) (As := [.int 1, .int a1]) (st := []) cv_X2_70 dX2_weighAll_16 rfl (by decide) rfl (Nat.le_of_ble_eq_true rfl) (Nat.le_of_ble_eq_true rfl) (by decide) n_289 k_289 rfl rfl (t_X2_measure  h23) ?_
    refine J_iload_n 1 dX2_weighAll_19 rfl ?_
    refine J_iconst (v := 1) dX2_weighAll_20 (by decide) ?_
    refine J_iadd dX2_weighAll_21 ?_
    refine J_istore (i := 4) (ls' := [(4, .int (a1 + 1)), (0, .ref 289), (1, .int a1), (2, .long a2)]) dX2_weighAll_22 (by decide) rfl ?_
    refine J_pick [1, 2, 3, 0] rfl ?_
    exact t_X2_weighAll_24  _ _ _ _ _ _  h
  · have h := (if_pos c17).symm.trans h
    exact J_ret (v := none) rfl ⟨dX2_weighAll_6, rfl⟩ (jqV_mk h)
theorem dX2_trace_0 : decode cX2_trace 0 = .ok (.aload_n 0, 1) := by decide +kernel
theorem dX2_trace_1 : decode cX2_trace 1 = .ok (.iload_n 1, 1) := by decide +kernel
theorem dX2_trace_2 : decode cX2_trace 2 = .ok (.aload_n 0, 1) := by decide +kernel
theorem dX2_trace_3 : decode cX2_trace 3 = .ok (.getfield 95, 3) := by decide +kernel
theorem dX2_trace_6 : decode cX2_trace 6 = .ok (.invokevirtual 70, 3) := by decide +kernel
theorem dX2_trace_9 : decode cX2_trace 9 = .ok (.aload_n 0, 1) := by decide +kernel
theorem dX2_trace_10 : decode cX2_trace 10 = .ok (.getfield 92, 3) := by decide +kernel
theorem dX2_trace_13 : decode cX2_trace 13 = .ok (.istore_n 2, 1) := by decide +kernel
theorem dX2_trace_14 : decode cX2_trace 14 = .ok (.aload_n 0, 1) := by decide +kernel
theorem dX2_trace_15 : decode cX2_trace 15 = .ok (.getfield 23, 3) := by decide +kernel
theorem dX2_trace_18 : decode cX2_trace 18 = .ok (.iload_n 1, 1) := by decide +kernel
theorem dX2_trace_19 : decode cX2_trace 19 = .ok (.aaload, 1) := by decide +kernel
theorem dX2_trace_20 : decode cX2_trace 20 = .ok (.aload_n 0, 1) := by decide +kernel
theorem dX2_trace_21 : decode cX2_trace 21 = .ok (.getfield 92, 3) := by decide +kernel
theorem dX2_trace_24 : decode cX2_trace 24 = .ok (.iaload, 1) := by decide +kernel
theorem dX2_trace_25 : decode cX2_trace 25 = .ok (.iconst 1, 1) := by decide +kernel
theorem dX2_trace_26 : decode cX2_trace 26 = .ok (.isub, 1) := by decide +kernel
theorem dX2_trace_27 : decode cX2_trace 27 = .ok (.istore_n 3, 1) := by decide +kernel
theorem dX2_trace_28 : decode cX2_trace 28 = .ok (.iload_n 3, 1) := by decide +kernel
theorem dX2_trace_29 : decode cX2_trace 29 = .ok (.ifCond .lt 78, 3) := by decide +kernel
theorem dX2_trace_32 : decode cX2_trace 32 = .ok (.aload_n 0, 1) := by decide +kernel
theorem dX2_trace_33 : decode cX2_trace 33 = .ok (.getfield 38, 3) := by decide +kernel
theorem dX2_trace_36 : decode cX2_trace 36 = .ok (.bipush 80, 2) := by decide +kernel
theorem dX2_trace_38 : decode cX2_trace 38 = .ok (.if_icmp .ge 69, 3) := by decide +kernel
theorem dX2_trace_41 : decode cX2_trace 41 = .ok (.aload_n 0, 1) := by decide +kernel
theorem dX2_trace_42 : decode cX2_trace 42 = .ok (.iload_n 1, 1) := by decide +kernel
theorem dX2_trace_43 : decode cX2_trace 43 = .ok (.iload_n 2, 1) := by decide +kernel
theorem dX2_trace_44 : decode cX2_trace 44 = .ok (.iload_n 3, 1) := by decide +kernel
theorem dX2_trace_45 : decode cX2_trace 45 = .ok (.invokevirtual 111, 3) := by decide +kernel
theorem dX2_trace_48 : decode cX2_trace 48 = .ok (.istore 4, 2) := by decide +kernel
theorem dX2_trace_50 : decode cX2_trace 50 = .ok (.iload 4, 2) := by decide +kernel
theorem dX2_trace_52 : decode cX2_trace 52 = .ok (.iconst (-1), 1) := by decide +kernel
theorem dX2_trace_53 : decode cX2_trace 53 = .ok (.if_icmp .ne 4, 3) := by decide +kernel
theorem dX2_trace_56 : decode cX2_trace 56 = .ok (.return_, 1) := by decide +kernel
theorem dX2_trace_57 : decode cX2_trace 57 = .ok (.aload_n 0, 1) := by decide +kernel
theorem dX2_trace_58 : decode cX2_trace 58 = .ok (.getfield 11, 3) := by decide +kernel
theorem dX2_trace_61 : decode cX2_trace 61 = .ok (.aload_n 0, 1) := by decide +kernel
theorem dX2_trace_62 : decode cX2_trace 62 = .ok (.getfield 38, 3) := by decide +kernel
theorem dX2_trace_65 : decode cX2_trace 65 = .ok (.iload_n 1, 1) := by decide +kernel
theorem dX2_trace_66 : decode cX2_trace 66 = .ok (.iastore, 1) := by decide +kernel
theorem dX2_trace_67 : decode cX2_trace 67 = .ok (.aload_n 0, 1) := by decide +kernel
theorem dX2_trace_68 : decode cX2_trace 68 = .ok (.getfield 15, 3) := by decide +kernel
theorem dX2_trace_71 : decode cX2_trace 71 = .ok (.aload_n 0, 1) := by decide +kernel
theorem dX2_trace_72 : decode cX2_trace 72 = .ok (.getfield 38, 3) := by decide +kernel
theorem dX2_trace_75 : decode cX2_trace 75 = .ok (.iload_n 2, 1) := by decide +kernel
theorem dX2_trace_76 : decode cX2_trace 76 = .ok (.iastore, 1) := by decide +kernel
theorem dX2_trace_77 : decode cX2_trace 77 = .ok (.aload_n 0, 1) := by decide +kernel
theorem dX2_trace_78 : decode cX2_trace 78 = .ok (.getfield 18, 3) := by decide +kernel
theorem dX2_trace_81 : decode cX2_trace 81 = .ok (.aload_n 0, 1) := by decide +kernel
theorem dX2_trace_82 : decode cX2_trace 82 = .ok (.getfield 38, 3) := by decide +kernel
theorem dX2_trace_85 : decode cX2_trace 85 = .ok (.iload 4, 2) := by decide +kernel
theorem dX2_trace_87 : decode cX2_trace 87 = .ok (.iastore, 1) := by decide +kernel
theorem dX2_trace_88 : decode cX2_trace 88 = .ok (.aload_n 0, 1) := by decide +kernel
theorem dX2_trace_89 : decode cX2_trace 89 = .ok (.dup, 1) := by decide +kernel
theorem dX2_trace_90 : decode cX2_trace 90 = .ok (.getfield 38, 3) := by decide +kernel
theorem dX2_trace_93 : decode cX2_trace 93 = .ok (.iconst 1, 1) := by decide +kernel
theorem dX2_trace_94 : decode cX2_trace 94 = .ok (.iadd, 1) := by decide +kernel
theorem dX2_trace_95 : decode cX2_trace 95 = .ok (.putfield 38, 3) := by decide +kernel
theorem dX2_trace_98 : decode cX2_trace 98 = .ok (.iload 4, 2) := by decide +kernel
theorem dX2_trace_100 : decode cX2_trace 100 = .ok (.istore_n 2, 1) := by decide +kernel
theorem dX2_trace_101 : decode cX2_trace 101 = .ok (.iinc 3 (-1), 3) := by decide +kernel
theorem dX2_trace_104 : decode cX2_trace 104 = .ok (.goto (-76), 3) := by decide +kernel
theorem dX2_trace_107 : decode cX2_trace 107 = .ok (.return_, 1) := by decide +kernel
noncomputable def f_X2_trace_107   (σ : jM) : Option (Unit × jM) :=
  some ((), σ)
noncomputable def s_X2_trace_28  (rec28 : Int32 → Int32 → Int32 → jM → Option (Unit × jM)) (l1 : Int32) (l2 : Int32) (l3 : Int32) (σ : jM) : Option (Unit × jM) :=
  (if l3 < 0 then f_X2_trace_107   σ else (if 80 ≤ (rI σ 289 5) then f_X2_trace_107   σ else bd (f_X2_nearer l1 l2 l3 σ) (fun r8 σ9 => (if r8 = (-1) then some ((), σ9) else gd (inb (rI σ9 289 5) 80) (gd (inb (rI (wI σ9 290 (Int32.toNatClampNeg (rI σ9 289 5)) l1) 289 5) 80) (gd (inb (rI (wI (wI σ9 290 (Int32.toNatClampNeg (rI σ9 289 5)) l1) 291 (Int32.toNatClampNeg (rI (wI σ9 290 (Int32.toNatClampNeg (rI σ9 289 5)) l1) 289 5)) l2) 289 5) 80) (rec28 l1 r8 (l3 + (-1)) (wI (wI (wI (wI σ9 290 (Int32.toNatClampNeg (rI σ9 289 5)) l1) 291 (Int32.toNatClampNeg (rI (wI σ9 290 (Int32.toNatClampNeg (rI σ9 289 5)) l1) 289 5)) l2) 292 (Int32.toNatClampNeg (rI (wI (wI σ9 290 (Int32.toNatClampNeg (rI σ9 289 5)) l1) 291 (Int32.toNatClampNeg (rI (wI σ9 290 (Int32.toNatClampNeg (rI σ9 289 5)) l1) 289 5)) l2) 289 5)) r8) 289 5 ((rI (wI (wI (wI σ9 290 (Int32.toNatClampNeg (rI σ9 289 5)) l1) 291 (Int32.toNatClampNeg (rI (wI σ9 290 (Int32.toNatClampNeg (rI σ9 289 5)) l1) 289 5)) l2) 292 (Int32.toNatClampNeg (rI (wI (wI σ9 290 (Int32.toNatClampNeg (rI σ9 289 5)) l1) 291 (Int32.toNatClampNeg (rI (wI σ9 290 (Int32.toNatClampNeg (rI σ9 289 5)) l1) 289 5)) l2) 289 5)) r8) 289 5) + 1)))))))))
noncomputable def f_X2_trace_28  (n : Nat) : Int32 → Int32 → Int32 → jM → Option (Unit × jM) := Nat.rec (motive := fun _ => Int32 → Int32 → Int32 → jM → Option (Unit × jM)) (fun _ _ _ _ => none) (fun _ q => s_X2_trace_28  q) n
noncomputable def f_X2_trace (a1 : Int32) (σ : jM) : Option (Unit × jM) :=
  bd (f_X2_measure a1 (rI σ 289 2) σ) (fun _ σ25 => gd (inb a1 2) (gd (inb (rI σ25 289 1) 40) (f_X2_trace_28  Fu a1 (rI σ25 289 1) ((rI σ25 (294 + (Int32.toNatClampNeg a1)) (Int32.toNatClampNeg (rI σ25 289 1))) - 1) σ25)))
set_option maxRecDepth 20000 in
set_option maxHeartbeats 4000000 in
theorem t_X2_trace_107   (σ : jM) (r : Unit × jM)  (h : f_X2_trace_107   σ = some r) : J mi_X2_trace 4 0 0 (jqV r) 107 [] [] (ms σ) := by
  unfold f_X2_trace_107 at h
  exact J_ret (v := none) rfl ⟨dX2_trace_107, rfl⟩ (jqV_mk h)
set_option maxRecDepth 20000 in
set_option maxHeartbeats 4000000 in
theorem t_X2_trace_28  : ∀ (n : Nat) (l1 : Int32) (l2 : Int32) (l3 : Int32) (σ : jM) (r : Unit × jM), f_X2_trace_28  n l1 l2 l3 σ = some r → J mi_X2_trace 4 0 0 (jqV r) 28 [(0, .ref 289), (1, .int l1), (2, .int l2), (3, .int l3)] [] (ms σ) := by
  intro n
  induction n with
  | zero =>
    intro l1 l2 l3 σ r  h
    have h : (none : Option (Unit × jM)) = some r := h
    cases h
  | succ n ih =>
    intro l1 l2 l3 σ r  h
    have h : s_X2_trace_28  (f_X2_trace_28  n) l1 l2 l3 σ = some r := h
    unfold s_X2_trace_28 at h
    refine J_iload_n 3 dX2_trace_28 rfl ?_
    refine J_if_lt (tgt := 107) dX2_trace_29 (by decide) (fun c15 => ?_) (fun c15 => ?_)
    · have h := (if_pos c15).symm.trans h
      refine J_pick [] rfl ?_
      exact t_X2_trace_107   _ _  h
    · have h := (if_neg c15).symm.trans h
      refine J_aload_n 0 dX2_trace_32 rfl ?_
      refine M_getI gf_X2_38_2 dX2_trace_33 k_289 n_289 ?_
      refine J_bipush (v := 80) dX2_trace_36 (by decide) ?_
      refine J_icmp_ge (tgt := 107) dX2_trace_38 (by decide) (fun c16 => ?_) (fun c16 => ?_)
      · have h := (if_pos c16).symm.trans h
        refine J_pick [] rfl ?_
        exact t_X2_trace_107   _ _  h
      · have h := (if_neg c16).symm.trans h
        refine J_aload_n 0 dX2_trace_41 rfl ?_
        refine J_iload_n 1 dX2_trace_42 rfl ?_
        refine J_iload_n 2 dX2_trace_43 rfl ?_
        refine J_iload_n 3 dX2_trace_44 rfl ?_
        obtain ⟨r17, σ18, h19, h⟩ := bd_inv h
        refine M_callVI (d' := 2) (k := 289) (As := [.int l1, .int l2, .int l3]) (st := []) cv_X2_111 dX2_trace_45 rfl (by decide) rfl (Nat.le_of_ble_eq_true rfl) (Nat.le_of_ble_eq_true rfl) (by decide) n_289 k_289 rfl rfl (t_X2_nearer  h19) ?_
        refine J_istore (i := 4) (ls' := [(4, .int r17), (0, .ref 289), (1, .int l1), (2, .int l2), (3, .int l3)]) dX2_trace_48 (by decide) rfl ?_
        refine J_iload 0 dX2_trace_50 rfl ?_
        refine J_iconst (v := (-1)) dX2_trace_52 (by decide) ?_
        refine J_icmp_ne (tgt := 57) dX2_trace_53 (by decide) (fun c20 => ?_) (fun c20 => ?_)
        · have h := (if_neg c20).symm.trans h
          refine J_aload_n 1 dX2_trace_57 rfl ?_
          refine M_getR gf_X2_11_2 dX2_trace_58 (g_289_6 _) k_289 n_289 ?_
          refine J_aload_n 1 dX2_trace_61 rfl ?_
          refine M_getI gf_X2_38_2 dX2_trace_62 k_289 n_289 ?_
          refine J_iload_n 2 dX2_trace_65 rfl ?_
          obtain ⟨g21, h⟩ := gd_inv h
          refine M_iast dX2_trace_66 a_290 n_290 g21 ?_
          refine J_aload_n 1 dX2_trace_67 rfl ?_
          refine M_getR gf_X2_15_2 dX2_trace_68 (g_289_7 _) k_289 n_289 ?_
          refine J_aload_n 1 dX2_trace_71 rfl ?_
          refine M_getI gf_X2_38_2 dX2_trace_72 k_289 n_289 ?_
          refine J_iload_n 3 dX2_trace_75 rfl ?_
          obtain ⟨g22, h⟩ := gd_inv h
          refine M_iast dX2_trace_76 a_291 n_291 g22 ?_
          refine J_aload_n 1 dX2_trace_77 rfl ?_
          refine M_getR gf_X2_18_2 dX2_trace_78 (g_289_8 _) k_289 n_289 ?_
          refine J_aload_n 1 dX2_trace_81 rfl ?_
          refine M_getI gf_X2_38_2 dX2_trace_82 k_289 n_289 ?_
          refine J_iload 0 dX2_trace_85 rfl ?_
          obtain ⟨g23, h⟩ := gd_inv h
          refine M_iast dX2_trace_87 a_292 n_292 g23 ?_
          refine J_aload_n 1 dX2_trace_88 rfl ?_
          refine J_dup dX2_trace_89 rfl ?_
          refine M_getI gf_X2_38_2 dX2_trace_90 k_289 n_289 ?_
          refine J_iconst (v := 1) dX2_trace_93 (by decide) ?_
          refine J_iadd dX2_trace_94 ?_
          refine M_putI pf_X2_38_2 dX2_trace_95 k_289 n_289 ⟨rfl, rfl⟩ ?_
          refine J_iload 0 dX2_trace_98 rfl ?_
          refine J_istore_n (i := 2) (ls' := [(2, .int r17), (4, .int r17), (0, .ref 289), (1, .int l1), (3, .int l3)]) dX2_trace_100 rfl (by decide) rfl ?_
          refine J_iinc (v := (l3 + (-1))) (ls' := [(3, .int (l3 + (-1))), (2, .int r17), (4, .int r17), (0, .ref 289), (1, .int l1)]) 4 dX2_trace_101 rfl rfl (by decide) rfl ?_
          refine J_goto (tgt := 28) dX2_trace_104 (by decide) ?_
          refine J_pick [3, 4, 1, 0] rfl ?_
          exact ih _ _ _ _ _  h
        · have h := (if_pos c20).symm.trans h
          exact J_ret (v := none) rfl ⟨dX2_trace_56, rfl⟩ (jqV_mk h)
set_option maxRecDepth 20000 in
set_option maxHeartbeats 4000000 in
theorem t_X2_trace {a1 : Int32} {σ : jM} {r : Unit × jM}  (h : f_X2_trace a1 σ = some r) : J mi_X2_trace 4 0 0 (jqV r) 0 [(0, .ref 289), (1, .int a1)] [] (ms σ) := by
  unfold f_X2_trace at h
  refine J_aload_n 0 dX2_trace_0 rfl ?_
  refine J_iload_n 1 dX2_trace_1 rfl ?_
  refine J_aload_n 0 dX2_trace_2 rfl ?_
  refine M_getI gf_X2_95_2 dX2_trace_3 k_289 n_289 ?_
  obtain ⟨_, σ25, h26, h⟩ := bd_inv h
  refine M_callVV (d' := 3) (k := 289) (As := [.int a1, .int (rI σ 289 2)]) (st := []) cv_X2_70 dX2_trace_6 rfl (by decide) rfl (Nat.le_of_ble_eq_true rfl) (Nat.le_of_ble_eq_true rfl) (by decide) n_289 k_289 rfl rfl (t_X2_measure  h26) ?_
  refine J_aload_n 0 dX2_trace_9 rfl ?_
  refine M_getI gf_X2_92_2 dX2_trace_10 k_289 n_289 ?_
  refine J_istore_n (i := 2) (ls' := [(2, .int (rI σ25 289 1)), (0, .ref 289), (1, .int a1)]) dX2_trace_13 rfl (by decide) rfl ?_
  refine J_aload_n 1 dX2_trace_14 rfl ?_
  refine M_getR gf_X2_23_2 dX2_trace_15 (g_289_12 _) k_289 n_289 ?_
  refine J_iload_n 2 dX2_trace_18 rfl ?_
  obtain ⟨g27, h⟩ := gd_inv h
  refine M_aald dX2_trace_19 a_293 (by decide) n_293 g27 (r_row293 _ g27.2) ?_
  refine J_aload_n 1 dX2_trace_20 rfl ?_
  refine M_getI gf_X2_92_2 dX2_trace_21 k_289 n_289 ?_
  obtain ⟨g28, h⟩ := gd_inv h
  refine M_iald dX2_trace_24 (a_row293 g27.2) (na_row293 g27.2) g28 ?_
  refine J_iconst (v := 1) dX2_trace_25 (by decide) ?_
  refine J_isub dX2_trace_26 ?_
  refine J_istore_n (i := 3) (ls' := [(3, .int ((rI σ25 (294 + (Int32.toNatClampNeg a1)) (Int32.toNatClampNeg (rI σ25 289 1))) - 1)), (2, .int (rI σ25 289 1)), (0, .ref 289), (1, .int a1)]) dX2_trace_27 rfl (by decide) rfl ?_
  refine J_pick [2, 3, 1, 0] rfl ?_
  exact t_X2_trace_28  _ _ _ _ _ _  h
theorem dX4_gatherRowsOf_0 : decode cX4_gatherRowsOf 0 = .ok (.iconst 0, 1) := by decide +kernel
theorem dX4_gatherRowsOf_1 : decode cX4_gatherRowsOf 1 = .ok (.istore_n 2, 1) := by decide +kernel
theorem dX4_gatherRowsOf_2 : decode cX4_gatherRowsOf 2 = .ok (.iload_n 2, 1) := by decide +kernel
theorem dX4_gatherRowsOf_3 : decode cX4_gatherRowsOf 3 = .ok (.aload_n 1, 1) := by decide +kernel
theorem dX4_gatherRowsOf_4 : decode cX4_gatherRowsOf 4 = .ok (.getfield 89, 3) := by decide +kernel
theorem dX4_gatherRowsOf_7 : decode cX4_gatherRowsOf 7 = .ok (.if_icmp .ge 67, 3) := by decide +kernel
theorem dX4_gatherRowsOf_10 : decode cX4_gatherRowsOf 10 = .ok (.aload_n 0, 1) := by decide +kernel
theorem dX4_gatherRowsOf_11 : decode cX4_gatherRowsOf 11 = .ok (.aload_n 1, 1) := by decide +kernel
theorem dX4_gatherRowsOf_12 : decode cX4_gatherRowsOf 12 = .ok (.iload_n 2, 1) := by decide +kernel
theorem dX4_gatherRowsOf_13 : decode cX4_gatherRowsOf 13 = .ok (.invokevirtual 92, 3) := by decide +kernel
theorem dX4_gatherRowsOf_16 : decode cX4_gatherRowsOf 16 = .ok (.lstore_n 3, 1) := by decide +kernel
theorem dX4_gatherRowsOf_17 : decode cX4_gatherRowsOf 17 = .ok (.lload_n 3, 1) := by decide +kernel
theorem dX4_gatherRowsOf_18 : decode cX4_gatherRowsOf 18 = .ok (.ldc2_w 96, 3) := by decide +kernel
theorem dX4_gatherRowsOf_21 : decode cX4_gatherRowsOf 21 = .ok (.lcmp, 1) := by decide +kernel
theorem dX4_gatherRowsOf_22 : decode cX4_gatherRowsOf 22 = .ok (.ifCond .eq 46, 3) := by decide +kernel
theorem dX4_gatherRowsOf_25 : decode cX4_gatherRowsOf 25 = .ok (.aload_n 0, 1) := by decide +kernel
theorem dX4_gatherRowsOf_26 : decode cX4_gatherRowsOf 26 = .ok (.lload_n 3, 1) := by decide +kernel
theorem dX4_gatherRowsOf_27 : decode cX4_gatherRowsOf 27 = .ok (.invokevirtual 98, 3) := by decide +kernel
theorem dX4_gatherRowsOf_30 : decode cX4_gatherRowsOf 30 = .ok (.ifCond .ne 38, 3) := by decide +kernel
theorem dX4_gatherRowsOf_33 : decode cX4_gatherRowsOf 33 = .ok (.aload_n 0, 1) := by decide +kernel
theorem dX4_gatherRowsOf_34 : decode cX4_gatherRowsOf 34 = .ok (.getfield 27, 3) := by decide +kernel
theorem dX4_gatherRowsOf_37 : decode cX4_gatherRowsOf 37 = .ok (.aload_n 0, 1) := by decide +kernel
theorem dX4_gatherRowsOf_38 : decode cX4_gatherRowsOf 38 = .ok (.getfield 68, 3) := by decide +kernel
theorem dX4_gatherRowsOf_41 : decode cX4_gatherRowsOf 41 = .ok (.lload_n 3, 1) := by decide +kernel
theorem dX4_gatherRowsOf_42 : decode cX4_gatherRowsOf 42 = .ok (.lastore, 1) := by decide +kernel
theorem dX4_gatherRowsOf_43 : decode cX4_gatherRowsOf 43 = .ok (.aload_n 0, 1) := by decide +kernel
theorem dX4_gatherRowsOf_44 : decode cX4_gatherRowsOf 44 = .ok (.getfield 31, 3) := by decide +kernel
theorem dX4_gatherRowsOf_47 : decode cX4_gatherRowsOf 47 = .ok (.aload_n 0, 1) := by decide +kernel
theorem dX4_gatherRowsOf_48 : decode cX4_gatherRowsOf 48 = .ok (.getfield 68, 3) := by decide +kernel
theorem dX4_gatherRowsOf_51 : decode cX4_gatherRowsOf 51 = .ok (.aload_n 1, 1) := by decide +kernel
theorem dX4_gatherRowsOf_52 : decode cX4_gatherRowsOf 52 = .ok (.getfield 102, 3) := by decide +kernel
theorem dX4_gatherRowsOf_55 : decode cX4_gatherRowsOf 55 = .ok (.iload_n 2, 1) := by decide +kernel
theorem dX4_gatherRowsOf_56 : decode cX4_gatherRowsOf 56 = .ok (.iaload, 1) := by decide +kernel
theorem dX4_gatherRowsOf_57 : decode cX4_gatherRowsOf 57 = .ok (.iastore, 1) := by decide +kernel
theorem dX4_gatherRowsOf_58 : decode cX4_gatherRowsOf 58 = .ok (.aload_n 0, 1) := by decide +kernel
theorem dX4_gatherRowsOf_59 : decode cX4_gatherRowsOf 59 = .ok (.dup, 1) := by decide +kernel
theorem dX4_gatherRowsOf_60 : decode cX4_gatherRowsOf 60 = .ok (.getfield 68, 3) := by decide +kernel
theorem dX4_gatherRowsOf_63 : decode cX4_gatherRowsOf 63 = .ok (.iconst 1, 1) := by decide +kernel
theorem dX4_gatherRowsOf_64 : decode cX4_gatherRowsOf 64 = .ok (.iadd, 1) := by decide +kernel
theorem dX4_gatherRowsOf_65 : decode cX4_gatherRowsOf 65 = .ok (.putfield 68, 3) := by decide +kernel
theorem dX4_gatherRowsOf_68 : decode cX4_gatherRowsOf 68 = .ok (.iinc 2 1, 3) := by decide +kernel
theorem dX4_gatherRowsOf_71 : decode cX4_gatherRowsOf 71 = .ok (.goto (-69), 3) := by decide +kernel
theorem dX4_gatherRowsOf_74 : decode cX4_gatherRowsOf 74 = .ok (.return_, 1) := by decide +kernel
noncomputable def f_X4_gatherRowsOf_68 (rec2 : Nat → Int32 → jM → Option (Unit × jM)) (l1 : Nat) (l2 : Int32) (σ : jM) : Option (Unit × jM) :=
  rec2 l1 (l2 + 1) σ
noncomputable def s_X4_gatherRowsOf_2  (rec2 : Nat → Int32 → jM → Option (Unit × jM)) (l1 : Nat) (l2 : Int32) (σ : jM) : Option (Unit × jM) :=
  (if (rI σ (tabX l1) 2) ≤ l2 then some ((), σ) else bd (f_X4_keyOf l1 l2 σ) (fun r5 σ6 => (if (lg_cmp r5 (-1)) = 0 then f_X4_gatherRowsOf_68 rec2 l1 l2 σ6 else bd (f_X4_isThere r5 σ6) (fun r9 σ10 => (if r9 = 0 then gd (inb (rI σ10 264 8) 192) (gd (inb l2 8) (gd (inb (rI (wL σ10 287 (Int32.toNatClampNeg (rI σ10 264 8)) r5) 264 8) 192) (f_X4_gatherRowsOf_68 rec2 l1 l2 (wI (wI (wL σ10 287 (Int32.toNatClampNeg (rI σ10 264 8)) r5) 288 (Int32.toNatClampNeg (rI (wL σ10 287 (Int32.toNatClampNeg (rI σ10 264 8)) r5) 264 8)) (rI (wL σ10 287 (Int32.toNatClampNeg (rI σ10 264 8)) r5) (tabX l1 + 1) (Int32.toNatClampNeg l2))) 264 8 ((rI (wI (wL σ10 287 (Int32.toNatClampNeg (rI σ10 264 8)) r5) 288 (Int32.toNatClampNeg (rI (wL σ10 287 (Int32.toNatClampNeg (rI σ10 264 8)) r5) 264 8)) (rI (wL σ10 287 (Int32.toNatClampNeg (rI σ10 264 8)) r5) (tabX l1 + 1) (Int32.toNatClampNeg l2))) 264 8) + 1))))) else f_X4_gatherRowsOf_68 rec2 l1 l2 σ10)))))
noncomputable def f_X4_gatherRowsOf_2  (n : Nat) : Nat → Int32 → jM → Option (Unit × jM) := Nat.rec (motive := fun _ => Nat → Int32 → jM → Option (Unit × jM)) (fun _ _ _ => none) (fun _ q => s_X4_gatherRowsOf_2  q) n
noncomputable def f_X4_gatherRowsOf (a1 : Nat) (σ : jM) : Option (Unit × jM) :=
  f_X4_gatherRowsOf_2  Fu a1 0 σ
set_option maxRecDepth 20000 in
set_option maxHeartbeats 4000000 in
theorem t_X4_gatherRowsOf_68 {rec2 : Nat → Int32 → jM → Option (Unit × jM)} (hrec2 : ∀ (l1 : Nat) (l2 : Int32) (σ : jM) (r : Unit × jM), l1 < 24 → rec2 l1 l2 σ = some r → J mi_X4_gatherRowsOf 3 0 0 (jqV r) 2 [(0, .ref 264), (1, .ref (tabX l1)), (2, .int l2)] [] (ms σ)) (l1 : Nat) (l2 : Int32) (σ : jM) (r : Unit × jM) (hl1 : l1 < 24) (h : f_X4_gatherRowsOf_68 rec2 l1 l2 σ = some r) : J mi_X4_gatherRowsOf 3 0 0 (jqV r) 68 [(0, .ref 264), (1, .ref (tabX l1)), (2, .int l2)] [] (ms σ) := by
  unfold f_X4_gatherRowsOf_68 at h
  refine J_iinc (v := (l2 + 1)) (ls' := [(2, .int (l2 + 1)), (0, .ref 264), (1, .ref (tabX l1))]) 2 dX4_gatherRowsOf_68 rfl rfl (by decide) rfl ?_
  refine J_goto (tgt := 2) dX4_gatherRowsOf_71 (by decide) ?_
  refine J_pick [1, 2, 0] rfl ?_
  exact hrec2 _ _ _ _ hl1 h
set_option maxRecDepth 20000 in
set_option maxHeartbeats 4000000 in
theorem t_X4_gatherRowsOf_2  : ∀ (n : Nat) (l1 : Nat) (l2 : Int32) (σ : jM) (r : Unit × jM), l1 < 24 → f_X4_gatherRowsOf_2  n l1 l2 σ = some r → J mi_X4_gatherRowsOf 3 0 0 (jqV r) 2 [(0, .ref 264), (1, .ref (tabX l1)), (2, .int l2)] [] (ms σ) := by
  intro n
  induction n with
  | zero =>
    intro l1 l2 σ r hl1 h
    have h : (none : Option (Unit × jM)) = some r := h
    cases h
  | succ n ih =>
    intro l1 l2 σ r hl1 h
    have h : s_X4_gatherRowsOf_2  (f_X4_gatherRowsOf_2  n) l1 l2 σ = some r := h
    unfold s_X4_gatherRowsOf_2 at h
    refine J_iload_n 2 dX4_gatherRowsOf_2 rfl ?_
    refine J_aload_n 1 dX4_gatherRowsOf_3 rfl ?_
    refine M_getI gf_X4_89_9 dX4_gatherRowsOf_4 (k_tab hl1) (n_tab hl1) ?_
    refine J_icmp_ge (tgt := 74) dX4_gatherRowsOf_7 (by decide) (fun c16 => ?_) (fun c16 => ?_)
    · have h := (if_pos c16).symm.trans h
      exact J_ret (v := none) rfl ⟨dX4_gatherRowsOf_74, rfl⟩ (jqV_mk h)
    · have h := (if_neg c16).symm.trans h
      refine J_aload_n 0 dX4_gatherRowsOf_10 rfl ?_
      refine J_aload_n 1 dX4_gatherRowsOf_11 rfl ?_
      refine J_iload_n 2 dX4_gatherRowsOf_12 rfl ?_
      obtain ⟨r17, σ18, h19, h⟩ := bd_inv h
      refine M_callVL (d' := 2) (k := 264) (As := [.ref (tabX l1), .int l2]) (st := []) cv_X4_92 dX4_gatherRowsOf_13 rfl (by decide) rfl (Nat.le_of_ble_eq_true rfl) (Nat.le_of_ble_eq_true rfl) (by decide) n_264 k_264 rfl rfl (t_X4_keyOf hl1 h19) ?_
      refine J_lstore_n (i := 3) (ls' := [(3, .long r17), (0, .ref 264), (1, .ref (tabX l1)), (2, .int l2)]) dX4_gatherRowsOf_16 rfl (by decide) rfl ?_
      refine J_lload_n 0 dX4_gatherRowsOf_17 rfl ?_
      refine J_ldc2 dX4_gatherRowsOf_18 ct_X4_96 ?_
      refine J_lcmp dX4_gatherRowsOf_21 ?_
      refine J_if_eq (tgt := 68) dX4_gatherRowsOf_22 (by decide) (fun c20 => ?_) (fun c20 => ?_)
      · have h := (if_pos c20).symm.trans h
        refine J_pick [1, 2, 3] rfl ?_
        exact t_X4_gatherRowsOf_68 ih _ _ _ _ hl1 h
      · have h := (if_neg c20).symm.trans h
        refine J_aload_n 1 dX4_gatherRowsOf_25 rfl ?_
        refine J_lload_n 0 dX4_gatherRowsOf_26 rfl ?_
        obtain ⟨r21, σ22, h23, h⟩ := bd_inv h
        refine M_callVI (d' := 1) (k := 264) (As := [.long r17]) (st := []) cv_X4_98 dX4_gatherRowsOf_27 rfl (by decide) rfl (Nat.le_of_ble_eq_true rfl) (Nat.le_of_ble_eq_true rfl) (by decide) n_264 k_264 rfl rfl (t_X4_isThere  h23) ?_
        refine J_if_ne (tgt := 68) dX4_gatherRowsOf_30 (by decide) (fun c24 => ?_) (fun c24 => ?_)
        · have h := (if_neg c24).symm.trans h
          refine J_pick [1, 2, 3] rfl ?_
          exact t_X4_gatherRowsOf_68 ih _ _ _ _ hl1 h
        · have h := (if_pos c24).symm.trans h
          refine J_aload_n 1 dX4_gatherRowsOf_33 rfl ?_
          refine M_getR gf_X4_27_3 dX4_gatherRowsOf_34 (g_264_6 _) k_264 n_264 ?_
          refine J_aload_n 1 dX4_gatherRowsOf_37 rfl ?_
          refine M_getI gf_X4_68_3 dX4_gatherRowsOf_38 k_264 n_264 ?_
          refine J_lload_n 0 dX4_gatherRowsOf_41 rfl ?_
          obtain ⟨g25, h⟩ := gd_inv h
          refine M_last dX4_gatherRowsOf_42 a_287 n_287 g25 ?_
          refine J_aload_n 1 dX4_gatherRowsOf_43 rfl ?_
          refine M_getR gf_X4_31_3 dX4_gatherRowsOf_44 (g_264_7 _) k_264 n_264 ?_
          refine J_aload_n 1 dX4_gatherRowsOf_47 rfl ?_
          refine M_getI gf_X4_68_3 dX4_gatherRowsOf_48 k_264 n_264 ?_
          refine J_aload_n 2 dX4_gatherRowsOf_51 rfl ?_
          refine M_getR gf_X4_102_9 dX4_gatherRowsOf_52 (g_tab3 _ hl1) (k_tab hl1) (n_tab hl1) ?_
          refine J_iload_n 3 dX4_gatherRowsOf_55 rfl ?_
          obtain ⟨g26, h⟩ := gd_inv h
          refine M_iald dX4_gatherRowsOf_56 (a_tab3 hl1) (na_tab3 hl1) g26 ?_
          obtain ⟨g27, h⟩ := gd_inv h
          refine M_iast dX4_gatherRowsOf_57 a_288 n_288 g27 ?_
          refine J_aload_n 1 dX4_gatherRowsOf_58 rfl ?_
          refine J_dup dX4_gatherRowsOf_59 rfl ?_
          refine M_getI gf_X4_68_3 dX4_gatherRowsOf_60 k_264 n_264 ?_
          refine J_iconst (v := 1) dX4_gatherRowsOf_63 (by decide) ?_
          refine J_iadd dX4_gatherRowsOf_64 ?_
          refine M_putI pf_X4_68_3 dX4_gatherRowsOf_65 k_264 n_264 ⟨rfl, rfl⟩ ?_
          refine J_pick [1, 2, 3] rfl ?_
          exact t_X4_gatherRowsOf_68 ih _ _ _ _ hl1 h
set_option maxRecDepth 20000 in
set_option maxHeartbeats 4000000 in
theorem t_X4_gatherRowsOf {a1 : Nat} {σ : jM} {r : Unit × jM} (ha1 : a1 < 24) (h : f_X4_gatherRowsOf a1 σ = some r) : J mi_X4_gatherRowsOf 3 0 0 (jqV r) 0 [(0, .ref 264), (1, .ref (tabX a1))] [] (ms σ) := by
  unfold f_X4_gatherRowsOf at h
  refine J_iconst (v := 0) dX4_gatherRowsOf_0 (by decide) ?_
  refine J_istore_n (i := 2) (ls' := [(2, .int 0), (0, .ref 264), (1, .ref (tabX a1))]) dX4_gatherRowsOf_1 rfl (by decide) rfl ?_
  refine J_pick [1, 2, 0] rfl ?_
  exact t_X4_gatherRowsOf_2  _ _ _ _ _ ha1 h
