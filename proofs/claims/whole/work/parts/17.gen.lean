theorem dX13_findStands_0 : decode cX13_findStands 0 = .ok (.iconst 0, 1) := by decide +kernel
theorem dX13_findStands_1 : decode cX13_findStands 1 = .ok (.istore_n 2, 1) := by decide +kernel
theorem dX13_findStands_2 : decode cX13_findStands 2 = .ok (.iload_n 2, 1) := by decide +kernel
theorem dX13_findStands_3 : decode cX13_findStands 3 = .ok (.bipush 40, 2) := by decide +kernel
theorem dX13_findStands_5 : decode cX13_findStands 5 = .ok (.if_icmp .ge 16, 3) := by decide +kernel
theorem dX13_findStands_8 : decode cX13_findStands 8 = .ok (.aload_n 0, 1) := by decide +kernel
theorem dX13_findStands_9 : decode cX13_findStands 9 = .ok (.getfield 72, 3) := by decide +kernel
theorem dX13_findStands_12 : decode cX13_findStands 12 = .ok (.iload_n 2, 1) := by decide +kernel
theorem dX13_findStands_13 : decode cX13_findStands 13 = .ok (.iload_n 2, 1) := by decide +kernel
theorem dX13_findStands_14 : decode cX13_findStands 14 = .ok (.iastore, 1) := by decide +kernel
theorem dX13_findStands_15 : decode cX13_findStands 15 = .ok (.iinc 2 1, 3) := by decide +kernel
theorem dX13_findStands_18 : decode cX13_findStands 18 = .ok (.goto (-16), 3) := by decide +kernel
theorem dX13_findStands_21 : decode cX13_findStands 21 = .ok (.iconst 0, 1) := by decide +kernel
theorem dX13_findStands_22 : decode cX13_findStands 22 = .ok (.istore_n 2, 1) := by decide +kernel
theorem dX13_findStands_23 : decode cX13_findStands 23 = .ok (.iload_n 2, 1) := by decide +kernel
theorem dX13_findStands_24 : decode cX13_findStands 24 = .ok (.aload_n 0, 1) := by decide +kernel
theorem dX13_findStands_25 : decode cX13_findStands 25 = .ok (.getfield 291, 3) := by decide +kernel
theorem dX13_findStands_28 : decode cX13_findStands 28 = .ok (.if_icmp .ge 121, 3) := by decide +kernel
theorem dX13_findStands_31 : decode cX13_findStands 31 = .ok (.aload_n 0, 1) := by decide +kernel
theorem dX13_findStands_32 : decode cX13_findStands 32 = .ok (.getfield 72, 3) := by decide +kernel
theorem dX13_findStands_35 : decode cX13_findStands 35 = .ok (.aload_n 0, 1) := by decide +kernel
theorem dX13_findStands_36 : decode cX13_findStands 36 = .ok (.getfield 60, 3) := by decide +kernel
theorem dX13_findStands_39 : decode cX13_findStands 39 = .ok (.iload_n 2, 1) := by decide +kernel
theorem dX13_findStands_40 : decode cX13_findStands 40 = .ok (.iaload, 1) := by decide +kernel
theorem dX13_findStands_41 : decode cX13_findStands 41 = .ok (.iaload, 1) := by decide +kernel
theorem dX13_findStands_42 : decode cX13_findStands 42 = .ok (.istore_n 3, 1) := by decide +kernel
theorem dX13_findStands_43 : decode cX13_findStands 43 = .ok (.aload_n 0, 1) := by decide +kernel
theorem dX13_findStands_44 : decode cX13_findStands 44 = .ok (.getfield 72, 3) := by decide +kernel
theorem dX13_findStands_47 : decode cX13_findStands 47 = .ok (.aload_n 0, 1) := by decide +kernel
theorem dX13_findStands_48 : decode cX13_findStands 48 = .ok (.getfield 63, 3) := by decide +kernel
theorem dX13_findStands_51 : decode cX13_findStands 51 = .ok (.iload_n 2, 1) := by decide +kernel
theorem dX13_findStands_52 : decode cX13_findStands 52 = .ok (.iaload, 1) := by decide +kernel
theorem dX13_findStands_53 : decode cX13_findStands 53 = .ok (.iaload, 1) := by decide +kernel
theorem dX13_findStands_54 : decode cX13_findStands 54 = .ok (.istore 4, 2) := by decide +kernel
theorem dX13_findStands_56 : decode cX13_findStands 56 = .ok (.iload_n 3, 1) := by decide +kernel
theorem dX13_findStands_57 : decode cX13_findStands 57 = .ok (.iload 4, 2) := by decide +kernel
theorem dX13_findStands_59 : decode cX13_findStands 59 = .ok (.if_icmp .eq 84, 3) := by decide +kernel
theorem dX13_findStands_62 : decode cX13_findStands 62 = .ok (.aload_n 0, 1) := by decide +kernel
theorem dX13_findStands_63 : decode cX13_findStands 63 = .ok (.aload_n 0, 1) := by decide +kernel
theorem dX13_findStands_64 : decode cX13_findStands 64 = .ok (.getfield 60, 3) := by decide +kernel
theorem dX13_findStands_67 : decode cX13_findStands 67 = .ok (.iload_n 2, 1) := by decide +kernel
theorem dX13_findStands_68 : decode cX13_findStands 68 = .ok (.iaload, 1) := by decide +kernel
theorem dX13_findStands_69 : decode cX13_findStands 69 = .ok (.aload_n 0, 1) := by decide +kernel
theorem dX13_findStands_70 : decode cX13_findStands 70 = .ok (.getfield 63, 3) := by decide +kernel
theorem dX13_findStands_73 : decode cX13_findStands 73 = .ok (.iload_n 2, 1) := by decide +kernel
theorem dX13_findStands_74 : decode cX13_findStands 74 = .ok (.iaload, 1) := by decide +kernel
theorem dX13_findStands_75 : decode cX13_findStands 75 = .ok (.iload_n 1, 1) := by decide +kernel
theorem dX13_findStands_76 : decode cX13_findStands 76 = .ok (.invokevirtual 294, 3) := by decide +kernel
theorem dX13_findStands_79 : decode cX13_findStands 79 = .ok (.ifCond .gt 6, 3) := by decide +kernel
theorem dX13_findStands_82 : decode cX13_findStands 82 = .ok (.goto 61, 3) := by decide +kernel
theorem dX13_findStands_85 : decode cX13_findStands 85 = .ok (.iconst 0, 1) := by decide +kernel
theorem dX13_findStands_86 : decode cX13_findStands 86 = .ok (.istore 5, 2) := by decide +kernel
theorem dX13_findStands_88 : decode cX13_findStands 88 = .ok (.iload 5, 2) := by decide +kernel
theorem dX13_findStands_90 : decode cX13_findStands 90 = .ok (.bipush 40, 2) := by decide +kernel
theorem dX13_findStands_92 : decode cX13_findStands 92 = .ok (.if_icmp .ge 51, 3) := by decide +kernel
theorem dX13_findStands_95 : decode cX13_findStands 95 = .ok (.aload_n 0, 1) := by decide +kernel
theorem dX13_findStands_96 : decode cX13_findStands 96 = .ok (.getfield 72, 3) := by decide +kernel
theorem dX13_findStands_99 : decode cX13_findStands 99 = .ok (.iload 5, 2) := by decide +kernel
theorem dX13_findStands_101 : decode cX13_findStands 101 = .ok (.iaload, 1) := by decide +kernel
theorem dX13_findStands_102 : decode cX13_findStands 102 = .ok (.iload_n 3, 1) := by decide +kernel
theorem dX13_findStands_103 : decode cX13_findStands 103 = .ok (.if_icmp .eq 15, 3) := by decide +kernel
theorem dX13_findStands_106 : decode cX13_findStands 106 = .ok (.aload_n 0, 1) := by decide +kernel
theorem dX13_findStands_107 : decode cX13_findStands 107 = .ok (.getfield 72, 3) := by decide +kernel
theorem dX13_findStands_110 : decode cX13_findStands 110 = .ok (.iload 5, 2) := by decide +kernel
theorem dX13_findStands_112 : decode cX13_findStands 112 = .ok (.iaload, 1) := by decide +kernel
theorem dX13_findStands_113 : decode cX13_findStands 113 = .ok (.iload 4, 2) := by decide +kernel
theorem dX13_findStands_115 : decode cX13_findStands 115 = .ok (.if_icmp .ne 22, 3) := by decide +kernel
theorem dX13_findStands_118 : decode cX13_findStands 118 = .ok (.aload_n 0, 1) := by decide +kernel
theorem dX13_findStands_119 : decode cX13_findStands 119 = .ok (.getfield 72, 3) := by decide +kernel
theorem dX13_findStands_122 : decode cX13_findStands 122 = .ok (.iload 5, 2) := by decide +kernel
theorem dX13_findStands_124 : decode cX13_findStands 124 = .ok (.iload_n 3, 1) := by decide +kernel
theorem dX13_findStands_125 : decode cX13_findStands 125 = .ok (.iload 4, 2) := by decide +kernel
theorem dX13_findStands_127 : decode cX13_findStands 127 = .ok (.if_icmp .ge 7, 3) := by decide +kernel
theorem dX13_findStands_130 : decode cX13_findStands 130 = .ok (.iload_n 3, 1) := by decide +kernel
theorem dX13_findStands_131 : decode cX13_findStands 131 = .ok (.goto 5, 3) := by decide +kernel
theorem dX13_findStands_134 : decode cX13_findStands 134 = .ok (.iload 4, 2) := by decide +kernel
theorem dX13_findStands_136 : decode cX13_findStands 136 = .ok (.iastore, 1) := by decide +kernel
theorem dX13_findStands_137 : decode cX13_findStands 137 = .ok (.iinc 5 1, 3) := by decide +kernel
theorem dX13_findStands_140 : decode cX13_findStands 140 = .ok (.goto (-52), 3) := by decide +kernel
theorem dX13_findStands_143 : decode cX13_findStands 143 = .ok (.iinc 2 1, 3) := by decide +kernel
theorem dX13_findStands_146 : decode cX13_findStands 146 = .ok (.goto (-123), 3) := by decide +kernel
theorem dX13_findStands_149 : decode cX13_findStands 149 = .ok (.return_, 1) := by decide +kernel
noncomputable def f_X13_findStands_143 (rec23 : Int32 → Int32 → jM → Option (Unit × jM)) (l1 : Int32) (l2 : Int32) (σ : jM) : Option (Unit × jM) :=
  rec23 l1 (l2 + 1) σ
noncomputable def f_X13_findStands_137 (rec23 : Int32 → Int32 → jM → Option (Unit × jM)) (rec88 : Int32 → Int32 → Int32 → Int32 → Int32 → jM → Option (Unit × jM)) (l1 : Int32) (l2 : Int32) (l3 : Int32) (l4 : Int32) (l5 : Int32) (σ : jM) : Option (Unit × jM) :=
  rec88 l1 l2 l3 l4 (l5 + 1) σ
noncomputable def f_X13_findStands_136 (rec23 : Int32 → Int32 → jM → Option (Unit × jM)) (rec88 : Int32 → Int32 → Int32 → Int32 → Int32 → jM → Option (Unit × jM)) (l1 : Int32) (l2 : Int32) (l3 : Int32) (l4 : Int32) (l5 : Int32) (s1 : Int32) (s2 : Int32) (σ : jM) : Option (Unit × jM) :=
  gd (inb s1 40) (f_X13_findStands_137 rec23 rec88 l1 l2 l3 l4 l5 (wI σ 343 (Int32.toNatClampNeg s1) s2))
noncomputable def f_X13_findStands_118 (rec23 : Int32 → Int32 → jM → Option (Unit × jM)) (rec88 : Int32 → Int32 → Int32 → Int32 → Int32 → jM → Option (Unit × jM)) (l1 : Int32) (l2 : Int32) (l3 : Int32) (l4 : Int32) (l5 : Int32) (σ : jM) : Option (Unit × jM) :=
  (if l4 ≤ l3 then f_X13_findStands_136 rec23 rec88 l1 l2 l3 l4 l5 l5 l4 σ else f_X13_findStands_136 rec23 rec88 l1 l2 l3 l4 l5 l5 l3 σ)
noncomputable def s_X13_findStands_88 (rec23 : Int32 → Int32 → jM → Option (Unit × jM)) (rec88 : Int32 → Int32 → Int32 → Int32 → Int32 → jM → Option (Unit × jM)) (l1 : Int32) (l2 : Int32) (l3 : Int32) (l4 : Int32) (l5 : Int32) (σ : jM) : Option (Unit × jM) :=
  (if 40 ≤ l5 then f_X13_findStands_143 rec23 l1 l2 σ else gd (inb l5 40) ((if (rI σ 343 (Int32.toNatClampNeg l5)) = l3 then f_X13_findStands_118 rec23 rec88 l1 l2 l3 l4 l5 σ else gd (inb l5 40) ((if (rI σ 343 (Int32.toNatClampNeg l5)) = l4 then f_X13_findStands_118 rec23 rec88 l1 l2 l3 l4 l5 σ else f_X13_findStands_137 rec23 rec88 l1 l2 l3 l4 l5 σ)))))
noncomputable def f_X13_findStands_88 (rec23 : Int32 → Int32 → jM → Option (Unit × jM)) (n : Nat) : Int32 → Int32 → Int32 → Int32 → Int32 → jM → Option (Unit × jM) := Nat.rec (motive := fun _ => Int32 → Int32 → Int32 → Int32 → Int32 → jM → Option (Unit × jM)) (fun _ _ _ _ _ _ => none) (fun _ q => s_X13_findStands_88 rec23 q) n
noncomputable def s_X13_findStands_23  (rec23 : Int32 → Int32 → jM → Option (Unit × jM)) (l1 : Int32) (l2 : Int32) (σ : jM) : Option (Unit × jM) :=
  (if (rI σ 324 25) ≤ l2 then some ((), σ) else gd (inb l2 200) (gd (inb (rI σ 339 (Int32.toNatClampNeg l2)) 40) (gd (inb l2 200) (gd (inb (rI σ 340 (Int32.toNatClampNeg l2)) 40) ((if (rI σ 343 (Int32.toNatClampNeg (rI σ 339 (Int32.toNatClampNeg l2)))) = (rI σ 343 (Int32.toNatClampNeg (rI σ 340 (Int32.toNatClampNeg l2)))) then f_X13_findStands_143 rec23 l1 l2 σ else gd (inb l2 200) (gd (inb l2 200) (bd (f_X13_moreTrust (rI σ 339 (Int32.toNatClampNeg l2)) (rI σ 340 (Int32.toNatClampNeg l2)) l1 σ) (fun r33 σ34 => (if 0 < r33 then f_X13_findStands_88 rec23 Fu l1 l2 (rI σ 343 (Int32.toNatClampNeg (rI σ 339 (Int32.toNatClampNeg l2)))) (rI σ 343 (Int32.toNatClampNeg (rI σ 340 (Int32.toNatClampNeg l2)))) 0 σ34 else f_X13_findStands_143 rec23 l1 l2 σ34))))))))))
noncomputable def f_X13_findStands_23  (n : Nat) : Int32 → Int32 → jM → Option (Unit × jM) := Nat.rec (motive := fun _ => Int32 → Int32 → jM → Option (Unit × jM)) (fun _ _ _ => none) (fun _ q => s_X13_findStands_23  q) n
noncomputable def s_X13_findStands_2  (rec2 : Int32 → Int32 → jM → Option (Unit × jM)) (l1 : Int32) (l2 : Int32) (σ : jM) : Option (Unit × jM) :=
  (if 40 ≤ l2 then f_X13_findStands_23  Fu l1 0 σ else gd (inb l2 40) (rec2 l1 (l2 + 1) (wI σ 343 (Int32.toNatClampNeg l2) l2)))
noncomputable def f_X13_findStands_2  (n : Nat) : Int32 → Int32 → jM → Option (Unit × jM) := Nat.rec (motive := fun _ => Int32 → Int32 → jM → Option (Unit × jM)) (fun _ _ _ => none) (fun _ q => s_X13_findStands_2  q) n
noncomputable def f_X13_findStands (a1 : Int32) (σ : jM) : Option (Unit × jM) :=
  f_X13_findStands_2  Fu a1 0 σ
set_option maxRecDepth 20000 in
set_option maxHeartbeats 4000000 in
theorem t_X13_findStands_143 {rec23 : Int32 → Int32 → jM → Option (Unit × jM)} (hrec23 : ∀ (l1 : Int32) (l2 : Int32) (σ : jM) (r : Unit × jM), rec23 l1 l2 σ = some r → J mi_X13_findStands 2 0 0 (jqV r) 23 [(0, .ref 324), (1, .int l1), (2, .int l2)] [] (ms σ)) (l1 : Int32) (l2 : Int32) (σ : jM) (r : Unit × jM)  (h : f_X13_findStands_143 rec23 l1 l2 σ = some r) : J mi_X13_findStands 2 0 0 (jqV r) 143 [(0, .ref 324), (1, .int l1), (2, .int l2)] [] (ms σ) := by
  unfold f_X13_findStands_143 at h
  refine J_iinc (v := (l2 + 1)) (ls' := [(2, .int (l2 + 1)), (0, .ref 324), (1, .int l1)]) 2 dX13_findStands_143 rfl rfl (by decide) rfl ?_
  refine J_goto (tgt := 23) dX13_findStands_146 (by decide) ?_
  refine J_pick [1, 2, 0] rfl ?_
  exact hrec23 _ _ _ _  h
set_option maxRecDepth 20000 in
set_option maxHeartbeats 4000000 in
theorem t_X13_findStands_137 {rec23 : Int32 → Int32 → jM → Option (Unit × jM)} (hrec23 : ∀ (l1 : Int32) (l2 : Int32) (σ : jM) (r : Unit × jM), rec23 l1 l2 σ = some r → J mi_X13_findStands 2 0 0 (jqV r) 23 [(0, .ref 324), (1, .int l1), (2, .int l2)] [] (ms σ)) {rec88 : Int32 → Int32 → Int32 → Int32 → Int32 → jM → Option (Unit × jM)} (hrec88 : ∀ (l1 : Int32) (l2 : Int32) (l3 : Int32) (l4 : Int32) (l5 : Int32) (σ : jM) (r : Unit × jM), rec88 l1 l2 l3 l4 l5 σ = some r → J mi_X13_findStands 2 0 0 (jqV r) 88 [(0, .ref 324), (1, .int l1), (2, .int l2), (3, .int l3), (4, .int l4), (5, .int l5)] [] (ms σ)) (l1 : Int32) (l2 : Int32) (l3 : Int32) (l4 : Int32) (l5 : Int32) (σ : jM) (r : Unit × jM)  (h : f_X13_findStands_137 rec23 rec88 l1 l2 l3 l4 l5 σ = some r) : J mi_X13_findStands 2 0 0 (jqV r) 137 [(0, .ref 324), (1, .int l1), (2, .int l2), (3, .int l3), (4, .int l4), (5, .int l5)] [] (ms σ) := by
  unfold f_X13_findStands_137 at h
  refine J_iinc (v := (l5 + 1)) (ls' := [(5, .int (l5 + 1)), (0, .ref 324), (1, .int l1), (2, .int l2), (3, .int l3), (4, .int l4)]) 5 dX13_findStands_137 rfl rfl (by decide) rfl ?_
  refine J_goto (tgt := 88) dX13_findStands_140 (by decide) ?_
  refine J_pick [1, 2, 3, 4, 5, 0] rfl ?_
  exact hrec88 _ _ _ _ _ _ _  h
set_option maxRecDepth 20000 in
set_option maxHeartbeats 4000000 in
theorem t_X13_findStands_136 {rec23 : Int32 → Int32 → jM → Option (Unit × jM)} (hrec23 : ∀ (l1 : Int32) (l2 : Int32) (σ : jM) (r : Unit × jM), rec23 l1 l2 σ = some r → J mi_X13_findStands 2 0 0 (jqV r) 23 [(0, .ref 324), (1, .int l1), (2, .int l2)] [] (ms σ)) {rec88 : Int32 → Int32 → Int32 → Int32 → Int32 → jM → Option (Unit × jM)} (hrec88 : ∀ (l1 : Int32) (l2 : Int32) (l3 : Int32) (l4 : Int32) (l5 : Int32) (σ : jM) (r : Unit × jM), rec88 l1 l2 l3 l4 l5 σ = some r → J mi_X13_findStands 2 0 0 (jqV r) 88 [(0, .ref 324), (1, .int l1), (2, .int l2), (3, .int l3), (4, .int l4), (5, .int l5)] [] (ms σ)) (l1 : Int32) (l2 : Int32) (l3 : Int32) (l4 : Int32) (l5 : Int32) (s1 : Int32) (s2 : Int32) (σ : jM) (r : Unit × jM)  (h : f_X13_findStands_136 rec23 rec88 l1 l2 l3 l4 l5 s1 s2 σ = some r) : J mi_X13_findStands 2 0 0 (jqV r) 136 [(0, .ref 324), (1, .int l1), (2, .int l2), (3, .int l3), (4, .int l4), (5, .int l5)] [.int s2, .int s1, .ref 343] (ms σ) := by
  unfold f_X13_findStands_136 at h
  obtain ⟨g12, h⟩ := gd_inv h
  refine M_iast dX13_findStands_136 a_343 n_343 g12 ?_
  exact t_X13_findStands_137 hrec23 hrec88 _ _ _ _ _ _ _  h
set_option maxRecDepth 20000 in
set_option maxHeartbeats 4000000 in
theorem t_X13_findStands_118 {rec23 : Int32 → Int32 → jM → Option (Unit × jM)} (hrec23 : ∀ (l1 : Int32) (l2 : Int32) (σ : jM) (r : Unit × jM), rec23 l1 l2 σ = some r → J mi_X13_findStands 2 0 0 (jqV r) 23 [(0, .ref 324), (1, .int l1), (2, .int l2)] [] (ms σ)) {rec88 : Int32 → Int32 → Int32 → Int32 → Int32 → jM → Option (Unit × jM)} (hrec88 : ∀ (l1 : Int32) (l2 : Int32) (l3 : Int32) (l4 : Int32) (l5 : Int32) (σ : jM) (r : Unit × jM), rec88 l1 l2 l3 l4 l5 σ = some r → J mi_X13_findStands 2 0 0 (jqV r) 88 [(0, .ref 324), (1, .int l1), (2, .int l2), (3, .int l3), (4, .int l4), (5, .int l5)] [] (ms σ)) (l1 : Int32) (l2 : Int32) (l3 : Int32) (l4 : Int32) (l5 : Int32) (σ : jM) (r : Unit × jM)  (h : f_X13_findStands_118 rec23 rec88 l1 l2 l3 l4 l5 σ = some r) : J mi_X13_findStands 2 0 0 (jqV r) 118 [(0, .ref 324), (1, .int l1), (2, .int l2), (3, .int l3), (4, .int l4), (5, .int l5)] [] (ms σ) := by
  unfold f_X13_findStands_118 at h
  refine J_aload_n 0 dX13_findStands_118 rfl ?_
  refine M_getR gf_X13_72_12 dX13_findStands_119 (g_324_31 _) k_324 n_324 ?_
  refine J_iload 5 dX13_findStands_122 rfl ?_
  refine J_iload_n 3 dX13_findStands_124 rfl ?_
  refine J_iload 4 dX13_findStands_125 rfl ?_
  refine J_icmp_ge (tgt := 134) dX13_findStands_127 (by decide) (fun c14 => ?_) (fun c14 => ?_)
  · have h := (if_pos c14).symm.trans h
    refine J_iload 4 dX13_findStands_134 rfl ?_
    exact t_X13_findStands_136 hrec23 hrec88 _ _ _ _ _ _ _ _ _  h
  · have h := (if_neg c14).symm.trans h
    refine J_iload_n 3 dX13_findStands_130 rfl ?_
    refine J_goto (tgt := 136) dX13_findStands_131 (by decide) ?_
    exact t_X13_findStands_136 hrec23 hrec88 _ _ _ _ _ _ _ _ _  h
set_option maxRecDepth 20000 in
set_option maxHeartbeats 4000000 in
theorem t_X13_findStands_88 {rec23 : Int32 → Int32 → jM → Option (Unit × jM)} (hrec23 : ∀ (l1 : Int32) (l2 : Int32) (σ : jM) (r : Unit × jM), rec23 l1 l2 σ = some r → J mi_X13_findStands 2 0 0 (jqV r) 23 [(0, .ref 324), (1, .int l1), (2, .int l2)] [] (ms σ)) : ∀ (n : Nat) (l1 : Int32) (l2 : Int32) (l3 : Int32) (l4 : Int32) (l5 : Int32) (σ : jM) (r : Unit × jM), f_X13_findStands_88 rec23 n l1 l2 l3 l4 l5 σ = some r → J mi_X13_findStands 2 0 0 (jqV r) 88 [(0, .ref 324), (1, .int l1), (2, .int l2), (3, .int l3), (4, .int l4), (5, .int l5)] [] (ms σ) := by
  intro n
  induction n with
  | zero =>
    intro l1 l2 l3 l4 l5 σ r  h
    have h : (none : Option (Unit × jM)) = some r := h
    cases h
  | succ n ih =>
    intro l1 l2 l3 l4 l5 σ r  h
    have h : s_X13_findStands_88 rec23 (f_X13_findStands_88 rec23 n) l1 l2 l3 l4 l5 σ = some r := h
    unfold s_X13_findStands_88 at h
    refine J_iload 5 dX13_findStands_88 rfl ?_
    refine J_bipush (v := 40) dX13_findStands_90 (by decide) ?_
    refine J_icmp_ge (tgt := 143) dX13_findStands_92 (by decide) (fun c20 => ?_) (fun c20 => ?_)
    · have h := (if_pos c20).symm.trans h
      refine J_pick [0, 1, 2] rfl ?_
      exact t_X13_findStands_143 hrec23 _ _ _ _  h
    · have h := (if_neg c20).symm.trans h
      refine J_aload_n 0 dX13_findStands_95 rfl ?_
      refine M_getR gf_X13_72_12 dX13_findStands_96 (g_324_31 _) k_324 n_324 ?_
      refine J_iload 5 dX13_findStands_99 rfl ?_
      obtain ⟨g21, h⟩ := gd_inv h
      refine M_iald dX13_findStands_101 a_343 n_343 g21 ?_
      refine J_iload_n 3 dX13_findStands_102 rfl ?_
      refine J_icmp_eq (tgt := 118) dX13_findStands_103 (by decide) (fun c22 => ?_) (fun c22 => ?_)
      · have h := (if_pos c22).symm.trans h
        exact t_X13_findStands_118 hrec23 ih _ _ _ _ _ _ _  h
      · have h := (if_neg c22).symm.trans h
        refine J_aload_n 0 dX13_findStands_106 rfl ?_
        refine M_getR gf_X13_72_12 dX13_findStands_107 (g_324_31 _) k_324 n_324 ?_
        refine J_iload 5 dX13_findStands_110 rfl ?_
        obtain ⟨g23, h⟩ := gd_inv h
        refine M_iald dX13_findStands_112 a_343 n_343 g23 ?_
        refine J_iload 4 dX13_findStands_113 rfl ?_
        refine J_icmp_ne (tgt := 137) dX13_findStands_115 (by decide) (fun c24 => ?_) (fun c24 => ?_)
        · have h := (if_neg c24).symm.trans h
          exact t_X13_findStands_137 hrec23 ih _ _ _ _ _ _ _  h
        · have h := (if_pos c24).symm.trans h
          exact t_X13_findStands_118 hrec23 ih _ _ _ _ _ _ _  h
set_option maxRecDepth 20000 in
set_option maxHeartbeats 4000000 in
theorem t_X13_findStands_23  : ∀ (n : Nat) (l1 : Int32) (l2 : Int32) (σ : jM) (r : Unit × jM), f_X13_findStands_23  n l1 l2 σ = some r → J mi_X13_findStands 2 0 0 (jqV r) 23 [(0, .ref 324), (1, .int l1), (2, .int l2)] [] (ms σ) := by
  intro n
  induction n with
  | zero =>
    intro l1 l2 σ r  h
    have h : (none : Option (Unit × jM)) = some r := h
    cases h
  | succ n ih =>
    intro l1 l2 σ r  h
    have h : s_X13_findStands_23  (f_X13_findStands_23  n) l1 l2 σ = some r := h
    unfold s_X13_findStands_23 at h
    refine J_iload_n 2 dX13_findStands_23 rfl ?_
    refine J_aload_n 0 dX13_findStands_24 rfl ?_
    refine M_getI gf_X13_291_12 dX13_findStands_25 k_324 n_324 ?_
    refine J_icmp_ge (tgt := 149) dX13_findStands_28 (by decide) (fun c37 => ?_) (fun c37 => ?_)
    · have h := (if_pos c37).symm.trans h
      exact J_ret (v := none) rfl ⟨dX13_findStands_149, rfl⟩ (jqV_mk h)
    · have h := (if_neg c37).symm.trans h
      refine J_aload_n 0 dX13_findStands_31 rfl ?_
      refine M_getR gf_X13_72_12 dX13_findStands_32 (g_324_31 _) k_324 n_324 ?_
      refine J_aload_n 0 dX13_findStands_35 rfl ?_
      refine M_getR gf_X13_60_12 dX13_findStands_36 (g_324_27 _) k_324 n_324 ?_
      refine J_iload_n 2 dX13_findStands_39 rfl ?_
      obtain ⟨g38, h⟩ := gd_inv h
      refine M_iald dX13_findStands_40 a_339 n_339 g38 ?_
      obtain ⟨g39, h⟩ := gd_inv h
      refine M_iald dX13_findStands_41 a_343 n_343 g39 ?_
      refine J_istore_n (i := 3) (ls' := [(3, .int (rI σ 343 (Int32.toNatClampNeg (rI σ 339 (Int32.toNatClampNeg l2))))), (0, .ref 324), (1, .int l1), (2, .int l2)]) dX13_findStands_42 rfl (by decide) rfl ?_
      refine J_aload_n 1 dX13_findStands_43 rfl ?_
      refine M_getR gf_X13_72_12 dX13_findStands_44 (g_324_31 _) k_324 n_324 ?_
      refine J_aload_n 1 dX13_findStands_47 rfl ?_
      refine M_getR gf_X13_63_12 dX13_findStands_48 (g_324_28 _) k_324 n_324 ?_
      refine J_iload_n 3 dX13_findStands_51 rfl ?_
      obtain ⟨g40, h⟩ := gd_inv h
      refine M_iald dX13_findStands_52 a_340 n_340 g40 ?_
      obtain ⟨g41, h⟩ := gd_inv h
      refine M_iald dX13_findStands_53 a_343 n_343 g41 ?_
      refine J_istore (i := 4) (ls' := [(4, .int (rI σ 343 (Int32.toNatClampNeg (rI σ 340 (Int32.toNatClampNeg l2))))), (3, .int (rI σ 343 (Int32.toNatClampNeg (rI σ 339 (Int32.toNatClampNeg l2))))), (0, .ref 324), (1, .int l1), (2, .int l2)]) dX13_findStands_54 (by decide) rfl ?_
      refine J_iload_n 1 dX13_findStands_56 rfl ?_
      refine J_iload 0 dX13_findStands_57 rfl ?_
      refine J_icmp_eq (tgt := 143) dX13_findStands_59 (by decide) (fun c42 => ?_) (fun c42 => ?_)
      · have h := (if_pos c42).symm.trans h
        refine J_pick [2, 3, 4] rfl ?_
        exact t_X13_findStands_143 ih _ _ _ _  h
      · have h := (if_neg c42).symm.trans h
        refine J_aload_n 2 dX13_findStands_62 rfl ?_
        refine J_aload_n 2 dX13_findStands_63 rfl ?_
        refine M_getR gf_X13_60_12 dX13_findStands_64 (g_324_27 _) k_324 n_324 ?_
        refine J_iload_n 4 dX13_findStands_67 rfl ?_
        obtain ⟨g43, h⟩ := gd_inv h
        refine M_iald dX13_findStands_68 a_339 n_339 g43 ?_
        refine J_aload_n 2 dX13_findStands_69 rfl ?_
        refine M_getR gf_X13_63_12 dX13_findStands_70 (g_324_28 _) k_324 n_324 ?_
        refine J_iload_n 4 dX13_findStands_73 rfl ?_
        obtain ⟨g44, h⟩ := gd_inv h
        refine M_iald dX13_findStands_74 a_340 n_340 g44 ?_
        refine J_iload_n 3 dX13_findStands_75 rfl ?_
        obtain ⟨r45, σ46, h47, h⟩ := bd_inv h
        refine M_callVI (d' := 1) (k := 324) (As := [.int (rI σ 339 (Int32.toNatClampNeg l2)), .int (rI σ 340 (Int32.toNatClampNeg l2)), .int l1]) (st := []) cv_X13_294 dX13_findStands_76 rfl (by decide) rfl (Nat.le_of_ble_eq_true rfl) (Nat.le_of_ble_eq_true rfl) (by decide) n_324 k_324 rfl rfl (t_X13_moreTrust  h47) ?_
        refine J_if_gt (tgt := 85) dX13_findStands_79 (by decide) (fun c48 => ?_) (fun c48 => ?_)
        · have h := (if_pos c48).symm.trans h
          refine J_iconst (v := 0) dX13_findStands_85 (by decide) ?_
          refine J_istore (i := 5) (ls' := [(5, .int 0), (4, .int (rI σ 343 (Int32.toNatClampNeg (rI σ 340 (Int32.toNatClampNeg l2))))), (3, .int (rI σ 343 (Int32.toNatClampNeg (rI σ 339 (Int32.toNatClampNeg l2))))), (0, .ref 324), (1, .int l1), (2, .int l2)]) dX13_findStands_86 (by decide) rfl ?_
          refine J_pick [3, 4, 5, 2, 1, 0] rfl ?_
          exact t_X13_findStands_88 ih _ _ _ _ _ _ _ _  h
        · have h := (if_neg c48).symm.trans h
          refine J_goto (tgt := 143) dX13_findStands_82 (by decide) ?_
          refine J_pick [2, 3, 4] rfl ?_
          exact t_X13_findStands_143 ih _ _ _ _  h
set_option maxRecDepth 20000 in
set_option maxHeartbeats 4000000 in
theorem t_X13_findStands_2  : ∀ (n : Nat) (l1 : Int32) (l2 : Int32) (σ : jM) (r : Unit × jM), f_X13_findStands_2  n l1 l2 σ = some r → J mi_X13_findStands 2 0 0 (jqV r) 2 [(0, .ref 324), (1, .int l1), (2, .int l2)] [] (ms σ) := by
  intro n
  induction n with
  | zero =>
    intro l1 l2 σ r  h
    have h : (none : Option (Unit × jM)) = some r := h
    cases h
  | succ n ih =>
    intro l1 l2 σ r  h
    have h : s_X13_findStands_2  (f_X13_findStands_2  n) l1 l2 σ = some r := h
    unfold s_X13_findStands_2 at h
    refine J_iload_n 2 dX13_findStands_2 rfl ?_
    refine J_bipush (v := 40) dX13_findStands_3 (by decide) ?_
    refine J_icmp_ge (tgt := 21) dX13_findStands_5 (by decide) (fun c51 => ?_) (fun c51 => ?_)
    · have h := (if_pos c51).symm.trans h
      refine J_iconst (v := 0) dX13_findStands_21 (by decide) ?_
      refine J_istore_n (i := 2) (ls' := [(2, .int 0), (0, .ref 324), (1, .int l1)]) dX13_findStands_22 rfl (by decide) rfl ?_
      refine J_pick [1, 2, 0] rfl ?_
      exact t_X13_findStands_23  _ _ _ _ _  h
    · have h := (if_neg c51).symm.trans h
      refine J_aload_n 0 dX13_findStands_8 rfl ?_
      refine M_getR gf_X13_72_12 dX13_findStands_9 (g_324_31 _) k_324 n_324 ?_
      refine J_iload_n 2 dX13_findStands_12 rfl ?_
      refine J_iload_n 2 dX13_findStands_13 rfl ?_
      obtain ⟨g52, h⟩ := gd_inv h
      refine M_iast dX13_findStands_14 a_343 n_343 g52 ?_
      refine J_iinc (v := (l2 + 1)) (ls' := [(2, .int (l2 + 1)), (0, .ref 324), (1, .int l1)]) 2 dX13_findStands_15 rfl rfl (by decide) rfl ?_
      refine J_goto (tgt := 2) dX13_findStands_18 (by decide) ?_
      refine J_pick [1, 2, 0] rfl ?_
      exact ih _ _ _ _  h
set_option maxRecDepth 20000 in
set_option maxHeartbeats 4000000 in
theorem t_X13_findStands {a1 : Int32} {σ : jM} {r : Unit × jM}  (h : f_X13_findStands a1 σ = some r) : J mi_X13_findStands 2 0 0 (jqV r) 0 [(0, .ref 324), (1, .int a1)] [] (ms σ) := by
  unfold f_X13_findStands at h
  refine J_iconst (v := 0) dX13_findStands_0 (by decide) ?_
  refine J_istore_n (i := 2) (ls' := [(2, .int 0), (0, .ref 324), (1, .int a1)]) dX13_findStands_1 rfl (by decide) rfl ?_
  refine J_pick [1, 2, 0] rfl ?_
  exact t_X13_findStands_2  _ _ _ _ _  h
theorem dX13_sign_0 : decode cX13_sign 0 = .ok (.aload_n 0, 1) := by decide +kernel
theorem dX13_sign_1 : decode cX13_sign 1 = .ok (.iconst 0, 1) := by decide +kernel
theorem dX13_sign_2 : decode cX13_sign 2 = .ok (.putfield 1, 3) := by decide +kernel
theorem dX13_sign_5 : decode cX13_sign 5 = .ok (.iload_n 1, 1) := by decide +kernel
theorem dX13_sign_6 : decode cX13_sign 6 = .ok (.invokestatic 288, 3) := by decide +kernel
theorem dX13_sign_9 : decode cX13_sign 9 = .ok (.ifCond .eq 11, 3) := by decide +kernel
theorem dX13_sign_12 : decode cX13_sign 12 = .ok (.aload_n 0, 1) := by decide +kernel
theorem dX13_sign_13 : decode cX13_sign 13 = .ok (.iload_n 2, 1) := by decide +kernel
theorem dX13_sign_14 : decode cX13_sign 14 = .ok (.invokevirtual 298, 3) := by decide +kernel
theorem dX13_sign_17 : decode cX13_sign 17 = .ok (.ifCond .ne 5, 3) := by decide +kernel
theorem dX13_sign_20 : decode cX13_sign 20 = .ok (.iconst (-1), 1) := by decide +kernel
theorem dX13_sign_21 : decode cX13_sign 21 = .ok (.ireturn, 1) := by decide +kernel
theorem dX13_sign_22 : decode cX13_sign 22 = .ok (.aload_n 0, 1) := by decide +kernel
theorem dX13_sign_23 : decode cX13_sign 23 = .ok (.iload_n 2, 1) := by decide +kernel
theorem dX13_sign_24 : decode cX13_sign 24 = .ok (.invokevirtual 301, 3) := by decide +kernel
theorem dX13_sign_27 : decode cX13_sign 27 = .ok (.aload_n 0, 1) := by decide +kernel
theorem dX13_sign_28 : decode cX13_sign 28 = .ok (.getfield 72, 3) := by decide +kernel
theorem dX13_sign_31 : decode cX13_sign 31 = .ok (.iload_n 1, 1) := by decide +kernel
theorem dX13_sign_32 : decode cX13_sign 32 = .ok (.iaload, 1) := by decide +kernel
theorem dX13_sign_33 : decode cX13_sign 33 = .ok (.ireturn, 1) := by decide +kernel
noncomputable def f_X13_sign_20   (σ : jM) : Option (Int32 × jM) :=
  some ((-1), σ)
noncomputable def f_X13_sign (a1 : Int32) (a2 : Int32) (σ : jM) : Option (Int32 × jM) :=
  bd (f_X13_isSignNumber a1 (wI σ 324 0 0)) (fun r2 σ3 => (if r2 = 0 then f_X13_sign_20   σ3 else bd (f_X13_isKnown a2 σ3) (fun r6 σ7 => (if r6 = 0 then f_X13_sign_20   σ7 else bd (f_X13_findStands a2 σ7) (fun _ σ11 => gd (inb a1 40) (some ((rI σ11 343 (Int32.toNatClampNeg a1)), σ11)))))))
set_option maxRecDepth 20000 in
set_option maxHeartbeats 4000000 in
theorem t_X13_sign_20   (σ : jM) (r : Int32 × jM)  (h : f_X13_sign_20   σ = some r) : J mi_X13_sign 3 0 0 (jqI r) 20 [] [] (ms σ) := by
  unfold f_X13_sign_20 at h
  refine J_iconst (v := (-1)) dX13_sign_20 (by decide) ?_
  exact J_ret (v := some (.int (-1))) rfl ⟨dX13_sign_21, Or.inl rfl⟩ (jqI_mk h)
set_option maxRecDepth 20000 in
set_option maxHeartbeats 4000000 in
theorem t_X13_sign {a1 : Int32} {a2 : Int32} {σ : jM} {r : Int32 × jM}  (h : f_X13_sign a1 a2 σ = some r) : J mi_X13_sign 3 0 0 (jqI r) 0 [(0, .ref 324), (1, .int a1), (2, .int a2)] [] (ms σ) := by
  unfold f_X13_sign at h
  refine J_aload_n 0 dX13_sign_0 rfl ?_
  refine J_iconst (v := 0) dX13_sign_1 (by decide) ?_
  refine M_putI pf_X13_1_12 dX13_sign_2 k_324 n_324 ⟨rfl, rfl⟩ ?_
  refine J_iload_n 1 dX13_sign_5 rfl ?_
  obtain ⟨r2, σ3, h4, h⟩ := bd_inv h
  refine M_callSI (d' := 1) (As := [.int a1]) (st := []) cs_X13_288 dX13_sign_6 rfl (Nat.le_of_ble_eq_true rfl) (Nat.le_of_ble_eq_true rfl) (by decide) rfl rfl (t_X13_isSignNumber  h4) ?_
  refine J_if_eq (tgt := 20) dX13_sign_9 (by decide) (fun c5 => ?_) (fun c5 => ?_)
  · have h := (if_pos c5).symm.trans h
    refine J_pick [] rfl ?_
    exact t_X13_sign_20   _ _  h
  · have h := (if_neg c5).symm.trans h
    refine J_aload_n 0 dX13_sign_12 rfl ?_
    refine J_iload_n 2 dX13_sign_13 rfl ?_
    obtain ⟨r6, σ7, h8, h⟩ := bd_inv h
    refine M_callVI (d' := 1) (k := 324) (As := [.int a2]) (st := []) cv_X13_298 dX13_sign_14 rfl (by decide) rfl (Nat.le_of_ble_eq_true rfl) (Nat.le_of_ble_eq_true rfl) (by decide) n_324 k_324 rfl rfl (t_X13_isKnown  h8) ?_
    refine J_if_ne (tgt := 22) dX13_sign_17 (by decide) (fun c9 => ?_) (fun c9 => ?_)
    · have h := (if_neg c9).symm.trans h
      refine J_aload_n 0 dX13_sign_22 rfl ?_
      refine J_iload_n 2 dX13_sign_23 rfl ?_
      obtain ⟨_, σ11, h12, h⟩ := bd_inv h
      refine M_callVV (d' := 2) (k := 324) (As := [.int a2]) (st := []) cv_X13_301 dX13_sign_24 rfl (by decide) rfl (Nat.le_of_ble_eq_true rfl) (Nat.le_of_ble_eq_true rfl) (by decide) n_324 k_324 rfl rfl (t_X13_findStands  h12) ?_
      refine J_aload_n 0 dX13_sign_27 rfl ?_
      refine M_getR gf_X13_72_12 dX13_sign_28 (g_324_31 _) k_324 n_324 ?_
      refine J_iload_n 1 dX13_sign_31 rfl ?_
      obtain ⟨g13, h⟩ := gd_inv h
      refine M_iald dX13_sign_32 a_343 n_343 g13 ?_
      exact J_ret (v := some (.int (rI σ11 343 (Int32.toNatClampNeg a1)))) rfl ⟨dX13_sign_33, Or.inl rfl⟩ (jqI_mk h)
    · have h := (if_pos c9).symm.trans h
      refine J_pick [] rfl ?_
      exact t_X13_sign_20   _ _  h
theorem dX13_told_0 : decode cX13_told 0 = .ok (.aload_n 0, 1) := by decide +kernel
theorem dX13_told_1 : decode cX13_told 1 = .ok (.iconst 0, 1) := by decide +kernel
theorem dX13_told_2 : decode cX13_told 2 = .ok (.putfield 1, 3) := by decide +kernel
theorem dX13_told_5 : decode cX13_told 5 = .ok (.iload_n 1, 1) := by decide +kernel
theorem dX13_told_6 : decode cX13_told 6 = .ok (.iconst 0, 1) := by decide +kernel
theorem dX13_told_7 : decode cX13_told 7 = .ok (.aload_n 0, 1) := by decide +kernel
theorem dX13_told_8 : decode cX13_told 8 = .ok (.getfield 243, 3) := by decide +kernel
theorem dX13_told_11 : decode cX13_told 11 = .ok (.iconst 1, 1) := by decide +kernel
theorem dX13_told_12 : decode cX13_told 12 = .ok (.isub, 1) := by decide +kernel
theorem dX13_told_13 : decode cX13_told 13 = .ok (.invokestatic 169, 3) := by decide +kernel
theorem dX13_told_16 : decode cX13_told 16 = .ok (.ifCond .eq 40, 3) := by decide +kernel
theorem dX13_told_19 : decode cX13_told 19 = .ok (.iload_n 2, 1) := by decide +kernel
theorem dX13_told_20 : decode cX13_told 20 = .ok (.iconst 0, 1) := by decide +kernel
theorem dX13_told_21 : decode cX13_told 21 = .ok (.aload_n 0, 1) := by decide +kernel
theorem dX13_told_22 : decode cX13_told 22 = .ok (.getfield 20, 3) := by decide +kernel
theorem dX13_told_25 : decode cX13_told 25 = .ok (.iload_n 1, 1) := by decide +kernel
theorem dX13_told_26 : decode cX13_told 26 = .ok (.iaload, 1) := by decide +kernel
theorem dX13_told_27 : decode cX13_told 27 = .ok (.iconst 1, 1) := by decide +kernel
theorem dX13_told_28 : decode cX13_told 28 = .ok (.isub, 1) := by decide +kernel
theorem dX13_told_29 : decode cX13_told 29 = .ok (.invokestatic 169, 3) := by decide +kernel
theorem dX13_told_32 : decode cX13_told 32 = .ok (.ifCond .eq 24, 3) := by decide +kernel
theorem dX13_told_35 : decode cX13_told 35 = .ok (.iload_n 3, 1) := by decide +kernel
theorem dX13_told_36 : decode cX13_told 36 = .ok (.iconst 0, 1) := by decide +kernel
theorem dX13_told_37 : decode cX13_told 37 = .ok (.aload_n 0, 1) := by decide +kernel
theorem dX13_told_38 : decode cX13_told 38 = .ok (.getfield 23, 3) := by decide +kernel
theorem dX13_told_41 : decode cX13_told 41 = .ok (.bipush 8, 2) := by decide +kernel
theorem dX13_told_43 : decode cX13_told 43 = .ok (.iload_n 1, 1) := by decide +kernel
theorem dX13_told_44 : decode cX13_told 44 = .ok (.imul, 1) := by decide +kernel
theorem dX13_told_45 : decode cX13_told 45 = .ok (.iload_n 2, 1) := by decide +kernel
theorem dX13_told_46 : decode cX13_told 46 = .ok (.iadd, 1) := by decide +kernel
theorem dX13_told_47 : decode cX13_told 47 = .ok (.iaload, 1) := by decide +kernel
theorem dX13_told_48 : decode cX13_told 48 = .ok (.iconst 1, 1) := by decide +kernel
theorem dX13_told_49 : decode cX13_told 49 = .ok (.isub, 1) := by decide +kernel
theorem dX13_told_50 : decode cX13_told 50 = .ok (.invokestatic 169, 3) := by decide +kernel
theorem dX13_told_53 : decode cX13_told 53 = .ok (.ifCond .ne 10, 3) := by decide +kernel
theorem dX13_told_56 : decode cX13_told 56 = .ok (.aload_n 0, 1) := by decide +kernel
theorem dX13_told_57 : decode cX13_told 57 = .ok (.iconst 1, 1) := by decide +kernel
theorem dX13_told_58 : decode cX13_told 58 = .ok (.putfield 1, 3) := by decide +kernel
theorem dX13_told_61 : decode cX13_told 61 = .ok (.iconst 0, 1) := by decide +kernel
theorem dX13_told_62 : decode cX13_told 62 = .ok (.ireturn, 1) := by decide +kernel
theorem dX13_told_63 : decode cX13_told 63 = .ok (.aload_n 0, 1) := by decide +kernel
theorem dX13_told_64 : decode cX13_told 64 = .ok (.getfield 26, 3) := by decide +kernel
theorem dX13_told_67 : decode cX13_told 67 = .ok (.bipush 6, 2) := by decide +kernel
theorem dX13_told_69 : decode cX13_told 69 = .ok (.bipush 8, 2) := by decide +kernel
theorem dX13_told_71 : decode cX13_told 71 = .ok (.iload_n 1, 1) := by decide +kernel
theorem dX13_told_72 : decode cX13_told 72 = .ok (.imul, 1) := by decide +kernel
theorem dX13_told_73 : decode cX13_told 73 = .ok (.iload_n 2, 1) := by decide +kernel
theorem dX13_told_74 : decode cX13_told 74 = .ok (.iadd, 1) := by decide +kernel
theorem dX13_told_75 : decode cX13_told 75 = .ok (.imul, 1) := by decide +kernel
theorem dX13_told_76 : decode cX13_told 76 = .ok (.iload_n 3, 1) := by decide +kernel
theorem dX13_told_77 : decode cX13_told 77 = .ok (.iadd, 1) := by decide +kernel
theorem dX13_told_78 : decode cX13_told 78 = .ok (.iaload, 1) := by decide +kernel
theorem dX13_told_79 : decode cX13_told 79 = .ok (.ireturn, 1) := by decide +kernel
noncomputable def f_X13_told_56   (σ : jM) : Option (Int32 × jM) :=
  some (0, wI σ 324 0 1)
noncomputable def f_X13_told (a1 : Int32) (a2 : Int32) (a3 : Int32) (σ : jM) : Option (Int32 × jM) :=
  bd (f_X13_within a1 0 ((rI (wI σ 324 0 0) 324 2) - 1) (wI σ 324 0 0)) (fun r4 σ5 => (if r4 = 0 then f_X13_told_56   σ5 else gd (inb a1 25) (bd (f_X13_within a2 0 ((rI σ5 327 (Int32.toNatClampNeg a1)) - 1) σ5) (fun r9 σ10 => (if r9 = 0 then f_X13_told_56   σ10 else gd (inb ((8 * a1) + a2) 200) (bd (f_X13_within a3 0 ((rI σ10 328 (Int32.toNatClampNeg ((8 * a1) + a2))) - 1) σ10) (fun r14 σ15 => (if r14 = 0 then f_X13_told_56   σ15 else gd (inb ((6 * ((8 * a1) + a2)) + a3) 1200) (some ((rI σ15 329 (Int32.toNatClampNeg ((6 * ((8 * a1) + a2)) + a3))), σ15))))))))))
set_option maxRecDepth 20000 in
set_option maxHeartbeats 4000000 in
theorem t_X13_told_56   (σ : jM) (r : Int32 × jM)  (h : f_X13_told_56   σ = some r) : J mi_X13_told 2 0 0 (jqI r) 56 [(0, .ref 324)] [] (ms σ) := by
  unfold f_X13_told_56 at h
  refine J_aload_n 0 dX13_told_56 rfl ?_
  refine J_iconst (v := 1) dX13_told_57 (by decide) ?_
  refine M_putI pf_X13_1_12 dX13_told_58 k_324 n_324 ⟨rfl, rfl⟩ ?_
  refine J_iconst (v := 0) dX13_told_61 (by decide) ?_
  exact J_ret (v := some (.int 0)) rfl ⟨dX13_told_62, Or.inl rfl⟩ (jqI_mk h)
set_option maxRecDepth 20000 in
set_option maxHeartbeats 4000000 in
theorem t_X13_told {a1 : Int32} {a2 : Int32} {a3 : Int32} {σ : jM} {r : Int32 × jM}  (h : f_X13_told a1 a2 a3 σ = some r) : J mi_X13_told 2 0 0 (jqI r) 0 [(0, .ref 324), (1, .int a1), (2, .int a2), (3, .int a3)] [] (ms σ) := by
  unfold f_X13_told at h
  refine J_aload_n 0 dX13_told_0 rfl ?_
  refine J_iconst (v := 0) dX13_told_1 (by decide) ?_
  refine M_putI pf_X13_1_12 dX13_told_2 k_324 n_324 ⟨rfl, rfl⟩ ?_
  refine J_iload_n 1 dX13_told_5 rfl ?_
  refine J_iconst (v := 0) dX13_told_6 (by decide) ?_
  refine J_aload_n 0 dX13_told_7 rfl ?_
  refine M_getI gf_X13_243_12 dX13_told_8 k_324 n_324 ?_
  refine J_iconst (v := 1) dX13_told_11 (by decide) ?_
  refine J_isub dX13_told_12 ?_
  obtain ⟨r4, σ5, h6, h⟩ := bd_inv h
  refine M_callSI (d' := 1) (As := [.int a1, .int 0, .int ((rI (wI σ 324 0 0) 324 2) - 1)]) (st := []) cs_X13_169 dX13_told_13 rfl (Nat.le_of_ble_eq_true rfl) (Nat.le_of_ble_eq_true rfl) (by decide) rfl rfl (t_X13_within  h6) ?_
  refine J_if_eq (tgt := 56) dX13_told_16 (by decide) (fun c7 => ?_) (fun c7 => ?_)
  · have h := (if_pos c7).symm.trans h
    refine J_pick [0] rfl ?_
    exact t_X13_told_56   _ _  h
  · have h := (if_neg c7).symm.trans h
    refine J_iload_n 2 dX13_told_19 rfl ?_
    refine J_iconst (v := 0) dX13_told_20 (by decide) ?_
    refine J_aload_n 0 dX13_told_21 rfl ?_
    refine M_getR gf_X13_20_12 dX13_told_22 (g_324_5 _) k_324 n_324 ?_
    refine J_iload_n 1 dX13_told_25 rfl ?_
    obtain ⟨g8, h⟩ := gd_inv h
    refine M_iald dX13_told_26 a_327 n_327 g8 ?_
    refine J_iconst (v := 1) dX13_told_27 (by decide) ?_
    refine J_isub dX13_told_28 ?_
    obtain ⟨r9, σ10, h11, h⟩ := bd_inv h
    refine M_callSI (d' := 1) (As := [.int a2, .int 0, .int ((rI σ5 327 (Int32.toNatClampNeg a1)) - 1)]) (st := []) cs_X13_169 dX13_told_29 rfl (Nat.le_of_ble_eq_true rfl) (Nat.le_of_ble_eq_true rfl) (by decide) rfl rfl (t_X13_within  h11) ?_
    refine J_if_eq (tgt := 56) dX13_told_32 (by decide) (fun c12 => ?_) (fun c12 => ?_)
    · have h := (if_pos c12).symm.trans h
      refine J_pick [0] rfl ?_
      exact t_X13_told_56   _ _  h
    · have h := (if_neg c12).symm.trans h
      refine J_iload_n 3 dX13_told_35 rfl ?_
      refine J_iconst (v := 0) dX13_told_36 (by decide) ?_
      refine J_aload_n 0 dX13_told_37 rfl ?_
      refine M_getR gf_X13_23_12 dX13_told_38 (g_324_6 _) k_324 n_324 ?_
      refine J_bipush (v := 8) dX13_told_41 (by decide) ?_
      refine J_iload_n 1 dX13_told_43 rfl ?_
      refine J_imul dX13_told_44 ?_
      refine J_iload_n 2 dX13_told_45 rfl ?_
      refine J_iadd dX13_told_46 ?_
      obtain ⟨g13, h⟩ := gd_inv h
      refine M_iald dX13_told_47 a_328 n_328 g13 ?_
      refine J_iconst (v := 1) dX13_told_48 (by decide) ?_
      refine J_isub dX13_told_49 ?_
      obtain ⟨r14, σ15, h16, h⟩ := bd_inv h
      refine M_callSI (d' := 1) (As := [.int a3, .int 0, .int ((rI σ10 328 (Int32.toNatClampNeg ((8 * a1) + a2))) - 1)]) (st := []) cs_X13_169 dX13_told_50 rfl (Nat.le_of_ble_eq_true rfl) (Nat.le_of_ble_eq_true rfl) (by decide) rfl rfl (t_X13_within  h16) ?_
      refine J_if_ne (tgt := 63) dX13_told_53 (by decide) (fun c17 => ?_) (fun c17 => ?_)
      · have h := (if_neg c17).symm.trans h
        refine J_aload_n 0 dX13_told_63 rfl ?_
        refine M_getR gf_X13_26_12 dX13_told_64 (g_324_7 _) k_324 n_324 ?_
        refine J_bipush (v := 6) dX13_told_67 (by decide) ?_
        refine J_bipush (v := 8) dX13_told_69 (by decide) ?_
        refine J_iload_n 1 dX13_told_71 rfl ?_
        refine J_imul dX13_told_72 ?_
        refine J_iload_n 2 dX13_told_73 rfl ?_
        refine J_iadd dX13_told_74 ?_
        refine J_imul dX13_told_75 ?_
        refine J_iload_n 3 dX13_told_76 rfl ?_
        refine J_iadd dX13_told_77 ?_
        obtain ⟨g18, h⟩ := gd_inv h
        refine M_iald dX13_told_78 a_329 n_329 g18 ?_
        exact J_ret (v := some (.int (rI σ15 329 (Int32.toNatClampNeg ((6 * ((8 * a1) + a2)) + a3))))) rfl ⟨dX13_told_79, Or.inl rfl⟩ (jqI_mk h)
      · have h := (if_pos c17).symm.trans h
        refine J_pick [0] rfl ?_
        exact t_X13_told_56   _ _  h
theorem dX13_share_0 : decode cX13_share 0 = .ok (.aload_n 0, 1) := by decide +kernel
theorem dX13_share_1 : decode cX13_share 1 = .ok (.iconst 0, 1) := by decide +kernel
theorem dX13_share_2 : decode cX13_share 2 = .ok (.putfield 1, 3) := by decide +kernel
theorem dX13_share_5 : decode cX13_share 5 = .ok (.iload_n 1, 1) := by decide +kernel
theorem dX13_share_6 : decode cX13_share 6 = .ok (.iconst 0, 1) := by decide +kernel
theorem dX13_share_7 : decode cX13_share 7 = .ok (.iconst 1, 1) := by decide +kernel
theorem dX13_share_8 : decode cX13_share 8 = .ok (.invokestatic 169, 3) := by decide +kernel
theorem dX13_share_11 : decode cX13_share 11 = .ok (.ifCond .eq 31, 3) := by decide +kernel
theorem dX13_share_14 : decode cX13_share 14 = .ok (.iload_n 2, 1) := by decide +kernel
theorem dX13_share_15 : decode cX13_share 15 = .ok (.invokestatic 288, 3) := by decide +kernel
theorem dX13_share_18 : decode cX13_share 18 = .ok (.ifCond .eq 24, 3) := by decide +kernel
theorem dX13_share_21 : decode cX13_share 21 = .ok (.iload_n 3, 1) := by decide +kernel
theorem dX13_share_22 : decode cX13_share 22 = .ok (.invokestatic 288, 3) := by decide +kernel
theorem dX13_share_25 : decode cX13_share 25 = .ok (.ifCond .eq 17, 3) := by decide +kernel
theorem dX13_share_28 : decode cX13_share 28 = .ok (.iload_n 2, 1) := by decide +kernel
theorem dX13_share_29 : decode cX13_share 29 = .ok (.iload_n 3, 1) := by decide +kernel
theorem dX13_share_30 : decode cX13_share 30 = .ok (.if_icmp .eq 12, 3) := by decide +kernel
theorem dX13_share_33 : decode cX13_share 33 = .ok (.aload_n 0, 1) := by decide +kernel
theorem dX13_share_34 : decode cX13_share 34 = .ok (.getfield 304, 3) := by decide +kernel
theorem dX13_share_37 : decode cX13_share 37 = .ok (.bipush 60, 2) := by decide +kernel
theorem dX13_share_39 : decode cX13_share 39 = .ok (.if_icmp .ne 5, 3) := by decide +kernel
theorem dX13_share_42 : decode cX13_share 42 = .ok (.iconst (-1), 1) := by decide +kernel
theorem dX13_share_43 : decode cX13_share 43 = .ok (.ireturn, 1) := by decide +kernel
theorem dX13_share_44 : decode cX13_share 44 = .ok (.aload_n 0, 1) := by decide +kernel
theorem dX13_share_45 : decode cX13_share 45 = .ok (.getfield 75, 3) := by decide +kernel
theorem dX13_share_48 : decode cX13_share 48 = .ok (.aload_n 0, 1) := by decide +kernel
theorem dX13_share_49 : decode cX13_share 49 = .ok (.getfield 304, 3) := by decide +kernel
theorem dX13_share_52 : decode cX13_share 52 = .ok (.iload_n 1, 1) := by decide +kernel
theorem dX13_share_53 : decode cX13_share 53 = .ok (.iastore, 1) := by decide +kernel
theorem dX13_share_54 : decode cX13_share 54 = .ok (.aload_n 0, 1) := by decide +kernel
theorem dX13_share_55 : decode cX13_share 55 = .ok (.getfield 78, 3) := by decide +kernel
theorem dX13_share_58 : decode cX13_share 58 = .ok (.aload_n 0, 1) := by decide +kernel
theorem dX13_share_59 : decode cX13_share 59 = .ok (.getfield 304, 3) := by decide +kernel
theorem dX13_share_62 : decode cX13_share 62 = .ok (.iload_n 2, 1) := by decide +kernel
theorem dX13_share_63 : decode cX13_share 63 = .ok (.iastore, 1) := by decide +kernel
theorem dX13_share_64 : decode cX13_share 64 = .ok (.aload_n 0, 1) := by decide +kernel
theorem dX13_share_65 : decode cX13_share 65 = .ok (.getfield 81, 3) := by decide +kernel
theorem dX13_share_68 : decode cX13_share 68 = .ok (.aload_n 0, 1) := by decide +kernel
theorem dX13_share_69 : decode cX13_share 69 = .ok (.getfield 304, 3) := by decide +kernel
theorem dX13_share_72 : decode cX13_share 72 = .ok (.iload_n 3, 1) := by decide +kernel
theorem dX13_share_73 : decode cX13_share 73 = .ok (.iastore, 1) := by decide +kernel
theorem dX13_share_74 : decode cX13_share 74 = .ok (.aload_n 0, 1) := by decide +kernel
theorem dX13_share_75 : decode cX13_share 75 = .ok (.getfield 84, 3) := by decide +kernel
theorem dX13_share_78 : decode cX13_share 78 = .ok (.aload_n 0, 1) := by decide +kernel
theorem dX13_share_79 : decode cX13_share 79 = .ok (.getfield 304, 3) := by decide +kernel
theorem dX13_share_82 : decode cX13_share 82 = .ok (.iload 4, 2) := by decide +kernel
theorem dX13_share_84 : decode cX13_share 84 = .ok (.bastore, 1) := by decide +kernel
theorem dX13_share_85 : decode cX13_share 85 = .ok (.aload_n 0, 1) := by decide +kernel
theorem dX13_share_86 : decode cX13_share 86 = .ok (.getfield 88, 3) := by decide +kernel
theorem dX13_share_89 : decode cX13_share 89 = .ok (.aload_n 0, 1) := by decide +kernel
theorem dX13_share_90 : decode cX13_share 90 = .ok (.getfield 304, 3) := by decide +kernel
theorem dX13_share_93 : decode cX13_share 93 = .ok (.aload_n 0, 1) := by decide +kernel
theorem dX13_share_94 : decode cX13_share 94 = .ok (.getfield 173, 3) := by decide +kernel
theorem dX13_share_97 : decode cX13_share 97 = .ok (.iastore, 1) := by decide +kernel
theorem dX13_share_98 : decode cX13_share 98 = .ok (.aload_n 0, 1) := by decide +kernel
theorem dX13_share_99 : decode cX13_share 99 = .ok (.getfield 91, 3) := by decide +kernel
theorem dX13_share_102 : decode cX13_share 102 = .ok (.aload_n 0, 1) := by decide +kernel
theorem dX13_share_103 : decode cX13_share 103 = .ok (.getfield 304, 3) := by decide +kernel
theorem dX13_share_106 : decode cX13_share 106 = .ok (.ldc 255, 2) := by decide +kernel
theorem dX13_share_108 : decode cX13_share 108 = .ok (.iastore, 1) := by decide +kernel
theorem dX13_share_109 : decode cX13_share 109 = .ok (.aload_n 0, 1) := by decide +kernel
theorem dX13_share_110 : decode cX13_share 110 = .ok (.dup, 1) := by decide +kernel
theorem dX13_share_111 : decode cX13_share 111 = .ok (.getfield 304, 3) := by decide +kernel
theorem dX13_share_114 : decode cX13_share 114 = .ok (.iconst 1, 1) := by decide +kernel
theorem dX13_share_115 : decode cX13_share 115 = .ok (.iadd, 1) := by decide +kernel
theorem dX13_share_116 : decode cX13_share 116 = .ok (.putfield 304, 3) := by decide +kernel
theorem dX13_share_119 : decode cX13_share 119 = .ok (.aload_n 0, 1) := by decide +kernel
theorem dX13_share_120 : decode cX13_share 120 = .ok (.getfield 304, 3) := by decide +kernel
theorem dX13_share_123 : decode cX13_share 123 = .ok (.iconst 1, 1) := by decide +kernel
theorem dX13_share_124 : decode cX13_share 124 = .ok (.isub, 1) := by decide +kernel
theorem dX13_share_125 : decode cX13_share 125 = .ok (.ireturn, 1) := by decide +kernel
noncomputable def f_X13_share_42   (σ : jM) : Option (Int32 × jM) :=
  some ((-1), σ)
noncomputable def f_X13_share (a1 : Int32) (a2 : Int32) (a3 : Int32) (a4 : Int32) (σ : jM) : Option (Int32 × jM) :=
  bd (f_X13_within a1 0 1 (wI σ 324 0 0)) (fun r7 σ8 => (if r7 = 0 then f_X13_share_42   σ8 else bd (f_X13_isSignNumber a2 σ8) (fun r11 σ12 => (if r11 = 0 then f_X13_share_42   σ12 else bd (f_X13_isSignNumber a3 σ12) (fun r15 σ16 => (if r15 = 0 then f_X13_share_42   σ16 else (if a2 = a3 then f_X13_share_42   σ16 else (if (rI σ16 324 32) = 60 then f_X13_share_42   σ16 else gd (inb (rI σ16 324 32) 60) (gd (inb (rI (wI σ16 344 (Int32.toNatClampNeg (rI σ16 324 32)) a1) 324 32) 60) (gd (inb (rI (wI (wI σ16 344 (Int32.toNatClampNeg (rI σ16 324 32)) a1) 345 (Int32.toNatClampNeg (rI (wI σ16 344 (Int32.toNatClampNeg (rI σ16 324 32)) a1) 324 32)) a2) 324 32) 60) (gd (inb (rI (wI (wI (wI σ16 344 (Int32.toNatClampNeg (rI σ16 324 32)) a1) 345 (Int32.toNatClampNeg (rI (wI σ16 344 (Int32.toNatClampNeg (rI σ16 324 32)) a1) 324 32)) a2) 346 (Int32.toNatClampNeg (rI (wI (wI σ16 344 (Int32.toNatClampNeg (rI σ16 324 32)) a1) 345 (Int32.toNatClampNeg (rI (wI σ16 344 (Int32.toNatClampNeg (rI σ16 324 32)) a1) 324 32)) a2) 324 32)) a3) 324 32) 60) (gd (inb (rI (wI (wI (wI (wI σ16 344 (Int32.toNatClampNeg (rI σ16 324 32)) a1) 345 (Int32.toNatClampNeg (rI (wI σ16 344 (Int32.toNatClampNeg (rI σ16 324 32)) a1) 324 32)) a2) 346 (Int32.toNatClampNeg (rI (wI (wI σ16 344 (Int32.toNatClampNeg (rI σ16 324 32)) a1) 345 (Int32.toNatClampNeg (rI (wI σ16 344 (Int32.toNatClampNeg (rI σ16 324 32)) a1) 324 32)) a2) 324 32)) a3) 347 (Int32.toNatClampNeg (rI (wI (wI (wI σ16 344 (Int32.toNatClampNeg (rI σ16 324 32)) a1) 345 (Int32.toNatClampNeg (rI (wI σ16 344 (Int32.toNatClampNeg (rI σ16 324 32)) a1) 324 32)) a2) 346 (Int32.toNatClampNeg (rI (wI (wI σ16 344 (Int32.toNatClampNeg (rI σ16 324 32)) a1) 345 (Int32.toNatClampNeg (rI (wI σ16 344 (Int32.toNatClampNeg (rI σ16 324 32)) a1) 324 32)) a2) 324 32)) a3) 324 32)) (vp_nar .boolean a4)) 324 32) 60) (gd (inb (rI (wI (wI (wI (wI (wI σ16 344 (Int32.toNatClampNeg (rI σ16 324 32)) a1) 345 (Int32.toNatClampNeg (rI (wI σ16 344 (Int32.toNatClampNeg (rI σ16 324 32)) a1) 324 32)) a2) 346 (Int32.toNatClampNeg (rI (wI (wI σ16 344 (Int32.toNatClampNeg (rI σ16 324 32)) a1) 345 (Int32.toNatClampNeg (rI (wI σ16 344 (Int32.toNatClampNeg (rI σ16 324 32)) a1) 324 32)) a2) 324 32)) a3) 347 (Int32.toNatClampNeg (rI (wI (wI (wI σ16 344 (Int32.toNatClampNeg (rI σ16 324 32)) a1) 345 (Int32.toNatClampNeg (rI (wI σ16 344 (Int32.toNatClampNeg (rI σ16 324 32)) a1) 324 32)) a2) 346 (Int32.toNatClampNeg (rI (wI (wI σ16 344 (Int32.toNatClampNeg (rI σ16 324 32)) a1) 345 (Int32.toNatClampNeg (rI (wI σ16 344 (Int32.toNatClampNeg (rI σ16 324 32)) a1) 324 32)) a2) 324 32)) a3) 324 32)) (vp_nar .boolean a4)) 348 (Int32.toNatClampNeg (rI (wI (wI (wI (wI σ16 344 (Int32.toNatClampNeg (rI σ16 324 32)) a1) 345 (Int32.toNatClampNeg (rI (wI σ16 344 (Int32.toNatClampNeg (rI σ16 324 32)) a1) 324 32)) a2) 346 (Int32.toNatClampNeg (rI (wI (wI σ16 344 (Int32.toNatClampNeg (rI σ16 324 32)) a1) 345 (Int32.toNatClampNeg (rI (wI σ16 344 (Int32.toNatClampNeg (rI σ16 324 32)) a1) 324 32)) a2) 324 32)) a3) 347 (Int32.toNatClampNeg (rI (wI (wI (wI σ16 344 (Int32.toNatClampNeg (rI σ16 324 32)) a1) 345 (Int32.toNatClampNeg (rI (wI σ16 344 (Int32.toNatClampNeg (rI σ16 324 32)) a1) 324 32)) a2) 346 (Int32.toNatClampNeg (rI (wI (wI σ16 344 (Int32.toNatClampNeg (rI σ16 324 32)) a1) 345 (Int32.toNatClampNeg (rI (wI σ16 344 (Int32.toNatClampNeg (rI σ16 324 32)) a1) 324 32)) a2) 324 32)) a3) 324 32)) (vp_nar .boolean a4)) 324 32)) (rI (wI (wI (wI (wI σ16 344 (Int32.toNatClampNeg (rI σ16 324 32)) a1) 345 (Int32.toNatClampNeg (rI (wI σ16 344 (Int32.toNatClampNeg (rI σ16 324 32)) a1) 324 32)) a2) 346 (Int32.toNatClampNeg (rI (wI (wI σ16 344 (Int32.toNatClampNeg (rI σ16 324 32)) a1) 345 (Int32.toNatClampNeg (rI (wI σ16 344 (Int32.toNatClampNeg (rI σ16 324 32)) a1) 324 32)) a2) 324 32)) a3) 347 (Int32.toNatClampNeg (rI (wI (wI (wI σ16 344 (Int32.toNatClampNeg (rI σ16 324 32)) a1) 345 (Int32.toNatClampNeg (rI (wI σ16 344 (Int32.toNatClampNeg (rI σ16 324 32)) a1) 324 32)) a2) 346 (Int32.toNatClampNeg (rI (wI (wI σ16 344 (Int32.toNatClampNeg (rI σ16 324 32)) a1) 345 (Int32.toNatClampNeg (rI (wI σ16 344 (Int32.toNatClampNeg (rI σ16 324 32)) a1) 324 32)) a2) 324 32)) a3) 324 32)) (vp_nar .boolean a4)) 324 1)) 324 32) 60) (some (((rI (wI (wI (wI (wI (wI (wI (wI σ16 344 (Int32.toNatClampNeg (rI σ16 324 32)) a1) 345 (Int32.toNatClampNeg (rI (wI σ16 344 (Int32.toNatClampNeg (rI σ16 324 32)) a1) 324 32)) a2) 346 (Int32.toNatClampNeg (rI (wI (wI σ16 344 (Int32.toNatClampNeg (rI σ16 324 32)) a1) 345 (Int32.toNatClampNeg (rI (wI σ16 344 (Int32.toNatClampNeg (rI σ16 324 32)) a1) 324 32)) a2) 324 32)) a3) 347 (Int32.toNatClampNeg (rI (wI (wI (wI σ16 344 (Int32.toNatClampNeg (rI σ16 324 32)) a1) 345 (Int32.toNatClampNeg (rI (wI σ16 344 (Int32.toNatClampNeg (rI σ16 324 32)) a1) 324 32)) a2) 346 (Int32.toNatClampNeg (rI (wI (wI σ16 344 (Int32.toNatClampNeg (rI σ16 324 32)) a1) 345 (Int32.toNatClampNeg (rI (wI σ16 344 (Int32.toNatClampNeg (rI σ16 324 32)) a1) 324 32)) a2) 324 32)) a3) 324 32)) (vp_nar .boolean a4)) 348 (Int32.toNatClampNeg (rI (wI (wI (wI (wI σ16 344 (Int32.toNatClampNeg (rI σ16 324 32)) a1) 345 (Int32.toNatClampNeg (rI (wI σ16 344 (Int32.toNatClampNeg (rI σ16 324 32)) a1) 324 32)) a2) 346 (Int32.toNatClampNeg (rI (wI (wI σ16 344 (Int32.toNatClampNeg (rI σ16 324 32)) a1) 345 (Int32.toNatClampNeg (rI (wI σ16 344 (Int32.toNatClampNeg (rI σ16 324 32)) a1) 324 32)) a2) 324 32)) a3) 347 (Int32.toNatClampNeg (rI (wI (wI (wI σ16 344 (Int32.toNatClampNeg (rI σ16 324 32)) a1) 345 (Int32.toNatClampNeg (rI (wI σ16 344 (Int32.toNatClampNeg (rI σ16 324 32)) a1) 324 32)) a2) 346 (Int32.toNatClampNeg (rI (wI (wI σ16 344 (Int32.toNatClampNeg (rI σ16 324 32)) a1) 345 (Int32.toNatClampNeg (rI (wI σ16 344 (Int32.toNatClampNeg (rI σ16 324 32)) a1) 324 32)) a2) 324 32)) a3) 324 32)) (vp_nar .boolean a4)) 324 32)) (rI (wI (wI (wI (wI σ16 344 (Int32.toNatClampNeg (rI σ16 324 32)) a1) 345 (Int32.toNatClampNeg (rI (wI σ16 344 (Int32.toNatClampNeg (rI σ16 324 32)) a1) 324 32)) a2) 346 (Int32.toNatClampNeg (rI (wI (wI σ16 344 (Int32.toNatClampNeg (rI σ16 324 32)) a1) 345 (Int32.toNatClampNeg (rI (wI σ16 344 (Int32.toNatClampNeg (rI σ16 324 32)) a1) 324 32)) a2) 324 32)) a3) 347 (Int32.toNatClampNeg (rI (wI (wI (wI σ16 344 (Int32.toNatClampNeg (rI σ16 324 32)) a1) 345 (Int32.toNatClampNeg (rI (wI σ16 344 (Int32.toNatClampNeg (rI σ16 324 32)) a1) 324 32)) a2) 346 (Int32.toNatClampNeg (rI (wI (wI σ16 344 (Int32.toNatClampNeg (rI σ16 324 32)) a1) 345 (Int32.toNatClampNeg (rI (wI σ16 344 (Int32.toNatClampNeg (rI σ16 324 32)) a1) 324 32)) a2) 324 32)) a3) 324 32)) (vp_nar .boolean a4)) 324 1)) 349 (Int32.toNatClampNeg (rI (wI (wI (wI (wI (wI σ16 344 (Int32.toNatClampNeg (rI σ16 324 32)) a1) 345 (Int32.toNatClampNeg (rI (wI σ16 344 (Int32.toNatClampNeg (rI σ16 324 32)) a1) 324 32)) a2) 346 (Int32.toNatClampNeg (rI (wI (wI σ16 344 (Int32.toNatClampNeg (rI σ16 324 32)) a1) 345 (Int32.toNatClampNeg (rI (wI σ16 344 (Int32.toNatClampNeg (rI σ16 324 32)) a1) 324 32)) a2) 324 32)) a3) 347 (Int32.toNatClampNeg (rI (wI (wI (wI σ16 344 (Int32.toNatClampNeg (rI σ16 324 32)) a1) 345 (Int32.toNatClampNeg (rI (wI σ16 344 (Int32.toNatClampNeg (rI σ16 324 32)) a1) 324 32)) a2) 346 (Int32.toNatClampNeg (rI (wI (wI σ16 344 (Int32.toNatClampNeg (rI σ16 324 32)) a1) 345 (Int32.toNatClampNeg (rI (wI σ16 344 (Int32.toNatClampNeg (rI σ16 324 32)) a1) 324 32)) a2) 324 32)) a3) 324 32)) (vp_nar .boolean a4)) 348 (Int32.toNatClampNeg (rI (wI (wI (wI (wI σ16 344 (Int32.toNatClampNeg (rI σ16 324 32)) a1) 345 (Int32.toNatClampNeg (rI (wI σ16 344 (Int32.toNatClampNeg (rI σ16 324 32)) a1) 324 32)) a2) 346 (Int32.toNatClampNeg (rI (wI (wI σ16 344 (Int32.toNatClampNeg (rI σ16 324 32)) a1) 345 (Int32.toNatClampNeg (rI (wI σ16 344 (Int32.toNatClampNeg (rI σ16 324 32)) a1) 324 32)) a2) 324 32)) a3) 347 (Int32.toNatClampNeg (rI (wI (wI (wI σ16 344 (Int32.toNatClampNeg (rI σ16 324 32)) a1) 345 (Int32.toNatClampNeg (rI (wI σ16 344 (Int32.toNatClampNeg (rI σ16 324 32)) a1) 324 32)) a2) 346 (Int32.toNatClampNeg (rI (wI (wI σ16 344 (Int32.toNatClampNeg (rI σ16 324 32)) a1) 345 (Int32.toNatClampNeg (rI (wI σ16 344 (Int32.toNatClampNeg (rI σ16 324 32)) a1) 324 32)) a2) 324 32)) a3) 324 32)) (vp_nar .boolean a4)) 324 32)) (rI (wI (wI (wI (wI σ16 344 (Int32.toNatClampNeg (rI σ16 324 32)) a1) 345 (Int32.toNatClampNeg (rI (wI σ16 344 (Int32.toNatClampNeg (rI σ16 324 32)) a1) 324 32)) a2) 346 (Int32.toNatClampNeg (rI (wI (wI σ16 344 (Int32.toNatClampNeg (rI σ16 324 32)) a1) 345 (Int32.toNatClampNeg (rI (wI σ16 344 (Int32.toNatClampNeg (rI σ16 324 32)) a1) 324 32)) a2) 324 32)) a3) 347 (Int32.toNatClampNeg (rI (wI (wI (wI σ16 344 (Int32.toNatClampNeg (rI σ16 324 32)) a1) 345 (Int32.toNatClampNeg (rI (wI σ16 344 (Int32.toNatClampNeg (rI σ16 324 32)) a1) 324 32)) a2) 346 (Int32.toNatClampNeg (rI (wI (wI σ16 344 (Int32.toNatClampNeg (rI σ16 324 32)) a1) 345 (Int32.toNatClampNeg (rI (wI σ16 344 (Int32.toNatClampNeg (rI σ16 324 32)) a1) 324 32)) a2) 324 32)) a3) 324 32)) (vp_nar .boolean a4)) 324 1)) 324 32)) 1000000) 324 32 ((rI (wI (wI (wI (wI (wI (wI σ16 344 (Int32.toNatClampNeg (rI σ16 324 32)) a1) 345 (Int32.toNatClampNeg (rI (wI σ16 344 (Int32.toNatClampNeg (rI σ16 324 32)) a1) 324 32)) a2) 346 (Int32.toNatClampNeg (rI (wI (wI σ16 344 (Int32.toNatClampNeg (rI σ16 324 32)) a1) 345 (Int32.toNatClampNeg (rI (wI σ16 344 (Int32.toNatClampNeg (rI σ16 324 32)) a1) 324 32)) a2) 324 32)) a3) 347 (Int32.toNatClampNeg (rI (wI (wI (wI σ16 344 (Int32.toNatClampNeg (rI σ16 324 32)) a1) 345 (Int32.toNatClampNeg (rI (wI σ16 344 (Int32.toNatClampNeg (rI σ16 324 32)) a1) 324 32)) a2) 346 (Int32.toNatClampNeg (rI (wI (wI σ16 344 (Int32.toNatClampNeg (rI σ16 324 32)) a1) 345 (Int32.toNatClampNeg (rI (wI σ16 344 (Int32.toNatClampNeg (rI σ16 324 32)) a1) 324 32)) a2) 324 32)) a3) 324 32)) (vp_nar .boolean a4)) 348 (Int32.toNatClampNeg (rI (wI (wI (wI (wI σ16 344 (Int32.toNatClampNeg (rI σ16 324 32)) a1) 345 (Int32.toNatClampNeg (rI (wI σ16 344 (Int32.toNatClampNeg (rI σ16 324 32)) a1) 324 32)) a2) 346 (Int32.toNatClampNeg (rI (wI (wI σ16 344 (Int32.toNatClampNeg (rI σ16 324 32)) a1) 345 (Int32.toNatClampNeg (rI (wI σ16 344 (Int32.toNatClampNeg (rI σ16 324 32)) a1) 324 32)) a2) 324 32)) a3) 347 (Int32.toNatClampNeg (rI (wI (wI (wI σ16 344 (Int32.toNatClampNeg (rI σ16 324 32)) a1) 345 (Int32.toNatClampNeg (rI (wI σ16 344 (Int32.toNatClampNeg (rI σ16 324 32)) a1) 324 32)) a2) 346 (Int32.toNatClampNeg (rI (wI (wI σ16 344 (Int32.toNatClampNeg (rI σ16 324 32)) a1) 345 (Int32.toNatClampNeg (rI (wI σ16 344 (Int32.toNatClampNeg (rI σ16 324 32)) a1) 324 32)) a2) 324 32)) a3) 324 32)) (vp_nar .boolean a4)) 324 32)) (rI (wI (wI (wI (wI σ16 344 (Int32.toNatClampNeg (rI σ16 324 32)) a1) 345 (Int32.toNatClampNeg (rI (wI σ16 344 (Int32.toNatClampNeg (rI σ16 324 32)) a1) 324 32)) a2) 346 (Int32.toNatClampNeg (rI (wI (wI σ16 344 (Int32.toNatClampNeg (rI σ16 324 32)) a1) 345 (Int32.toNatClampNeg (rI (wI σ16 344 (Int32.toNatClampNeg (rI σ16 324 32)) a1) 324 32)) a2) 324 32)) a3) 347 (Int32.toNatClampNeg (rI (wI (wI (wI σ16 344 (Int32.toNatClampNeg (rI σ16 324 32)) a1) 345 (Int32.toNatClampNeg (rI (wI σ16 344 (Int32.toNatClampNeg (rI σ16 324 32)) a1) 324 32)) a2) 346 (Int32.toNatClampNeg (rI (wI (wI σ16 344 (Int32.toNatClampNeg (rI σ16 324 32)) a1) 345 (Int32.toNatClampNeg (rI (wI σ16 344 (Int32.toNatClampNeg (rI σ16 324 32)) a1) 324 32)) a2) 324 32)) a3) 324 32)) (vp_nar .boolean a4)) 324 1)) 349 (Int32.toNatClampNeg (rI (wI (wI (wI (wI (wI σ16 344 (Int32.toNatClampNeg (rI σ16 324 32)) a1) 345 (Int32.toNatClampNeg (rI (wI σ16 344 (Int32.toNatClampNeg (rI σ16 324 32)) a1) 324 32)) a2) 346 (Int32.toNatClampNeg (rI (wI (wI σ16 344 (Int32.toNatClampNeg (rI σ16 324 32)) a1) 345 (Int32.toNatClampNeg (rI (wI σ16 344 (Int32.toNatClampNeg (rI σ16 324 32)) a1) 324 32)) a2) 324 32)) a3) 347 (Int32.toNatClampNeg (rI (wI (wI (wI σ16 344 (Int32.toNatClampNeg (rI σ16 324 32)) a1) 345 (Int32.toNatClampNeg (rI (wI σ16 344 (Int32.toNatClampNeg (rI σ16 324 32)) a1) 324 32)) a2) 346 (Int32.toNatClampNeg (rI (wI (wI σ16 344 (Int32.toNatClampNeg (rI σ16 324 32)) a1) 345 (Int32.toNatClampNeg (rI (wI σ16 344 (Int32.toNatClampNeg (rI σ16 324 32)) a1) 324 32)) a2) 324 32)) a3) 324 32)) (vp_nar .boolean a4)) 348 (Int32.toNatClampNeg (rI (wI (wI (wI (wI σ16 344 (Int32.toNatClampNeg (rI σ16 324 32)) a1) 345 (Int32.toNatClampNeg (rI (wI σ16 344 (Int32.toNatClampNeg (rI σ16 324 32)) a1) 324 32)) a2) 346 (Int32.toNatClampNeg (rI (wI (wI σ16 344 (Int32.toNatClampNeg (rI σ16 324 32)) a1) 345 (Int32.toNatClampNeg (rI (wI σ16 344 (Int32.toNatClampNeg (rI σ16 324 32)) a1) 324 32)) a2) 324 32)) a3) 347 (Int32.toNatClampNeg (rI (wI (wI (wI σ16 344 (Int32.toNatClampNeg (rI σ16 324 32)) a1) 345 (Int32.toNatClampNeg (rI (wI σ16 344 (Int32.toNatClampNeg (rI σ16 324 32)) a1) 324 32)) a2) 346 (Int32.toNatClampNeg (rI (wI (wI σ16 344 (Int32.toNatClampNeg (rI σ16 324 32)) a1) 345 (Int32.toNatClampNeg (rI (wI σ16 344 (Int32.toNatClampNeg (rI σ16 324 32)) a1) 324 32)) a2) 324 32)) a3) 324 32)) (vp_nar .boolean a4)) 324 32)) (rI (wI (wI (wI (wI σ16 344 (Int32.toNatClampNeg (rI σ16 324 32)) a1) 345 (Int32.toNatClampNeg (rI (wI σ16 344 (Int32.toNatClampNeg (rI σ16 324 32)) a1) 324 32)) a2) 346 (Int32.toNatClampNeg (rI (wI (wI σ16 344 (Int32.toNatClampNeg (rI σ16 324 32)) a1) 345 (Int32.toNatClampNeg (rI (wI σ16 344 (Int32.toNatClampNeg (rI σ16 324 32)) a1) 324 32)) a2) 324 32)) a3) 347 (Int32.toNatClampNeg (rI (wI (wI (wI σ16 344 (Int32.toNatClampNeg (rI σ16 324 32)) a1) 345 (Int32.toNatClampNeg (rI (wI σ16 344 (Int32.toNatClampNeg (rI σ16 324 32)) a1) 324 32)) a2) 346 (Int32.toNatClampNeg (rI (wI (wI σ16 344 (Int32.toNatClampNeg (rI σ16 324 32)) a1) 345 (Int32.toNatClampNeg (rI (wI σ16 344 (Int32.toNatClampNeg (rI σ16 324 32)) a1) 324 32)) a2) 324 32)) a3) 324 32)) (vp_nar .boolean a4)) 324 1)) 324 32)) 1000000) 324 32) + 1)) 324 32) - 1), wI (wI (wI (wI (wI (wI (wI σ16 344 (Int32.toNatClampNeg (rI σ16 324 32)) a1) 345 (Int32.toNatClampNeg (rI (wI σ16 344 (Int32.toNatClampNeg (rI σ16 324 32)) a1) 324 32)) a2) 346 (Int32.toNatClampNeg (rI (wI (wI σ16 344 (Int32.toNatClampNeg (rI σ16 324 32)) a1) 345 (Int32.toNatClampNeg (rI (wI σ16 344 (Int32.toNatClampNeg (rI σ16 324 32)) a1) 324 32)) a2) 324 32)) a3) 347 (Int32.toNatClampNeg (rI (wI (wI (wI σ16 344 (Int32.toNatClampNeg (rI σ16 324 32)) a1) 345 (Int32.toNatClampNeg (rI (wI σ16 344 (Int32.toNatClampNeg (rI σ16 324 32)) a1) 324 32)) a2) 346 (Int32.toNatClampNeg (rI (wI (wI σ16 344 (Int32.toNatClampNeg (rI σ16 324 32)) a1) 345 (Int32.toNatClampNeg (rI (wI σ16 344 (Int32.toNatClampNeg (rI σ16 324 32)) a1) 324 32)) a2) 324 32)) a3) 324 32)) (vp_nar .boolean a4)) 348 (Int32.toNatClampNeg (rI (wI (wI (wI (wI σ16 344 (Int32.toNatClampNeg (rI σ16 324 32)) a1) 345 (Int32.toNatClampNeg (rI (wI σ16 344 (Int32.toNatClampNeg (rI σ16 324 32)) a1) 324 32)) a2) 346 (Int32.toNatClampNeg (rI (wI (wI σ16 344 (Int32.toNatClampNeg (rI σ16 324 32)) a1) 345 (Int32.toNatClampNeg (rI (wI σ16 344 (Int32.toNatClampNeg (rI σ16 324 32)) a1) 324 32)) a2) 324 32)) a3) 347 (Int32.toNatClampNeg (rI (wI (wI (wI σ16 344 (Int32.toNatClampNeg (rI σ16 324 32)) a1) 345 (Int32.toNatClampNeg (rI (wI σ16 344 (Int32.toNatClampNeg (rI σ16 324 32)) a1) 324 32)) a2) 346 (Int32.toNatClampNeg (rI (wI (wI σ16 344 (Int32.toNatClampNeg (rI σ16 324 32)) a1) 345 (Int32.toNatClampNeg (rI (wI σ16 344 (Int32.toNatClampNeg (rI σ16 324 32)) a1) 324 32)) a2) 324 32)) a3) 324 32)) (vp_nar .boolean a4)) 324 32)) (rI (wI (wI (wI (wI σ16 344 (Int32.toNatClampNeg (rI σ16 324 32)) a1) 345 (Int32.toNatClampNeg (rI (wI σ16 344 (Int32.toNatClampNeg (rI σ16 324 32)) a1) 324 32)) a2) 346 (Int32.toNatClampNeg (rI (wI (wI σ16 344 (Int32.toNatClampNeg (rI σ16 324 32)) a1) 345 (Int32.toNatClampNeg (rI (wI σ16 344 (Int32.toNatClampNeg (rI σ16 324 32)) a1) 324 32)) a2) 324 32)) a3) 347 (Int32.toNatClampNeg (rI (wI (wI (wI σ16 344 (Int32.toNatClampNeg (rI σ16 324 32)) a1) 345 (Int32.toNatClampNeg (rI (wI σ16 344 (Int32.toNatClampNeg (rI σ16 324 32)) a1) 324 32)) a2) 346 (Int32.toNatClampNeg (rI (wI (wI σ16 344 (Int32.toNatClampNeg (rI σ16 324 32)) a1) 345 (Int32.toNatClampNeg (rI (wI σ16 344 (Int32.toNatClampNeg (rI σ16 324 32)) a1) 324 32)) a2) 324 32)) a3) 324 32)) (vp_nar .boolean a4)) 324 1)) 349 (Int32.toNatClampNeg (rI (wI (wI (wI (wI (wI σ16 344 (Int32.toNatClampNeg (rI σ16 324 32)) a1) 345 (Int32.toNatClampNeg (rI (wI σ16 344 (Int32.toNatClampNeg (rI σ16 324 32)) a1) 324 32)) a2) 346 (Int32.toNatClampNeg (rI (wI (wI σ16 344 (Int32.toNatClampNeg (rI σ16 324 32)) a1) 345 (Int32.toNatClampNeg (rI (wI σ16 344 (Int32.toNatClampNeg (rI σ16 324 32)) a1) 324 32)) a2) 324 32)) a3) 347 (Int32.toNatClampNeg (rI (wI (wI (wI σ16 344 (Int32.toNatClampNeg (rI σ16 324 32)) a1) 345 (Int32.toNatClampNeg (rI (wI σ16 344 (Int32.toNatClampNeg (rI σ16 324 32)) a1) 324 32)) a2) 346 (Int32.toNatClampNeg (rI (wI (wI σ16 344 (Int32.toNatClampNeg (rI σ16 324 32)) a1) 345 (Int32.toNatClampNeg (rI (wI σ16 344 (Int32.toNatClampNeg (rI σ16 324 32)) a1) 324 32)) a2) 324 32)) a3) 324 32)) (vp_nar .boolean a4)) 348 (Int32.toNatClampNeg (rI (wI (wI (wI (wI σ16 344 (Int32.toNatClampNeg (rI σ16 324 32)) a1) 345 (Int32.toNatClampNeg (rI (wI σ16 344 (Int32.toNatClampNeg (rI σ16 324 32)) a1) 324 32)) a2) 346 (Int32.toNatClampNeg (rI (wI (wI σ16 344 (Int32.toNatClampNeg (rI σ16 324 32)) a1) 345 (Int32.toNatClampNeg (rI (wI σ16 344 (Int32.toNatClampNeg (rI σ16 324 32)) a1) 324 32)) a2) 324 32)) a3) 347 (Int32.toNatClampNeg (rI (wI (wI (wI σ16 344 (Int32.toNatClampNeg (rI σ16 324 32)) a1) 345 (Int32.toNatClampNeg (rI (wI σ16 344 (Int32.toNatClampNeg (rI σ16 324 32)) a1) 324 32)) a2) 346 (Int32.toNatClampNeg (rI (wI (wI σ16 344 (Int32.toNatClampNeg (rI σ16 324 32)) a1) 345 (Int32.toNatClampNeg (rI (wI σ16 344 (Int32.toNatClampNeg (rI σ16 324 32)) a1) 324 32)) a2) 324 32)) a3) 324 32)) (vp_nar .boolean a4)) 324 32)) (rI (wI (wI (wI (wI σ16 344 (Int32.toNatClampNeg (rI σ16 324 32)) a1) 345 (Int32.toNatClampNeg (rI (wI σ16 344 (Int32.toNatClampNeg (rI σ16 324 32)) a1) 324 32)) a2) 346 (Int32.toNatClampNeg (rI (wI (wI σ16 344 (Int32.toNatClampNeg (rI σ16 324 32)) a1) 345 (Int32.toNatClampNeg (rI (wI σ16 344 (Int32.toNatClampNeg (rI σ16 324 32)) a1) 324 32)) a2) 324 32)) a3) 347 (Int32.toNatClampNeg (rI (wI (wI (wI σ16 344 (Int32.toNatClampNeg (rI σ16 324 32)) a1) 345 (Int32.toNatClampNeg (rI (wI σ16 344 (Int32.toNatClampNeg (rI σ16 324 32)) a1) 324 32)) a2) 346 (Int32.toNatClampNeg (rI (wI (wI σ16 344 (Int32.toNatClampNeg (rI σ16 324 32)) a1) 345 (Int32.toNatClampNeg (rI (wI σ16 344 (Int32.toNatClampNeg (rI σ16 324 32)) a1) 324 32)) a2) 324 32)) a3) 324 32)) (vp_nar .boolean a4)) 324 1)) 324 32)) 1000000) 324 32 ((rI (wI (wI (wI (wI (wI (wI σ16 344 (Int32.toNatClampNeg (rI σ16 324 32)) a1) 345 (Int32.toNatClampNeg (rI (wI σ16 344 (Int32.toNatClampNeg (rI σ16 324 32)) a1) 324 32)) a2) 346 (Int32.toNatClampNeg (rI (wI (wI σ16 344 (Int32.toNatClampNeg (rI σ16 324 32)) a1) 345 (Int32.toNatClampNeg (rI (wI σ16 344 (Int32.toNatClampNeg (rI σ16 324 32)) a1) 324 32)) a2) 324 32)) a3) 347 (Int32.toNatClampNeg (rI (wI (wI (wI σ16 344 (Int32.toNatClampNeg (rI σ16 324 32)) a1) 345 (Int32.toNatClampNeg (rI (wI σ16 344 (Int32.toNatClampNeg (rI σ16 324 32)) a1) 324 32)) a2) 346 (Int32.toNatClampNeg (rI (wI (wI σ16 344 (Int32.toNatClampNeg (rI σ16 324 32)) a1) 345 (Int32.toNatClampNeg (rI (wI σ16 344 (Int32.toNatClampNeg (rI σ16 324 32)) a1) 324 32)) a2) 324 32)) a3) 324 32)) (vp_nar .boolean a4)) 348 (Int32.toNatClampNeg (rI (wI (wI (wI (wI σ16 344 (Int32.toNatClampNeg (rI σ16 324 32)) a1) 345 (Int32.toNatClampNeg (rI (wI σ16 344 (Int32.toNatClampNeg (rI σ16 324 32)) a1) 324 32)) a2) 346 (Int32.toNatClampNeg (rI (wI (wI σ16 344 (Int32.toNatClampNeg (rI σ16 324 32)) a1) 345 (Int32.toNatClampNeg (rI (wI σ16 344 (Int32.toNatClampNeg (rI σ16 324 32)) a1) 324 32)) a2) 324 32)) a3) 347 (Int32.toNatClampNeg (rI (wI (wI (wI σ16 344 (Int32.toNatClampNeg (rI σ16 324 32)) a1) 345 (Int32.toNatClampNeg (rI (wI σ16 344 (Int32.toNatClampNeg (rI σ16 324 32)) a1) 324 32)) a2) 346 (Int32.toNatClampNeg (rI (wI (wI σ16 344 (Int32.toNatClampNeg (rI σ16 324 32)) a1) 345 (Int32.toNatClampNeg (rI (wI σ16 344 (Int32.toNatClampNeg (rI σ16 324 32)) a1) 324 32)) a2) 324 32)) a3) 324 32)) (vp_nar .boolean a4)) 324 32)) (rI (wI (wI (wI (wI σ16 344 (Int32.toNatClampNeg (rI σ16 324 32)) a1) 345 (Int32.toNatClampNeg (rI (wI σ16 344 (Int32.toNatClampNeg (rI σ16 324 32)) a1) 324 32)) a2) 346 (Int32.toNatClampNeg (rI (wI (wI σ16 344 (Int32.toNatClampNeg (rI σ16 324 32)) a1) 345 (Int32.toNatClampNeg (rI (wI σ16 344 (Int32.toNatClampNeg (rI σ16 324 32)) a1) 324 32)) a2) 324 32)) a3) 347 (Int32.toNatClampNeg (rI (wI (wI (wI σ16 344 (Int32.toNatClampNeg (rI σ16 324 32)) a1) 345 (Int32.toNatClampNeg (rI (wI σ16 344 (Int32.toNatClampNeg (rI σ16 324 32)) a1) 324 32)) a2) 346 (Int32.toNatClampNeg (rI (wI (wI σ16 344 (Int32.toNatClampNeg (rI σ16 324 32)) a1) 345 (Int32.toNatClampNeg (rI (wI σ16 344 (Int32.toNatClampNeg (rI σ16 324 32)) a1) 324 32)) a2) 324 32)) a3) 324 32)) (vp_nar .boolean a4)) 324 1)) 349 (Int32.toNatClampNeg (rI (wI (wI (wI (wI (wI σ16 344 (Int32.toNatClampNeg (rI σ16 324 32)) a1) 345 (Int32.toNatClampNeg (rI (wI σ16 344 (Int32.toNatClampNeg (rI σ16 324 32)) a1) 324 32)) a2) 346 (Int32.toNatClampNeg (rI (wI (wI σ16 344 (Int32.toNatClampNeg (rI σ16 324 32)) a1) 345 (Int32.toNatClampNeg (rI (wI σ16 344 (Int32.toNatClampNeg (rI σ16 324 32)) a1) 324 32)) a2) 324 32)) a3) 347 (Int32.toNatClampNeg (rI (wI (wI (wI σ16 344 (Int32.toNatClampNeg (rI σ16 324 32)) a1) 345 (Int32.toNatClampNeg (rI (wI σ16 344 (Int32.toNatClampNeg (rI σ16 324 32)) a1) 324 32)) a2) 346 (Int32.toNatClampNeg (rI (wI (wI σ16 344 (Int32.toNatClampNeg (rI σ16 324 32)) a1) 345 (Int32.toNatClampNeg (rI (wI σ16 344 (Int32.toNatClampNeg (rI σ16 324 32)) a1) 324 32)) a2) 324 32)) a3) 324 32)) (vp_nar .boolean a4)) 348 (Int32.toNatClampNeg (rI (wI (wI (wI (wI σ16 344 (Int32.toNatClampNeg (rI σ16 324 32)) a1) 345 (Int32.toNatClampNeg (rI (wI σ16 344 (Int32.toNatClampNeg (rI σ16 324 32)) a1) 324 32)) a2) 346 (Int32.toNatClampNeg (rI (wI (wI σ16 344 (Int32.toNatClampNeg (rI σ16 324 32)) a1) 345 (Int32.toNatClampNeg (rI (wI σ16 344 (Int32.toNatClampNeg (rI σ16 324 32)) a1) 324 32)) a2) 324 32)) a3) 347 (Int32.toNatClampNeg (rI (wI (wI (wI σ16 344 (Int32.toNatClampNeg (rI σ16 324 32)) a1) 345 (Int32.toNatClampNeg (rI (wI σ16 344 (Int32.toNatClampNeg (rI σ16 324 32)) a1) 324 32)) a2) 346 (Int32.toNatClampNeg (rI (wI (wI σ16 344 (Int32.toNatClampNeg (rI σ16 324 32)) a1) 345 (Int32.toNatClampNeg (rI (wI σ16 344 (Int32.toNatClampNeg (rI σ16 324 32)) a1) 324 32)) a2) 324 32)) a3) 324 32)) (vp_nar .boolean a4)) 324 32)) (rI (wI (wI (wI (wI σ16 344 (Int32.toNatClampNeg (rI σ16 324 32)) a1) 345 (Int32.toNatClampNeg (rI (wI σ16 344 (Int32.toNatClampNeg (rI σ16 324 32)) a1) 324 32)) a2) 346 (Int32.toNatClampNeg (rI (wI (wI σ16 344 (Int32.toNatClampNeg (rI σ16 324 32)) a1) 345 (Int32.toNatClampNeg (rI (wI σ16 344 (Int32.toNatClampNeg (rI σ16 324 32)) a1) 324 32)) a2) 324 32)) a3) 347 (Int32.toNatClampNeg (rI (wI (wI (wI σ16 344 (Int32.toNatClampNeg (rI σ16 324 32)) a1) 345 (Int32.toNatClampNeg (rI (wI σ16 344 (Int32.toNatClampNeg (rI σ16 324 32)) a1) 324 32)) a2) 346 (Int32.toNatClampNeg (rI (wI (wI σ16 344 (Int32.toNatClampNeg (rI σ16 324 32)) a1) 345 (Int32.toNatClampNeg (rI (wI σ16 344 (Int32.toNatClampNeg (rI σ16 324 32)) a1) 324 32)) a2) 324 32)) a3) 324 32)) (vp_nar .boolean a4)) 324 1)) 324 32)) 1000000) 324 32) + 1))))))))))))))))
set_option maxRecDepth 20000 in
set_option maxHeartbeats 4000000 in
theorem t_X13_share_42   (σ : jM) (r : Int32 × jM)  (h : f_X13_share_42   σ = some r) : J mi_X13_share 2 0 0 (jqI r) 42 [] [] (ms σ) := by
  unfold f_X13_share_42 at h
  refine J_iconst (v := (-1)) dX13_share_42 (by decide) ?_
  exact J_ret (v := some (.int (-1))) rfl ⟨dX13_share_43, Or.inl rfl⟩ (jqI_mk h)
set_option maxRecDepth 20000 in
set_option maxHeartbeats 4000000 in
theorem t_X13_share {a1 : Int32} {a2 : Int32} {a3 : Int32} {a4 : Int32} {σ : jM} {r : Int32 × jM}  (h : f_X13_share a1 a2 a3 a4 σ = some r) : J mi_X13_share 2 0 0 (jqI r) 0 [(0, .ref 324), (1, .int a1), (2, .int a2), (3, .int a3), (4, .int a4)] [] (ms σ) := by
  unfold f_X13_share at h
  refine J_aload_n 0 dX13_share_0 rfl ?_
  refine J_iconst (v := 0) dX13_share_1 (by decide) ?_
  refine M_putI pf_X13_1_12 dX13_share_2 k_324 n_324 ⟨rfl, rfl⟩ ?_
  refine J_iload_n 1 dX13_share_5 rfl ?_
  refine J_iconst (v := 0) dX13_share_6 (by decide) ?_
  refine J_iconst (v := 1) dX13_share_7 (by decide) ?_
  obtain ⟨r7, σ8, h9, h⟩ := bd_inv h
  refine M_callSI (d' := 1) (As := [.int a1, .int 0, .int 1]) (st := []) cs_X13_169 dX13_share_8 rfl (Nat.le_of_ble_eq_true rfl) (Nat.le_of_ble_eq_true rfl) (by decide) rfl rfl (t_X13_within  h9) ?_
  refine J_if_eq (tgt := 42) dX13_share_11 (by decide) (fun c10 => ?_) (fun c10 => ?_)
  · have h := (if_pos c10).symm.trans h
    refine J_pick [] rfl ?_
    exact t_X13_share_42   _ _  h
  · have h := (if_neg c10).symm.trans h
    refine J_iload_n 2 dX13_share_14 rfl ?_
    obtain ⟨r11, σ12, h13, h⟩ := bd_inv h
    refine M_callSI (d' := 1) (As := [.int a2]) (st := []) cs_X13_288 dX13_share_15 rfl (Nat.le_of_ble_eq_true rfl) (Nat.le_of_ble_eq_true rfl) (by decide) rfl rfl (t_X13_isSignNumber  h13) ?_
    refine J_if_eq (tgt := 42) dX13_share_18 (by decide) (fun c14 => ?_) (fun c14 => ?_)
    · have h := (if_pos c14).symm.trans h
      refine J_pick [] rfl ?_
      exact t_X13_share_42   _ _  h
    · have h := (if_neg c14).symm.trans h
      refine J_iload_n 3 dX13_share_21 rfl ?_
      obtain ⟨r15, σ16, h17, h⟩ := bd_inv h
      refine M_callSI (d' := 1) (As := [.int a3]) (st := []) cs_X13_288 dX13_share_22 rfl (Nat.le_of_ble_eq_true rfl) (Nat.le_of_ble_eq_true rfl) (by decide) rfl rfl (t_X13_isSignNumber  h17) ?_
      refine J_if_eq (tgt := 42) dX13_share_25 (by decide) (fun c18 => ?_) (fun c18 => ?_)
      · have h := (if_pos c18).symm.trans h
        refine J_pick [] rfl ?_
        exact t_X13_share_42   _ _  h
      · have h := (if_neg c18).symm.trans h
        refine J_iload_n 2 dX13_share_28 rfl ?_
        refine J_iload_n 3 dX13_share_29 rfl ?_
        refine J_icmp_eq (tgt := 42) dX13_share_30 (by decide) (fun c19 => ?_) (fun c19 => ?_)
        · have h := (if_pos c19).symm.trans h
          refine J_pick [] rfl ?_
          exact t_X13_share_42   _ _  h
        · have h := (if_neg c19).symm.trans h
          refine J_aload_n 0 dX13_share_33 rfl ?_
          refine M_getI gf_X13_304_12 dX13_share_34 k_324 n_324 ?_
          refine J_bipush (v := 60) dX13_share_37 (by decide) ?_
          refine J_icmp_ne (tgt := 44) dX13_share_39 (by decide) (fun c20 => ?_) (fun c20 => ?_)
          · have h := (if_neg c20).symm.trans h
            refine J_aload_n 0 dX13_share_44 rfl ?_
            refine M_getR gf_X13_75_12 dX13_share_45 (g_324_33 _) k_324 n_324 ?_
            refine J_aload_n 0 dX13_share_48 rfl ?_
            refine M_getI gf_X13_304_12 dX13_share_49 k_324 n_324 ?_
            refine J_iload_n 1 dX13_share_52 rfl ?_
            obtain ⟨g21, h⟩ := gd_inv h
            refine M_iast dX13_share_53 a_344 n_344 g21 ?_
            refine J_aload_n 0 dX13_share_54 rfl ?_
            refine M_getR gf_X13_78_12 dX13_share_55 (g_324_34 _) k_324 n_324 ?_
            refine J_aload_n 0 dX13_share_58 rfl ?_
            refine M_getI gf_X13_304_12 dX13_share_59 k_324 n_324 ?_
            refine J_iload_n 2 dX13_share_62 rfl ?_
            obtain ⟨g22, h⟩ := gd_inv h
            refine M_iast dX13_share_63 a_345 n_345 g22 ?_
            refine J_aload_n 0 dX13_share_64 rfl ?_
            refine M_getR gf_X13_81_12 dX13_share_65 (g_324_35 _) k_324 n_324 ?_
            refine J_aload_n 0 dX13_share_68 rfl ?_
            refine M_getI gf_X13_304_12 dX13_share_69 k_324 n_324 ?_
            refine J_iload_n 3 dX13_share_72 rfl ?_
            obtain ⟨g23, h⟩ := gd_inv h
            refine M_iast dX13_share_73 a_346 n_346 g23 ?_
            refine J_aload_n 0 dX13_share_74 rfl ?_
            refine M_getR gf_X13_84_12 dX13_share_75 (g_324_36 _) k_324 n_324 ?_
            refine J_aload_n 0 dX13_share_78 rfl ?_
            refine M_getI gf_X13_304_12 dX13_share_79 k_324 n_324 ?_
            refine J_iload 4 dX13_share_82 rfl ?_
            obtain ⟨g24, h⟩ := gd_inv h
            refine M_zast dX13_share_84 a_347 n_347 g24 ?_
            refine J_aload_n 0 dX13_share_85 rfl ?_
            refine M_getR gf_X13_88_12 dX13_share_86 (g_324_37 _) k_324 n_324 ?_
            refine J_aload_n 0 dX13_share_89 rfl ?_
            refine M_getI gf_X13_304_12 dX13_share_90 k_324 n_324 ?_
            refine J_aload_n 0 dX13_share_93 rfl ?_
            refine M_getI gf_X13_173_12 dX13_share_94 k_324 n_324 ?_
            obtain ⟨g25, h⟩ := gd_inv h
            refine M_iast dX13_share_97 a_348 n_348 g25 ?_
            refine J_aload_n 0 dX13_share_98 rfl ?_
            refine M_getR gf_X13_91_12 dX13_share_99 (g_324_38 _) k_324 n_324 ?_
            refine J_aload_n 0 dX13_share_102 rfl ?_
            refine M_getI gf_X13_304_12 dX13_share_103 k_324 n_324 ?_
            refine J_ldc dX13_share_106 ct_X13_255 ?_
            obtain ⟨g26, h⟩ := gd_inv h
            refine M_iast dX13_share_108 a_349 n_349 g26 ?_
            refine J_aload_n 0 dX13_share_109 rfl ?_
            refine J_dup dX13_share_110 rfl ?_
            refine M_getI gf_X13_304_12 dX13_share_111 k_324 n_324 ?_
            refine J_iconst (v := 1) dX13_share_114 (by decide) ?_
            refine J_iadd dX13_share_115 ?_
            refine M_putI pf_X13_304_12 dX13_share_116 k_324 n_324 ⟨rfl, rfl⟩ ?_
            refine J_aload_n 0 dX13_share_119 rfl ?_
            refine M_getI gf_X13_304_12 dX13_share_120 k_324 n_324 ?_
            refine J_iconst (v := 1) dX13_share_123 (by decide) ?_
            refine J_isub dX13_share_124 ?_
            exact J_ret (v := some (.int ((rI (wI (wI (wI (wI (wI (wI (wI σ16 344 (Int32.toNatClampNeg (rI σ16 324 32)) a1) 345 (Int32.toNatClampNeg (rI (wI σ16 344 (Int32.toNatClampNeg (rI σ16 324 32)) a1) 324 32)) a2) 346 (Int32.toNatClampNeg (rI (wI (wI σ16 344 (Int32.toNatClampNeg (rI σ16 324 32)) a1) 345 (Int32.toNatClampNeg (rI (wI σ16 344 (Int32.toNatClampNeg (rI σ16 324 32)) a1) 324 32)) a2) 324 32)) a3) 347 (Int32.toNatClampNeg (rI (wI (wI (wI σ16 344 (Int32.toNatClampNeg (rI σ16 324 32)) a1) 345 (Int32.toNatClampNeg (rI (wI σ16 344 (Int32.toNatClampNeg (rI σ16 324 32)) a1) 324 32)) a2) 346 (Int32.toNatClampNeg (rI (wI (wI σ16 344 (Int32.toNatClampNeg (rI σ16 324 32)) a1) 345 (Int32.toNatClampNeg (rI (wI σ16 344 (Int32.toNatClampNeg (rI σ16 324 32)) a1) 324 32)) a2) 324 32)) a3) 324 32)) (vp_nar .boolean a4)) 348 (Int32.toNatClampNeg (rI (wI (wI (wI (wI σ16 344 (Int32.toNatClampNeg (rI σ16 324 32)) a1) 345 (Int32.toNatClampNeg (rI (wI σ16 344 (Int32.toNatClampNeg (rI σ16 324 32)) a1) 324 32)) a2) 346 (Int32.toNatClampNeg (rI (wI (wI σ16 344 (Int32.toNatClampNeg (rI σ16 324 32)) a1) 345 (Int32.toNatClampNeg (rI (wI σ16 344 (Int32.toNatClampNeg (rI σ16 324 32)) a1) 324 32)) a2) 324 32)) a3) 347 (Int32.toNatClampNeg (rI (wI (wI (wI σ16 344 (Int32.toNatClampNeg (rI σ16 324 32)) a1) 345 (Int32.toNatClampNeg (rI (wI σ16 344 (Int32.toNatClampNeg (rI σ16 324 32)) a1) 324 32)) a2) 346 (Int32.toNatClampNeg (rI (wI (wI σ16 344 (Int32.toNatClampNeg (rI σ16 324 32)) a1) 345 (Int32.toNatClampNeg (rI (wI σ16 344 (Int32.toNatClampNeg (rI σ16 324 32)) a1) 324 32)) a2) 324 32)) a3) 324 32)) (vp_nar .boolean a4)) 324 32)) (rI (wI (wI (wI (wI σ16 344 (Int32.toNatClampNeg (rI σ16 324 32)) a1) 345 (Int32.toNatClampNeg (rI (wI σ16 344 (Int32.toNatClampNeg (rI σ16 324 32)) a1) 324 32)) a2) 346 (Int32.toNatClampNeg (rI (wI (wI σ16 344 (Int32.toNatClampNeg (rI σ16 324 32)) a1) 345 (Int32.toNatClampNeg (rI (wI σ16 344 (Int32.toNatClampNeg (rI σ16 324 32)) a1) 324 32)) a2) 324 32)) a3) 347 (Int32.toNatClampNeg (rI (wI (wI (wI σ16 344 (Int32.toNatClampNeg (rI σ16 324 32)) a1) 345 (Int32.toNatClampNeg (rI (wI σ16 344 (Int32.toNatClampNeg (rI σ16 324 32)) a1) 324 32)) a2) 346 (Int32.toNatClampNeg (rI (wI (wI σ16 344 (Int32.toNatClampNeg (rI σ16 324 32)) a1) 345 (Int32.toNatClampNeg (rI (wI σ16 344 (Int32.toNatClampNeg (rI σ16 324 32)) a1) 324 32)) a2) 324 32)) a3) 324 32)) (vp_nar .boolean a4)) 324 1)) 349 (Int32.toNatClampNeg (rI (wI (wI (wI (wI (wI σ16 344 (Int32.toNatClampNeg (rI σ16 324 32)) a1) 345 (Int32.toNatClampNeg (rI (wI σ16 344 (Int32.toNatClampNeg (rI σ16 324 32)) a1) 324 32)) a2) 346 (Int32.toNatClampNeg (rI (wI (wI σ16 344 (Int32.toNatClampNeg (rI σ16 324 32)) a1) 345 (Int32.toNatClampNeg (rI (wI σ16 344 (Int32.toNatClampNeg (rI σ16 324 32)) a1) 324 32)) a2) 324 32)) a3) 347 (Int32.toNatClampNeg (rI (wI (wI (wI σ16 344 (Int32.toNatClampNeg (rI σ16 324 32)) a1) 345 (Int32.toNatClampNeg (rI (wI σ16 344 (Int32.toNatClampNeg (rI σ16 324 32)) a1) 324 32)) a2) 346 (Int32.toNatClampNeg (rI (wI (wI σ16 344 (Int32.toNatClampNeg (rI σ16 324 32)) a1) 345 (Int32.toNatClampNeg (rI (wI σ16 344 (Int32.toNatClampNeg (rI σ16 324 32)) a1) 324 32)) a2) 324 32)) a3) 324 32)) (vp_nar .boolean a4)) 348 (Int32.toNatClampNeg (rI (wI (wI (wI (wI σ16 344 (Int32.toNatClampNeg (rI σ16 324 32)) a1) 345 (Int32.toNatClampNeg (rI (wI σ16 344 (Int32.toNatClampNeg (rI σ16 324 32)) a1) 324 32)) a2) 346 (Int32.toNatClampNeg (rI (wI (wI σ16 344 (Int32.toNatClampNeg (rI σ16 324 32)) a1) 345 (Int32.toNatClampNeg (rI (wI σ16 344 (Int32.toNatClampNeg (rI σ16 324 32)) a1) 324 32)) a2) 324 32)) a3) 347 (Int32.toNatClampNeg (rI (wI (wI (wI σ16 344 (Int32.toNatClampNeg (rI σ16 324 32)) a1) 345 (Int32.toNatClampNeg (rI (wI σ16 344 (Int32.toNatClampNeg (rI σ16 324 32)) a1) 324 32)) a2) 346 (Int32.toNatClampNeg (rI (wI (wI σ16 344 (Int32.toNatClampNeg (rI σ16 324 32)) a1) 345 (Int32.toNatClampNeg (rI (wI σ16 344 (Int32.toNatClampNeg (rI σ16 324 32)) a1) 324 32)) a2) 324 32)) a3) 324 32)) (vp_nar .boolean a4)) 324 32)) (rI (wI (wI (wI (wI σ16 344 (Int32.toNatClampNeg (rI σ16 324 32)) a1) 345 (Int32.toNatClampNeg (rI (wI σ16 344 (Int32.toNatClampNeg (rI σ16 324 32)) a1) 324 32)) a2) 346 (Int32.toNatClampNeg (rI (wI (wI σ16 344 (Int32.toNatClampNeg (rI σ16 324 32)) a1) 345 (Int32.toNatClampNeg (rI (wI σ16 344 (Int32.toNatClampNeg (rI σ16 324 32)) a1) 324 32)) a2) 324 32)) a3) 347 (Int32.toNatClampNeg (rI (wI (wI (wI σ16 344 (Int32.toNatClampNeg (rI σ16 324 32)) a1) 345 (Int32.toNatClampNeg (rI (wI σ16 344 (Int32.toNatClampNeg (rI σ16 324 32)) a1) 324 32)) a2) 346 (Int32.toNatClampNeg (rI (wI (wI σ16 344 (Int32.toNatClampNeg (rI σ16 324 32)) a1) 345 (Int32.toNatClampNeg (rI (wI σ16 344 (Int32.toNatClampNeg (rI σ16 324 32)) a1) 324 32)) a2) 324 32)) a3) 324 32)) (vp_nar .boolean a4)) 324 1)) 324 32)) 1000000) 324 32 ((rI (wI (wI (wI (wI (wI (wI σ16 344 (Int32.toNatClampNeg (rI σ16 324 32)) a1) 345 (Int32.toNatClampNeg (rI (wI σ16 344 (Int32.toNatClampNeg (rI σ16 324 32)) a1) 324 32)) a2) 346 (Int32.toNatClampNeg (rI (wI (wI σ16 344 (Int32.toNatClampNeg (rI σ16 324 32)) a1) 345 (Int32.toNatClampNeg (rI (wI σ16 344 (Int32.toNatClampNeg (rI σ16 324 32)) a1) 324 32)) a2) 324 32)) a3) 347 (Int32.toNatClampNeg (rI (wI (wI (wI σ16 344 (Int32.toNatClampNeg (rI σ16 324 32)) a1) 345 (Int32.toNatClampNeg (rI (wI σ16 344 (Int32.toNatClampNeg (rI σ16 324 32)) a1) 324 32)) a2) 346 (Int32.toNatClampNeg (rI (wI (wI σ16 344 (Int32.toNatClampNeg (rI σ16 324 32)) a1) 345 (Int32.toNatClampNeg (rI (wI σ16 344 (Int32.toNatClampNeg (rI σ16 324 32)) a1) 324 32)) a2) 324 32)) a3) 324 32)) (vp_nar .boolean a4)) 348 (Int32.toNatClampNeg (rI (wI (wI (wI (wI σ16 344 (Int32.toNatClampNeg (rI σ16 324 32)) a1) 345 (Int32.toNatClampNeg (rI (wI σ16 344 (Int32.toNatClampNeg (rI σ16 324 32)) a1) 324 32)) a2) 346 (Int32.toNatClampNeg (rI (wI (wI σ16 344 (Int32.toNatClampNeg (rI σ16 324 32)) a1) 345 (Int32.toNatClampNeg (rI (wI σ16 344 (Int32.toNatClampNeg (rI σ16 324 32)) a1) 324 32)) a2) 324 32)) a3) 347 (Int32.toNatClampNeg (rI (wI (wI (wI σ16 344 (Int32.toNatClampNeg (rI σ16 324 32)) a1) 345 (Int32.toNatClampNeg (rI (wI σ16 344 (Int32.toNatClampNeg (rI σ16 324 32)) a1) 324 32)) a2) 346 (Int32.toNatClampNeg (rI (wI (wI σ16 344 (Int32.toNatClampNeg (rI σ16 324 32)) a1) 345 (Int32.toNatClampNeg (rI (wI σ16 344 (Int32.toNatClampNeg (rI σ16 324 32)) a1) 324 32)) a2) 324 32)) a3) 324 32)) (vp_nar .boolean a4)) 324 32)) (rI (wI (wI (wI (wI σ16 344 (Int32.toNatClampNeg (rI σ16 324 32)) a1) 345 (Int32.toNatClampNeg (rI (wI σ16 344 (Int32.toNatClampNeg (rI σ16 324 32)) a1) 324 32)) a2) 346 (Int32.toNatClampNeg (rI (wI (wI σ16 344 (Int32.toNatClampNeg (rI σ16 324 32)) a1) 345 (Int32.toNatClampNeg (rI (wI σ16 344 (Int32.toNatClampNeg (rI σ16 324 32)) a1) 324 32)) a2) 324 32)) a3) 347 (Int32.toNatClampNeg (rI (wI (wI (wI σ16 344 (Int32.toNatClampNeg (rI σ16 324 32)) a1) 345 (Int32.toNatClampNeg (rI (wI σ16 344 (Int32.toNatClampNeg (rI σ16 324 32)) a1) 324 32)) a2) 346 (Int32.toNatClampNeg (rI (wI (wI σ16 344 (Int32.toNatClampNeg (rI σ16 324 32)) a1) 345 (Int32.toNatClampNeg (rI (wI σ16 344 (Int32.toNatClampNeg (rI σ16 324 32)) a1) 324 32)) a2) 324 32)) a3) 324 32)) (vp_nar .boolean a4)) 324 1)) 349 (Int32.toNatClampNeg (rI (wI (wI (wI (wI (wI σ16 344 (Int32.toNatClampNeg (rI σ16 324 32)) a1) 345 (Int32.toNatClampNeg (rI (wI σ16 344 (Int32.toNatClampNeg (rI σ16 324 32)) a1) 324 32)) a2) 346 (Int32.toNatClampNeg (rI (wI (wI σ16 344 (Int32.toNatClampNeg (rI σ16 324 32)) a1) 345 (Int32.toNatClampNeg (rI (wI σ16 344 (Int32.toNatClampNeg (rI σ16 324 32)) a1) 324 32)) a2) 324 32)) a3) 347 (Int32.toNatClampNeg (rI (wI (wI (wI σ16 344 (Int32.toNatClampNeg (rI σ16 324 32)) a1) 345 (Int32.toNatClampNeg (rI (wI σ16 344 (Int32.toNatClampNeg (rI σ16 324 32)) a1) 324 32)) a2) 346 (Int32.toNatClampNeg (rI (wI (wI σ16 344 (Int32.toNatClampNeg (rI σ16 324 32)) a1) 345 (Int32.toNatClampNeg (rI (wI σ16 344 (Int32.toNatClampNeg (rI σ16 324 32)) a1) 324 32)) a2) 324 32)) a3) 324 32)) (vp_nar .boolean a4)) 348 (Int32.toNatClampNeg (rI (wI (wI (wI (wI σ16 344 (Int32.toNatClampNeg (rI σ16 324 32)) a1) 345 (Int32.toNatClampNeg (rI (wI σ16 344 (Int32.toNatClampNeg (rI σ16 324 32)) a1) 324 32)) a2) 346 (Int32.toNatClampNeg (rI (wI (wI σ16 344 (Int32.toNatClampNeg (rI σ16 324 32)) a1) 345 (Int32.toNatClampNeg (rI (wI σ16 344 (Int32.toNatClampNeg (rI σ16 324 32)) a1) 324 32)) a2) 324 32)) a3) 347 (Int32.toNatClampNeg (rI (wI (wI (wI σ16 344 (Int32.toNatClampNeg (rI σ16 324 32)) a1) 345 (Int32.toNatClampNeg (rI (wI σ16 344 (Int32.toNatClampNeg (rI σ16 324 32)) a1) 324 32)) a2) 346 (Int32.toNatClampNeg (rI (wI (wI σ16 344 (Int32.toNatClampNeg (rI σ16 324 32)) a1) 345 (Int32.toNatClampNeg (rI (wI σ16 344 (Int32.toNatClampNeg (rI σ16 324 32)) a1) 324 32)) a2) 324 32)) a3) 324 32)) (vp_nar .boolean a4)) 324 32)) (rI (wI (wI (wI (wI σ16 344 (Int32.toNatClampNeg (rI σ16 324 32)) a1) 345 (Int32.toNatClampNeg (rI (wI σ16 344 (Int32.toNatClampNeg (rI σ16 324 32)) a1) 324 32)) a2) 346 (Int32.toNatClampNeg (rI (wI (wI σ16 344 (Int32.toNatClampNeg (rI σ16 324 32)) a1) 345 (Int32.toNatClampNeg (rI (wI σ16 344 (Int32.toNatClampNeg (rI σ16 324 32)) a1) 324 32)) a2) 324 32)) a3) 347 (Int32.toNatClampNeg (rI (wI (wI (wI σ16 344 (Int32.toNatClampNeg (rI σ16 324 32)) a1) 345 (Int32.toNatClampNeg (rI (wI σ16 344 (Int32.toNatClampNeg (rI σ16 324 32)) a1) 324 32)) a2) 346 (Int32.toNatClampNeg (rI (wI (wI σ16 344 (Int32.toNatClampNeg (rI σ16 324 32)) a1) 345 (Int32.toNatClampNeg (rI (wI σ16 344 (Int32.toNatClampNeg (rI σ16 324 32)) a1) 324 32)) a2) 324 32)) a3) 324 32)) (vp_nar .boolean a4)) 324 1)) 324 32)) 1000000) 324 32) + 1)) 324 32) - 1))) rfl ⟨dX13_share_125, Or.inl rfl⟩ (jqI_mk h)
          · have h := (if_pos c20).symm.trans h
            refine J_pick [] rfl ?_
            exact t_X13_share_42   _ _  h
theorem dX13_isAlike_0 : decode cX13_isAlike 0 = .ok (.aload_n 0, 1) := by decide +kernel
theorem dX13_isAlike_1 : decode cX13_isAlike 1 = .ok (.getfield 94, 3) := by decide +kernel
theorem dX13_isAlike_4 : decode cX13_isAlike 4 = .ok (.iload_n 1, 1) := by decide +kernel
theorem dX13_isAlike_5 : decode cX13_isAlike 5 = .ok (.iaload, 1) := by decide +kernel
theorem dX13_isAlike_6 : decode cX13_isAlike 6 = .ok (.aload_n 0, 1) := by decide +kernel
theorem dX13_isAlike_7 : decode cX13_isAlike 7 = .ok (.getfield 94, 3) := by decide +kernel
theorem dX13_isAlike_10 : decode cX13_isAlike 10 = .ok (.iload_n 2, 1) := by decide +kernel
theorem dX13_isAlike_11 : decode cX13_isAlike 11 = .ok (.iaload, 1) := by decide +kernel
theorem dX13_isAlike_12 : decode cX13_isAlike 12 = .ok (.if_icmp .ne 7, 3) := by decide +kernel
theorem dX13_isAlike_15 : decode cX13_isAlike 15 = .ok (.iconst 1, 1) := by decide +kernel
theorem dX13_isAlike_16 : decode cX13_isAlike 16 = .ok (.goto 4, 3) := by decide +kernel
theorem dX13_isAlike_19 : decode cX13_isAlike 19 = .ok (.iconst 0, 1) := by decide +kernel
theorem dX13_isAlike_20 : decode cX13_isAlike 20 = .ok (.istore_n 3, 1) := by decide +kernel
theorem dX13_isAlike_21 : decode cX13_isAlike 21 = .ok (.iconst 0, 1) := by decide +kernel
theorem dX13_isAlike_22 : decode cX13_isAlike 22 = .ok (.istore 4, 2) := by decide +kernel
theorem dX13_isAlike_24 : decode cX13_isAlike 24 = .ok (.iload 4, 2) := by decide +kernel
theorem dX13_isAlike_26 : decode cX13_isAlike 26 = .ok (.aload_n 0, 1) := by decide +kernel
theorem dX13_isAlike_27 : decode cX13_isAlike 27 = .ok (.getfield 94, 3) := by decide +kernel
theorem dX13_isAlike_30 : decode cX13_isAlike 30 = .ok (.iload_n 1, 1) := by decide +kernel
theorem dX13_isAlike_31 : decode cX13_isAlike 31 = .ok (.iaload, 1) := by decide +kernel
theorem dX13_isAlike_32 : decode cX13_isAlike 32 = .ok (.if_icmp .ge 46, 3) := by decide +kernel
theorem dX13_isAlike_35 : decode cX13_isAlike 35 = .ok (.iload_n 3, 1) := by decide +kernel
theorem dX13_isAlike_36 : decode cX13_isAlike 36 = .ok (.ifCond .eq 42, 3) := by decide +kernel
theorem dX13_isAlike_39 : decode cX13_isAlike 39 = .ok (.aload_n 0, 1) := by decide +kernel
theorem dX13_isAlike_40 : decode cX13_isAlike 40 = .ok (.getfield 97, 3) := by decide +kernel
theorem dX13_isAlike_43 : decode cX13_isAlike 43 = .ok (.bipush 6, 2) := by decide +kernel
theorem dX13_isAlike_45 : decode cX13_isAlike 45 = .ok (.iload_n 1, 1) := by decide +kernel
theorem dX13_isAlike_46 : decode cX13_isAlike 46 = .ok (.imul, 1) := by decide +kernel
theorem dX13_isAlike_47 : decode cX13_isAlike 47 = .ok (.iload 4, 2) := by decide +kernel
theorem dX13_isAlike_49 : decode cX13_isAlike 49 = .ok (.iadd, 1) := by decide +kernel
theorem dX13_isAlike_50 : decode cX13_isAlike 50 = .ok (.iaload, 1) := by decide +kernel
theorem dX13_isAlike_51 : decode cX13_isAlike 51 = .ok (.aload_n 0, 1) := by decide +kernel
theorem dX13_isAlike_52 : decode cX13_isAlike 52 = .ok (.getfield 97, 3) := by decide +kernel
theorem dX13_isAlike_55 : decode cX13_isAlike 55 = .ok (.bipush 6, 2) := by decide +kernel
theorem dX13_isAlike_57 : decode cX13_isAlike 57 = .ok (.iload_n 2, 1) := by decide +kernel
theorem dX13_isAlike_58 : decode cX13_isAlike 58 = .ok (.imul, 1) := by decide +kernel
theorem dX13_isAlike_59 : decode cX13_isAlike 59 = .ok (.iload 4, 2) := by decide +kernel
theorem dX13_isAlike_61 : decode cX13_isAlike 61 = .ok (.iadd, 1) := by decide +kernel
theorem dX13_isAlike_62 : decode cX13_isAlike 62 = .ok (.iaload, 1) := by decide +kernel
theorem dX13_isAlike_63 : decode cX13_isAlike 63 = .ok (.if_icmp .ne 7, 3) := by decide +kernel
theorem dX13_isAlike_66 : decode cX13_isAlike 66 = .ok (.iconst 1, 1) := by decide +kernel
theorem dX13_isAlike_67 : decode cX13_isAlike 67 = .ok (.goto 4, 3) := by decide +kernel
theorem dX13_isAlike_70 : decode cX13_isAlike 70 = .ok (.iconst 0, 1) := by decide +kernel
theorem dX13_isAlike_71 : decode cX13_isAlike 71 = .ok (.istore_n 3, 1) := by decide +kernel
theorem dX13_isAlike_72 : decode cX13_isAlike 72 = .ok (.iinc 4 1, 3) := by decide +kernel
theorem dX13_isAlike_75 : decode cX13_isAlike 75 = .ok (.goto (-51), 3) := by decide +kernel
theorem dX13_isAlike_78 : decode cX13_isAlike 78 = .ok (.iload_n 3, 1) := by decide +kernel
theorem dX13_isAlike_79 : decode cX13_isAlike 79 = .ok (.ireturn, 1) := by decide +kernel
noncomputable def f_X13_isAlike_78  (l3 : Int32) (σ : jM) : Option (Int32 × jM) :=
  gd (l3 = 0 ∨ l3 = 1) (some (l3, σ))
noncomputable def f_X13_isAlike_71 (rec24 : Int32 → Int32 → Int32 → Int32 → jM → Option (Int32 × jM)) (l1 : Int32) (l2 : Int32) (l4 : Int32) (s0 : Int32) (σ : jM) : Option (Int32 × jM) :=
  rec24 l1 l2 s0 (l4 + 1) σ
noncomputable def s_X13_isAlike_24  (rec24 : Int32 → Int32 → Int32 → Int32 → jM → Option (Int32 × jM)) (l1 : Int32) (l2 : Int32) (l3 : Int32) (l4 : Int32) (σ : jM) : Option (Int32 × jM) :=
  gd (inb l1 192) ((if (rI σ 350 (Int32.toNatClampNeg l1)) ≤ l4 then f_X13_isAlike_78  l3 σ else (if l3 = 0 then f_X13_isAlike_78  l3 σ else gd (inb ((6 * l1) + l4) 1152) (gd (inb ((6 * l2) + l4) 1152) ((if (rI σ 351 (Int32.toNatClampNeg ((6 * l1) + l4))) = (rI σ 351 (Int32.toNatClampNeg ((6 * l2) + l4))) then f_X13_isAlike_71 rec24 l1 l2 l4 1 σ else f_X13_isAlike_71 rec24 l1 l2 l4 0 σ))))))
noncomputable def f_X13_isAlike_24  (n : Nat) : Int32 → Int32 → Int32 → Int32 → jM → Option (Int32 × jM) := Nat.rec (motive := fun _ => Int32 → Int32 → Int32 → Int32 → jM → Option (Int32 × jM)) (fun _ _ _ _ _ => none) (fun _ q => s_X13_isAlike_24  q) n
noncomputable def f_X13_isAlike_20  (l1 : Int32) (l2 : Int32) (s0 : Int32) (σ : jM) : Option (Int32 × jM) :=
  f_X13_isAlike_24  Fu l1 l2 s0 0 σ
noncomputable def f_X13_isAlike (a1 : Int32) (a2 : Int32) (σ : jM) : Option (Int32 × jM) :=
  gd (inb a1 192) (gd (inb a2 192) ((if (rI σ 350 (Int32.toNatClampNeg a1)) = (rI σ 350 (Int32.toNatClampNeg a2)) then f_X13_isAlike_20  a1 a2 1 σ else f_X13_isAlike_20  a1 a2 0 σ)))
set_option maxRecDepth 20000 in
set_option maxHeartbeats 4000000 in
theorem t_X13_isAlike_78  (l3 : Int32) (σ : jM) (r : Int32 × jM)  (h : f_X13_isAlike_78  l3 σ = some r) : J mi_X13_isAlike 1 0 0 (jqI r) 78 [(3, .int l3)] [] (ms σ) := by
  unfold f_X13_isAlike_78 at h
  refine J_iload_n 0 dX13_isAlike_78 rfl ?_
  obtain ⟨g7, h⟩ := gd_inv h
  exact J_ret (v := some (.int l3)) rfl ⟨dX13_isAlike_79, Or.inr (Or.inl ⟨rfl, g7⟩)⟩ (jqI_mk h)
set_option maxRecDepth 20000 in
set_option maxHeartbeats 4000000 in
theorem t_X13_isAlike_71 {rec24 : Int32 → Int32 → Int32 → Int32 → jM → Option (Int32 × jM)} (hrec24 : ∀ (l1 : Int32) (l2 : Int32) (l3 : Int32) (l4 : Int32) (σ : jM) (r : Int32 × jM), rec24 l1 l2 l3 l4 σ = some r → J mi_X13_isAlike 1 0 0 (jqI r) 24 [(0, .ref 324), (1, .int l1), (2, .int l2), (3, .int l3), (4, .int l4)] [] (ms σ)) (l1 : Int32) (l2 : Int32) (l4 : Int32) (s0 : Int32) (σ : jM) (r : Int32 × jM)  (h : f_X13_isAlike_71 rec24 l1 l2 l4 s0 σ = some r) : J mi_X13_isAlike 1 0 0 (jqI r) 71 [(0, .ref 324), (1, .int l1), (2, .int l2), (4, .int l4)] [.int s0] (ms σ) := by
  unfold f_X13_isAlike_71 at h
  refine J_istore_n (i := 3) (ls' := [(3, .int s0), (0, .ref 324), (1, .int l1), (2, .int l2), (4, .int l4)]) dX13_isAlike_71 rfl (by decide) rfl ?_
  refine J_iinc (v := (l4 + 1)) (ls' := [(4, .int (l4 + 1)), (3, .int s0), (0, .ref 324), (1, .int l1), (2, .int l2)]) 4 dX13_isAlike_72 rfl rfl (by decide) rfl ?_
  refine J_goto (tgt := 24) dX13_isAlike_75 (by decide) ?_
  refine J_pick [2, 3, 4, 1, 0] rfl ?_
  exact hrec24 _ _ _ _ _ _  h
set_option maxRecDepth 20000 in
set_option maxHeartbeats 4000000 in
theorem t_X13_isAlike_24  : ∀ (n : Nat) (l1 : Int32) (l2 : Int32) (l3 : Int32) (l4 : Int32) (σ : jM) (r : Int32 × jM), f_X13_isAlike_24  n l1 l2 l3 l4 σ = some r → J mi_X13_isAlike 1 0 0 (jqI r) 24 [(0, .ref 324), (1, .int l1), (2, .int l2), (3, .int l3), (4, .int l4)] [] (ms σ) := by
  intro n
  induction n with
  | zero =>
    intro l1 l2 l3 l4 σ r  h
    have h : (none : Option (Int32 × jM)) = some r := h
    cases h
  | succ n ih =>
    intro l1 l2 l3 l4 σ r  h
    have h : s_X13_isAlike_24  (f_X13_isAlike_24  n) l1 l2 l3 l4 σ = some r := h
    unfold s_X13_isAlike_24 at h
    refine J_iload 4 dX13_isAlike_24 rfl ?_
    refine J_aload_n 0 dX13_isAlike_26 rfl ?_
    refine M_getR gf_X13_94_12 dX13_isAlike_27 (g_324_40 _) k_324 n_324 ?_
    refine J_iload_n 1 dX13_isAlike_30 rfl ?_
    obtain ⟨g14, h⟩ := gd_inv h
    refine M_iald dX13_isAlike_31 a_350 n_350 g14 ?_
    refine J_icmp_ge (tgt := 78) dX13_isAlike_32 (by decide) (fun c15 => ?_) (fun c15 => ?_)
    · have h := (if_pos c15).symm.trans h
      refine J_pick [3] rfl ?_
      exact t_X13_isAlike_78  _ _ _  h
    · have h := (if_neg c15).symm.trans h
      refine J_iload_n 3 dX13_isAlike_35 rfl ?_
      refine J_if_eq (tgt := 78) dX13_isAlike_36 (by decide) (fun c16 => ?_) (fun c16 => ?_)
      · have h := (if_pos c16).symm.trans h
        refine J_pick [3] rfl ?_
        exact t_X13_isAlike_78  _ _ _  h
      · have h := (if_neg c16).symm.trans h
        refine J_aload_n 0 dX13_isAlike_39 rfl ?_
        refine M_getR gf_X13_97_12 dX13_isAlike_40 (g_324_41 _) k_324 n_324 ?_
        refine J_bipush (v := 6) dX13_isAlike_43 (by decide) ?_
        refine J_iload_n 1 dX13_isAlike_45 rfl ?_
        refine J_imul dX13_isAlike_46 ?_
        refine J_iload 4 dX13_isAlike_47 rfl ?_
        refine J_iadd dX13_isAlike_49 ?_
        obtain ⟨g17, h⟩ := gd_inv h
        refine M_iald dX13_isAlike_50 a_351 n_351 g17 ?_
        refine J_aload_n 0 dX13_isAlike_51 rfl ?_
        refine M_getR gf_X13_97_12 dX13_isAlike_52 (g_324_41 _) k_324 n_324 ?_
        refine J_bipush (v := 6) dX13_isAlike_55 (by decide) ?_
        refine J_iload_n 2 dX13_isAlike_57 rfl ?_
        refine J_imul dX13_isAlike_58 ?_
        refine J_iload 4 dX13_isAlike_59 rfl ?_
        refine J_iadd dX13_isAlike_61 ?_
        obtain ⟨g18, h⟩ := gd_inv h
        refine M_iald dX13_isAlike_62 a_351 n_351 g18 ?_
        refine J_icmp_ne (tgt := 70) dX13_isAlike_63 (by decide) (fun c19 => ?_) (fun c19 => ?_)
        · have h := (if_neg c19).symm.trans h
          refine J_iconst (v := 0) dX13_isAlike_70 (by decide) ?_
          refine J_pick [0, 1, 2, 4] rfl ?_
          exact t_X13_isAlike_71 ih _ _ _ _ _ _  h
        · have h := (if_pos c19).symm.trans h
          refine J_iconst (v := 1) dX13_isAlike_66 (by decide) ?_
          refine J_goto (tgt := 71) dX13_isAlike_67 (by decide) ?_
          refine J_pick [0, 1, 2, 4] rfl ?_
          exact t_X13_isAlike_71 ih _ _ _ _ _ _  h
set_option maxRecDepth 20000 in
set_option maxHeartbeats 4000000 in
theorem t_X13_isAlike_20  (l1 : Int32) (l2 : Int32) (s0 : Int32) (σ : jM) (r : Int32 × jM)  (h : f_X13_isAlike_20  l1 l2 s0 σ = some r) : J mi_X13_isAlike 1 0 0 (jqI r) 20 [(0, .ref 324), (1, .int l1), (2, .int l2)] [.int s0] (ms σ) := by
  unfold f_X13_isAlike_20 at h
  refine J_istore_n (i := 3) (ls' := [(3, .int s0), (0, .ref 324), (1, .int l1), (2, .int l2)]) dX13_isAlike_20 rfl (by decide) rfl ?_
  refine J_iconst (v := 0) dX13_isAlike_21 (by decide) ?_
  refine J_istore (i := 4) (ls' := [(4, .int 0), (3, .int s0), (0, .ref 324), (1, .int l1), (2, .int l2)]) dX13_isAlike_22 (by decide) rfl ?_
  refine J_pick [2, 3, 4, 1, 0] rfl ?_
  exact t_X13_isAlike_24  _ _ _ _ _ _ _  h
set_option maxRecDepth 20000 in
set_option maxHeartbeats 4000000 in
theorem t_X13_isAlike {a1 : Int32} {a2 : Int32} {σ : jM} {r : Int32 × jM}  (h : f_X13_isAlike a1 a2 σ = some r) : J mi_X13_isAlike 1 0 0 (jqI r) 0 [(0, .ref 324), (1, .int a1), (2, .int a2)] [] (ms σ) := by
  unfold f_X13_isAlike at h
  refine J_aload_n 0 dX13_isAlike_0 rfl ?_
  refine M_getR gf_X13_94_12 dX13_isAlike_1 (g_324_40 _) k_324 n_324 ?_
  refine J_iload_n 1 dX13_isAlike_4 rfl ?_
  obtain ⟨g20, h⟩ := gd_inv h
  refine M_iald dX13_isAlike_5 a_350 n_350 g20 ?_
  refine J_aload_n 0 dX13_isAlike_6 rfl ?_
  refine M_getR gf_X13_94_12 dX13_isAlike_7 (g_324_40 _) k_324 n_324 ?_
  refine J_iload_n 2 dX13_isAlike_10 rfl ?_
  obtain ⟨g21, h⟩ := gd_inv h
  refine M_iald dX13_isAlike_11 a_350 n_350 g21 ?_
  refine J_icmp_ne (tgt := 19) dX13_isAlike_12 (by decide) (fun c22 => ?_) (fun c22 => ?_)
  · have h := (if_neg c22).symm.trans h
    refine J_iconst (v := 0) dX13_isAlike_19 (by decide) ?_
    exact t_X13_isAlike_20  _ _ _ _ _  h
  · have h := (if_pos c22).symm.trans h
    refine J_iconst (v := 1) dX13_isAlike_15 (by decide) ?_
    refine J_goto (tgt := 20) dX13_isAlike_16 (by decide) ?_
    exact t_X13_isAlike_20  _ _ _ _ _  h
