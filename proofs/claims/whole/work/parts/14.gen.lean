theorem dX13_next_0 : decode cX13_next 0 = .ok (.aload_n 0, 1) := by decide +kernel
theorem dX13_next_1 : decode cX13_next 1 = .ok (.getfield 183, 3) := by decide +kernel
theorem dX13_next_4 : decode cX13_next 4 = .ok (.aload_n 0, 1) := by decide +kernel
theorem dX13_next_5 : decode cX13_next 5 = .ok (.getfield 180, 3) := by decide +kernel
theorem dX13_next_8 : decode cX13_next 8 = .ok (.if_icmp .ge 44, 3) := by decide +kernel
theorem dX13_next_11 : decode cX13_next 11 = .ok (.aload_n 0, 1) := by decide +kernel
theorem dX13_next_12 : decode cX13_next 12 = .ok (.getfield 47, 3) := by decide +kernel
theorem dX13_next_15 : decode cX13_next 15 = .ok (.aload_n 0, 1) := by decide +kernel
theorem dX13_next_16 : decode cX13_next 16 = .ok (.getfield 183, 3) := by decide +kernel
theorem dX13_next_19 : decode cX13_next 19 = .ok (.baload, 1) := by decide +kernel
theorem dX13_next_20 : decode cX13_next 20 = .ok (.bipush 32, 2) := by decide +kernel
theorem dX13_next_22 : decode cX13_next 22 = .ok (.if_icmp .eq 17, 3) := by decide +kernel
theorem dX13_next_25 : decode cX13_next 25 = .ok (.aload_n 0, 1) := by decide +kernel
theorem dX13_next_26 : decode cX13_next 26 = .ok (.getfield 47, 3) := by decide +kernel
theorem dX13_next_29 : decode cX13_next 29 = .ok (.aload_n 0, 1) := by decide +kernel
theorem dX13_next_30 : decode cX13_next 30 = .ok (.getfield 183, 3) := by decide +kernel
theorem dX13_next_33 : decode cX13_next 33 = .ok (.baload, 1) := by decide +kernel
theorem dX13_next_34 : decode cX13_next 34 = .ok (.bipush 10, 2) := by decide +kernel
theorem dX13_next_36 : decode cX13_next 36 = .ok (.if_icmp .ne 16, 3) := by decide +kernel
theorem dX13_next_39 : decode cX13_next 39 = .ok (.aload_n 0, 1) := by decide +kernel
theorem dX13_next_40 : decode cX13_next 40 = .ok (.dup, 1) := by decide +kernel
theorem dX13_next_41 : decode cX13_next 41 = .ok (.getfield 183, 3) := by decide +kernel
theorem dX13_next_44 : decode cX13_next 44 = .ok (.iconst 1, 1) := by decide +kernel
theorem dX13_next_45 : decode cX13_next 45 = .ok (.iadd, 1) := by decide +kernel
theorem dX13_next_46 : decode cX13_next 46 = .ok (.putfield 183, 3) := by decide +kernel
theorem dX13_next_49 : decode cX13_next 49 = .ok (.goto (-49), 3) := by decide +kernel
theorem dX13_next_52 : decode cX13_next 52 = .ok (.aload_n 0, 1) := by decide +kernel
theorem dX13_next_53 : decode cX13_next 53 = .ok (.aload_n 0, 1) := by decide +kernel
theorem dX13_next_54 : decode cX13_next 54 = .ok (.getfield 183, 3) := by decide +kernel
theorem dX13_next_57 : decode cX13_next 57 = .ok (.putfield 186, 3) := by decide +kernel
theorem dX13_next_60 : decode cX13_next 60 = .ok (.aload_n 0, 1) := by decide +kernel
theorem dX13_next_61 : decode cX13_next 61 = .ok (.getfield 183, 3) := by decide +kernel
theorem dX13_next_64 : decode cX13_next 64 = .ok (.aload_n 0, 1) := by decide +kernel
theorem dX13_next_65 : decode cX13_next 65 = .ok (.getfield 180, 3) := by decide +kernel
theorem dX13_next_68 : decode cX13_next 68 = .ok (.if_icmp .lt 9, 3) := by decide +kernel
theorem dX13_next_71 : decode cX13_next 71 = .ok (.aload_n 0, 1) := by decide +kernel
theorem dX13_next_72 : decode cX13_next 72 = .ok (.iconst 0, 1) := by decide +kernel
theorem dX13_next_73 : decode cX13_next 73 = .ok (.putfield 189, 3) := by decide +kernel
theorem dX13_next_76 : decode cX13_next 76 = .ok (.return_, 1) := by decide +kernel
theorem dX13_next_77 : decode cX13_next 77 = .ok (.aload_n 0, 1) := by decide +kernel
theorem dX13_next_78 : decode cX13_next 78 = .ok (.getfield 47, 3) := by decide +kernel
theorem dX13_next_81 : decode cX13_next 81 = .ok (.aload_n 0, 1) := by decide +kernel
theorem dX13_next_82 : decode cX13_next 82 = .ok (.getfield 183, 3) := by decide +kernel
theorem dX13_next_85 : decode cX13_next 85 = .ok (.baload, 1) := by decide +kernel
theorem dX13_next_86 : decode cX13_next 86 = .ok (.istore_n 1, 1) := by decide +kernel
theorem dX13_next_87 : decode cX13_next 87 = .ok (.aload_n 0, 1) := by decide +kernel
theorem dX13_next_88 : decode cX13_next 88 = .ok (.dup, 1) := by decide +kernel
theorem dX13_next_89 : decode cX13_next 89 = .ok (.getfield 183, 3) := by decide +kernel
theorem dX13_next_92 : decode cX13_next 92 = .ok (.iconst 1, 1) := by decide +kernel
theorem dX13_next_93 : decode cX13_next 93 = .ok (.iadd, 1) := by decide +kernel
theorem dX13_next_94 : decode cX13_next 94 = .ok (.putfield 183, 3) := by decide +kernel
theorem dX13_next_97 : decode cX13_next 97 = .ok (.aload_n 0, 1) := by decide +kernel
theorem dX13_next_98 : decode cX13_next 98 = .ok (.iload_n 1, 1) := by decide +kernel
theorem dX13_next_99 : decode cX13_next 99 = .ok (.putfield 192, 3) := by decide +kernel
theorem dX13_next_102 : decode cX13_next 102 = .ok (.iload_n 1, 1) := by decide +kernel
theorem dX13_next_103 : decode cX13_next 103 = .ok (.invokestatic 195, 3) := by decide +kernel
theorem dX13_next_106 : decode cX13_next 106 = .ok (.ifCond .eq 38, 3) := by decide +kernel
theorem dX13_next_109 : decode cX13_next 109 = .ok (.aload_n 0, 1) := by decide +kernel
theorem dX13_next_110 : decode cX13_next 110 = .ok (.aload_n 0, 1) := by decide +kernel
theorem dX13_next_111 : decode cX13_next 111 = .ok (.getfield 183, 3) := by decide +kernel
theorem dX13_next_114 : decode cX13_next 114 = .ok (.invokevirtual 199, 3) := by decide +kernel
theorem dX13_next_117 : decode cX13_next 117 = .ok (.invokestatic 195, 3) := by decide +kernel
theorem dX13_next_120 : decode cX13_next 120 = .ok (.ifCond .eq 16, 3) := by decide +kernel
theorem dX13_next_123 : decode cX13_next 123 = .ok (.aload_n 0, 1) := by decide +kernel
theorem dX13_next_124 : decode cX13_next 124 = .ok (.dup, 1) := by decide +kernel
theorem dX13_next_125 : decode cX13_next 125 = .ok (.getfield 183, 3) := by decide +kernel
theorem dX13_next_128 : decode cX13_next 128 = .ok (.iconst 1, 1) := by decide +kernel
theorem dX13_next_129 : decode cX13_next 129 = .ok (.iadd, 1) := by decide +kernel
theorem dX13_next_130 : decode cX13_next 130 = .ok (.putfield 183, 3) := by decide +kernel
theorem dX13_next_133 : decode cX13_next 133 = .ok (.goto (-24), 3) := by decide +kernel
theorem dX13_next_136 : decode cX13_next 136 = .ok (.aload_n 0, 1) := by decide +kernel
theorem dX13_next_137 : decode cX13_next 137 = .ok (.iconst 3, 1) := by decide +kernel
theorem dX13_next_138 : decode cX13_next 138 = .ok (.putfield 189, 3) := by decide +kernel
theorem dX13_next_141 : decode cX13_next 141 = .ok (.goto 111, 3) := by decide +kernel
theorem dX13_next_144 : decode cX13_next 144 = .ok (.iload_n 1, 1) := by decide +kernel
theorem dX13_next_145 : decode cX13_next 145 = .ok (.invokestatic 203, 3) := by decide +kernel
theorem dX13_next_148 : decode cX13_next 148 = .ok (.ifCond .eq 99, 3) := by decide +kernel
theorem dX13_next_151 : decode cX13_next 151 = .ok (.aload_n 0, 1) := by decide +kernel
theorem dX13_next_152 : decode cX13_next 152 = .ok (.iload_n 1, 1) := by decide +kernel
theorem dX13_next_153 : decode cX13_next 153 = .ok (.bipush 48, 2) := by decide +kernel
theorem dX13_next_155 : decode cX13_next 155 = .ok (.isub, 1) := by decide +kernel
theorem dX13_next_156 : decode cX13_next 156 = .ok (.putfield 192, 3) := by decide +kernel
theorem dX13_next_159 : decode cX13_next 159 = .ok (.aload_n 0, 1) := by decide +kernel
theorem dX13_next_160 : decode cX13_next 160 = .ok (.aload_n 0, 1) := by decide +kernel
theorem dX13_next_161 : decode cX13_next 161 = .ok (.getfield 183, 3) := by decide +kernel
theorem dX13_next_164 : decode cX13_next 164 = .ok (.invokevirtual 199, 3) := by decide +kernel
theorem dX13_next_167 : decode cX13_next 167 = .ok (.invokestatic 203, 3) := by decide +kernel
theorem dX13_next_170 : decode cX13_next 170 = .ok (.ifCond .eq 52, 3) := by decide +kernel
theorem dX13_next_173 : decode cX13_next 173 = .ok (.aload_n 0, 1) := by decide +kernel
theorem dX13_next_174 : decode cX13_next 174 = .ok (.getfield 183, 3) := by decide +kernel
theorem dX13_next_177 : decode cX13_next 177 = .ok (.aload_n 0, 1) := by decide +kernel
theorem dX13_next_178 : decode cX13_next 178 = .ok (.getfield 186, 3) := by decide +kernel
theorem dX13_next_181 : decode cX13_next 181 = .ok (.isub, 1) := by decide +kernel
theorem dX13_next_182 : decode cX13_next 182 = .ok (.iconst 2, 1) := by decide +kernel
theorem dX13_next_183 : decode cX13_next 183 = .ok (.if_icmp .ge 26, 3) := by decide +kernel
theorem dX13_next_186 : decode cX13_next 186 = .ok (.aload_n 0, 1) := by decide +kernel
theorem dX13_next_187 : decode cX13_next 187 = .ok (.bipush 10, 2) := by decide +kernel
theorem dX13_next_189 : decode cX13_next 189 = .ok (.aload_n 0, 1) := by decide +kernel
theorem dX13_next_190 : decode cX13_next 190 = .ok (.getfield 192, 3) := by decide +kernel
theorem dX13_next_193 : decode cX13_next 193 = .ok (.imul, 1) := by decide +kernel
theorem dX13_next_194 : decode cX13_next 194 = .ok (.aload_n 0, 1) := by decide +kernel
theorem dX13_next_195 : decode cX13_next 195 = .ok (.aload_n 0, 1) := by decide +kernel
theorem dX13_next_196 : decode cX13_next 196 = .ok (.getfield 183, 3) := by decide +kernel
theorem dX13_next_199 : decode cX13_next 199 = .ok (.invokevirtual 199, 3) := by decide +kernel
theorem dX13_next_202 : decode cX13_next 202 = .ok (.iadd, 1) := by decide +kernel
theorem dX13_next_203 : decode cX13_next 203 = .ok (.bipush 48, 2) := by decide +kernel
theorem dX13_next_205 : decode cX13_next 205 = .ok (.isub, 1) := by decide +kernel
theorem dX13_next_206 : decode cX13_next 206 = .ok (.putfield 192, 3) := by decide +kernel
theorem dX13_next_209 : decode cX13_next 209 = .ok (.aload_n 0, 1) := by decide +kernel
theorem dX13_next_210 : decode cX13_next 210 = .ok (.dup, 1) := by decide +kernel
theorem dX13_next_211 : decode cX13_next 211 = .ok (.getfield 183, 3) := by decide +kernel
theorem dX13_next_214 : decode cX13_next 214 = .ok (.iconst 1, 1) := by decide +kernel
theorem dX13_next_215 : decode cX13_next 215 = .ok (.iadd, 1) := by decide +kernel
theorem dX13_next_216 : decode cX13_next 216 = .ok (.putfield 183, 3) := by decide +kernel
theorem dX13_next_219 : decode cX13_next 219 = .ok (.goto (-60), 3) := by decide +kernel
theorem dX13_next_222 : decode cX13_next 222 = .ok (.aload_n 0, 1) := by decide +kernel
theorem dX13_next_223 : decode cX13_next 223 = .ok (.aload_n 0, 1) := by decide +kernel
theorem dX13_next_224 : decode cX13_next 224 = .ok (.getfield 183, 3) := by decide +kernel
theorem dX13_next_227 : decode cX13_next 227 = .ok (.aload_n 0, 1) := by decide +kernel
theorem dX13_next_228 : decode cX13_next 228 = .ok (.getfield 186, 3) := by decide +kernel
theorem dX13_next_231 : decode cX13_next 231 = .ok (.isub, 1) := by decide +kernel
theorem dX13_next_232 : decode cX13_next 232 = .ok (.iconst 2, 1) := by decide +kernel
theorem dX13_next_233 : decode cX13_next 233 = .ok (.if_icmp .le 7, 3) := by decide +kernel
theorem dX13_next_236 : decode cX13_next 236 = .ok (.iconst 1, 1) := by decide +kernel
theorem dX13_next_237 : decode cX13_next 237 = .ok (.goto 4, 3) := by decide +kernel
theorem dX13_next_240 : decode cX13_next 240 = .ok (.iconst 2, 1) := by decide +kernel
theorem dX13_next_241 : decode cX13_next 241 = .ok (.putfield 189, 3) := by decide +kernel
theorem dX13_next_244 : decode cX13_next 244 = .ok (.goto 8, 3) := by decide +kernel
theorem dX13_next_247 : decode cX13_next 247 = .ok (.aload_n 0, 1) := by decide +kernel
theorem dX13_next_248 : decode cX13_next 248 = .ok (.iconst 4, 1) := by decide +kernel
theorem dX13_next_249 : decode cX13_next 249 = .ok (.putfield 189, 3) := by decide +kernel
theorem dX13_next_252 : decode cX13_next 252 = .ok (.return_, 1) := by decide +kernel
noncomputable def f_X13_next_252   (σ : jM) : Option (Unit × jM) :=
  some ((), σ)
noncomputable def f_X13_next_241  (s1 : Int32) (σ : jM) : Option (Unit × jM) :=
  f_X13_next_252   (wI σ 324 19 s1)
noncomputable def f_X13_next_209 (rec159 : jM → Option (Unit × jM))  (σ : jM) : Option (Unit × jM) :=
  rec159  (wI σ 324 17 ((rI σ 324 17) + 1))
noncomputable def s_X13_next_159  (rec159 : jM → Option (Unit × jM))  (σ : jM) : Option (Unit × jM) :=
  bd (f_X13_see (rI σ 324 17) σ) (fun r4 σ5 => bd (f_X13_isDigit r4 σ5) (fun r7 σ8 => (if r7 = 0 then (if ((rI σ8 324 17) - (rI σ8 324 18)) ≤ 2 then f_X13_next_241  2 σ8 else f_X13_next_241  1 σ8) else (if 2 ≤ ((rI σ8 324 17) - (rI σ8 324 18)) then f_X13_next_209 rec159  σ8 else bd (f_X13_see (rI σ8 324 17) σ8) (fun r13 σ14 => f_X13_next_209 rec159  (wI σ14 324 20 (((10 * (rI σ8 324 20)) + r13) - 48)))))))
noncomputable def f_X13_next_159  (n : Nat) : jM → Option (Unit × jM) := Nat.rec (motive := fun _ => jM → Option (Unit × jM)) (fun  _ => none) (fun _ q => s_X13_next_159  q) n
noncomputable def s_X13_next_109  (rec109 : jM → Option (Unit × jM))  (σ : jM) : Option (Unit × jM) :=
  bd (f_X13_see (rI σ 324 17) σ) (fun r28 σ29 => bd (f_X13_isSmall r28 σ29) (fun r31 σ32 => (if r31 = 0 then f_X13_next_252   (wI σ32 324 19 3) else rec109  (wI σ32 324 17 ((rI σ32 324 17) + 1)))))
noncomputable def f_X13_next_109  (n : Nat) : jM → Option (Unit × jM) := Nat.rec (motive := fun _ => jM → Option (Unit × jM)) (fun  _ => none) (fun _ q => s_X13_next_109  q) n
noncomputable def f_X13_next_52   (σ : jM) : Option (Unit × jM) :=
  (if (rI (wI σ 324 18 (rI σ 324 17)) 324 17) < (rI (wI σ 324 18 (rI σ 324 17)) 324 16) then gd (inb (rI (wI σ 324 18 (rI σ 324 17)) 324 17) 300) (bd (f_X13_isSmall (rI (wI σ 324 18 (rI σ 324 17)) 336 (Int32.toNatClampNeg (rI (wI σ 324 18 (rI σ 324 17)) 324 17))) (wI (wI (wI σ 324 18 (rI σ 324 17)) 324 17 ((rI (wI σ 324 18 (rI σ 324 17)) 324 17) + 1)) 324 20 (rI (wI σ 324 18 (rI σ 324 17)) 336 (Int32.toNatClampNeg (rI (wI σ 324 18 (rI σ 324 17)) 324 17))))) (fun r44 σ45 => (if r44 = 0 then bd (f_X13_isDigit (rI (wI σ 324 18 (rI σ 324 17)) 336 (Int32.toNatClampNeg (rI (wI σ 324 18 (rI σ 324 17)) 324 17))) σ45) (fun r48 σ49 => (if r48 = 0 then f_X13_next_252   (wI σ49 324 19 4) else f_X13_next_159  Fu  (wI σ49 324 20 ((rI (wI σ 324 18 (rI σ 324 17)) 336 (Int32.toNatClampNeg (rI (wI σ 324 18 (rI σ 324 17)) 324 17))) - 48)))) else f_X13_next_109  Fu  σ45))) else some ((), wI (wI σ 324 18 (rI σ 324 17)) 324 19 0))
noncomputable def f_X13_next_39 (rec0 : jM → Option (Unit × jM))  (σ : jM) : Option (Unit × jM) :=
  rec0  (wI σ 324 17 ((rI σ 324 17) + 1))
noncomputable def s_X13_next_0  (rec0 : jM → Option (Unit × jM))  (σ : jM) : Option (Unit × jM) :=
  (if (rI σ 324 16) ≤ (rI σ 324 17) then f_X13_next_52   σ else gd (inb (rI σ 324 17) 300) ((if (rI σ 336 (Int32.toNatClampNeg (rI σ 324 17))) = 32 then f_X13_next_39 rec0  σ else gd (inb (rI σ 324 17) 300) ((if (rI σ 336 (Int32.toNatClampNeg (rI σ 324 17))) = 10 then f_X13_next_39 rec0  σ else f_X13_next_52   σ)))))
noncomputable def f_X13_next_0  (n : Nat) : jM → Option (Unit × jM) := Nat.rec (motive := fun _ => jM → Option (Unit × jM)) (fun  _ => none) (fun _ q => s_X13_next_0  q) n
noncomputable def f_X13_next  (σ : jM) : Option (Unit × jM) :=
  f_X13_next_0  Fu  σ
set_option maxRecDepth 20000 in
set_option maxHeartbeats 4000000 in
theorem t_X13_next_252   (σ : jM) (r : Unit × jM)  (h : f_X13_next_252   σ = some r) : J mi_X13_next 2 0 0 (jqV r) 252 [] [] (ms σ) := by
  unfold f_X13_next_252 at h
  exact J_ret (v := none) rfl ⟨dX13_next_252, rfl⟩ (jqV_mk h)
set_option maxRecDepth 20000 in
set_option maxHeartbeats 4000000 in
theorem t_X13_next_241  (s1 : Int32) (σ : jM) (r : Unit × jM)  (h : f_X13_next_241  s1 σ = some r) : J mi_X13_next 2 0 0 (jqV r) 241 [] [.int s1, .ref 324] (ms σ) := by
  unfold f_X13_next_241 at h
  refine M_putI pf_X13_189_12 dX13_next_241 k_324 n_324 ⟨rfl, rfl⟩ ?_
  refine J_goto (tgt := 252) dX13_next_244 (by decide) ?_
  exact t_X13_next_252   _ _  h
set_option maxRecDepth 20000 in
set_option maxHeartbeats 4000000 in
theorem t_X13_next_209 {rec159 : jM → Option (Unit × jM)} (hrec159 : ∀  (σ : jM) (r : Unit × jM), rec159  σ = some r → J mi_X13_next 2 0 0 (jqV r) 159 [(0, .ref 324)] [] (ms σ))  (σ : jM) (r : Unit × jM)  (h : f_X13_next_209 rec159  σ = some r) : J mi_X13_next 2 0 0 (jqV r) 209 [(0, .ref 324)] [] (ms σ) := by
  unfold f_X13_next_209 at h
  refine J_aload_n 0 dX13_next_209 rfl ?_
  refine J_dup dX13_next_210 rfl ?_
  refine M_getI gf_X13_183_12 dX13_next_211 k_324 n_324 ?_
  refine J_iconst (v := 1) dX13_next_214 (by decide) ?_
  refine J_iadd dX13_next_215 ?_
  refine M_putI pf_X13_183_12 dX13_next_216 k_324 n_324 ⟨rfl, rfl⟩ ?_
  refine J_goto (tgt := 159) dX13_next_219 (by decide) ?_
  exact hrec159  _ _  h
set_option maxRecDepth 20000 in
set_option maxHeartbeats 4000000 in
theorem t_X13_next_159  : ∀ (n : Nat)  (σ : jM) (r : Unit × jM), f_X13_next_159  n  σ = some r → J mi_X13_next 2 0 0 (jqV r) 159 [(0, .ref 324)] [] (ms σ) := by
  intro n
  induction n with
  | zero =>
    intro  σ r  h
    have h : (none : Option (Unit × jM)) = some r := h
    cases h
  | succ n ih =>
    intro  σ r  h
    have h : s_X13_next_159  (f_X13_next_159  n)  σ = some r := h
    unfold s_X13_next_159 at h
    refine J_aload_n 0 dX13_next_159 rfl ?_
    refine J_aload_n 0 dX13_next_160 rfl ?_
    refine M_getI gf_X13_183_12 dX13_next_161 k_324 n_324 ?_
    obtain ⟨r16, σ17, h18, h⟩ := bd_inv h
    refine M_callVI (d' := 1) (k := 324) (As := [.int (rI σ 324 17)]) (st := []) cv_X13_199 dX13_next_164 rfl (by decide) rfl (Nat.le_of_ble_eq_true rfl) (Nat.le_of_ble_eq_true rfl) (by decide) n_324 k_324 rfl rfl (t_X13_see  h18) ?_
    obtain ⟨r19, σ20, h21, h⟩ := bd_inv h
    refine M_callSI (d' := 1) (As := [.int r16]) (st := []) cs_X13_203 dX13_next_167 rfl (Nat.le_of_ble_eq_true rfl) (Nat.le_of_ble_eq_true rfl) (by decide) rfl rfl (t_X13_isDigit  h21) ?_
    refine J_if_eq (tgt := 222) dX13_next_170 (by decide) (fun c22 => ?_) (fun c22 => ?_)
    · have h := (if_pos c22).symm.trans h
      refine J_aload_n 0 dX13_next_222 rfl ?_
      refine J_aload_n 0 dX13_next_223 rfl ?_
      refine M_getI gf_X13_183_12 dX13_next_224 k_324 n_324 ?_
      refine J_aload_n 0 dX13_next_227 rfl ?_
      refine M_getI gf_X13_186_12 dX13_next_228 k_324 n_324 ?_
      refine J_isub dX13_next_231 ?_
      refine J_iconst (v := 2) dX13_next_232 (by decide) ?_
      refine J_icmp_le (tgt := 240) dX13_next_233 (by decide) (fun c23 => ?_) (fun c23 => ?_)
      · have h := (if_pos c23).symm.trans h
        refine J_iconst (v := 2) dX13_next_240 (by decide) ?_
        refine J_pick [] rfl ?_
        exact t_X13_next_241  _ _ _  h
      · have h := (if_neg c23).symm.trans h
        refine J_iconst (v := 1) dX13_next_236 (by decide) ?_
        refine J_goto (tgt := 241) dX13_next_237 (by decide) ?_
        refine J_pick [] rfl ?_
        exact t_X13_next_241  _ _ _  h
    · have h := (if_neg c22).symm.trans h
      refine J_aload_n 0 dX13_next_173 rfl ?_
      refine M_getI gf_X13_183_12 dX13_next_174 k_324 n_324 ?_
      refine J_aload_n 0 dX13_next_177 rfl ?_
      refine M_getI gf_X13_186_12 dX13_next_178 k_324 n_324 ?_
      refine J_isub dX13_next_181 ?_
      refine J_iconst (v := 2) dX13_next_182 (by decide) ?_
      refine J_icmp_ge (tgt := 209) dX13_next_183 (by decide) (fun c24 => ?_) (fun c24 => ?_)
      · have h := (if_pos c24).symm.trans h
        exact t_X13_next_209 ih  _ _  h
      · have h := (if_neg c24).symm.trans h
        refine J_aload_n 0 dX13_next_186 rfl ?_
        refine J_bipush (v := 10) dX13_next_187 (by decide) ?_
        refine J_aload_n 0 dX13_next_189 rfl ?_
        refine M_getI gf_X13_192_12 dX13_next_190 k_324 n_324 ?_
        refine J_imul dX13_next_193 ?_
        refine J_aload_n 0 dX13_next_194 rfl ?_
        refine J_aload_n 0 dX13_next_195 rfl ?_
        refine M_getI gf_X13_183_12 dX13_next_196 k_324 n_324 ?_
        obtain ⟨r25, σ26, h27, h⟩ := bd_inv h
        refine M_callVI (d' := 1) (k := 324) (As := [.int (rI σ20 324 17)]) (st := [.int (10 * (rI σ20 324 20)), .ref 324]) cv_X13_199 dX13_next_199 rfl (by decide) rfl (Nat.le_of_ble_eq_true rfl) (Nat.le_of_ble_eq_true rfl) (by decide) n_324 k_324 rfl rfl (t_X13_see  h27) ?_
        refine J_iadd dX13_next_202 ?_
        refine J_bipush (v := 48) dX13_next_203 (by decide) ?_
        refine J_isub dX13_next_205 ?_
        refine M_putI pf_X13_192_12 dX13_next_206 k_324 n_324 ⟨rfl, rfl⟩ ?_
        exact t_X13_next_209 ih  _ _  h
set_option maxRecDepth 20000 in
set_option maxHeartbeats 4000000 in
theorem t_X13_next_109  : ∀ (n : Nat)  (σ : jM) (r : Unit × jM), f_X13_next_109  n  σ = some r → J mi_X13_next 2 0 0 (jqV r) 109 [(0, .ref 324)] [] (ms σ) := by
  intro n
  induction n with
  | zero =>
    intro  σ r  h
    have h : (none : Option (Unit × jM)) = some r := h
    cases h
  | succ n ih =>
    intro  σ r  h
    have h : s_X13_next_109  (f_X13_next_109  n)  σ = some r := h
    unfold s_X13_next_109 at h
    refine J_aload_n 0 dX13_next_109 rfl ?_
    refine J_aload_n 0 dX13_next_110 rfl ?_
    refine M_getI gf_X13_183_12 dX13_next_111 k_324 n_324 ?_
    obtain ⟨r35, σ36, h37, h⟩ := bd_inv h
    refine M_callVI (d' := 1) (k := 324) (As := [.int (rI σ 324 17)]) (st := []) cv_X13_199 dX13_next_114 rfl (by decide) rfl (Nat.le_of_ble_eq_true rfl) (Nat.le_of_ble_eq_true rfl) (by decide) n_324 k_324 rfl rfl (t_X13_see  h37) ?_
    obtain ⟨r38, σ39, h40, h⟩ := bd_inv h
    refine M_callSI (d' := 1) (As := [.int r35]) (st := []) cs_X13_195 dX13_next_117 rfl (Nat.le_of_ble_eq_true rfl) (Nat.le_of_ble_eq_true rfl) (by decide) rfl rfl (t_X13_isSmall  h40) ?_
    refine J_if_eq (tgt := 136) dX13_next_120 (by decide) (fun c41 => ?_) (fun c41 => ?_)
    · have h := (if_pos c41).symm.trans h
      refine J_aload_n 0 dX13_next_136 rfl ?_
      refine J_iconst (v := 3) dX13_next_137 (by decide) ?_
      refine M_putI pf_X13_189_12 dX13_next_138 k_324 n_324 ⟨rfl, rfl⟩ ?_
      refine J_goto (tgt := 252) dX13_next_141 (by decide) ?_
      refine J_pick [] rfl ?_
      exact t_X13_next_252   _ _  h
    · have h := (if_neg c41).symm.trans h
      refine J_aload_n 0 dX13_next_123 rfl ?_
      refine J_dup dX13_next_124 rfl ?_
      refine M_getI gf_X13_183_12 dX13_next_125 k_324 n_324 ?_
      refine J_iconst (v := 1) dX13_next_128 (by decide) ?_
      refine J_iadd dX13_next_129 ?_
      refine M_putI pf_X13_183_12 dX13_next_130 k_324 n_324 ⟨rfl, rfl⟩ ?_
      refine J_goto (tgt := 109) dX13_next_133 (by decide) ?_
      exact ih  _ _  h
set_option maxRecDepth 20000 in
set_option maxHeartbeats 4000000 in
theorem t_X13_next_52   (σ : jM) (r : Unit × jM)  (h : f_X13_next_52   σ = some r) : J mi_X13_next 2 0 0 (jqV r) 52 [(0, .ref 324)] [] (ms σ) := by
  unfold f_X13_next_52 at h
  refine J_aload_n 0 dX13_next_52 rfl ?_
  refine J_aload_n 0 dX13_next_53 rfl ?_
  refine M_getI gf_X13_183_12 dX13_next_54 k_324 n_324 ?_
  refine M_putI pf_X13_186_12 dX13_next_57 k_324 n_324 ⟨rfl, rfl⟩ ?_
  refine J_aload_n 0 dX13_next_60 rfl ?_
  refine M_getI gf_X13_183_12 dX13_next_61 k_324 n_324 ?_
  refine J_aload_n 0 dX13_next_64 rfl ?_
  refine M_getI gf_X13_180_12 dX13_next_65 k_324 n_324 ?_
  refine J_icmp_lt (tgt := 77) dX13_next_68 (by decide) (fun c52 => ?_) (fun c52 => ?_)
  · have h := (if_pos c52).symm.trans h
    refine J_aload_n 0 dX13_next_77 rfl ?_
    refine M_getR gf_X13_47_12 dX13_next_78 (g_324_15 _) k_324 n_324 ?_
    refine J_aload_n 0 dX13_next_81 rfl ?_
    refine M_getI gf_X13_183_12 dX13_next_82 k_324 n_324 ?_
    obtain ⟨g53, h⟩ := gd_inv h
    refine M_bald dX13_next_85 a_336 n_336 g53 ?_
    refine J_istore_n (i := 1) (ls' := [(1, .int (rI (wI σ 324 18 (rI σ 324 17)) 336 (Int32.toNatClampNeg (rI (wI σ 324 18 (rI σ 324 17)) 324 17)))), (0, .ref 324)]) dX13_next_86 rfl (by decide) rfl ?_
    refine J_aload_n 1 dX13_next_87 rfl ?_
    refine J_dup dX13_next_88 rfl ?_
    refine M_getI gf_X13_183_12 dX13_next_89 k_324 n_324 ?_
    refine J_iconst (v := 1) dX13_next_92 (by decide) ?_
    refine J_iadd dX13_next_93 ?_
    refine M_putI pf_X13_183_12 dX13_next_94 k_324 n_324 ⟨rfl, rfl⟩ ?_
    refine J_aload_n 1 dX13_next_97 rfl ?_
    refine J_iload_n 0 dX13_next_98 rfl ?_
    refine M_putI pf_X13_192_12 dX13_next_99 k_324 n_324 ⟨rfl, rfl⟩ ?_
    refine J_iload_n 0 dX13_next_102 rfl ?_
    obtain ⟨r54, σ55, h56, h⟩ := bd_inv h
    refine M_callSI (d' := 1) (As := [.int (rI (wI σ 324 18 (rI σ 324 17)) 336 (Int32.toNatClampNeg (rI (wI σ 324 18 (rI σ 324 17)) 324 17)))]) (st := []) cs_X13_195 dX13_next_103 rfl (Nat.le_of_ble_eq_true rfl) (Nat.le_of_ble_eq_true rfl) (by decide) rfl rfl (t_X13_isSmall  h56) ?_
    refine J_if_eq (tgt := 144) dX13_next_106 (by decide) (fun c57 => ?_) (fun c57 => ?_)
    · have h := (if_pos c57).symm.trans h
      refine J_iload_n 0 dX13_next_144 rfl ?_
      obtain ⟨r58, σ59, h60, h⟩ := bd_inv h
      refine M_callSI (d' := 1) (As := [.int (rI (wI σ 324 18 (rI σ 324 17)) 336 (Int32.toNatClampNeg (rI (wI σ 324 18 (rI σ 324 17)) 324 17)))]) (st := []) cs_X13_203 dX13_next_145 rfl (Nat.le_of_ble_eq_true rfl) (Nat.le_of_ble_eq_true rfl) (by decide) rfl rfl (t_X13_isDigit  h60) ?_
      refine J_if_eq (tgt := 247) dX13_next_148 (by decide) (fun c61 => ?_) (fun c61 => ?_)
      · have h := (if_pos c61).symm.trans h
        refine J_aload_n 1 dX13_next_247 rfl ?_
        refine J_iconst (v := 4) dX13_next_248 (by decide) ?_
        refine M_putI pf_X13_189_12 dX13_next_249 k_324 n_324 ⟨rfl, rfl⟩ ?_
        refine J_pick [] rfl ?_
        exact t_X13_next_252   _ _  h
      · have h := (if_neg c61).symm.trans h
        refine J_aload_n 1 dX13_next_151 rfl ?_
        refine J_iload_n 0 dX13_next_152 rfl ?_
        refine J_bipush (v := 48) dX13_next_153 (by decide) ?_
        refine J_isub dX13_next_155 ?_
        refine M_putI pf_X13_192_12 dX13_next_156 k_324 n_324 ⟨rfl, rfl⟩ ?_
        refine J_pick [1] rfl ?_
        exact t_X13_next_159  _  _ _  h
    · have h := (if_neg c57).symm.trans h
      refine J_pick [1] rfl ?_
      exact t_X13_next_109  _  _ _  h
  · have h := (if_neg c52).symm.trans h
    refine J_aload_n 0 dX13_next_71 rfl ?_
    refine J_iconst (v := 0) dX13_next_72 (by decide) ?_
    refine M_putI pf_X13_189_12 dX13_next_73 k_324 n_324 ⟨rfl, rfl⟩ ?_
    exact J_ret (v := none) rfl ⟨dX13_next_76, rfl⟩ (jqV_mk h)
set_option maxRecDepth 20000 in
set_option maxHeartbeats 4000000 in
theorem t_X13_next_39 {rec0 : jM → Option (Unit × jM)} (hrec0 : ∀  (σ : jM) (r : Unit × jM), rec0  σ = some r → J mi_X13_next 2 0 0 (jqV r) 0 [(0, .ref 324)] [] (ms σ))  (σ : jM) (r : Unit × jM)  (h : f_X13_next_39 rec0  σ = some r) : J mi_X13_next 2 0 0 (jqV r) 39 [(0, .ref 324)] [] (ms σ) := by
  unfold f_X13_next_39 at h
  refine J_aload_n 0 dX13_next_39 rfl ?_
  refine J_dup dX13_next_40 rfl ?_
  refine M_getI gf_X13_183_12 dX13_next_41 k_324 n_324 ?_
  refine J_iconst (v := 1) dX13_next_44 (by decide) ?_
  refine J_iadd dX13_next_45 ?_
  refine M_putI pf_X13_183_12 dX13_next_46 k_324 n_324 ⟨rfl, rfl⟩ ?_
  refine J_goto (tgt := 0) dX13_next_49 (by decide) ?_
  exact hrec0  _ _  h
set_option maxRecDepth 20000 in
set_option maxHeartbeats 4000000 in
theorem t_X13_next_0  : ∀ (n : Nat)  (σ : jM) (r : Unit × jM), f_X13_next_0  n  σ = some r → J mi_X13_next 2 0 0 (jqV r) 0 [(0, .ref 324)] [] (ms σ) := by
  intro n
  induction n with
  | zero =>
    intro  σ r  h
    have h : (none : Option (Unit × jM)) = some r := h
    cases h
  | succ n ih =>
    intro  σ r  h
    have h : s_X13_next_0  (f_X13_next_0  n)  σ = some r := h
    unfold s_X13_next_0 at h
    refine J_aload_n 0 dX13_next_0 rfl ?_
    refine M_getI gf_X13_183_12 dX13_next_1 k_324 n_324 ?_
    refine J_aload_n 0 dX13_next_4 rfl ?_
    refine M_getI gf_X13_180_12 dX13_next_5 k_324 n_324 ?_
    refine J_icmp_ge (tgt := 52) dX13_next_8 (by decide) (fun c67 => ?_) (fun c67 => ?_)
    · have h := (if_pos c67).symm.trans h
      exact t_X13_next_52   _ _  h
    · have h := (if_neg c67).symm.trans h
      refine J_aload_n 0 dX13_next_11 rfl ?_
      refine M_getR gf_X13_47_12 dX13_next_12 (g_324_15 _) k_324 n_324 ?_
      refine J_aload_n 0 dX13_next_15 rfl ?_
      refine M_getI gf_X13_183_12 dX13_next_16 k_324 n_324 ?_
      obtain ⟨g68, h⟩ := gd_inv h
      refine M_bald dX13_next_19 a_336 n_336 g68 ?_
      refine J_bipush (v := 32) dX13_next_20 (by decide) ?_
      refine J_icmp_eq (tgt := 39) dX13_next_22 (by decide) (fun c69 => ?_) (fun c69 => ?_)
      · have h := (if_pos c69).symm.trans h
        exact t_X13_next_39 ih  _ _  h
      · have h := (if_neg c69).symm.trans h
        refine J_aload_n 0 dX13_next_25 rfl ?_
        refine M_getR gf_X13_47_12 dX13_next_26 (g_324_15 _) k_324 n_324 ?_
        refine J_aload_n 0 dX13_next_29 rfl ?_
        refine M_getI gf_X13_183_12 dX13_next_30 k_324 n_324 ?_
        obtain ⟨g70, h⟩ := gd_inv h
        refine M_bald dX13_next_33 a_336 n_336 g70 ?_
        refine J_bipush (v := 10) dX13_next_34 (by decide) ?_
        refine J_icmp_ne (tgt := 52) dX13_next_36 (by decide) (fun c71 => ?_) (fun c71 => ?_)
        · have h := (if_neg c71).symm.trans h
          exact t_X13_next_52   _ _  h
        · have h := (if_pos c71).symm.trans h
          exact t_X13_next_39 ih  _ _  h
set_option maxRecDepth 20000 in
set_option maxHeartbeats 4000000 in
theorem t_X13_next  {σ : jM} {r : Unit × jM}  (h : f_X13_next  σ = some r) : J mi_X13_next 2 0 0 (jqV r) 0 [(0, .ref 324)] [] (ms σ) := by
  unfold f_X13_next at h
  exact t_X13_next_0  _  _ _  h
theorem dX13_isWord_0 : decode cX13_isWord 0 = .ok (.aload_n 0, 1) := by decide +kernel
theorem dX13_isWord_1 : decode cX13_isWord 1 = .ok (.getfield 189, 3) := by decide +kernel
theorem dX13_isWord_4 : decode cX13_isWord 4 = .ok (.iconst 3, 1) := by decide +kernel
theorem dX13_isWord_5 : decode cX13_isWord 5 = .ok (.if_icmp .ne 19, 3) := by decide +kernel
theorem dX13_isWord_8 : decode cX13_isWord 8 = .ok (.aload_n 0, 1) := by decide +kernel
theorem dX13_isWord_9 : decode cX13_isWord 9 = .ok (.getfield 183, 3) := by decide +kernel
theorem dX13_isWord_12 : decode cX13_isWord 12 = .ok (.aload_n 0, 1) := by decide +kernel
theorem dX13_isWord_13 : decode cX13_isWord 13 = .ok (.getfield 186, 3) := by decide +kernel
theorem dX13_isWord_16 : decode cX13_isWord 16 = .ok (.isub, 1) := by decide +kernel
theorem dX13_isWord_17 : decode cX13_isWord 17 = .ok (.aload_n 1, 1) := by decide +kernel
theorem dX13_isWord_18 : decode cX13_isWord 18 = .ok (.invokevirtual 206, 3) := by decide +kernel
theorem dX13_isWord_21 : decode cX13_isWord 21 = .ok (.if_icmp .eq 5, 3) := by decide +kernel
theorem dX13_isWord_24 : decode cX13_isWord 24 = .ok (.iconst 0, 1) := by decide +kernel
theorem dX13_isWord_25 : decode cX13_isWord 25 = .ok (.ireturn, 1) := by decide +kernel
theorem dX13_isWord_26 : decode cX13_isWord 26 = .ok (.iconst 0, 1) := by decide +kernel
theorem dX13_isWord_27 : decode cX13_isWord 27 = .ok (.istore_n 2, 1) := by decide +kernel
theorem dX13_isWord_28 : decode cX13_isWord 28 = .ok (.iload_n 2, 1) := by decide +kernel
theorem dX13_isWord_29 : decode cX13_isWord 29 = .ok (.aload_n 1, 1) := by decide +kernel
theorem dX13_isWord_30 : decode cX13_isWord 30 = .ok (.invokevirtual 206, 3) := by decide +kernel
theorem dX13_isWord_33 : decode cX13_isWord 33 = .ok (.if_icmp .ge 30, 3) := by decide +kernel
theorem dX13_isWord_36 : decode cX13_isWord 36 = .ok (.aload_n 0, 1) := by decide +kernel
theorem dX13_isWord_37 : decode cX13_isWord 37 = .ok (.getfield 47, 3) := by decide +kernel
theorem dX13_isWord_40 : decode cX13_isWord 40 = .ok (.aload_n 0, 1) := by decide +kernel
theorem dX13_isWord_41 : decode cX13_isWord 41 = .ok (.getfield 186, 3) := by decide +kernel
theorem dX13_isWord_44 : decode cX13_isWord 44 = .ok (.iload_n 2, 1) := by decide +kernel
theorem dX13_isWord_45 : decode cX13_isWord 45 = .ok (.iadd, 1) := by decide +kernel
theorem dX13_isWord_46 : decode cX13_isWord 46 = .ok (.baload, 1) := by decide +kernel
theorem dX13_isWord_47 : decode cX13_isWord 47 = .ok (.aload_n 1, 1) := by decide +kernel
theorem dX13_isWord_48 : decode cX13_isWord 48 = .ok (.iload_n 2, 1) := by decide +kernel
theorem dX13_isWord_49 : decode cX13_isWord 49 = .ok (.invokevirtual 212, 3) := by decide +kernel
theorem dX13_isWord_52 : decode cX13_isWord 52 = .ok (.if_icmp .eq 5, 3) := by decide +kernel
theorem dX13_isWord_55 : decode cX13_isWord 55 = .ok (.iconst 0, 1) := by decide +kernel
theorem dX13_isWord_56 : decode cX13_isWord 56 = .ok (.ireturn, 1) := by decide +kernel
theorem dX13_isWord_57 : decode cX13_isWord 57 = .ok (.iinc 2 1, 3) := by decide +kernel
theorem dX13_isWord_60 : decode cX13_isWord 60 = .ok (.goto (-32), 3) := by decide +kernel
theorem dX13_isWord_63 : decode cX13_isWord 63 = .ok (.iconst 1, 1) := by decide +kernel
theorem dX13_isWord_64 : decode cX13_isWord 64 = .ok (.ireturn, 1) := by decide +kernel
noncomputable def f_X13_isWord_24   (σ : jM) : Option (Int32 × jM) :=
  some (0, σ)
noncomputable def s_X13_isWord_28  (rec28 : Nat → Int32 → jM → Option (Int32 × jM)) (l1 : Nat) (l2 : Int32) (σ : jM) : Option (Int32 × jM) :=
  (if (strLen l1) ≤ l2 then some (1, σ) else gd (inb ((rI σ 324 18) + l2) 300) (gd (inb l2 (jslen.getD l1 0)) ((if (rI σ 336 (Int32.toNatClampNeg ((rI σ 324 18) + l2))) = (strAt l1 l2) then rec28 l1 (l2 + 1) σ else some (0, σ)))))
noncomputable def f_X13_isWord_28  (n : Nat) : Nat → Int32 → jM → Option (Int32 × jM) := Nat.rec (motive := fun _ => Nat → Int32 → jM → Option (Int32 × jM)) (fun _ _ _ => none) (fun _ q => s_X13_isWord_28  q) n
noncomputable def f_X13_isWord (a1 : Nat) (σ : jM) : Option (Int32 × jM) :=
  (if (rI σ 324 19) = 3 then (if ((rI σ 324 17) - (rI σ 324 18)) = (strLen a1) then f_X13_isWord_28  Fu a1 0 σ else f_X13_isWord_24   σ) else f_X13_isWord_24   σ)
set_option maxRecDepth 20000 in
set_option maxHeartbeats 4000000 in
theorem t_X13_isWord_24   (σ : jM) (r : Int32 × jM)  (h : f_X13_isWord_24   σ = some r) : J mi_X13_isWord 6 0 0 (jqI r) 24 [] [] (ms σ) := by
  unfold f_X13_isWord_24 at h
  refine J_iconst (v := 0) dX13_isWord_24 (by decide) ?_
  exact J_ret (v := some (.int 0)) rfl ⟨dX13_isWord_25, Or.inr (Or.inl ⟨rfl, Or.inl rfl⟩)⟩ (jqI_mk h)
set_option maxRecDepth 20000 in
set_option maxHeartbeats 4000000 in
theorem t_X13_isWord_28  : ∀ (n : Nat) (l1 : Nat) (l2 : Int32) (σ : jM) (r : Int32 × jM), l1 < 12 → f_X13_isWord_28  n l1 l2 σ = some r → J mi_X13_isWord 6 0 0 (jqI r) 28 [(0, .ref 324), (1, .ref (1000000 + l1)), (2, .int l2)] [] (ms σ) := by
  intro n
  induction n with
  | zero =>
    intro l1 l2 σ r hl1 h
    have h : (none : Option (Int32 × jM)) = some r := h
    cases h
  | succ n ih =>
    intro l1 l2 σ r hl1 h
    have h : s_X13_isWord_28  (f_X13_isWord_28  n) l1 l2 σ = some r := h
    unfold s_X13_isWord_28 at h
    refine J_iload_n 2 dX13_isWord_28 rfl ?_
    refine J_aload_n 1 dX13_isWord_29 rfl ?_
    refine M_strlen sl_X13_206 dX13_isWord_30 hl1 (Nat.le_of_ble_eq_true rfl) (by decide) ?_
    refine J_icmp_ge (tgt := 63) dX13_isWord_33 (by decide) (fun c7 => ?_) (fun c7 => ?_)
    · have h := (if_pos c7).symm.trans h
      refine J_iconst (v := 1) dX13_isWord_63 (by decide) ?_
      exact J_ret (v := some (.int 1)) rfl ⟨dX13_isWord_64, Or.inr (Or.inl ⟨rfl, Or.inr rfl⟩)⟩ (jqI_mk h)
    · have h := (if_neg c7).symm.trans h
      refine J_aload_n 0 dX13_isWord_36 rfl ?_
      refine M_getR gf_X13_47_12 dX13_isWord_37 (g_324_15 _) k_324 n_324 ?_
      refine J_aload_n 0 dX13_isWord_40 rfl ?_
      refine M_getI gf_X13_186_12 dX13_isWord_41 k_324 n_324 ?_
      refine J_iload_n 2 dX13_isWord_44 rfl ?_
      refine J_iadd dX13_isWord_45 ?_
      obtain ⟨g8, h⟩ := gd_inv h
      refine M_bald dX13_isWord_46 a_336 n_336 g8 ?_
      refine J_aload_n 1 dX13_isWord_47 rfl ?_
      refine J_iload_n 2 dX13_isWord_48 rfl ?_
      obtain ⟨g9, h⟩ := gd_inv h
      refine M_strat sc_X13_212 dX13_isWord_49 hl1 g9 (Nat.le_of_ble_eq_true rfl) (by decide) ?_
      refine J_icmp_eq (tgt := 57) dX13_isWord_52 (by decide) (fun c10 => ?_) (fun c10 => ?_)
      · have h := (if_pos c10).symm.trans h
        refine J_iinc (v := (l2 + 1)) (ls' := [(2, .int (l2 + 1)), (0, .ref 324), (1, .ref (1000000 + l1))]) 2 dX13_isWord_57 rfl rfl (by decide) rfl ?_
        refine J_goto (tgt := 28) dX13_isWord_60 (by decide) ?_
        refine J_pick [1, 2, 0] rfl ?_
        exact ih _ _ _ _ hl1 h
      · have h := (if_neg c10).symm.trans h
        refine J_iconst (v := 0) dX13_isWord_55 (by decide) ?_
        exact J_ret (v := some (.int 0)) rfl ⟨dX13_isWord_56, Or.inr (Or.inl ⟨rfl, Or.inl rfl⟩)⟩ (jqI_mk h)
set_option maxRecDepth 20000 in
set_option maxHeartbeats 4000000 in
theorem t_X13_isWord {a1 : Nat} {σ : jM} {r : Int32 × jM} (ha1 : a1 < 12) (h : f_X13_isWord a1 σ = some r) : J mi_X13_isWord 6 0 0 (jqI r) 0 [(0, .ref 324), (1, .ref (1000000 + a1))] [] (ms σ) := by
  unfold f_X13_isWord at h
  refine J_aload_n 0 dX13_isWord_0 rfl ?_
  refine M_getI gf_X13_189_12 dX13_isWord_1 k_324 n_324 ?_
  refine J_iconst (v := 3) dX13_isWord_4 (by decide) ?_
  refine J_icmp_ne (tgt := 24) dX13_isWord_5 (by decide) (fun c11 => ?_) (fun c11 => ?_)
  · have h := (if_neg c11).symm.trans h
    refine J_pick [] rfl ?_
    exact t_X13_isWord_24   _ _  h
  · have h := (if_pos c11).symm.trans h
    refine J_aload_n 0 dX13_isWord_8 rfl ?_
    refine M_getI gf_X13_183_12 dX13_isWord_9 k_324 n_324 ?_
    refine J_aload_n 0 dX13_isWord_12 rfl ?_
    refine M_getI gf_X13_186_12 dX13_isWord_13 k_324 n_324 ?_
    refine J_isub dX13_isWord_16 ?_
    refine J_aload_n 1 dX13_isWord_17 rfl ?_
    refine M_strlen sl_X13_206 dX13_isWord_18 ha1 (Nat.le_of_ble_eq_true rfl) (by decide) ?_
    refine J_icmp_eq (tgt := 26) dX13_isWord_21 (by decide) (fun c12 => ?_) (fun c12 => ?_)
    · have h := (if_pos c12).symm.trans h
      refine J_iconst (v := 0) dX13_isWord_26 (by decide) ?_
      refine J_istore_n (i := 2) (ls' := [(2, .int 0), (0, .ref 324), (1, .ref (1000000 + a1))]) dX13_isWord_27 rfl (by decide) rfl ?_
      refine J_pick [1, 2, 0] rfl ?_
      exact t_X13_isWord_28  _ _ _ _ _ ha1 h
    · have h := (if_neg c12).symm.trans h
      refine J_pick [] rfl ?_
      exact t_X13_isWord_24   _ _  h
theorem dX13_isSign_0 : decode cX13_isSign 0 = .ok (.aload_n 0, 1) := by decide +kernel
theorem dX13_isSign_1 : decode cX13_isSign 1 = .ok (.getfield 189, 3) := by decide +kernel
theorem dX13_isSign_4 : decode cX13_isSign 4 = .ok (.iconst 4, 1) := by decide +kernel
theorem dX13_isSign_5 : decode cX13_isSign 5 = .ok (.if_icmp .ne 15, 3) := by decide +kernel
theorem dX13_isSign_8 : decode cX13_isSign 8 = .ok (.aload_n 0, 1) := by decide +kernel
theorem dX13_isSign_9 : decode cX13_isSign 9 = .ok (.getfield 192, 3) := by decide +kernel
theorem dX13_isSign_12 : decode cX13_isSign 12 = .ok (.iload_n 1, 1) := by decide +kernel
theorem dX13_isSign_13 : decode cX13_isSign 13 = .ok (.if_icmp .ne 7, 3) := by decide +kernel
theorem dX13_isSign_16 : decode cX13_isSign 16 = .ok (.iconst 1, 1) := by decide +kernel
theorem dX13_isSign_17 : decode cX13_isSign 17 = .ok (.goto 4, 3) := by decide +kernel
theorem dX13_isSign_20 : decode cX13_isSign 20 = .ok (.iconst 0, 1) := by decide +kernel
theorem dX13_isSign_21 : decode cX13_isSign 21 = .ok (.ireturn, 1) := by decide +kernel
noncomputable def f_X13_isSign_21  (s0 : Int32) (σ : jM) : Option (Int32 × jM) :=
  gd (s0 = 0 ∨ s0 = 1) (some (s0, σ))
noncomputable def f_X13_isSign_20   (σ : jM) : Option (Int32 × jM) :=
  f_X13_isSign_21  0 σ
noncomputable def f_X13_isSign (a1 : Int32) (σ : jM) : Option (Int32 × jM) :=
  (if (rI σ 324 19) = 4 then (if (rI σ 324 20) = a1 then f_X13_isSign_21  1 σ else f_X13_isSign_20   σ) else f_X13_isSign_20   σ)
set_option maxRecDepth 20000 in
set_option maxHeartbeats 4000000 in
theorem t_X13_isSign_21  (s0 : Int32) (σ : jM) (r : Int32 × jM)  (h : f_X13_isSign_21  s0 σ = some r) : J mi_X13_isSign 1 0 0 (jqI r) 21 [] [.int s0] (ms σ) := by
  unfold f_X13_isSign_21 at h
  obtain ⟨g2, h⟩ := gd_inv h
  exact J_ret (v := some (.int s0)) rfl ⟨dX13_isSign_21, Or.inr (Or.inl ⟨rfl, g2⟩)⟩ (jqI_mk h)
set_option maxRecDepth 20000 in
set_option maxHeartbeats 4000000 in
theorem t_X13_isSign_20   (σ : jM) (r : Int32 × jM)  (h : f_X13_isSign_20   σ = some r) : J mi_X13_isSign 1 0 0 (jqI r) 20 [] [] (ms σ) := by
  unfold f_X13_isSign_20 at h
  refine J_iconst (v := 0) dX13_isSign_20 (by decide) ?_
  exact t_X13_isSign_21  _ _ _  h
set_option maxRecDepth 20000 in
set_option maxHeartbeats 4000000 in
theorem t_X13_isSign {a1 : Int32} {σ : jM} {r : Int32 × jM}  (h : f_X13_isSign a1 σ = some r) : J mi_X13_isSign 1 0 0 (jqI r) 0 [(0, .ref 324), (1, .int a1)] [] (ms σ) := by
  unfold f_X13_isSign at h
  refine J_aload_n 0 dX13_isSign_0 rfl ?_
  refine M_getI gf_X13_189_12 dX13_isSign_1 k_324 n_324 ?_
  refine J_iconst (v := 4) dX13_isSign_4 (by decide) ?_
  refine J_icmp_ne (tgt := 20) dX13_isSign_5 (by decide) (fun c3 => ?_) (fun c3 => ?_)
  · have h := (if_neg c3).symm.trans h
    refine J_pick [] rfl ?_
    exact t_X13_isSign_20   _ _  h
  · have h := (if_pos c3).symm.trans h
    refine J_aload_n 0 dX13_isSign_8 rfl ?_
    refine M_getI gf_X13_192_12 dX13_isSign_9 k_324 n_324 ?_
    refine J_iload_n 1 dX13_isSign_12 rfl ?_
    refine J_icmp_ne (tgt := 20) dX13_isSign_13 (by decide) (fun c4 => ?_) (fun c4 => ?_)
    · have h := (if_neg c4).symm.trans h
      refine J_pick [] rfl ?_
      exact t_X13_isSign_20   _ _  h
    · have h := (if_pos c4).symm.trans h
      refine J_iconst (v := 1) dX13_isSign_16 (by decide) ?_
      refine J_goto (tgt := 21) dX13_isSign_17 (by decide) ?_
      refine J_pick [] rfl ?_
      exact t_X13_isSign_21  _ _ _  h
theorem dX13_isWell_0 : decode cX13_isWell 0 = .ok (.aload_n 0, 1) := by decide +kernel
theorem dX13_isWell_1 : decode cX13_isWell 1 = .ok (.getfield 216, 3) := by decide +kernel
theorem dX13_isWell_4 : decode cX13_isWell 4 = .ok (.ifCond .ne 7, 3) := by decide +kernel
theorem dX13_isWell_7 : decode cX13_isWell 7 = .ok (.iconst 1, 1) := by decide +kernel
theorem dX13_isWell_8 : decode cX13_isWell 8 = .ok (.goto 4, 3) := by decide +kernel
theorem dX13_isWell_11 : decode cX13_isWell 11 = .ok (.iconst 0, 1) := by decide +kernel
theorem dX13_isWell_12 : decode cX13_isWell 12 = .ok (.ireturn, 1) := by decide +kernel
noncomputable def f_X13_isWell_12  (s0 : Int32) (σ : jM) : Option (Int32 × jM) :=
  gd (s0 = 0 ∨ s0 = 1) (some (s0, σ))
noncomputable def f_X13_isWell  (σ : jM) : Option (Int32 × jM) :=
  (if (rI σ 324 21) = 0 then f_X13_isWell_12  1 σ else f_X13_isWell_12  0 σ)
set_option maxRecDepth 20000 in
set_option maxHeartbeats 4000000 in
theorem t_X13_isWell_12  (s0 : Int32) (σ : jM) (r : Int32 × jM)  (h : f_X13_isWell_12  s0 σ = some r) : J mi_X13_isWell 1 0 0 (jqI r) 12 [] [.int s0] (ms σ) := by
  unfold f_X13_isWell_12 at h
  obtain ⟨g2, h⟩ := gd_inv h
  exact J_ret (v := some (.int s0)) rfl ⟨dX13_isWell_12, Or.inr (Or.inl ⟨rfl, g2⟩)⟩ (jqI_mk h)
set_option maxRecDepth 20000 in
set_option maxHeartbeats 4000000 in
theorem t_X13_isWell  {σ : jM} {r : Int32 × jM}  (h : f_X13_isWell  σ = some r) : J mi_X13_isWell 1 0 0 (jqI r) 0 [(0, .ref 324)] [] (ms σ) := by
  unfold f_X13_isWell at h
  refine J_aload_n 0 dX13_isWell_0 rfl ?_
  refine M_getI gf_X13_216_12 dX13_isWell_1 k_324 n_324 ?_
  refine J_if_ne (tgt := 11) dX13_isWell_4 (by decide) (fun c3 => ?_) (fun c3 => ?_)
  · have h := (if_neg c3).symm.trans h
    refine J_iconst (v := 0) dX13_isWell_11 (by decide) ?_
    refine J_pick [] rfl ?_
    exact t_X13_isWell_12  _ _ _  h
  · have h := (if_pos c3).symm.trans h
    refine J_iconst (v := 1) dX13_isWell_7 (by decide) ?_
    refine J_goto (tgt := 12) dX13_isWell_8 (by decide) ?_
    refine J_pick [] rfl ?_
    exact t_X13_isWell_12  _ _ _  h
theorem dX13_fails_0 : decode cX13_fails 0 = .ok (.aload_n 0, 1) := by decide +kernel
theorem dX13_fails_1 : decode cX13_fails 1 = .ok (.getfield 216, 3) := by decide +kernel
theorem dX13_fails_4 : decode cX13_fails 4 = .ok (.ifCond .eq 4, 3) := by decide +kernel
theorem dX13_fails_7 : decode cX13_fails 7 = .ok (.return_, 1) := by decide +kernel
theorem dX13_fails_8 : decode cX13_fails 8 = .ok (.aload_n 0, 1) := by decide +kernel
theorem dX13_fails_9 : decode cX13_fails 9 = .ok (.iload_n 1, 1) := by decide +kernel
theorem dX13_fails_10 : decode cX13_fails 10 = .ok (.putfield 216, 3) := by decide +kernel
theorem dX13_fails_13 : decode cX13_fails 13 = .ok (.aload_n 0, 1) := by decide +kernel
theorem dX13_fails_14 : decode cX13_fails 14 = .ok (.aload_n 0, 1) := by decide +kernel
theorem dX13_fails_15 : decode cX13_fails 15 = .ok (.getfield 186, 3) := by decide +kernel
theorem dX13_fails_18 : decode cX13_fails 18 = .ok (.putfield 219, 3) := by decide +kernel
theorem dX13_fails_21 : decode cX13_fails 21 = .ok (.return_, 1) := by decide +kernel
noncomputable def f_X13_fails (a1 : Int32) (σ : jM) : Option (Unit × jM) :=
  (if (rI σ 324 21) = 0 then some ((), wI (wI σ 324 21 a1) 324 22 (rI (wI σ 324 21 a1) 324 18)) else some ((), σ))
set_option maxRecDepth 20000 in
set_option maxHeartbeats 4000000 in
theorem t_X13_fails {a1 : Int32} {σ : jM} {r : Unit × jM}  (h : f_X13_fails a1 σ = some r) : J mi_X13_fails 1 0 0 (jqV r) 0 [(0, .ref 324), (1, .int a1)] [] (ms σ) := by
  unfold f_X13_fails at h
  refine J_aload_n 0 dX13_fails_0 rfl ?_
  refine M_getI gf_X13_216_12 dX13_fails_1 k_324 n_324 ?_
  refine J_if_eq (tgt := 8) dX13_fails_4 (by decide) (fun c1 => ?_) (fun c1 => ?_)
  · have h := (if_pos c1).symm.trans h
    refine J_aload_n 0 dX13_fails_8 rfl ?_
    refine J_iload_n 1 dX13_fails_9 rfl ?_
    refine M_putI pf_X13_216_12 dX13_fails_10 k_324 n_324 ⟨rfl, rfl⟩ ?_
    refine J_aload_n 0 dX13_fails_13 rfl ?_
    refine J_aload_n 0 dX13_fails_14 rfl ?_
    refine M_getI gf_X13_186_12 dX13_fails_15 k_324 n_324 ?_
    refine M_putI pf_X13_219_12 dX13_fails_18 k_324 n_324 ⟨rfl, rfl⟩ ?_
    exact J_ret (v := none) rfl ⟨dX13_fails_21, rfl⟩ (jqV_mk h)
  · have h := (if_neg c1).symm.trans h
    exact J_ret (v := none) rfl ⟨dX13_fails_7, rfl⟩ (jqV_mk h)
theorem dX13_wantSign_0 : decode cX13_wantSign 0 = .ok (.aload_n 0, 1) := by decide +kernel
theorem dX13_wantSign_1 : decode cX13_wantSign 1 = .ok (.invokevirtual 222, 3) := by decide +kernel
theorem dX13_wantSign_4 : decode cX13_wantSign 4 = .ok (.ifCond .ne 4, 3) := by decide +kernel
theorem dX13_wantSign_7 : decode cX13_wantSign 7 = .ok (.return_, 1) := by decide +kernel
theorem dX13_wantSign_8 : decode cX13_wantSign 8 = .ok (.aload_n 0, 1) := by decide +kernel
theorem dX13_wantSign_9 : decode cX13_wantSign 9 = .ok (.iload_n 1, 1) := by decide +kernel
theorem dX13_wantSign_10 : decode cX13_wantSign 10 = .ok (.invokevirtual 226, 3) := by decide +kernel
theorem dX13_wantSign_13 : decode cX13_wantSign 13 = .ok (.ifCond .eq 10, 3) := by decide +kernel
theorem dX13_wantSign_16 : decode cX13_wantSign 16 = .ok (.aload_n 0, 1) := by decide +kernel
theorem dX13_wantSign_17 : decode cX13_wantSign 17 = .ok (.invokevirtual 229, 3) := by decide +kernel
theorem dX13_wantSign_20 : decode cX13_wantSign 20 = .ok (.goto 8, 3) := by decide +kernel
theorem dX13_wantSign_23 : decode cX13_wantSign 23 = .ok (.aload_n 0, 1) := by decide +kernel
theorem dX13_wantSign_24 : decode cX13_wantSign 24 = .ok (.iconst 1, 1) := by decide +kernel
theorem dX13_wantSign_25 : decode cX13_wantSign 25 = .ok (.invokevirtual 232, 3) := by decide +kernel
theorem dX13_wantSign_28 : decode cX13_wantSign 28 = .ok (.return_, 1) := by decide +kernel
noncomputable def f_X13_wantSign_28   (σ : jM) : Option (Unit × jM) :=
  some ((), σ)
noncomputable def f_X13_wantSign (a1 : Int32) (σ : jM) : Option (Unit × jM) :=
  bd (f_X13_isWell  σ) (fun r1 σ2 => (if r1 = 0 then some ((), σ2) else bd (f_X13_isSign a1 σ2) (fun r5 σ6 => (if r5 = 0 then bd (f_X13_fails 1 σ6) (fun _ σ10 => f_X13_wantSign_28   σ10) else bd (f_X13_next  σ6) (fun _ σ13 => f_X13_wantSign_28   σ13)))))
set_option maxRecDepth 20000 in
set_option maxHeartbeats 4000000 in
theorem t_X13_wantSign_28   (σ : jM) (r : Unit × jM)  (h : f_X13_wantSign_28   σ = some r) : J mi_X13_wantSign 3 0 0 (jqV r) 28 [] [] (ms σ) := by
  unfold f_X13_wantSign_28 at h
  exact J_ret (v := none) rfl ⟨dX13_wantSign_28, rfl⟩ (jqV_mk h)
set_option maxRecDepth 20000 in
set_option maxHeartbeats 4000000 in
theorem t_X13_wantSign {a1 : Int32} {σ : jM} {r : Unit × jM}  (h : f_X13_wantSign a1 σ = some r) : J mi_X13_wantSign 3 0 0 (jqV r) 0 [(0, .ref 324), (1, .int a1)] [] (ms σ) := by
  unfold f_X13_wantSign at h
  refine J_aload_n 0 dX13_wantSign_0 rfl ?_
  obtain ⟨r1, σ2, h3, h⟩ := bd_inv h
  refine M_callVI (d' := 1) (k := 324) (As := []) (st := []) cv_X13_222 dX13_wantSign_1 rfl (by decide) rfl (Nat.le_of_ble_eq_true rfl) (Nat.le_of_ble_eq_true rfl) (by decide) n_324 k_324 rfl rfl (t_X13_isWell  h3) ?_
  refine J_if_ne (tgt := 8) dX13_wantSign_4 (by decide) (fun c4 => ?_) (fun c4 => ?_)
  · have h := (if_neg c4).symm.trans h
    refine J_aload_n 0 dX13_wantSign_8 rfl ?_
    refine J_iload_n 1 dX13_wantSign_9 rfl ?_
    obtain ⟨r5, σ6, h7, h⟩ := bd_inv h
    refine M_callVI (d' := 1) (k := 324) (As := [.int a1]) (st := []) cv_X13_226 dX13_wantSign_10 rfl (by decide) rfl (Nat.le_of_ble_eq_true rfl) (Nat.le_of_ble_eq_true rfl) (by decide) n_324 k_324 rfl rfl (t_X13_isSign  h7) ?_
    refine J_if_eq (tgt := 23) dX13_wantSign_13 (by decide) (fun c8 => ?_) (fun c8 => ?_)
    · have h := (if_pos c8).symm.trans h
      refine J_aload_n 0 dX13_wantSign_23 rfl ?_
      refine J_iconst (v := 1) dX13_wantSign_24 (by decide) ?_
      obtain ⟨_, σ10, h11, h⟩ := bd_inv h
      refine M_callVV (d' := 1) (k := 324) (As := [.int 1]) (st := []) cv_X13_232 dX13_wantSign_25 rfl (by decide) rfl (Nat.le_of_ble_eq_true rfl) (Nat.le_of_ble_eq_true rfl) (by decide) n_324 k_324 rfl rfl (t_X13_fails  h11) ?_
      refine J_pick [] rfl ?_
      exact t_X13_wantSign_28   _ _  h
    · have h := (if_neg c8).symm.trans h
      refine J_aload_n 0 dX13_wantSign_16 rfl ?_
      obtain ⟨_, σ13, h14, h⟩ := bd_inv h
      refine M_callVV (d' := 2) (k := 324) (As := []) (st := []) cv_X13_229 dX13_wantSign_17 rfl (by decide) rfl (Nat.le_of_ble_eq_true rfl) (Nat.le_of_ble_eq_true rfl) (by decide) n_324 k_324 rfl rfl (t_X13_next  h14) ?_
      refine J_goto (tgt := 28) dX13_wantSign_20 (by decide) ?_
      refine J_pick [] rfl ?_
      exact t_X13_wantSign_28   _ _  h
  · have h := (if_pos c4).symm.trans h
    exact J_ret (v := none) rfl ⟨dX13_wantSign_7, rfl⟩ (jqV_mk h)
theorem dX13_number_0 : decode cX13_number 0 = .ok (.aload_n 0, 1) := by decide +kernel
theorem dX13_number_1 : decode cX13_number 1 = .ok (.invokevirtual 222, 3) := by decide +kernel
theorem dX13_number_4 : decode cX13_number 4 = .ok (.ifCond .eq 16, 3) := by decide +kernel
theorem dX13_number_7 : decode cX13_number 7 = .ok (.aload_n 0, 1) := by decide +kernel
theorem dX13_number_8 : decode cX13_number 8 = .ok (.getfield 189, 3) := by decide +kernel
theorem dX13_number_11 : decode cX13_number 11 = .ok (.iconst 2, 1) := by decide +kernel
theorem dX13_number_12 : decode cX13_number 12 = .ok (.if_icmp .eq 8, 3) := by decide +kernel
theorem dX13_number_15 : decode cX13_number 15 = .ok (.aload_n 0, 1) := by decide +kernel
theorem dX13_number_16 : decode cX13_number 16 = .ok (.iconst 1, 1) := by decide +kernel
theorem dX13_number_17 : decode cX13_number 17 = .ok (.invokevirtual 232, 3) := by decide +kernel
theorem dX13_number_20 : decode cX13_number 20 = .ok (.aload_n 0, 1) := by decide +kernel
theorem dX13_number_21 : decode cX13_number 21 = .ok (.invokevirtual 222, 3) := by decide +kernel
theorem dX13_number_24 : decode cX13_number 24 = .ok (.ifCond .eq 20, 3) := by decide +kernel
theorem dX13_number_27 : decode cX13_number 27 = .ok (.aload_n 0, 1) := by decide +kernel
theorem dX13_number_28 : decode cX13_number 28 = .ok (.getfield 192, 3) := by decide +kernel
theorem dX13_number_31 : decode cX13_number 31 = .ok (.iload_n 1, 1) := by decide +kernel
theorem dX13_number_32 : decode cX13_number 32 = .ok (.iload_n 2, 1) := by decide +kernel
theorem dX13_number_33 : decode cX13_number 33 = .ok (.invokestatic 169, 3) := by decide +kernel
theorem dX13_number_36 : decode cX13_number 36 = .ok (.ifCond .ne 8, 3) := by decide +kernel
theorem dX13_number_39 : decode cX13_number 39 = .ok (.aload_n 0, 1) := by decide +kernel
theorem dX13_number_40 : decode cX13_number 40 = .ok (.iconst 2, 1) := by decide +kernel
theorem dX13_number_41 : decode cX13_number 41 = .ok (.invokevirtual 232, 3) := by decide +kernel
theorem dX13_number_44 : decode cX13_number 44 = .ok (.aload_n 0, 1) := by decide +kernel
theorem dX13_number_45 : decode cX13_number 45 = .ok (.invokevirtual 222, 3) := by decide +kernel
theorem dX13_number_48 : decode cX13_number 48 = .ok (.ifCond .ne 5, 3) := by decide +kernel
theorem dX13_number_51 : decode cX13_number 51 = .ok (.iconst 0, 1) := by decide +kernel
theorem dX13_number_52 : decode cX13_number 52 = .ok (.ireturn, 1) := by decide +kernel
theorem dX13_number_53 : decode cX13_number 53 = .ok (.aload_n 0, 1) := by decide +kernel
theorem dX13_number_54 : decode cX13_number 54 = .ok (.getfield 192, 3) := by decide +kernel
theorem dX13_number_57 : decode cX13_number 57 = .ok (.istore_n 3, 1) := by decide +kernel
theorem dX13_number_58 : decode cX13_number 58 = .ok (.aload_n 0, 1) := by decide +kernel
theorem dX13_number_59 : decode cX13_number 59 = .ok (.invokevirtual 229, 3) := by decide +kernel
theorem dX13_number_62 : decode cX13_number 62 = .ok (.iload_n 3, 1) := by decide +kernel
theorem dX13_number_63 : decode cX13_number 63 = .ok (.ireturn, 1) := by decide +kernel
noncomputable def f_X13_number_44   (σ : jM) : Option (Int32 × jM) :=
  bd (f_X13_isWell  σ) (fun r1 σ2 => (if r1 = 0 then some (0, σ2) else bd (f_X13_next  σ2) (fun _ σ6 => some ((rI σ2 324 20), σ6))))
noncomputable def f_X13_number_20  (l1 : Int32) (l2 : Int32) (σ : jM) : Option (Int32 × jM) :=
  bd (f_X13_isWell  σ) (fun r15 σ16 => (if r15 = 0 then f_X13_number_44   σ16 else bd (f_X13_within (rI σ16 324 20) l1 l2 σ16) (fun r19 σ20 => (if r19 = 0 then bd (f_X13_fails 2 σ20) (fun _ σ24 => f_X13_number_44   σ24) else f_X13_number_44   σ20))))
noncomputable def f_X13_number (a1 : Int32) (a2 : Int32) (σ : jM) : Option (Int32 × jM) :=
  bd (f_X13_isWell  σ) (fun r37 σ38 => (if r37 = 0 then f_X13_number_20  a1 a2 σ38 else (if (rI σ38 324 19) = 2 then f_X13_number_20  a1 a2 σ38 else bd (f_X13_fails 1 σ38) (fun _ σ43 => f_X13_number_20  a1 a2 σ43))))
set_option maxRecDepth 20000 in
set_option maxHeartbeats 4000000 in
theorem t_X13_number_44   (σ : jM) (r : Int32 × jM)  (h : f_X13_number_44   σ = some r) : J mi_X13_number 3 0 0 (jqI r) 44 [(0, .ref 324)] [] (ms σ) := by
  unfold f_X13_number_44 at h
  refine J_aload_n 0 dX13_number_44 rfl ?_
  obtain ⟨r8, σ9, h10, h⟩ := bd_inv h
  refine M_callVI (d' := 1) (k := 324) (As := []) (st := []) cv_X13_222 dX13_number_45 rfl (by decide) rfl (Nat.le_of_ble_eq_true rfl) (Nat.le_of_ble_eq_true rfl) (by decide) n_324 k_324 rfl rfl (t_X13_isWell  h10) ?_
  refine J_if_ne (tgt := 53) dX13_number_48 (by decide) (fun c11 => ?_) (fun c11 => ?_)
  · have h := (if_neg c11).symm.trans h
    refine J_aload_n 0 dX13_number_53 rfl ?_
    refine M_getI gf_X13_192_12 dX13_number_54 k_324 n_324 ?_
    refine J_istore_n (i := 3) (ls' := [(3, .int (rI σ9 324 20)), (0, .ref 324)]) dX13_number_57 rfl (by decide) rfl ?_
    refine J_aload_n 1 dX13_number_58 rfl ?_
    obtain ⟨_, σ13, h14, h⟩ := bd_inv h
    refine M_callVV (d' := 2) (k := 324) (As := []) (st := []) cv_X13_229 dX13_number_59 rfl (by decide) rfl (Nat.le_of_ble_eq_true rfl) (Nat.le_of_ble_eq_true rfl) (by decide) n_324 k_324 rfl rfl (t_X13_next  h14) ?_
    refine J_iload_n 0 dX13_number_62 rfl ?_
    exact J_ret (v := some (.int (rI σ9 324 20))) rfl ⟨dX13_number_63, Or.inl rfl⟩ (jqI_mk h)
  · have h := (if_pos c11).symm.trans h
    refine J_iconst (v := 0) dX13_number_51 (by decide) ?_
    exact J_ret (v := some (.int 0)) rfl ⟨dX13_number_52, Or.inl rfl⟩ (jqI_mk h)
set_option maxRecDepth 20000 in
set_option maxHeartbeats 4000000 in
theorem t_X13_number_20  (l1 : Int32) (l2 : Int32) (σ : jM) (r : Int32 × jM)  (h : f_X13_number_20  l1 l2 σ = some r) : J mi_X13_number 3 0 0 (jqI r) 20 [(0, .ref 324), (1, .int l1), (2, .int l2)] [] (ms σ) := by
  unfold f_X13_number_20 at h
  refine J_aload_n 0 dX13_number_20 rfl ?_
  obtain ⟨r26, σ27, h28, h⟩ := bd_inv h
  refine M_callVI (d' := 1) (k := 324) (As := []) (st := []) cv_X13_222 dX13_number_21 rfl (by decide) rfl (Nat.le_of_ble_eq_true rfl) (Nat.le_of_ble_eq_true rfl) (by decide) n_324 k_324 rfl rfl (t_X13_isWell  h28) ?_
  refine J_if_eq (tgt := 44) dX13_number_24 (by decide) (fun c29 => ?_) (fun c29 => ?_)
  · have h := (if_pos c29).symm.trans h
    refine J_pick [0] rfl ?_
    exact t_X13_number_44   _ _  h
  · have h := (if_neg c29).symm.trans h
    refine J_aload_n 0 dX13_number_27 rfl ?_
    refine M_getI gf_X13_192_12 dX13_number_28 k_324 n_324 ?_
    refine J_iload_n 1 dX13_number_31 rfl ?_
    refine J_iload_n 2 dX13_number_32 rfl ?_
    obtain ⟨r30, σ31, h32, h⟩ := bd_inv h
    refine M_callSI (d' := 1) (As := [.int (rI σ27 324 20), .int l1, .int l2]) (st := []) cs_X13_169 dX13_number_33 rfl (Nat.le_of_ble_eq_true rfl) (Nat.le_of_ble_eq_true rfl) (by decide) rfl rfl (t_X13_within  h32) ?_
    refine J_if_ne (tgt := 44) dX13_number_36 (by decide) (fun c33 => ?_) (fun c33 => ?_)
    · have h := (if_neg c33).symm.trans h
      refine J_pick [0] rfl ?_
      exact t_X13_number_44   _ _  h
    · have h := (if_pos c33).symm.trans h
      refine J_aload_n 0 dX13_number_39 rfl ?_
      refine J_iconst (v := 2) dX13_number_40 (by decide) ?_
      obtain ⟨_, σ35, h36, h⟩ := bd_inv h
      refine M_callVV (d' := 1) (k := 324) (As := [.int 2]) (st := []) cv_X13_232 dX13_number_41 rfl (by decide) rfl (Nat.le_of_ble_eq_true rfl) (Nat.le_of_ble_eq_true rfl) (by decide) n_324 k_324 rfl rfl (t_X13_fails  h36) ?_
      refine J_pick [0] rfl ?_
      exact t_X13_number_44   _ _  h
set_option maxRecDepth 20000 in
set_option maxHeartbeats 4000000 in
theorem t_X13_number {a1 : Int32} {a2 : Int32} {σ : jM} {r : Int32 × jM}  (h : f_X13_number a1 a2 σ = some r) : J mi_X13_number 3 0 0 (jqI r) 0 [(0, .ref 324), (1, .int a1), (2, .int a2)] [] (ms σ) := by
  unfold f_X13_number at h
  refine J_aload_n 0 dX13_number_0 rfl ?_
  obtain ⟨r37, σ38, h39, h⟩ := bd_inv h
  refine M_callVI (d' := 1) (k := 324) (As := []) (st := []) cv_X13_222 dX13_number_1 rfl (by decide) rfl (Nat.le_of_ble_eq_true rfl) (Nat.le_of_ble_eq_true rfl) (by decide) n_324 k_324 rfl rfl (t_X13_isWell  h39) ?_
  refine J_if_eq (tgt := 20) dX13_number_4 (by decide) (fun c40 => ?_) (fun c40 => ?_)
  · have h := (if_pos c40).symm.trans h
    exact t_X13_number_20  _ _ _ _  h
  · have h := (if_neg c40).symm.trans h
    refine J_aload_n 0 dX13_number_7 rfl ?_
    refine M_getI gf_X13_189_12 dX13_number_8 k_324 n_324 ?_
    refine J_iconst (v := 2) dX13_number_11 (by decide) ?_
    refine J_icmp_eq (tgt := 20) dX13_number_12 (by decide) (fun c41 => ?_) (fun c41 => ?_)
    · have h := (if_pos c41).symm.trans h
      exact t_X13_number_20  _ _ _ _  h
    · have h := (if_neg c41).symm.trans h
      refine J_aload_n 0 dX13_number_15 rfl ?_
      refine J_iconst (v := 1) dX13_number_16 (by decide) ?_
      obtain ⟨_, σ43, h44, h⟩ := bd_inv h
      refine M_callVV (d' := 1) (k := 324) (As := [.int 1]) (st := []) cv_X13_232 dX13_number_17 rfl (by decide) rfl (Nat.le_of_ble_eq_true rfl) (Nat.le_of_ble_eq_true rfl) (by decide) n_324 k_324 rfl rfl (t_X13_fails  h44) ?_
      exact t_X13_number_20  _ _ _ _  h
theorem dX13_starts_0 : decode cX13_starts 0 = .ok (.aload_n 0, 1) := by decide +kernel
theorem dX13_starts_1 : decode cX13_starts 1 = .ok (.iconst 0, 1) := by decide +kernel
theorem dX13_starts_2 : decode cX13_starts 2 = .ok (.putfield 216, 3) := by decide +kernel
theorem dX13_starts_5 : decode cX13_starts 5 = .ok (.aload_n 0, 1) := by decide +kernel
theorem dX13_starts_6 : decode cX13_starts 6 = .ok (.iconst 0, 1) := by decide +kernel
theorem dX13_starts_7 : decode cX13_starts 7 = .ok (.putfield 183, 3) := by decide +kernel
theorem dX13_starts_10 : decode cX13_starts 10 = .ok (.aload_n 0, 1) := by decide +kernel
theorem dX13_starts_11 : decode cX13_starts 11 = .ok (.invokevirtual 229, 3) := by decide +kernel
theorem dX13_starts_14 : decode cX13_starts 14 = .ok (.return_, 1) := by decide +kernel
noncomputable def f_X13_starts  (σ : jM) : Option (Unit × jM) :=
  bd (f_X13_next  (wI (wI σ 324 21 0) 324 17 0)) (fun _ σ2 => some ((), σ2))
set_option maxRecDepth 20000 in
set_option maxHeartbeats 4000000 in
theorem t_X13_starts  {σ : jM} {r : Unit × jM}  (h : f_X13_starts  σ = some r) : J mi_X13_starts 3 0 0 (jqV r) 0 [(0, .ref 324)] [] (ms σ) := by
  unfold f_X13_starts at h
  refine J_aload_n 0 dX13_starts_0 rfl ?_
  refine J_iconst (v := 0) dX13_starts_1 (by decide) ?_
  refine M_putI pf_X13_216_12 dX13_starts_2 k_324 n_324 ⟨rfl, rfl⟩ ?_
  refine J_aload_n 0 dX13_starts_5 rfl ?_
  refine J_iconst (v := 0) dX13_starts_6 (by decide) ?_
  refine M_putI pf_X13_183_12 dX13_starts_7 k_324 n_324 ⟨rfl, rfl⟩ ?_
  refine J_aload_n 0 dX13_starts_10 rfl ?_
  obtain ⟨_, σ2, h3, h⟩ := bd_inv h
  refine M_callVV (d' := 2) (k := 324) (As := []) (st := []) cv_X13_229 dX13_starts_11 rfl (by decide) rfl (Nat.le_of_ble_eq_true rfl) (Nat.le_of_ble_eq_true rfl) (by decide) n_324 k_324 rfl rfl (t_X13_next  h3) ?_
  exact J_ret (v := none) rfl ⟨dX13_starts_14, rfl⟩ (jqV_mk h)
theorem dX13_stops_0 : decode cX13_stops 0 = .ok (.aload_n 0, 1) := by decide +kernel
theorem dX13_stops_1 : decode cX13_stops 1 = .ok (.iconst 0, 1) := by decide +kernel
theorem dX13_stops_2 : decode cX13_stops 2 = .ok (.putfield 180, 3) := by decide +kernel
theorem dX13_stops_5 : decode cX13_stops 5 = .ok (.aload_n 0, 1) := by decide +kernel
theorem dX13_stops_6 : decode cX13_stops 6 = .ok (.aload_n 0, 1) := by decide +kernel
theorem dX13_stops_7 : decode cX13_stops 7 = .ok (.invokevirtual 222, 3) := by decide +kernel
theorem dX13_stops_10 : decode cX13_stops 10 = .ok (.ifCond .eq 7, 3) := by decide +kernel
theorem dX13_stops_13 : decode cX13_stops 13 = .ok (.iconst (-1), 1) := by decide +kernel
theorem dX13_stops_14 : decode cX13_stops 14 = .ok (.goto 7, 3) := by decide +kernel
theorem dX13_stops_17 : decode cX13_stops 17 = .ok (.aload_n 0, 1) := by decide +kernel
theorem dX13_stops_18 : decode cX13_stops 18 = .ok (.getfield 219, 3) := by decide +kernel
theorem dX13_stops_21 : decode cX13_stops 21 = .ok (.putfield 51, 3) := by decide +kernel
theorem dX13_stops_24 : decode cX13_stops 24 = .ok (.aload_n 0, 1) := by decide +kernel
theorem dX13_stops_25 : decode cX13_stops 25 = .ok (.invokevirtual 222, 3) := by decide +kernel
theorem dX13_stops_28 : decode cX13_stops 28 = .ok (.ifCond .eq 7, 3) := by decide +kernel
theorem dX13_stops_31 : decode cX13_stops 31 = .ok (.iconst 0, 1) := by decide +kernel
theorem dX13_stops_32 : decode cX13_stops 32 = .ok (.goto 9, 3) := by decide +kernel
theorem dX13_stops_35 : decode cX13_stops 35 = .ok (.iconst (-1), 1) := by decide +kernel
theorem dX13_stops_36 : decode cX13_stops 36 = .ok (.aload_n 0, 1) := by decide +kernel
theorem dX13_stops_37 : decode cX13_stops 37 = .ok (.getfield 216, 3) := by decide +kernel
theorem dX13_stops_40 : decode cX13_stops 40 = .ok (.isub, 1) := by decide +kernel
theorem dX13_stops_41 : decode cX13_stops 41 = .ok (.ireturn, 1) := by decide +kernel
noncomputable def f_X13_stops_41  (s0 : Int32) (σ : jM) : Option (Int32 × jM) :=
  some (s0, σ)
noncomputable def f_X13_stops_21  (s1 : Int32) (σ : jM) : Option (Int32 × jM) :=
  bd (f_X13_isWell  (wI σ 324 23 s1)) (fun r1 σ2 => (if r1 = 0 then f_X13_stops_41  ((-1) - (rI σ2 324 21)) σ2 else f_X13_stops_41  0 σ2))
noncomputable def f_X13_stops  (σ : jM) : Option (Int32 × jM) :=
  bd (f_X13_isWell  (wI σ 324 16 0)) (fun r9 σ10 => (if r9 = 0 then f_X13_stops_21  (rI σ10 324 22) σ10 else f_X13_stops_21  (-1) σ10))
set_option maxRecDepth 20000 in
set_option maxHeartbeats 4000000 in
theorem t_X13_stops_41  (s0 : Int32) (σ : jM) (r : Int32 × jM)  (h : f_X13_stops_41  s0 σ = some r) : J mi_X13_stops 2 0 0 (jqI r) 41 [] [.int s0] (ms σ) := by
  unfold f_X13_stops_41 at h
  exact J_ret (v := some (.int s0)) rfl ⟨dX13_stops_41, Or.inl rfl⟩ (jqI_mk h)
set_option maxRecDepth 20000 in
set_option maxHeartbeats 4000000 in
theorem t_X13_stops_21  (s1 : Int32) (σ : jM) (r : Int32 × jM)  (h : f_X13_stops_21  s1 σ = some r) : J mi_X13_stops 2 0 0 (jqI r) 21 [(0, .ref 324)] [.int s1, .ref 324] (ms σ) := by
  unfold f_X13_stops_21 at h
  refine M_putI pf_X13_51_12 dX13_stops_21 k_324 n_324 ⟨rfl, rfl⟩ ?_
  refine J_aload_n 0 dX13_stops_24 rfl ?_
  obtain ⟨r5, σ6, h7, h⟩ := bd_inv h
  refine M_callVI (d' := 1) (k := 324) (As := []) (st := []) cv_X13_222 dX13_stops_25 rfl (by decide) rfl (Nat.le_of_ble_eq_true rfl) (Nat.le_of_ble_eq_true rfl) (by decide) n_324 k_324 rfl rfl (t_X13_isWell  h7) ?_
  refine J_if_eq (tgt := 35) dX13_stops_28 (by decide) (fun c8 => ?_) (fun c8 => ?_)
  · have h := (if_pos c8).symm.trans h
    refine J_iconst (v := (-1)) dX13_stops_35 (by decide) ?_
    refine J_aload_n 0 dX13_stops_36 rfl ?_
    refine M_getI gf_X13_216_12 dX13_stops_37 k_324 n_324 ?_
    refine J_isub dX13_stops_40 ?_
    refine J_pick [] rfl ?_
    exact t_X13_stops_41  _ _ _  h
  · have h := (if_neg c8).symm.trans h
    refine J_iconst (v := 0) dX13_stops_31 (by decide) ?_
    refine J_goto (tgt := 41) dX13_stops_32 (by decide) ?_
    refine J_pick [] rfl ?_
    exact t_X13_stops_41  _ _ _  h
set_option maxRecDepth 20000 in
set_option maxHeartbeats 4000000 in
theorem t_X13_stops  {σ : jM} {r : Int32 × jM}  (h : f_X13_stops  σ = some r) : J mi_X13_stops 2 0 0 (jqI r) 0 [(0, .ref 324)] [] (ms σ) := by
  unfold f_X13_stops at h
  refine J_aload_n 0 dX13_stops_0 rfl ?_
  refine J_iconst (v := 0) dX13_stops_1 (by decide) ?_
  refine M_putI pf_X13_180_12 dX13_stops_2 k_324 n_324 ⟨rfl, rfl⟩ ?_
  refine J_aload_n 0 dX13_stops_5 rfl ?_
  refine J_aload_n 0 dX13_stops_6 rfl ?_
  obtain ⟨r9, σ10, h11, h⟩ := bd_inv h
  refine M_callVI (d' := 1) (k := 324) (As := []) (st := [.ref 324]) cv_X13_222 dX13_stops_7 rfl (by decide) rfl (Nat.le_of_ble_eq_true rfl) (Nat.le_of_ble_eq_true rfl) (by decide) n_324 k_324 rfl rfl (t_X13_isWell  h11) ?_
  refine J_if_eq (tgt := 17) dX13_stops_10 (by decide) (fun c12 => ?_) (fun c12 => ?_)
  · have h := (if_pos c12).symm.trans h
    refine J_aload_n 0 dX13_stops_17 rfl ?_
    refine M_getI gf_X13_219_12 dX13_stops_18 k_324 n_324 ?_
    exact t_X13_stops_21  _ _ _  h
  · have h := (if_neg c12).symm.trans h
    refine J_iconst (v := (-1)) dX13_stops_13 (by decide) ?_
    refine J_goto (tgt := 21) dX13_stops_14 (by decide) ?_
    exact t_X13_stops_21  _ _ _  h
theorem dX13_place_0 : decode cX13_place 0 = .ok (.aload_n 0, 1) := by decide +kernel
theorem dX13_place_1 : decode cX13_place 1 = .ok (.iconst 0, 1) := by decide +kernel
theorem dX13_place_2 : decode cX13_place 2 = .ok (.putfield 1, 3) := by decide +kernel
theorem dX13_place_5 : decode cX13_place 5 = .ok (.aload_n 0, 1) := by decide +kernel
theorem dX13_place_6 : decode cX13_place 6 = .ok (.getfield 51, 3) := by decide +kernel
theorem dX13_place_9 : decode cX13_place 9 = .ok (.ireturn, 1) := by decide +kernel
noncomputable def f_X13_place  (σ : jM) : Option (Int32 × jM) :=
  some ((rI (wI σ 324 0 0) 324 23), wI σ 324 0 0)
set_option maxRecDepth 20000 in
set_option maxHeartbeats 4000000 in
theorem t_X13_place  {σ : jM} {r : Int32 × jM}  (h : f_X13_place  σ = some r) : J mi_X13_place 1 0 0 (jqI r) 0 [(0, .ref 324)] [] (ms σ) := by
  unfold f_X13_place at h
  refine J_aload_n 0 dX13_place_0 rfl ?_
  refine J_iconst (v := 0) dX13_place_1 (by decide) ?_
  refine M_putI pf_X13_1_12 dX13_place_2 k_324 n_324 ⟨rfl, rfl⟩ ?_
  refine J_aload_n 0 dX13_place_5 rfl ?_
  refine M_getI gf_X13_51_12 dX13_place_6 k_324 n_324 ?_
  exact J_ret (v := some (.int (rI (wI σ 324 0 0) 324 23))) rfl ⟨dX13_place_9, Or.inl rfl⟩ (jqI_mk h)
theorem dX13_readRow_0 : decode cX13_readRow 0 = .ok (.aload_n 0, 1) := by decide +kernel
theorem dX13_readRow_1 : decode cX13_readRow 1 = .ok (.getfield 189, 3) := by decide +kernel
theorem dX13_readRow_4 : decode cX13_readRow 4 = .ok (.iconst 2, 1) := by decide +kernel
theorem dX13_readRow_5 : decode cX13_readRow 5 = .ok (.if_icmp .eq 20, 3) := by decide +kernel
theorem dX13_readRow_8 : decode cX13_readRow 8 = .ok (.aload_n 0, 1) := by decide +kernel
theorem dX13_readRow_9 : decode cX13_readRow 9 = .ok (.bipush 63, 2) := by decide +kernel
theorem dX13_readRow_11 : decode cX13_readRow 11 = .ok (.invokevirtual 226, 3) := by decide +kernel
theorem dX13_readRow_14 : decode cX13_readRow 14 = .ok (.ifCond .ne 11, 3) := by decide +kernel
theorem dX13_readRow_17 : decode cX13_readRow 17 = .ok (.aload_n 0, 1) := by decide +kernel
theorem dX13_readRow_18 : decode cX13_readRow 18 = .ok (.iconst 1, 1) := by decide +kernel
theorem dX13_readRow_19 : decode cX13_readRow 19 = .ok (.invokevirtual 232, 3) := by decide +kernel
theorem dX13_readRow_22 : decode cX13_readRow 22 = .ok (.goto 20, 3) := by decide +kernel
theorem dX13_readRow_25 : decode cX13_readRow 25 = .ok (.aload_n 0, 1) := by decide +kernel
theorem dX13_readRow_26 : decode cX13_readRow 26 = .ok (.getfield 20, 3) := by decide +kernel
theorem dX13_readRow_29 : decode cX13_readRow 29 = .ok (.bipush 24, 2) := by decide +kernel
theorem dX13_readRow_31 : decode cX13_readRow 31 = .ok (.iaload, 1) := by decide +kernel
theorem dX13_readRow_32 : decode cX13_readRow 32 = .ok (.bipush 8, 2) := by decide +kernel
theorem dX13_readRow_34 : decode cX13_readRow 34 = .ok (.if_icmp .ne 8, 3) := by decide +kernel
theorem dX13_readRow_37 : decode cX13_readRow 37 = .ok (.aload_n 0, 1) := by decide +kernel
theorem dX13_readRow_38 : decode cX13_readRow 38 = .ok (.iconst 3, 1) := by decide +kernel
theorem dX13_readRow_39 : decode cX13_readRow 39 = .ok (.invokevirtual 232, 3) := by decide +kernel
theorem dX13_readRow_42 : decode cX13_readRow 42 = .ok (.aload_n 0, 1) := by decide +kernel
theorem dX13_readRow_43 : decode cX13_readRow 43 = .ok (.invokevirtual 222, 3) := by decide +kernel
theorem dX13_readRow_46 : decode cX13_readRow 46 = .ok (.ifCond .ne 4, 3) := by decide +kernel
theorem dX13_readRow_49 : decode cX13_readRow 49 = .ok (.return_, 1) := by decide +kernel
theorem dX13_readRow_50 : decode cX13_readRow 50 = .ok (.sipush 192, 3) := by decide +kernel
theorem dX13_readRow_53 : decode cX13_readRow 53 = .ok (.aload_n 0, 1) := by decide +kernel
theorem dX13_readRow_54 : decode cX13_readRow 54 = .ok (.getfield 20, 3) := by decide +kernel
theorem dX13_readRow_57 : decode cX13_readRow 57 = .ok (.bipush 24, 2) := by decide +kernel
theorem dX13_readRow_59 : decode cX13_readRow 59 = .ok (.iaload, 1) := by decide +kernel
theorem dX13_readRow_60 : decode cX13_readRow 60 = .ok (.iadd, 1) := by decide +kernel
theorem dX13_readRow_61 : decode cX13_readRow 61 = .ok (.istore_n 1, 1) := by decide +kernel
theorem dX13_readRow_62 : decode cX13_readRow 62 = .ok (.aload_n 0, 1) := by decide +kernel
theorem dX13_readRow_63 : decode cX13_readRow 63 = .ok (.getfield 20, 3) := by decide +kernel
theorem dX13_readRow_66 : decode cX13_readRow 66 = .ok (.bipush 24, 2) := by decide +kernel
theorem dX13_readRow_68 : decode cX13_readRow 68 = .ok (.dup2, 1) := by decide +kernel
theorem dX13_readRow_69 : decode cX13_readRow 69 = .ok (.iaload, 1) := by decide +kernel
theorem dX13_readRow_70 : decode cX13_readRow 70 = .ok (.iconst 1, 1) := by decide +kernel
theorem dX13_readRow_71 : decode cX13_readRow 71 = .ok (.iadd, 1) := by decide +kernel
theorem dX13_readRow_72 : decode cX13_readRow 72 = .ok (.iastore, 1) := by decide +kernel
theorem dX13_readRow_73 : decode cX13_readRow 73 = .ok (.aload_n 0, 1) := by decide +kernel
theorem dX13_readRow_74 : decode cX13_readRow 74 = .ok (.getfield 23, 3) := by decide +kernel
theorem dX13_readRow_77 : decode cX13_readRow 77 = .ok (.iload_n 1, 1) := by decide +kernel
theorem dX13_readRow_78 : decode cX13_readRow 78 = .ok (.iconst 0, 1) := by decide +kernel
theorem dX13_readRow_79 : decode cX13_readRow 79 = .ok (.iastore, 1) := by decide +kernel
theorem dX13_readRow_80 : decode cX13_readRow 80 = .ok (.aload_n 0, 1) := by decide +kernel
theorem dX13_readRow_81 : decode cX13_readRow 81 = .ok (.invokevirtual 222, 3) := by decide +kernel
theorem dX13_readRow_84 : decode cX13_readRow 84 = .ok (.ifCond .eq 97, 3) := by decide +kernel
theorem dX13_readRow_87 : decode cX13_readRow 87 = .ok (.aload_n 0, 1) := by decide +kernel
theorem dX13_readRow_88 : decode cX13_readRow 88 = .ok (.getfield 189, 3) := by decide +kernel
theorem dX13_readRow_91 : decode cX13_readRow 91 = .ok (.iconst 2, 1) := by decide +kernel
theorem dX13_readRow_92 : decode cX13_readRow 92 = .ok (.if_icmp .eq 12, 3) := by decide +kernel
theorem dX13_readRow_95 : decode cX13_readRow 95 = .ok (.aload_n 0, 1) := by decide +kernel
theorem dX13_readRow_96 : decode cX13_readRow 96 = .ok (.bipush 63, 2) := by decide +kernel
theorem dX13_readRow_98 : decode cX13_readRow 98 = .ok (.invokevirtual 226, 3) := by decide +kernel
theorem dX13_readRow_101 : decode cX13_readRow 101 = .ok (.ifCond .eq 80, 3) := by decide +kernel
theorem dX13_readRow_104 : decode cX13_readRow 104 = .ok (.aload_n 0, 1) := by decide +kernel
theorem dX13_readRow_105 : decode cX13_readRow 105 = .ok (.getfield 23, 3) := by decide +kernel
theorem dX13_readRow_108 : decode cX13_readRow 108 = .ok (.iload_n 1, 1) := by decide +kernel
theorem dX13_readRow_109 : decode cX13_readRow 109 = .ok (.iaload, 1) := by decide +kernel
theorem dX13_readRow_110 : decode cX13_readRow 110 = .ok (.bipush 6, 2) := by decide +kernel
theorem dX13_readRow_112 : decode cX13_readRow 112 = .ok (.if_icmp .ne 9, 3) := by decide +kernel
theorem dX13_readRow_115 : decode cX13_readRow 115 = .ok (.aload_n 0, 1) := by decide +kernel
theorem dX13_readRow_116 : decode cX13_readRow 116 = .ok (.iconst 3, 1) := by decide +kernel
theorem dX13_readRow_117 : decode cX13_readRow 117 = .ok (.invokevirtual 232, 3) := by decide +kernel
theorem dX13_readRow_120 : decode cX13_readRow 120 = .ok (.return_, 1) := by decide +kernel
theorem dX13_readRow_121 : decode cX13_readRow 121 = .ok (.bipush 6, 2) := by decide +kernel
theorem dX13_readRow_123 : decode cX13_readRow 123 = .ok (.iload_n 1, 1) := by decide +kernel
theorem dX13_readRow_124 : decode cX13_readRow 124 = .ok (.imul, 1) := by decide +kernel
theorem dX13_readRow_125 : decode cX13_readRow 125 = .ok (.aload_n 0, 1) := by decide +kernel
theorem dX13_readRow_126 : decode cX13_readRow 126 = .ok (.getfield 23, 3) := by decide +kernel
theorem dX13_readRow_129 : decode cX13_readRow 129 = .ok (.iload_n 1, 1) := by decide +kernel
theorem dX13_readRow_130 : decode cX13_readRow 130 = .ok (.iaload, 1) := by decide +kernel
theorem dX13_readRow_131 : decode cX13_readRow 131 = .ok (.iadd, 1) := by decide +kernel
theorem dX13_readRow_132 : decode cX13_readRow 132 = .ok (.istore_n 2, 1) := by decide +kernel
theorem dX13_readRow_133 : decode cX13_readRow 133 = .ok (.aload_n 0, 1) := by decide +kernel
theorem dX13_readRow_134 : decode cX13_readRow 134 = .ok (.getfield 23, 3) := by decide +kernel
theorem dX13_readRow_137 : decode cX13_readRow 137 = .ok (.iload_n 1, 1) := by decide +kernel
theorem dX13_readRow_138 : decode cX13_readRow 138 = .ok (.dup2, 1) := by decide +kernel
theorem dX13_readRow_139 : decode cX13_readRow 139 = .ok (.iaload, 1) := by decide +kernel
theorem dX13_readRow_140 : decode cX13_readRow 140 = .ok (.iconst 1, 1) := by decide +kernel
theorem dX13_readRow_141 : decode cX13_readRow 141 = .ok (.iadd, 1) := by decide +kernel
theorem dX13_readRow_142 : decode cX13_readRow 142 = .ok (.iastore, 1) := by decide +kernel
theorem dX13_readRow_143 : decode cX13_readRow 143 = .ok (.aload_n 0, 1) := by decide +kernel
theorem dX13_readRow_144 : decode cX13_readRow 144 = .ok (.getfield 189, 3) := by decide +kernel
theorem dX13_readRow_147 : decode cX13_readRow 147 = .ok (.iconst 2, 1) := by decide +kernel
theorem dX13_readRow_148 : decode cX13_readRow 148 = .ok (.if_icmp .ne 19, 3) := by decide +kernel
theorem dX13_readRow_151 : decode cX13_readRow 151 = .ok (.aload_n 0, 1) := by decide +kernel
theorem dX13_readRow_152 : decode cX13_readRow 152 = .ok (.getfield 26, 3) := by decide +kernel
theorem dX13_readRow_155 : decode cX13_readRow 155 = .ok (.iload_n 2, 1) := by decide +kernel
theorem dX13_readRow_156 : decode cX13_readRow 156 = .ok (.aload_n 0, 1) := by decide +kernel
theorem dX13_readRow_157 : decode cX13_readRow 157 = .ok (.iconst 0, 1) := by decide +kernel
theorem dX13_readRow_158 : decode cX13_readRow 158 = .ok (.bipush 39, 2) := by decide +kernel
theorem dX13_readRow_160 : decode cX13_readRow 160 = .ok (.invokevirtual 236, 3) := by decide +kernel
theorem dX13_readRow_163 : decode cX13_readRow 163 = .ok (.iastore, 1) := by decide +kernel
theorem dX13_readRow_164 : decode cX13_readRow 164 = .ok (.goto 14, 3) := by decide +kernel
theorem dX13_readRow_167 : decode cX13_readRow 167 = .ok (.aload_n 0, 1) := by decide +kernel
theorem dX13_readRow_168 : decode cX13_readRow 168 = .ok (.getfield 26, 3) := by decide +kernel
theorem dX13_readRow_171 : decode cX13_readRow 171 = .ok (.iload_n 2, 1) := by decide +kernel
theorem dX13_readRow_172 : decode cX13_readRow 172 = .ok (.iconst (-1), 1) := by decide +kernel
theorem dX13_readRow_173 : decode cX13_readRow 173 = .ok (.iastore, 1) := by decide +kernel
theorem dX13_readRow_174 : decode cX13_readRow 174 = .ok (.aload_n 0, 1) := by decide +kernel
theorem dX13_readRow_175 : decode cX13_readRow 175 = .ok (.invokevirtual 229, 3) := by decide +kernel
theorem dX13_readRow_178 : decode cX13_readRow 178 = .ok (.goto (-98), 3) := by decide +kernel
theorem dX13_readRow_181 : decode cX13_readRow 181 = .ok (.aload_n 0, 1) := by decide +kernel
theorem dX13_readRow_182 : decode cX13_readRow 182 = .ok (.bipush 46, 2) := by decide +kernel
theorem dX13_readRow_184 : decode cX13_readRow 184 = .ok (.invokevirtual 240, 3) := by decide +kernel
theorem dX13_readRow_187 : decode cX13_readRow 187 = .ok (.return_, 1) := by decide +kernel
noncomputable def f_X13_readRow_181   (σ : jM) : Option (Unit × jM) :=
  bd (f_X13_wantSign 46 σ) (fun _ σ13 => some ((), σ13))
noncomputable def f_X13_readRow_178 (rec80 : Int32 → jM → Option (Unit × jM)) (l1 : Int32) (σ : jM) : Option (Unit × jM) :=
  rec80 l1 σ
noncomputable def f_X13_readRow_104 (rec80 : Int32 → jM → Option (Unit × jM)) (l1 : Int32) (σ : jM) : Option (Unit × jM) :=
  gd (inb l1 200) ((if (rI σ 328 (Int32.toNatClampNeg l1)) = 6 then bd (f_X13_fails 3 σ) (fun _ σ33 => some ((), σ33)) else gd (inb l1 200) (gd (inb l1 200) (gd (inb l1 200) ((if (rI (wI σ 328 (Int32.toNatClampNeg l1) ((rI σ 328 (Int32.toNatClampNeg l1)) + 1)) 324 19) = 2 then bd (f_X13_number 0 39 (wI σ 328 (Int32.toNatClampNeg l1) ((rI σ 328 (Int32.toNatClampNeg l1)) + 1))) (fun r28 σ29 => gd (inb ((6 * l1) + (rI σ 328 (Int32.toNatClampNeg l1))) 1200) (f_X13_readRow_178 rec80 l1 (wI σ29 329 (Int32.toNatClampNeg ((6 * l1) + (rI σ 328 (Int32.toNatClampNeg l1)))) r28))) else gd (inb ((6 * l1) + (rI σ 328 (Int32.toNatClampNeg l1))) 1200) (bd (f_X13_next  (wI (wI σ 328 (Int32.toNatClampNeg l1) ((rI σ 328 (Int32.toNatClampNeg l1)) + 1)) 329 (Int32.toNatClampNeg ((6 * l1) + (rI σ 328 (Int32.toNatClampNeg l1)))) (-1))) (fun _ σ26 => f_X13_readRow_178 rec80 l1 σ26))))))))
noncomputable def s_X13_readRow_80  (rec80 : Int32 → jM → Option (Unit × jM)) (l1 : Int32) (σ : jM) : Option (Unit × jM) :=
  bd (f_X13_isWell  σ) (fun r52 σ53 => (if r52 = 0 then f_X13_readRow_181   σ53 else (if (rI σ53 324 19) = 2 then f_X13_readRow_104 rec80 l1 σ53 else bd (f_X13_isSign 63 σ53) (fun r57 σ58 => (if r57 = 0 then f_X13_readRow_181   σ58 else f_X13_readRow_104 rec80 l1 σ58)))))
noncomputable def f_X13_readRow_80  (n : Nat) : Int32 → jM → Option (Unit × jM) := Nat.rec (motive := fun _ => Int32 → jM → Option (Unit × jM)) (fun _ _ => none) (fun _ q => s_X13_readRow_80  q) n
noncomputable def f_X13_readRow_42   (σ : jM) : Option (Unit × jM) :=
  bd (f_X13_isWell  σ) (fun r70 σ71 => (if r70 = 0 then some ((), σ71) else gd (inb 24 25) (gd (inb 24 25) (gd (inb 24 25) (gd (inb (192 + (rI σ71 327 (Int32.toNatClampNeg 24))) 200) (f_X13_readRow_80  Fu (192 + (rI σ71 327 (Int32.toNatClampNeg 24))) (wI (wI σ71 327 (Int32.toNatClampNeg 24) ((rI σ71 327 (Int32.toNatClampNeg 24)) + 1)) 328 (Int32.toNatClampNeg (192 + (rI σ71 327 (Int32.toNatClampNeg 24)))) 0)))))))
noncomputable def f_X13_readRow_25   (σ : jM) : Option (Unit × jM) :=
  gd (inb 24 25) ((if (rI σ 327 (Int32.toNatClampNeg 24)) = 8 then bd (f_X13_fails 3 σ) (fun _ σ89 => f_X13_readRow_42   σ89) else f_X13_readRow_42   σ))
noncomputable def f_X13_readRow  (σ : jM) : Option (Unit × jM) :=
  (if (rI σ 324 19) = 2 then f_X13_readRow_25   σ else bd (f_X13_isSign 63 σ) (fun r97 σ98 => (if r97 = 0 then bd (f_X13_fails 1 σ98) (fun _ σ102 => f_X13_readRow_42   σ102) else f_X13_readRow_25   σ98)))
set_option maxRecDepth 20000 in
set_option maxHeartbeats 4000000 in
theorem t_X13_readRow_181   (σ : jM) (r : Unit × jM)  (h : f_X13_readRow_181   σ = some r) : J mi_X13_readRow 4 0 0 (jqV r) 181 [(0, .ref 324)] [] (ms σ) := by
  unfold f_X13_readRow_181 at h
  refine J_aload_n 0 dX13_readRow_181 rfl ?_
  refine J_bipush (v := 46) dX13_readRow_182 (by decide) ?_
  obtain ⟨_, σ16, h17, h⟩ := bd_inv h
  refine M_callVV (d' := 3) (k := 324) (As := [.int 46]) (st := []) cv_X13_240 dX13_readRow_184 rfl (by decide) rfl (Nat.le_of_ble_eq_true rfl) (Nat.le_of_ble_eq_true rfl) (by decide) n_324 k_324 rfl rfl (t_X13_wantSign  h17) ?_
  exact J_ret (v := none) rfl ⟨dX13_readRow_187, rfl⟩ (jqV_mk h)
set_option maxRecDepth 20000 in
set_option maxHeartbeats 4000000 in
theorem t_X13_readRow_178 {rec80 : Int32 → jM → Option (Unit × jM)} (hrec80 : ∀ (l1 : Int32) (σ : jM) (r : Unit × jM), rec80 l1 σ = some r → J mi_X13_readRow 4 0 0 (jqV r) 80 [(0, .ref 324), (1, .int l1)] [] (ms σ)) (l1 : Int32) (σ : jM) (r : Unit × jM)  (h : f_X13_readRow_178 rec80 l1 σ = some r) : J mi_X13_readRow 4 0 0 (jqV r) 178 [(0, .ref 324), (1, .int l1)] [] (ms σ) := by
  unfold f_X13_readRow_178 at h
  refine J_goto (tgt := 80) dX13_readRow_178 (by decide) ?_
  exact hrec80 _ _ _  h
set_option maxRecDepth 20000 in
set_option maxHeartbeats 4000000 in
theorem t_X13_readRow_104 {rec80 : Int32 → jM → Option (Unit × jM)} (hrec80 : ∀ (l1 : Int32) (σ : jM) (r : Unit × jM), rec80 l1 σ = some r → J mi_X13_readRow 4 0 0 (jqV r) 80 [(0, .ref 324), (1, .int l1)] [] (ms σ)) (l1 : Int32) (σ : jM) (r : Unit × jM)  (h : f_X13_readRow_104 rec80 l1 σ = some r) : J mi_X13_readRow 4 0 0 (jqV r) 104 [(0, .ref 324), (1, .int l1)] [] (ms σ) := by
  unfold f_X13_readRow_104 at h
  refine J_aload_n 0 dX13_readRow_104 rfl ?_
  refine M_getR gf_X13_23_12 dX13_readRow_105 (g_324_6 _) k_324 n_324 ?_
  refine J_iload_n 1 dX13_readRow_108 rfl ?_
  obtain ⟨g35, h⟩ := gd_inv h
  refine M_iald dX13_readRow_109 a_328 n_328 g35 ?_
  refine J_bipush (v := 6) dX13_readRow_110 (by decide) ?_
  refine J_icmp_ne (tgt := 121) dX13_readRow_112 (by decide) (fun c36 => ?_) (fun c36 => ?_)
  · have h := (if_neg c36).symm.trans h
    refine J_bipush (v := 6) dX13_readRow_121 (by decide) ?_
    refine J_iload_n 1 dX13_readRow_123 rfl ?_
    refine J_imul dX13_readRow_124 ?_
    refine J_aload_n 0 dX13_readRow_125 rfl ?_
    refine M_getR gf_X13_23_12 dX13_readRow_126 (g_324_6 _) k_324 n_324 ?_
    refine J_iload_n 1 dX13_readRow_129 rfl ?_
    obtain ⟨g37, h⟩ := gd_inv h
    refine M_iald dX13_readRow_130 a_328 n_328 g37 ?_
    refine J_iadd dX13_readRow_131 ?_
    refine J_istore_n (i := 2) (ls' := [(2, .int ((6 * l1) + (rI σ 328 (Int32.toNatClampNeg l1)))), (0, .ref 324), (1, .int l1)]) dX13_readRow_132 rfl (by decide) rfl ?_
    refine J_aload_n 1 dX13_readRow_133 rfl ?_
    refine M_getR gf_X13_23_12 dX13_readRow_134 (g_324_6 _) k_324 n_324 ?_
    refine J_iload_n 2 dX13_readRow_137 rfl ?_
    refine J_dup2 dX13_readRow_138 rfl rfl ?_
    obtain ⟨g38, h⟩ := gd_inv h
    refine M_iald dX13_readRow_139 a_328 n_328 g38 ?_
    refine J_iconst (v := 1) dX13_readRow_140 (by decide) ?_
    refine J_iadd dX13_readRow_141 ?_
    obtain ⟨g39, h⟩ := gd_inv h
    refine M_iast dX13_readRow_142 a_328 n_328 g39 ?_
    refine J_aload_n 1 dX13_readRow_143 rfl ?_
    refine M_getI gf_X13_189_12 dX13_readRow_144 k_324 n_324 ?_
    refine J_iconst (v := 2) dX13_readRow_147 (by decide) ?_
    refine J_icmp_ne (tgt := 167) dX13_readRow_148 (by decide) (fun c40 => ?_) (fun c40 => ?_)
    · have h := (if_neg c40).symm.trans h
      refine J_aload_n 1 dX13_readRow_167 rfl ?_
      refine M_getR gf_X13_26_12 dX13_readRow_168 (g_324_7 _) k_324 n_324 ?_
      refine J_iload_n 0 dX13_readRow_171 rfl ?_
      refine J_iconst (v := (-1)) dX13_readRow_172 (by decide) ?_
      obtain ⟨g41, h⟩ := gd_inv h
      refine M_iast dX13_readRow_173 a_329 n_329 g41 ?_
      refine J_aload_n 1 dX13_readRow_174 rfl ?_
      obtain ⟨_, σ43, h44, h⟩ := bd_inv h
      refine M_callVV (d' := 2) (k := 324) (As := []) (st := []) cv_X13_229 dX13_readRow_175 rfl (by decide) rfl (Nat.le_of_ble_eq_true rfl) (Nat.le_of_ble_eq_true rfl) (by decide) n_324 k_324 rfl rfl (t_X13_next  h44) ?_
      refine J_pick [1, 2] rfl ?_
      exact t_X13_readRow_178 hrec80 _ _ _  h
    · have h := (if_pos c40).symm.trans h
      refine J_aload_n 1 dX13_readRow_151 rfl ?_
      refine M_getR gf_X13_26_12 dX13_readRow_152 (g_324_7 _) k_324 n_324 ?_
      refine J_iload_n 0 dX13_readRow_155 rfl ?_
      refine J_aload_n 1 dX13_readRow_156 rfl ?_
      refine J_iconst (v := 0) dX13_readRow_157 (by decide) ?_
      refine J_bipush (v := 39) dX13_readRow_158 (by decide) ?_
      obtain ⟨r45, σ46, h47, h⟩ := bd_inv h
      refine M_callVI (d' := 3) (k := 324) (As := [.int 0, .int 39]) (st := [.int ((6 * l1) + (rI σ 328 (Int32.toNatClampNeg l1))), .ref 329]) cv_X13_236 dX13_readRow_160 rfl (by decide) rfl (Nat.le_of_ble_eq_true rfl) (Nat.le_of_ble_eq_true rfl) (by decide) n_324 k_324 rfl rfl (t_X13_number  h47) ?_
      obtain ⟨g48, h⟩ := gd_inv h
      refine M_iast dX13_readRow_163 a_329 n_329 g48 ?_
      refine J_goto (tgt := 178) dX13_readRow_164 (by decide) ?_
      refine J_pick [1, 2] rfl ?_
      exact t_X13_readRow_178 hrec80 _ _ _  h
  · have h := (if_pos c36).symm.trans h
    refine J_aload_n 0 dX13_readRow_115 rfl ?_
    refine J_iconst (v := 3) dX13_readRow_116 (by decide) ?_
    obtain ⟨_, σ50, h51, h⟩ := bd_inv h
    refine M_callVV (d' := 1) (k := 324) (As := [.int 3]) (st := []) cv_X13_232 dX13_readRow_117 rfl (by decide) rfl (Nat.le_of_ble_eq_true rfl) (Nat.le_of_ble_eq_true rfl) (by decide) n_324 k_324 rfl rfl (t_X13_fails  h51) ?_
    exact J_ret (v := none) rfl ⟨dX13_readRow_120, rfl⟩ (jqV_mk h)
set_option maxRecDepth 20000 in
set_option maxHeartbeats 4000000 in
theorem t_X13_readRow_80  : ∀ (n : Nat) (l1 : Int32) (σ : jM) (r : Unit × jM), f_X13_readRow_80  n l1 σ = some r → J mi_X13_readRow 4 0 0 (jqV r) 80 [(0, .ref 324), (1, .int l1)] [] (ms σ) := by
  intro n
  induction n with
  | zero =>
    intro l1 σ r  h
    have h : (none : Option (Unit × jM)) = some r := h
    cases h
  | succ n ih =>
    intro l1 σ r  h
    have h : s_X13_readRow_80  (f_X13_readRow_80  n) l1 σ = some r := h
    unfold s_X13_readRow_80 at h
    refine J_aload_n 0 dX13_readRow_80 rfl ?_
    obtain ⟨r61, σ62, h63, h⟩ := bd_inv h
    refine M_callVI (d' := 1) (k := 324) (As := []) (st := []) cv_X13_222 dX13_readRow_81 rfl (by decide) rfl (Nat.le_of_ble_eq_true rfl) (Nat.le_of_ble_eq_true rfl) (by decide) n_324 k_324 rfl rfl (t_X13_isWell  h63) ?_
    refine J_if_eq (tgt := 181) dX13_readRow_84 (by decide) (fun c64 => ?_) (fun c64 => ?_)
    · have h := (if_pos c64).symm.trans h
      refine J_pick [0] rfl ?_
      exact t_X13_readRow_181   _ _  h
    · have h := (if_neg c64).symm.trans h
      refine J_aload_n 0 dX13_readRow_87 rfl ?_
      refine M_getI gf_X13_189_12 dX13_readRow_88 k_324 n_324 ?_
      refine J_iconst (v := 2) dX13_readRow_91 (by decide) ?_
      refine J_icmp_eq (tgt := 104) dX13_readRow_92 (by decide) (fun c65 => ?_) (fun c65 => ?_)
      · have h := (if_pos c65).symm.trans h
        exact t_X13_readRow_104 ih _ _ _  h
      · have h := (if_neg c65).symm.trans h
        refine J_aload_n 0 dX13_readRow_95 rfl ?_
        refine J_bipush (v := 63) dX13_readRow_96 (by decide) ?_
        obtain ⟨r66, σ67, h68, h⟩ := bd_inv h
        refine M_callVI (d' := 1) (k := 324) (As := [.int 63]) (st := []) cv_X13_226 dX13_readRow_98 rfl (by decide) rfl (Nat.le_of_ble_eq_true rfl) (Nat.le_of_ble_eq_true rfl) (by decide) n_324 k_324 rfl rfl (t_X13_isSign  h68) ?_
        refine J_if_eq (tgt := 181) dX13_readRow_101 (by decide) (fun c69 => ?_) (fun c69 => ?_)
        · have h := (if_pos c69).symm.trans h
          refine J_pick [0] rfl ?_
          exact t_X13_readRow_181   _ _  h
        · have h := (if_neg c69).symm.trans h
          exact t_X13_readRow_104 ih _ _ _  h
set_option maxRecDepth 20000 in
set_option maxHeartbeats 4000000 in
theorem t_X13_readRow_42   (σ : jM) (r : Unit × jM)  (h : f_X13_readRow_42   σ = some r) : J mi_X13_readRow 4 0 0 (jqV r) 42 [(0, .ref 324)] [] (ms σ) := by
  unfold f_X13_readRow_42 at h
  refine J_aload_n 0 dX13_readRow_42 rfl ?_
  obtain ⟨r78, σ79, h80, h⟩ := bd_inv h
  refine M_callVI (d' := 1) (k := 324) (As := []) (st := []) cv_X13_222 dX13_readRow_43 rfl (by decide) rfl (Nat.le_of_ble_eq_true rfl) (Nat.le_of_ble_eq_true rfl) (by decide) n_324 k_324 rfl rfl (t_X13_isWell  h80) ?_
  refine J_if_ne (tgt := 50) dX13_readRow_46 (by decide) (fun c81 => ?_) (fun c81 => ?_)
  · have h := (if_neg c81).symm.trans h
    refine J_sipush (v := 192) dX13_readRow_50 (by decide) ?_
    refine J_aload_n 0 dX13_readRow_53 rfl ?_
    refine M_getR gf_X13_20_12 dX13_readRow_54 (g_324_5 _) k_324 n_324 ?_
    refine J_bipush (v := 24) dX13_readRow_57 (by decide) ?_
    obtain ⟨g82, h⟩ := gd_inv h
    refine M_iald dX13_readRow_59 a_327 n_327 g82 ?_
    refine J_iadd dX13_readRow_60 ?_
    refine J_istore_n (i := 1) (ls' := [(1, .int (192 + (rI σ79 327 (Int32.toNatClampNeg 24)))), (0, .ref 324)]) dX13_readRow_61 rfl (by decide) rfl ?_
    refine J_aload_n 1 dX13_readRow_62 rfl ?_
    refine M_getR gf_X13_20_12 dX13_readRow_63 (g_324_5 _) k_324 n_324 ?_
    refine J_bipush (v := 24) dX13_readRow_66 (by decide) ?_
    refine J_dup2 dX13_readRow_68 rfl rfl ?_
    obtain ⟨g83, h⟩ := gd_inv h
    refine M_iald dX13_readRow_69 a_327 n_327 g83 ?_
    refine J_iconst (v := 1) dX13_readRow_70 (by decide) ?_
    refine J_iadd dX13_readRow_71 ?_
    obtain ⟨g84, h⟩ := gd_inv h
    refine M_iast dX13_readRow_72 a_327 n_327 g84 ?_
    refine J_aload_n 1 dX13_readRow_73 rfl ?_
    refine M_getR gf_X13_23_12 dX13_readRow_74 (g_324_6 _) k_324 n_324 ?_
    refine J_iload_n 0 dX13_readRow_77 rfl ?_
    refine J_iconst (v := 0) dX13_readRow_78 (by decide) ?_
    obtain ⟨g85, h⟩ := gd_inv h
    refine M_iast dX13_readRow_79 a_328 n_328 g85 ?_
    refine J_pick [1, 0] rfl ?_
    exact t_X13_readRow_80  _ _ _ _  h
  · have h := (if_pos c81).symm.trans h
    exact J_ret (v := none) rfl ⟨dX13_readRow_49, rfl⟩ (jqV_mk h)
set_option maxRecDepth 20000 in
set_option maxHeartbeats 4000000 in
theorem t_X13_readRow_25   (σ : jM) (r : Unit × jM)  (h : f_X13_readRow_25   σ = some r) : J mi_X13_readRow 4 0 0 (jqV r) 25 [(0, .ref 324)] [] (ms σ) := by
  unfold f_X13_readRow_25 at h
  refine J_aload_n 0 dX13_readRow_25 rfl ?_
  refine M_getR gf_X13_20_12 dX13_readRow_26 (g_324_5 _) k_324 n_324 ?_
  refine J_bipush (v := 24) dX13_readRow_29 (by decide) ?_
  obtain ⟨g91, h⟩ := gd_inv h
  refine M_iald dX13_readRow_31 a_327 n_327 g91 ?_
  refine J_bipush (v := 8) dX13_readRow_32 (by decide) ?_
  refine J_icmp_ne (tgt := 42) dX13_readRow_34 (by decide) (fun c92 => ?_) (fun c92 => ?_)
  · have h := (if_neg c92).symm.trans h
    exact t_X13_readRow_42   _ _  h
  · have h := (if_pos c92).symm.trans h
    refine J_aload_n 0 dX13_readRow_37 rfl ?_
    refine J_iconst (v := 3) dX13_readRow_38 (by decide) ?_
    obtain ⟨_, σ94, h95, h⟩ := bd_inv h
    refine M_callVV (d' := 1) (k := 324) (As := [.int 3]) (st := []) cv_X13_232 dX13_readRow_39 rfl (by decide) rfl (Nat.le_of_ble_eq_true rfl) (Nat.le_of_ble_eq_true rfl) (by decide) n_324 k_324 rfl rfl (t_X13_fails  h95) ?_
    exact t_X13_readRow_42   _ _  h
set_option maxRecDepth 20000 in
set_option maxHeartbeats 4000000 in
theorem t_X13_readRow  {σ : jM} {r : Unit × jM}  (h : f_X13_readRow  σ = some r) : J mi_X13_readRow 4 0 0 (jqV r) 0 [(0, .ref 324)] [] (ms σ) := by
  unfold f_X13_readRow at h
  refine J_aload_n 0 dX13_readRow_0 rfl ?_
  refine M_getI gf_X13_189_12 dX13_readRow_1 k_324 n_324 ?_
  refine J_iconst (v := 2) dX13_readRow_4 (by decide) ?_
  refine J_icmp_eq (tgt := 25) dX13_readRow_5 (by decide) (fun c96 => ?_) (fun c96 => ?_)
  · have h := (if_pos c96).symm.trans h
    exact t_X13_readRow_25   _ _  h
  · have h := (if_neg c96).symm.trans h
    refine J_aload_n 0 dX13_readRow_8 rfl ?_
    refine J_bipush (v := 63) dX13_readRow_9 (by decide) ?_
    obtain ⟨r97, σ98, h99, h⟩ := bd_inv h
    refine M_callVI (d' := 1) (k := 324) (As := [.int 63]) (st := []) cv_X13_226 dX13_readRow_11 rfl (by decide) rfl (Nat.le_of_ble_eq_true rfl) (Nat.le_of_ble_eq_true rfl) (by decide) n_324 k_324 rfl rfl (t_X13_isSign  h99) ?_
    refine J_if_ne (tgt := 25) dX13_readRow_14 (by decide) (fun c100 => ?_) (fun c100 => ?_)
    · have h := (if_neg c100).symm.trans h
      exact t_X13_readRow_25   _ _  h
    · have h := (if_pos c100).symm.trans h
      refine J_aload_n 0 dX13_readRow_17 rfl ?_
      refine J_iconst (v := 1) dX13_readRow_18 (by decide) ?_
      obtain ⟨_, σ102, h103, h⟩ := bd_inv h
      refine M_callVV (d' := 1) (k := 324) (As := [.int 1]) (st := []) cv_X13_232 dX13_readRow_19 rfl (by decide) rfl (Nat.le_of_ble_eq_true rfl) (Nat.le_of_ble_eq_true rfl) (by decide) n_324 k_324 rfl rfl (t_X13_fails  h103) ?_
      refine J_goto (tgt := 42) dX13_readRow_22 (by decide) ?_
      exact t_X13_readRow_42   _ _  h
