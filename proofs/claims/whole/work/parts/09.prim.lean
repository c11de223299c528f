theorem sw_out {x : Int32} (lo hi : Int) (hb : -2147483648 ≤ lo ∧ hi < 2147483648) (h : ∀ v : Int, lo ≤ v → v ≤ hi → ¬ x = Int32.ofInt v) : x.toInt < lo ∨ hi < x.toInt := by
  by_cases h1 : x.toInt < lo
  · exact Or.inl h1
  · by_cases h2 : hi < x.toInt
    · exact Or.inr h2
    · exact absurd (Int32.ofInt_toInt x).symm (h x.toInt (by omega) (by omega))
theorem lk_out {l : List (Int × Int)} {d k : Int} (h : ∀ q ∈ l, ¬ q.1 = k) : Op.lookupswitch.offset l d k = d := by
  induction l with
  | nil => rfl
  | cons a t ih =>
    obtain ⟨a, b⟩ := a
    show (if a = k then b else Op.lookupswitch.offset t d k) = d
    rw [if_neg (h (a, b) List.mem_cons_self)]
    exact ih (fun q hq => h q (List.mem_cons_of_mem _ hq))
theorem jcat (g : jG) (st : List Value) : ((st.map (jtr g)).map (fun v => v.category)).sum = (st.map (fun v => v.category)).sum := by
  rw [List.map_map]
  congr 1
  exact List.map_congr_left (fun v _ => jtr_cat g v)

def jMmax (own : String) (idx : Nat) : Prop := Cond.methodLink own idx Lib.Math.max.name ∈ jgt ∧ Cond.static Lib.Math.max.name ∈ jgt ∧ Cond.initialized "java/lang/Math" ∈ jgt ∧ Cond.code Lib.Math.max.name Lib.Math.max.code 2 (some .int) ∈ jgt
theorem J_max {b : jMI} {d : Nat} {Q : Option Value → jPS → Prop} {pc : Nat} {ls : List (Nat × Value)} {st : List Value} {σ : jM} {idx : Nat} {x y : Int32} (hM : jMmax b.1 idx) (hdg : decode b.2.2.1 pc = .ok (.invokestatic idx, 3)) (hw : (st.map (fun v => v.category)).sum ≤ 8) (hd : 1 + 1 ≤ d) (K : J b d 0 0 Q (pc + 3) ls (.int (if x < y then y else x) :: st) (ms σ)) : J b d 0 0 Q pc ls (.int y :: .int x :: st) (ms σ) := by
  intro g p l e R s m args below meth c cells slots Z C Rt H locs lsA hv hP hS
  obtain ⟨m1, m2, m3, m4⟩ := hM
  have hR := C.2.2.1
  exact va_mmax C.1.1 C.1.2.1 (C.1.2.2.1.trans hv.1.symm) C.1.2.2.2.1 (C.1.2.2.2.2 _ m1) (C.1.2.2.2.2 _ m2) (C.1.2.2.2.2 _ m3) (C.1.2.2.2.2 _ m4) (by omega) (by rw [jcat]; omega) C.2.2.2.1.1 C.2.2.2.1.2 hdg (K g p l e R s m args below meth c cells slots Z C Rt H locs lsA hv hP hS)

def jMmin (own : String) (idx : Nat) : Prop := Cond.methodLink own idx Lib.Math.min.name ∈ jgt ∧ Cond.static Lib.Math.min.name ∈ jgt ∧ Cond.initialized "java/lang/Math" ∈ jgt ∧ Cond.code Lib.Math.min.name Lib.Math.min.code 2 (some .int) ∈ jgt
theorem J_min {b : jMI} {d : Nat} {Q : Option Value → jPS → Prop} {pc : Nat} {ls : List (Nat × Value)} {st : List Value} {σ : jM} {idx : Nat} {x y : Int32} (hM : jMmin b.1 idx) (hdg : decode b.2.2.1 pc = .ok (.invokestatic idx, 3)) (hw : (st.map (fun v => v.category)).sum ≤ 8) (hd : 1 + 1 ≤ d) (K : J b d 0 0 Q (pc + 3) ls (.int (if y < x then y else x) :: st) (ms σ)) : J b d 0 0 Q pc ls (.int y :: .int x :: st) (ms σ) := by
  intro g p l e R s m args below meth c cells slots Z C Rt H locs lsA hv hP hS
  obtain ⟨m1, m2, m3, m4⟩ := hM
  have hR := C.2.2.1
  exact va_mmin C.1.1 C.1.2.1 (C.1.2.2.1.trans hv.1.symm) C.1.2.2.2.1 (C.1.2.2.2.2 _ m1) (C.1.2.2.2.2 _ m2) (C.1.2.2.2.2 _ m3) (C.1.2.2.2.2 _ m4) (by omega) (by rw [jcat]; omega) C.2.2.2.1.1 C.2.2.2.1.2 hdg (K g p l e R s m args below meth c cells slots Z C Rt H locs lsA hv hP hS)

/-- a call of a method that the receiver's class has from another one -/
def jCU (own : String) (idx : Nat) (Cn : String) (x : MethodName) (b : jMI) (n : Nat) : Prop :=
  (Cond.methodLink own idx x ∈ jgt ∧ Cond.sameMethod x.cls b.1 x.name x.desc ∈ jgt ∧ Cond.selects Cn x b.2.1 ∈ jgt ∧ Cond.instanceMethod b.2.1 ∈ jgt ∧ Cond.initialized b.2.1.cls ∈ jgt ∧ Cond.code b.2.1 b.2.2.1 b.2.2.2.1 b.2.2.2.2 ∈ jgt) ∧
  (b.2.1 = ⟨b.1, x.name, x.desc⟩ ∧ b.1 ≠ "java/lang/invoke/MethodHandle" ∧ b.1 ≠ "java/lang/invoke/VarHandle" ∧ (parseMethodDescriptor x.desc).map (fun d => d.parameters.length) = some n) ∧ (plainName b.2.1.cls = true ∧ b.1 = b.2.1.cls) ∧ b.2.2.2.1 ≤ 40
set_option maxHeartbeats 4000000 in
theorem M_callU {b : jMI} {d : Nat} {Q : Option Value → jPS → Prop} {pc : Nat} {ls : List (Nat × Value)} {st : List Value} {σ : jM} {b' : jMI} {d' idx n ci k : Nat} {Cn : String} {xm : MethodName} {As st0 : List Value} {ls' : List (Nat × Value)} {T : u_T} {N : Nat} {r : Int32 × jM} (hcc : jCU b.1 idx Cn xm b' n ∧ vwCl[ci]? = some (Cn, T, N) ∧ ci < 13) (hdg : decode b.2.2.1 pc = .ok (.invokevirtual idx, 3)) (hn : As.length = n) (hw : (st.map (fun v => v.category)).sum ≤ 8) (hA : (lg_sl (.ref k :: As)).length ≤ b'.2.2.2.1) (hd : d' + 1 ≤ d) (hr : k < 376) (hk : (shf k).1 = ci) (hst : st0 = As.reverse ++ .ref k :: st) (hls : lv_args 0 (.ref k :: As) = ls') (hJ : J b' d' 0 0 (jqI r) 0 ls' [] (ms σ)) (K : J b d 0 0 Q (pc + 3) ls (.int r.1 :: st) (ms r.2)) : J b d 0 0 Q pc ls st0 (ms σ) := by
  subst hst
  subst hls
  intro g p l e R s m args below meth c cells slots Z C Rt H locs lsA hv hP hS
  obtain ⟨⟨⟨m1, m2, m3, m4, m5, m6⟩, hd1, hpl, hmx⟩, hci, hc13⟩ := hcc
  have hr' : k < (ms σ).1.2 := hr
  have hr6 : jad g k = g.1 + k := if_pos (Nat.lt_of_lt_of_le hr' hP.2.1)
  have hrecv := va_recv C.2.1.1 hP.1 hci (he := by rw [jws_get hr']; unfold jent; rw [show ((ms σ).1.1 k).1 = ci from hk, if_pos hc13])
  have hG : GoodIn jgt (va_wsU b.1 idx Cn b'.1 xm b'.2.1 (jyw b')) := jgt_good _ (fun w hw => by
    simp only [va_wsU, jyw, List.cons_append, List.nil_append, List.mem_cons] at hw
    rcases hw with rfl | rfl | rfl | rfl | rfl | rfl | hw
    · exact m1
    · exact m2
    · exact m3
    · exact m4
    · exact m5
    · exact m6
    · exact hw)
  have run := va_runU (As := As.map (jtr g)) (rest := st.map (jtr g)) (g := F0 m pc lsA ((As.map (jtr g)).reverse ++ .ref (g.1 + k) :: st.map (jtr g))) (cells := cells) (slots := slots) (locs := locs) (below := below) (e := e) (meth := meth) C.1 (J_met (b := b') hpl.1 hpl.2 hA hJ g l) (va_cwU n C.1.2.2.2.2 hG rfl rfl rfl hd1.1 hd1.2 (jrm_fits hd C.2.2.1.1 C.2.2.1.2 hmx)) ⟨jPc_blind _ _ _, hrecv, by
    have := jPc_of (.ref k :: As) C hP hS
    simpa [jtr, hr6] using this⟩ rfl (by rw [List.length_map]; exact hn) hv.1 rfl (by
      show 2 * 0 + _ ≤ 8
      rw [jcat]
      omega) hdg ⟨by have := C.2.2.2.1.1; omega, by have := C.2.2.2.1.2; omega⟩
  have hst : (As.reverse ++ .ref k :: st).map (jtr g) = (As.map (jtr g)).reverse ++ .ref (g.1 + k) :: st.map (jtr g) := by
    rw [List.map_append, List.map_reverse, List.map_cons]
    show _ ++ Value.ref (jad g k) :: _ = _
    rw [hr6]
  rw [hst]
  refine jcall run hS ?_
  intro v S' H1 locs1 hq hP1 hS1
  obtain ⟨rfl, rfl⟩ := hq
  exact K g p l e R s m args below meth c cells slots Z C Rt H1 locs1 lsA hv hP1 hS1
theorem jad_str (g : jG) (w : Nat) : jad g (1000000 + w) = g.2.2.2.1 w := by
  unfold jad
  rw [if_neg (by omega), Nat.add_sub_cancel_left]
theorem M_ldcS {b : jMI} {d : Nat} {Q : Option Value → jPS → Prop} {pc : Nat} {ls : List (Nat × Value)} {st : List Value} {σ : jM} {idx w : Nat} {tx : String} (hdg : decode b.2.2.1 pc = .ok (.ldc idx, 2)) (hs : (b.1, idx, tx, w) ∈ jsrefs) (K : J b d 0 0 Q (pc + 2) ls (.ref (1000000 + w) :: st) (ms σ)) : J b d 0 0 Q pc ls st (ms σ) := by
  intro g p l e R s m args below meth c cells slots Z C Rt H locs lsA hv hP hS
  refine va_ldcS (q := g.2.2.2.1 w) C.1.1 C.1.2.1 C.1.2.2.2.1 (C.2.1.2.2.2.1 _ hs) hdg ?_
  have := K g p l e R s m args below meth c cells slots Z C Rt H locs lsA hv hP hS
  rw [List.map_cons, show jtr g (.ref (1000000 + w)) = .ref (g.2.2.2.1 w) from congrArg Value.ref (jad_str g w)] at this
  exact this
theorem M_ldcSw {b : jMI} {d : Nat} {Q : Option Value → jPS → Prop} {pc : Nat} {ls : List (Nat × Value)} {st : List Value} {σ : jM} {idx w : Nat} {tx : String} (hdg : decode b.2.2.1 pc = .ok (.ldc_w idx, 3)) (hs : (b.1, idx, tx, w) ∈ jsrefs) (K : J b d 0 0 Q (pc + 3) ls (.ref (1000000 + w) :: st) (ms σ)) : J b d 0 0 Q pc ls st (ms σ) := by
  intro g p l e R s m args below meth c cells slots Z C Rt H locs lsA hv hP hS
  have hZ := C.2.1.2.2.2.1 _ hs
  have := K g p l e R s m args below meth c cells slots Z C Rt H locs lsA hv hP hS
  rw [List.map_cons, show jtr g (.ref (1000000 + w)) = .ref (g.2.2.2.1 w) from congrArg Value.ref (jad_str g w)] at this
  intro T hT X
  obtain ⟨t, a1, b1⟩ := this T hT X
  exact ⟨t, Stand.ldcStringW X C.1.1 C.1.2.2.2.1 (text := tx) (a := g.2.2.2.1 w) hZ.1 hZ.2 (g := F0 m pc lsA (st.map (jtr g))) rfl (by rw [C.1.2.1]; exact hdg) t a1, b1⟩
abbrev cpOk (sp dp n : Int32) (n0 n1 : Nat) : Prop := 0 ≤ sp ∧ 0 ≤ dp ∧ 0 ≤ n ∧ sp.toNatClampNeg + n.toNatClampNeg ≤ n0 ∧ dp.toNatClampNeg + n.toNatClampNeg ≤ n1
def wCp (σ : jM) (a : Nat) (sp : Int32) (k : Nat) (dp n : Int32) : jM := ((fun x y => if x = k then va_cpy (σ.1 a) (σ.1 k) sp.toNatClampNeg dp.toNatClampNeg n.toNatClampNeg y else σ.1 x y), σ.2)
def jAC (own : String) (idx : Nat) : Prop := Cond.methodLink own idx arraycopyName ∈ jgt ∧ Cond.native arraycopyName ∈ jgt ∧ Cond.static arraycopyName ∈ jgt ∧ Cond.initialized "java/lang/System" ∈ jgt
theorem jnfw : nativeFrameWords "java/lang/System" "arraycopy" 5 ≤ 100 := by decide +kernel
set_option maxHeartbeats 1000000 in
theorem M_acopy {b : jMI} {d : Nat} {Q : Option Value → jPS → Prop} {pc : Nat} {ls : List (Nat × Value)} {st : List Value} {σ : jM} {idx a k n0 n1 : Nat} {sp dp n : Int32} (hM : jAC b.1 idx) (hdg : decode b.2.2.1 pc = .ok (.invokestatic idx, 3)) (ha : shf a = (14, n0)) (hk : shf k = (14, n1)) (hna : a < 376) (hnk : k < 376) (hok : cpOk sp dp n n0 n1) (hw : (st.map (fun v => v.category)).sum ≤ 8) (hd : 1 + 1 ≤ d) (K : J b d 0 0 Q (pc + 3) ls st (ms (wCp σ a sp k dp n))) : J b d 0 0 Q pc ls (.int n :: .int dp :: .ref k :: .int sp :: .ref a :: st) (ms σ) := by
  intro g p l e R s m args below meth c cells slots Z C Rt H locs lsA hv hP hS
  obtain ⟨m1, m2, m3, m4⟩ := hM
  obtain ⟨o1, o2, o3, o4, o5⟩ := hok
  have hR := C.2.2.1
  have hna' : a < (ms σ).1.2 := hna
  have hnk' : k < (ms σ).1.2 := hnk
  have hf := jnfw
  refine va_copyi (ty := .int) (f := σ.1 a) (g := σ.1 k) C.1.1 C.1.2.1 (C.1.2.2.1.trans hv.1.symm) C.1.2.2.2.1 (C.1.2.2.2.2 _ m1) (C.1.2.2.2.2 _ m2) (C.1.2.2.2.2 _ m3) (C.1.2.2.2.2 _ m4) C.2.1.1 hP.1 (jws_D g (ms σ)) hS a k 1 1 (c0 := g.2.2.1 14) (c1 := g.2.2.1 14) (n0 := n0) (n1 := n1) (by rw [jmem_ws hP hna', jent_arr (S := ms σ) ha (by decide)]; rfl) (by rw [jmem_ws hP hnk', jent_arr (S := ms σ) hk (by decide)]; rfl) rfl rfl rfl (Int32.not_lt.mpr o1) (Int32.not_lt.mpr o2) (Int32.not_lt.mpr o3) o4 o5 (fun _ _ => rfl) (by omega) (by rw [jcat]; omega) hdg (fun H1 locs1 hP1 _ hS1 => K g p l e R s m args below meth c cells slots Z C Rt H1 locs1 lsA hv ⟨?_, hP.2.1, fun z => absurd ((ms_off σ).symm.trans z) (by decide)⟩ hS1)
  have hent : ∀ q, q ≠ k → jent g (ms (wCp σ a sp k dp n)) q = jent g (ms σ) q := by
    intro q hq
    have e1 : (wCp σ a sp k dp n).1 q = σ.1 q := funext fun y => if_neg hq
    have e0 : ∀ y, (wCp σ a sp k dp n).1 q y = σ.1 q y := fun y => congrFun e1 y
    have ef : ∀ t j, jfv g (ms (wCp σ a sp k dp n)).2 t q j = jfv g (ms σ).2 t q j := fun t j => by
      show (if t = 0 then Value.int ((wCp σ a sp k dp n).1 q j) else _) = (if t = 0 then Value.int (σ.1 q j) else _)
      rw [e0]
      rfl
    have ea : ∀ kd, jar g (ms (wCp σ a sp k dp n)).2 kd q = jar g (ms σ).2 kd q := fun kd => by
      show (if kd = 15 then _ else if kd < 17 then Sum.inl ((wCp σ a sp k dp n).1 q) else _) = (if kd = 15 then _ else if kd < 17 then Sum.inl (σ.1 q) else _)
      rw [e1]
      rfl
    show (if (shf q).1 < 13 then _ else _) = (if (shf q).1 < 13 then _ else _)
    by_cases h13 : (shf q).1 < 13
    · rw [if_pos h13, if_pos h13]
      congr 2
      exact List.map_congr_left (fun i _ => ef _ i)
    · rw [if_neg h13, if_neg h13]
      exact congrArg _ (congrArg _ (congrArg _ (ea _)))
  rw [jad_eq hP hnk', jws_set (g := g) (S := ms σ) (k := k) (S' := ms (wCp σ a sp k dp n)) rfl ?_ hent] at hP1
  · exact hP1
  · rw [jent_arr (S := ms (wCp σ a sp k dp n)) hk (by decide)]
    have e1 : (wCp σ a sp k dp n).1 k = va_cpy (σ.1 a) (σ.1 k) sp.toNatClampNeg dp.toNatClampNeg n.toNatClampNeg := funext fun y => if_pos rfl
    show Sum.inl (_, _, Sum.inl ((wCp σ a sp k dp n).1 k)) = _
    rw [e1]

def strLen (w : Nat) : Int32 := Int32.ofNat (jslen.getD w 0)
def strAt (w : Nat) (i : Int32) : Int32 := (jsbyt.getD w []).getD i.toNatClampNeg 0

theorem cu_X0_86_9 : jCU RX0 86 RX10 ⟨"GridRoom$Tablet", "countsOn", "(I)Z"⟩ mi_X3_countsOn 1 ∧ vwCl[9]? = some (RX10, TX10, 5) ∧ 9 < 13 := ⟨⟨⟨jmT 884 (by decide +kernel) (by decide +kernel), jmT 885 (by decide +kernel) (by decide +kernel), jmT 887 (by decide +kernel) (by decide +kernel), jmT 888 (by decide +kernel) (by decide +kernel), jmT 5 (by decide +kernel) (by decide +kernel), jmT 889 (by decide +kernel) (by decide +kernel)⟩, ⟨by decide +kernel, by decide +kernel, by decide +kernel, by decide +kernel⟩, ⟨by decide +kernel, rfl⟩, by decide⟩, rfl, by decide⟩
theorem cu_X0_89_5 : jCU RX0 89 RX6 ⟨"GridRoom$Name", "countsOn", "(I)Z"⟩ mi_X3_countsOn 1 ∧ vwCl[5]? = some (RX6, TX6, 5) ∧ 5 < 13 := ⟨⟨⟨jmT 1059 (by decide +kernel) (by decide +kernel), jmT 1060 (by decide +kernel) (by decide +kernel), jmT 1061 (by decide +kernel) (by decide +kernel), jmT 888 (by decide +kernel) (by decide +kernel), jmT 5 (by decide +kernel) (by decide +kernel), jmT 889 (by decide +kernel) (by decide +kernel)⟩, ⟨by decide +kernel, by decide +kernel, by decide +kernel, by decide +kernel⟩, ⟨by decide +kernel, rfl⟩, by decide⟩, rfl, by decide⟩
theorem mm_X1_65 : jMmax RX1 65 := ⟨jmT 1186 (by decide +kernel) (by decide +kernel), jmT 781 (by decide +kernel) (by decide +kernel), jmT 19 (by decide +kernel) (by decide +kernel), jmT 782 (by decide +kernel) (by decide +kernel)⟩
theorem cu_X4_172_8 : jCU RX4 172 RX9 ⟨"GridRoom$Share", "countsOn", "(I)Z"⟩ mi_X3_countsOn 1 ∧ vwCl[8]? = some (RX9, TX9, 6) ∧ 8 < 13 := ⟨⟨⟨jmT 935 (by decide +kernel) (by decide +kernel), jmT 936 (by decide +kernel) (by decide +kernel), jmT 937 (by decide +kernel) (by decide +kernel), jmT 888 (by decide +kernel) (by decide +kernel), jmT 5 (by decide +kernel) (by decide +kernel), jmT 889 (by decide +kernel) (by decide +kernel)⟩, ⟨by decide +kernel, by decide +kernel, by decide +kernel, by decide +kernel⟩, ⟨by decide +kernel, rfl⟩, by decide⟩, rfl, by decide⟩
theorem mm_X5_44 : jMmin RX5 44 := ⟨jmT 777 (by decide +kernel) (by decide +kernel), jmT 778 (by decide +kernel) (by decide +kernel), jmT 19 (by decide +kernel) (by decide +kernel), jmT 779 (by decide +kernel) (by decide +kernel)⟩
theorem mm_X5_50 : jMmax RX5 50 := ⟨jmT 780 (by decide +kernel) (by decide +kernel), jmT 781 (by decide +kernel) (by decide +kernel), jmT 19 (by decide +kernel) (by decide +kernel), jmT 782 (by decide +kernel) (by decide +kernel)⟩
theorem sl_X11_151 : jCV RX11 151 mi_J0_length_8abf5 0 := ⟨⟨jmT 654 (by decide +kernel) (by decide +kernel), jmT 655 (by decide +kernel) (by decide +kernel), jmT 656 (by decide +kernel) (by decide +kernel), jmT 15 (by decide +kernel) (by decide +kernel), jmT 657 (by decide +kernel) (by decide +kernel)⟩, ⟨rfl, by decide +kernel, by decide +kernel, by decide +kernel⟩, by decide +kernel, by decide⟩
theorem sc_X11_155 : jCV RX11 155 mi_J0_charAt_5068e 1 := ⟨⟨jmT 664 (by decide +kernel) (by decide +kernel), jmT 665 (by decide +kernel) (by decide +kernel), jmT 666 (by decide +kernel) (by decide +kernel), jmT 15 (by decide +kernel) (by decide +kernel), jmT 667 (by decide +kernel) (by decide +kernel)⟩, ⟨rfl, by decide +kernel, by decide +kernel, by decide +kernel⟩, by decide +kernel, by decide⟩
theorem ac_X12_191 : jAC RX12 191 := ⟨jmT 806 (by decide +kernel) (by decide +kernel), jmT 808 (by decide +kernel) (by decide +kernel), jmT 807 (by decide +kernel) (by decide +kernel), jmT 26 (by decide +kernel) (by decide +kernel)⟩
theorem cu_X12_322_9 : jCU RX12 322 RX10 ⟨"GridRoom$Tablet", "countsOn", "(I)Z"⟩ mi_X3_countsOn 1 ∧ vwCl[9]? = some (RX10, TX10, 5) ∧ 9 < 13 := ⟨⟨⟨jmT 1192 (by decide +kernel) (by decide +kernel), jmT 885 (by decide +kernel) (by decide +kernel), jmT 887 (by decide +kernel) (by decide +kernel), jmT 888 (by decide +kernel) (by decide +kernel), jmT 5 (by decide +kernel) (by decide +kernel), jmT 889 (by decide +kernel) (by decide +kernel)⟩, ⟨by decide +kernel, by decide +kernel, by decide +kernel, by decide +kernel⟩, ⟨by decide +kernel, rfl⟩, by decide⟩, rfl, by decide⟩
theorem cu_X12_375_9 : jCU RX12 375 RX10 ⟨"GridRoom$Dated", "countsOn", "(I)Z"⟩ mi_X3_countsOn 1 ∧ vwCl[9]? = some (RX10, TX10, 5) ∧ 9 < 13 := ⟨⟨⟨jmT 1305 (by decide +kernel) (by decide +kernel), jmT 2009 (by decide +kernel) (by decide +kernel), jmT 2012 (by decide +kernel) (by decide +kernel), jmT 888 (by decide +kernel) (by decide +kernel), jmT 5 (by decide +kernel) (by decide +kernel), jmT 889 (by decide +kernel) (by decide +kernel)⟩, ⟨by decide +kernel, by decide +kernel, by decide +kernel, by decide +kernel⟩, ⟨by decide +kernel, rfl⟩, by decide⟩, rfl, by decide⟩
theorem cu_X12_375_5 : jCU RX12 375 RX6 ⟨"GridRoom$Dated", "countsOn", "(I)Z"⟩ mi_X3_countsOn 1 ∧ vwCl[5]? = some (RX6, TX6, 5) ∧ 5 < 13 := ⟨⟨⟨jmT 1305 (by decide +kernel) (by decide +kernel), jmT 2009 (by decide +kernel) (by decide +kernel), jmT 2010 (by decide +kernel) (by decide +kernel), jmT 888 (by decide +kernel) (by decide +kernel), jmT 5 (by decide +kernel) (by decide +kernel), jmT 889 (by decide +kernel) (by decide +kernel)⟩, ⟨by decide +kernel, by decide +kernel, by decide +kernel, by decide +kernel⟩, ⟨by decide +kernel, rfl⟩, by decide⟩, rfl, by decide⟩
theorem cu_X12_375_8 : jCU RX12 375 RX9 ⟨"GridRoom$Dated", "countsOn", "(I)Z"⟩ mi_X3_countsOn 1 ∧ vwCl[8]? = some (RX9, TX9, 6) ∧ 8 < 13 := ⟨⟨⟨jmT 1305 (by decide +kernel) (by decide +kernel), jmT 2009 (by decide +kernel) (by decide +kernel), jmT 2011 (by decide +kernel) (by decide +kernel), jmT 888 (by decide +kernel) (by decide +kernel), jmT 5 (by decide +kernel) (by decide +kernel), jmT 889 (by decide +kernel) (by decide +kernel)⟩, ⟨by decide +kernel, by decide +kernel, by decide +kernel, by decide +kernel⟩, ⟨by decide +kernel, rfl⟩, by decide⟩, rfl, by decide⟩
theorem sc_X12_396 : jCV RX12 396 mi_J0_charAt_5068e 1 := ⟨⟨jmT 1169 (by decide +kernel) (by decide +kernel), jmT 665 (by decide +kernel) (by decide +kernel), jmT 666 (by decide +kernel) (by decide +kernel), jmT 15 (by decide +kernel) (by decide +kernel), jmT 667 (by decide +kernel) (by decide +kernel)⟩, ⟨rfl, by decide +kernel, by decide +kernel, by decide +kernel⟩, by decide +kernel, by decide⟩
theorem mm_X12_402 : jMmin RX12 402 := ⟨jmT 831 (by decide +kernel) (by decide +kernel), jmT 778 (by decide +kernel) (by decide +kernel), jmT 19 (by decide +kernel) (by decide +kernel), jmT 779 (by decide +kernel) (by decide +kernel)⟩
theorem mm_X12_407 : jMmax RX12 407 := ⟨jmT 832 (by decide +kernel) (by decide +kernel), jmT 781 (by decide +kernel) (by decide +kernel), jmT 19 (by decide +kernel) (by decide +kernel), jmT 782 (by decide +kernel) (by decide +kernel)⟩
theorem sl_X13_206 : jCV RX13 206 mi_J0_length_8abf5 0 := ⟨⟨jmT 1704 (by decide +kernel) (by decide +kernel), jmT 655 (by decide +kernel) (by decide +kernel), jmT 656 (by decide +kernel) (by decide +kernel), jmT 15 (by decide +kernel) (by decide +kernel), jmT 657 (by decide +kernel) (by decide +kernel)⟩, ⟨rfl, by decide +kernel, by decide +kernel, by decide +kernel⟩, by decide +kernel, by decide⟩
theorem sc_X13_212 : jCV RX13 212 mi_J0_charAt_5068e 1 := ⟨⟨jmT 1705 (by decide +kernel) (by decide +kernel), jmT 665 (by decide +kernel) (by decide +kernel), jmT 666 (by decide +kernel) (by decide +kernel), jmT 15 (by decide +kernel) (by decide +kernel), jmT 667 (by decide +kernel) (by decide +kernel)⟩, ⟨rfl, by decide +kernel, by decide +kernel, by decide +kernel⟩, by decide +kernel, by decide⟩
