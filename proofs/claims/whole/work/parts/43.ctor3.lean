section
variable {b : jMI} {d : Nat} {Q : Option Value → jPS → Prop} {pc : Nat} {ls : List (Nat × Value)} {st : List Value} {L M : List C0}
set_option maxHeartbeats 1000000 in
/-- an object into a row of its own class: kinds 17 to 20, classes 5, 6, 8, 9 -/
theorem K_aast {k n kd t0 ci q : Nat} {i : Int32} {Cn : String} {T : u_T} {N : Nat} (ht : ∀ g : jG, (jtys g)[t0]? = some (g.2.2.1 kd, .object Cn)) (hC : jCL ci Cn T N) (hkd : 17 ≤ kd) (hdg : decode b.2.2.1 pc = .ok (.aastore, 1)) (hk : (L.getD k dC).1 = (kd, n) ∧ k < L.length ∧ k < 1000000 ∧ inb i n) (hq : (L.getD q dC).1.1 = ci ∧ q < L.length ∧ q < 1000000)
    (h : JA b d Q (pc + 1) ls st (ptR L k i.toNatClampNeg (some q)) M) : JA b d Q pc ls (.ref q :: .int i :: .ref k :: st) L M := by
  obtain ⟨hk, hn, h6, hin⟩ := hk
  obtain ⟨hq, hqn, hq6⟩ := hq
  obtain ⟨c1, c2, -⟩ := hC
  have hk2 : (bs L).1.1 k = (kd, n) := by rw [bs_sh h6]; exact hk
  have hq2 : ((bs L).1.1 q).1 = ci := by rw [bs_sh hq6]; exact hq
  refine K_write (k := k) hn (by simp [ptR]) (szL_ptR hn) (by rw [bs_ptR hn]; rfl) h (fun g p l e R s m args below meth c cells slots Z H locs lsA C hK hmn hP kk => ?_)
  rw [List.map_cons, List.map_cons, List.map_cons, show jtr g (.ref k) = .ref (g.1 + k) from congrArg Value.ref (if_pos h6), show jtr g (.ref q) = .ref (g.1 + q) from congrArg Value.ref (if_pos hq6)]
  have h0 := hP.1 k _ (jws_get (show k < (bs L).1.2 from hn))
  rw [jent_arr hk2 (by omega)] at h0
  unfold jar at h0
  rw [if_neg (by omega), if_neg (by omega)] at h0
  have h1 : H[g.1 + k]? = some (arrV (g.2.2.1 kd) n (fun j => va_rf (((bs L).2.2.2 k j).map (jad g)))) := h0
  have hv := hP.1 q _ (jws_get (show q < (bs L).1.2 from hqn))
  rw [jent_obj hq2 c2] at hv
  obtain ⟨r', hr', cellV, g1, g2, g3, -⟩ := hv
  have hcls := (hK.1 ci _ c1).2
  obtain ⟨kA, comp, k1, k2, k3, -⟩ := (hK.2 t0 _ (ht g)).2
  have hcomp : comp = g.2.1.1 ci := Option.some.inj (k3.symm.trans hcls.1)
  subst hcomp
  obtain ⟨kC, hkC, hki⟩ := id hcls.2
  have hlt : i.toNatClampNeg < n := hin.2
  refine W.aast C.1 C.2.1 h1 (fun q h => by cases h) (fun h => by cases h) k1 k2 rfl hkC ⟨Int32.not_lt.mpr hin.1, by rw [arrV_size]; exact hlt⟩ g1 (fun q h => by rw [g3] at h; cases h) (by rw [g2]; exact hkC) (by rw [g2]; exact va_assign hcls) rfl rfl hdg (fun H1 e1 z o1 => kk H1 _ rfl z o1 ?_)
  rw [bs_ptR hn]
  refine jR_set hP rfl (fun i hi => jwR_ent hi) z o1 ?_
  rw [jent_arr (S := jwR (bs L) k i.toNatClampNeg (some q)) hk2 (by omega)]
  show H1[g.1 + k]? = some (vp_cell _ _)
  rw [e1]
  unfold jar
  rw [if_neg (by omega), if_neg (by omega), vp_cell_q, arrV_store]
  congr 2
  funext y
  show _ = va_rf (((jup (bs L).2.2.2 k i.toNatClampNeg (some q)) k y).map (jad g))
  rw [jup_at]
  by_cases hy : y = i.toNatClampNeg
  · subst hy
    rw [if_pos rfl]
    simp [updV, va_rf]
    exact (if_pos hq6).symm
  · rw [if_neg hy]
    simp [updV, hy]
/-- Object's own constructor -/
theorem K_obj {idx k : Nat} (hm : Cond.methodLink b.1 idx Lib.objectInit ∈ jgt ∧ Cond.instanceMethod Lib.objectInit ∈ jgt ∧ Cond.code Lib.objectInit ⟨#[0xb1]⟩ 1 none ∈ jgt) (hdg : decode b.2.2.1 pc = .ok (.invokespecial idx, 3)) (hd : 1 ≤ d) (hw : (st.map (fun v => v.category)).sum ≤ 8) (h : JA b d Q (pc + 3) ls st L M) : JA b d Q pc ls (.ref k :: st) L M := by
  refine K_lift (fun kc ks K => ?_) h
  intro g p l e R s m args below meth c cells slots Z C Rt H locs lsA hv hP hS
  have hR := C.2.2.1
  exact W.objInit C.1.1 C.1.2.1 C.1.2.2.2.1 (C.1.2.2.2.2 _ hm.1) (C.1.2.2.2.2 _ hm.2.1) (C.1.2.2.2.2 _ hm.2.2) rfl (hv.1.trans C.1.2.2.1.symm) rfl hdg (by omega) (by show 2 * 0 + _ + 12 ≤ _; rw [jcat]; omega) (K g p l e R s m args below meth c cells slots Z C Rt H locs lsA hv hP hS)
end
/-- a constructor's call, of a class of the same nest or not -/
def jCI (own : String) (idx : Nat) (b : jMI) (n : Nat) : Prop :=
  ((∃ host, (own, idx, b.2.1, host) ∈ jnst) ∨ Cond.methodLink own idx b.2.1 ∈ jgt) ∧ (Cond.instanceMethod b.2.1 ∈ jgt ∧ Cond.initialized b.2.1.cls ∈ jgt ∧ Cond.code b.2.1 b.2.2.1 b.2.2.2.1 b.2.2.2.2 ∈ jgt) ∧
  (b.2.1.cls ≠ "java/lang/invoke/MethodHandle" ∧ b.2.1.cls ≠ "java/lang/invoke/VarHandle" ∧ (parseMethodDescriptor b.2.1.desc).map (fun d => d.parameters.length) = some n) ∧ (plainName b.2.1.cls = true ∧ b.1 = b.2.1.cls) ∧ b.2.2.2.1 ≤ 40 ∧ b.2.1.name = "<init>" ∧ b.2.2.2.2 = none
set_option maxHeartbeats 4000000 in
theorem J_callI {b b' : jMI} {d d' kc ks kc' ks' : Nat} {Q Q' : Option Value → jPS → Prop} {pc idx n r : Nat} {ls : List (Nat × Value)} {As st : List Value} {S : jPS}
    (hc : jCI b.1 idx b' n) (hdg : decode b.2.2.1 pc = .ok (.invokespecial idx, 3)) (hn : As.length = n) (hw : (st.map (fun v => v.category)).sum ≤ 8) (hA : (lg_sl (.ref r :: As)).length ≤ b'.2.2.2.1) (hd : d' + 1 ≤ d)
    (hJ : J b' d' kc' ks' Q' 0 (lv_args 0 (.ref r :: As)) [] S) (hK : ∀ v S', Q' v S' → J b d kc ks Q (pc + 3) ls (v.toList ++ st) S') : J b d (kc' + kc) (ks' + ks) Q pc ls (As.reverse ++ .ref r :: st) S := by
  intro g p l e R s m args below meth c cells slots Z C Rt H locs lsA hv hP hS
  obtain ⟨hlk, ⟨m2, m4, m5⟩, hd1, hpl, hmx, hini, hret⟩ := hc
  obtain ⟨bo, by_, bc, bm, br⟩ := b'
  dsimp only at hlk m2 m4 m5 hd1 hpl hmx hini hret hA hJ
  subst hret
  have hG : GoodIn jgt (jyw (bo, by_, bc, bm, none)) := jgt_good _ (fun w hw => by
    simp only [jyw, List.mem_cons] at hw
    rcases hw with rfl | hw
    · exact m5
    · exact hw)
  have hM := J_met (b := (bo, by_, bc, bm, none)) hpl.1 hpl.2 hA hJ g l
  have hpre : PreS s H (jPc g (.ref r :: As) S) (.ref (jad g r) :: As.map (jtr g)) := ⟨jPc_blind _ _ _, jPc_of (.ref r :: As) C hP hS⟩
  have hwd : 2 * (F0 m pc lsA ((As.map (jtr g)).reverse ++ .ref (jad g r) :: st.map (jtr g))).monitorRoom + ((st.map (jtr g)).map fun v => v.category).sum ≤ 8 := by
    show 2 * 0 + _ ≤ 8
    rw [jcat]
    omega
  have hf : cells + kc' ≤ R.cells ∧ slots + ks' ≤ R.slots := ⟨by have := C.2.2.2.1.1; omega, by have := C.2.2.2.1.2; omega⟩
  have run : va_Run p l e R s m args below meth c H locs cells slots kc' ks' (F0 m pc lsA ((As.map (jtr g)).reverse ++ .ref (jad g r) :: st.map (jtr g))) (st.map (jtr g)) (jQc g Q' (Value.ref (jad g r) :: As.map (jtr g)).toArray) (fun q => g.1 ≤ q) := by
    rcases hlk with ⟨host, m1⟩ | m1
    · exact va_runIN C.1 hM ⟨va_cnB n C.1.2.2.2.2 hG rfl rfl rfl (C.2.1.2.2.2.2.1 _ m1) (C.1.2.2.2.2 _ m4) hd1 (jrm_fits hd C.2.2.1.1 C.2.2.1.2 hmx), hini, C.1.2.2.2.2 _ m2⟩ hpre rfl (by rw [List.length_map]; exact hn) hv.1 rfl hwd hdg hf
    · exact va_runI C.1 hM (cwI n C.1.2.2.2.2 hG rfl rfl rfl (C.1.2.2.2.2 _ m4) (C.1.2.2.2.2 _ m1) (C.1.2.2.2.2 _ m2) hini hd1 (jrm_fits hd C.2.2.1.1 C.2.2.1.2 hmx)) hpre rfl (by rw [List.length_map]; exact hn) hv.1 rfl hwd hdg hf
  have hst : (As.reverse ++ .ref r :: st).map (jtr g) = (As.map (jtr g)).reverse ++ .ref (jad g r) :: st.map (jtr g) := by
    rw [List.map_append, List.map_reverse, List.map_cons]
    rfl
  rw [hst]
  refine jcall run hS ?_
  intro v S' H1 locs1 hq hP1 hS1
  have h3 := hK v S' hq g p l e R s m args below meth c (cells + kc') (slots + ks') Z ⟨C.1, C.2.1, C.2.2.1, ⟨by have := C.2.2.2.1.1; omega, by have := C.2.2.2.1.2; omega⟩, C.2.2.2.2⟩ (by
    rw [Nat.add_assoc, Nat.add_assoc]; exact Rt) H1 locs1 lsA hv hP1 hS1
  have e3 : (v.toList ++ st).map (jtr g) = (v.map (jtr g)).toList ++ st.map (jtr g) := by
    rw [List.map_append]
    cases v <;> rfl
  rw [e3] at h3
  exact h3
def jqK (M : List C0) : Option Value → jPS → Prop := fun v S => v = none ∧ S = bs M
theorem K_callI {b b' : jMI} {d d' : Nat} {Q : Option Value → jPS → Prop} {pc idx n r : Nat} {ls ls' : List (Nat × Value)} {As st st0 : List Value} {L L1 M : List C0}
    (hc : jCI b.1 idx b' n) (hdg : decode b.2.2.1 pc = .ok (.invokespecial idx, 3)) (hn : As.length = n) (hw : (st.map (fun v => v.category)).sum ≤ 8) (hA : (lg_sl (.ref r :: As)).length ≤ b'.2.2.2.1) (hd : d' + 1 ≤ d) (hst : st0 = As.reverse ++ .ref r :: st) (hls : lv_args 0 (.ref r :: As) = ls')
    (hJ : JA b' d' (jqK L1) 0 ls' [] L L1) (h : JA b d Q (pc + 3) ls st L1 M) : JA b d Q pc ls st0 L M := by
  subst hst
  subst hls
  refine ⟨Nat.le_trans hJ.1 h.1, Nat.le_trans hJ.2.1 h.2.1, fun hM => ?_⟩
  have a1 := hJ.1
  have a2 := hJ.2.1
  have a3 := h.1
  have a4 := h.2.1
  rw [show M.length - L.length = (L1.length - L.length) + (M.length - L1.length) by omega, show szL M - szL L = (szL L1 - szL L) + (szL M - szL L1) by omega]
  exact J_callI hc hdg hn hw hA hd (hJ.2.2 (by omega)) (fun v S' hq => by obtain ⟨rfl, rfl⟩ := hq; exact h.2.2 hM)
