/-! what the law's walk rests on beside: the script, which lies below all cells that are made -/
abbrev mi_L_law : jMI := (RL, yL_law, code, 7, some .boolean)
def jYL (L : Nat) (xs : Nat → Int32) (g : jG) (l : Launch) (s : State) : Prop := jY g l s ∧ va_X (g.2.2.2.1 2000) L xs s s.heap ∧ g.2.2.2.1 2000 < s.heap.size ∧ ¬ g.1 ≤ g.2.2.2.1 2000
def lsL (i : Int32) : List (Nat × Value) := [(0, .ref 1002000), (1, .ref 0), (2, .ref 324), (3, .ref 375), (4, .int i)]
section LWR
variable {b : jMI} {d kc ks : Nat} {Q : Option Value → jPS → Prop} {pc : Nat} {ls : List (Nat × Value)} {st : List Value} {S : jPS} {L : Nat} {xs : Nat → Int32} {E : Nat → List (Nat × Value) → List Value → jPS → Prop}
theorem JX_sld {i v : Int32} (hdg : decode b.2.2.1 pc = .ok (.iaload, 1)) (hin : vp_in i L) (hv : xs i.toNatClampNeg = v) (K : JX b d kc ks (jYL L xs) E Q (pc + 1) ls (.int v :: st) S) : JX b d kc ks (jYL L xs) E Q pc ls (.int i :: .ref 1002000 :: st) S := by
  intro g p l e R s m args below meth c cells slots Z Yy C Rt Ex H locs lsA hv2 hP hS
  subst hv
  exact va_sld (A := fun q => g.1 ≤ q) C.1.1 C.1.2.1 Yy.2.1 Yy.2.2.1 Yy.2.2.2 hS hin hdg (K g p l e R s m args below meth c cells slots Z Yy C Rt Ex H locs lsA hv2 hP hS)
theorem JX_slen (hdg : decode b.2.2.1 pc = .ok (.arraylength, 1)) (K : JX b d kc ks (jYL L xs) E Q (pc + 1) ls (.int (Int32.ofNat L) :: st) S) : JX b d kc ks (jYL L xs) E Q pc ls (.ref 1002000 :: st) S := by
  intro g p l e R s m args below meth c cells slots Z Yy C Rt Ex H locs lsA hv2 hP hS
  exact va_slen (A := fun q => g.1 ≤ q) C.1.1 C.1.2.1 Yy.2.1 Yy.2.2.1 Yy.2.2.2 hS hdg (K g p l e R s m args below meth c cells slots Z Yy C Rt Ex H locs lsA hv2 hP hS)
end LWR
theorem lt_ml : Cond.methodLink RL 65 yL_told ∈ jgt := List.mem_filter.mpr ⟨by decide +kernel, by decide +kernel⟩
theorem lt_st : Cond.static yL_told ∈ jgt := List.mem_filter.mpr ⟨by decide +kernel, by decide +kernel⟩
theorem lt_in : Cond.initialized yL_told.cls ∈ jgt := List.mem_filter.mpr ⟨by decide +kernel, by decide +kernel⟩
set_option maxHeartbeats 4000000 in
theorem JX_ltold {d kc ks : Nat} {Q : Option Value → jPS → Prop} {pc : Nat} {ls : List (Nat × Value)} {σ : jM} {L : Nat} {xs : Nat → Int32} {a1 a2 a3 : Int32} {r : Option Int32 × jM} (hdg : decode code pc = .ok (.invokestatic 65, 3)) (hd : 10 ≤ d) (h : f_X12_told a1 a2 a3 σ = some r) (K : JX mi_L_law d kc ks (jYL L xs) (fun _ _ _ _ => False) Q (pc + 3) ls [.int (f_L_told2 r).1] (ms (f_L_told2 r).2)) :
    JX mi_L_law d (1 + kc) (6 + ks) (jYL L xs) (fun _ _ _ _ => False) Q pc ls [.ref 375, .int a3, .int a2, .int a1, .ref 0] (ms σ) := by
  intro g p l e R s m args below meth c cells slots Z Yy C Rt Ex H locs lsA hv hP hS
  have hG : GoodIn jgt (va_wsS RL 65 yL_told jywL) := jgt_good _ (fun w hw => by
    simp only [va_wsS, jywL, List.cons_append, List.nil_append, List.mem_cons] at hw
    rcases hw with rfl | rfl | rfl | rfl | hw
    · exact lt_ml
    · exact lt_st
    · exact lt_in
    · exact ltw
    · exact hw)
  have run := vx_runSW (R := R) (hh := [(0, 12, 15, 13)]) (As := ([.ref 0, .int a1, .int a2, .int a3, .ref 375] : List Value).map (jtr g)) (rest := []) (g := F0 m pc lsA ((([.ref 0, .int a1, .int a2, .int a3, .ref 375] : List Value).map (jtr g)).reverse ++ [])) (cells := cells) (slots := slots) (locs := locs) (below := below) (e := e) (meth := meth) C.1 (ltold_met h g l) (vx_cwSW 5 C.1.2.2.2.2 hG rfl rfl rfl ⟨by decide +kernel, by decide +kernel, by decide +kernel⟩ (jrm_fits (d := d) (d' := 9) hd C.2.2.1.1 C.2.2.1.2 (mL := 6) (by decide))) ⟨jPcY_blind _ _ _ _, jPcY_of [.ref 0, .int a1, .int a2, .int a3, .ref 375] C Yy.1 hP hS⟩ rfl rfl hv.1 rfl (Nat.le_of_ble_eq_true rfl) hdg ⟨by have := C.2.2.2.1.1; omega, by have := C.2.2.2.1.2; omega⟩
  have hst : ([.ref 375, .int a3, .int a2, .int a1, .ref 0] : List Value).map (jtr g) = (([.ref 0, .int a1, .int a2, .int a3, .ref 375] : List Value).map (jtr g)).reverse ++ [] := rfl
  rw [hst]
  refine jcall run hS ?_
  intro v S' H1 locs1 hq hP1 hS1
  obtain ⟨rfl, rfl⟩ := hq
  exact K g p l e R s m args below meth c (cells + 1) (slots + 6) Z Yy ⟨C.1, C.2.1, C.2.2.1, ⟨by have := C.2.2.2.1.1; omega, by have := C.2.2.2.1.2; omega⟩, C.2.2.2.2⟩ (by rw [Nat.add_assoc, Nat.add_assoc]; exact Rt) (fun _ _ _ _ _ _ _ z => z.elim) H1 locs1 lsA hv hP1 hS1
