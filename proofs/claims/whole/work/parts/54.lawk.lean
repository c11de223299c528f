/-! the making of the cells, in the law: as JA, over JX, with room kept for what comes behind -/
def JAX (b : jMI) (d kc0 ks0 : Nat) (Y : jG → Launch → State → Prop) (Q : Option Value → jPS → Prop) (pc : Nat) (ls : List (Nat × Value)) (st : List Value) (L M : List C0) : Prop :=
  L.length ≤ M.length ∧ szL L ≤ szL M ∧ (M.length ≤ 1000000 → JX b d (M.length - L.length + kc0) (szL M - szL L + ks0) Y (fun _ _ _ _ => False) Q pc ls st (bs L))
section
variable {b : jMI} {d kc0 ks0 : Nat} {Y : jG → Launch → State → Prop} {Q : Option Value → jPS → Prop} {pc pc' : Nat} {ls ls' : List (Nat × Value)} {st st' : List Value} {L M : List C0}
theorem KX_lift (f : ∀ kc ks, JX b d kc ks Y (fun _ _ _ _ => False) Q pc' ls' st' (bs L) → JX b d kc ks Y (fun _ _ _ _ => False) Q pc ls st (bs L)) (h : JAX b d kc0 ks0 Y Q pc' ls' st' L M) : JAX b d kc0 ks0 Y Q pc ls st L M := ⟨h.1, h.2.1, fun hM => f _ _ (h.2.2 hM)⟩
end
section
variable {b : jMI} {d kc0 ks0 : Nat} {Y : jG → Launch → State → Prop} {Q : Option Value → jPS → Prop} {pc : Nat} {ls : List (Nat × Value)} {st : List Value} {L M : List C0}
set_option maxHeartbeats 1000000 in
theorem KX_push {c0 : C0} {pc' : Nat} {st0 : List Value} (h : JAX b d kc0 ks0 Y Q pc' ls (.ref L.length :: st) (L ++ [c0]) M)
    (step : ∀ (g : jG) (p : Program) (l : Launch) (e : Env) (R : Room) (s : State) (m : MethodId) (args : Array Value) (below : List Frame) (meth : Method) (c : Code) (cells slots : Nat) (Z : State → Prop) (H : Heap) (locs : List Loc) (lsA : Array Slot),
      (p.tables.exec = Jvm.exec ∧ c.code = b.2.2.1 ∧ c.maxLocals = b.2.2.2.1 ∧ s.vm.findClass b.1 = some m.cls ∧ ∀ w ∈ jgt, w.before args s = true) → va_K g.2.1 vwCl (jtys g) s → jT g s → cells + 1 ≤ R.cells → slots + szC c0 ≤ R.slots →
      (∀ H1 : Heap, H1.size = H.size + 1 → (∀ q, q < H.size → H1[q]? = H[q]?) → (∀ a, a = H.size → va_at g.2.1 vwCl (a, jent g (bs (L ++ [c0])) L.length) H1) → W p l e R s m args below meth c H1 locs (cells + 1) (slots + szC c0) Z (F0 m pc' lsA (.ref H.size :: st.map (jtr g)))) →
      W p l e R s m args below meth c H locs cells slots Z (F0 m pc lsA (st0.map (jtr g)))) : JAX b d kc0 ks0 Y Q pc ls st0 L M := by
  obtain ⟨h1, h2, h3⟩ := h
  have hl : (L ++ [c0]).length = L.length + 1 := by simp
  have hs : szL (L ++ [c0]) = szL L + szC c0 := by rw [szL_app]; simp [szL]
  rw [hl] at h1 h3
  rw [hs] at h2 h3
  refine ⟨by omega, by omega, fun hM => ?_⟩
  intro g p l e R s m args below meth c cells slots Z Yy C Rt Ex H locs lsA hv hP hS
  have h6 : L.length < 1000000 := by omega
  refine step g p l e R s m args below meth c cells slots Z H locs lsA C.1 C.2.1.1 C.2.1.2.2 (by have := C.2.2.2.1.1; omega) (by have := C.2.2.2.1.2; omega) (fun H1 z1 o1 a1 => ?_)
  have K := h3 hM g p l e R s m args below meth c (cells + 1) (slots + szC c0) Z Yy ⟨C.1, C.2.1, C.2.2.1, ⟨by have := C.2.2.2.1.1; omega, by have := C.2.2.2.1.2; omega⟩, C.2.2.2.2⟩ (by
    rw [show cells + 1 + (M.length - (L.length + 1) + kc0) = cells + (M.length - L.length + kc0) by omega, show slots + szC c0 + (szL M - (szL L + szC c0) + ks0) = slots + (szL M - szL L + ks0) by omega]
    exact Rt) (fun _ _ _ _ _ _ _ z => z.elim) H1 locs lsA hv (jR_push hP (bs_mark L) (by show (L ++ [c0]).length = L.length + 1; exact hl) (by show (L ++ [c0]).length ≤ 1000000; omega) (fun i hi => bs_app_ent hi (by omega)) z1 o1 (a1 _ (hP.2.2 (bs_mark L)).symm)) ⟨Nat.le_trans hS.1 (by omega), fun x h1 h2 => (o1 x (Nat.lt_of_lt_of_le h1 hS.1)).trans (hS.2.1 x h1 h2), hS.2.2⟩
  rw [List.map_cons, show jtr g (.ref L.length) = .ref H.size from congrArg Value.ref (jad_len hP h6)] at K
  exact K
set_option maxHeartbeats 1000000 in
theorem KX_new {idx ci : Nat} {Cn : String} {T : u_T} {N : Nat} (hC : jCL ci Cn T N) (hm : Cond.classLink b.1 idx Cn ∈ jgt ∧ Cond.instantiable Cn N ∈ jgt ∧ Cond.initialized Cn ∈ jgt) (hdg : decode b.2.2.1 pc = .ok (.new idx, 3)) (h6 : L.length < 1000000)
    (h : JAX b d kc0 ks0 Y Q (pc + 3) ls (.ref L.length :: st) (L ++ [((ci, 0), [], [])]) M) : JAX b d kc0 ks0 Y Q pc ls st L M := by
  obtain ⟨c1, c2, c3, c4, c5, c6⟩ := hC
  have hsz : szC ((ci, 0), [], []) = N := by show (if ci < 13 then jnf ci else 0) = N; rw [if_pos c2, c3]
  refine KX_push h (fun g p l e R s m args below meth c cells slots Z H locs lsA C hK hT hcs hss kk => ?_)
  rw [hsz] at hss kk
  have hKn := hK.1 ci _ c1
  refine W.newcK C.1 C.2.1 C.2.2.2.1 (C.2.2.2.2 _ hm.1) (C.2.2.2.2 _ hm.2.1) (C.2.2.2.2 _ hm.2.2) rfl hdg hcs hss hKn.2.1 rfl (fun H1 kC hkC e1 z1 o1 => kk H1 z1 o1 (fun a ha => ?_))
  subst ha
  rw [jent_obj (S := bs (L ++ [((ci, 0), [], [])])) (ci := ci) (by rw [bs_kd h6]) c2]
  refine ⟨_, c1, (u_born (jty ci) C.2.2.2.2 c4 hKn hkC e1 c5).to (fun k hk => ?_)⟩
  show defaultValue (jty ci k) = vp_V _ k
  rw [vp_V_range (by rw [c3]; exact hk), jdef_ok ci c2 k (by rw [c3]; exact hk)]
  unfold jfv
  rw [bs_I, bs_R]
  rfl
set_option maxHeartbeats 1000000 in
theorem KX_newa {at_ : ArrayType} {kd t0 n : Nat} {x : Int32} (ht : ∀ g : jG, (jtys g)[t0]? = some (g.2.2.1 kd, newarray.typeOf at_)) (hra : ∀ (U : State) (cA : ClassId), va_RA U cA (newarray.typeOf at_) → U.vm.findClass ("[" ++ (newarray.typeOf at_).toString) = some cA)
    (hkd : 13 ≤ kd ∧ kd < 17) (hdv : defaultValue (newarray.typeOf at_) = if kd = 15 then .long 0 else .int 0) (hm : Cond.arrayClass (newarray.typeOf at_) ∈ jgt) (hdg : decode b.2.2.1 pc = .ok (.newarray at_, 2)) (hx : ¬ x < 0) (hn : x.toNatClampNeg = n) (hby : n * componentBytes (newarray.typeOf at_) ≤ 536870912) (h6 : L.length < 1000000)
    (h : JAX b d kc0 ks0 Y Q (pc + 2) ls (.ref L.length :: st) (L ++ [((kd, n), [], [])]) M) : JAX b d kc0 ks0 Y Q pc ls (.int x :: st) L M := by
  have hsz : szC ((kd, n), [], []) = n := by show (if kd < 13 then jnf kd else n) = n; rw [if_neg (by omega)]
  refine KX_push h (fun g p l e R s m args below meth c cells slots Z H locs lsA C hK hT hcs hss kk => ?_)
  rw [hsz] at hss kk
  subst hn
  refine W.newa C.1 C.2.1 (C.2.2.2.2 _ hm) rfl hdg rfl hx hby hcs hss (fun cA kA comp f1 f2 f3 => ?_)
  have hcA : cA = g.2.2.1 kd := Option.some.inj (f1.symm.trans (hra s _ (hK.2 t0 _ (ht g)).2))
  subst hcA
  refine kk _ (by simp) (fun q hq => by rw [Array.getElem?_push, if_neg (Nat.ne_of_lt hq)]) (fun a ha => ?_)
  subst ha
  rw [jent_arr (S := bs (L ++ [((kd, x.toNatClampNeg), [], [])])) (kd := kd) (n := x.toNatClampNeg) (by rw [bs_kd h6]) (by omega)]
  show (H.push _)[H.size]? = some (vp_cell _ _)
  rw [Array.getElem?_push_size, arrV_new, hdv]
  congr 1
  unfold jar
  by_cases h15 : kd = 15
  · rw [if_pos h15, if_pos h15]
    rfl
  · rw [if_neg h15, if_neg h15, if_pos (by omega), vp_cell_i]
    congr 1
    funext j
    rw [bs_I]
    rfl
end
theorem JX_dup {b : jMI} {Y : jG → Launch → State → Prop} {E : Nat → List (Nat × Value) → List Value → jPS → Prop} {d kc ks : Nat} {Q : Option Value → jPS → Prop} {pc : Nat} {ls : List (Nat × Value)} {st : List Value} {S : jPS} {v : Value} (hdg : decode b.2.2.1 pc = .ok (.dup, 1)) (hc : v.category = 1) (k : JX b d kc ks Y E Q (pc + 1) ls (v :: v :: st) S) : JX b d kc ks Y E Q pc ls (v :: st) S := by
  intro g p l e R s m args below meth c cells slots Z Yy C Rt Ex H locs lsA hv hP hS
  exact lv_dup C.1.1 C.1.2.1 hdg ((jtr_cat g v).trans hc) (k g p l e R s m args below meth c cells slots Z Yy C Rt Ex H locs lsA hv hP hS)
set_option maxHeartbeats 4000000 in
theorem JX_callI {b b' : jMI} {Y : jG → Launch → State → Prop} {d d' kc ks kc' ks' : Nat} {Q Q' : Option Value → jPS → Prop} {pc idx n r : Nat} {ls : List (Nat × Value)} {As st : List Value} {S : jPS}
    (hc : jCI b.1 idx b' n) (hdg : decode b.2.2.1 pc = .ok (.invokespecial idx, 3)) (hn : As.length = n) (hw : (st.map (fun v => v.category)).sum ≤ 8) (hA : (lg_sl (.ref r :: As)).length ≤ b'.2.2.2.1) (hd : d' + 1 ≤ d)
    (hJ : J b' d' kc' ks' Q' 0 (lv_args 0 (.ref r :: As)) [] S) (hK : ∀ v S', Q' v S' → JX b d kc ks Y (fun _ _ _ _ => False) Q (pc + 3) ls (v.toList ++ st) S') : JX b d (kc' + kc) (ks' + ks) Y (fun _ _ _ _ => False) Q pc ls (As.reverse ++ .ref r :: st) S := by
  intro g p l e R s m args below meth c cells slots Z Yy C Rt Ex H locs lsA hv hP hS
  obtain ⟨hlk, ⟨m2, m4, m5⟩, hd1, hpl, hmx, hini, hret⟩ := hc
  obtain ⟨bo, by_, bc, bm, br⟩ := b'
  dsimp only at hlk m2 m4 m5 hd1 hpl hmx hini hret hA hJ
  subst hret
  have hG : GoodIn jgt (jyw (bo, by_, bc, bm, none)) := jgt_good _ (fun w hw => by
    simp only [jyw, List.mem_cons] at hw
    rcases hw with rfl | hw
    · exact m5
    · exact hw)
  have hM := J_met (b := (bo, by_, bc, bm, none)) hpl.1 hpl.2 hA hJ g l
  have hpre : PreS s H (jPc g (.ref r :: As) S) (.ref (jad g r) :: As.map (jtr g)) := ⟨jPc_blind _ _ _, jPc_of (.ref r :: As) C hP hS⟩
  have hwd : 2 * (F0 m pc lsA ((As.map (jtr g)).reverse ++ .ref (jad g r) :: st.map (jtr g))).monitorRoom + ((st.map (jtr g)).map fun v => v.category).sum ≤ 8 := by
    show 2 * 0 + _ ≤ 8
    rw [jcat]
    omega
  have hf : cells + kc' ≤ R.cells ∧ slots + ks' ≤ R.slots := ⟨by have := C.2.2.2.1.1; omega, by have := C.2.2.2.1.2; omega⟩
  have run : va_Run p l e R s m args below meth c H locs cells slots kc' ks' (F0 m pc lsA ((As.map (jtr g)).reverse ++ .ref (jad g r) :: st.map (jtr g))) (st.map (jtr g)) (jQc g Q' (Value.ref (jad g r) :: As.map (jtr g)).toArray) (fun q => g.1 ≤ q) := by
    rcases hlk with ⟨host, m1⟩ | m1
    · exact va_runIN C.1 hM ⟨va_cnB n C.1.2.2.2.2 hG rfl rfl rfl (C.2.1.2.2.2.2.1 _ m1) (C.1.2.2.2.2 _ m4) hd1 (jrm_fits hd C.2.2.1.1 C.2.2.1.2 hmx), hini, C.1.2.2.2.2 _ m2⟩ hpre rfl (by rw [List.length_map]; exact hn) hv.1 rfl hwd hdg hf
    · exact va_runI C.1 hM (cwI n C.1.2.2.2.2 hG rfl rfl rfl (C.1.2.2.2.2 _ m4) (C.1.2.2.2.2 _ m1) (C.1.2.2.2.2 _ m2) hini hd1 (jrm_fits hd C.2.2.1.1 C.2.2.1.2 hmx)) hpre rfl (by rw [List.length_map]; exact hn) hv.1 rfl hwd hdg hf
  have hst : (As.reverse ++ .ref r :: st).map (jtr g) = (As.map (jtr g)).reverse ++ .ref (jad g r) :: st.map (jtr g) := by
    rw [List.map_append, List.map_reverse, List.map_cons]
    rfl
  rw [hst]
  refine jcall run hS ?_
  intro v S' H1 locs1 hq hP1 hS1
  have h3 := hK v S' hq g p l e R s m args below meth c (cells + kc') (slots + ks') Z Yy ⟨C.1, C.2.1, C.2.2.1, ⟨by have := C.2.2.2.1.1; omega, by have := C.2.2.2.1.2; omega⟩, C.2.2.2.2⟩ (by
    rw [Nat.add_assoc, Nat.add_assoc]; exact Rt) (fun _ _ _ _ _ _ _ z => z.elim) H1 locs1 lsA hv hP1 hS1
  have e3 : (v.toList ++ st).map (jtr g) = (v.map (jtr g)).toList ++ st.map (jtr g) := by
    rw [List.map_append]
    cases v <;> rfl
  rw [e3] at h3
  exact h3
theorem KX_callI {b b' : jMI} {d d' kc0 ks0 : Nat} {Y : jG → Launch → State → Prop} {Q : Option Value → jPS → Prop} {pc idx n r : Nat} {ls ls' : List (Nat × Value)} {As st st0 : List Value} {L L1 M : List C0}
    (hc : jCI b.1 idx b' n) (hdg : decode b.2.2.1 pc = .ok (.invokespecial idx, 3)) (hn : As.length = n) (hw : (st.map (fun v => v.category)).sum ≤ 8) (hA : (lg_sl (.ref r :: As)).length ≤ b'.2.2.2.1) (hd : d' + 1 ≤ d) (hst : st0 = As.reverse ++ .ref r :: st) (hls : lv_args 0 (.ref r :: As) = ls')
    (hJ : JA b' d' (jqK L1) 0 ls' [] L L1) (h : JAX b d kc0 ks0 Y Q (pc + 3) ls st L1 M) : JAX b d kc0 ks0 Y Q pc ls st0 L M := by
  subst hst
  subst hls
  refine ⟨Nat.le_trans hJ.1 h.1, Nat.le_trans hJ.2.1 h.2.1, fun hM => ?_⟩
  have a1 := hJ.1
  have a2 := hJ.2.1
  have a3 := h.1
  have a4 := h.2.1
  rw [show M.length - L.length + kc0 = (L1.length - L.length) + (M.length - L1.length + kc0) by omega, show szL M - szL L + ks0 = (szL L1 - szL L) + (szL M - szL L1 + ks0) by omega]
  exact JX_callI hc hdg hn hw hA hd (hJ.2.2 (by omega)) (fun v S' hq => by obtain ⟨rfl, rfl⟩ := hq; exact h.2.2 hM)
