theorem jdef_ok : ∀ ci, ci < 13 → ∀ k, k < jnf ci → defaultValue (jty ci k) = (if jcode (jty ci k) = 0 then Value.int 0 else if jcode (jty ci k) = 1 then Value.long 0 else Value.null) := by decide +kernel
theorem vp_V_range {n k : Nat} {f : Nat → Value} (h : k < n) : vp_V ((List.range n).map f) k = f k := by
  unfold vp_V
  rw [List.getD_eq_getElem?_getD, List.getElem?_map, List.getElem?_range h]
  rfl
theorem jad_len {g : jG} {L : List C0} {H : Heap} (hP : jR g (bs L) H) (h6 : L.length < 1000000) : jad g L.length = H.size := by
  rw [hP.2.2 (bs_mark L)]
  exact if_pos h6
section
variable {b : jMI} {d : Nat} {Q : Option Value → jPS → Prop} {pc : Nat} {ls : List (Nat × Value)} {st : List Value} {L M : List C0}
set_option maxHeartbeats 1000000 in
/-- a cell more -/
theorem K_push {c0 : C0} {pc' : Nat} {st0 : List Value} (h : JA b d Q pc' ls (.ref L.length :: st) (L ++ [c0]) M)
    (step : ∀ (g : jG) (p : Program) (l : Launch) (e : Env) (R : Room) (s : State) (m : MethodId) (args : Array Value) (below : List Frame) (meth : Method) (c : Code) (cells slots : Nat) (Z : State → Prop) (H : Heap) (locs : List Loc) (lsA : Array Slot),
      (p.tables.exec = Jvm.exec ∧ c.code = b.2.2.1 ∧ c.maxLocals = b.2.2.2.1 ∧ s.vm.findClass b.1 = some m.cls ∧ ∀ w ∈ jgt, w.before args s = true) → va_K g.2.1 vwCl (jtys g) s → jT g s → cells + 1 ≤ R.cells → slots + szC c0 ≤ R.slots →
      (∀ H1 : Heap, H1.size = H.size + 1 → (∀ q, q < H.size → H1[q]? = H[q]?) → (∀ a, a = H.size → va_at g.2.1 vwCl (a, jent g (bs (L ++ [c0])) L.length) H1) → W p l e R s m args below meth c H1 locs (cells + 1) (slots + szC c0) Z (F0 m pc' lsA (.ref H.size :: st.map (jtr g)))) →
      W p l e R s m args below meth c H locs cells slots Z (F0 m pc lsA (st0.map (jtr g)))) : JA b d Q pc ls st0 L M := by
  obtain ⟨h1, h2, h3⟩ := h
  have hl : (L ++ [c0]).length = L.length + 1 := by simp
  have hs : szL (L ++ [c0]) = szL L + szC c0 := by rw [szL_app]; simp [szL]
  rw [hl] at h1 h3
  rw [hs] at h2 h3
  refine ⟨by omega, by omega, fun hM => ?_⟩
  intro g p l e R s m args below meth c cells slots Z C Rt H locs lsA hv hP hS
  have h6 : L.length < 1000000 := by omega
  refine step g p l e R s m args below meth c cells slots Z H locs lsA C.1 C.2.1.1 C.2.1.2.2 (by have := C.2.2.2.1.1; omega) (by have := C.2.2.2.1.2; omega) (fun H1 z1 o1 a1 => ?_)
  have K := h3 hM g p l e R s m args below meth c (cells + 1) (slots + szC c0) Z ⟨C.1, C.2.1, C.2.2.1, ⟨by have := C.2.2.2.1.1; omega, by have := C.2.2.2.1.2; omega⟩, C.2.2.2.2⟩ (by
    rw [show cells + 1 + (M.length - (L.length + 1)) = cells + (M.length - L.length) by omega, show slots + szC c0 + (szL M - (szL L + szC c0)) = slots + (szL M - szL L) by omega]
    exact Rt) H1 locs lsA hv (jR_push hP (bs_mark L) (by show (L ++ [c0]).length = L.length + 1; exact hl) (by show (L ++ [c0]).length ≤ 1000000; omega) (fun i hi => bs_app_ent hi (by omega)) z1 o1 (a1 _ (hP.2.2 (bs_mark L)).symm)) ⟨Nat.le_trans hS.1 (by omega), fun x h1 h2 => (o1 x (Nat.lt_of_lt_of_le h1 hS.1)).trans (hS.2.1 x h1 h2), hS.2.2⟩
  rw [List.map_cons, show jtr g (.ref L.length) = .ref H.size from congrArg Value.ref (jad_len hP h6)] at K
  exact K
theorem bs_kd {c0 : C0} (h6 : L.length < 1000000) : (bs (L ++ [c0])).1.1 L.length = c0.1 := by rw [bs_sh h6, bs_last]
theorem bs_I {c0 : C0} (j : Nat) : (bs (L ++ [c0])).2.1 L.length j = c0.2.1.getD j 0 := by
  show ((L ++ [c0]).getD L.length dC).2.1.getD j 0 = _
  rw [bs_last]
theorem bs_R {c0 : C0} (j : Nat) : (bs (L ++ [c0])).2.2.2 L.length j = c0.2.2.getD j none := by
  show ((L ++ [c0]).getD L.length dC).2.2.getD j none = _
  rw [bs_last]
set_option maxHeartbeats 1000000 in
theorem K_new {idx ci : Nat} {Cn : String} {T : u_T} {N : Nat} (hC : jCL ci Cn T N) (hm : Cond.classLink b.1 idx Cn ∈ jgt ∧ Cond.instantiable Cn N ∈ jgt ∧ Cond.initialized Cn ∈ jgt) (hdg : decode b.2.2.1 pc = .ok (.new idx, 3)) (h6 : L.length < 1000000)
    (h : JA b d Q (pc + 3) ls (.ref L.length :: st) (L ++ [((ci, 0), [], [])]) M) : JA b d Q pc ls st L M := by
  obtain ⟨c1, c2, c3, c4, c5, c6⟩ := hC
  have hsz : szC ((ci, 0), [], []) = N := by show (if ci < 13 then jnf ci else 0) = N; rw [if_pos c2, c3]
  refine K_push h (fun g p l e R s m args below meth c cells slots Z H locs lsA C hK hT hcs hss kk => ?_)
  rw [hsz] at hss kk
  have hKn := hK.1 ci _ c1
  refine W.newcK C.1 C.2.1 C.2.2.2.1 (C.2.2.2.2 _ hm.1) (C.2.2.2.2 _ hm.2.1) (C.2.2.2.2 _ hm.2.2) rfl hdg hcs hss hKn.2.1 rfl (fun H1 kC hkC e1 z1 o1 => kk H1 z1 o1 (fun a ha => ?_))
  subst ha
  rw [jent_obj (S := bs (L ++ [((ci, 0), [], [])])) (ci := ci) (by rw [bs_kd h6]) c2]
  refine ⟨_, c1, (u_born (jty ci) C.2.2.2.2 c4 hKn hkC e1 c5).to (fun k hk => ?_)⟩
  show defaultValue (jty ci k) = vp_V _ k
  rw [vp_V_range (by rw [c3]; exact hk), jdef_ok ci c2 k (by rw [c3]; exact hk)]
  unfold jfv
  rw [bs_I, bs_R]
  rfl
end
section
variable {b : jMI} {d : Nat} {Q : Option Value → jPS → Prop} {pc : Nat} {ls : List (Nat × Value)} {st : List Value} {L M : List C0}
set_option maxHeartbeats 1000000 in
theorem K_newa {at_ : ArrayType} {kd t0 n : Nat} {x : Int32} (ht : ∀ g : jG, (jtys g)[t0]? = some (g.2.2.1 kd, newarray.typeOf at_)) (hra : ∀ (U : State) (cA : ClassId), va_RA U cA (newarray.typeOf at_) → U.vm.findClass ("[" ++ (newarray.typeOf at_).toString) = some cA)
    (hkd : 13 ≤ kd ∧ kd < 17) (hdv : defaultValue (newarray.typeOf at_) = if kd = 15 then .long 0 else .int 0) (hm : Cond.arrayClass (newarray.typeOf at_) ∈ jgt) (hdg : decode b.2.2.1 pc = .ok (.newarray at_, 2)) (hx : ¬ x < 0) (hn : x.toNatClampNeg = n) (hby : n * componentBytes (newarray.typeOf at_) ≤ 536870912) (h6 : L.length < 1000000)
    (h : JA b d Q (pc + 2) ls (.ref L.length :: st) (L ++ [((kd, n), [], [])]) M) : JA b d Q pc ls (.int x :: st) L M := by
  have hsz : szC ((kd, n), [], []) = n := by show (if kd < 13 then jnf kd else n) = n; rw [if_neg (by omega)]
  refine K_push h (fun g p l e R s m args below meth c cells slots Z H locs lsA C hK hT hcs hss kk => ?_)
  rw [hsz] at hss kk
  subst hn
  refine W.newa C.1 C.2.1 (C.2.2.2.2 _ hm) rfl hdg rfl hx hby hcs hss (fun cA kA comp f1 f2 f3 => ?_)
  have hcA : cA = g.2.2.1 kd := Option.some.inj (f1.symm.trans (hra s _ (hK.2 t0 _ (ht g)).2))
  subst hcA
  refine kk _ (by simp) (fun q hq => by rw [Array.getElem?_push, if_neg (Nat.ne_of_lt hq)]) (fun a ha => ?_)
  subst ha
  rw [jent_arr (S := bs (L ++ [((kd, x.toNatClampNeg), [], [])])) (kd := kd) (n := x.toNatClampNeg) (by rw [bs_kd h6]) (by omega)]
  show (H.push _)[H.size]? = some (vp_cell _ _)
  rw [Array.getElem?_push_size, arrV_new, hdv]
  congr 1
  unfold jar
  by_cases h15 : kd = 15
  · rw [if_pos h15, if_pos h15]
    rfl
  · rw [if_neg h15, if_neg h15, if_pos (by omega), vp_cell_i]
    congr 1
    funext j
    rw [bs_I]
    rfl
set_option maxHeartbeats 1000000 in
theorem K_anew {idx kd t0 n : Nat} {x : Int32} {Cn : String} (ht : ∀ g : jG, (jtys g)[t0]? = some (g.2.2.1 kd, .object Cn)) (hkd : 17 ≤ kd) (hm : Cond.classLink b.1 idx Cn ∈ jgt ∧ Cn ∈ [RX6, RX7, RX9, RX10]) (hdg : decode b.2.2.1 pc = .ok (.anewarray idx, 3)) (hx : ¬ x < 0) (hn : x.toNatClampNeg = n) (hby : n * 4 ≤ 536870912) (h6 : L.length < 1000000)
    (h : JA b d Q (pc + 3) ls (.ref L.length :: st) (L ++ [((kd, n), [], [])]) M) : JA b d Q pc ls (.int x :: st) L M := by
  have hsz : szC ((kd, n), [], []) = n := by show (if kd < 13 then jnf kd else n) = n; rw [if_neg (by omega)]
  refine K_push h (fun g p l e R s m args below meth c cells slots Z H locs lsA C hK hT hcs hss kk => ?_)
  rw [hsz] at hss kk
  subst hn
  refine W.anew C.1 C.2.1 C.2.2.2.1 (C.2.2.2.2 _ hm.1) (va_AO.use (hT.2.2.2.1 _ hm.2)) rfl hdg rfl hx hby hcs hss (fun cA kA comp f1 f2 f3 f4 => ?_)
  obtain ⟨kA', comp', g1, g2, g3, g4⟩ := (hK.2 t0 _ (ht g)).2
  have hcA : cA = g.2.2.1 kd := Option.some.inj (f1.symm.trans g4)
  subst hcA
  refine kk _ (by simp) (fun q hq => by rw [Array.getElem?_push, if_neg (Nat.ne_of_lt hq)]) (fun a ha => ?_)
  subst ha
  rw [jent_arr (S := bs (L ++ [((kd, x.toNatClampNeg), [], [])])) (kd := kd) (n := x.toNatClampNeg) (by rw [bs_kd h6]) (by omega)]
  show (H.push _)[H.size]? = some (vp_cell _ _)
  rw [Array.getElem?_push_size, arrV_new]
  congr 1
  unfold jar
  rw [if_neg (by omega), if_neg (by omega), vp_cell_q]
  congr 1
  funext j
  rw [bs_R]
  rfl
end
section
variable {b : jMI} {d : Nat} {Q : Option Value → jPS → Prop} {pc : Nat} {ls : List (Nat × Value)} {st : List Value} {L M : List C0}
/-- a cell written: the rest stays -/
theorem K_write {L' : List C0} {pc' k : Nat} {st0 : List Value} (hk : k < L.length) (hlen : L'.length = L.length) (hsz : szL L' = szL L) (hsh : (bs L').1 = (bs L).1) (h : JA b d Q pc' ls st L' M)
    (step : ∀ (g : jG) (p : Program) (l : Launch) (e : Env) (R : Room) (s : State) (m : MethodId) (args : Array Value) (below : List Frame) (meth : Method) (c : Code) (cells slots : Nat) (Z : State → Prop) (H : Heap) (locs : List Loc) (lsA : Array Slot),
      (p.tables.exec = Jvm.exec ∧ c.code = b.2.2.1 ∧ c.maxLocals = b.2.2.2.1 ∧ s.vm.findClass b.1 = some m.cls ∧ ∀ w ∈ jgt, w.before args s = true) → va_K g.2.1 vwCl (jtys g) s → meth.name = b.2.1.name → jR g (bs L) H →
      (∀ (H1 : Heap) (l1 : Loc), l1.base = g.1 + k → H1.size = H.size → (∀ q, q ≠ g.1 + k → H1[q]? = H[q]?) → jR g (bs L') H1 → W p l e R s m args below meth c H1 (locs ++ [l1]) cells slots Z (F0 m pc' lsA (st.map (jtr g)))) →
      W p l e R s m args below meth c H locs cells slots Z (F0 m pc lsA (st0.map (jtr g)))) : JA b d Q pc ls st0 L M := by
  obtain ⟨h1, h2, h3⟩ := h
  refine ⟨by omega, by omega, fun hM => ?_⟩
  intro g p l e R s m args below meth c cells slots Z C Rt H locs lsA hv hP hS
  refine step g p l e R s m args below meth c cells slots Z H locs lsA C.1 C.2.1.1 C.2.2.2.2 hP (fun H1 l1 hl1 z1 o1 hP1 => ?_)
  have h4 := h3 hM
  rw [hlen, hsz] at h4
  refine h4 g p l e R s m args below meth c cells slots Z C Rt H1 (locs ++ [l1]) lsA hv hP1 ⟨by rw [z1]; exact hS.1, fun q hq hA => ?_, fun q hq => ?_⟩
  · rw [o1 q (fun e => hA (by show g.1 ≤ q; omega))]
    exact hS.2.1 q hq hA
  · rcases List.mem_append.mp hq with h | h
    · exact hS.2.2 q h
    · rw [List.mem_singleton.mp h]
      show g.1 ≤ l1.base
      rw [hl1]
      exact Nat.le_add_right _ _
end
