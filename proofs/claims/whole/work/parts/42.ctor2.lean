section
variable {p : Program} {l : Launch} {e : Env} {R : Room} {s : State} {m : MethodId} {args : Array Value} {below : List Frame} {meth : Method} {c : Code} {H : Heap} {locs : List Loc} {cells slots : Nat} {Z : State → Prop}
/-- a field of an object written: what the heap is then, and that it is as large as it was -/
theorem jW_put {g : jG} {b : jMI} {S : jPS} {idx ci j t k pc : Nat} {fin : Bool} {v : Value} {rest : List Value} {lsA : Array Slot} (C : p.tables.exec = Jvm.exec ∧ c.code = b.2.2.1 ∧ c.maxLocals = b.2.2.2.1 ∧ s.vm.findClass b.1 = some m.cls ∧ ∀ w ∈ jgt, w.before args s = true) (hK : va_K g.2.1 vwCl (jtys g) s) (hmn : meth.name = b.2.1.name)
    (hF : jPF b.1 idx ci j t fin) (hinit : fin = true → b.2.1.name = "<init>") (hdg : decode b.2.2.1 pc = .ok (.putfield idx, 3)) (hP : jR g S H) (hk : (S.1.1 k).1 = ci) (hn : k < S.1.2) (hx : narrow (jty ci j) v = v ∧ fits (jty ci j) v = true)
    (kk : ∀ (H1 : Heap) (l1 : Loc), l1.base = g.1 + k → H1.size = H.size → (∀ q, q ≠ g.1 + k → H1[q]? = H[q]?) → va_at g.2.1 vwCl (g.1 + k, .inr (ci, ((List.range (jnf ci)).map (fun i => jfv g S.2 (jcode (jty ci i)) k i)).set j v)) H1 → W p l e R s m args below meth c H1 (locs ++ [l1]) cells slots Z (F0 m (pc + 3) lsA rest)) :
    W p l e R s m args below meth c H locs cells slots Z (F0 m pc lsA (v :: .ref (g.1 + k) :: rest)) := by
  obtain ⟨ref, Cn, T, N, ⟨c1, c2, c3, c4, c5, c6⟩, hj, ht, hl, hs, hfin, how⟩ := hF
  have hap := va_apart (own := b.1) C.2.2.2.2 c4 (jty ci) c5 c6 hK c1
  have h0 := hP.1 k _ (jws_get hn)
  rw [jent_obj hk c2] at h0
  obtain ⟨r, h1, cell, q1, q2, q3, q4⟩ := h0
  have hr : r = (Cn, T, N) := Option.some.inj (h1.symm.trans c1)
  subst hr
  obtain ⟨hS, hfc, kC, hkC, hkind⟩ := hK.1 ci _ c1
  obtain ⟨cf, kf, fi, f, hi, hsl⟩ := hS j hj
  have hlay := C.2.2.2.2 _ (c4 _ (u_in_lay hj))
  unfold u_lay at hlay
  have hst := (u_facts hfc hkC (u_lays C.2.2.2.2 c4 hj) hi).1
  have fin2 : ∀ H' : Heap, H'[g.1 + k]? = some (cell.setSlot f.slot v) → H'.size = H.size → (∀ q, q ≠ g.1 + k → H'[q]? = H[q]?) → W p l e R s m args below meth c H' (locs ++ [⟨g.1 + k, f.slot⟩]) cells slots Z (F0 m (pc + 3) lsA rest) := by
    intro H' e1 e2 e3
    refine kk H' ⟨g.1 + k, f.slot⟩ rfl e2 e3 ⟨_, c1, ?_⟩
    rw [hsl] at e1
    exact t_OB.to (V := updV (vp_V ((List.range (jnf ci)).map (fun i => jfv g S.2 (jcode (jty ci i)) k i))) j v) ⟨_, e1, q2, q3, t_set q4 hap hj v⟩ (fun i _ => vp_updV_set (by simp; rw [c3]; exact hj) v i)
  cases fin with
  | false =>
    rw [if_neg (by rw [hfin]; decide)] at hlay
    have h6 := u_store hfc hkC hkind hlay hi (c5 j hj) hx.1 hx.2
    exact W.putK C.1 C.2.1 (f := f) ⟨C.2.2.2.1, C.2.2.2.2 _ hl, ⟨_, _, _, jsame C.2.2.2.2 hs _ hi⟩, hst⟩ (by rw [q2]; exact h6) q1 q3 (by rw [hsl]; exact k2_hasslot (q4 j hj)) rfl rfl hdg fin2
  | true =>
    rw [if_pos hfin] at hlay
    have hcf : m.cls = cf := by
      obtain ⟨_, _, c', _, _, _, -, -, hf', -, -, -, hown2, -⟩ := Cond.laysFinal_spec hlay
      have e1 : c' = cf := by have := hi.symm.trans hf'; simp at this; exact this.1.symm
      rw [how rfl] at hown2
      rw [← e1]; exact Option.some.inj (C.2.2.2.1.symm.trans hown2)
    have h6 := u_fits hfc hkC hkind (Or.inr hlay) hi (c5 j hj) hx.1 hx.2
    exact W.putFinK C.1 C.2.1 C.2.2.2.1 (C.2.2.2.2 _ hl) (jsame C.2.2.2.2 hs _ hi) hst hcf (hmn.trans (hinit rfl)) (by rw [q2]; exact h6) q1 q3 (by rw [hsl]; exact k2_hasslot (q4 j hj)) rfl rfl hdg fin2
end
section
variable {b : jMI} {d : Nat} {Q : Option Value → jPS → Prop} {pc : Nat} {ls : List (Nat × Value)} {st : List Value} {L M : List C0}
set_option maxHeartbeats 1000000 in
theorem K_putI {idx ci j k : Nat} {fin : Bool} {x : Int32} (hF : jPF b.1 idx ci j 0 fin) (hinit : fin = true → b.2.1.name = "<init>") (hdg : decode b.2.2.1 pc = .ok (.putfield idx, 3)) (hk : (L.getD k dC).1.1 = ci ∧ k < L.length ∧ k < 1000000) (hx : narrow (jty ci j) (.int x) = .int x ∧ fits (jty ci j) (.int x) = true)
    (h : JA b d Q (pc + 3) ls st (ptI L k j x) M) : JA b d Q pc ls (.int x :: .ref k :: st) L M := by
  obtain ⟨hk, hn, h6⟩ := hk
  have hk2 : ((bs L).1.1 k).1 = ci := by rw [bs_sh h6]; exact hk
  refine K_write (k := k) hn (by simp [ptI]) (szL_ptI hn) (by rw [bs_ptI hn]; rfl) h (fun g p l e R s m args below meth c cells slots Z H locs lsA C hK hmn hP kk => ?_)
  rw [List.map_cons, List.map_cons, show jtr g (.ref k) = .ref (g.1 + k) from congrArg Value.ref (if_pos h6)]
  refine jW_put (S := bs L) C hK hmn hF hinit hdg hP hk2 hn hx (fun H1 l1 hl z o1 a1 => kk H1 l1 hl z o1 ?_)
  rw [bs_ptI hn]
  refine jR_set hP rfl (fun i hi => jwI_ent hi) z o1 ?_
  obtain ⟨ref, Cn, T, N, ⟨c1, c2, c3, c4, c5, c6⟩, hj, ht, -⟩ := hF
  rw [jent_obj (S := jwI (bs L) k j x) hk2 c2]
  rw [jflds_set (S' := (jwI (bs L) k j x).2) (by rw [c3]; exact hj) ?_ (fun i hi => jwI_fv (Or.inr (Or.inl hi)) (by unfold jcode; split <;> decide))] at a1
  · exact a1
  · rw [ht]
    show Value.int (jup (bs L).2.1 k j x k j) = _
    rw [jup_at, if_pos rfl]
    rfl
set_option maxHeartbeats 1000000 in
theorem K_putR {idx ci j k q : Nat} {fin : Bool} (hF : jPF b.1 idx ci j 2 fin) (hinit : fin = true → b.2.1.name = "<init>") (hdg : decode b.2.2.1 pc = .ok (.putfield idx, 3)) (hk : (L.getD k dC).1.1 = ci ∧ k < L.length ∧ k < 1000000)
    (h : JA b d Q (pc + 3) ls st (ptR L k j (some q)) M) : JA b d Q pc ls (.ref q :: .ref k :: st) L M := by
  obtain ⟨hk, hn, h6⟩ := hk
  have hk2 : ((bs L).1.1 k).1 = ci := by rw [bs_sh h6]; exact hk
  have hF0 := hF
  obtain ⟨ref, Cn, T, N, ⟨c1, c2, c3, c4, c5, c6⟩, hj, ht, -⟩ := hF0
  refine K_write (k := k) hn (by simp [ptR]) (szL_ptR hn) (by rw [bs_ptR hn]; rfl) h (fun g p l e R s m args below meth c cells slots Z H locs lsA C hK hmn hP kk => ?_)
  have hx : narrow (jty ci j) (.ref (jad g q)) = .ref (jad g q) ∧ fits (jty ci j) (.ref (jad g q)) = true := by
    unfold jcode at ht
    split at ht
    · cases ht
    · rename_i z; rw [z]; exact ⟨rfl, rfl⟩
    · rename_i z; rw [z]; exact ⟨rfl, rfl⟩
    · cases ht
  rw [List.map_cons, List.map_cons, show jtr g (.ref k) = .ref (g.1 + k) from congrArg Value.ref (if_pos h6), show jtr g (.ref q) = .ref (jad g q) from rfl]
  refine jW_put (S := bs L) C hK hmn hF hinit hdg hP hk2 hn hx (fun H1 l1 hl z o1 a1 => kk H1 l1 hl z o1 ?_)
  rw [bs_ptR hn]
  refine jR_set hP rfl (fun i hi => jwR_ent hi) z o1 ?_
  rw [jent_obj (S := jwR (bs L) k j (some q)) hk2 c2]
  rw [jflds_set (S' := (jwR (bs L) k j (some q)).2) (by rw [c3]; exact hj) ?_ (fun i hi => jwR_fv (Or.inr (Or.inl hi)) (by unfold jcode; split <;> decide))] at a1
  · exact a1
  · rw [ht]
    show va_rf ((jup (bs L).2.2.2 k j (some q) k j).map (jad g)) = _
    rw [jup_at, if_pos rfl]
    rfl
set_option maxHeartbeats 1000000 in
theorem K_iast {k n : Nat} {i x : Int32} (hdg : decode b.2.2.1 pc = .ok (.iastore, 1)) (hk : (L.getD k dC).1 = (14, n) ∧ k < L.length ∧ k < 1000000 ∧ inb i n)
    (h : JA b d Q (pc + 1) ls st (ptI L k i.toNatClampNeg x) M) : JA b d Q pc ls (.int x :: .int i :: .ref k :: st) L M := by
  obtain ⟨hk, hn, h6, hin⟩ := hk
  have hk2 : (bs L).1.1 k = (14, n) := by rw [bs_sh h6]; exact hk
  refine K_write (k := k) hn (by simp [ptI]) (szL_ptI hn) (by rw [bs_ptI hn]; rfl) h (fun g p l e R s m args below meth c cells slots Z H locs lsA C hK hmn hP kk => ?_)
  rw [List.map_cons, List.map_cons, List.map_cons, show jtr g (.ref k) = .ref (g.1 + k) from congrArg Value.ref (if_pos h6)]
  have h0 := hP.1 k _ (jws_get (show k < (bs L).1.2 from hn))
  rw [jent_arr hk2 (by decide)] at h0
  have h1 : H[g.1 + k]? = some (arrV (g.2.2.1 14) n (fun j => .int ((bs L).2.1 k j))) := h0
  refine W.iast C.1 C.2.1 h1 ((hK.2 1 _ rfl).1 n (fun j => .int ((bs L).2.1 k j))) (fun q => by cases q) (by rw [arrV_size]; exact inb_vp hin) rfl rfl hdg (fun H1 e1 z o1 => kk H1 _ rfl z o1 ?_)
  rw [bs_ptI hn]
  refine jR_set hP rfl (fun i hi => jwI_ent hi) z o1 ?_
  rw [jent_arr (S := jwI (bs L) k i.toNatClampNeg x) hk2 (by decide)]
  show H1[g.1 + k]? = some (vp_cell _ _)
  rw [e1]
  show some ((arrV _ _ _).setSlot _ _) = some (vp_cell _ (n, .inl (jup (bs L).2.1 k i.toNatClampNeg x k)))
  rw [jup_updI, vp_cell_i, arrV_store]
  congr 2
  funext q
  by_cases hq : q = i.toNatClampNeg
  · subst hq
    simp [updV, upd]
  · simp [updV, upd, hq]
end
