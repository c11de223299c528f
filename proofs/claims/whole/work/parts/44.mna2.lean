def mnL (L : List C0) (kd ik N K : Nat) : List C0 := L ++ (((kd, N), [], (List.range N).map (fun i => some (L.length + 1 + i))) :: List.replicate N ((ik, K), [], []))
def mkOk (ty : FieldType) (kd ik : Nat) : Prop := (∀ g : jG, ∃ (t0 t1 : Nat), (jtys g)[t0]? = some (g.2.2.1 kd, .array ty) ∧ (jtys g)[t1]? = some (g.2.2.1 ik, ty)) ∧ 17 ≤ kd ∧ 13 ≤ ik ∧ ik < 17 ∧ defaultValue ty = (if ik = 15 then .long 0 else .int 0) ∧ (ty = .int ∨ ty = .long)
theorem mk_int : mkOk .int 21 14 := ⟨fun g => ⟨8, 1, rfl, rfl⟩, by decide, by decide, by decide, by decide, Or.inl rfl⟩
theorem mk_long : mkOk .long 22 15 := ⟨fun g => ⟨9, 2, rfl, rfl⟩, by decide, by decide, by decide, by decide, Or.inr rfl⟩
theorem mnL_len (L : List C0) (kd ik N K : Nat) : (mnL L kd ik N K).length = L.length + 1 + N := by
  unfold mnL
  simp
  omega
theorem mnL_sz (L : List C0) {kd ik : Nat} (N K : Nat) (h1 : 13 ≤ kd) (h2 : 13 ≤ ik) : szL (mnL L kd ik N K) = szL L + N + N * K := by
  unfold mnL
  rw [szL_app]
  have e1 : szL (((kd, N), [], (List.range N).map (fun i => some (L.length + 1 + i))) :: List.replicate N ((ik, K), [], [])) = N + szL (List.replicate N ((ik, K), [], [])) := by
    show ((List.map szC _)).sum = _
    rw [List.map_cons, List.sum_cons]
    congr 1
    exact if_neg (show ¬ kd < 13 by omega)
  have e2 : ∀ n : Nat, szL (List.replicate n ((ik, K), [], [])) = n * K := by
    intro n
    induction n with
    | zero => simp [szL]
    | succ n ih =>
      rw [List.replicate_succ]
      show szC ((ik, K), [], []) + szL (List.replicate n ((ik, K), [], [])) = _
      rw [ih, show szC ((ik, K), [], []) = K from if_neg (show ¬ ik < 13 by omega), Nat.succ_mul]
      omega
  rw [e1, e2]
  omega
theorem mnL_at0 (L : List C0) (kd ik N K : Nat) : (mnL L kd ik N K).getD L.length dC = ((kd, N), [], (List.range N).map (fun i => some (L.length + 1 + i))) := by
  unfold mnL
  rw [List.getD_eq_getElem?_getD, List.getElem?_append_right (Nat.le_refl _), Nat.sub_self]
  rfl
theorem mnL_at1 (L : List C0) (kd ik N K : Nat) {j : Nat} (hj : j < N) : (mnL L kd ik N K).getD (L.length + 1 + j) dC = ((ik, K), [], []) := by
  unfold mnL
  rw [List.getD_eq_getElem?_getD, List.getElem?_append_right (by omega), show L.length + 1 + j - L.length = j + 1 by omega, List.getElem?_cons_succ, List.getElem?_replicate, if_pos hj]
  rfl
set_option maxHeartbeats 2000000 in
theorem K_mna {b : jMI} {d : Nat} {Q : Option Value → jPS → Prop} {pc : Nat} {ls : List (Nat × Value)} {st : List Value} {L M : List C0} {idx kd ik N K : Nat} {ty : FieldType} {n k : Int32} (hm : Cond.classLink b.1 idx ("[" ++ (FieldType.array ty).toString) ∈ jgt ∧ ty ∈ [FieldType.int, FieldType.long] ∧ Cond.arrayClass ty ∈ jgt) (hdg : decode b.2.2.1 pc = .ok (.multianewarray idx 2, 4)) (hk : mkOk ty kd ik)
    (hn : ¬ n < 0 ∧ n.toNatClampNeg = N) (hk2 : ¬ k < 0 ∧ k.toNatClampNeg = K) (hb : N * 4 ≤ 536870912 ∧ K * componentBytes ty ≤ 536870912 ∧ K ≤ 536870912) (h6 : L.length + (N + 1) ≤ 1000000)
    (h : JA b d Q (pc + 4) ls (.ref L.length :: st) (mnL L kd ik N K) M) : JA b d Q pc ls (.int k :: .int n :: st) L M := by
  obtain ⟨hn0, hnN⟩ := hn
  obtain ⟨hk0, hkK⟩ := hk2
  obtain ⟨m1, m2, m3⟩ := hm
  obtain ⟨hty, q1, q2, q3, q4, q5⟩ := hk
  obtain ⟨h1, h2, h3⟩ := h
  have hl := mnL_len L kd ik N K
  have hs := mnL_sz L (kd := kd) (ik := ik) N K (by omega) q2
  rw [hl] at h1 h3
  rw [hs] at h2 h3
  refine ⟨by omega, by omega, fun hM => ?_⟩
  intro g p l e R s m args below meth c cells slots Z C Rt H locs lsA hv hP hS
  have KK := h3 hM g p l e R s m args below meth c (cells + (1 + N)) (slots + (N + N * K)) Z ⟨C.1, C.2.1, C.2.2.1, ⟨by have := C.2.2.2.1.1; omega, by have := C.2.2.2.1.2; omega⟩, C.2.2.2.2⟩ (by
    rw [show cells + (1 + N) + (M.length - (L.length + 1 + N)) = cells + (M.length - L.length) by omega, show slots + (N + N * K) + (szL M - (szL L + N + N * K)) = slots + (szL M - szL L) by omega]
    exact Rt)
  intro T hT X
  obtain ⟨t0, t1, ht0, ht1⟩ := hty g
  have hdf : fits ty (defaultValue ty) = true := by rcases q5 with rfl | rfl <;> rfl
  obtain ⟨vm₁, cA, comp, ⟨fA, fC⟩, X', step⟩ := mf_step X C.1.1 C.1.2.2.2.1 (C.1.2.2.2.2 _ m1) (C.2.1.2.2.2.2.2.2.1 ty m2) (C.1.2.2.2.2 _ m3) (pc := pc) (ls := lsA) (rest := st.map (jtr g)) (by rw [C.1.2.1]; exact hdg) ⟨hn0, hnN⟩ ⟨hk0, hkK⟩ hb hdf (by have := C.2.2.2.1.1; omega) (by have := C.2.2.2.1.2; omega)
  have hcA : cA = g.2.2.1 kd := Option.some.inj (fA.symm.trans (C.2.1.1.2 t0 _ ht0).2)
  have hcomp : comp = g.2.2.1 ik := by
    have h9 := (C.2.1.1.2 t1 _ ht1).2
    rcases q5 with rfl | rfl
    · exact Option.some.inj (fC.symm.trans h9)
    · exact Option.some.inj (fC.symm.trans h9)
  subst hcA
  subst hcomp
  have hTh : (T.setVm vm₁).heap = H := hT
  have hHs := hP.2.2 (bs_mark L)
  obtain ⟨f1, f2⟩ := mfill_facts (T.setVm vm₁) (g.2.2.1 kd) (g.2.2.1 ik) N K (defaultValue ty) N
  have fold := fun (a : Addr) (ha : a < H.size) => mfill_old (T.setVm vm₁) (g.2.2.1 kd) (g.2.2.1 ik) N K (defaultValue ty) (a := a) (by rw [hTh]; exact ha) N
  have frow := mfill_row (T.setVm vm₁) (g.2.2.1 kd) (g.2.2.1 ik) N K (defaultValue ty) N
  rw [hTh] at f1 f2
  simp only [hTh] at fold frow
  generalize hF : mfill (T.setVm vm₁) (g.2.2.1 kd) (g.2.2.1 ik) N K (defaultValue ty) N = F at X' step f1 f2 fold frow
  have hR : jR g (bs (mnL L kd ik N K)) F.heap := by
    refine ⟨fun i q hq => ?_, by show (mnL L kd ik N K).length ≤ 1000000; omega, fun _ => by rw [f1, hHs]; show g.1 + L.length + 1 + N = g.1 + (mnL L kd ik N K).length; omega⟩
    obtain ⟨rfl, hi⟩ := jws_inv hq
    have hi : i < L.length + 1 + N := by rw [← hl]; exact hi
    by_cases c1 : i < L.length
    · have e1 : jent g (bs (mnL L kd ik N K)) i = jent g (bs L) i := bs_app_ent c1 (by omega)
      rw [e1]
      exact (hP.1 i _ (jws_get (show i < (bs L).1.2 from c1))).kept (fold _ (by show g.1 + i < H.size; rw [hHs]; exact Nat.add_lt_add_left c1 _))
    · by_cases c2 : i = L.length
      · subst c2
        rw [jent_arr (S := bs (mnL L kd ik N K)) (kd := kd) (n := N) (by rw [bs_sh (by omega), mnL_at0]) (by omega)]
        show F.heap[g.1 + L.length]? = some (vp_cell _ _)
        rw [show g.1 + L.length = H.size from hHs.symm, f2]
        unfold jar
        rw [if_neg (by omega), if_neg (by omega), vp_cell_q]
        refine congrArg some (congrArg (arrV _ N) (funext fun j => congrArg va_rf ?_))
        show _ = Option.map (jad g) (((mnL L kd ik N K).getD L.length dC).2.2.getD j none)
        rw [mnL_at0]
        show _ = Option.map (jad g) (((List.range N).map (fun i => some (L.length + 1 + i))).getD j none)
        rw [List.getD_eq_getElem?_getD, List.getElem?_map]
        by_cases hj : j < N
        · rw [if_pos hj, List.getElem?_range hj]
          show some (H.size + 1 + j) = some (jad g (L.length + 1 + j))
          rw [show jad g (L.length + 1 + j) = g.1 + (L.length + 1 + j) from if_pos (by omega), hHs]
          congr 1
          show g.1 + L.length + 1 + j = g.1 + (L.length + 1 + j)
          omega
        · rw [if_neg hj, List.getElem?_eq_none (by simpa using hj)]
          rfl
      · obtain ⟨j, rfl⟩ : ∃ j, i = L.length + 1 + j := ⟨i - (L.length + 1), by omega⟩
        have hj : j < N := by omega
        rw [jent_arr (S := bs (mnL L kd ik N K)) (kd := ik) (n := K) (by rw [bs_sh (by omega), mnL_at1 L kd ik N K hj]) (by omega)]
        show F.heap[g.1 + (L.length + 1 + j)]? = some (vp_cell _ _)
        rw [show g.1 + (L.length + 1 + j) = H.size + 1 + j by rw [hHs]; show g.1 + (L.length + 1 + j) = g.1 + L.length + 1 + j; omega, frow j hj]
        unfold mfI
        rw [arrV_new, q4]
        refine congrArg some ?_
        unfold jar
        by_cases h15 : ik = 15
        · rw [if_pos h15, if_pos h15]
          rfl
        · rw [if_neg h15, if_neg h15, if_pos q3, vp_cell_i]
          refine congrArg (arrV _ K) (funext fun y => congrArg Value.int ?_)
          show (0 : Int32) = (((mnL L kd ik N K).getD (L.length + 1 + j) dC).2.1.getD y 0)
          rw [mnL_at1 L kd ik N K hj]
          rfl
  have w := KK F.heap locs lsA hv hR ⟨Nat.le_trans hS.1 (by rw [f1]; omega), fun x h1 h2 => (fold x (Nat.lt_of_lt_of_le h1 hS.1)).trans (hS.2.1 x h1 h2), hS.2.2⟩
  obtain ⟨t, a1, b1⟩ := w F rfl X'
  refine ⟨t, step t ?_, b1⟩
  rw [List.map_cons, show jtr g (.ref L.length) = .ref H.size from congrArg Value.ref (jad_len hP (by omega))] at a1
  rw [hT]
  exact a1
