/-! THE START: what the Statement gives of it, as the walk's own words -/
def stm (i : Nat) : Term := match i with
  | 0 => .string "GridRoom$Tape" 82
  | 1 => .string "GridRoom$Tape" 88
  | 2 => .string "GridRoom$Tape" 90
  | 3 => .string "GridRoom$Tape" 92
  | 4 => .string "GridRoom$Tape" 140
  | 5 => .string "GridRoom$Tape" 120
  | 6 => .string "GridRoom$Tape" 125
  | 7 => .string "GridRoom$Tape" 112
  | 8 => .string "GridRoom$Tape" 118
  | 9 => .string "GridRoom" 394
  | 10 => .string "GridRoom" 214
  | _ => .string "GridRoom" 222
def stF : List Cond := flatC (Cond.and given_1 narrow_1)
theorem st_len : ∀ i : Nat, i < 12 → jslen.getD i 0 < 2 ^ 31 := by decide
theorem st_ex : ∀ i : Nat, i < 12 → Cond.exactly (stm i) "java/lang/String" ∈ stF := by decide +kernel
theorem st_co : ∀ i : Nat, i < 12 → Cond.eq (.field (stm i) "java/lang/String" "coder" "B") (.int 0) ∈ stF := by decide +kernel
theorem st_ar : ∀ i : Nat, i < 12 → Cond.arrayOf (.field (stm i) "java/lang/String" "value" "[B") .byte ∈ stF := by decide +kernel
theorem st_le : ∀ i : Nat, i < 12 → Cond.eq (.length (.field (stm i) "java/lang/String" "value" "[B")) (.int (Int32.ofNat (jslen.getD i 0))) ∈ stF := by decide +kernel
theorem st_el : ∀ i : Nat, i < 12 → ∀ j : Nat, j < jslen.getD i 0 → Cond.eq (.elem (.field (stm i) "java/lang/String" "value" "[B") (.int (Int32.ofNat j))) (.int ((jsbyt.getD i []).getD j 0)) ∈ stF := by decide +kernel
theorem st_nq : ∀ j : Nat, j < 12 → ∀ i : Nat, i < j → stF[([0, 106, 116, 126, 135, 148, 161, 177, 193, 210, 235, 262] : List Nat).getD j 0 + i]? = some (Cond.not (Cond.eq (stm i) (stm j))) := by decide +kernel
theorem st_ne (i : Nat) (hi : i < 12) (j : Nat) (hj : j < 12) (h : i ≠ j) : Cond.not (Cond.eq (stm i) (stm j)) ∈ stF ∨ Cond.not (Cond.eq (stm j) (stm i)) ∈ stF := by
  rcases Nat.lt_or_ge i j with z | z
  · exact Or.inl (List.mem_of_getElem? (st_nq j hj i z))
  · exact Or.inr (List.mem_of_getElem? (st_nq i hi j (by omega)))
theorem st_rf : ∀ q ∈ jsrefs, q.2.2.2 < 12 ∧ Cond.stringRef q.1 q.2.1 q.2.2.1 ∈ lw_tbl ∧ (stm q.2.2.2 = .string q.1 q.2.1 ∨ Cond.eq (stm q.2.2.2) (.string q.1 q.2.1) ∈ stF) := by decide +kernel
theorem st_ns : ∀ q ∈ jnst, Cond.methodLinkNest q.1 q.2.1 q.2.2.1 q.2.2.2 ∈ lw_tbl := by decide +kernel
theorem st_ao : ∀ C ∈ [RX6, RX7, RX9, RX10], Cond.arrayOver (.object C) ∈ lw_tbl := by decide +kernel
theorem st_aa : ∀ ty ∈ [FieldType.int, FieldType.long], Cond.arrayOver (.array ty) ∈ lw_tbl := by decide +kernel
theorem st_ac : ∀ ty ∈ [FieldType.int, FieldType.long, FieldType.byte, FieldType.boolean], Cond.arrayClass ty ∈ lw_tbl := by decide +kernel
theorem st_zq : ∀ q ∈ jzqs, Cond.laysStatic q.1 q.2.1 q.2.2 ∈ lw_tbl ∧ Cond.initialized q.1 ∈ lw_tbl ∧ Cond.isRef (.static q.1 q.2.1 q.2.2) ∈ stF := by decide +kernel
theorem st_cs : Cond.laysStatic "java/lang/String" "COMPACT_STRINGS" "Z" ∈ lw_tbl ∧ Cond.initialized "java/lang/String" ∈ lw_tbl ∧ Cond.eq (.static "java/lang/String" "COMPACT_STRINGS" "Z") (.int 1) ∈ stF := by decide +kernel
theorem st_is : ∀ i : Nat, i < 13 → ∀ q ∈ vwCl[i]?, Cond.instantiable q.1 q.2.2 ∈ lw_tbl := by decide +kernel
theorem st_wl : ∀ w ∈ nsD ++ [Cond.castable nsN nsN], w ∈ lw_tbl := by decide +kernel
theorem st_jgt : ∀ w ∈ jgt, w ∈ lw_tbl := fun w hw => (List.mem_filter.mp hw).1
theorem st_cl : ∀ (c : Nat) (q : vw_C), vwCl[c]? = some q → c < 13 ∧ ∀ w ∈ u_ws q.1 q.2.1 q.2.2, w ∈ jgt := by
  intro c q h
  match c, h with
  | 0, h => cases h; exact ⟨by decide, cl_0.2.2.2.1⟩
  | 1, h => cases h; exact ⟨by decide, cl_1.2.2.2.1⟩
  | 2, h => cases h; exact ⟨by decide, cl_2.2.2.2.1⟩
  | 3, h => cases h; exact ⟨by decide, cl_3.2.2.2.1⟩
  | 4, h => cases h; exact ⟨by decide, cl_4.2.2.2.1⟩
  | 5, h => cases h; exact ⟨by decide, cl_5.2.2.2.1⟩
  | 6, h => cases h; exact ⟨by decide, cl_6.2.2.2.1⟩
  | 7, h => cases h; exact ⟨by decide, cl_7.2.2.2.1⟩
  | 8, h => cases h; exact ⟨by decide, cl_8.2.2.2.1⟩
  | 9, h => cases h; exact ⟨by decide, cl_9.2.2.2.1⟩
  | 10, h => cases h; exact ⟨by decide, cl_10.2.2.2.1⟩
  | 11, h => cases h; exact ⟨by decide, cl_11.2.2.2.1⟩
  | 12, h => cases h; exact ⟨by decide, cl_12.2.2.2.1⟩
  | (n + 13), h => cases h
section STA
variable {s : State} {args : Array Value}
theorem st_known (hts : ∀ w ∈ lw_tbl, w.before args s = true) : ∃ D : va_G, ∀ (c : Nat) (q : vw_C), vwCl[c]? = some q → u_Kn s q.1 q.2.1 q.2.2 (D.1 c) (D.2 c) := by
  have h0 : ∀ c : Nat, ∃ x : ClassId × (Nat → Nat), ∀ q : vw_C, vwCl[c]? = some q → u_Kn s q.1 q.2.1 q.2.2 x.1 x.2 := by
    intro c
    cases hq : vwCl[c]? with
    | none => exact ⟨(0, fun _ => 0), fun q h => by cases h⟩
    | some q =>
      obtain ⟨hc, hw⟩ := st_cl c q hq
      obtain ⟨cC, iS, h⟩ := u_known (ws := lw_tbl) hts (fun w h => st_jgt w (hw w h)) (hts _ (st_is c hc q (by rw [hq]; rfl)))
      exact ⟨(cC, iS), fun q' e => by cases e; exact h⟩
  obtain ⟨F, hF⟩ := Classical.axiomOfChoice h0
  exact ⟨(fun c => (F c).1, fun c => (F c).2), fun c q h => hF c q h⟩
theorem st_arrOf {cA comp : ClassId} {k : Class} {ty : FieldType} (hk : s.vm.classes[cA]? = some k) (h : k.kind = .array comp ty) : ArrOfT s cA ty := fun n z => ⟨(fun q e => by cases e), k, hk, comp, h⟩
theorem st_arrP (hts : ∀ w ∈ lw_tbl, w.before args s = true) {ty : FieldType} (h : ty ∈ [FieldType.int, FieldType.long, FieldType.byte, FieldType.boolean]) : ∃ cA : ClassId, ArrOfT s cA ty ∧ s.vm.findClass ("[" ++ ty.toString) = some cA := by
  obtain ⟨c, k, comp, h1, h2, h3⟩ := Cond.arrayClass_spec (hts _ (st_ac ty h))
  exact ⟨c, st_arrOf h2 h3, h1⟩
theorem st_arrO (hts : ∀ w ∈ lw_tbl, w.before args s = true) {C : String} (h : C ∈ [RX6, RX7, RX9, RX10]) : ∃ cA : ClassId, ArrOfT s cA (.object C) ∧ va_RA s cA (.object C) := by
  obtain ⟨comp, c, k, h1, h2, h3, h4, h5⟩ := Cond.arrayOver_spec (hts _ (st_ao C h))
  exact ⟨c, st_arrOf h3 h4, k, comp, h3, h4, h1, h5⟩
theorem st_arrA (hts : ∀ w ∈ lw_tbl, w.before args s = true) {ty : FieldType} (h : ty ∈ [FieldType.int, FieldType.long]) : ∃ cA : ClassId, ArrOfT s cA (.array ty) ∧ s.vm.findClass ("[" ++ (FieldType.array ty).toString) = some cA := by
  obtain ⟨comp, c, k, h1, h2, h3, h4, h5⟩ := arrayOverA_spec (hts _ (st_aa ty h))
  exact ⟨c, st_arrOf h3 h4, h5⟩
theorem st_arrs (hts : ∀ w ∈ lw_tbl, w.before args s = true) : ∃ cy : Nat → ClassId, ∀ (g : jG), g.2.2.1 = cy → ∀ (k : Nat) (q : ClassId × FieldType), (jtys g)[k]? = some q → ArrOfT s q.1 q.2 ∧ va_RA s q.1 q.2 := by
  obtain ⟨c13, a13⟩ := st_arrP hts (ty := .byte) (by decide)
  obtain ⟨c14, a14⟩ := st_arrP hts (ty := .int) (by decide)
  obtain ⟨c15, a15⟩ := st_arrP hts (ty := .long) (by decide)
  obtain ⟨c16, a16⟩ := st_arrP hts (ty := .boolean) (by decide)
  obtain ⟨c17, a17⟩ := st_arrO hts (C := RX6) (by decide)
  obtain ⟨c18, a18⟩ := st_arrO hts (C := RX7) (by decide)
  obtain ⟨c19, a19⟩ := st_arrO hts (C := RX9) (by decide)
  obtain ⟨c20, a20⟩ := st_arrO hts (C := RX10) (by decide)
  obtain ⟨c21, a21⟩ := st_arrA hts (ty := .int) (by decide)
  obtain ⟨c22, a22⟩ := st_arrA hts (ty := .long) (by decide)
  refine ⟨fun k => [c13, c14, c15, c16, c17, c18, c19, c20, c21, c22].getD (k - 13) 0, fun g hg k q hk => ?_⟩
  unfold jtys at hk
  rw [hg] at hk
  match k, hk with
  | 0, hk => cases hk; exact a13
  | 1, hk => cases hk; exact a14
  | 2, hk => cases hk; exact a15
  | 3, hk => cases hk; exact a16
  | 4, hk => cases hk; exact a17
  | 5, hk => cases hk; exact a18
  | 6, hk => cases hk; exact a19
  | 7, hk => cases hk; exact a20
  | 8, hk => cases hk; exact a21
  | 9, hk => cases hk; exact a22
  | (n + 10), hk => cases hk
end STA
