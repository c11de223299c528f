theorem dX12_vowelOf_0 : decode cX12_vowelOf 0 = .ok (.iload_n 0, 1) := by decide +kernel
theorem dX12_vowelOf_1 : decode cX12_vowelOf 1 = .ok (.lookupswitch 61 #[(97, 51), (101, 53), (105, 55), (111, 57), (117, 59)], 51) := by decide +kernel
theorem dX12_vowelOf_52 : decode cX12_vowelOf 52 = .ok (.iconst 0, 1) := by decide +kernel
theorem dX12_vowelOf_53 : decode cX12_vowelOf 53 = .ok (.ireturn, 1) := by decide +kernel
theorem dX12_vowelOf_54 : decode cX12_vowelOf 54 = .ok (.iconst 1, 1) := by decide +kernel
theorem dX12_vowelOf_55 : decode cX12_vowelOf 55 = .ok (.ireturn, 1) := by decide +kernel
theorem dX12_vowelOf_56 : decode cX12_vowelOf 56 = .ok (.iconst 2, 1) := by decide +kernel
theorem dX12_vowelOf_57 : decode cX12_vowelOf 57 = .ok (.ireturn, 1) := by decide +kernel
theorem dX12_vowelOf_58 : decode cX12_vowelOf 58 = .ok (.iconst 3, 1) := by decide +kernel
theorem dX12_vowelOf_59 : decode cX12_vowelOf 59 = .ok (.ireturn, 1) := by decide +kernel
theorem dX12_vowelOf_60 : decode cX12_vowelOf 60 = .ok (.iconst 4, 1) := by decide +kernel
theorem dX12_vowelOf_61 : decode cX12_vowelOf 61 = .ok (.ireturn, 1) := by decide +kernel
theorem dX12_vowelOf_62 : decode cX12_vowelOf 62 = .ok (.iconst (-1), 1) := by decide +kernel
theorem dX12_vowelOf_63 : decode cX12_vowelOf 63 = .ok (.ireturn, 1) := by decide +kernel
noncomputable def f_X12_vowelOf (a0 : Int32) (σ : jM) : Option (Int32 × jM) :=
  (if a0 = 97 then some (0, σ) else (if a0 = 101 then some (1, σ) else (if a0 = 105 then some (2, σ) else (if a0 = 111 then some (3, σ) else (if a0 = 117 then some (4, σ) else some ((-1), σ))))))
set_option maxRecDepth 20000 in
set_option maxHeartbeats 4000000 in
theorem t_X12_vowelOf {a0 : Int32} {σ : jM} {r : Int32 × jM}  (h : f_X12_vowelOf a0 σ = some r) : J mi_X12_vowelOf 1 0 0 (jqI r) 0 [(0, .int a0)] [] (ms σ) := by
  unfold f_X12_vowelOf at h
  refine J_iload_n 0 dX12_vowelOf_0 rfl ?_
  by_cases c2 : a0 = 97
  · have h := (if_pos c2).symm.trans h
    refine J_lookup (off := 51) (tgt := 52) dX12_vowelOf_1 (by decide) (by rw [c2]; decide) (by decide) ?_
    refine J_iconst (v := 0) dX12_vowelOf_52 (by decide) ?_
    exact J_ret (v := some (.int 0)) rfl ⟨dX12_vowelOf_53, Or.inl rfl⟩ (jqI_mk h)
  · have h := (if_neg c2).symm.trans h
    by_cases c3 : a0 = 101
    · have h := (if_pos c3).symm.trans h
      refine J_lookup (off := 53) (tgt := 54) dX12_vowelOf_1 (by decide) (by rw [c3]; decide) (by decide) ?_
      refine J_iconst (v := 1) dX12_vowelOf_54 (by decide) ?_
      exact J_ret (v := some (.int 1)) rfl ⟨dX12_vowelOf_55, Or.inl rfl⟩ (jqI_mk h)
    · have h := (if_neg c3).symm.trans h
      by_cases c4 : a0 = 105
      · have h := (if_pos c4).symm.trans h
        refine J_lookup (off := 55) (tgt := 56) dX12_vowelOf_1 (by decide) (by rw [c4]; decide) (by decide) ?_
        refine J_iconst (v := 2) dX12_vowelOf_56 (by decide) ?_
        exact J_ret (v := some (.int 2)) rfl ⟨dX12_vowelOf_57, Or.inl rfl⟩ (jqI_mk h)
      · have h := (if_neg c4).symm.trans h
        by_cases c5 : a0 = 111
        · have h := (if_pos c5).symm.trans h
          refine J_lookup (off := 57) (tgt := 58) dX12_vowelOf_1 (by decide) (by rw [c5]; decide) (by decide) ?_
          refine J_iconst (v := 3) dX12_vowelOf_58 (by decide) ?_
          exact J_ret (v := some (.int 3)) rfl ⟨dX12_vowelOf_59, Or.inl rfl⟩ (jqI_mk h)
        · have h := (if_neg c5).symm.trans h
          by_cases c6 : a0 = 117
          · have h := (if_pos c6).symm.trans h
            refine J_lookup (off := 59) (tgt := 60) dX12_vowelOf_1 (by decide) (by rw [c6]; decide) (by decide) ?_
            refine J_iconst (v := 4) dX12_vowelOf_60 (by decide) ?_
            exact J_ret (v := some (.int 4)) rfl ⟨dX12_vowelOf_61, Or.inl rfl⟩ (jqI_mk h)
          · have h := (if_neg c6).symm.trans h
            refine J_lookup (tgt := 62) dX12_vowelOf_1 (by decide) (lk_out (l := [(97, 51), (101, 53), (105, 55), (111, 57), (117, 59)]) (fun q hq => ?_)) (by decide) ?_
            · simp only [List.mem_cons, List.not_mem_nil, or_false] at hq
              rcases hq with rfl | rfl | rfl | rfl | rfl
              · exact fun e => c2 (Int32.toInt_inj.mp (e.symm.trans (by decide)))
              · exact fun e => c3 (Int32.toInt_inj.mp (e.symm.trans (by decide)))
              · exact fun e => c4 (Int32.toInt_inj.mp (e.symm.trans (by decide)))
              · exact fun e => c5 (Int32.toInt_inj.mp (e.symm.trans (by decide)))
              · exact fun e => c6 (Int32.toInt_inj.mp (e.symm.trans (by decide)))
            · refine J_iconst (v := (-1)) dX12_vowelOf_62 (by decide) ?_
              exact J_ret (v := some (.int (-1))) rfl ⟨dX12_vowelOf_63, Or.inl rfl⟩ (jqI_mk h)
theorem dX12_isVowel_0 : decode cX12_isVowel 0 = .ok (.iload_n 0, 1) := by decide +kernel
theorem dX12_isVowel_1 : decode cX12_isVowel 1 = .ok (.invokestatic 410, 3) := by decide +kernel
theorem dX12_isVowel_4 : decode cX12_isVowel 4 = .ok (.iconst (-1), 1) := by decide +kernel
theorem dX12_isVowel_5 : decode cX12_isVowel 5 = .ok (.if_icmp .eq 7, 3) := by decide +kernel
theorem dX12_isVowel_8 : decode cX12_isVowel 8 = .ok (.iconst 1, 1) := by decide +kernel
theorem dX12_isVowel_9 : decode cX12_isVowel 9 = .ok (.goto 4, 3) := by decide +kernel
theorem dX12_isVowel_12 : decode cX12_isVowel 12 = .ok (.iconst 0, 1) := by decide +kernel
theorem dX12_isVowel_13 : decode cX12_isVowel 13 = .ok (.ireturn, 1) := by decide +kernel
noncomputable def f_X12_isVowel_13  (s0 : Int32) (σ : jM) : Option (Int32 × jM) :=
  gd (s0 = 0 ∨ s0 = 1) (some (s0, σ))
noncomputable def f_X12_isVowel (a0 : Int32) (σ : jM) : Option (Int32 × jM) :=
  bd (f_X12_vowelOf a0 σ) (fun r3 σ4 => (if r3 = (-1) then f_X12_isVowel_13  0 σ4 else f_X12_isVowel_13  1 σ4))
set_option maxRecDepth 20000 in
set_option maxHeartbeats 4000000 in
theorem t_X12_isVowel_13  (s0 : Int32) (σ : jM) (r : Int32 × jM)  (h : f_X12_isVowel_13  s0 σ = some r) : J mi_X12_isVowel 2 0 0 (jqI r) 13 [] [.int s0] (ms σ) := by
  unfold f_X12_isVowel_13 at h
  obtain ⟨g2, h⟩ := gd_inv h
  exact J_ret (v := some (.int s0)) rfl ⟨dX12_isVowel_13, Or.inr (Or.inl ⟨rfl, g2⟩)⟩ (jqI_mk h)
set_option maxRecDepth 20000 in
set_option maxHeartbeats 4000000 in
theorem t_X12_isVowel {a0 : Int32} {σ : jM} {r : Int32 × jM}  (h : f_X12_isVowel a0 σ = some r) : J mi_X12_isVowel 2 0 0 (jqI r) 0 [(0, .int a0)] [] (ms σ) := by
  unfold f_X12_isVowel at h
  refine J_iload_n 0 dX12_isVowel_0 rfl ?_
  obtain ⟨r3, σ4, h5, h⟩ := bd_inv h
  refine M_callSI (d' := 1) (As := [.int a0]) (st := []) cs_X12_410 dX12_isVowel_1 rfl (Nat.le_of_ble_eq_true rfl) (Nat.le_of_ble_eq_true rfl) (by decide) rfl rfl (t_X12_vowelOf  h5) ?_
  refine J_iconst (v := (-1)) dX12_isVowel_4 (by decide) ?_
  refine J_icmp_eq (tgt := 12) dX12_isVowel_5 (by decide) (fun c6 => ?_) (fun c6 => ?_)
  · have h := (if_pos c6).symm.trans h
    refine J_iconst (v := 0) dX12_isVowel_12 (by decide) ?_
    refine J_pick [] rfl ?_
    exact t_X12_isVowel_13  _ _ _  h
  · have h := (if_neg c6).symm.trans h
    refine J_iconst (v := 1) dX12_isVowel_8 (by decide) ?_
    refine J_goto (tgt := 13) dX12_isVowel_9 (by decide) ?_
    refine J_pick [] rfl ?_
    exact t_X12_isVowel_13  _ _ _  h
theorem dX12_has_0 : decode cX12_has 0 = .ok (.lload_n 0, 1) := by decide +kernel
theorem dX12_has_1 : decode cX12_has 1 = .ok (.iload_n 2, 1) := by decide +kernel
theorem dX12_has_2 : decode cX12_has 2 = .ok (.lushr, 1) := by decide +kernel
theorem dX12_has_3 : decode cX12_has 3 = .ok (.lconst 1, 1) := by decide +kernel
theorem dX12_has_4 : decode cX12_has 4 = .ok (.land, 1) := by decide +kernel
theorem dX12_has_5 : decode cX12_has 5 = .ok (.lconst 0, 1) := by decide +kernel
theorem dX12_has_6 : decode cX12_has 6 = .ok (.lcmp, 1) := by decide +kernel
theorem dX12_has_7 : decode cX12_has 7 = .ok (.ifCond .eq 7, 3) := by decide +kernel
theorem dX12_has_10 : decode cX12_has 10 = .ok (.iconst 1, 1) := by decide +kernel
theorem dX12_has_11 : decode cX12_has 11 = .ok (.goto 4, 3) := by decide +kernel
theorem dX12_has_14 : decode cX12_has 14 = .ok (.iconst 0, 1) := by decide +kernel
theorem dX12_has_15 : decode cX12_has 15 = .ok (.ireturn, 1) := by decide +kernel
noncomputable def f_X12_has_15  (s0 : Int32) (σ : jM) : Option (Int32 × jM) :=
  gd (s0 = 0 ∨ s0 = 1) (some (s0, σ))
noncomputable def f_X12_has (a0 : Int64) (a2 : Int32) (σ : jM) : Option (Int32 × jM) :=
  (if (lg_cmp ((jlushr a0 a2) &&& 1) 0) = 0 then f_X12_has_15  0 σ else f_X12_has_15  1 σ)
set_option maxRecDepth 20000 in
set_option maxHeartbeats 4000000 in
theorem t_X12_has_15  (s0 : Int32) (σ : jM) (r : Int32 × jM)  (h : f_X12_has_15  s0 σ = some r) : J mi_X12_has 1 0 0 (jqI r) 15 [] [.int s0] (ms σ) := by
  unfold f_X12_has_15 at h
  obtain ⟨g2, h⟩ := gd_inv h
  exact J_ret (v := some (.int s0)) rfl ⟨dX12_has_15, Or.inr (Or.inl ⟨rfl, g2⟩)⟩ (jqI_mk h)
set_option maxRecDepth 20000 in
set_option maxHeartbeats 4000000 in
theorem t_X12_has {a0 : Int64} {a2 : Int32} {σ : jM} {r : Int32 × jM}  (h : f_X12_has a0 a2 σ = some r) : J mi_X12_has 1 0 0 (jqI r) 0 [(0, .long a0), (2, .int a2)] [] (ms σ) := by
  unfold f_X12_has at h
  refine J_lload_n 0 dX12_has_0 rfl ?_
  refine J_iload_n 1 dX12_has_1 rfl ?_
  refine J_lushr dX12_has_2 ?_
  refine J_lconst (v := 1) dX12_has_3 (by decide) ?_
  refine J_land dX12_has_4 ?_
  refine J_lconst (v := 0) dX12_has_5 (by decide) ?_
  refine J_lcmp dX12_has_6 ?_
  refine J_if_eq (tgt := 14) dX12_has_7 (by decide) (fun c3 => ?_) (fun c3 => ?_)
  · have h := (if_pos c3).symm.trans h
    refine J_iconst (v := 0) dX12_has_14 (by decide) ?_
    refine J_pick [] rfl ?_
    exact t_X12_has_15  _ _ _  h
  · have h := (if_neg c3).symm.trans h
    refine J_iconst (v := 1) dX12_has_10 (by decide) ?_
    refine J_goto (tgt := 15) dX12_has_11 (by decide) ?_
    refine J_pick [] rfl ?_
    exact t_X12_has_15  _ _ _  h
theorem dX12_join_0 : decode cX12_join 0 = .ok (.aload_n 0, 1) := by decide +kernel
theorem dX12_join_1 : decode cX12_join 1 = .ok (.iload_n 1, 1) := by decide +kernel
theorem dX12_join_2 : decode cX12_join 2 = .ok (.dup2, 1) := by decide +kernel
theorem dX12_join_3 : decode cX12_join 3 = .ok (.laload, 1) := by decide +kernel
theorem dX12_join_4 : decode cX12_join 4 = .ok (.lconst 1, 1) := by decide +kernel
theorem dX12_join_5 : decode cX12_join 5 = .ok (.iload_n 2, 1) := by decide +kernel
theorem dX12_join_6 : decode cX12_join 6 = .ok (.lshl, 1) := by decide +kernel
theorem dX12_join_7 : decode cX12_join 7 = .ok (.lor, 1) := by decide +kernel
theorem dX12_join_8 : decode cX12_join 8 = .ok (.lastore, 1) := by decide +kernel
theorem dX12_join_9 : decode cX12_join 9 = .ok (.aload_n 0, 1) := by decide +kernel
theorem dX12_join_10 : decode cX12_join 10 = .ok (.iload_n 2, 1) := by decide +kernel
theorem dX12_join_11 : decode cX12_join 11 = .ok (.dup2, 1) := by decide +kernel
theorem dX12_join_12 : decode cX12_join 12 = .ok (.laload, 1) := by decide +kernel
theorem dX12_join_13 : decode cX12_join 13 = .ok (.lconst 1, 1) := by decide +kernel
theorem dX12_join_14 : decode cX12_join 14 = .ok (.iload_n 1, 1) := by decide +kernel
theorem dX12_join_15 : decode cX12_join 15 = .ok (.lshl, 1) := by decide +kernel
theorem dX12_join_16 : decode cX12_join 16 = .ok (.lor, 1) := by decide +kernel
theorem dX12_join_17 : decode cX12_join 17 = .ok (.lastore, 1) := by decide +kernel
theorem dX12_join_18 : decode cX12_join 18 = .ok (.return_, 1) := by decide +kernel
noncomputable def f_X12_join (a0 : Nat) (a1 : Int32) (a2 : Int32) (σ : jM) : Option (Unit × jM) :=
  gd (inb a1 (shf a0).2) (gd (inb a1 (shf a0).2) (gd (inb a2 (shf a0).2) (gd (inb a2 (shf a0).2) (some ((), wL (wL σ a0 (Int32.toNatClampNeg a1) ((rL σ a0 (Int32.toNatClampNeg a1)) ||| (jlshl 1 a2))) a0 (Int32.toNatClampNeg a2) ((rL (wL σ a0 (Int32.toNatClampNeg a1) ((rL σ a0 (Int32.toNatClampNeg a1)) ||| (jlshl 1 a2))) a0 (Int32.toNatClampNeg a2)) ||| (jlshl 1 a1)))))))
set_option maxRecDepth 20000 in
set_option maxHeartbeats 4000000 in
theorem t_X12_join {a0 : Nat} {a1 : Int32} {a2 : Int32} {σ : jM} {r : Unit × jM} (ha0 : (shf a0).1 = 15 ∧ a0 < 376) (h : f_X12_join a0 a1 a2 σ = some r) : J mi_X12_join 1 0 0 (jqV r) 0 [(0, .ref a0), (1, .int a1), (2, .int a2)] [] (ms σ) := by
  unfold f_X12_join at h
  refine J_aload_n 0 dX12_join_0 rfl ?_
  refine J_iload_n 1 dX12_join_1 rfl ?_
  refine J_dup2 dX12_join_2 rfl rfl ?_
  obtain ⟨g5, h⟩ := gd_inv h
  refine M_lald dX12_join_3 (shf_fst ha0.1) ha0.2 g5 ?_
  refine J_lconst (v := 1) dX12_join_4 (by decide) ?_
  refine J_iload_n 2 dX12_join_5 rfl ?_
  refine J_lshl dX12_join_6 ?_
  refine J_lor dX12_join_7 ?_
  obtain ⟨g6, h⟩ := gd_inv h
  refine M_last dX12_join_8 (shf_fst ha0.1) ha0.2 g6 ?_
  refine J_aload_n 0 dX12_join_9 rfl ?_
  refine J_iload_n 2 dX12_join_10 rfl ?_
  refine J_dup2 dX12_join_11 rfl rfl ?_
  obtain ⟨g7, h⟩ := gd_inv h
  refine M_lald dX12_join_12 (shf_fst ha0.1) ha0.2 g7 ?_
  refine J_lconst (v := 1) dX12_join_13 (by decide) ?_
  refine J_iload_n 1 dX12_join_14 rfl ?_
  refine J_lshl dX12_join_15 ?_
  refine J_lor dX12_join_16 ?_
  obtain ⟨g8, h⟩ := gd_inv h
  refine M_last dX12_join_17 (shf_fst ha0.1) ha0.2 g8 ?_
  exact J_ret (v := none) rfl ⟨dX12_join_18, rfl⟩ (jqV_mk h)
theorem dX12_around_0 : decode cX12_around 0 = .ok (.lconst 0, 1) := by decide +kernel
theorem dX12_around_1 : decode cX12_around 1 = .ok (.lstore_n 3, 1) := by decide +kernel
theorem dX12_around_2 : decode cX12_around 2 = .ok (.iconst 0, 1) := by decide +kernel
theorem dX12_around_3 : decode cX12_around 3 = .ok (.istore 5, 2) := by decide +kernel
theorem dX12_around_5 : decode cX12_around 5 = .ok (.iload 5, 2) := by decide +kernel
theorem dX12_around_7 : decode cX12_around 7 = .ok (.bipush 40, 2) := by decide +kernel
theorem dX12_around_9 : decode cX12_around 9 = .ok (.if_icmp .ge 25, 3) := by decide +kernel
theorem dX12_around_12 : decode cX12_around 12 = .ok (.lload_n 1, 1) := by decide +kernel
theorem dX12_around_13 : decode cX12_around 13 = .ok (.iload 5, 2) := by decide +kernel
theorem dX12_around_15 : decode cX12_around 15 = .ok (.invokestatic 417, 3) := by decide +kernel
theorem dX12_around_18 : decode cX12_around 18 = .ok (.ifCond .eq 10, 3) := by decide +kernel
theorem dX12_around_21 : decode cX12_around 21 = .ok (.lload_n 3, 1) := by decide +kernel
theorem dX12_around_22 : decode cX12_around 22 = .ok (.aload_n 0, 1) := by decide +kernel
theorem dX12_around_23 : decode cX12_around 23 = .ok (.iload 5, 2) := by decide +kernel
theorem dX12_around_25 : decode cX12_around 25 = .ok (.laload, 1) := by decide +kernel
theorem dX12_around_26 : decode cX12_around 26 = .ok (.lor, 1) := by decide +kernel
theorem dX12_around_27 : decode cX12_around 27 = .ok (.lstore_n 3, 1) := by decide +kernel
theorem dX12_around_28 : decode cX12_around 28 = .ok (.iinc 5 1, 3) := by decide +kernel
theorem dX12_around_31 : decode cX12_around 31 = .ok (.goto (-26), 3) := by decide +kernel
theorem dX12_around_34 : decode cX12_around 34 = .ok (.lload_n 3, 1) := by decide +kernel
theorem dX12_around_35 : decode cX12_around 35 = .ok (.lreturn, 1) := by decide +kernel
noncomputable def f_X12_around_28 (rec5 : Nat → Int64 → Int64 → Int32 → jM → Option (Int64 × jM)) (l0 : Nat) (l1 : Int64) (l3 : Int64) (l5 : Int32) (σ : jM) : Option (Int64 × jM) :=
  rec5 l0 l1 l3 (l5 + 1) σ
noncomputable def s_X12_around_5  (rec5 : Nat → Int64 → Int64 → Int32 → jM → Option (Int64 × jM)) (l0 : Nat) (l1 : Int64) (l3 : Int64) (l5 : Int32) (σ : jM) : Option (Int64 × jM) :=
  (if 40 ≤ l5 then some (l3, σ) else bd (f_X12_has l1 l5 σ) (fun r4 σ5 => (if r4 = 0 then f_X12_around_28 rec5 l0 l1 l3 l5 σ5 else gd (inb l5 (shf l0).2) (f_X12_around_28 rec5 l0 l1 (l3 ||| (rL σ5 l0 (Int32.toNatClampNeg l5))) l5 σ5))))
noncomputable def f_X12_around_5  (n : Nat) : Nat → Int64 → Int64 → Int32 → jM → Option (Int64 × jM) := Nat.rec (motive := fun _ => Nat → Int64 → Int64 → Int32 → jM → Option (Int64 × jM)) (fun _ _ _ _ _ => none) (fun _ q => s_X12_around_5  q) n
noncomputable def f_X12_around (a0 : Nat) (a1 : Int64) (σ : jM) : Option (Int64 × jM) :=
  f_X12_around_5  Fu a0 a1 0 0 σ
set_option maxRecDepth 20000 in
set_option maxHeartbeats 4000000 in
theorem t_X12_around_28 {rec5 : Nat → Int64 → Int64 → Int32 → jM → Option (Int64 × jM)} (hrec5 : ∀ (l0 : Nat) (l1 : Int64) (l3 : Int64) (l5 : Int32) (σ : jM) (r : Int64 × jM), (shf l0).1 = 15 ∧ l0 < 376 → rec5 l0 l1 l3 l5 σ = some r → J mi_X12_around 2 0 0 (jqL r) 5 [(0, .ref l0), (1, .long l1), (3, .long l3), (5, .int l5)] [] (ms σ)) (l0 : Nat) (l1 : Int64) (l3 : Int64) (l5 : Int32) (σ : jM) (r : Int64 × jM) (hl0 : (shf l0).1 = 15 ∧ l0 < 376) (h : f_X12_around_28 rec5 l0 l1 l3 l5 σ = some r) : J mi_X12_around 2 0 0 (jqL r) 28 [(0, .ref l0), (1, .long l1), (3, .long l3), (5, .int l5)] [] (ms σ) := by
  unfold f_X12_around_28 at h
  refine J_iinc (v := (l5 + 1)) (ls' := [(5, .int (l5 + 1)), (0, .ref l0), (1, .long l1), (3, .long l3)]) 3 dX12_around_28 rfl rfl (by decide) rfl ?_
  refine J_goto (tgt := 5) dX12_around_31 (by decide) ?_
  refine J_pick [1, 2, 3, 0] rfl ?_
  exact hrec5 _ _ _ _ _ _ ⟨congrArg Prod.fst (shf_fst hl0.1), hl0.2⟩ h
set_option maxRecDepth 20000 in
set_option maxHeartbeats 4000000 in
theorem t_X12_around_5  : ∀ (n : Nat) (l0 : Nat) (l1 : Int64) (l3 : Int64) (l5 : Int32) (σ : jM) (r : Int64 × jM), (shf l0).1 = 15 ∧ l0 < 376 → f_X12_around_5  n l0 l1 l3 l5 σ = some r → J mi_X12_around 2 0 0 (jqL r) 5 [(0, .ref l0), (1, .long l1), (3, .long l3), (5, .int l5)] [] (ms σ) := by
  intro n
  induction n with
  | zero =>
    intro l0 l1 l3 l5 σ r hl0 h
    have h : (none : Option (Int64 × jM)) = some r := h
    cases h
  | succ n ih =>
    intro l0 l1 l3 l5 σ r hl0 h
    have h : s_X12_around_5  (f_X12_around_5  n) l0 l1 l3 l5 σ = some r := h
    unfold s_X12_around_5 at h
    refine J_iload 3 dX12_around_5 rfl ?_
    refine J_bipush (v := 40) dX12_around_7 (by decide) ?_
    refine J_icmp_ge (tgt := 34) dX12_around_9 (by decide) (fun c9 => ?_) (fun c9 => ?_)
    · have h := (if_pos c9).symm.trans h
      refine J_lload_n 2 dX12_around_34 rfl ?_
      exact J_ret (v := some (.long l3)) rfl ⟨dX12_around_35, rfl⟩ (jqL_mk h)
    · have h := (if_neg c9).symm.trans h
      refine J_lload_n 1 dX12_around_12 rfl ?_
      refine J_iload 3 dX12_around_13 rfl ?_
      obtain ⟨r10, σ11, h12, h⟩ := bd_inv h
      refine M_callSI (d' := 1) (As := [.long l1, .int l5]) (st := []) cs_X12_417 dX12_around_15 rfl (Nat.le_of_ble_eq_true rfl) (Nat.le_of_ble_eq_true rfl) (by decide) rfl rfl (t_X12_has  h12) ?_
      refine J_if_eq (tgt := 28) dX12_around_18 (by decide) (fun c13 => ?_) (fun c13 => ?_)
      · have h := (if_pos c13).symm.trans h
        exact t_X12_around_28 ih _ _ _ _ _ _ ⟨congrArg Prod.fst (shf_fst hl0.1), hl0.2⟩ h
      · have h := (if_neg c13).symm.trans h
        refine J_lload_n 2 dX12_around_21 rfl ?_
        refine J_aload_n 0 dX12_around_22 rfl ?_
        refine J_iload 3 dX12_around_23 rfl ?_
        obtain ⟨g14, h⟩ := gd_inv h
        refine M_lald dX12_around_25 (shf_fst hl0.1) hl0.2 g14 ?_
        refine J_lor dX12_around_26 ?_
        refine J_lstore_n (i := 3) (ls' := [(3, .long (l3 ||| (rL σ11 l0 (Int32.toNatClampNeg l5)))), (0, .ref l0), (1, .long l1), (5, .int l5)]) dX12_around_27 rfl (by decide) rfl ?_
        refine J_pick [1, 2, 0, 3] rfl ?_
        exact t_X12_around_28 ih _ _ _ _ _ _ ⟨congrArg Prod.fst (shf_fst hl0.1), hl0.2⟩ h
set_option maxRecDepth 20000 in
set_option maxHeartbeats 4000000 in
theorem t_X12_around {a0 : Nat} {a1 : Int64} {σ : jM} {r : Int64 × jM} (ha0 : (shf a0).1 = 15 ∧ a0 < 376) (h : f_X12_around a0 a1 σ = some r) : J mi_X12_around 2 0 0 (jqL r) 0 [(0, .ref a0), (1, .long a1)] [] (ms σ) := by
  unfold f_X12_around at h
  refine J_lconst (v := 0) dX12_around_0 (by decide) ?_
  refine J_lstore_n (i := 3) (ls' := [(3, .long 0), (0, .ref a0), (1, .long a1)]) dX12_around_1 rfl (by decide) rfl ?_
  refine J_iconst (v := 0) dX12_around_2 (by decide) ?_
  refine J_istore (i := 5) (ls' := [(5, .int 0), (3, .long 0), (0, .ref a0), (1, .long a1)]) dX12_around_3 (by decide) rfl ?_
  refine J_pick [2, 3, 1, 0] rfl ?_
  exact t_X12_around_5  _ _ _ _ _ _ _ ⟨congrArg Prod.fst (shf_fst ha0.1), ha0.2⟩ h
theorem dX12_reachOf_0 : decode cX12_reachOf 0 = .ok (.lconst 1, 1) := by decide +kernel
theorem dX12_reachOf_1 : decode cX12_reachOf 1 = .ok (.iload_n 1, 1) := by decide +kernel
theorem dX12_reachOf_2 : decode cX12_reachOf 2 = .ok (.lshl, 1) := by decide +kernel
theorem dX12_reachOf_3 : decode cX12_reachOf 3 = .ok (.lstore_n 2, 1) := by decide +kernel
theorem dX12_reachOf_4 : decode cX12_reachOf 4 = .ok (.aload_n 0, 1) := by decide +kernel
theorem dX12_reachOf_5 : decode cX12_reachOf 5 = .ok (.iload_n 1, 1) := by decide +kernel
theorem dX12_reachOf_6 : decode cX12_reachOf 6 = .ok (.laload, 1) := by decide +kernel
theorem dX12_reachOf_7 : decode cX12_reachOf 7 = .ok (.lconst 0, 1) := by decide +kernel
theorem dX12_reachOf_8 : decode cX12_reachOf 8 = .ok (.lcmp, 1) := by decide +kernel
theorem dX12_reachOf_9 : decode cX12_reachOf 9 = .ok (.ifCond .ne 7, 3) := by decide +kernel
theorem dX12_reachOf_12 : decode cX12_reachOf 12 = .ok (.lconst 0, 1) := by decide +kernel
theorem dX12_reachOf_13 : decode cX12_reachOf 13 = .ok (.goto 4, 3) := by decide +kernel
theorem dX12_reachOf_16 : decode cX12_reachOf 16 = .ok (.lload_n 2, 1) := by decide +kernel
theorem dX12_reachOf_17 : decode cX12_reachOf 17 = .ok (.lstore 4, 2) := by decide +kernel
theorem dX12_reachOf_19 : decode cX12_reachOf 19 = .ok (.iconst 0, 1) := by decide +kernel
theorem dX12_reachOf_20 : decode cX12_reachOf 20 = .ok (.istore 6, 2) := by decide +kernel
theorem dX12_reachOf_22 : decode cX12_reachOf 22 = .ok (.iload 6, 2) := by decide +kernel
theorem dX12_reachOf_24 : decode cX12_reachOf 24 = .ok (.bipush 40, 2) := by decide +kernel
theorem dX12_reachOf_26 : decode cX12_reachOf 26 = .ok (.if_icmp .ge 35, 3) := by decide +kernel
theorem dX12_reachOf_29 : decode cX12_reachOf 29 = .ok (.lload 4, 2) := by decide +kernel
theorem dX12_reachOf_31 : decode cX12_reachOf 31 = .ok (.lconst 0, 1) := by decide +kernel
theorem dX12_reachOf_32 : decode cX12_reachOf 32 = .ok (.lcmp, 1) := by decide +kernel
theorem dX12_reachOf_33 : decode cX12_reachOf 33 = .ok (.ifCond .eq 28, 3) := by decide +kernel
theorem dX12_reachOf_36 : decode cX12_reachOf 36 = .ok (.aload_n 0, 1) := by decide +kernel
theorem dX12_reachOf_37 : decode cX12_reachOf 37 = .ok (.lload 4, 2) := by decide +kernel
theorem dX12_reachOf_39 : decode cX12_reachOf 39 = .ok (.invokestatic 421, 3) := by decide +kernel
theorem dX12_reachOf_42 : decode cX12_reachOf 42 = .ok (.lload_n 2, 1) := by decide +kernel
theorem dX12_reachOf_43 : decode cX12_reachOf 43 = .ok (.ldc2_w 425, 3) := by decide +kernel
theorem dX12_reachOf_46 : decode cX12_reachOf 46 = .ok (.lxor, 1) := by decide +kernel
theorem dX12_reachOf_47 : decode cX12_reachOf 47 = .ok (.land, 1) := by decide +kernel
theorem dX12_reachOf_48 : decode cX12_reachOf 48 = .ok (.lstore 4, 2) := by decide +kernel
theorem dX12_reachOf_50 : decode cX12_reachOf 50 = .ok (.lload_n 2, 1) := by decide +kernel
theorem dX12_reachOf_51 : decode cX12_reachOf 51 = .ok (.lload 4, 2) := by decide +kernel
theorem dX12_reachOf_53 : decode cX12_reachOf 53 = .ok (.lor, 1) := by decide +kernel
theorem dX12_reachOf_54 : decode cX12_reachOf 54 = .ok (.lstore_n 2, 1) := by decide +kernel
theorem dX12_reachOf_55 : decode cX12_reachOf 55 = .ok (.iinc 6 1, 3) := by decide +kernel
theorem dX12_reachOf_58 : decode cX12_reachOf 58 = .ok (.goto (-36), 3) := by decide +kernel
theorem dX12_reachOf_61 : decode cX12_reachOf 61 = .ok (.lload_n 2, 1) := by decide +kernel
theorem dX12_reachOf_62 : decode cX12_reachOf 62 = .ok (.lreturn, 1) := by decide +kernel
noncomputable def f_X12_reachOf_61  (l2 : Int64) (σ : jM) : Option (Int64 × jM) :=
  some (l2, σ)
noncomputable def s_X12_reachOf_22  (rec22 : Nat → Int64 → Int64 → Int32 → jM → Option (Int64 × jM)) (l0 : Nat) (l2 : Int64) (l4 : Int64) (l6 : Int32) (σ : jM) : Option (Int64 × jM) :=
  (if 40 ≤ l6 then f_X12_reachOf_61  l2 σ else (if (lg_cmp l4 0) = 0 then f_X12_reachOf_61  l2 σ else bd (f_X12_around l0 l4 σ) (fun r4 σ5 => rec22 l0 (l2 ||| (r4 &&& (l2 ^^^ (-1)))) (r4 &&& (l2 ^^^ (-1))) (l6 + 1) σ5)))
noncomputable def f_X12_reachOf_22  (n : Nat) : Nat → Int64 → Int64 → Int32 → jM → Option (Int64 × jM) := Nat.rec (motive := fun _ => Nat → Int64 → Int64 → Int32 → jM → Option (Int64 × jM)) (fun _ _ _ _ _ => none) (fun _ q => s_X12_reachOf_22  q) n
noncomputable def f_X12_reachOf_17  (l0 : Nat) (l2 : Int64) (s0 : Int64) (σ : jM) : Option (Int64 × jM) :=
  f_X12_reachOf_22  Fu l0 l2 s0 0 σ
noncomputable def f_X12_reachOf (a0 : Nat) (a1 : Int32) (σ : jM) : Option (Int64 × jM) :=
  gd (inb a1 (shf a0).2) ((if (lg_cmp (rL σ a0 (Int32.toNatClampNeg a1)) 0) = 0 then f_X12_reachOf_17  a0 (jlshl 1 a1) 0 σ else f_X12_reachOf_17  a0 (jlshl 1 a1) (jlshl 1 a1) σ))
set_option maxRecDepth 20000 in
set_option maxHeartbeats 4000000 in
theorem t_X12_reachOf_61  (l2 : Int64) (σ : jM) (r : Int64 × jM)  (h : f_X12_reachOf_61  l2 σ = some r) : J mi_X12_reachOf 3 0 0 (jqL r) 61 [(2, .long l2)] [] (ms σ) := by
  unfold f_X12_reachOf_61 at h
  refine J_lload_n 0 dX12_reachOf_61 rfl ?_
  exact J_ret (v := some (.long l2)) rfl ⟨dX12_reachOf_62, rfl⟩ (jqL_mk h)
set_option maxRecDepth 20000 in
set_option maxHeartbeats 4000000 in
theorem t_X12_reachOf_22  : ∀ (n : Nat) (l0 : Nat) (l2 : Int64) (l4 : Int64) (l6 : Int32) (σ : jM) (r : Int64 × jM), (shf l0).1 = 15 ∧ l0 < 376 → f_X12_reachOf_22  n l0 l2 l4 l6 σ = some r → J mi_X12_reachOf 3 0 0 (jqL r) 22 [(0, .ref l0), (2, .long l2), (4, .long l4), (6, .int l6)] [] (ms σ) := by
  intro n
  induction n with
  | zero =>
    intro l0 l2 l4 l6 σ r hl0 h
    have h : (none : Option (Int64 × jM)) = some r := h
    cases h
  | succ n ih =>
    intro l0 l2 l4 l6 σ r hl0 h
    have h : s_X12_reachOf_22  (f_X12_reachOf_22  n) l0 l2 l4 l6 σ = some r := h
    unfold s_X12_reachOf_22 at h
    refine J_iload 3 dX12_reachOf_22 rfl ?_
    refine J_bipush (v := 40) dX12_reachOf_24 (by decide) ?_
    refine J_icmp_ge (tgt := 61) dX12_reachOf_26 (by decide) (fun c7 => ?_) (fun c7 => ?_)
    · have h := (if_pos c7).symm.trans h
      refine J_pick [1] rfl ?_
      exact t_X12_reachOf_61  _ _ _  h
    · have h := (if_neg c7).symm.trans h
      refine J_lload 2 dX12_reachOf_29 rfl ?_
      refine J_lconst (v := 0) dX12_reachOf_31 (by decide) ?_
      refine J_lcmp dX12_reachOf_32 ?_
      refine J_if_eq (tgt := 61) dX12_reachOf_33 (by decide) (fun c8 => ?_) (fun c8 => ?_)
      · have h := (if_pos c8).symm.trans h
        refine J_pick [1] rfl ?_
        exact t_X12_reachOf_61  _ _ _  h
      · have h := (if_neg c8).symm.trans h
        refine J_aload_n 0 dX12_reachOf_36 rfl ?_
        refine J_lload 2 dX12_reachOf_37 rfl ?_
        obtain ⟨r9, σ10, h11, h⟩ := bd_inv h
        refine M_callSL (d' := 2) (As := [.ref l0, .long l4]) (st := []) cs_X12_421 dX12_reachOf_39 rfl (Nat.le_of_ble_eq_true rfl) (Nat.le_of_ble_eq_true rfl) (by decide) rfl rfl (t_X12_around ⟨congrArg Prod.fst (shf_fst hl0.1), hl0.2⟩ h11) ?_
        refine J_lload_n 1 dX12_reachOf_42 rfl ?_
        refine J_ldc2 dX12_reachOf_43 ct_X12_425 ?_
        refine J_lxor dX12_reachOf_46 ?_
        refine J_land dX12_reachOf_47 ?_
        refine J_lstore (i := 4) (ls' := [(4, .long (r9 &&& (l2 ^^^ (-1)))), (0, .ref l0), (2, .long l2), (6, .int l6)]) dX12_reachOf_48 (by decide) rfl ?_
        refine J_lload_n 2 dX12_reachOf_50 rfl ?_
        refine J_lload 0 dX12_reachOf_51 rfl ?_
        refine J_lor dX12_reachOf_53 ?_
        refine J_lstore_n (i := 2) (ls' := [(2, .long (l2 ||| (r9 &&& (l2 ^^^ (-1))))), (4, .long (r9 &&& (l2 ^^^ (-1)))), (0, .ref l0), (6, .int l6)]) dX12_reachOf_54 rfl (by decide) rfl ?_
        refine J_iinc (v := (l6 + 1)) (ls' := [(6, .int (l6 + 1)), (2, .long (l2 ||| (r9 &&& (l2 ^^^ (-1))))), (4, .long (r9 &&& (l2 ^^^ (-1)))), (0, .ref l0)]) 3 dX12_reachOf_55 rfl rfl (by decide) rfl ?_
        refine J_goto (tgt := 22) dX12_reachOf_58 (by decide) ?_
        refine J_pick [3, 1, 2, 0] rfl ?_
        exact ih _ _ _ _ _ _ ⟨congrArg Prod.fst (shf_fst hl0.1), hl0.2⟩ h
set_option maxRecDepth 20000 in
set_option maxHeartbeats 4000000 in
theorem t_X12_reachOf_17  (l0 : Nat) (l2 : Int64) (s0 : Int64) (σ : jM) (r : Int64 × jM) (hl0 : (shf l0).1 = 15 ∧ l0 < 376) (h : f_X12_reachOf_17  l0 l2 s0 σ = some r) : J mi_X12_reachOf 3 0 0 (jqL r) 17 [(0, .ref l0), (2, .long l2)] [.long s0] (ms σ) := by
  unfold f_X12_reachOf_17 at h
  refine J_lstore (i := 4) (ls' := [(4, .long s0), (0, .ref l0), (2, .long l2)]) dX12_reachOf_17 (by decide) rfl ?_
  refine J_iconst (v := 0) dX12_reachOf_19 (by decide) ?_
  refine J_istore (i := 6) (ls' := [(6, .int 0), (4, .long s0), (0, .ref l0), (2, .long l2)]) dX12_reachOf_20 (by decide) rfl ?_
  refine J_pick [2, 3, 1, 0] rfl ?_
  exact t_X12_reachOf_22  _ _ _ _ _ _ _ ⟨congrArg Prod.fst (shf_fst hl0.1), hl0.2⟩ h
set_option maxRecDepth 20000 in
set_option maxHeartbeats 4000000 in
theorem t_X12_reachOf {a0 : Nat} {a1 : Int32} {σ : jM} {r : Int64 × jM} (ha0 : (shf a0).1 = 15 ∧ a0 < 376) (h : f_X12_reachOf a0 a1 σ = some r) : J mi_X12_reachOf 3 0 0 (jqL r) 0 [(0, .ref a0), (1, .int a1)] [] (ms σ) := by
  unfold f_X12_reachOf at h
  refine J_lconst (v := 1) dX12_reachOf_0 (by decide) ?_
  refine J_iload_n 1 dX12_reachOf_1 rfl ?_
  refine J_lshl dX12_reachOf_2 ?_
  refine J_lstore_n (i := 2) (ls' := [(2, .long (jlshl 1 a1)), (0, .ref a0), (1, .int a1)]) dX12_reachOf_3 rfl (by decide) rfl ?_
  refine J_aload_n 1 dX12_reachOf_4 rfl ?_
  refine J_iload_n 2 dX12_reachOf_5 rfl ?_
  obtain ⟨g12, h⟩ := gd_inv h
  refine M_lald dX12_reachOf_6 (shf_fst ha0.1) ha0.2 g12 ?_
  refine J_lconst (v := 0) dX12_reachOf_7 (by decide) ?_
  refine J_lcmp dX12_reachOf_8 ?_
  refine J_if_ne (tgt := 16) dX12_reachOf_9 (by decide) (fun c13 => ?_) (fun c13 => ?_)
  · have h := (if_neg c13).symm.trans h
    refine J_lload_n 0 dX12_reachOf_16 rfl ?_
    refine J_pick [1, 0] rfl ?_
    exact t_X12_reachOf_17  _ _ _ _ _ ⟨congrArg Prod.fst (shf_fst ha0.1), ha0.2⟩ h
  · have h := (if_pos c13).symm.trans h
    refine J_lconst (v := 0) dX12_reachOf_12 (by decide) ?_
    refine J_goto (tgt := 17) dX12_reachOf_13 (by decide) ?_
    refine J_pick [1, 0] rfl ?_
    exact t_X12_reachOf_17  _ _ _ _ _ ⟨congrArg Prod.fst (shf_fst ha0.1), ha0.2⟩ h
theorem dX13_thrown_0 : decode cX13_thrown 0 = .ok (.aload_n 0, 1) := by decide +kernel
theorem dX13_thrown_1 : decode cX13_thrown 1 = .ok (.getfield 1, 3) := by decide +kernel
theorem dX13_thrown_4 : decode cX13_thrown 4 = .ok (.ireturn, 1) := by decide +kernel
noncomputable def f_X13_thrown  (σ : jM) : Option (Int32 × jM) :=
  some ((rI σ 324 0), σ)
set_option maxRecDepth 20000 in
set_option maxHeartbeats 4000000 in
theorem t_X13_thrown  {σ : jM} {r : Int32 × jM}  (h : f_X13_thrown  σ = some r) : J mi_X13_thrown 1 0 0 (jqI r) 0 [(0, .ref 324)] [] (ms σ) := by
  unfold f_X13_thrown at h
  refine J_aload_n 0 dX13_thrown_0 rfl ?_
  refine M_getI gf_X13_1_12 dX13_thrown_1 k_324 n_324 ?_
  exact J_ret (v := some (.int (rI σ 324 0))) rfl ⟨dX13_thrown_4, Or.inl rfl⟩ (jqI_mk h)
theorem dX13_within_0 : decode cX13_within 0 = .ok (.iload_n 0, 1) := by decide +kernel
theorem dX13_within_1 : decode cX13_within 1 = .ok (.iload_n 1, 1) := by decide +kernel
theorem dX13_within_2 : decode cX13_within 2 = .ok (.if_icmp .lt 12, 3) := by decide +kernel
theorem dX13_within_5 : decode cX13_within 5 = .ok (.iload_n 0, 1) := by decide +kernel
theorem dX13_within_6 : decode cX13_within 6 = .ok (.iload_n 2, 1) := by decide +kernel
theorem dX13_within_7 : decode cX13_within 7 = .ok (.if_icmp .gt 7, 3) := by decide +kernel
theorem dX13_within_10 : decode cX13_within 10 = .ok (.iconst 1, 1) := by decide +kernel
theorem dX13_within_11 : decode cX13_within 11 = .ok (.goto 4, 3) := by decide +kernel
theorem dX13_within_14 : decode cX13_within 14 = .ok (.iconst 0, 1) := by decide +kernel
theorem dX13_within_15 : decode cX13_within 15 = .ok (.ireturn, 1) := by decide +kernel
noncomputable def f_X13_within_15  (s0 : Int32) (σ : jM) : Option (Int32 × jM) :=
  gd (s0 = 0 ∨ s0 = 1) (some (s0, σ))
noncomputable def f_X13_within_14   (σ : jM) : Option (Int32 × jM) :=
  f_X13_within_15  0 σ
noncomputable def f_X13_within (a0 : Int32) (a1 : Int32) (a2 : Int32) (σ : jM) : Option (Int32 × jM) :=
  (if a0 < a1 then f_X13_within_14   σ else (if a2 < a0 then f_X13_within_14   σ else f_X13_within_15  1 σ))
set_option maxRecDepth 20000 in
set_option maxHeartbeats 4000000 in
theorem t_X13_within_15  (s0 : Int32) (σ : jM) (r : Int32 × jM)  (h : f_X13_within_15  s0 σ = some r) : J mi_X13_within 1 0 0 (jqI r) 15 [] [.int s0] (ms σ) := by
  unfold f_X13_within_15 at h
  obtain ⟨g2, h⟩ := gd_inv h
  exact J_ret (v := some (.int s0)) rfl ⟨dX13_within_15, Or.inr (Or.inl ⟨rfl, g2⟩)⟩ (jqI_mk h)
set_option maxRecDepth 20000 in
set_option maxHeartbeats 4000000 in
theorem t_X13_within_14   (σ : jM) (r : Int32 × jM)  (h : f_X13_within_14   σ = some r) : J mi_X13_within 1 0 0 (jqI r) 14 [] [] (ms σ) := by
  unfold f_X13_within_14 at h
  refine J_iconst (v := 0) dX13_within_14 (by decide) ?_
  exact t_X13_within_15  _ _ _  h
set_option maxRecDepth 20000 in
set_option maxHeartbeats 4000000 in
theorem t_X13_within {a0 : Int32} {a1 : Int32} {a2 : Int32} {σ : jM} {r : Int32 × jM}  (h : f_X13_within a0 a1 a2 σ = some r) : J mi_X13_within 1 0 0 (jqI r) 0 [(0, .int a0), (1, .int a1), (2, .int a2)] [] (ms σ) := by
  unfold f_X13_within at h
  refine J_iload_n 0 dX13_within_0 rfl ?_
  refine J_iload_n 1 dX13_within_1 rfl ?_
  refine J_icmp_lt (tgt := 14) dX13_within_2 (by decide) (fun c3 => ?_) (fun c3 => ?_)
  · have h := (if_pos c3).symm.trans h
    refine J_pick [] rfl ?_
    exact t_X13_within_14   _ _  h
  · have h := (if_neg c3).symm.trans h
    refine J_iload_n 0 dX13_within_5 rfl ?_
    refine J_iload_n 2 dX13_within_6 rfl ?_
    refine J_icmp_gt (tgt := 14) dX13_within_7 (by decide) (fun c4 => ?_) (fun c4 => ?_)
    · have h := (if_pos c4).symm.trans h
      refine J_pick [] rfl ?_
      exact t_X13_within_14   _ _  h
    · have h := (if_neg c4).symm.trans h
      refine J_iconst (v := 1) dX13_within_10 (by decide) ?_
      refine J_goto (tgt := 15) dX13_within_11 (by decide) ?_
      refine J_pick [] rfl ?_
      exact t_X13_within_15  _ _ _  h
theorem dX13_day_0 : decode cX13_day 0 = .ok (.aload_n 0, 1) := by decide +kernel
theorem dX13_day_1 : decode cX13_day 1 = .ok (.iconst 0, 1) := by decide +kernel
theorem dX13_day_2 : decode cX13_day 2 = .ok (.putfield 1, 3) := by decide +kernel
theorem dX13_day_5 : decode cX13_day 5 = .ok (.iload_n 1, 1) := by decide +kernel
theorem dX13_day_6 : decode cX13_day 6 = .ok (.iconst 0, 1) := by decide +kernel
theorem dX13_day_7 : decode cX13_day 7 = .ok (.sipush 1000, 3) := by decide +kernel
theorem dX13_day_10 : decode cX13_day 10 = .ok (.invokestatic 169, 3) := by decide +kernel
theorem dX13_day_13 : decode cX13_day 13 = .ok (.ifCond .eq 14, 3) := by decide +kernel
theorem dX13_day_16 : decode cX13_day 16 = .ok (.aload_n 0, 1) := by decide +kernel
theorem dX13_day_17 : decode cX13_day 17 = .ok (.getfield 173, 3) := by decide +kernel
theorem dX13_day_20 : decode cX13_day 20 = .ok (.iload_n 1, 1) := by decide +kernel
theorem dX13_day_21 : decode cX13_day 21 = .ok (.iadd, 1) := by decide +kernel
theorem dX13_day_22 : decode cX13_day 22 = .ok (.ldc 176, 2) := by decide +kernel
theorem dX13_day_24 : decode cX13_day 24 = .ok (.if_icmp .le 5, 3) := by decide +kernel
theorem dX13_day_27 : decode cX13_day 27 = .ok (.iconst (-1), 1) := by decide +kernel
theorem dX13_day_28 : decode cX13_day 28 = .ok (.ireturn, 1) := by decide +kernel
theorem dX13_day_29 : decode cX13_day 29 = .ok (.aload_n 0, 1) := by decide +kernel
theorem dX13_day_30 : decode cX13_day 30 = .ok (.dup, 1) := by decide +kernel
theorem dX13_day_31 : decode cX13_day 31 = .ok (.getfield 173, 3) := by decide +kernel
theorem dX13_day_34 : decode cX13_day 34 = .ok (.iload_n 1, 1) := by decide +kernel
theorem dX13_day_35 : decode cX13_day 35 = .ok (.iadd, 1) := by decide +kernel
theorem dX13_day_36 : decode cX13_day 36 = .ok (.putfield 173, 3) := by decide +kernel
theorem dX13_day_39 : decode cX13_day 39 = .ok (.aload_n 0, 1) := by decide +kernel
theorem dX13_day_40 : decode cX13_day 40 = .ok (.getfield 173, 3) := by decide +kernel
theorem dX13_day_43 : decode cX13_day 43 = .ok (.ireturn, 1) := by decide +kernel
noncomputable def f_X13_day_27   (σ : jM) : Option (Int32 × jM) :=
  some ((-1), σ)
noncomputable def f_X13_day (a1 : Int32) (σ : jM) : Option (Int32 × jM) :=
  bd (f_X13_within a1 0 1000 (wI σ 324 0 0)) (fun r1 σ2 => (if r1 = 0 then f_X13_day_27   σ2 else (if ((rI σ2 324 1) + a1) ≤ 100000 then some ((rI (wI σ2 324 1 ((rI σ2 324 1) + a1)) 324 1), wI σ2 324 1 ((rI σ2 324 1) + a1)) else f_X13_day_27   σ2)))
set_option maxRecDepth 20000 in
set_option maxHeartbeats 4000000 in
theorem t_X13_day_27   (σ : jM) (r : Int32 × jM)  (h : f_X13_day_27   σ = some r) : J mi_X13_day 2 0 0 (jqI r) 27 [] [] (ms σ) := by
  unfold f_X13_day_27 at h
  refine J_iconst (v := (-1)) dX13_day_27 (by decide) ?_
  exact J_ret (v := some (.int (-1))) rfl ⟨dX13_day_28, Or.inl rfl⟩ (jqI_mk h)
set_option maxRecDepth 20000 in
set_option maxHeartbeats 4000000 in
theorem t_X13_day {a1 : Int32} {σ : jM} {r : Int32 × jM}  (h : f_X13_day a1 σ = some r) : J mi_X13_day 2 0 0 (jqI r) 0 [(0, .ref 324), (1, .int a1)] [] (ms σ) := by
  unfold f_X13_day at h
  refine J_aload_n 0 dX13_day_0 rfl ?_
  refine J_iconst (v := 0) dX13_day_1 (by decide) ?_
  refine M_putI pf_X13_1_12 dX13_day_2 k_324 n_324 ⟨rfl, rfl⟩ ?_
  refine J_iload_n 1 dX13_day_5 rfl ?_
  refine J_iconst (v := 0) dX13_day_6 (by decide) ?_
  refine J_sipush (v := 1000) dX13_day_7 (by decide) ?_
  obtain ⟨r1, σ2, h3, h⟩ := bd_inv h
  refine M_callSI (d' := 1) (As := [.int a1, .int 0, .int 1000]) (st := []) cs_X13_169 dX13_day_10 rfl (Nat.le_of_ble_eq_true rfl) (Nat.le_of_ble_eq_true rfl) (by decide) rfl rfl (t_X13_within  h3) ?_
  refine J_if_eq (tgt := 27) dX13_day_13 (by decide) (fun c4 => ?_) (fun c4 => ?_)
  · have h := (if_pos c4).symm.trans h
    refine J_pick [] rfl ?_
    exact t_X13_day_27   _ _  h
  · have h := (if_neg c4).symm.trans h
    refine J_aload_n 0 dX13_day_16 rfl ?_
    refine M_getI gf_X13_173_12 dX13_day_17 k_324 n_324 ?_
    refine J_iload_n 1 dX13_day_20 rfl ?_
    refine J_iadd dX13_day_21 ?_
    refine J_ldc dX13_day_22 ct_X13_176 ?_
    refine J_icmp_le (tgt := 29) dX13_day_24 (by decide) (fun c5 => ?_) (fun c5 => ?_)
    · have h := (if_pos c5).symm.trans h
      refine J_aload_n 0 dX13_day_29 rfl ?_
      refine J_dup dX13_day_30 rfl ?_
      refine M_getI gf_X13_173_12 dX13_day_31 k_324 n_324 ?_
      refine J_iload_n 1 dX13_day_34 rfl ?_
      refine J_iadd dX13_day_35 ?_
      refine M_putI pf_X13_173_12 dX13_day_36 k_324 n_324 ⟨rfl, rfl⟩ ?_
      refine J_aload_n 0 dX13_day_39 rfl ?_
      refine M_getI gf_X13_173_12 dX13_day_40 k_324 n_324 ?_
      exact J_ret (v := some (.int (rI (wI σ2 324 1 ((rI σ2 324 1) + a1)) 324 1))) rfl ⟨dX13_day_43, Or.inl rfl⟩ (jqI_mk h)
    · have h := (if_neg c5).symm.trans h
      refine J_pick [] rfl ?_
      exact t_X13_day_27   _ _  h
theorem dX13_isKnown_0 : decode cX13_isKnown 0 = .ok (.iload_n 1, 1) := by decide +kernel
theorem dX13_isKnown_1 : decode cX13_isKnown 1 = .ok (.ifCond .lt 15, 3) := by decide +kernel
theorem dX13_isKnown_4 : decode cX13_isKnown 4 = .ok (.iload_n 1, 1) := by decide +kernel
theorem dX13_isKnown_5 : decode cX13_isKnown 5 = .ok (.aload_n 0, 1) := by decide +kernel
theorem dX13_isKnown_6 : decode cX13_isKnown 6 = .ok (.getfield 173, 3) := by decide +kernel
theorem dX13_isKnown_9 : decode cX13_isKnown 9 = .ok (.if_icmp .gt 7, 3) := by decide +kernel
theorem dX13_isKnown_12 : decode cX13_isKnown 12 = .ok (.iconst 1, 1) := by decide +kernel
theorem dX13_isKnown_13 : decode cX13_isKnown 13 = .ok (.goto 4, 3) := by decide +kernel
theorem dX13_isKnown_16 : decode cX13_isKnown 16 = .ok (.iconst 0, 1) := by decide +kernel
theorem dX13_isKnown_17 : decode cX13_isKnown 17 = .ok (.ireturn, 1) := by decide +kernel
noncomputable def f_X13_isKnown_17  (s0 : Int32) (σ : jM) : Option (Int32 × jM) :=
  gd (s0 = 0 ∨ s0 = 1) (some (s0, σ))
noncomputable def f_X13_isKnown_16   (σ : jM) : Option (Int32 × jM) :=
  f_X13_isKnown_17  0 σ
noncomputable def f_X13_isKnown (a1 : Int32) (σ : jM) : Option (Int32 × jM) :=
  (if a1 < 0 then f_X13_isKnown_16   σ else (if (rI σ 324 1) < a1 then f_X13_isKnown_16   σ else f_X13_isKnown_17  1 σ))
set_option maxRecDepth 20000 in
set_option maxHeartbeats 4000000 in
theorem t_X13_isKnown_17  (s0 : Int32) (σ : jM) (r : Int32 × jM)  (h : f_X13_isKnown_17  s0 σ = some r) : J mi_X13_isKnown 1 0 0 (jqI r) 17 [] [.int s0] (ms σ) := by
  unfold f_X13_isKnown_17 at h
  obtain ⟨g2, h⟩ := gd_inv h
  exact J_ret (v := some (.int s0)) rfl ⟨dX13_isKnown_17, Or.inr (Or.inl ⟨rfl, g2⟩)⟩ (jqI_mk h)
set_option maxRecDepth 20000 in
set_option maxHeartbeats 4000000 in
theorem t_X13_isKnown_16   (σ : jM) (r : Int32 × jM)  (h : f_X13_isKnown_16   σ = some r) : J mi_X13_isKnown 1 0 0 (jqI r) 16 [] [] (ms σ) := by
  unfold f_X13_isKnown_16 at h
  refine J_iconst (v := 0) dX13_isKnown_16 (by decide) ?_
  exact t_X13_isKnown_17  _ _ _  h
set_option maxRecDepth 20000 in
set_option maxHeartbeats 4000000 in
theorem t_X13_isKnown {a1 : Int32} {σ : jM} {r : Int32 × jM}  (h : f_X13_isKnown a1 σ = some r) : J mi_X13_isKnown 1 0 0 (jqI r) 0 [(0, .ref 324), (1, .int a1)] [] (ms σ) := by
  unfold f_X13_isKnown at h
  refine J_iload_n 1 dX13_isKnown_0 rfl ?_
  refine J_if_lt (tgt := 16) dX13_isKnown_1 (by decide) (fun c3 => ?_) (fun c3 => ?_)
  · have h := (if_pos c3).symm.trans h
    refine J_pick [] rfl ?_
    exact t_X13_isKnown_16   _ _  h
  · have h := (if_neg c3).symm.trans h
    refine J_iload_n 1 dX13_isKnown_4 rfl ?_
    refine J_aload_n 0 dX13_isKnown_5 rfl ?_
    refine M_getI gf_X13_173_12 dX13_isKnown_6 k_324 n_324 ?_
    refine J_icmp_gt (tgt := 16) dX13_isKnown_9 (by decide) (fun c4 => ?_) (fun c4 => ?_)
    · have h := (if_pos c4).symm.trans h
      refine J_pick [] rfl ?_
      exact t_X13_isKnown_16   _ _  h
    · have h := (if_neg c4).symm.trans h
      refine J_iconst (v := 1) dX13_isKnown_12 (by decide) ?_
      refine J_goto (tgt := 17) dX13_isKnown_13 (by decide) ?_
      refine J_pick [] rfl ?_
      exact t_X13_isKnown_17  _ _ _  h
theorem dX13_counts_0 : decode cX13_counts 0 = .ok (.iload_n 0, 1) := by decide +kernel
theorem dX13_counts_1 : decode cX13_counts 1 = .ok (.iload_n 2, 1) := by decide +kernel
theorem dX13_counts_2 : decode cX13_counts 2 = .ok (.if_icmp .gt 12, 3) := by decide +kernel
theorem dX13_counts_5 : decode cX13_counts 5 = .ok (.iload_n 1, 1) := by decide +kernel
theorem dX13_counts_6 : decode cX13_counts 6 = .ok (.iload_n 2, 1) := by decide +kernel
theorem dX13_counts_7 : decode cX13_counts 7 = .ok (.if_icmp .le 7, 3) := by decide +kernel
theorem dX13_counts_10 : decode cX13_counts 10 = .ok (.iconst 1, 1) := by decide +kernel
theorem dX13_counts_11 : decode cX13_counts 11 = .ok (.goto 4, 3) := by decide +kernel
theorem dX13_counts_14 : decode cX13_counts 14 = .ok (.iconst 0, 1) := by decide +kernel
theorem dX13_counts_15 : decode cX13_counts 15 = .ok (.ireturn, 1) := by decide +kernel
noncomputable def f_X13_counts_15  (s0 : Int32) (σ : jM) : Option (Int32 × jM) :=
  gd (s0 = 0 ∨ s0 = 1) (some (s0, σ))
noncomputable def f_X13_counts_14   (σ : jM) : Option (Int32 × jM) :=
  f_X13_counts_15  0 σ
noncomputable def f_X13_counts (a0 : Int32) (a1 : Int32) (a2 : Int32) (σ : jM) : Option (Int32 × jM) :=
  (if a2 < a0 then f_X13_counts_14   σ else (if a1 ≤ a2 then f_X13_counts_14   σ else f_X13_counts_15  1 σ))
set_option maxRecDepth 20000 in
set_option maxHeartbeats 4000000 in
theorem t_X13_counts_15  (s0 : Int32) (σ : jM) (r : Int32 × jM)  (h : f_X13_counts_15  s0 σ = some r) : J mi_X13_counts 1 0 0 (jqI r) 15 [] [.int s0] (ms σ) := by
  unfold f_X13_counts_15 at h
  obtain ⟨g2, h⟩ := gd_inv h
  exact J_ret (v := some (.int s0)) rfl ⟨dX13_counts_15, Or.inr (Or.inl ⟨rfl, g2⟩)⟩ (jqI_mk h)
set_option maxRecDepth 20000 in
set_option maxHeartbeats 4000000 in
theorem t_X13_counts_14   (σ : jM) (r : Int32 × jM)  (h : f_X13_counts_14   σ = some r) : J mi_X13_counts 1 0 0 (jqI r) 14 [] [] (ms σ) := by
  unfold f_X13_counts_14 at h
  refine J_iconst (v := 0) dX13_counts_14 (by decide) ?_
  exact t_X13_counts_15  _ _ _  h
set_option maxRecDepth 20000 in
set_option maxHeartbeats 4000000 in
theorem t_X13_counts {a0 : Int32} {a1 : Int32} {a2 : Int32} {σ : jM} {r : Int32 × jM}  (h : f_X13_counts a0 a1 a2 σ = some r) : J mi_X13_counts 1 0 0 (jqI r) 0 [(0, .int a0), (1, .int a1), (2, .int a2)] [] (ms σ) := by
  unfold f_X13_counts at h
  refine J_iload_n 0 dX13_counts_0 rfl ?_
  refine J_iload_n 2 dX13_counts_1 rfl ?_
  refine J_icmp_gt (tgt := 14) dX13_counts_2 (by decide) (fun c3 => ?_) (fun c3 => ?_)
  · have h := (if_pos c3).symm.trans h
    refine J_pick [] rfl ?_
    exact t_X13_counts_14   _ _  h
  · have h := (if_neg c3).symm.trans h
    refine J_iload_n 1 dX13_counts_5 rfl ?_
    refine J_iload_n 2 dX13_counts_6 rfl ?_
    refine J_icmp_le (tgt := 14) dX13_counts_7 (by decide) (fun c4 => ?_) (fun c4 => ?_)
    · have h := (if_pos c4).symm.trans h
      refine J_pick [] rfl ?_
      exact t_X13_counts_14   _ _  h
    · have h := (if_neg c4).symm.trans h
      refine J_iconst (v := 1) dX13_counts_10 (by decide) ?_
      refine J_goto (tgt := 15) dX13_counts_11 (by decide) ?_
      refine J_pick [] rfl ?_
      exact t_X13_counts_15  _ _ _  h
theorem dX13_tabletCounts_0 : decode cX13_tabletCounts 0 = .ok (.aload_n 0, 1) := by decide +kernel
theorem dX13_tabletCounts_1 : decode cX13_tabletCounts 1 = .ok (.getfield 13, 3) := by decide +kernel
theorem dX13_tabletCounts_4 : decode cX13_tabletCounts 4 = .ok (.iload_n 1, 1) := by decide +kernel
theorem dX13_tabletCounts_5 : decode cX13_tabletCounts 5 = .ok (.iaload, 1) := by decide +kernel
theorem dX13_tabletCounts_6 : decode cX13_tabletCounts 6 = .ok (.aload_n 0, 1) := by decide +kernel
theorem dX13_tabletCounts_7 : decode cX13_tabletCounts 7 = .ok (.getfield 17, 3) := by decide +kernel
theorem dX13_tabletCounts_10 : decode cX13_tabletCounts 10 = .ok (.iload_n 1, 1) := by decide +kernel
theorem dX13_tabletCounts_11 : decode cX13_tabletCounts 11 = .ok (.iaload, 1) := by decide +kernel
theorem dX13_tabletCounts_12 : decode cX13_tabletCounts 12 = .ok (.iload_n 2, 1) := by decide +kernel
theorem dX13_tabletCounts_13 : decode cX13_tabletCounts 13 = .ok (.invokestatic 177, 3) := by decide +kernel
theorem dX13_tabletCounts_16 : decode cX13_tabletCounts 16 = .ok (.ireturn, 1) := by decide +kernel
noncomputable def f_X13_tabletCounts (a1 : Int32) (a2 : Int32) (σ : jM) : Option (Int32 × jM) :=
  gd (inb a1 24) (gd (inb a1 24) (bd (f_X13_counts (rI σ 325 (Int32.toNatClampNeg a1)) (rI σ 326 (Int32.toNatClampNeg a1)) a2 σ) (fun r5 σ6 => gd (r5 = 0 ∨ r5 = 1) (some (r5, σ6)))))
set_option maxRecDepth 20000 in
set_option maxHeartbeats 4000000 in
theorem t_X13_tabletCounts {a1 : Int32} {a2 : Int32} {σ : jM} {r : Int32 × jM}  (h : f_X13_tabletCounts a1 a2 σ = some r) : J mi_X13_tabletCounts 2 0 0 (jqI r) 0 [(0, .ref 324), (1, .int a1), (2, .int a2)] [] (ms σ) := by
  unfold f_X13_tabletCounts at h
  refine J_aload_n 0 dX13_tabletCounts_0 rfl ?_
  refine M_getR gf_X13_13_12 dX13_tabletCounts_1 (g_324_3 _) k_324 n_324 ?_
  refine J_iload_n 1 dX13_tabletCounts_4 rfl ?_
  obtain ⟨g3, h⟩ := gd_inv h
  refine M_iald dX13_tabletCounts_5 a_325 n_325 g3 ?_
  refine J_aload_n 0 dX13_tabletCounts_6 rfl ?_
  refine M_getR gf_X13_17_12 dX13_tabletCounts_7 (g_324_4 _) k_324 n_324 ?_
  refine J_iload_n 1 dX13_tabletCounts_10 rfl ?_
  obtain ⟨g4, h⟩ := gd_inv h
  refine M_iald dX13_tabletCounts_11 a_326 n_326 g4 ?_
  refine J_iload_n 2 dX13_tabletCounts_12 rfl ?_
  obtain ⟨r5, σ6, h7, h⟩ := bd_inv h
  refine M_callSI (d' := 1) (As := [.int (rI σ 325 (Int32.toNatClampNeg a1)), .int (rI σ 326 (Int32.toNatClampNeg a1)), .int a2]) (st := []) cs_X13_177 dX13_tabletCounts_13 rfl (Nat.le_of_ble_eq_true rfl) (Nat.le_of_ble_eq_true rfl) (by decide) rfl rfl (t_X13_counts  h7) ?_
  obtain ⟨g8, h⟩ := gd_inv h
  exact J_ret (v := some (.int r5)) rfl ⟨dX13_tabletCounts_16, Or.inr (Or.inl ⟨rfl, g8⟩)⟩ (jqI_mk h)
theorem dX13_feed_0 : decode cX13_feed 0 = .ok (.aload_n 0, 1) := by decide +kernel
theorem dX13_feed_1 : decode cX13_feed 1 = .ok (.iconst 0, 1) := by decide +kernel
theorem dX13_feed_2 : decode cX13_feed 2 = .ok (.putfield 1, 3) := by decide +kernel
theorem dX13_feed_5 : decode cX13_feed 5 = .ok (.aload_n 0, 1) := by decide +kernel
theorem dX13_feed_6 : decode cX13_feed 6 = .ok (.getfield 180, 3) := by decide +kernel
theorem dX13_feed_9 : decode cX13_feed 9 = .ok (.bipush 20, 2) := by decide +kernel
theorem dX13_feed_11 : decode cX13_feed 11 = .ok (.iadd, 1) := by decide +kernel
theorem dX13_feed_12 : decode cX13_feed 12 = .ok (.sipush 300, 3) := by decide +kernel
theorem dX13_feed_15 : decode cX13_feed 15 = .ok (.if_icmp .le 5, 3) := by decide +kernel
theorem dX13_feed_18 : decode cX13_feed 18 = .ok (.iconst (-1), 1) := by decide +kernel
theorem dX13_feed_19 : decode cX13_feed 19 = .ok (.ireturn, 1) := by decide +kernel
theorem dX13_feed_20 : decode cX13_feed 20 = .ok (.iconst 0, 1) := by decide +kernel
theorem dX13_feed_21 : decode cX13_feed 21 = .ok (.istore 6, 2) := by decide +kernel
theorem dX13_feed_23 : decode cX13_feed 23 = .ok (.iload 6, 2) := by decide +kernel
theorem dX13_feed_25 : decode cX13_feed 25 = .ok (.bipush 20, 2) := by decide +kernel
theorem dX13_feed_27 : decode cX13_feed 27 = .ok (.if_icmp .ge 90, 3) := by decide +kernel
theorem dX13_feed_30 : decode cX13_feed 30 = .ok (.iload 6, 2) := by decide +kernel
theorem dX13_feed_32 : decode cX13_feed 32 = .ok (.iconst 4, 1) := by decide +kernel
theorem dX13_feed_33 : decode cX13_feed 33 = .ok (.if_icmp .ge 7, 3) := by decide +kernel
theorem dX13_feed_36 : decode cX13_feed 36 = .ok (.iload_n 1, 1) := by decide +kernel
theorem dX13_feed_37 : decode cX13_feed 37 = .ok (.goto 39, 3) := by decide +kernel
theorem dX13_feed_40 : decode cX13_feed 40 = .ok (.iload 6, 2) := by decide +kernel
theorem dX13_feed_42 : decode cX13_feed 42 = .ok (.bipush 8, 2) := by decide +kernel
theorem dX13_feed_44 : decode cX13_feed 44 = .ok (.if_icmp .ge 7, 3) := by decide +kernel
theorem dX13_feed_47 : decode cX13_feed 47 = .ok (.iload_n 2, 1) := by decide +kernel
theorem dX13_feed_48 : decode cX13_feed 48 = .ok (.goto 28, 3) := by decide +kernel
theorem dX13_feed_51 : decode cX13_feed 51 = .ok (.iload 6, 2) := by decide +kernel
theorem dX13_feed_53 : decode cX13_feed 53 = .ok (.bipush 12, 2) := by decide +kernel
theorem dX13_feed_55 : decode cX13_feed 55 = .ok (.if_icmp .ge 7, 3) := by decide +kernel
theorem dX13_feed_58 : decode cX13_feed 58 = .ok (.iload_n 3, 1) := by decide +kernel
theorem dX13_feed_59 : decode cX13_feed 59 = .ok (.goto 17, 3) := by decide +kernel
theorem dX13_feed_62 : decode cX13_feed 62 = .ok (.iload 6, 2) := by decide +kernel
theorem dX13_feed_64 : decode cX13_feed 64 = .ok (.bipush 16, 2) := by decide +kernel
theorem dX13_feed_66 : decode cX13_feed 66 = .ok (.if_icmp .ge 8, 3) := by decide +kernel
theorem dX13_feed_69 : decode cX13_feed 69 = .ok (.iload 4, 2) := by decide +kernel
theorem dX13_feed_71 : decode cX13_feed 71 = .ok (.goto 5, 3) := by decide +kernel
theorem dX13_feed_74 : decode cX13_feed 74 = .ok (.iload 5, 2) := by decide +kernel
theorem dX13_feed_76 : decode cX13_feed 76 = .ok (.istore 7, 2) := by decide +kernel
theorem dX13_feed_78 : decode cX13_feed 78 = .ok (.aload_n 0, 1) := by decide +kernel
theorem dX13_feed_79 : decode cX13_feed 79 = .ok (.getfield 47, 3) := by decide +kernel
theorem dX13_feed_82 : decode cX13_feed 82 = .ok (.aload_n 0, 1) := by decide +kernel
theorem dX13_feed_83 : decode cX13_feed 83 = .ok (.getfield 180, 3) := by decide +kernel
theorem dX13_feed_86 : decode cX13_feed 86 = .ok (.iload 7, 2) := by decide +kernel
theorem dX13_feed_88 : decode cX13_feed 88 = .ok (.bipush 24, 2) := by decide +kernel
theorem dX13_feed_90 : decode cX13_feed 90 = .ok (.bipush 8, 2) := by decide +kernel
theorem dX13_feed_92 : decode cX13_feed 92 = .ok (.iload 6, 2) := by decide +kernel
theorem dX13_feed_94 : decode cX13_feed 94 = .ok (.iconst 4, 1) := by decide +kernel
theorem dX13_feed_95 : decode cX13_feed 95 = .ok (.irem, 1) := by decide +kernel
theorem dX13_feed_96 : decode cX13_feed 96 = .ok (.imul, 1) := by decide +kernel
theorem dX13_feed_97 : decode cX13_feed 97 = .ok (.isub, 1) := by decide +kernel
theorem dX13_feed_98 : decode cX13_feed 98 = .ok (.ishr, 1) := by decide +kernel
theorem dX13_feed_99 : decode cX13_feed 99 = .ok (.i2b, 1) := by decide +kernel
theorem dX13_feed_100 : decode cX13_feed 100 = .ok (.bastore, 1) := by decide +kernel
theorem dX13_feed_101 : decode cX13_feed 101 = .ok (.aload_n 0, 1) := by decide +kernel
theorem dX13_feed_102 : decode cX13_feed 102 = .ok (.dup, 1) := by decide +kernel
theorem dX13_feed_103 : decode cX13_feed 103 = .ok (.getfield 180, 3) := by decide +kernel
theorem dX13_feed_106 : decode cX13_feed 106 = .ok (.iconst 1, 1) := by decide +kernel
theorem dX13_feed_107 : decode cX13_feed 107 = .ok (.iadd, 1) := by decide +kernel
theorem dX13_feed_108 : decode cX13_feed 108 = .ok (.putfield 180, 3) := by decide +kernel
theorem dX13_feed_111 : decode cX13_feed 111 = .ok (.iinc 6 1, 3) := by decide +kernel
theorem dX13_feed_114 : decode cX13_feed 114 = .ok (.goto (-91), 3) := by decide +kernel
theorem dX13_feed_117 : decode cX13_feed 117 = .ok (.aload_n 0, 1) := by decide +kernel
theorem dX13_feed_118 : decode cX13_feed 118 = .ok (.getfield 180, 3) := by decide +kernel
theorem dX13_feed_121 : decode cX13_feed 121 = .ok (.ireturn, 1) := by decide +kernel
noncomputable def f_X13_feed_76 (rec23 : Int32 → Int32 → Int32 → Int32 → Int32 → Int32 → jM → Option (Int32 × jM)) (l1 : Int32) (l2 : Int32) (l3 : Int32) (l4 : Int32) (l5 : Int32) (l6 : Int32) (s0 : Int32) (σ : jM) : Option (Int32 × jM) :=
  gd (inb (rI σ 324 16) 300) (rec23 l1 l2 l3 l4 l5 (l6 + 1) (wI (wI σ 336 (Int32.toNatClampNeg (rI σ 324 16)) (vp_nar .byte (Int8.toInt32 (Int32.toInt8 (s0 >>> ((24 - (8 * (l6 - l6 / 4 * 4))) &&& 31)))))) 324 16 ((rI (wI σ 336 (Int32.toNatClampNeg (rI σ 324 16)) (vp_nar .byte (Int8.toInt32 (Int32.toInt8 (s0 >>> ((24 - (8 * (l6 - l6 / 4 * 4))) &&& 31)))))) 324 16) + 1)))
noncomputable def s_X13_feed_23  (rec23 : Int32 → Int32 → Int32 → Int32 → Int32 → Int32 → jM → Option (Int32 × jM)) (l1 : Int32) (l2 : Int32) (l3 : Int32) (l4 : Int32) (l5 : Int32) (l6 : Int32) (σ : jM) : Option (Int32 × jM) :=
  (if 20 ≤ l6 then some ((rI σ 324 16), σ) else (if 4 ≤ l6 then (if 8 ≤ l6 then (if 12 ≤ l6 then (if 16 ≤ l6 then f_X13_feed_76 rec23 l1 l2 l3 l4 l5 l6 l5 σ else f_X13_feed_76 rec23 l1 l2 l3 l4 l5 l6 l4 σ) else f_X13_feed_76 rec23 l1 l2 l3 l4 l5 l6 l3 σ) else f_X13_feed_76 rec23 l1 l2 l3 l4 l5 l6 l2 σ) else f_X13_feed_76 rec23 l1 l2 l3 l4 l5 l6 l1 σ))
noncomputable def f_X13_feed_23  (n : Nat) : Int32 → Int32 → Int32 → Int32 → Int32 → Int32 → jM → Option (Int32 × jM) := Nat.rec (motive := fun _ => Int32 → Int32 → Int32 → Int32 → Int32 → Int32 → jM → Option (Int32 × jM)) (fun _ _ _ _ _ _ _ => none) (fun _ q => s_X13_feed_23  q) n
noncomputable def f_X13_feed (a1 : Int32) (a2 : Int32) (a3 : Int32) (a4 : Int32) (a5 : Int32) (σ : jM) : Option (Int32 × jM) :=
  (if ((rI (wI σ 324 0 0) 324 16) + 20) ≤ 300 then f_X13_feed_23  Fu a1 a2 a3 a4 a5 0 (wI σ 324 0 0) else some ((-1), wI σ 324 0 0))
set_option maxRecDepth 20000 in
set_option maxHeartbeats 4000000 in
theorem t_X13_feed_76 {rec23 : Int32 → Int32 → Int32 → Int32 → Int32 → Int32 → jM → Option (Int32 × jM)} (hrec23 : ∀ (l1 : Int32) (l2 : Int32) (l3 : Int32) (l4 : Int32) (l5 : Int32) (l6 : Int32) (σ : jM) (r : Int32 × jM), rec23 l1 l2 l3 l4 l5 l6 σ = some r → J mi_X13_feed 1 0 0 (jqI r) 23 [(0, .ref 324), (1, .int l1), (2, .int l2), (3, .int l3), (4, .int l4), (5, .int l5), (6, .int l6)] [] (ms σ)) (l1 : Int32) (l2 : Int32) (l3 : Int32) (l4 : Int32) (l5 : Int32) (l6 : Int32) (s0 : Int32) (σ : jM) (r : Int32 × jM)  (h : f_X13_feed_76 rec23 l1 l2 l3 l4 l5 l6 s0 σ = some r) : J mi_X13_feed 1 0 0 (jqI r) 76 [(0, .ref 324), (1, .int l1), (2, .int l2), (3, .int l3), (4, .int l4), (5, .int l5), (6, .int l6)] [.int s0] (ms σ) := by
  unfold f_X13_feed_76 at h
  refine J_istore (i := 7) (ls' := [(7, .int s0), (0, .ref 324), (1, .int l1), (2, .int l2), (3, .int l3), (4, .int l4), (5, .int l5), (6, .int l6)]) dX13_feed_76 (by decide) rfl ?_
  refine J_aload_n 1 dX13_feed_78 rfl ?_
  refine M_getR gf_X13_47_12 dX13_feed_79 (g_324_15 _) k_324 n_324 ?_
  refine J_aload_n 1 dX13_feed_82 rfl ?_
  refine M_getI gf_X13_180_12 dX13_feed_83 k_324 n_324 ?_
  refine J_iload 0 dX13_feed_86 rfl ?_
  refine J_bipush (v := 24) dX13_feed_88 (by decide) ?_
  refine J_bipush (v := 8) dX13_feed_90 (by decide) ?_
  refine J_iload 7 dX13_feed_92 rfl ?_
  refine J_iconst (v := 4) dX13_feed_94 (by decide) ?_
  refine J_irem dX13_feed_95 (by decide) ?_
  refine J_imul dX13_feed_96 ?_
  refine J_isub dX13_feed_97 ?_
  refine J_ishr dX13_feed_98 ?_
  refine J_i2b dX13_feed_99 ?_
  obtain ⟨g3, h⟩ := gd_inv h
  refine M_bast dX13_feed_100 a_336 n_336 g3 ?_
  refine J_aload_n 1 dX13_feed_101 rfl ?_
  refine J_dup dX13_feed_102 rfl ?_
  refine M_getI gf_X13_180_12 dX13_feed_103 k_324 n_324 ?_
  refine J_iconst (v := 1) dX13_feed_106 (by decide) ?_
  refine J_iadd dX13_feed_107 ?_
  refine M_putI pf_X13_180_12 dX13_feed_108 k_324 n_324 ⟨rfl, rfl⟩ ?_
  refine J_iinc (v := (l6 + 1)) (ls' := [(6, .int (l6 + 1)), (7, .int s0), (0, .ref 324), (1, .int l1), (2, .int l2), (3, .int l3), (4, .int l4), (5, .int l5)]) 7 dX13_feed_111 rfl rfl (by decide) rfl ?_
  refine J_goto (tgt := 23) dX13_feed_114 (by decide) ?_
  refine J_pick [2, 3, 4, 5, 6, 7, 0] rfl ?_
  exact hrec23 _ _ _ _ _ _ _ _  h
set_option maxRecDepth 20000 in
set_option maxHeartbeats 4000000 in
theorem t_X13_feed_23  : ∀ (n : Nat) (l1 : Int32) (l2 : Int32) (l3 : Int32) (l4 : Int32) (l5 : Int32) (l6 : Int32) (σ : jM) (r : Int32 × jM), f_X13_feed_23  n l1 l2 l3 l4 l5 l6 σ = some r → J mi_X13_feed 1 0 0 (jqI r) 23 [(0, .ref 324), (1, .int l1), (2, .int l2), (3, .int l3), (4, .int l4), (5, .int l5), (6, .int l6)] [] (ms σ) := by
  intro n
  induction n with
  | zero =>
    intro l1 l2 l3 l4 l5 l6 σ r  h
    have h : (none : Option (Int32 × jM)) = some r := h
    cases h
  | succ n ih =>
    intro l1 l2 l3 l4 l5 l6 σ r  h
    have h : s_X13_feed_23  (f_X13_feed_23  n) l1 l2 l3 l4 l5 l6 σ = some r := h
    unfold s_X13_feed_23 at h
    refine J_iload 6 dX13_feed_23 rfl ?_
    refine J_bipush (v := 20) dX13_feed_25 (by decide) ?_
    refine J_icmp_ge (tgt := 117) dX13_feed_27 (by decide) (fun c9 => ?_) (fun c9 => ?_)
    · have h := (if_pos c9).symm.trans h
      refine J_aload_n 0 dX13_feed_117 rfl ?_
      refine M_getI gf_X13_180_12 dX13_feed_118 k_324 n_324 ?_
      exact J_ret (v := some (.int (rI σ 324 16))) rfl ⟨dX13_feed_121, Or.inl rfl⟩ (jqI_mk h)
    · have h := (if_neg c9).symm.trans h
      refine J_iload 6 dX13_feed_30 rfl ?_
      refine J_iconst (v := 4) dX13_feed_32 (by decide) ?_
      refine J_icmp_ge (tgt := 40) dX13_feed_33 (by decide) (fun c10 => ?_) (fun c10 => ?_)
      · have h := (if_pos c10).symm.trans h
        refine J_iload 6 dX13_feed_40 rfl ?_
        refine J_bipush (v := 8) dX13_feed_42 (by decide) ?_
        refine J_icmp_ge (tgt := 51) dX13_feed_44 (by decide) (fun c11 => ?_) (fun c11 => ?_)
        · have h := (if_pos c11).symm.trans h
          refine J_iload 6 dX13_feed_51 rfl ?_
          refine J_bipush (v := 12) dX13_feed_53 (by decide) ?_
          refine J_icmp_ge (tgt := 62) dX13_feed_55 (by decide) (fun c12 => ?_) (fun c12 => ?_)
          · have h := (if_pos c12).symm.trans h
            refine J_iload 6 dX13_feed_62 rfl ?_
            refine J_bipush (v := 16) dX13_feed_64 (by decide) ?_
            refine J_icmp_ge (tgt := 74) dX13_feed_66 (by decide) (fun c13 => ?_) (fun c13 => ?_)
            · have h := (if_pos c13).symm.trans h
              refine J_iload 5 dX13_feed_74 rfl ?_
              exact t_X13_feed_76 ih _ _ _ _ _ _ _ _ _  h
            · have h := (if_neg c13).symm.trans h
              refine J_iload 4 dX13_feed_69 rfl ?_
              refine J_goto (tgt := 76) dX13_feed_71 (by decide) ?_
              exact t_X13_feed_76 ih _ _ _ _ _ _ _ _ _  h
          · have h := (if_neg c12).symm.trans h
            refine J_iload_n 3 dX13_feed_58 rfl ?_
            refine J_goto (tgt := 76) dX13_feed_59 (by decide) ?_
            exact t_X13_feed_76 ih _ _ _ _ _ _ _ _ _  h
        · have h := (if_neg c11).symm.trans h
          refine J_iload_n 2 dX13_feed_47 rfl ?_
          refine J_goto (tgt := 76) dX13_feed_48 (by decide) ?_
          exact t_X13_feed_76 ih _ _ _ _ _ _ _ _ _  h
      · have h := (if_neg c10).symm.trans h
        refine J_iload_n 1 dX13_feed_36 rfl ?_
        refine J_goto (tgt := 76) dX13_feed_37 (by decide) ?_
        exact t_X13_feed_76 ih _ _ _ _ _ _ _ _ _  h
set_option maxRecDepth 20000 in
set_option maxHeartbeats 4000000 in
theorem t_X13_feed {a1 : Int32} {a2 : Int32} {a3 : Int32} {a4 : Int32} {a5 : Int32} {σ : jM} {r : Int32 × jM}  (h : f_X13_feed a1 a2 a3 a4 a5 σ = some r) : J mi_X13_feed 1 0 0 (jqI r) 0 [(0, .ref 324), (1, .int a1), (2, .int a2), (3, .int a3), (4, .int a4), (5, .int a5)] [] (ms σ) := by
  unfold f_X13_feed at h
  refine J_aload_n 0 dX13_feed_0 rfl ?_
  refine J_iconst (v := 0) dX13_feed_1 (by decide) ?_
  refine M_putI pf_X13_1_12 dX13_feed_2 k_324 n_324 ⟨rfl, rfl⟩ ?_
  refine J_aload_n 0 dX13_feed_5 rfl ?_
  refine M_getI gf_X13_180_12 dX13_feed_6 k_324 n_324 ?_
  refine J_bipush (v := 20) dX13_feed_9 (by decide) ?_
  refine J_iadd dX13_feed_11 ?_
  refine J_sipush (v := 300) dX13_feed_12 (by decide) ?_
  refine J_icmp_le (tgt := 20) dX13_feed_15 (by decide) (fun c14 => ?_) (fun c14 => ?_)
  · have h := (if_pos c14).symm.trans h
    refine J_iconst (v := 0) dX13_feed_20 (by decide) ?_
    refine J_istore (i := 6) (ls' := [(6, .int 0), (0, .ref 324), (1, .int a1), (2, .int a2), (3, .int a3), (4, .int a4), (5, .int a5)]) dX13_feed_21 (by decide) rfl ?_
    refine J_pick [1, 2, 3, 4, 5, 6, 0] rfl ?_
    exact t_X13_feed_23  _ _ _ _ _ _ _ _ _  h
  · have h := (if_neg c14).symm.trans h
    refine J_iconst (v := (-1)) dX13_feed_18 (by decide) ?_
    exact J_ret (v := some (.int (-1))) rfl ⟨dX13_feed_19, Or.inl rfl⟩ (jqI_mk h)
theorem dX13_end_0 : decode cX13_end 0 = .ok (.aload_n 0, 1) := by decide +kernel
theorem dX13_end_1 : decode cX13_end 1 = .ok (.iconst 0, 1) := by decide +kernel
theorem dX13_end_2 : decode cX13_end 2 = .ok (.putfield 1, 3) := by decide +kernel
theorem dX13_end_5 : decode cX13_end 5 = .ok (.iload_n 1, 1) := by decide +kernel
theorem dX13_end_6 : decode cX13_end 6 = .ok (.ifCond .lt 11, 3) := by decide +kernel
theorem dX13_end_9 : decode cX13_end 9 = .ok (.iload_n 1, 1) := by decide +kernel
theorem dX13_end_10 : decode cX13_end 10 = .ok (.aload_n 0, 1) := by decide +kernel
theorem dX13_end_11 : decode cX13_end 11 = .ok (.getfield 180, 3) := by decide +kernel
theorem dX13_end_14 : decode cX13_end 14 = .ok (.if_icmp .le 5, 3) := by decide +kernel
theorem dX13_end_17 : decode cX13_end 17 = .ok (.iconst (-1), 1) := by decide +kernel
theorem dX13_end_18 : decode cX13_end 18 = .ok (.ireturn, 1) := by decide +kernel
theorem dX13_end_19 : decode cX13_end 19 = .ok (.aload_n 0, 1) := by decide +kernel
theorem dX13_end_20 : decode cX13_end 20 = .ok (.iload_n 1, 1) := by decide +kernel
theorem dX13_end_21 : decode cX13_end 21 = .ok (.putfield 180, 3) := by decide +kernel
theorem dX13_end_24 : decode cX13_end 24 = .ok (.iload_n 1, 1) := by decide +kernel
theorem dX13_end_25 : decode cX13_end 25 = .ok (.ireturn, 1) := by decide +kernel
noncomputable def f_X13_end_17   (σ : jM) : Option (Int32 × jM) :=
  some ((-1), σ)
noncomputable def f_X13_end (a1 : Int32) (σ : jM) : Option (Int32 × jM) :=
  (if a1 < 0 then f_X13_end_17   (wI σ 324 0 0) else (if a1 ≤ (rI (wI σ 324 0 0) 324 16) then some (a1, wI (wI σ 324 0 0) 324 16 a1) else f_X13_end_17   (wI σ 324 0 0)))
set_option maxRecDepth 20000 in
set_option maxHeartbeats 4000000 in
theorem t_X13_end_17   (σ : jM) (r : Int32 × jM)  (h : f_X13_end_17   σ = some r) : J mi_X13_end 1 0 0 (jqI r) 17 [] [] (ms σ) := by
  unfold f_X13_end_17 at h
  refine J_iconst (v := (-1)) dX13_end_17 (by decide) ?_
  exact J_ret (v := some (.int (-1))) rfl ⟨dX13_end_18, Or.inl rfl⟩ (jqI_mk h)
set_option maxRecDepth 20000 in
set_option maxHeartbeats 4000000 in
theorem t_X13_end {a1 : Int32} {σ : jM} {r : Int32 × jM}  (h : f_X13_end a1 σ = some r) : J mi_X13_end 1 0 0 (jqI r) 0 [(0, .ref 324), (1, .int a1)] [] (ms σ) := by
  unfold f_X13_end at h
  refine J_aload_n 0 dX13_end_0 rfl ?_
  refine J_iconst (v := 0) dX13_end_1 (by decide) ?_
  refine M_putI pf_X13_1_12 dX13_end_2 k_324 n_324 ⟨rfl, rfl⟩ ?_
  refine J_iload_n 1 dX13_end_5 rfl ?_
  refine J_if_lt (tgt := 17) dX13_end_6 (by decide) (fun c1 => ?_) (fun c1 => ?_)
  · have h := (if_pos c1).symm.trans h
    refine J_pick [] rfl ?_
    exact t_X13_end_17   _ _  h
  · have h := (if_neg c1).symm.trans h
    refine J_iload_n 1 dX13_end_9 rfl ?_
    refine J_aload_n 0 dX13_end_10 rfl ?_
    refine M_getI gf_X13_180_12 dX13_end_11 k_324 n_324 ?_
    refine J_icmp_le (tgt := 19) dX13_end_14 (by decide) (fun c2 => ?_) (fun c2 => ?_)
    · have h := (if_pos c2).symm.trans h
      refine J_aload_n 0 dX13_end_19 rfl ?_
      refine J_iload_n 1 dX13_end_20 rfl ?_
      refine M_putI pf_X13_180_12 dX13_end_21 k_324 n_324 ⟨rfl, rfl⟩ ?_
      refine J_iload_n 1 dX13_end_24 rfl ?_
      exact J_ret (v := some (.int a1)) rfl ⟨dX13_end_25, Or.inl rfl⟩ (jqI_mk h)
    · have h := (if_neg c2).symm.trans h
      refine J_pick [] rfl ?_
      exact t_X13_end_17   _ _  h
theorem dX13_see_0 : decode cX13_see 0 = .ok (.iload_n 1, 1) := by decide +kernel
theorem dX13_see_1 : decode cX13_see 1 = .ok (.aload_n 0, 1) := by decide +kernel
theorem dX13_see_2 : decode cX13_see 2 = .ok (.getfield 180, 3) := by decide +kernel
theorem dX13_see_5 : decode cX13_see 5 = .ok (.if_icmp .ge 12, 3) := by decide +kernel
theorem dX13_see_8 : decode cX13_see 8 = .ok (.aload_n 0, 1) := by decide +kernel
theorem dX13_see_9 : decode cX13_see 9 = .ok (.getfield 47, 3) := by decide +kernel
theorem dX13_see_12 : decode cX13_see 12 = .ok (.iload_n 1, 1) := by decide +kernel
theorem dX13_see_13 : decode cX13_see 13 = .ok (.baload, 1) := by decide +kernel
theorem dX13_see_14 : decode cX13_see 14 = .ok (.goto 4, 3) := by decide +kernel
theorem dX13_see_17 : decode cX13_see 17 = .ok (.iconst 0, 1) := by decide +kernel
theorem dX13_see_18 : decode cX13_see 18 = .ok (.ireturn, 1) := by decide +kernel
noncomputable def f_X13_see_18  (s0 : Int32) (σ : jM) : Option (Int32 × jM) :=
  some (s0, σ)
noncomputable def f_X13_see (a1 : Int32) (σ : jM) : Option (Int32 × jM) :=
  (if (rI σ 324 16) ≤ a1 then f_X13_see_18  0 σ else gd (inb a1 300) (f_X13_see_18  (rI σ 336 (Int32.toNatClampNeg a1)) σ))
set_option maxRecDepth 20000 in
set_option maxHeartbeats 4000000 in
theorem t_X13_see_18  (s0 : Int32) (σ : jM) (r : Int32 × jM)  (h : f_X13_see_18  s0 σ = some r) : J mi_X13_see 1 0 0 (jqI r) 18 [] [.int s0] (ms σ) := by
  unfold f_X13_see_18 at h
  exact J_ret (v := some (.int s0)) rfl ⟨dX13_see_18, Or.inl rfl⟩ (jqI_mk h)
set_option maxRecDepth 20000 in
set_option maxHeartbeats 4000000 in
theorem t_X13_see {a1 : Int32} {σ : jM} {r : Int32 × jM}  (h : f_X13_see a1 σ = some r) : J mi_X13_see 1 0 0 (jqI r) 0 [(0, .ref 324), (1, .int a1)] [] (ms σ) := by
  unfold f_X13_see at h
  refine J_iload_n 1 dX13_see_0 rfl ?_
  refine J_aload_n 0 dX13_see_1 rfl ?_
  refine M_getI gf_X13_180_12 dX13_see_2 k_324 n_324 ?_
  refine J_icmp_ge (tgt := 17) dX13_see_5 (by decide) (fun c2 => ?_) (fun c2 => ?_)
  · have h := (if_pos c2).symm.trans h
    refine J_iconst (v := 0) dX13_see_17 (by decide) ?_
    refine J_pick [] rfl ?_
    exact t_X13_see_18  _ _ _  h
  · have h := (if_neg c2).symm.trans h
    refine J_aload_n 0 dX13_see_8 rfl ?_
    refine M_getR gf_X13_47_12 dX13_see_9 (g_324_15 _) k_324 n_324 ?_
    refine J_iload_n 1 dX13_see_12 rfl ?_
    obtain ⟨g3, h⟩ := gd_inv h
    refine M_bald dX13_see_13 a_336 n_336 g3 ?_
    refine J_goto (tgt := 18) dX13_see_14 (by decide) ?_
    refine J_pick [] rfl ?_
    exact t_X13_see_18  _ _ _  h
theorem dX13_isSmall_0 : decode cX13_isSmall 0 = .ok (.iload_n 0, 1) := by decide +kernel
theorem dX13_isSmall_1 : decode cX13_isSmall 1 = .ok (.bipush 97, 2) := by decide +kernel
theorem dX13_isSmall_3 : decode cX13_isSmall 3 = .ok (.if_icmp .lt 13, 3) := by decide +kernel
theorem dX13_isSmall_6 : decode cX13_isSmall 6 = .ok (.iload_n 0, 1) := by decide +kernel
theorem dX13_isSmall_7 : decode cX13_isSmall 7 = .ok (.bipush 122, 2) := by decide +kernel
theorem dX13_isSmall_9 : decode cX13_isSmall 9 = .ok (.if_icmp .gt 7, 3) := by decide +kernel
theorem dX13_isSmall_12 : decode cX13_isSmall 12 = .ok (.iconst 1, 1) := by decide +kernel
theorem dX13_isSmall_13 : decode cX13_isSmall 13 = .ok (.goto 4, 3) := by decide +kernel
theorem dX13_isSmall_16 : decode cX13_isSmall 16 = .ok (.iconst 0, 1) := by decide +kernel
theorem dX13_isSmall_17 : decode cX13_isSmall 17 = .ok (.ireturn, 1) := by decide +kernel
noncomputable def f_X13_isSmall_17  (s0 : Int32) (σ : jM) : Option (Int32 × jM) :=
  gd (s0 = 0 ∨ s0 = 1) (some (s0, σ))
noncomputable def f_X13_isSmall_16   (σ : jM) : Option (Int32 × jM) :=
  f_X13_isSmall_17  0 σ
noncomputable def f_X13_isSmall (a0 : Int32) (σ : jM) : Option (Int32 × jM) :=
  (if a0 < 97 then f_X13_isSmall_16   σ else (if 122 < a0 then f_X13_isSmall_16   σ else f_X13_isSmall_17  1 σ))
set_option maxRecDepth 20000 in
set_option maxHeartbeats 4000000 in
theorem t_X13_isSmall_17  (s0 : Int32) (σ : jM) (r : Int32 × jM)  (h : f_X13_isSmall_17  s0 σ = some r) : J mi_X13_isSmall 1 0 0 (jqI r) 17 [] [.int s0] (ms σ) := by
  unfold f_X13_isSmall_17 at h
  obtain ⟨g2, h⟩ := gd_inv h
  exact J_ret (v := some (.int s0)) rfl ⟨dX13_isSmall_17, Or.inr (Or.inl ⟨rfl, g2⟩)⟩ (jqI_mk h)
set_option maxRecDepth 20000 in
set_option maxHeartbeats 4000000 in
theorem t_X13_isSmall_16   (σ : jM) (r : Int32 × jM)  (h : f_X13_isSmall_16   σ = some r) : J mi_X13_isSmall 1 0 0 (jqI r) 16 [] [] (ms σ) := by
  unfold f_X13_isSmall_16 at h
  refine J_iconst (v := 0) dX13_isSmall_16 (by decide) ?_
  exact t_X13_isSmall_17  _ _ _  h
set_option maxRecDepth 20000 in
set_option maxHeartbeats 4000000 in
theorem t_X13_isSmall {a0 : Int32} {σ : jM} {r : Int32 × jM}  (h : f_X13_isSmall a0 σ = some r) : J mi_X13_isSmall 1 0 0 (jqI r) 0 [(0, .int a0)] [] (ms σ) := by
  unfold f_X13_isSmall at h
  refine J_iload_n 0 dX13_isSmall_0 rfl ?_
  refine J_bipush (v := 97) dX13_isSmall_1 (by decide) ?_
  refine J_icmp_lt (tgt := 16) dX13_isSmall_3 (by decide) (fun c3 => ?_) (fun c3 => ?_)
  · have h := (if_pos c3).symm.trans h
    refine J_pick [] rfl ?_
    exact t_X13_isSmall_16   _ _  h
  · have h := (if_neg c3).symm.trans h
    refine J_iload_n 0 dX13_isSmall_6 rfl ?_
    refine J_bipush (v := 122) dX13_isSmall_7 (by decide) ?_
    refine J_icmp_gt (tgt := 16) dX13_isSmall_9 (by decide) (fun c4 => ?_) (fun c4 => ?_)
    · have h := (if_pos c4).symm.trans h
      refine J_pick [] rfl ?_
      exact t_X13_isSmall_16   _ _  h
    · have h := (if_neg c4).symm.trans h
      refine J_iconst (v := 1) dX13_isSmall_12 (by decide) ?_
      refine J_goto (tgt := 17) dX13_isSmall_13 (by decide) ?_
      refine J_pick [] rfl ?_
      exact t_X13_isSmall_17  _ _ _  h
theorem dX13_isDigit_0 : decode cX13_isDigit 0 = .ok (.iload_n 0, 1) := by decide +kernel
theorem dX13_isDigit_1 : decode cX13_isDigit 1 = .ok (.bipush 48, 2) := by decide +kernel
theorem dX13_isDigit_3 : decode cX13_isDigit 3 = .ok (.if_icmp .lt 13, 3) := by decide +kernel
theorem dX13_isDigit_6 : decode cX13_isDigit 6 = .ok (.iload_n 0, 1) := by decide +kernel
theorem dX13_isDigit_7 : decode cX13_isDigit 7 = .ok (.bipush 57, 2) := by decide +kernel
theorem dX13_isDigit_9 : decode cX13_isDigit 9 = .ok (.if_icmp .gt 7, 3) := by decide +kernel
theorem dX13_isDigit_12 : decode cX13_isDigit 12 = .ok (.iconst 1, 1) := by decide +kernel
theorem dX13_isDigit_13 : decode cX13_isDigit 13 = .ok (.goto 4, 3) := by decide +kernel
theorem dX13_isDigit_16 : decode cX13_isDigit 16 = .ok (.iconst 0, 1) := by decide +kernel
theorem dX13_isDigit_17 : decode cX13_isDigit 17 = .ok (.ireturn, 1) := by decide +kernel
noncomputable def f_X13_isDigit_17  (s0 : Int32) (σ : jM) : Option (Int32 × jM) :=
  gd (s0 = 0 ∨ s0 = 1) (some (s0, σ))
noncomputable def f_X13_isDigit_16   (σ : jM) : Option (Int32 × jM) :=
  f_X13_isDigit_17  0 σ
noncomputable def f_X13_isDigit (a0 : Int32) (σ : jM) : Option (Int32 × jM) :=
  (if a0 < 48 then f_X13_isDigit_16   σ else (if 57 < a0 then f_X13_isDigit_16   σ else f_X13_isDigit_17  1 σ))
set_option maxRecDepth 20000 in
set_option maxHeartbeats 4000000 in
theorem t_X13_isDigit_17  (s0 : Int32) (σ : jM) (r : Int32 × jM)  (h : f_X13_isDigit_17  s0 σ = some r) : J mi_X13_isDigit 1 0 0 (jqI r) 17 [] [.int s0] (ms σ) := by
  unfold f_X13_isDigit_17 at h
  obtain ⟨g2, h⟩ := gd_inv h
  exact J_ret (v := some (.int s0)) rfl ⟨dX13_isDigit_17, Or.inr (Or.inl ⟨rfl, g2⟩)⟩ (jqI_mk h)
set_option maxRecDepth 20000 in
set_option maxHeartbeats 4000000 in
theorem t_X13_isDigit_16   (σ : jM) (r : Int32 × jM)  (h : f_X13_isDigit_16   σ = some r) : J mi_X13_isDigit 1 0 0 (jqI r) 16 [] [] (ms σ) := by
  unfold f_X13_isDigit_16 at h
  refine J_iconst (v := 0) dX13_isDigit_16 (by decide) ?_
  exact t_X13_isDigit_17  _ _ _  h
set_option maxRecDepth 20000 in
set_option maxHeartbeats 4000000 in
theorem t_X13_isDigit {a0 : Int32} {σ : jM} {r : Int32 × jM}  (h : f_X13_isDigit a0 σ = some r) : J mi_X13_isDigit 1 0 0 (jqI r) 0 [(0, .int a0)] [] (ms σ) := by
  unfold f_X13_isDigit at h
  refine J_iload_n 0 dX13_isDigit_0 rfl ?_
  refine J_bipush (v := 48) dX13_isDigit_1 (by decide) ?_
  refine J_icmp_lt (tgt := 16) dX13_isDigit_3 (by decide) (fun c3 => ?_) (fun c3 => ?_)
  · have h := (if_pos c3).symm.trans h
    refine J_pick [] rfl ?_
    exact t_X13_isDigit_16   _ _  h
  · have h := (if_neg c3).symm.trans h
    refine J_iload_n 0 dX13_isDigit_6 rfl ?_
    refine J_bipush (v := 57) dX13_isDigit_7 (by decide) ?_
    refine J_icmp_gt (tgt := 16) dX13_isDigit_9 (by decide) (fun c4 => ?_) (fun c4 => ?_)
    · have h := (if_pos c4).symm.trans h
      refine J_pick [] rfl ?_
      exact t_X13_isDigit_16   _ _  h
    · have h := (if_neg c4).symm.trans h
      refine J_iconst (v := 1) dX13_isDigit_12 (by decide) ?_
      refine J_goto (tgt := 17) dX13_isDigit_13 (by decide) ?_
      refine J_pick [] rfl ?_
      exact t_X13_isDigit_17  _ _ _  h
