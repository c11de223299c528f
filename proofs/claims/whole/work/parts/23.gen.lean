theorem dJ13_bitCount_95d88_0 : decode cJ13_bitCount_95d88 0 = .ok (.lload_n 0, 1) := by decide +kernel
theorem dJ13_bitCount_95d88_1 : decode cJ13_bitCount_95d88 1 = .ok (.lload_n 0, 1) := by decide +kernel
theorem dJ13_bitCount_95d88_2 : decode cJ13_bitCount_95d88 2 = .ok (.iconst 1, 1) := by decide +kernel
theorem dJ13_bitCount_95d88_3 : decode cJ13_bitCount_95d88 3 = .ok (.lushr, 1) := by decide +kernel
theorem dJ13_bitCount_95d88_4 : decode cJ13_bitCount_95d88 4 = .ok (.ldc2_w 314, 3) := by decide +kernel
theorem dJ13_bitCount_95d88_7 : decode cJ13_bitCount_95d88 7 = .ok (.land, 1) := by decide +kernel
theorem dJ13_bitCount_95d88_8 : decode cJ13_bitCount_95d88 8 = .ok (.lsub, 1) := by decide +kernel
theorem dJ13_bitCount_95d88_9 : decode cJ13_bitCount_95d88 9 = .ok (.lstore_n 0, 1) := by decide +kernel
theorem dJ13_bitCount_95d88_10 : decode cJ13_bitCount_95d88 10 = .ok (.lload_n 0, 1) := by decide +kernel
theorem dJ13_bitCount_95d88_11 : decode cJ13_bitCount_95d88 11 = .ok (.ldc2_w 316, 3) := by decide +kernel
theorem dJ13_bitCount_95d88_14 : decode cJ13_bitCount_95d88 14 = .ok (.land, 1) := by decide +kernel
theorem dJ13_bitCount_95d88_15 : decode cJ13_bitCount_95d88 15 = .ok (.lload_n 0, 1) := by decide +kernel
theorem dJ13_bitCount_95d88_16 : decode cJ13_bitCount_95d88 16 = .ok (.iconst 2, 1) := by decide +kernel
theorem dJ13_bitCount_95d88_17 : decode cJ13_bitCount_95d88 17 = .ok (.lushr, 1) := by decide +kernel
theorem dJ13_bitCount_95d88_18 : decode cJ13_bitCount_95d88 18 = .ok (.ldc2_w 316, 3) := by decide +kernel
theorem dJ13_bitCount_95d88_21 : decode cJ13_bitCount_95d88 21 = .ok (.land, 1) := by decide +kernel
theorem dJ13_bitCount_95d88_22 : decode cJ13_bitCount_95d88 22 = .ok (.ladd, 1) := by decide +kernel
theorem dJ13_bitCount_95d88_23 : decode cJ13_bitCount_95d88 23 = .ok (.lstore_n 0, 1) := by decide +kernel
theorem dJ13_bitCount_95d88_24 : decode cJ13_bitCount_95d88 24 = .ok (.lload_n 0, 1) := by decide +kernel
theorem dJ13_bitCount_95d88_25 : decode cJ13_bitCount_95d88 25 = .ok (.lload_n 0, 1) := by decide +kernel
theorem dJ13_bitCount_95d88_26 : decode cJ13_bitCount_95d88 26 = .ok (.iconst 4, 1) := by decide +kernel
theorem dJ13_bitCount_95d88_27 : decode cJ13_bitCount_95d88 27 = .ok (.lushr, 1) := by decide +kernel
theorem dJ13_bitCount_95d88_28 : decode cJ13_bitCount_95d88 28 = .ok (.ladd, 1) := by decide +kernel
theorem dJ13_bitCount_95d88_29 : decode cJ13_bitCount_95d88 29 = .ok (.ldc2_w 318, 3) := by decide +kernel
theorem dJ13_bitCount_95d88_32 : decode cJ13_bitCount_95d88 32 = .ok (.land, 1) := by decide +kernel
theorem dJ13_bitCount_95d88_33 : decode cJ13_bitCount_95d88 33 = .ok (.lstore_n 0, 1) := by decide +kernel
theorem dJ13_bitCount_95d88_34 : decode cJ13_bitCount_95d88 34 = .ok (.lload_n 0, 1) := by decide +kernel
theorem dJ13_bitCount_95d88_35 : decode cJ13_bitCount_95d88 35 = .ok (.lload_n 0, 1) := by decide +kernel
theorem dJ13_bitCount_95d88_36 : decode cJ13_bitCount_95d88 36 = .ok (.bipush 8, 2) := by decide +kernel
theorem dJ13_bitCount_95d88_38 : decode cJ13_bitCount_95d88 38 = .ok (.lushr, 1) := by decide +kernel
theorem dJ13_bitCount_95d88_39 : decode cJ13_bitCount_95d88 39 = .ok (.ladd, 1) := by decide +kernel
theorem dJ13_bitCount_95d88_40 : decode cJ13_bitCount_95d88 40 = .ok (.lstore_n 0, 1) := by decide +kernel
theorem dJ13_bitCount_95d88_41 : decode cJ13_bitCount_95d88 41 = .ok (.lload_n 0, 1) := by decide +kernel
theorem dJ13_bitCount_95d88_42 : decode cJ13_bitCount_95d88 42 = .ok (.lload_n 0, 1) := by decide +kernel
theorem dJ13_bitCount_95d88_43 : decode cJ13_bitCount_95d88 43 = .ok (.bipush 16, 2) := by decide +kernel
theorem dJ13_bitCount_95d88_45 : decode cJ13_bitCount_95d88 45 = .ok (.lushr, 1) := by decide +kernel
theorem dJ13_bitCount_95d88_46 : decode cJ13_bitCount_95d88 46 = .ok (.ladd, 1) := by decide +kernel
theorem dJ13_bitCount_95d88_47 : decode cJ13_bitCount_95d88 47 = .ok (.lstore_n 0, 1) := by decide +kernel
theorem dJ13_bitCount_95d88_48 : decode cJ13_bitCount_95d88 48 = .ok (.lload_n 0, 1) := by decide +kernel
theorem dJ13_bitCount_95d88_49 : decode cJ13_bitCount_95d88 49 = .ok (.lload_n 0, 1) := by decide +kernel
theorem dJ13_bitCount_95d88_50 : decode cJ13_bitCount_95d88 50 = .ok (.bipush 32, 2) := by decide +kernel
theorem dJ13_bitCount_95d88_52 : decode cJ13_bitCount_95d88 52 = .ok (.lushr, 1) := by decide +kernel
theorem dJ13_bitCount_95d88_53 : decode cJ13_bitCount_95d88 53 = .ok (.ladd, 1) := by decide +kernel
theorem dJ13_bitCount_95d88_54 : decode cJ13_bitCount_95d88 54 = .ok (.lstore_n 0, 1) := by decide +kernel
theorem dJ13_bitCount_95d88_55 : decode cJ13_bitCount_95d88 55 = .ok (.lload_n 0, 1) := by decide +kernel
theorem dJ13_bitCount_95d88_56 : decode cJ13_bitCount_95d88 56 = .ok (.l2i, 1) := by decide +kernel
theorem dJ13_bitCount_95d88_57 : decode cJ13_bitCount_95d88 57 = .ok (.bipush 127, 2) := by decide +kernel
theorem dJ13_bitCount_95d88_59 : decode cJ13_bitCount_95d88 59 = .ok (.iand, 1) := by decide +kernel
theorem dJ13_bitCount_95d88_60 : decode cJ13_bitCount_95d88 60 = .ok (.ireturn, 1) := by decide +kernel
noncomputable def f_J13_bitCount_95d88_55  (l0 : Int64) (σ : jM) : Option (Int32 × jM) :=
  some (((Int64.toInt32 l0) &&& 127), σ)
noncomputable def f_J13_bitCount_95d88_48  (l0 : Int64) (σ : jM) : Option (Int32 × jM) :=
  f_J13_bitCount_95d88_55  (l0 + (jlushr l0 32)) σ
noncomputable def f_J13_bitCount_95d88_41  (l0 : Int64) (σ : jM) : Option (Int32 × jM) :=
  f_J13_bitCount_95d88_48  (l0 + (jlushr l0 16)) σ
noncomputable def f_J13_bitCount_95d88_34  (l0 : Int64) (σ : jM) : Option (Int32 × jM) :=
  f_J13_bitCount_95d88_41  (l0 + (jlushr l0 8)) σ
noncomputable def f_J13_bitCount_95d88_24  (l0 : Int64) (σ : jM) : Option (Int32 × jM) :=
  f_J13_bitCount_95d88_34  ((l0 + (jlushr l0 4)) &&& 1085102592571150095) σ
noncomputable def f_J13_bitCount_95d88_10  (l0 : Int64) (σ : jM) : Option (Int32 × jM) :=
  f_J13_bitCount_95d88_24  ((l0 &&& 3689348814741910323) + ((jlushr l0 2) &&& 3689348814741910323)) σ
noncomputable def f_J13_bitCount_95d88 (a0 : Int64) (σ : jM) : Option (Int32 × jM) :=
  f_J13_bitCount_95d88_10  (a0 - ((jlushr a0 1) &&& 6148914691236517205)) σ
set_option maxRecDepth 20000 in
set_option maxHeartbeats 4000000 in
theorem t_J13_bitCount_95d88_55  (l0 : Int64) (σ : jM) (r : Int32 × jM)  (h : f_J13_bitCount_95d88_55  l0 σ = some r) : J mi_J13_bitCount_95d88 1 0 0 (jqI r) 55 [(0, .long l0)] [] (ms σ) := by
  unfold f_J13_bitCount_95d88_55 at h
  refine J_lload_n 0 dJ13_bitCount_95d88_55 rfl ?_
  refine J_l2i dJ13_bitCount_95d88_56 ?_
  refine J_bipush (v := 127) dJ13_bitCount_95d88_57 (by decide) ?_
  refine J_iand dJ13_bitCount_95d88_59 ?_
  exact J_ret (v := some (.int ((Int64.toInt32 l0) &&& 127))) rfl ⟨dJ13_bitCount_95d88_60, Or.inl rfl⟩ (jqI_mk h)
set_option maxRecDepth 20000 in
set_option maxHeartbeats 4000000 in
theorem t_J13_bitCount_95d88_48  (l0 : Int64) (σ : jM) (r : Int32 × jM)  (h : f_J13_bitCount_95d88_48  l0 σ = some r) : J mi_J13_bitCount_95d88 1 0 0 (jqI r) 48 [(0, .long l0)] [] (ms σ) := by
  unfold f_J13_bitCount_95d88_48 at h
  refine J_lload_n 0 dJ13_bitCount_95d88_48 rfl ?_
  refine J_lload_n 0 dJ13_bitCount_95d88_49 rfl ?_
  refine J_bipush (v := 32) dJ13_bitCount_95d88_50 (by decide) ?_
  refine J_lushr dJ13_bitCount_95d88_52 ?_
  refine J_ladd dJ13_bitCount_95d88_53 ?_
  refine J_lstore_n (i := 0) (ls' := [(0, .long (l0 + (jlushr l0 32)))]) dJ13_bitCount_95d88_54 rfl (by decide) rfl ?_
  exact t_J13_bitCount_95d88_55  _ _ _  h
set_option maxRecDepth 20000 in
set_option maxHeartbeats 4000000 in
theorem t_J13_bitCount_95d88_41  (l0 : Int64) (σ : jM) (r : Int32 × jM)  (h : f_J13_bitCount_95d88_41  l0 σ = some r) : J mi_J13_bitCount_95d88 1 0 0 (jqI r) 41 [(0, .long l0)] [] (ms σ) := by
  unfold f_J13_bitCount_95d88_41 at h
  refine J_lload_n 0 dJ13_bitCount_95d88_41 rfl ?_
  refine J_lload_n 0 dJ13_bitCount_95d88_42 rfl ?_
  refine J_bipush (v := 16) dJ13_bitCount_95d88_43 (by decide) ?_
  refine J_lushr dJ13_bitCount_95d88_45 ?_
  refine J_ladd dJ13_bitCount_95d88_46 ?_
  refine J_lstore_n (i := 0) (ls' := [(0, .long (l0 + (jlushr l0 16)))]) dJ13_bitCount_95d88_47 rfl (by decide) rfl ?_
  exact t_J13_bitCount_95d88_48  _ _ _  h
set_option maxRecDepth 20000 in
set_option maxHeartbeats 4000000 in
theorem t_J13_bitCount_95d88_34  (l0 : Int64) (σ : jM) (r : Int32 × jM)  (h : f_J13_bitCount_95d88_34  l0 σ = some r) : J mi_J13_bitCount_95d88 1 0 0 (jqI r) 34 [(0, .long l0)] [] (ms σ) := by
  unfold f_J13_bitCount_95d88_34 at h
  refine J_lload_n 0 dJ13_bitCount_95d88_34 rfl ?_
  refine J_lload_n 0 dJ13_bitCount_95d88_35 rfl ?_
  refine J_bipush (v := 8) dJ13_bitCount_95d88_36 (by decide) ?_
  refine J_lushr dJ13_bitCount_95d88_38 ?_
  refine J_ladd dJ13_bitCount_95d88_39 ?_
  refine J_lstore_n (i := 0) (ls' := [(0, .long (l0 + (jlushr l0 8)))]) dJ13_bitCount_95d88_40 rfl (by decide) rfl ?_
  exact t_J13_bitCount_95d88_41  _ _ _  h
set_option maxRecDepth 20000 in
set_option maxHeartbeats 4000000 in
theorem t_J13_bitCount_95d88_24  (l0 : Int64) (σ : jM) (r : Int32 × jM)  (h : f_J13_bitCount_95d88_24  l0 σ = some r) : J mi_J13_bitCount_95d88 1 0 0 (jqI r) 24 [(0, .long l0)] [] (ms σ) := by
  unfold f_J13_bitCount_95d88_24 at h
  refine J_lload_n 0 dJ13_bitCount_95d88_24 rfl ?_
  refine J_lload_n 0 dJ13_bitCount_95d88_25 rfl ?_
  refine J_iconst (v := 4) dJ13_bitCount_95d88_26 (by decide) ?_
  refine J_lushr dJ13_bitCount_95d88_27 ?_
  refine J_ladd dJ13_bitCount_95d88_28 ?_
  refine J_ldc2 dJ13_bitCount_95d88_29 ct_J13_318 ?_
  refine J_land dJ13_bitCount_95d88_32 ?_
  refine J_lstore_n (i := 0) (ls' := [(0, .long ((l0 + (jlushr l0 4)) &&& 1085102592571150095))]) dJ13_bitCount_95d88_33 rfl (by decide) rfl ?_
  exact t_J13_bitCount_95d88_34  _ _ _  h
set_option maxRecDepth 20000 in
set_option maxHeartbeats 4000000 in
theorem t_J13_bitCount_95d88_10  (l0 : Int64) (σ : jM) (r : Int32 × jM)  (h : f_J13_bitCount_95d88_10  l0 σ = some r) : J mi_J13_bitCount_95d88 1 0 0 (jqI r) 10 [(0, .long l0)] [] (ms σ) := by
  unfold f_J13_bitCount_95d88_10 at h
  refine J_lload_n 0 dJ13_bitCount_95d88_10 rfl ?_
  refine J_ldc2 dJ13_bitCount_95d88_11 ct_J13_316 ?_
  refine J_land dJ13_bitCount_95d88_14 ?_
  refine J_lload_n 0 dJ13_bitCount_95d88_15 rfl ?_
  refine J_iconst (v := 2) dJ13_bitCount_95d88_16 (by decide) ?_
  refine J_lushr dJ13_bitCount_95d88_17 ?_
  refine J_ldc2 dJ13_bitCount_95d88_18 ct_J13_316 ?_
  refine J_land dJ13_bitCount_95d88_21 ?_
  refine J_ladd dJ13_bitCount_95d88_22 ?_
  refine J_lstore_n (i := 0) (ls' := [(0, .long ((l0 &&& 3689348814741910323) + ((jlushr l0 2) &&& 3689348814741910323)))]) dJ13_bitCount_95d88_23 rfl (by decide) rfl ?_
  exact t_J13_bitCount_95d88_24  _ _ _  h
set_option maxRecDepth 20000 in
set_option maxHeartbeats 4000000 in
theorem t_J13_bitCount_95d88 {a0 : Int64} {σ : jM} {r : Int32 × jM}  (h : f_J13_bitCount_95d88 a0 σ = some r) : J mi_J13_bitCount_95d88 1 0 0 (jqI r) 0 [(0, .long a0)] [] (ms σ) := by
  unfold f_J13_bitCount_95d88 at h
  refine J_lload_n 0 dJ13_bitCount_95d88_0 rfl ?_
  refine J_lload_n 0 dJ13_bitCount_95d88_1 rfl ?_
  refine J_iconst (v := 1) dJ13_bitCount_95d88_2 (by decide) ?_
  refine J_lushr dJ13_bitCount_95d88_3 ?_
  refine J_ldc2 dJ13_bitCount_95d88_4 ct_J13_314 ?_
  refine J_land dJ13_bitCount_95d88_7 ?_
  refine J_lsub dJ13_bitCount_95d88_8 ?_
  refine J_lstore_n (i := 0) (ls' := [(0, .long (a0 - ((jlushr a0 1) &&& 6148914691236517205)))]) dJ13_bitCount_95d88_9 rfl (by decide) rfl ?_
  exact t_J13_bitCount_95d88_10  _ _ _  h
theorem dX1_possibleCell_0 : decode cX1_possibleCell 0 = .ok (.iload_n 2, 1) := by decide +kernel
theorem dX1_possibleCell_1 : decode cX1_possibleCell 1 = .ok (.istore_n 3, 1) := by decide +kernel
theorem dX1_possibleCell_2 : decode cX1_possibleCell 2 = .ok (.iconst 0, 1) := by decide +kernel
theorem dX1_possibleCell_3 : decode cX1_possibleCell 3 = .ok (.istore 4, 2) := by decide +kernel
theorem dX1_possibleCell_5 : decode cX1_possibleCell 5 = .ok (.iload 4, 2) := by decide +kernel
theorem dX1_possibleCell_7 : decode cX1_possibleCell 7 = .ok (.sipush 135, 3) := by decide +kernel
theorem dX1_possibleCell_10 : decode cX1_possibleCell 10 = .ok (.if_icmp .ge 43, 3) := by decide +kernel
theorem dX1_possibleCell_13 : decode cX1_possibleCell 13 = .ok (.aload_n 0, 1) := by decide +kernel
theorem dX1_possibleCell_14 : decode cX1_possibleCell 14 = .ok (.getfield 19, 3) := by decide +kernel
theorem dX1_possibleCell_17 : decode cX1_possibleCell 17 = .ok (.getfield 53, 3) := by decide +kernel
theorem dX1_possibleCell_20 : decode cX1_possibleCell 20 = .ok (.iload_n 1, 1) := by decide +kernel
theorem dX1_possibleCell_21 : decode cX1_possibleCell 21 = .ok (.invokestatic 57, 3) := by decide +kernel
theorem dX1_possibleCell_24 : decode cX1_possibleCell 24 = .ok (.ifCond .eq 29, 3) := by decide +kernel
theorem dX1_possibleCell_27 : decode cX1_possibleCell 27 = .ok (.aload_n 0, 1) := by decide +kernel
theorem dX1_possibleCell_28 : decode cX1_possibleCell 28 = .ok (.iload_n 1, 1) := by decide +kernel
theorem dX1_possibleCell_29 : decode cX1_possibleCell 29 = .ok (.iload 4, 2) := by decide +kernel
theorem dX1_possibleCell_31 : decode cX1_possibleCell 31 = .ok (.invokevirtual 50, 3) := by decide +kernel
theorem dX1_possibleCell_34 : decode cX1_possibleCell 34 = .ok (.ifCond .le 13, 3) := by decide +kernel
theorem dX1_possibleCell_37 : decode cX1_possibleCell 37 = .ok (.iload_n 3, 1) := by decide +kernel
theorem dX1_possibleCell_38 : decode cX1_possibleCell 38 = .ok (.ifCond .ne 6, 3) := by decide +kernel
theorem dX1_possibleCell_41 : decode cX1_possibleCell 41 = .ok (.iload 4, 2) := by decide +kernel
theorem dX1_possibleCell_43 : decode cX1_possibleCell 43 = .ok (.ireturn, 1) := by decide +kernel
theorem dX1_possibleCell_44 : decode cX1_possibleCell 44 = .ok (.iinc 3 (-1), 3) := by decide +kernel
theorem dX1_possibleCell_47 : decode cX1_possibleCell 47 = .ok (.iinc 4 1, 3) := by decide +kernel
theorem dX1_possibleCell_50 : decode cX1_possibleCell 50 = .ok (.goto (-45), 3) := by decide +kernel
theorem dX1_possibleCell_53 : decode cX1_possibleCell 53 = .ok (.iconst (-1), 1) := by decide +kernel
theorem dX1_possibleCell_54 : decode cX1_possibleCell 54 = .ok (.ireturn, 1) := by decide +kernel
noncomputable def f_X1_possibleCell_53   (σ : jM) : Option (Int32 × jM) :=
  some ((-1), σ)
noncomputable def f_X1_possibleCell_47 (rec5 : Int32 → Int32 → Int32 → jM → Option (Int32 × jM)) (l1 : Int32) (l3 : Int32) (l4 : Int32) (σ : jM) : Option (Int32 × jM) :=
  rec5 l1 l3 (l4 + 1) σ
noncomputable def s_X1_possibleCell_5  (rec5 : Int32 → Int32 → Int32 → jM → Option (Int32 × jM)) (l1 : Int32) (l3 : Int32) (l4 : Int32) (σ : jM) : Option (Int32 × jM) :=
  (if 135 ≤ l4 then f_X1_possibleCell_53   σ else bd (f_X12_has (rL σ 296 1) l1 σ) (fun r2 σ3 => (if r2 = 0 then f_X1_possibleCell_53   σ3 else bd (f_X1_waysWith l1 l4 σ3) (fun r6 σ7 => (if r6 ≤ 0 then f_X1_possibleCell_47 rec5 l1 l3 l4 σ7 else (if l3 = 0 then some (l4, σ7) else f_X1_possibleCell_47 rec5 l1 (l3 + (-1)) l4 σ7))))))
noncomputable def f_X1_possibleCell_5  (n : Nat) : Int32 → Int32 → Int32 → jM → Option (Int32 × jM) := Nat.rec (motive := fun _ => Int32 → Int32 → Int32 → jM → Option (Int32 × jM)) (fun _ _ _ _ => none) (fun _ q => s_X1_possibleCell_5  q) n
noncomputable def f_X1_possibleCell (a1 : Int32) (a2 : Int32) (σ : jM) : Option (Int32 × jM) :=
  f_X1_possibleCell_5  Fu a1 a2 0 σ
set_option maxRecDepth 20000 in
set_option maxHeartbeats 4000000 in
theorem t_X1_possibleCell_53   (σ : jM) (r : Int32 × jM)  (h : f_X1_possibleCell_53   σ = some r) : J mi_X1_possibleCell 2 0 0 (jqI r) 53 [] [] (ms σ) := by
  unfold f_X1_possibleCell_53 at h
  refine J_iconst (v := (-1)) dX1_possibleCell_53 (by decide) ?_
  exact J_ret (v := some (.int (-1))) rfl ⟨dX1_possibleCell_54, Or.inl rfl⟩ (jqI_mk h)
set_option maxRecDepth 20000 in
set_option maxHeartbeats 4000000 in
theorem t_X1_possibleCell_47 {rec5 : Int32 → Int32 → Int32 → jM → Option (Int32 × jM)} (hrec5 : ∀ (l1 : Int32) (l3 : Int32) (l4 : Int32) (σ : jM) (r : Int32 × jM), rec5 l1 l3 l4 σ = some r → J mi_X1_possibleCell 2 0 0 (jqI r) 5 [(0, .ref 322), (1, .int l1), (3, .int l3), (4, .int l4)] [] (ms σ)) (l1 : Int32) (l3 : Int32) (l4 : Int32) (σ : jM) (r : Int32 × jM)  (h : f_X1_possibleCell_47 rec5 l1 l3 l4 σ = some r) : J mi_X1_possibleCell 2 0 0 (jqI r) 47 [(0, .ref 322), (1, .int l1), (3, .int l3), (4, .int l4)] [] (ms σ) := by
  unfold f_X1_possibleCell_47 at h
  refine J_iinc (v := (l4 + 1)) (ls' := [(4, .int (l4 + 1)), (0, .ref 322), (1, .int l1), (3, .int l3)]) 3 dX1_possibleCell_47 rfl rfl (by decide) rfl ?_
  refine J_goto (tgt := 5) dX1_possibleCell_50 (by decide) ?_
  refine J_pick [1, 2, 3, 0] rfl ?_
  exact hrec5 _ _ _ _ _  h
set_option maxRecDepth 20000 in
set_option maxHeartbeats 4000000 in
theorem t_X1_possibleCell_5  : ∀ (n : Nat) (l1 : Int32) (l3 : Int32) (l4 : Int32) (σ : jM) (r : Int32 × jM), f_X1_possibleCell_5  n l1 l3 l4 σ = some r → J mi_X1_possibleCell 2 0 0 (jqI r) 5 [(0, .ref 322), (1, .int l1), (3, .int l3), (4, .int l4)] [] (ms σ) := by
  intro n
  induction n with
  | zero =>
    intro l1 l3 l4 σ r  h
    have h : (none : Option (Int32 × jM)) = some r := h
    cases h
  | succ n ih =>
    intro l1 l3 l4 σ r  h
    have h : s_X1_possibleCell_5  (f_X1_possibleCell_5  n) l1 l3 l4 σ = some r := h
    unfold s_X1_possibleCell_5 at h
    refine J_iload 3 dX1_possibleCell_5 rfl ?_
    refine J_sipush (v := 135) dX1_possibleCell_7 (by decide) ?_
    refine J_icmp_ge (tgt := 53) dX1_possibleCell_10 (by decide) (fun c11 => ?_) (fun c11 => ?_)
    · have h := (if_pos c11).symm.trans h
      refine J_pick [] rfl ?_
      exact t_X1_possibleCell_53   _ _  h
    · have h := (if_neg c11).symm.trans h
      refine J_aload_n 0 dX1_possibleCell_13 rfl ?_
      refine M_getR gf_X1_19_1 dX1_possibleCell_14 (g_322_4 _) k_322 n_322 ?_
      refine M_getL gf_X1_53_7 dX1_possibleCell_17 k_296 n_296 ?_
      refine J_iload_n 1 dX1_possibleCell_20 rfl ?_
      obtain ⟨r12, σ13, h14, h⟩ := bd_inv h
      refine M_callNI (d' := 1) (As := [.long (rL σ 296 1), .int l1]) (st := []) cn_X1_57 dX1_possibleCell_21 rfl (Nat.le_of_ble_eq_true rfl) (Nat.le_of_ble_eq_true rfl) (by decide) rfl rfl (t_X12_has  h14) ?_
      refine J_if_eq (tgt := 53) dX1_possibleCell_24 (by decide) (fun c15 => ?_) (fun c15 => ?_)
      · have h := (if_pos c15).symm.trans h
        refine J_pick [] rfl ?_
        exact t_X1_possibleCell_53   _ _  h
      · have h := (if_neg c15).symm.trans h
        refine J_aload_n 0 dX1_possibleCell_27 rfl ?_
        refine J_iload_n 1 dX1_possibleCell_28 rfl ?_
        refine J_iload 3 dX1_possibleCell_29 rfl ?_
        obtain ⟨r16, σ17, h18, h⟩ := bd_inv h
        refine M_callVI (d' := 1) (k := 322) (As := [.int l1, .int l4]) (st := []) cv_X1_50 dX1_possibleCell_31 rfl (by decide) rfl (Nat.le_of_ble_eq_true rfl) (Nat.le_of_ble_eq_true rfl) (by decide) n_322 k_322 rfl rfl (t_X1_waysWith  h18) ?_
        refine J_if_le (tgt := 47) dX1_possibleCell_34 (by decide) (fun c19 => ?_) (fun c19 => ?_)
        · have h := (if_pos c19).symm.trans h
          exact t_X1_possibleCell_47 ih _ _ _ _ _  h
        · have h := (if_neg c19).symm.trans h
          refine J_iload_n 2 dX1_possibleCell_37 rfl ?_
          refine J_if_ne (tgt := 44) dX1_possibleCell_38 (by decide) (fun c20 => ?_) (fun c20 => ?_)
          · have h := (if_neg c20).symm.trans h
            refine J_iinc (v := (l3 + (-1))) (ls' := [(3, .int (l3 + (-1))), (0, .ref 322), (1, .int l1), (4, .int l4)]) 2 dX1_possibleCell_44 rfl rfl (by decide) rfl ?_
            refine J_pick [1, 2, 0, 3] rfl ?_
            exact t_X1_possibleCell_47 ih _ _ _ _ _  h
          · have h := (if_pos c20).symm.trans h
            refine J_iload 3 dX1_possibleCell_41 rfl ?_
            exact J_ret (v := some (.int l4)) rfl ⟨dX1_possibleCell_43, Or.inl rfl⟩ (jqI_mk h)
set_option maxRecDepth 20000 in
set_option maxHeartbeats 4000000 in
theorem t_X1_possibleCell {a1 : Int32} {a2 : Int32} {σ : jM} {r : Int32 × jM}  (h : f_X1_possibleCell a1 a2 σ = some r) : J mi_X1_possibleCell 2 0 0 (jqI r) 0 [(0, .ref 322), (1, .int a1), (2, .int a2)] [] (ms σ) := by
  unfold f_X1_possibleCell at h
  refine J_iload_n 2 dX1_possibleCell_0 rfl ?_
  refine J_istore_n (i := 3) (ls' := [(3, .int a2), (0, .ref 322), (1, .int a1), (2, .int a2)]) dX1_possibleCell_1 rfl (by decide) rfl ?_
  refine J_iconst (v := 0) dX1_possibleCell_2 (by decide) ?_
  refine J_istore (i := 4) (ls' := [(4, .int 0), (3, .int a2), (0, .ref 322), (1, .int a1), (2, .int a2)]) dX1_possibleCell_3 (by decide) rfl ?_
  refine J_pick [2, 3, 1, 0] rfl ?_
  exact t_X1_possibleCell_5  _ _ _ _ _ _  h
theorem dX1_mostAgreeing_0 : decode cX1_mostAgreeing 0 = .ok (.iconst 0, 1) := by decide +kernel
theorem dX1_mostAgreeing_1 : decode cX1_mostAgreeing 1 = .ok (.istore_n 2, 1) := by decide +kernel
theorem dX1_mostAgreeing_2 : decode cX1_mostAgreeing 2 = .ok (.aload_n 0, 1) := by decide +kernel
theorem dX1_mostAgreeing_3 : decode cX1_mostAgreeing 3 = .ok (.getfield 39, 3) := by decide +kernel
theorem dX1_mostAgreeing_6 : decode cX1_mostAgreeing 6 = .ok (.istore_n 3, 1) := by decide +kernel
theorem dX1_mostAgreeing_7 : decode cX1_mostAgreeing 7 = .ok (.iconst 0, 1) := by decide +kernel
theorem dX1_mostAgreeing_8 : decode cX1_mostAgreeing 8 = .ok (.istore 4, 2) := by decide +kernel
theorem dX1_mostAgreeing_10 : decode cX1_mostAgreeing 10 = .ok (.iload 4, 2) := by decide +kernel
theorem dX1_mostAgreeing_12 : decode cX1_mostAgreeing 12 = .ok (.sipush 135, 3) := by decide +kernel
theorem dX1_mostAgreeing_15 : decode cX1_mostAgreeing 15 = .ok (.if_icmp .ge 44, 3) := by decide +kernel
theorem dX1_mostAgreeing_18 : decode cX1_mostAgreeing 18 = .ok (.aload_n 0, 1) := by decide +kernel
theorem dX1_mostAgreeing_19 : decode cX1_mostAgreeing 19 = .ok (.getfield 19, 3) := by decide +kernel
theorem dX1_mostAgreeing_22 : decode cX1_mostAgreeing 22 = .ok (.getfield 53, 3) := by decide +kernel
theorem dX1_mostAgreeing_25 : decode cX1_mostAgreeing 25 = .ok (.iload_n 1, 1) := by decide +kernel
theorem dX1_mostAgreeing_26 : decode cX1_mostAgreeing 26 = .ok (.invokestatic 57, 3) := by decide +kernel
theorem dX1_mostAgreeing_29 : decode cX1_mostAgreeing 29 = .ok (.ifCond .eq 30, 3) := by decide +kernel
theorem dX1_mostAgreeing_32 : decode cX1_mostAgreeing 32 = .ok (.aload_n 0, 1) := by decide +kernel
theorem dX1_mostAgreeing_33 : decode cX1_mostAgreeing 33 = .ok (.iload_n 1, 1) := by decide +kernel
theorem dX1_mostAgreeing_34 : decode cX1_mostAgreeing 34 = .ok (.iload 4, 2) := by decide +kernel
theorem dX1_mostAgreeing_36 : decode cX1_mostAgreeing 36 = .ok (.invokevirtual 50, 3) := by decide +kernel
theorem dX1_mostAgreeing_39 : decode cX1_mostAgreeing 39 = .ok (.istore 5, 2) := by decide +kernel
theorem dX1_mostAgreeing_41 : decode cX1_mostAgreeing 41 = .ok (.iload_n 2, 1) := by decide +kernel
theorem dX1_mostAgreeing_42 : decode cX1_mostAgreeing 42 = .ok (.iload 5, 2) := by decide +kernel
theorem dX1_mostAgreeing_44 : decode cX1_mostAgreeing 44 = .ok (.invokestatic 65, 3) := by decide +kernel
theorem dX1_mostAgreeing_47 : decode cX1_mostAgreeing 47 = .ok (.istore_n 2, 1) := by decide +kernel
theorem dX1_mostAgreeing_48 : decode cX1_mostAgreeing 48 = .ok (.iload_n 3, 1) := by decide +kernel
theorem dX1_mostAgreeing_49 : decode cX1_mostAgreeing 49 = .ok (.iload 5, 2) := by decide +kernel
theorem dX1_mostAgreeing_51 : decode cX1_mostAgreeing 51 = .ok (.isub, 1) := by decide +kernel
theorem dX1_mostAgreeing_52 : decode cX1_mostAgreeing 52 = .ok (.istore_n 3, 1) := by decide +kernel
theorem dX1_mostAgreeing_53 : decode cX1_mostAgreeing 53 = .ok (.iinc 4 1, 3) := by decide +kernel
theorem dX1_mostAgreeing_56 : decode cX1_mostAgreeing 56 = .ok (.goto (-46), 3) := by decide +kernel
theorem dX1_mostAgreeing_59 : decode cX1_mostAgreeing 59 = .ok (.iload_n 2, 1) := by decide +kernel
theorem dX1_mostAgreeing_60 : decode cX1_mostAgreeing 60 = .ok (.iload_n 3, 1) := by decide +kernel
theorem dX1_mostAgreeing_61 : decode cX1_mostAgreeing 61 = .ok (.invokestatic 65, 3) := by decide +kernel
theorem dX1_mostAgreeing_64 : decode cX1_mostAgreeing 64 = .ok (.ireturn, 1) := by decide +kernel
noncomputable def f_X1_mostAgreeing_59  (l2 : Int32) (l3 : Int32) (σ : jM) : Option (Int32 × jM) :=
  some ((if l2 < l3 then l3 else l2), σ)
noncomputable def s_X1_mostAgreeing_10  (rec10 : Int32 → Int32 → Int32 → Int32 → jM → Option (Int32 × jM)) (l1 : Int32) (l2 : Int32) (l3 : Int32) (l4 : Int32) (σ : jM) : Option (Int32 × jM) :=
  (if 135 ≤ l4 then f_X1_mostAgreeing_59  l2 l3 σ else bd (f_X12_has (rL σ 296 1) l1 σ) (fun r2 σ3 => (if r2 = 0 then f_X1_mostAgreeing_59  l2 l3 σ3 else bd (f_X1_waysWith l1 l4 σ3) (fun r6 σ7 => rec10 l1 (if l2 < r6 then r6 else l2) (l3 - r6) (l4 + 1) σ7))))
noncomputable def f_X1_mostAgreeing_10  (n : Nat) : Int32 → Int32 → Int32 → Int32 → jM → Option (Int32 × jM) := Nat.rec (motive := fun _ => Int32 → Int32 → Int32 → Int32 → jM → Option (Int32 × jM)) (fun _ _ _ _ _ => none) (fun _ q => s_X1_mostAgreeing_10  q) n
noncomputable def f_X1_mostAgreeing (a1 : Int32) (σ : jM) : Option (Int32 × jM) :=
  f_X1_mostAgreeing_10  Fu a1 0 (rI σ 322 0) 0 σ
set_option maxRecDepth 20000 in
set_option maxHeartbeats 4000000 in
theorem t_X1_mostAgreeing_59  (l2 : Int32) (l3 : Int32) (σ : jM) (r : Int32 × jM)  (h : f_X1_mostAgreeing_59  l2 l3 σ = some r) : J mi_X1_mostAgreeing 2 0 0 (jqI r) 59 [(2, .int l2), (3, .int l3)] [] (ms σ) := by
  unfold f_X1_mostAgreeing_59 at h
  refine J_iload_n 0 dX1_mostAgreeing_59 rfl ?_
  refine J_iload_n 1 dX1_mostAgreeing_60 rfl ?_
  refine J_max mm_X1_65 dX1_mostAgreeing_61 (Nat.le_of_ble_eq_true rfl) (by decide) ?_
  exact J_ret (v := some (.int (if l2 < l3 then l3 else l2))) rfl ⟨dX1_mostAgreeing_64, Or.inl rfl⟩ (jqI_mk h)
set_option maxRecDepth 20000 in
set_option maxHeartbeats 4000000 in
theorem t_X1_mostAgreeing_10  : ∀ (n : Nat) (l1 : Int32) (l2 : Int32) (l3 : Int32) (l4 : Int32) (σ : jM) (r : Int32 × jM), f_X1_mostAgreeing_10  n l1 l2 l3 l4 σ = some r → J mi_X1_mostAgreeing 2 0 0 (jqI r) 10 [(0, .ref 322), (1, .int l1), (2, .int l2), (3, .int l3), (4, .int l4)] [] (ms σ) := by
  intro n
  induction n with
  | zero =>
    intro l1 l2 l3 l4 σ r  h
    have h : (none : Option (Int32 × jM)) = some r := h
    cases h
  | succ n ih =>
    intro l1 l2 l3 l4 σ r  h
    have h : s_X1_mostAgreeing_10  (f_X1_mostAgreeing_10  n) l1 l2 l3 l4 σ = some r := h
    unfold s_X1_mostAgreeing_10 at h
    refine J_iload 4 dX1_mostAgreeing_10 rfl ?_
    refine J_sipush (v := 135) dX1_mostAgreeing_12 (by decide) ?_
    refine J_icmp_ge (tgt := 59) dX1_mostAgreeing_15 (by decide) (fun c9 => ?_) (fun c9 => ?_)
    · have h := (if_pos c9).symm.trans h
      refine J_pick [2, 3] rfl ?_
      exact t_X1_mostAgreeing_59  _ _ _ _  h
    · have h := (if_neg c9).symm.trans h
      refine J_aload_n 0 dX1_mostAgreeing_18 rfl ?_
      refine M_getR gf_X1_19_1 dX1_mostAgreeing_19 (g_322_4 _) k_322 n_322 ?_
      refine M_getL gf_X1_53_7 dX1_mostAgreeing_22 k_296 n_296 ?_
      refine J_iload_n 1 dX1_mostAgreeing_25 rfl ?_
      obtain ⟨r10, σ11, h12, h⟩ := bd_inv h
      refine M_callNI (d' := 1) (As := [.long (rL σ 296 1), .int l1]) (st := []) cn_X1_57 dX1_mostAgreeing_26 rfl (Nat.le_of_ble_eq_true rfl) (Nat.le_of_ble_eq_true rfl) (by decide) rfl rfl (t_X12_has  h12) ?_
      refine J_if_eq (tgt := 59) dX1_mostAgreeing_29 (by decide) (fun c13 => ?_) (fun c13 => ?_)
      · have h := (if_pos c13).symm.trans h
        refine J_pick [2, 3] rfl ?_
        exact t_X1_mostAgreeing_59  _ _ _ _  h
      · have h := (if_neg c13).symm.trans h
        refine J_aload_n 0 dX1_mostAgreeing_32 rfl ?_
        refine J_iload_n 1 dX1_mostAgreeing_33 rfl ?_
        refine J_iload 4 dX1_mostAgreeing_34 rfl ?_
        obtain ⟨r14, σ15, h16, h⟩ := bd_inv h
        refine M_callVI (d' := 1) (k := 322) (As := [.int l1, .int l4]) (st := []) cv_X1_50 dX1_mostAgreeing_36 rfl (by decide) rfl (Nat.le_of_ble_eq_true rfl) (Nat.le_of_ble_eq_true rfl) (by decide) n_322 k_322 rfl rfl (t_X1_waysWith  h16) ?_
        refine J_istore (i := 5) (ls' := [(5, .int r14), (0, .ref 322), (1, .int l1), (2, .int l2), (3, .int l3), (4, .int l4)]) dX1_mostAgreeing_39 (by decide) rfl ?_
        refine J_iload_n 3 dX1_mostAgreeing_41 rfl ?_
        refine J_iload 0 dX1_mostAgreeing_42 rfl ?_
        refine J_max mm_X1_65 dX1_mostAgreeing_44 (Nat.le_of_ble_eq_true rfl) (by decide) ?_
        refine J_istore_n (i := 2) (ls' := [(2, .int (if l2 < r14 then r14 else l2)), (5, .int r14), (0, .ref 322), (1, .int l1), (3, .int l3), (4, .int l4)]) dX1_mostAgreeing_47 rfl (by decide) rfl ?_
        refine J_iload_n 4 dX1_mostAgreeing_48 rfl ?_
        refine J_iload 1 dX1_mostAgreeing_49 rfl ?_
        refine J_isub dX1_mostAgreeing_51 ?_
        refine J_istore_n (i := 3) (ls' := [(3, .int (l3 - r14)), (2, .int (if l2 < r14 then r14 else l2)), (5, .int r14), (0, .ref 322), (1, .int l1), (4, .int l4)]) dX1_mostAgreeing_52 rfl (by decide) rfl ?_
        refine J_iinc (v := (l4 + 1)) (ls' := [(4, .int (l4 + 1)), (3, .int (l3 - r14)), (2, .int (if l2 < r14 then r14 else l2)), (5, .int r14), (0, .ref 322), (1, .int l1)]) 5 dX1_mostAgreeing_53 rfl rfl (by decide) rfl ?_
        refine J_goto (tgt := 10) dX1_mostAgreeing_56 (by decide) ?_
        refine J_pick [4, 5, 2, 1, 0] rfl ?_
        exact ih _ _ _ _ _ _  h
set_option maxRecDepth 20000 in
set_option maxHeartbeats 4000000 in
theorem t_X1_mostAgreeing {a1 : Int32} {σ : jM} {r : Int32 × jM}  (h : f_X1_mostAgreeing a1 σ = some r) : J mi_X1_mostAgreeing 2 0 0 (jqI r) 0 [(0, .ref 322), (1, .int a1)] [] (ms σ) := by
  unfold f_X1_mostAgreeing at h
  refine J_iconst (v := 0) dX1_mostAgreeing_0 (by decide) ?_
  refine J_istore_n (i := 2) (ls' := [(2, .int 0), (0, .ref 322), (1, .int a1)]) dX1_mostAgreeing_1 rfl (by decide) rfl ?_
  refine J_aload_n 1 dX1_mostAgreeing_2 rfl ?_
  refine M_getI gf_X1_39_1 dX1_mostAgreeing_3 k_322 n_322 ?_
  refine J_istore_n (i := 3) (ls' := [(3, .int (rI σ 322 0)), (2, .int 0), (0, .ref 322), (1, .int a1)]) dX1_mostAgreeing_6 rfl (by decide) rfl ?_
  refine J_iconst (v := 0) dX1_mostAgreeing_7 (by decide) ?_
  refine J_istore (i := 4) (ls' := [(4, .int 0), (3, .int (rI σ 322 0)), (2, .int 0), (0, .ref 322), (1, .int a1)]) dX1_mostAgreeing_8 (by decide) rfl ?_
  refine J_pick [3, 4, 2, 1, 0] rfl ?_
  exact t_X1_mostAgreeing_10  _ _ _ _ _ _ _  h
theorem dX1_countPlacesOf_0 : decode cX1_countPlacesOf 0 = .ok (.iconst 0, 1) := by decide +kernel
theorem dX1_countPlacesOf_1 : decode cX1_countPlacesOf 1 = .ok (.istore_n 2, 1) := by decide +kernel
theorem dX1_countPlacesOf_2 : decode cX1_countPlacesOf 2 = .ok (.iload_n 2, 1) := by decide +kernel
theorem dX1_countPlacesOf_3 : decode cX1_countPlacesOf 3 = .ok (.aload_n 1, 1) := by decide +kernel
theorem dX1_countPlacesOf_4 : decode cX1_countPlacesOf 4 = .ok (.getfield 110, 3) := by decide +kernel
theorem dX1_countPlacesOf_7 : decode cX1_countPlacesOf 7 = .ok (.if_icmp .ge 90, 3) := by decide +kernel
theorem dX1_countPlacesOf_10 : decode cX1_countPlacesOf 10 = .ok (.iconst 0, 1) := by decide +kernel
theorem dX1_countPlacesOf_11 : decode cX1_countPlacesOf 11 = .ok (.istore_n 3, 1) := by decide +kernel
theorem dX1_countPlacesOf_12 : decode cX1_countPlacesOf 12 = .ok (.iload_n 3, 1) := by decide +kernel
theorem dX1_countPlacesOf_13 : decode cX1_countPlacesOf 13 = .ok (.aload_n 1, 1) := by decide +kernel
theorem dX1_countPlacesOf_14 : decode cX1_countPlacesOf 14 = .ok (.getfield 115, 3) := by decide +kernel
theorem dX1_countPlacesOf_17 : decode cX1_countPlacesOf 17 = .ok (.iload_n 2, 1) := by decide +kernel
theorem dX1_countPlacesOf_18 : decode cX1_countPlacesOf 18 = .ok (.iaload, 1) := by decide +kernel
theorem dX1_countPlacesOf_19 : decode cX1_countPlacesOf 19 = .ok (.if_icmp .ge 72, 3) := by decide +kernel
theorem dX1_countPlacesOf_22 : decode cX1_countPlacesOf 22 = .ok (.aload_n 1, 1) := by decide +kernel
theorem dX1_countPlacesOf_23 : decode cX1_countPlacesOf 23 = .ok (.iload_n 2, 1) := by decide +kernel
theorem dX1_countPlacesOf_24 : decode cX1_countPlacesOf 24 = .ok (.iload_n 3, 1) := by decide +kernel
theorem dX1_countPlacesOf_25 : decode cX1_countPlacesOf 25 = .ok (.invokevirtual 118, 3) := by decide +kernel
theorem dX1_countPlacesOf_28 : decode cX1_countPlacesOf 28 = .ok (.istore 4, 2) := by decide +kernel
theorem dX1_countPlacesOf_30 : decode cX1_countPlacesOf 30 = .ok (.iload 4, 2) := by decide +kernel
theorem dX1_countPlacesOf_32 : decode cX1_countPlacesOf 32 = .ok (.iconst (-1), 1) := by decide +kernel
theorem dX1_countPlacesOf_33 : decode cX1_countPlacesOf 33 = .ok (.if_icmp .eq 52, 3) := by decide +kernel
theorem dX1_countPlacesOf_36 : decode cX1_countPlacesOf 36 = .ok (.aload_n 0, 1) := by decide +kernel
theorem dX1_countPlacesOf_37 : decode cX1_countPlacesOf 37 = .ok (.getfield 15, 3) := by decide +kernel
theorem dX1_countPlacesOf_40 : decode cX1_countPlacesOf 40 = .ok (.getfield 121, 3) := by decide +kernel
theorem dX1_countPlacesOf_43 : decode cX1_countPlacesOf 43 = .ok (.iload 4, 2) := by decide +kernel
theorem dX1_countPlacesOf_45 : decode cX1_countPlacesOf 45 = .ok (.iaload, 1) := by decide +kernel
theorem dX1_countPlacesOf_46 : decode cX1_countPlacesOf 46 = .ok (.iconst 5, 1) := by decide +kernel
theorem dX1_countPlacesOf_47 : decode cX1_countPlacesOf 47 = .ok (.imul, 1) := by decide +kernel
theorem dX1_countPlacesOf_48 : decode cX1_countPlacesOf 48 = .ok (.istore 5, 2) := by decide +kernel
theorem dX1_countPlacesOf_50 : decode cX1_countPlacesOf 50 = .ok (.aload_n 0, 1) := by decide +kernel
theorem dX1_countPlacesOf_51 : decode cX1_countPlacesOf 51 = .ok (.getfield 11, 3) := by decide +kernel
theorem dX1_countPlacesOf_54 : decode cX1_countPlacesOf 54 = .ok (.iload 5, 2) := by decide +kernel
theorem dX1_countPlacesOf_56 : decode cX1_countPlacesOf 56 = .ok (.iload_n 3, 1) := by decide +kernel
theorem dX1_countPlacesOf_57 : decode cX1_countPlacesOf 57 = .ok (.aload_n 1, 1) := by decide +kernel
theorem dX1_countPlacesOf_58 : decode cX1_countPlacesOf 58 = .ok (.getfield 115, 3) := by decide +kernel
theorem dX1_countPlacesOf_61 : decode cX1_countPlacesOf 61 = .ok (.iload_n 2, 1) := by decide +kernel
theorem dX1_countPlacesOf_62 : decode cX1_countPlacesOf 62 = .ok (.iaload, 1) := by decide +kernel
theorem dX1_countPlacesOf_63 : decode cX1_countPlacesOf 63 = .ok (.invokestatic 124, 3) := by decide +kernel
theorem dX1_countPlacesOf_66 : decode cX1_countPlacesOf 66 = .ok (.iadd, 1) := by decide +kernel
theorem dX1_countPlacesOf_67 : decode cX1_countPlacesOf 67 = .ok (.dup2, 1) := by decide +kernel
theorem dX1_countPlacesOf_68 : decode cX1_countPlacesOf 68 = .ok (.iaload, 1) := by decide +kernel
theorem dX1_countPlacesOf_69 : decode cX1_countPlacesOf 69 = .ok (.iconst 1, 1) := by decide +kernel
theorem dX1_countPlacesOf_70 : decode cX1_countPlacesOf 70 = .ok (.iadd, 1) := by decide +kernel
theorem dX1_countPlacesOf_71 : decode cX1_countPlacesOf 71 = .ok (.iastore, 1) := by decide +kernel
theorem dX1_countPlacesOf_72 : decode cX1_countPlacesOf 72 = .ok (.aload_n 0, 1) := by decide +kernel
theorem dX1_countPlacesOf_73 : decode cX1_countPlacesOf 73 = .ok (.getfield 11, 3) := by decide +kernel
theorem dX1_countPlacesOf_76 : decode cX1_countPlacesOf 76 = .ok (.iload 5, 2) := by decide +kernel
theorem dX1_countPlacesOf_78 : decode cX1_countPlacesOf 78 = .ok (.iconst 4, 1) := by decide +kernel
theorem dX1_countPlacesOf_79 : decode cX1_countPlacesOf 79 = .ok (.iadd, 1) := by decide +kernel
theorem dX1_countPlacesOf_80 : decode cX1_countPlacesOf 80 = .ok (.dup2, 1) := by decide +kernel
theorem dX1_countPlacesOf_81 : decode cX1_countPlacesOf 81 = .ok (.iaload, 1) := by decide +kernel
theorem dX1_countPlacesOf_82 : decode cX1_countPlacesOf 82 = .ok (.iconst 1, 1) := by decide +kernel
theorem dX1_countPlacesOf_83 : decode cX1_countPlacesOf 83 = .ok (.iadd, 1) := by decide +kernel
theorem dX1_countPlacesOf_84 : decode cX1_countPlacesOf 84 = .ok (.iastore, 1) := by decide +kernel
theorem dX1_countPlacesOf_85 : decode cX1_countPlacesOf 85 = .ok (.iinc 3 1, 3) := by decide +kernel
theorem dX1_countPlacesOf_88 : decode cX1_countPlacesOf 88 = .ok (.goto (-76), 3) := by decide +kernel
theorem dX1_countPlacesOf_91 : decode cX1_countPlacesOf 91 = .ok (.iinc 2 1, 3) := by decide +kernel
theorem dX1_countPlacesOf_94 : decode cX1_countPlacesOf 94 = .ok (.goto (-92), 3) := by decide +kernel
theorem dX1_countPlacesOf_97 : decode cX1_countPlacesOf 97 = .ok (.return_, 1) := by decide +kernel
noncomputable def f_X1_countPlacesOf_85 (rec2 : Nat → Int32 → jM → Option (Unit × jM)) (rec12 : Nat → Int32 → Int32 → jM → Option (Unit × jM)) (l1 : Nat) (l2 : Int32) (l3 : Int32) (σ : jM) : Option (Unit × jM) :=
  rec12 l1 l2 (l3 + 1) σ
noncomputable def s_X1_countPlacesOf_12 (rec2 : Nat → Int32 → jM → Option (Unit × jM)) (rec12 : Nat → Int32 → Int32 → jM → Option (Unit × jM)) (l1 : Nat) (l2 : Int32) (l3 : Int32) (σ : jM) : Option (Unit × jM) :=
  gd (inb l2 8) ((if (rI σ (tabX l1 + 1) (Int32.toNatClampNeg l2)) ≤ l3 then rec2 l1 (l2 + 1) σ else bd (f_X10_signAt l1 l2 l3 σ) (fun r10 σ11 => (if r10 = (-1) then f_X1_countPlacesOf_85 rec2 rec12 l1 l2 l3 σ11 else gd (inb r10 40) (gd (inb l2 8) (bd (f_X1_kindOfPlace l3 (rI σ11 (tabX l1 + 1) (Int32.toNatClampNeg l2)) σ11) (fun r16 σ17 => gd (inb (((rI σ11 18 (Int32.toNatClampNeg r10)) * 5) + r16) 200) (gd (inb (((rI σ11 18 (Int32.toNatClampNeg r10)) * 5) + r16) 200) (gd (inb (((rI σ11 18 (Int32.toNatClampNeg r10)) * 5) + 4) 200) (gd (inb (((rI σ11 18 (Int32.toNatClampNeg r10)) * 5) + 4) 200) (f_X1_countPlacesOf_85 rec2 rec12 l1 l2 l3 (wI (wI σ17 323 (Int32.toNatClampNeg (((rI σ11 18 (Int32.toNatClampNeg r10)) * 5) + r16)) ((rI σ17 323 (Int32.toNatClampNeg (((rI σ11 18 (Int32.toNatClampNeg r10)) * 5) + r16))) + 1)) 323 (Int32.toNatClampNeg (((rI σ11 18 (Int32.toNatClampNeg r10)) * 5) + 4)) ((rI (wI σ17 323 (Int32.toNatClampNeg (((rI σ11 18 (Int32.toNatClampNeg r10)) * 5) + r16)) ((rI σ17 323 (Int32.toNatClampNeg (((rI σ11 18 (Int32.toNatClampNeg r10)) * 5) + r16))) + 1)) 323 (Int32.toNatClampNeg (((rI σ11 18 (Int32.toNatClampNeg r10)) * 5) + 4))) + 1)))))))))))))
noncomputable def f_X1_countPlacesOf_12 (rec2 : Nat → Int32 → jM → Option (Unit × jM)) (n : Nat) : Nat → Int32 → Int32 → jM → Option (Unit × jM) := Nat.rec (motive := fun _ => Nat → Int32 → Int32 → jM → Option (Unit × jM)) (fun _ _ _ _ => none) (fun _ q => s_X1_countPlacesOf_12 rec2 q) n
noncomputable def s_X1_countPlacesOf_2  (rec2 : Nat → Int32 → jM → Option (Unit × jM)) (l1 : Nat) (l2 : Int32) (σ : jM) : Option (Unit × jM) :=
  (if (rI σ (tabX l1) 2) ≤ l2 then some ((), σ) else f_X1_countPlacesOf_12 rec2 Fu l1 l2 0 σ)
noncomputable def f_X1_countPlacesOf_2  (n : Nat) : Nat → Int32 → jM → Option (Unit × jM) := Nat.rec (motive := fun _ => Nat → Int32 → jM → Option (Unit × jM)) (fun _ _ _ => none) (fun _ q => s_X1_countPlacesOf_2  q) n
noncomputable def f_X1_countPlacesOf (a1 : Nat) (σ : jM) : Option (Unit × jM) :=
  f_X1_countPlacesOf_2  Fu a1 0 σ
set_option maxRecDepth 20000 in
set_option maxHeartbeats 4000000 in
theorem t_X1_countPlacesOf_85 {rec2 : Nat → Int32 → jM → Option (Unit × jM)} (hrec2 : ∀ (l1 : Nat) (l2 : Int32) (σ : jM) (r : Unit × jM), l1 < 24 → rec2 l1 l2 σ = some r → J mi_X1_countPlacesOf 2 0 0 (jqV r) 2 [(0, .ref 322), (1, .ref (tabX l1)), (2, .int l2)] [] (ms σ)) {rec12 : Nat → Int32 → Int32 → jM → Option (Unit × jM)} (hrec12 : ∀ (l1 : Nat) (l2 : Int32) (l3 : Int32) (σ : jM) (r : Unit × jM), l1 < 24 → rec12 l1 l2 l3 σ = some r → J mi_X1_countPlacesOf 2 0 0 (jqV r) 12 [(0, .ref 322), (1, .ref (tabX l1)), (2, .int l2), (3, .int l3)] [] (ms σ)) (l1 : Nat) (l2 : Int32) (l3 : Int32) (σ : jM) (r : Unit × jM) (hl1 : l1 < 24) (h : f_X1_countPlacesOf_85 rec2 rec12 l1 l2 l3 σ = some r) : J mi_X1_countPlacesOf 2 0 0 (jqV r) 85 [(0, .ref 322), (1, .ref (tabX l1)), (2, .int l2), (3, .int l3)] [] (ms σ) := by
  unfold f_X1_countPlacesOf_85 at h
  refine J_iinc (v := (l3 + 1)) (ls' := [(3, .int (l3 + 1)), (0, .ref 322), (1, .ref (tabX l1)), (2, .int l2)]) 3 dX1_countPlacesOf_85 rfl rfl (by decide) rfl ?_
  refine J_goto (tgt := 12) dX1_countPlacesOf_88 (by decide) ?_
  refine J_pick [1, 2, 3, 0] rfl ?_
  exact hrec12 _ _ _ _ _ hl1 h
set_option maxRecDepth 20000 in
set_option maxHeartbeats 4000000 in
theorem t_X1_countPlacesOf_12 {rec2 : Nat → Int32 → jM → Option (Unit × jM)} (hrec2 : ∀ (l1 : Nat) (l2 : Int32) (σ : jM) (r : Unit × jM), l1 < 24 → rec2 l1 l2 σ = some r → J mi_X1_countPlacesOf 2 0 0 (jqV r) 2 [(0, .ref 322), (1, .ref (tabX l1)), (2, .int l2)] [] (ms σ)) : ∀ (n : Nat) (l1 : Nat) (l2 : Int32) (l3 : Int32) (σ : jM) (r : Unit × jM), l1 < 24 → f_X1_countPlacesOf_12 rec2 n l1 l2 l3 σ = some r → J mi_X1_countPlacesOf 2 0 0 (jqV r) 12 [(0, .ref 322), (1, .ref (tabX l1)), (2, .int l2), (3, .int l3)] [] (ms σ) := by
  intro n
  induction n with
  | zero =>
    intro l1 l2 l3 σ r hl1 h
    have h : (none : Option (Unit × jM)) = some r := h
    cases h
  | succ n ih =>
    intro l1 l2 l3 σ r hl1 h
    have h : s_X1_countPlacesOf_12 rec2 (f_X1_countPlacesOf_12 rec2 n) l1 l2 l3 σ = some r := h
    unfold s_X1_countPlacesOf_12 at h
    refine J_iload_n 3 dX1_countPlacesOf_12 rfl ?_
    refine J_aload_n 1 dX1_countPlacesOf_13 rfl ?_
    refine M_getR gf_X1_115_9 dX1_countPlacesOf_14 (g_tab3 _ hl1) (k_tab hl1) (n_tab hl1) ?_
    refine J_iload_n 2 dX1_countPlacesOf_17 rfl ?_
    obtain ⟨g23, h⟩ := gd_inv h
    refine M_iald dX1_countPlacesOf_18 (a_tab3 hl1) (na_tab3 hl1) g23 ?_
    refine J_icmp_ge (tgt := 91) dX1_countPlacesOf_19 (by decide) (fun c24 => ?_) (fun c24 => ?_)
    · have h := (if_pos c24).symm.trans h
      refine J_iinc (v := (l2 + 1)) (ls' := [(2, .int (l2 + 1)), (0, .ref 322), (1, .ref (tabX l1)), (3, .int l3)]) 2 dX1_countPlacesOf_91 rfl rfl (by decide) rfl ?_
      refine J_goto (tgt := 2) dX1_countPlacesOf_94 (by decide) ?_
      refine J_pick [1, 2, 0] rfl ?_
      exact hrec2 _ _ _ _ hl1 h
    · have h := (if_neg c24).symm.trans h
      refine J_aload_n 1 dX1_countPlacesOf_22 rfl ?_
      refine J_iload_n 2 dX1_countPlacesOf_23 rfl ?_
      refine J_iload_n 3 dX1_countPlacesOf_24 rfl ?_
      obtain ⟨r25, σ26, h27, h⟩ := bd_inv h
      refine M_callVI (d' := 1) (k := (tabX l1)) (As := [.int l2, .int l3]) (st := []) cv_X1_118 dX1_countPlacesOf_25 rfl (by decide) rfl (Nat.le_of_ble_eq_true rfl) (Nat.le_of_ble_eq_true rfl) (by decide) (n_tab hl1) (k_tab hl1) rfl rfl (t_X10_signAt hl1 h27) ?_
      refine J_istore (i := 4) (ls' := [(4, .int r25), (0, .ref 322), (1, .ref (tabX l1)), (2, .int l2), (3, .int l3)]) dX1_countPlacesOf_28 (by decide) rfl ?_
      refine J_iload 0 dX1_countPlacesOf_30 rfl ?_
      refine J_iconst (v := (-1)) dX1_countPlacesOf_32 (by decide) ?_
      refine J_icmp_eq (tgt := 85) dX1_countPlacesOf_33 (by decide) (fun c28 => ?_) (fun c28 => ?_)
      · have h := (if_pos c28).symm.trans h
        refine J_pick [1, 2, 3, 4] rfl ?_
        exact t_X1_countPlacesOf_85 hrec2 ih _ _ _ _ _ hl1 h
      · have h := (if_neg c28).symm.trans h
        refine J_aload_n 1 dX1_countPlacesOf_36 rfl ?_
        refine M_getR gf_X1_15_1 dX1_countPlacesOf_37 (g_322_3 _) k_322 n_322 ?_
        refine M_getR gf_X1_121_0 dX1_countPlacesOf_40 (g_3_11 _) k_3 n_3 ?_
        refine J_iload 0 dX1_countPlacesOf_43 rfl ?_
        obtain ⟨g29, h⟩ := gd_inv h
        refine M_iald dX1_countPlacesOf_45 a_18 n_18 g29 ?_
        refine J_iconst (v := 5) dX1_countPlacesOf_46 (by decide) ?_
        refine J_imul dX1_countPlacesOf_47 ?_
        refine J_istore (i := 5) (ls' := [(5, .int ((rI σ26 18 (Int32.toNatClampNeg r25)) * 5)), (4, .int r25), (0, .ref 322), (1, .ref (tabX l1)), (2, .int l2), (3, .int l3)]) dX1_countPlacesOf_48 (by decide) rfl ?_
        refine J_aload_n 2 dX1_countPlacesOf_50 rfl ?_
        refine M_getR gf_X1_11_1 dX1_countPlacesOf_51 (g_322_2 _) k_322 n_322 ?_
        refine J_iload 0 dX1_countPlacesOf_54 rfl ?_
        refine J_iload_n 5 dX1_countPlacesOf_56 rfl ?_
        refine J_aload_n 3 dX1_countPlacesOf_57 rfl ?_
        refine M_getR gf_X1_115_9 dX1_countPlacesOf_58 (g_tab3 _ hl1) (k_tab hl1) (n_tab hl1) ?_
        refine J_iload_n 4 dX1_countPlacesOf_61 rfl ?_
        obtain ⟨g30, h⟩ := gd_inv h
        refine M_iald dX1_countPlacesOf_62 (a_tab3 hl1) (na_tab3 hl1) g30 ?_
        obtain ⟨r31, σ32, h33, h⟩ := bd_inv h
        refine M_callSI (d' := 1) (As := [.int l3, .int (rI σ26 (tabX l1 + 1) (Int32.toNatClampNeg l2))]) (st := [.int ((rI σ26 18 (Int32.toNatClampNeg r25)) * 5), .ref 323]) cs_X1_124 dX1_countPlacesOf_63 rfl (Nat.le_of_ble_eq_true rfl) (Nat.le_of_ble_eq_true rfl) (by decide) rfl rfl (t_X1_kindOfPlace  h33) ?_
        refine J_iadd dX1_countPlacesOf_66 ?_
        refine J_dup2 dX1_countPlacesOf_67 rfl rfl ?_
        obtain ⟨g34, h⟩ := gd_inv h
        refine M_iald dX1_countPlacesOf_68 a_323 n_323 g34 ?_
        refine J_iconst (v := 1) dX1_countPlacesOf_69 (by decide) ?_
        refine J_iadd dX1_countPlacesOf_70 ?_
        obtain ⟨g35, h⟩ := gd_inv h
        refine M_iast dX1_countPlacesOf_71 a_323 n_323 g35 ?_
        refine J_aload_n 2 dX1_countPlacesOf_72 rfl ?_
        refine M_getR gf_X1_11_1 dX1_countPlacesOf_73 (g_322_2 _) k_322 n_322 ?_
        refine J_iload 0 dX1_countPlacesOf_76 rfl ?_
        refine J_iconst (v := 4) dX1_countPlacesOf_78 (by decide) ?_
        refine J_iadd dX1_countPlacesOf_79 ?_
        refine J_dup2 dX1_countPlacesOf_80 rfl rfl ?_
        obtain ⟨g36, h⟩ := gd_inv h
        refine M_iald dX1_countPlacesOf_81 a_323 n_323 g36 ?_
        refine J_iconst (v := 1) dX1_countPlacesOf_82 (by decide) ?_
        refine J_iadd dX1_countPlacesOf_83 ?_
        obtain ⟨g37, h⟩ := gd_inv h
        refine M_iast dX1_countPlacesOf_84 a_323 n_323 g37 ?_
        refine J_pick [2, 3, 4, 5] rfl ?_
        exact t_X1_countPlacesOf_85 hrec2 ih _ _ _ _ _ hl1 h
set_option maxRecDepth 20000 in
set_option maxHeartbeats 4000000 in
theorem t_X1_countPlacesOf_2  : ∀ (n : Nat) (l1 : Nat) (l2 : Int32) (σ : jM) (r : Unit × jM), l1 < 24 → f_X1_countPlacesOf_2  n l1 l2 σ = some r → J mi_X1_countPlacesOf 2 0 0 (jqV r) 2 [(0, .ref 322), (1, .ref (tabX l1)), (2, .int l2)] [] (ms σ) := by
  intro n
  induction n with
  | zero =>
    intro l1 l2 σ r hl1 h
    have h : (none : Option (Unit × jM)) = some r := h
    cases h
  | succ n ih =>
    intro l1 l2 σ r hl1 h
    have h : s_X1_countPlacesOf_2  (f_X1_countPlacesOf_2  n) l1 l2 σ = some r := h
    unfold s_X1_countPlacesOf_2 at h
    refine J_iload_n 2 dX1_countPlacesOf_2 rfl ?_
    refine J_aload_n 1 dX1_countPlacesOf_3 rfl ?_
    refine M_getI gf_X1_110_9 dX1_countPlacesOf_4 (k_tab hl1) (n_tab hl1) ?_
    refine J_icmp_ge (tgt := 97) dX1_countPlacesOf_7 (by decide) (fun c39 => ?_) (fun c39 => ?_)
    · have h := (if_pos c39).symm.trans h
      exact J_ret (v := none) rfl ⟨dX1_countPlacesOf_97, rfl⟩ (jqV_mk h)
    · have h := (if_neg c39).symm.trans h
      refine J_iconst (v := 0) dX1_countPlacesOf_10 (by decide) ?_
      refine J_istore_n (i := 3) (ls' := [(3, .int 0), (0, .ref 322), (1, .ref (tabX l1)), (2, .int l2)]) dX1_countPlacesOf_11 rfl (by decide) rfl ?_
      refine J_pick [1, 2, 3, 0] rfl ?_
      exact t_X1_countPlacesOf_12 ih _ _ _ _ _ _ hl1 h
set_option maxRecDepth 20000 in
set_option maxHeartbeats 4000000 in
theorem t_X1_countPlacesOf {a1 : Nat} {σ : jM} {r : Unit × jM} (ha1 : a1 < 24) (h : f_X1_countPlacesOf a1 σ = some r) : J mi_X1_countPlacesOf 2 0 0 (jqV r) 0 [(0, .ref 322), (1, .ref (tabX a1))] [] (ms σ) := by
  unfold f_X1_countPlacesOf at h
  refine J_iconst (v := 0) dX1_countPlacesOf_0 (by decide) ?_
  refine J_istore_n (i := 2) (ls' := [(2, .int 0), (0, .ref 322), (1, .ref (tabX a1))]) dX1_countPlacesOf_1 rfl (by decide) rfl ?_
  refine J_pick [1, 2, 0] rfl ?_
  exact t_X1_countPlacesOf_2  _ _ _ _ _ ha1 h
theorem dX1_countAhead_0 : decode cX1_countAhead 0 = .ok (.iconst 0, 1) := by decide +kernel
theorem dX1_countAhead_1 : decode cX1_countAhead 1 = .ok (.istore_n 2, 1) := by decide +kernel
theorem dX1_countAhead_2 : decode cX1_countAhead 2 = .ok (.iconst 0, 1) := by decide +kernel
theorem dX1_countAhead_3 : decode cX1_countAhead 3 = .ok (.istore_n 3, 1) := by decide +kernel
theorem dX1_countAhead_4 : decode cX1_countAhead 4 = .ok (.iload_n 3, 1) := by decide +kernel
theorem dX1_countAhead_5 : decode cX1_countAhead 5 = .ok (.bipush 40, 2) := by decide +kernel
theorem dX1_countAhead_7 : decode cX1_countAhead 7 = .ok (.if_icmp .ge 34, 3) := by decide +kernel
theorem dX1_countAhead_10 : decode cX1_countAhead 10 = .ok (.iload_n 3, 1) := by decide +kernel
theorem dX1_countAhead_11 : decode cX1_countAhead 11 = .ok (.iload_n 1, 1) := by decide +kernel
theorem dX1_countAhead_12 : decode cX1_countAhead 12 = .ok (.if_icmp .eq 23, 3) := by decide +kernel
theorem dX1_countAhead_15 : decode cX1_countAhead 15 = .ok (.aload_n 0, 1) := by decide +kernel
theorem dX1_countAhead_16 : decode cX1_countAhead 16 = .ok (.iload_n 3, 1) := by decide +kernel
theorem dX1_countAhead_17 : decode cX1_countAhead 17 = .ok (.invokevirtual 127, 3) := by decide +kernel
theorem dX1_countAhead_20 : decode cX1_countAhead 20 = .ok (.ifCond .eq 15, 3) := by decide +kernel
theorem dX1_countAhead_23 : decode cX1_countAhead 23 = .ok (.aload_n 0, 1) := by decide +kernel
theorem dX1_countAhead_24 : decode cX1_countAhead 24 = .ok (.iload_n 3, 1) := by decide +kernel
theorem dX1_countAhead_25 : decode cX1_countAhead 25 = .ok (.iload_n 1, 1) := by decide +kernel
theorem dX1_countAhead_26 : decode cX1_countAhead 26 = .ok (.invokevirtual 133, 3) := by decide +kernel
theorem dX1_countAhead_29 : decode cX1_countAhead 29 = .ok (.ifCond .eq 6, 3) := by decide +kernel
theorem dX1_countAhead_32 : decode cX1_countAhead 32 = .ok (.iinc 2 1, 3) := by decide +kernel
theorem dX1_countAhead_35 : decode cX1_countAhead 35 = .ok (.iinc 3 1, 3) := by decide +kernel
theorem dX1_countAhead_38 : decode cX1_countAhead 38 = .ok (.goto (-34), 3) := by decide +kernel
theorem dX1_countAhead_41 : decode cX1_countAhead 41 = .ok (.iload_n 2, 1) := by decide +kernel
theorem dX1_countAhead_42 : decode cX1_countAhead 42 = .ok (.ireturn, 1) := by decide +kernel
noncomputable def f_X1_countAhead_35 (rec4 : Int32 → Int32 → Int32 → jM → Option (Int32 × jM)) (l1 : Int32) (l2 : Int32) (l3 : Int32) (σ : jM) : Option (Int32 × jM) :=
  rec4 l1 l2 (l3 + 1) σ
noncomputable def s_X1_countAhead_4  (rec4 : Int32 → Int32 → Int32 → jM → Option (Int32 × jM)) (l1 : Int32) (l2 : Int32) (l3 : Int32) (σ : jM) : Option (Int32 × jM) :=
  (if 40 ≤ l3 then some (l2, σ) else (if l3 = l1 then f_X1_countAhead_35 rec4 l1 l2 l3 σ else bd (f_X1_isAnywhere l3 σ) (fun r3 σ4 => (if r3 = 0 then f_X1_countAhead_35 rec4 l1 l2 l3 σ4 else bd (f_X1_isAhead l3 l1 σ4) (fun r7 σ8 => (if r7 = 0 then f_X1_countAhead_35 rec4 l1 l2 l3 σ8 else f_X1_countAhead_35 rec4 l1 (l2 + 1) l3 σ8))))))
noncomputable def f_X1_countAhead_4  (n : Nat) : Int32 → Int32 → Int32 → jM → Option (Int32 × jM) := Nat.rec (motive := fun _ => Int32 → Int32 → Int32 → jM → Option (Int32 × jM)) (fun _ _ _ _ => none) (fun _ q => s_X1_countAhead_4  q) n
noncomputable def f_X1_countAhead (a1 : Int32) (σ : jM) : Option (Int32 × jM) :=
  f_X1_countAhead_4  Fu a1 0 0 σ
set_option maxRecDepth 20000 in
set_option maxHeartbeats 4000000 in
theorem t_X1_countAhead_35 {rec4 : Int32 → Int32 → Int32 → jM → Option (Int32 × jM)} (hrec4 : ∀ (l1 : Int32) (l2 : Int32) (l3 : Int32) (σ : jM) (r : Int32 × jM), rec4 l1 l2 l3 σ = some r → J mi_X1_countAhead 2 0 0 (jqI r) 4 [(0, .ref 322), (1, .int l1), (2, .int l2), (3, .int l3)] [] (ms σ)) (l1 : Int32) (l2 : Int32) (l3 : Int32) (σ : jM) (r : Int32 × jM)  (h : f_X1_countAhead_35 rec4 l1 l2 l3 σ = some r) : J mi_X1_countAhead 2 0 0 (jqI r) 35 [(0, .ref 322), (1, .int l1), (2, .int l2), (3, .int l3)] [] (ms σ) := by
  unfold f_X1_countAhead_35 at h
  refine J_iinc (v := (l3 + 1)) (ls' := [(3, .int (l3 + 1)), (0, .ref 322), (1, .int l1), (2, .int l2)]) 3 dX1_countAhead_35 rfl rfl (by decide) rfl ?_
  refine J_goto (tgt := 4) dX1_countAhead_38 (by decide) ?_
  refine J_pick [1, 2, 3, 0] rfl ?_
  exact hrec4 _ _ _ _ _  h
set_option maxRecDepth 20000 in
set_option maxHeartbeats 4000000 in
theorem t_X1_countAhead_4  : ∀ (n : Nat) (l1 : Int32) (l2 : Int32) (l3 : Int32) (σ : jM) (r : Int32 × jM), f_X1_countAhead_4  n l1 l2 l3 σ = some r → J mi_X1_countAhead 2 0 0 (jqI r) 4 [(0, .ref 322), (1, .int l1), (2, .int l2), (3, .int l3)] [] (ms σ) := by
  intro n
  induction n with
  | zero =>
    intro l1 l2 l3 σ r  h
    have h : (none : Option (Int32 × jM)) = some r := h
    cases h
  | succ n ih =>
    intro l1 l2 l3 σ r  h
    have h : s_X1_countAhead_4  (f_X1_countAhead_4  n) l1 l2 l3 σ = some r := h
    unfold s_X1_countAhead_4 at h
    refine J_iload_n 3 dX1_countAhead_4 rfl ?_
    refine J_bipush (v := 40) dX1_countAhead_5 (by decide) ?_
    refine J_icmp_ge (tgt := 41) dX1_countAhead_7 (by decide) (fun c11 => ?_) (fun c11 => ?_)
    · have h := (if_pos c11).symm.trans h
      refine J_iload_n 2 dX1_countAhead_41 rfl ?_
      exact J_ret (v := some (.int l2)) rfl ⟨dX1_countAhead_42, Or.inl rfl⟩ (jqI_mk h)
    · have h := (if_neg c11).symm.trans h
      refine J_iload_n 3 dX1_countAhead_10 rfl ?_
      refine J_iload_n 1 dX1_countAhead_11 rfl ?_
      refine J_icmp_eq (tgt := 35) dX1_countAhead_12 (by decide) (fun c12 => ?_) (fun c12 => ?_)
      · have h := (if_pos c12).symm.trans h
        exact t_X1_countAhead_35 ih _ _ _ _ _  h
      · have h := (if_neg c12).symm.trans h
        refine J_aload_n 0 dX1_countAhead_15 rfl ?_
        refine J_iload_n 3 dX1_countAhead_16 rfl ?_
        obtain ⟨r13, σ14, h15, h⟩ := bd_inv h
        refine M_callVI (d' := 1) (k := 322) (As := [.int l3]) (st := []) cv_X1_127 dX1_countAhead_17 rfl (by decide) rfl (Nat.le_of_ble_eq_true rfl) (Nat.le_of_ble_eq_true rfl) (by decide) n_322 k_322 rfl rfl (t_X1_isAnywhere  h15) ?_
        refine J_if_eq (tgt := 35) dX1_countAhead_20 (by decide) (fun c16 => ?_) (fun c16 => ?_)
        · have h := (if_pos c16).symm.trans h
          exact t_X1_countAhead_35 ih _ _ _ _ _  h
        · have h := (if_neg c16).symm.trans h
          refine J_aload_n 0 dX1_countAhead_23 rfl ?_
          refine J_iload_n 3 dX1_countAhead_24 rfl ?_
          refine J_iload_n 1 dX1_countAhead_25 rfl ?_
          obtain ⟨r17, σ18, h19, h⟩ := bd_inv h
          refine M_callVI (d' := 1) (k := 322) (As := [.int l3, .int l1]) (st := []) cv_X1_133 dX1_countAhead_26 rfl (by decide) rfl (Nat.le_of_ble_eq_true rfl) (Nat.le_of_ble_eq_true rfl) (by decide) n_322 k_322 rfl rfl (t_X1_isAhead  h19) ?_
          refine J_if_eq (tgt := 35) dX1_countAhead_29 (by decide) (fun c20 => ?_) (fun c20 => ?_)
          · have h := (if_pos c20).symm.trans h
            exact t_X1_countAhead_35 ih _ _ _ _ _  h
          · have h := (if_neg c20).symm.trans h
            refine J_iinc (v := (l2 + 1)) (ls' := [(2, .int (l2 + 1)), (0, .ref 322), (1, .int l1), (3, .int l3)]) 2 dX1_countAhead_32 rfl rfl (by decide) rfl ?_
            refine J_pick [1, 2, 0, 3] rfl ?_
            exact t_X1_countAhead_35 ih _ _ _ _ _  h
set_option maxRecDepth 20000 in
set_option maxHeartbeats 4000000 in
theorem t_X1_countAhead {a1 : Int32} {σ : jM} {r : Int32 × jM}  (h : f_X1_countAhead a1 σ = some r) : J mi_X1_countAhead 2 0 0 (jqI r) 0 [(0, .ref 322), (1, .int a1)] [] (ms σ) := by
  unfold f_X1_countAhead at h
  refine J_iconst (v := 0) dX1_countAhead_0 (by decide) ?_
  refine J_istore_n (i := 2) (ls' := [(2, .int 0), (0, .ref 322), (1, .int a1)]) dX1_countAhead_1 rfl (by decide) rfl ?_
  refine J_iconst (v := 0) dX1_countAhead_2 (by decide) ?_
  refine J_istore_n (i := 3) (ls' := [(3, .int 0), (2, .int 0), (0, .ref 322), (1, .int a1)]) dX1_countAhead_3 rfl (by decide) rfl ?_
  refine J_pick [2, 3, 1, 0] rfl ?_
  exact t_X1_countAhead_4  _ _ _ _ _ _  h
theorem dX2_weigh_0 : decode cX2_weigh 0 = .ok (.aload_n 0, 1) := by decide +kernel
theorem dX2_weigh_1 : decode cX2_weigh 1 = .ok (.getfield 23, 3) := by decide +kernel
theorem dX2_weigh_4 : decode cX2_weigh 4 = .ok (.iconst 0, 1) := by decide +kernel
theorem dX2_weigh_5 : decode cX2_weigh 5 = .ok (.aaload, 1) := by decide +kernel
theorem dX2_weigh_6 : decode cX2_weigh 6 = .ok (.iload_n 2, 1) := by decide +kernel
theorem dX2_weigh_7 : decode cX2_weigh 7 = .ok (.iaload, 1) := by decide +kernel
theorem dX2_weigh_8 : decode cX2_weigh 8 = .ok (.istore_n 3, 1) := by decide +kernel
theorem dX2_weigh_9 : decode cX2_weigh 9 = .ok (.aload_n 0, 1) := by decide +kernel
theorem dX2_weigh_10 : decode cX2_weigh 10 = .ok (.getfield 23, 3) := by decide +kernel
theorem dX2_weigh_13 : decode cX2_weigh 13 = .ok (.iconst 1, 1) := by decide +kernel
theorem dX2_weigh_14 : decode cX2_weigh 14 = .ok (.aaload, 1) := by decide +kernel
theorem dX2_weigh_15 : decode cX2_weigh 15 = .ok (.iload_n 2, 1) := by decide +kernel
theorem dX2_weigh_16 : decode cX2_weigh 16 = .ok (.iaload, 1) := by decide +kernel
theorem dX2_weigh_17 : decode cX2_weigh 17 = .ok (.istore 4, 2) := by decide +kernel
theorem dX2_weigh_19 : decode cX2_weigh 19 = .ok (.iload_n 3, 1) := by decide +kernel
theorem dX2_weigh_20 : decode cX2_weigh 20 = .ok (.iconst (-1), 1) := by decide +kernel
theorem dX2_weigh_21 : decode cX2_weigh 21 = .ok (.if_icmp .eq 33, 3) := by decide +kernel
theorem dX2_weigh_24 : decode cX2_weigh 24 = .ok (.iload 4, 2) := by decide +kernel
theorem dX2_weigh_26 : decode cX2_weigh 26 = .ok (.iconst (-1), 1) := by decide +kernel
theorem dX2_weigh_27 : decode cX2_weigh 27 = .ok (.if_icmp .eq 27, 3) := by decide +kernel
theorem dX2_weigh_30 : decode cX2_weigh 30 = .ok (.aload_n 0, 1) := by decide +kernel
theorem dX2_weigh_31 : decode cX2_weigh 31 = .ok (.iload_n 3, 1) := by decide +kernel
theorem dX2_weigh_32 : decode cX2_weigh 32 = .ok (.iload 4, 2) := by decide +kernel
theorem dX2_weigh_34 : decode cX2_weigh 34 = .ok (.iadd, 1) := by decide +kernel
theorem dX2_weigh_35 : decode cX2_weigh 35 = .ok (.invokevirtual 81, 3) := by decide +kernel
theorem dX2_weigh_38 : decode cX2_weigh 38 = .ok (.ifCond .eq 16, 3) := by decide +kernel
theorem dX2_weigh_41 : decode cX2_weigh 41 = .ok (.aload_n 0, 1) := by decide +kernel
theorem dX2_weigh_42 : decode cX2_weigh 42 = .ok (.iload_n 1, 1) := by decide +kernel
theorem dX2_weigh_43 : decode cX2_weigh 43 = .ok (.iload_n 2, 1) := by decide +kernel
theorem dX2_weigh_44 : decode cX2_weigh 44 = .ok (.iconst 1, 1) := by decide +kernel
theorem dX2_weigh_45 : decode cX2_weigh 45 = .ok (.iconst 0, 1) := by decide +kernel
theorem dX2_weigh_46 : decode cX2_weigh 46 = .ok (.iconst 1, 1) := by decide +kernel
theorem dX2_weigh_47 : decode cX2_weigh 47 = .ok (.iload_n 3, 1) := by decide +kernel
theorem dX2_weigh_48 : decode cX2_weigh 48 = .ok (.iload 4, 2) := by decide +kernel
theorem dX2_weigh_50 : decode cX2_weigh 50 = .ok (.iadd, 1) := by decide +kernel
theorem dX2_weigh_51 : decode cX2_weigh 51 = .ok (.invokevirtual 85, 3) := by decide +kernel
theorem dX2_weigh_54 : decode cX2_weigh 54 = .ok (.iload_n 3, 1) := by decide +kernel
theorem dX2_weigh_55 : decode cX2_weigh 55 = .ok (.iconst (-1), 1) := by decide +kernel
theorem dX2_weigh_56 : decode cX2_weigh 56 = .ok (.if_icmp .eq 39, 3) := by decide +kernel
theorem dX2_weigh_59 : decode cX2_weigh 59 = .ok (.aload_n 0, 1) := by decide +kernel
theorem dX2_weigh_60 : decode cX2_weigh 60 = .ok (.getfield 26, 3) := by decide +kernel
theorem dX2_weigh_63 : decode cX2_weigh 63 = .ok (.getfield 65, 3) := by decide +kernel
theorem dX2_weigh_66 : decode cX2_weigh 66 = .ok (.iconst 0, 1) := by decide +kernel
theorem dX2_weigh_67 : decode cX2_weigh 67 = .ok (.aaload, 1) := by decide +kernel
theorem dX2_weigh_68 : decode cX2_weigh 68 = .ok (.iload_n 1, 1) := by decide +kernel
theorem dX2_weigh_69 : decode cX2_weigh 69 = .ok (.laload, 1) := by decide +kernel
theorem dX2_weigh_70 : decode cX2_weigh 70 = .ok (.iload_n 2, 1) := by decide +kernel
theorem dX2_weigh_71 : decode cX2_weigh 71 = .ok (.invokestatic 74, 3) := by decide +kernel
theorem dX2_weigh_74 : decode cX2_weigh 74 = .ok (.ifCond .eq 21, 3) := by decide +kernel
theorem dX2_weigh_77 : decode cX2_weigh 77 = .ok (.aload_n 0, 1) := by decide +kernel
theorem dX2_weigh_78 : decode cX2_weigh 78 = .ok (.iload_n 3, 1) := by decide +kernel
theorem dX2_weigh_79 : decode cX2_weigh 79 = .ok (.invokevirtual 81, 3) := by decide +kernel
theorem dX2_weigh_82 : decode cX2_weigh 82 = .ok (.ifCond .eq 13, 3) := by decide +kernel
theorem dX2_weigh_85 : decode cX2_weigh 85 = .ok (.aload_n 0, 1) := by decide +kernel
theorem dX2_weigh_86 : decode cX2_weigh 86 = .ok (.iload_n 1, 1) := by decide +kernel
theorem dX2_weigh_87 : decode cX2_weigh 87 = .ok (.iload_n 2, 1) := by decide +kernel
theorem dX2_weigh_88 : decode cX2_weigh 88 = .ok (.iconst 2, 1) := by decide +kernel
theorem dX2_weigh_89 : decode cX2_weigh 89 = .ok (.iconst 0, 1) := by decide +kernel
theorem dX2_weigh_90 : decode cX2_weigh 90 = .ok (.iconst 0, 1) := by decide +kernel
theorem dX2_weigh_91 : decode cX2_weigh 91 = .ok (.iload_n 3, 1) := by decide +kernel
theorem dX2_weigh_92 : decode cX2_weigh 92 = .ok (.invokevirtual 85, 3) := by decide +kernel
theorem dX2_weigh_95 : decode cX2_weigh 95 = .ok (.iload 4, 2) := by decide +kernel
theorem dX2_weigh_97 : decode cX2_weigh 97 = .ok (.iconst (-1), 1) := by decide +kernel
theorem dX2_weigh_98 : decode cX2_weigh 98 = .ok (.if_icmp .eq 41, 3) := by decide +kernel
theorem dX2_weigh_101 : decode cX2_weigh 101 = .ok (.aload_n 0, 1) := by decide +kernel
theorem dX2_weigh_102 : decode cX2_weigh 102 = .ok (.getfield 26, 3) := by decide +kernel
theorem dX2_weigh_105 : decode cX2_weigh 105 = .ok (.getfield 65, 3) := by decide +kernel
theorem dX2_weigh_108 : decode cX2_weigh 108 = .ok (.iconst 1, 1) := by decide +kernel
theorem dX2_weigh_109 : decode cX2_weigh 109 = .ok (.aaload, 1) := by decide +kernel
theorem dX2_weigh_110 : decode cX2_weigh 110 = .ok (.iload_n 1, 1) := by decide +kernel
theorem dX2_weigh_111 : decode cX2_weigh 111 = .ok (.laload, 1) := by decide +kernel
theorem dX2_weigh_112 : decode cX2_weigh 112 = .ok (.iload_n 2, 1) := by decide +kernel
theorem dX2_weigh_113 : decode cX2_weigh 113 = .ok (.invokestatic 74, 3) := by decide +kernel
theorem dX2_weigh_116 : decode cX2_weigh 116 = .ok (.ifCond .eq 23, 3) := by decide +kernel
theorem dX2_weigh_119 : decode cX2_weigh 119 = .ok (.aload_n 0, 1) := by decide +kernel
theorem dX2_weigh_120 : decode cX2_weigh 120 = .ok (.iload 4, 2) := by decide +kernel
theorem dX2_weigh_122 : decode cX2_weigh 122 = .ok (.invokevirtual 81, 3) := by decide +kernel
theorem dX2_weigh_125 : decode cX2_weigh 125 = .ok (.ifCond .eq 14, 3) := by decide +kernel
theorem dX2_weigh_128 : decode cX2_weigh 128 = .ok (.aload_n 0, 1) := by decide +kernel
theorem dX2_weigh_129 : decode cX2_weigh 129 = .ok (.iload_n 1, 1) := by decide +kernel
theorem dX2_weigh_130 : decode cX2_weigh 130 = .ok (.iload_n 2, 1) := by decide +kernel
theorem dX2_weigh_131 : decode cX2_weigh 131 = .ok (.iconst 2, 1) := by decide +kernel
theorem dX2_weigh_132 : decode cX2_weigh 132 = .ok (.iconst 1, 1) := by decide +kernel
theorem dX2_weigh_133 : decode cX2_weigh 133 = .ok (.iconst 1, 1) := by decide +kernel
theorem dX2_weigh_134 : decode cX2_weigh 134 = .ok (.iload 4, 2) := by decide +kernel
theorem dX2_weigh_136 : decode cX2_weigh 136 = .ok (.invokevirtual 85, 3) := by decide +kernel
theorem dX2_weigh_139 : decode cX2_weigh 139 = .ok (.return_, 1) := by decide +kernel
noncomputable def f_X2_weigh_139   (σ : jM) : Option (Unit × jM) :=
  some ((), σ)
noncomputable def f_X2_weigh_95  (l1 : Int32) (l2 : Int32) (l4 : Int32) (σ : jM) : Option (Unit × jM) :=
  (if l4 = (-1) then f_X2_weigh_139   σ else gd (inb 1 2) (gd (inb l1 40) (bd (f_X12_has (rL σ (282 + (Int32.toNatClampNeg 1)) (Int32.toNatClampNeg l1)) l2 σ) (fun r12 σ13 => (if r12 = 0 then f_X2_weigh_139   σ13 else bd (f_X2_isShorter l4 σ13) (fun r16 σ17 => (if r16 = 0 then f_X2_weigh_139   σ17 else bd (f_X2_take l1 l2 2 1 1 l4 σ17) (fun _ σ21 => f_X2_weigh_139   σ21))))))))
noncomputable def f_X2_weigh_54  (l1 : Int32) (l2 : Int32) (l3 : Int32) (l4 : Int32) (σ : jM) : Option (Unit × jM) :=
  (if l3 = (-1) then f_X2_weigh_95  l1 l2 l4 σ else gd (inb 0 2) (gd (inb l1 40) (bd (f_X12_has (rL σ (282 + (Int32.toNatClampNeg 0)) (Int32.toNatClampNeg l1)) l2 σ) (fun r40 σ41 => (if r40 = 0 then f_X2_weigh_95  l1 l2 l4 σ41 else bd (f_X2_isShorter l3 σ41) (fun r44 σ45 => (if r44 = 0 then f_X2_weigh_95  l1 l2 l4 σ45 else bd (f_X2_take l1 l2 2 0 0 l3 σ45) (fun _ σ49 => f_X2_weigh_95  l1 l2 l4 σ49))))))))
noncomputable def f_X2_weigh (a1 : Int32) (a2 : Int32) (σ : jM) : Option (Unit × jM) :=
  gd (inb 0 2) (gd (inb a2 40) (gd (inb 1 2) (gd (inb a2 40) ((if (rI σ (294 + (Int32.toNatClampNeg 0)) (Int32.toNatClampNeg a2)) = (-1) then f_X2_weigh_54  a1 a2 (rI σ (294 + (Int32.toNatClampNeg 0)) (Int32.toNatClampNeg a2)) (rI σ (294 + (Int32.toNatClampNeg 1)) (Int32.toNatClampNeg a2)) σ else (if (rI σ (294 + (Int32.toNatClampNeg 1)) (Int32.toNatClampNeg a2)) = (-1) then f_X2_weigh_54  a1 a2 (rI σ (294 + (Int32.toNatClampNeg 0)) (Int32.toNatClampNeg a2)) (rI σ (294 + (Int32.toNatClampNeg 1)) (Int32.toNatClampNeg a2)) σ else bd (f_X2_isShorter ((rI σ (294 + (Int32.toNatClampNeg 0)) (Int32.toNatClampNeg a2)) + (rI σ (294 + (Int32.toNatClampNeg 1)) (Int32.toNatClampNeg a2))) σ) (fun r71 σ72 => (if r71 = 0 then f_X2_weigh_54  a1 a2 (rI σ (294 + (Int32.toNatClampNeg 0)) (Int32.toNatClampNeg a2)) (rI σ (294 + (Int32.toNatClampNeg 1)) (Int32.toNatClampNeg a2)) σ72 else bd (f_X2_take a1 a2 1 0 1 ((rI σ (294 + (Int32.toNatClampNeg 0)) (Int32.toNatClampNeg a2)) + (rI σ (294 + (Int32.toNatClampNeg 1)) (Int32.toNatClampNeg a2))) σ72) (fun _ σ76 => f_X2_weigh_54  a1 a2 (rI σ (294 + (Int32.toNatClampNeg 0)) (Int32.toNatClampNeg a2)) (rI σ (294 + (Int32.toNatClampNeg 1)) (Int32.toNatClampNeg a2)) σ76)))))))))
set_option maxRecDepth 20000 in
set_option maxHeartbeats 4000000 in
theorem t_X2_weigh_139   (σ : jM) (r : Unit × jM)  (h : f_X2_weigh_139   σ = some r) : J mi_X2_weigh 2 0 0 (jqV r) 139 [] [] (ms σ) := by
  unfold f_X2_weigh_139 at h
  exact J_ret (v := none) rfl ⟨dX2_weigh_139, rfl⟩ (jqV_mk h)
set_option maxRecDepth 20000 in
set_option maxHeartbeats 4000000 in
theorem t_X2_weigh_95  (l1 : Int32) (l2 : Int32) (l4 : Int32) (σ : jM) (r : Unit × jM)  (h : f_X2_weigh_95  l1 l2 l4 σ = some r) : J mi_X2_weigh 2 0 0 (jqV r) 95 [(0, .ref 289), (1, .int l1), (2, .int l2), (4, .int l4)] [] (ms σ) := by
  unfold f_X2_weigh_95 at h
  refine J_iload 3 dX2_weigh_95 rfl ?_
  refine J_iconst (v := (-1)) dX2_weigh_97 (by decide) ?_
  refine J_icmp_eq (tgt := 139) dX2_weigh_98 (by decide) (fun c23 => ?_) (fun c23 => ?_)
  · have h := (if_pos c23).symm.trans h
    refine J_pick [] rfl ?_
    exact t_X2_weigh_139   _ _  h
  · have h := (if_neg c23).symm.trans h
    refine J_aload_n 0 dX2_weigh_101 rfl ?_
    refine M_getR gf_X2_26_2 dX2_weigh_102 (g_289_9 _) k_289 n_289 ?_
    refine M_getR gf_X2_65_3 dX2_weigh_105 (g_264_3 _) k_264 n_264 ?_
    refine J_iconst (v := 1) dX2_weigh_108 (by decide) ?_
    obtain ⟨g24, h⟩ := gd_inv h
    refine M_aald dX2_weigh_109 a_281 (by decide) n_281 g24 (r_row281 _ g24.2) ?_
    refine J_iload_n 1 dX2_weigh_110 rfl ?_
    obtain ⟨g25, h⟩ := gd_inv h
    refine M_lald dX2_weigh_111 (a_row281 g24.2) (na_row281 g24.2) g25 ?_
    refine J_iload_n 2 dX2_weigh_112 rfl ?_
    obtain ⟨r26, σ27, h28, h⟩ := bd_inv h
    refine M_callNI (d' := 1) (As := [.long (rL σ (282 + (Int32.toNatClampNeg 1)) (Int32.toNatClampNeg l1)), .int l2]) (st := []) cn_X2_74 dX2_weigh_113 rfl (Nat.le_of_ble_eq_true rfl) (Nat.le_of_ble_eq_true rfl) (by decide) rfl rfl (t_X12_has  h28) ?_
    refine J_if_eq (tgt := 139) dX2_weigh_116 (by decide) (fun c29 => ?_) (fun c29 => ?_)
    · have h := (if_pos c29).symm.trans h
      refine J_pick [] rfl ?_
      exact t_X2_weigh_139   _ _  h
    · have h := (if_neg c29).symm.trans h
      refine J_aload_n 0 dX2_weigh_119 rfl ?_
      refine J_iload 3 dX2_weigh_120 rfl ?_
      obtain ⟨r30, σ31, h32, h⟩ := bd_inv h
      refine M_callVI (d' := 1) (k := 289) (As := [.int l4]) (st := []) cv_X2_81 dX2_weigh_122 rfl (by decide) rfl (Nat.le_of_ble_eq_true rfl) (Nat.le_of_ble_eq_true rfl) (by decide) n_289 k_289 rfl rfl (t_X2_isShorter  h32) ?_
      refine J_if_eq (tgt := 139) dX2_weigh_125 (by decide) (fun c33 => ?_) (fun c33 => ?_)
      · have h := (if_pos c33).symm.trans h
        refine J_pick [] rfl ?_
        exact t_X2_weigh_139   _ _  h
      · have h := (if_neg c33).symm.trans h
        refine J_aload_n 0 dX2_weigh_128 rfl ?_
        refine J_iload_n 1 dX2_weigh_129 rfl ?_
        refine J_iload_n 2 dX2_weigh_130 rfl ?_
        refine J_iconst (v := 2) dX2_weigh_131 (by decide) ?_
        refine J_iconst (v := 1) dX2_weigh_132 (by decide) ?_
        refine J_iconst (v := 1) dX2_weigh_133 (by decide) ?_
        refine J_iload 3 dX2_weigh_134 rfl ?_
        obtain ⟨_, σ35, h36, h⟩ := bd_inv h
        refine M_callVV (d' := 1) (k := 289) (As := [.int l1, .int l2, .int 2, .int 1, .int 1, .int l4]) (st := []) cv_X2_85 dX2_weigh_136 rfl (by decide) rfl (Nat.le_of_ble_eq_true rfl) (Nat.le_of_ble_eq_true rfl) (by decide) n_289 k_289 rfl rfl (t_X2_take  h36) ?_
        refine J_pick [] rfl ?_
        exact t_X2_weigh_139   _ _  h
set_option maxRecDepth 20000 in
set_option maxHeartbeats 4000000 in
theorem t_X2_weigh_54  (l1 : Int32) (l2 : Int32) (l3 : Int32) (l4 : Int32) (σ : jM) (r : Unit × jM)  (h : f_X2_weigh_54  l1 l2 l3 l4 σ = some r) : J mi_X2_weigh 2 0 0 (jqV r) 54 [(0, .ref 289), (1, .int l1), (2, .int l2), (3, .int l3), (4, .int l4)] [] (ms σ) := by
  unfold f_X2_weigh_54 at h
  refine J_iload_n 3 dX2_weigh_54 rfl ?_
  refine J_iconst (v := (-1)) dX2_weigh_55 (by decide) ?_
  refine J_icmp_eq (tgt := 95) dX2_weigh_56 (by decide) (fun c51 => ?_) (fun c51 => ?_)
  · have h := (if_pos c51).symm.trans h
    refine J_pick [0, 1, 2, 4] rfl ?_
    exact t_X2_weigh_95  _ _ _ _ _  h
  · have h := (if_neg c51).symm.trans h
    refine J_aload_n 0 dX2_weigh_59 rfl ?_
    refine M_getR gf_X2_26_2 dX2_weigh_60 (g_289_9 _) k_289 n_289 ?_
    refine M_getR gf_X2_65_3 dX2_weigh_63 (g_264_3 _) k_264 n_264 ?_
    refine J_iconst (v := 0) dX2_weigh_66 (by decide) ?_
    obtain ⟨g52, h⟩ := gd_inv h
    refine M_aald dX2_weigh_67 a_281 (by decide) n_281 g52 (r_row281 _ g52.2) ?_
    refine J_iload_n 1 dX2_weigh_68 rfl ?_
    obtain ⟨g53, h⟩ := gd_inv h
    refine M_lald dX2_weigh_69 (a_row281 g52.2) (na_row281 g52.2) g53 ?_
    refine J_iload_n 2 dX2_weigh_70 rfl ?_
    obtain ⟨r54, σ55, h56, h⟩ := bd_inv h
    refine M_callNI (d' := 1) (As := [.long (rL σ (282 + (Int32.toNatClampNeg 0)) (Int32.toNatClampNeg l1)), .int l2]) (st := []) cn_X2_74 dX2_weigh_71 rfl (Nat.le_of_ble_eq_true rfl) (Nat.le_of_ble_eq_true rfl) (by decide) rfl rfl (t_X12_has  h56) ?_
    refine J_if_eq (tgt := 95) dX2_weigh_74 (by decide) (fun c57 => ?_) (fun c57 => ?_)
    · have h := (if_pos c57).symm.trans h
      refine J_pick [0, 1, 2, 4] rfl ?_
      exact t_X2_weigh_95  _ _ _ _ _  h
    · have h := (if_neg c57).symm.trans h
      refine J_aload_n 0 dX2_weigh_77 rfl ?_
      refine J_iload_n 3 dX2_weigh_78 rfl ?_
      obtain ⟨r58, σ59, h60, h⟩ := bd_inv h
      refine M_callVI (d' := 1) (k := 289) (As := [.int l3]) (st := []) cv_X2_81 dX2_weigh_79 rfl (by decide) rfl (Nat.le_of_ble_eq_true rfl) (Nat.le_of_ble_eq_true rfl) (by decide) n_289 k_289 rfl rfl (t_X2_isShorter  h60) ?_
      refine J_if_eq (tgt := 95) dX2_weigh_82 (by decide) (fun c61 => ?_) (fun c61 => ?_)
      · have h := (if_pos c61).symm.trans h
        refine J_pick [0, 1, 2, 4] rfl ?_
        exact t_X2_weigh_95  _ _ _ _ _  h
      · have h := (if_neg c61).symm.trans h
        refine J_aload_n 0 dX2_weigh_85 rfl ?_
        refine J_iload_n 1 dX2_weigh_86 rfl ?_
        refine J_iload_n 2 dX2_weigh_87 rfl ?_
        refine J_iconst (v := 2) dX2_weigh_88 (by decide) ?_
        refine J_iconst (v := 0) dX2_weigh_89 (by decide) ?_
        refine J_iconst (v := 0) dX2_weigh_90 (by decide) ?_
        refine J_iload_n 3 dX2_weigh_91 rfl ?_
        obtain ⟨_, σ63, h64, h⟩ := bd_inv h
        refine M_callVV (d' := 1) (k := 289) (As := [.int l1, .int l2, .int 2, .int 0, .int 0, .int l3]) (st := []) cv_X2_85 dX2_weigh_92 rfl (by decide) rfl (Nat.le_of_ble_eq_true rfl) (Nat.le_of_ble_eq_true rfl) (by decide) n_289 k_289 rfl rfl (t_X2_take  h64) ?_
        refine J_pick [0, 1, 2, 4] rfl ?_
        exact t_X2_weigh_95  _ _ _ _ _  h
set_option maxRecDepth 20000 in
set_option maxHeartbeats 4000000 in
theorem t_X2_weigh {a1 : Int32} {a2 : Int32} {σ : jM} {r : Unit × jM}  (h : f_X2_weigh a1 a2 σ = some r) : J mi_X2_weigh 2 0 0 (jqV r) 0 [(0, .ref 289), (1, .int a1), (2, .int a2)] [] (ms σ) := by
  unfold f_X2_weigh at h
  refine J_aload_n 0 dX2_weigh_0 rfl ?_
  refine M_getR gf_X2_23_2 dX2_weigh_1 (g_289_12 _) k_289 n_289 ?_
  refine J_iconst (v := 0) dX2_weigh_4 (by decide) ?_
  obtain ⟨g65, h⟩ := gd_inv h
  refine M_aald dX2_weigh_5 a_293 (by decide) n_293 g65 (r_row293 _ g65.2) ?_
  refine J_iload_n 2 dX2_weigh_6 rfl ?_
  obtain ⟨g66, h⟩ := gd_inv h
  refine M_iald dX2_weigh_7 (a_row293 g65.2) (na_row293 g65.2) g66 ?_
  refine J_istore_n (i := 3) (ls' := [(3, .int (rI σ (294 + (Int32.toNatClampNeg 0)) (Int32.toNatClampNeg a2))), (0, .ref 289), (1, .int a1), (2, .int a2)]) dX2_weigh_8 rfl (by decide) rfl ?_
  refine J_aload_n 1 dX2_weigh_9 rfl ?_
  refine M_getR gf_X2_23_2 dX2_weigh_10 (g_289_12 _) k_289 n_289 ?_
  refine J_iconst (v := 1) dX2_weigh_13 (by decide) ?_
  obtain ⟨g67, h⟩ := gd_inv h
  refine M_aald dX2_weigh_14 a_293 (by decide) n_293 g67 (r_row293 _ g67.2) ?_
  refine J_iload_n 3 dX2_weigh_15 rfl ?_
  obtain ⟨g68, h⟩ := gd_inv h
  refine M_iald dX2_weigh_16 (a_row293 g67.2) (na_row293 g67.2) g68 ?_
  refine J_istore (i := 4) (ls' := [(4, .int (rI σ (294 + (Int32.toNatClampNeg 1)) (Int32.toNatClampNeg a2))), (3, .int (rI σ (294 + (Int32.toNatClampNeg 0)) (Int32.toNatClampNeg a2))), (0, .ref 289), (1, .int a1), (2, .int a2)]) dX2_weigh_17 (by decide) rfl ?_
  refine J_iload_n 1 dX2_weigh_19 rfl ?_
  refine J_iconst (v := (-1)) dX2_weigh_20 (by decide) ?_
  refine J_icmp_eq (tgt := 54) dX2_weigh_21 (by decide) (fun c69 => ?_) (fun c69 => ?_)
  · have h := (if_pos c69).symm.trans h
    refine J_pick [2, 3, 4, 1, 0] rfl ?_
    exact t_X2_weigh_54  _ _ _ _ _ _  h
  · have h := (if_neg c69).symm.trans h
    refine J_iload 0 dX2_weigh_24 rfl ?_
    refine J_iconst (v := (-1)) dX2_weigh_26 (by decide) ?_
    refine J_icmp_eq (tgt := 54) dX2_weigh_27 (by decide) (fun c70 => ?_) (fun c70 => ?_)
    · have h := (if_pos c70).symm.trans h
      refine J_pick [2, 3, 4, 1, 0] rfl ?_
      exact t_X2_weigh_54  _ _ _ _ _ _  h
    · have h := (if_neg c70).symm.trans h
      refine J_aload_n 2 dX2_weigh_30 rfl ?_
      refine J_iload_n 1 dX2_weigh_31 rfl ?_
      refine J_iload 0 dX2_weigh_32 rfl ?_
      refine J_iadd dX2_weigh_34 ?_
      obtain ⟨r71, σ72, h73, h⟩ := bd_inv h
      refine M_callVI (d' := 1) (k := 289) (As := [.int ((rI σ (294 + (Int32.toNatClampNeg 0)) (Int32.toNatClampNeg a2)) + (rI σ (294 + (Int32.toNatClampNeg 1)) (Int32.toNatClampNeg a2)))]) (st := []) cv_X2_81 dX2_weigh_35 rfl (by decide) rfl (Nat.le_of_ble_eq_true rfl) (Nat.le_of_ble_eq_true rfl) (by decide) n_289 k_289 rfl rfl (t_X2_isShorter  h73) ?_
      refine J_if_eq (tgt := 54) dX2_weigh_38 (by decide) (fun c74 => ?_) (fun c74 => ?_)
      · have h := (if_pos c74).symm.trans h
        refine J_pick [2, 3, 4, 1, 0] rfl ?_
        exact t_X2_weigh_54  _ _ _ _ _ _  h
      · have h := (if_neg c74).symm.trans h
        refine J_aload_n 2 dX2_weigh_41 rfl ?_
        refine J_iload_n 3 dX2_weigh_42 rfl ?_
        refine J_iload_n 4 dX2_weigh_43 rfl ?_
        refine J_iconst (v := 1) dX2_weigh_44 (by decide) ?_
        refine J_iconst (v := 0) dX2_weigh_45 (by decide) ?_
        refine J_iconst (v := 1) dX2_weigh_46 (by decide) ?_
        refine J_iload_n 1 dX2_weigh_47 rfl ?_
        refine J_iload 0 dX2_weigh_48 rfl ?_
        refine J_iadd dX2_weigh_50 ?_
        obtain ⟨_, σ76, h77, h⟩ := bd_inv h
        refine M_callVV (d' := 1) (k := 289) (As := [.int a1, .int a2, .int 1, .int 0, .int 1, .int ((rI σ (294 + (Int32.toNatClampNeg 0)) (Int32.toNatClampNeg a2)) + (rI σ (294 + (Int32.toNatClampNeg 1)) (Int32.toNatClampNeg a2)))]) (st := []) cv_X2_85 dX2_weigh_51 rfl (by decide) rfl (Nat.le_of_ble_eq_true rfl) (Nat.le_of_ble_eq_true rfl) (by decide) n_289 k_289 rfl rfl (t_X2_take  h77) ?_
        refine J_pick [2, 3, 4, 1, 0] rfl ?_
        exact t_X2_weigh_54  _ _ _ _ _ _  h
theorem dX2_measure_0 : decode cX2_measure 0 = .ok (.aload_n 0, 1) := by decide +kernel
theorem dX2_measure_1 : decode cX2_measure 1 = .ok (.getfield 23, 3) := by decide +kernel
theorem dX2_measure_4 : decode cX2_measure 4 = .ok (.iload_n 1, 1) := by decide +kernel
theorem dX2_measure_5 : decode cX2_measure 5 = .ok (.aaload, 1) := by decide +kernel
theorem dX2_measure_6 : decode cX2_measure 6 = .ok (.astore_n 3, 1) := by decide +kernel
theorem dX2_measure_7 : decode cX2_measure 7 = .ok (.aload_n 3, 1) := by decide +kernel
theorem dX2_measure_8 : decode cX2_measure 8 = .ok (.iconst (-1), 1) := by decide +kernel
theorem dX2_measure_9 : decode cX2_measure 9 = .ok (.invokestatic 98, 3) := by decide +kernel
theorem dX2_measure_12 : decode cX2_measure 12 = .ok (.aload_n 3, 1) := by decide +kernel
theorem dX2_measure_13 : decode cX2_measure 13 = .ok (.iload_n 2, 1) := by decide +kernel
theorem dX2_measure_14 : decode cX2_measure 14 = .ok (.iconst 0, 1) := by decide +kernel
theorem dX2_measure_15 : decode cX2_measure 15 = .ok (.iastore, 1) := by decide +kernel
theorem dX2_measure_16 : decode cX2_measure 16 = .ok (.lconst 1, 1) := by decide +kernel
theorem dX2_measure_17 : decode cX2_measure 17 = .ok (.iload_n 2, 1) := by decide +kernel
theorem dX2_measure_18 : decode cX2_measure 18 = .ok (.lshl, 1) := by decide +kernel
theorem dX2_measure_19 : decode cX2_measure 19 = .ok (.lstore 4, 2) := by decide +kernel
theorem dX2_measure_21 : decode cX2_measure 21 = .ok (.lload 4, 2) := by decide +kernel
theorem dX2_measure_23 : decode cX2_measure 23 = .ok (.lstore 6, 2) := by decide +kernel
theorem dX2_measure_25 : decode cX2_measure 25 = .ok (.iconst 1, 1) := by decide +kernel
theorem dX2_measure_26 : decode cX2_measure 26 = .ok (.istore 8, 2) := by decide +kernel
theorem dX2_measure_28 : decode cX2_measure 28 = .ok (.iload 8, 2) := by decide +kernel
theorem dX2_measure_30 : decode cX2_measure 30 = .ok (.bipush 40, 2) := by decide +kernel
theorem dX2_measure_32 : decode cX2_measure 32 = .ok (.if_icmp .ge 85, 3) := by decide +kernel
theorem dX2_measure_35 : decode cX2_measure 35 = .ok (.lload 6, 2) := by decide +kernel
theorem dX2_measure_37 : decode cX2_measure 37 = .ok (.lconst 0, 1) := by decide +kernel
theorem dX2_measure_38 : decode cX2_measure 38 = .ok (.lcmp, 1) := by decide +kernel
theorem dX2_measure_39 : decode cX2_measure 39 = .ok (.ifCond .eq 78, 3) := by decide +kernel
theorem dX2_measure_42 : decode cX2_measure 42 = .ok (.aload_n 0, 1) := by decide +kernel
theorem dX2_measure_43 : decode cX2_measure 43 = .ok (.getfield 26, 3) := by decide +kernel
theorem dX2_measure_46 : decode cX2_measure 46 = .ok (.getfield 104, 3) := by decide +kernel
theorem dX2_measure_49 : decode cX2_measure 49 = .ok (.iload_n 1, 1) := by decide +kernel
theorem dX2_measure_50 : decode cX2_measure 50 = .ok (.aaload, 1) := by decide +kernel
theorem dX2_measure_51 : decode cX2_measure 51 = .ok (.lload 6, 2) := by decide +kernel
theorem dX2_measure_53 : decode cX2_measure 53 = .ok (.invokestatic 107, 3) := by decide +kernel
theorem dX2_measure_56 : decode cX2_measure 56 = .ok (.lload 4, 2) := by decide +kernel
theorem dX2_measure_58 : decode cX2_measure 58 = .ok (.ldc2_w 68, 3) := by decide +kernel
theorem dX2_measure_61 : decode cX2_measure 61 = .ok (.lxor, 1) := by decide +kernel
theorem dX2_measure_62 : decode cX2_measure 62 = .ok (.land, 1) := by decide +kernel
theorem dX2_measure_63 : decode cX2_measure 63 = .ok (.lstore 6, 2) := by decide +kernel
theorem dX2_measure_65 : decode cX2_measure 65 = .ok (.lload 4, 2) := by decide +kernel
theorem dX2_measure_67 : decode cX2_measure 67 = .ok (.lload 6, 2) := by decide +kernel
theorem dX2_measure_69 : decode cX2_measure 69 = .ok (.lor, 1) := by decide +kernel
theorem dX2_measure_70 : decode cX2_measure 70 = .ok (.lstore 4, 2) := by decide +kernel
theorem dX2_measure_72 : decode cX2_measure 72 = .ok (.iconst 0, 1) := by decide +kernel
theorem dX2_measure_73 : decode cX2_measure 73 = .ok (.istore 9, 2) := by decide +kernel
theorem dX2_measure_75 : decode cX2_measure 75 = .ok (.iload 9, 2) := by decide +kernel
theorem dX2_measure_77 : decode cX2_measure 77 = .ok (.bipush 40, 2) := by decide +kernel
theorem dX2_measure_79 : decode cX2_measure 79 = .ok (.if_icmp .ge 32, 3) := by decide +kernel
theorem dX2_measure_82 : decode cX2_measure 82 = .ok (.lload 6, 2) := by decide +kernel
theorem dX2_measure_84 : decode cX2_measure 84 = .ok (.lconst 0, 1) := by decide +kernel
theorem dX2_measure_85 : decode cX2_measure 85 = .ok (.lcmp, 1) := by decide +kernel
theorem dX2_measure_86 : decode cX2_measure 86 = .ok (.ifCond .eq 25, 3) := by decide +kernel
theorem dX2_measure_89 : decode cX2_measure 89 = .ok (.lload 6, 2) := by decide +kernel
theorem dX2_measure_91 : decode cX2_measure 91 = .ok (.iload 9, 2) := by decide +kernel
theorem dX2_measure_93 : decode cX2_measure 93 = .ok (.invokestatic 74, 3) := by decide +kernel
theorem dX2_measure_96 : decode cX2_measure 96 = .ok (.ifCond .eq 9, 3) := by decide +kernel
theorem dX2_measure_99 : decode cX2_measure 99 = .ok (.aload_n 3, 1) := by decide +kernel
theorem dX2_measure_100 : decode cX2_measure 100 = .ok (.iload 9, 2) := by decide +kernel
theorem dX2_measure_102 : decode cX2_measure 102 = .ok (.iload 8, 2) := by decide +kernel
theorem dX2_measure_104 : decode cX2_measure 104 = .ok (.iastore, 1) := by decide +kernel
theorem dX2_measure_105 : decode cX2_measure 105 = .ok (.iinc 9 1, 3) := by decide +kernel
theorem dX2_measure_108 : decode cX2_measure 108 = .ok (.goto (-33), 3) := by decide +kernel
theorem dX2_measure_111 : decode cX2_measure 111 = .ok (.iinc 8 1, 3) := by decide +kernel
theorem dX2_measure_114 : decode cX2_measure 114 = .ok (.goto (-86), 3) := by decide +kernel
theorem dX2_measure_117 : decode cX2_measure 117 = .ok (.return_, 1) := by decide +kernel
noncomputable def f_X2_measure_117   (σ : jM) : Option (Unit × jM) :=
  some ((), σ)
noncomputable def f_X2_measure_111 (rec28 : Int32 → Nat → Int64 → Int64 → Int32 → jM → Option (Unit × jM)) (l1 : Int32) (l3 : Nat) (l4 : Int64) (l6 : Int64) (l8 : Int32) (σ : jM) : Option (Unit × jM) :=
  rec28 l1 l3 l4 l6 (l8 + 1) σ
noncomputable def f_X2_measure_105 (rec28 : Int32 → Nat → Int64 → Int64 → Int32 → jM → Option (Unit × jM)) (rec75 : Int32 → Nat → Int64 → Int64 → Int32 → Int32 → jM → Option (Unit × jM)) (l1 : Int32) (l3 : Nat) (l4 : Int64) (l6 : Int64) (l8 : Int32) (l9 : Int32) (σ : jM) : Option (Unit × jM) :=
  rec75 l1 l3 l4 l6 l8 (l9 + 1) σ
noncomputable def s_X2_measure_75 (rec28 : Int32 → Nat → Int64 → Int64 → Int32 → jM → Option (Unit × jM)) (rec75 : Int32 → Nat → Int64 → Int64 → Int32 → Int32 → jM → Option (Unit × jM)) (l1 : Int32) (l3 : Nat) (l4 : Int64) (l6 : Int64) (l8 : Int32) (l9 : Int32) (σ : jM) : Option (Unit × jM) :=
  (if 40 ≤ l9 then f_X2_measure_111 rec28 l1 l3 l4 l6 l8 σ else (if (lg_cmp l6 0) = 0 then f_X2_measure_111 rec28 l1 l3 l4 l6 l8 σ else bd (f_X12_has l6 l9 σ) (fun r9 σ10 => (if r9 = 0 then f_X2_measure_105 rec28 rec75 l1 l3 l4 l6 l8 l9 σ10 else gd (inb l9 (shf l3).2) (f_X2_measure_105 rec28 rec75 l1 l3 l4 l6 l8 l9 (wI σ10 l3 (Int32.toNatClampNeg l9) l8))))))
noncomputable def f_X2_measure_75 (rec28 : Int32 → Nat → Int64 → Int64 → Int32 → jM → Option (Unit × jM)) (n : Nat) : Int32 → Nat → Int64 → Int64 → Int32 → Int32 → jM → Option (Unit × jM) := Nat.rec (motive := fun _ => Int32 → Nat → Int64 → Int64 → Int32 → Int32 → jM → Option (Unit × jM)) (fun _ _ _ _ _ _ _ => none) (fun _ q => s_X2_measure_75 rec28 q) n
noncomputable def s_X2_measure_28  (rec28 : Int32 → Nat → Int64 → Int64 → Int32 → jM → Option (Unit × jM)) (l1 : Int32) (l3 : Nat) (l4 : Int64) (l6 : Int64) (l8 : Int32) (σ : jM) : Option (Unit × jM) :=
  (if 40 ≤ l8 then f_X2_measure_117   σ else (if (lg_cmp l6 0) = 0 then f_X2_measure_117   σ else gd (inb l1 2) (bd (f_X12_around (279 + (Int32.toNatClampNeg l1)) l6 σ) (fun r24 σ25 => f_X2_measure_75 rec28 Fu l1 l3 (l4 ||| (r24 &&& (l4 ^^^ (-1)))) (r24 &&& (l4 ^^^ (-1))) l8 0 σ25))))
noncomputable def f_X2_measure_28  (n : Nat) : Int32 → Nat → Int64 → Int64 → Int32 → jM → Option (Unit × jM) := Nat.rec (motive := fun _ => Int32 → Nat → Int64 → Int64 → Int32 → jM → Option (Unit × jM)) (fun _ _ _ _ _ _ => none) (fun _ q => s_X2_measure_28  q) n
noncomputable def f_X2_measure (a1 : Int32) (a2 : Int32) (σ : jM) : Option (Unit × jM) :=
  gd (inb a1 2) (bd (f_J7_fill_53178 (294 + (Int32.toNatClampNeg a1)) (-1) σ) (fun _ σ35 => gd (inb a2 40) (f_X2_measure_28  Fu a1 (294 + (Int32.toNatClampNeg a1)) (jlshl 1 a2) (jlshl 1 a2) 1 (wI σ35 (294 + (Int32.toNatClampNeg a1)) (Int32.toNatClampNeg a2) 0))))
set_option maxRecDepth 20000 in
set_option maxHeartbeats 4000000 in
theorem t_X2_measure_117   (σ : jM) (r : Unit × jM)  (h : f_X2_measure_117   σ = some r) : J mi_X2_measure 3 0 0 (jqV r) 117 [] [] (ms σ) := by
  unfold f_X2_measure_117 at h
  exact J_ret (v := none) rfl ⟨dX2_measure_117, rfl⟩ (jqV_mk h)
set_option maxRecDepth 20000 in
set_option maxHeartbeats 4000000 in
theorem t_X2_measure_111 {rec28 : Int32 → Nat → Int64 → Int64 → Int32 → jM → Option (Unit × jM)} (hrec28 : ∀ (l1 : Int32) (l3 : Nat) (l4 : Int64) (l6 : Int64) (l8 : Int32) (σ : jM) (r : Unit × jM), (shf l3).1 = 14 ∧ l3 < 376 → rec28 l1 l3 l4 l6 l8 σ = some r → J mi_X2_measure 3 0 0 (jqV r) 28 [(0, .ref 289), (1, .int l1), (3, .ref l3), (4, .long l4), (6, .long l6), (8, .int l8)] [] (ms σ)) (l1 : Int32) (l3 : Nat) (l4 : Int64) (l6 : Int64) (l8 : Int32) (σ : jM) (r : Unit × jM) (hl3 : (shf l3).1 = 14 ∧ l3 < 376) (h : f_X2_measure_111 rec28 l1 l3 l4 l6 l8 σ = some r) : J mi_X2_measure 3 0 0 (jqV r) 111 [(0, .ref 289), (1, .int l1), (3, .ref l3), (4, .long l4), (6, .long l6), (8, .int l8)] [] (ms σ) := by
  unfold f_X2_measure_111 at h
  refine J_iinc (v := (l8 + 1)) (ls' := [(8, .int (l8 + 1)), (0, .ref 289), (1, .int l1), (3, .ref l3), (4, .long l4), (6, .long l6)]) 5 dX2_measure_111 rfl rfl (by decide) rfl ?_
  refine J_goto (tgt := 28) dX2_measure_114 (by decide) ?_
  refine J_pick [1, 2, 3, 4, 5, 0] rfl ?_
  exact hrec28 _ _ _ _ _ _ _ ⟨congrArg Prod.fst (shf_fst hl3.1), hl3.2⟩ h
set_option maxRecDepth 20000 in
set_option maxHeartbeats 4000000 in
theorem t_X2_measure_105 {rec28 : Int32 → Nat → Int64 → Int64 → Int32 → jM → Option (Unit × jM)} (hrec28 : ∀ (l1 : Int32) (l3 : Nat) (l4 : Int64) (l6 : Int64) (l8 : Int32) (σ : jM) (r : Unit × jM), (shf l3).1 = 14 ∧ l3 < 376 → rec28 l1 l3 l4 l6 l8 σ = some r → J mi_X2_measure 3 0 0 (jqV r) 28 [(0, .ref 289), (1, .int l1), (3, .ref l3), (4, .long l4), (6, .long l6), (8, .int l8)] [] (ms σ)) {rec75 : Int32 → Nat → Int64 → Int64 → Int32 → Int32 → jM → Option (Unit × jM)} (hrec75 : ∀ (l1 : Int32) (l3 : Nat) (l4 : Int64) (l6 : Int64) (l8 : Int32) (l9 : Int32) (σ : jM) (r : Unit × jM), (shf l3).1 = 14 ∧ l3 < 376 → rec75 l1 l3 l4 l6 l8 l9 σ = some r → J mi_X2_measure 3 0 0 (jqV r) 75 [(0, .ref 289), (1, .int l1), (3, .ref l3), (4, .long l4), (6, .long l6), (8, .int l8), (9, .int l9)] [] (ms σ)) (l1 : Int32) (l3 : Nat) (l4 : Int64) (l6 : Int64) (l8 : Int32) (l9 : Int32) (σ : jM) (r : Unit × jM) (hl3 : (shf l3).1 = 14 ∧ l3 < 376) (h : f_X2_measure_105 rec28 rec75 l1 l3 l4 l6 l8 l9 σ = some r) : J mi_X2_measure 3 0 0 (jqV r) 105 [(0, .ref 289), (1, .int l1), (3, .ref l3), (4, .long l4), (6, .long l6), (8, .int l8), (9, .int l9)] [] (ms σ) := by
  unfold f_X2_measure_105 at h
  refine J_iinc (v := (l9 + 1)) (ls' := [(9, .int (l9 + 1)), (0, .ref 289), (1, .int l1), (3, .ref l3), (4, .long l4), (6, .long l6), (8, .int l8)]) 6 dX2_measure_105 rfl rfl (by decide) rfl ?_
  refine J_goto (tgt := 75) dX2_measure_108 (by decide) ?_
  refine J_pick [1, 2, 3, 4, 5, 6, 0] rfl ?_
  exact hrec75 _ _ _ _ _ _ _ _ ⟨congrArg Prod.fst (shf_fst hl3.1), hl3.2⟩ h
set_option maxRecDepth 20000 in
set_option maxHeartbeats 4000000 in
theorem t_X2_measure_75 {rec28 : Int32 → Nat → Int64 → Int64 → Int32 → jM → Option (Unit × jM)} (hrec28 : ∀ (l1 : Int32) (l3 : Nat) (l4 : Int64) (l6 : Int64) (l8 : Int32) (σ : jM) (r : Unit × jM), (shf l3).1 = 14 ∧ l3 < 376 → rec28 l1 l3 l4 l6 l8 σ = some r → J mi_X2_measure 3 0 0 (jqV r) 28 [(0, .ref 289), (1, .int l1), (3, .ref l3), (4, .long l4), (6, .long l6), (8, .int l8)] [] (ms σ)) : ∀ (n : Nat) (l1 : Int32) (l3 : Nat) (l4 : Int64) (l6 : Int64) (l8 : Int32) (l9 : Int32) (σ : jM) (r : Unit × jM), (shf l3).1 = 14 ∧ l3 < 376 → f_X2_measure_75 rec28 n l1 l3 l4 l6 l8 l9 σ = some r → J mi_X2_measure 3 0 0 (jqV r) 75 [(0, .ref 289), (1, .int l1), (3, .ref l3), (4, .long l4), (6, .long l6), (8, .int l8), (9, .int l9)] [] (ms σ) := by
  intro n
  induction n with
  | zero =>
    intro l1 l3 l4 l6 l8 l9 σ r hl3 h
    have h : (none : Option (Unit × jM)) = some r := h
    cases h
  | succ n ih =>
    intro l1 l3 l4 l6 l8 l9 σ r hl3 h
    have h : s_X2_measure_75 rec28 (f_X2_measure_75 rec28 n) l1 l3 l4 l6 l8 l9 σ = some r := h
    unfold s_X2_measure_75 at h
    refine J_iload 6 dX2_measure_75 rfl ?_
    refine J_bipush (v := 40) dX2_measure_77 (by decide) ?_
    refine J_icmp_ge (tgt := 111) dX2_measure_79 (by decide) (fun c14 => ?_) (fun c14 => ?_)
    · have h := (if_pos c14).symm.trans h
      refine J_pick [0, 1, 2, 3, 4, 5] rfl ?_
      exact t_X2_measure_111 hrec28 _ _ _ _ _ _ _ ⟨congrArg Prod.fst (shf_fst hl3.1), hl3.2⟩ h
    · have h := (if_neg c14).symm.trans h
      refine J_lload 4 dX2_measure_82 rfl ?_
      refine J_lconst (v := 0) dX2_measure_84 (by decide) ?_
      refine J_lcmp dX2_measure_85 ?_
      refine J_if_eq (tgt := 111) dX2_measure_86 (by decide) (fun c15 => ?_) (fun c15 => ?_)
      · have h := (if_pos c15).symm.trans h
        refine J_pick [0, 1, 2, 3, 4, 5] rfl ?_
        exact t_X2_measure_111 hrec28 _ _ _ _ _ _ _ ⟨congrArg Prod.fst (shf_fst hl3.1), hl3.2⟩ h
      · have h := (if_neg c15).symm.trans h
        refine J_lload 4 dX2_measure_89 rfl ?_
        refine J_iload 6 dX2_measure_91 rfl ?_
        obtain ⟨r16, σ17, h18, h⟩ := bd_inv h
        refine M_callNI (d' := 1) (As := [.long l6, .int l9]) (st := []) cn_X2_74 dX2_measure_93 rfl (Nat.le_of_ble_eq_true rfl) (Nat.le_of_ble_eq_true rfl) (by decide) rfl rfl (t_X12_has  h18) ?_
        refine J_if_eq (tgt := 105) dX2_measure_96 (by decide) (fun c19 => ?_) (fun c19 => ?_)
        · have h := (if_pos c19).symm.trans h
          exact t_X2_measure_105 hrec28 ih _ _ _ _ _ _ _ _ ⟨congrArg Prod.fst (shf_fst hl3.1), hl3.2⟩ h
        · have h := (if_neg c19).symm.trans h
          refine J_aload_n 2 dX2_measure_99 rfl ?_
          refine J_iload 6 dX2_measure_100 rfl ?_
          refine J_iload 5 dX2_measure_102 rfl ?_
          obtain ⟨g20, h⟩ := gd_inv h
          refine M_iast dX2_measure_104 (shf_fst hl3.1) hl3.2 g20 ?_
          exact t_X2_measure_105 hrec28 ih _ _ _ _ _ _ _ _ ⟨congrArg Prod.fst (shf_fst hl3.1), hl3.2⟩ h
set_option maxRecDepth 20000 in
set_option maxHeartbeats 4000000 in
theorem t_X2_measure_28  : ∀ (n : Nat) (l1 : Int32) (l3 : Nat) (l4 : Int64) (l6 : Int64) (l8 : Int32) (σ : jM) (r : Unit × jM), (shf l3).1 = 14 ∧ l3 < 376 → f_X2_measure_28  n l1 l3 l4 l6 l8 σ = some r → J mi_X2_measure 3 0 0 (jqV r) 28 [(0, .ref 289), (1, .int l1), (3, .ref l3), (4, .long l4), (6, .long l6), (8, .int l8)] [] (ms σ) := by
  intro n
  induction n with
  | zero =>
    intro l1 l3 l4 l6 l8 σ r hl3 h
    have h : (none : Option (Unit × jM)) = some r := h
    cases h
  | succ n ih =>
    intro l1 l3 l4 l6 l8 σ r hl3 h
    have h : s_X2_measure_28  (f_X2_measure_28  n) l1 l3 l4 l6 l8 σ = some r := h
    unfold s_X2_measure_28 at h
    refine J_iload 5 dX2_measure_28 rfl ?_
    refine J_bipush (v := 40) dX2_measure_30 (by decide) ?_
    refine J_icmp_ge (tgt := 117) dX2_measure_32 (by decide) (fun c27 => ?_) (fun c27 => ?_)
    · have h := (if_pos c27).symm.trans h
      refine J_pick [] rfl ?_
      exact t_X2_measure_117   _ _  h
    · have h := (if_neg c27).symm.trans h
      refine J_lload 4 dX2_measure_35 rfl ?_
      refine J_lconst (v := 0) dX2_measure_37 (by decide) ?_
      refine J_lcmp dX2_measure_38 ?_
      refine J_if_eq (tgt := 117) dX2_measure_39 (by decide) (fun c28 => ?_) (fun c28 => ?_)
      · have h := (if_pos c28).symm.trans h
        refine J_pick [] rfl ?_
        exact t_X2_measure_117   _ _  h
      · have h := (if_neg c28).symm.trans h
        refine J_aload_n 0 dX2_measure_42 rfl ?_
        refine M_getR gf_X2_26_2 dX2_measure_43 (g_289_9 _) k_289 n_289 ?_
        refine M_getR gf_X2_104_3 dX2_measure_46 (g_264_2 _) k_264 n_264 ?_
        refine J_iload_n 1 dX2_measure_49 rfl ?_
        obtain ⟨g29, h⟩ := gd_inv h
        refine M_aald dX2_measure_50 a_278 (by decide) n_278 g29 (r_row278 _ g29.2) ?_
        refine J_lload 4 dX2_measure_51 rfl ?_
        obtain ⟨r30, σ31, h32, h⟩ := bd_inv h
        refine M_callNL (d' := 2) (As := [.ref (279 + (Int32.toNatClampNeg l1)), .long l6]) (st := []) cn_X2_107 dX2_measure_53 rfl (Nat.le_of_ble_eq_true rfl) (Nat.le_of_ble_eq_true rfl) (by decide) rfl rfl (t_X12_around ⟨congrArg Prod.fst (a_row278 g29.2), (na_row278 g29.2)⟩ h32) ?_
        refine J_lload 3 dX2_measure_56 rfl ?_
        refine J_ldc2 dX2_measure_58 ct_X2_68 ?_
        refine J_lxor dX2_measure_61 ?_
        refine J_land dX2_measure_62 ?_
        refine J_lstore (i := 6) (ls' := [(6, .long (r30 &&& (l4 ^^^ (-1)))), (0, .ref 289), (1, .int l1), (3, .ref l3), (4, .long l4), (8, .int l8)]) dX2_measure_63 (by decide) rfl ?_
        refine J_lload 4 dX2_measure_65 rfl ?_
        refine J_lload 0 dX2_measure_67 rfl ?_
        refine J_lor dX2_measure_69 ?_
        refine J_lstore (i := 4) (ls' := [(4, .long (l4 ||| (r30 &&& (l4 ^^^ (-1))))), (6, .long (r30 &&& (l4 ^^^ (-1)))), (0, .ref 289), (1, .int l1), (3, .ref l3), (8, .int l8)]) dX2_measure_70 (by decide) rfl ?_
        refine J_iconst (v := 0) dX2_measure_72 (by decide) ?_
        refine J_istore (i := 9) (ls' := [(9, .int 0), (4, .long (l4 ||| (r30 &&& (l4 ^^^ (-1))))), (6, .long (r30 &&& (l4 ^^^ (-1)))), (0, .ref 289), (1, .int l1), (3, .ref l3), (8, .int l8)]) dX2_measure_73 (by decide) rfl ?_
        refine J_pick [3, 4, 5, 1, 2, 6, 0] rfl ?_
        exact t_X2_measure_75 ih _ _ _ _ _ _ _ _ _ ⟨congrArg Prod.fst (shf_fst hl3.1), hl3.2⟩ h
set_option maxRecDepth 20000 in
set_option maxHeartbeats 4000000 in
theorem t_X2_measure {a1 : Int32} {a2 : Int32} {σ : jM} {r : Unit × jM}  (h : f_X2_measure a1 a2 σ = some r) : J mi_X2_measure 3 0 0 (jqV r) 0 [(0, .ref 289), (1, .int a1), (2, .int a2)] [] (ms σ) := by
  unfold f_X2_measure at h
  refine J_aload_n 0 dX2_measure_0 rfl ?_
  refine M_getR gf_X2_23_2 dX2_measure_1 (g_289_12 _) k_289 n_289 ?_
  refine J_iload_n 1 dX2_measure_4 rfl ?_
  obtain ⟨g33, h⟩ := gd_inv h
  refine M_aald dX2_measure_5 a_293 (by decide) n_293 g33 (r_row293 _ g33.2) ?_
  refine J_astore_n (i := 3) (ls' := [(3, .ref (294 + (Int32.toNatClampNeg a1))), (0, .ref 289), (1, .int a1), (2, .int a2)]) dX2_measure_6 rfl (by decide) rfl ?_
  refine J_aload_n 0 dX2_measure_7 rfl ?_
  refine J_iconst (v := (-1)) dX2_measure_8 (by decide) ?_
  obtain ⟨_, σ35, h36, h⟩ := bd_inv h
  refine M_callSV (d' := 1) (As := [.ref (294 + (Int32.toNatClampNeg a1)), .int (-1)]) (st := []) cs_X2_98 dX2_measure_9 rfl (Nat.le_of_ble_eq_true rfl) (Nat.le_of_ble_eq_true rfl) (by decide) rfl rfl (t_J7_fill_53178 ⟨congrArg Prod.fst (a_row293 g33.2), (na_row293 g33.2)⟩ h36) ?_
  refine J_aload_n 0 dX2_measure_12 rfl ?_
  refine J_iload_n 3 dX2_measure_13 rfl ?_
  refine J_iconst (v := 0) dX2_measure_14 (by decide) ?_
  obtain ⟨g37, h⟩ := gd_inv h
  refine M_iast dX2_measure_15 (a_row293 g33.2) (na_row293 g33.2) g37 ?_
  refine J_lconst (v := 1) dX2_measure_16 (by decide) ?_
  refine J_iload_n 3 dX2_measure_17 rfl ?_
  refine J_lshl dX2_measure_18 ?_
  refine J_lstore (i := 4) (ls' := [(4, .long (jlshl 1 a2)), (3, .ref (294 + (Int32.toNatClampNeg a1))), (0, .ref 289), (1, .int a1), (2, .int a2)]) dX2_measure_19 (by decide) rfl ?_
  refine J_lload 0 dX2_measure_21 rfl ?_
  refine J_lstore (i := 6) (ls' := [(6, .long (jlshl 1 a2)), (4, .long (jlshl 1 a2)), (3, .ref (294 + (Int32.toNatClampNeg a1))), (0, .ref 289), (1, .int a1), (2, .int a2)]) dX2_measure_23 (by decide) rfl ?_
  refine J_iconst (v := 1) dX2_measure_25 (by decide) ?_
  refine J_istore (i := 8) (ls' := [(8, .int 1), (6, .long (jlshl 1 a2)), (4, .long (jlshl 1 a2)), (3, .ref (294 + (Int32.toNatClampNeg a1))), (0, .ref 289), (1, .int a1), (2, .int a2)]) dX2_measure_26 (by decide) rfl ?_
  refine J_pick [4, 5, 3, 2, 1, 0] rfl ?_
  exact t_X2_measure_28  _ _ _ _ _ _ _ _ ⟨congrArg Prod.fst (a_row293 g33.2), (na_row293 g33.2)⟩ h
