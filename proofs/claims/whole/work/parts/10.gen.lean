theorem dX3_countsOn_0 : decode cX3_countsOn 0 = .ok (.aload_n 0, 1) := by decide +kernel
theorem dX3_countsOn_1 : decode cX3_countsOn 1 = .ok (.getfield 15, 3) := by decide +kernel
theorem dX3_countsOn_4 : decode cX3_countsOn 4 = .ok (.iload_n 1, 1) := by decide +kernel
theorem dX3_countsOn_5 : decode cX3_countsOn 5 = .ok (.if_icmp .gt 23, 3) := by decide +kernel
theorem dX3_countsOn_8 : decode cX3_countsOn 8 = .ok (.aload_n 0, 1) := by decide +kernel
theorem dX3_countsOn_9 : decode cX3_countsOn 9 = .ok (.getfield 9, 3) := by decide +kernel
theorem dX3_countsOn_12 : decode cX3_countsOn 12 = .ok (.iconst (-1), 1) := by decide +kernel
theorem dX3_countsOn_13 : decode cX3_countsOn 13 = .ok (.if_icmp .eq 11, 3) := by decide +kernel
theorem dX3_countsOn_16 : decode cX3_countsOn 16 = .ok (.aload_n 0, 1) := by decide +kernel
theorem dX3_countsOn_17 : decode cX3_countsOn 17 = .ok (.getfield 9, 3) := by decide +kernel
theorem dX3_countsOn_20 : decode cX3_countsOn 20 = .ok (.iload_n 1, 1) := by decide +kernel
theorem dX3_countsOn_21 : decode cX3_countsOn 21 = .ok (.if_icmp .le 7, 3) := by decide +kernel
theorem dX3_countsOn_24 : decode cX3_countsOn 24 = .ok (.iconst 1, 1) := by decide +kernel
theorem dX3_countsOn_25 : decode cX3_countsOn 25 = .ok (.goto 4, 3) := by decide +kernel
theorem dX3_countsOn_28 : decode cX3_countsOn 28 = .ok (.iconst 0, 1) := by decide +kernel
theorem dX3_countsOn_29 : decode cX3_countsOn 29 = .ok (.ireturn, 1) := by decide +kernel
noncomputable def f_countsOn_9_29  (s0 : Int32) (σ : jM) : Option (Int32 × jM) :=
  gd (s0 = 0 ∨ s0 = 1) (some (s0, σ))
noncomputable def f_countsOn_9_28   (σ : jM) : Option (Int32 × jM) :=
  f_countsOn_9_29  0 σ
noncomputable def f_countsOn_9_24   (σ : jM) : Option (Int32 × jM) :=
  f_countsOn_9_29  1 σ
noncomputable def f_countsOn_9 (k : Nat) (a1 : Int32) (σ : jM) : Option (Int32 × jM) :=
  (if a1 < (rI σ k 0) then f_countsOn_9_28   σ else (if (rI σ k 1) = (-1) then f_countsOn_9_24   σ else (if (rI σ k 1) ≤ a1 then f_countsOn_9_28   σ else f_countsOn_9_24   σ)))
set_option maxRecDepth 20000 in
set_option maxHeartbeats 4000000 in
theorem t_countsOn_9_29  (s0 : Int32) (σ : jM) (r : Int32 × jM)  (h : f_countsOn_9_29  s0 σ = some r) : J mi_X3_countsOn 1 0 0 (jqI r) 29 [] [.int s0] (ms σ) := by
  unfold f_countsOn_9_29 at h
  obtain ⟨g2, h⟩ := gd_inv h
  exact J_ret (v := some (.int s0)) rfl ⟨dX3_countsOn_29, Or.inr (Or.inl ⟨rfl, g2⟩)⟩ (jqI_mk h)
set_option maxRecDepth 20000 in
set_option maxHeartbeats 4000000 in
theorem t_countsOn_9_28   (σ : jM) (r : Int32 × jM)  (h : f_countsOn_9_28   σ = some r) : J mi_X3_countsOn 1 0 0 (jqI r) 28 [] [] (ms σ) := by
  unfold f_countsOn_9_28 at h
  refine J_iconst (v := 0) dX3_countsOn_28 (by decide) ?_
  exact t_countsOn_9_29  _ _ _  h
set_option maxRecDepth 20000 in
set_option maxHeartbeats 4000000 in
theorem t_countsOn_9_24   (σ : jM) (r : Int32 × jM)  (h : f_countsOn_9_24   σ = some r) : J mi_X3_countsOn 1 0 0 (jqI r) 24 [] [] (ms σ) := by
  unfold f_countsOn_9_24 at h
  refine J_iconst (v := 1) dX3_countsOn_24 (by decide) ?_
  refine J_goto (tgt := 29) dX3_countsOn_25 (by decide) ?_
  exact t_countsOn_9_29  _ _ _  h
set_option maxRecDepth 20000 in
set_option maxHeartbeats 4000000 in
theorem t_countsOn_9 {k : Nat} {a1 : Int32} {σ : jM} {r : Int32 × jM} (hk : (shf k).1 = 9) (hn : k < 376) (h : f_countsOn_9 k a1 σ = some r) : J mi_X3_countsOn 1 0 0 (jqI r) 0 [(0, .ref k), (1, .int a1)] [] (ms σ) := by
  unfold f_countsOn_9 at h
  refine J_aload_n 0 dX3_countsOn_0 rfl ?_
  refine M_getI gf_X3_15_9 dX3_countsOn_1 hk hn ?_
  refine J_iload_n 1 dX3_countsOn_4 rfl ?_
  refine J_icmp_gt (tgt := 28) dX3_countsOn_5 (by decide) (fun c3 => ?_) (fun c3 => ?_)
  · have h := (if_pos c3).symm.trans h
    refine J_pick [] rfl ?_
    exact t_countsOn_9_28   _ _  h
  · have h := (if_neg c3).symm.trans h
    refine J_aload_n 0 dX3_countsOn_8 rfl ?_
    refine M_getI gf_X3_9_9 dX3_countsOn_9 hk hn ?_
    refine J_iconst (v := (-1)) dX3_countsOn_12 (by decide) ?_
    refine J_icmp_eq (tgt := 24) dX3_countsOn_13 (by decide) (fun c4 => ?_) (fun c4 => ?_)
    · have h := (if_pos c4).symm.trans h
      refine J_pick [] rfl ?_
      exact t_countsOn_9_24   _ _  h
    · have h := (if_neg c4).symm.trans h
      refine J_aload_n 0 dX3_countsOn_16 rfl ?_
      refine M_getI gf_X3_9_9 dX3_countsOn_17 hk hn ?_
      refine J_iload_n 1 dX3_countsOn_20 rfl ?_
      refine J_icmp_le (tgt := 28) dX3_countsOn_21 (by decide) (fun c5 => ?_) (fun c5 => ?_)
      · have h := (if_pos c5).symm.trans h
        refine J_pick [] rfl ?_
        exact t_countsOn_9_28   _ _  h
      · have h := (if_neg c5).symm.trans h
        refine J_pick [] rfl ?_
        exact t_countsOn_9_24   _ _  h
noncomputable def f_countsOn_8_29  (s0 : Int32) (σ : jM) : Option (Int32 × jM) :=
  gd (s0 = 0 ∨ s0 = 1) (some (s0, σ))
noncomputable def f_countsOn_8_28   (σ : jM) : Option (Int32 × jM) :=
  f_countsOn_8_29  0 σ
noncomputable def f_countsOn_8_24   (σ : jM) : Option (Int32 × jM) :=
  f_countsOn_8_29  1 σ
noncomputable def f_countsOn_8 (k : Nat) (a1 : Int32) (σ : jM) : Option (Int32 × jM) :=
  (if a1 < (rI σ k 0) then f_countsOn_8_28   σ else (if (rI σ k 1) = (-1) then f_countsOn_8_24   σ else (if (rI σ k 1) ≤ a1 then f_countsOn_8_28   σ else f_countsOn_8_24   σ)))
set_option maxRecDepth 20000 in
set_option maxHeartbeats 4000000 in
theorem t_countsOn_8_29  (s0 : Int32) (σ : jM) (r : Int32 × jM)  (h : f_countsOn_8_29  s0 σ = some r) : J mi_X3_countsOn 1 0 0 (jqI r) 29 [] [.int s0] (ms σ) := by
  unfold f_countsOn_8_29 at h
  obtain ⟨g2, h⟩ := gd_inv h
  exact J_ret (v := some (.int s0)) rfl ⟨dX3_countsOn_29, Or.inr (Or.inl ⟨rfl, g2⟩)⟩ (jqI_mk h)
set_option maxRecDepth 20000 in
set_option maxHeartbeats 4000000 in
theorem t_countsOn_8_28   (σ : jM) (r : Int32 × jM)  (h : f_countsOn_8_28   σ = some r) : J mi_X3_countsOn 1 0 0 (jqI r) 28 [] [] (ms σ) := by
  unfold f_countsOn_8_28 at h
  refine J_iconst (v := 0) dX3_countsOn_28 (by decide) ?_
  exact t_countsOn_8_29  _ _ _  h
set_option maxRecDepth 20000 in
set_option maxHeartbeats 4000000 in
theorem t_countsOn_8_24   (σ : jM) (r : Int32 × jM)  (h : f_countsOn_8_24   σ = some r) : J mi_X3_countsOn 1 0 0 (jqI r) 24 [] [] (ms σ) := by
  unfold f_countsOn_8_24 at h
  refine J_iconst (v := 1) dX3_countsOn_24 (by decide) ?_
  refine J_goto (tgt := 29) dX3_countsOn_25 (by decide) ?_
  exact t_countsOn_8_29  _ _ _  h
set_option maxRecDepth 20000 in
set_option maxHeartbeats 4000000 in
theorem t_countsOn_8 {k : Nat} {a1 : Int32} {σ : jM} {r : Int32 × jM} (hk : (shf k).1 = 8) (hn : k < 376) (h : f_countsOn_8 k a1 σ = some r) : J mi_X3_countsOn 1 0 0 (jqI r) 0 [(0, .ref k), (1, .int a1)] [] (ms σ) := by
  unfold f_countsOn_8 at h
  refine J_aload_n 0 dX3_countsOn_0 rfl ?_
  refine M_getI gf_X3_15_8 dX3_countsOn_1 hk hn ?_
  refine J_iload_n 1 dX3_countsOn_4 rfl ?_
  refine J_icmp_gt (tgt := 28) dX3_countsOn_5 (by decide) (fun c3 => ?_) (fun c3 => ?_)
  · have h := (if_pos c3).symm.trans h
    refine J_pick [] rfl ?_
    exact t_countsOn_8_28   _ _  h
  · have h := (if_neg c3).symm.trans h
    refine J_aload_n 0 dX3_countsOn_8 rfl ?_
    refine M_getI gf_X3_9_8 dX3_countsOn_9 hk hn ?_
    refine J_iconst (v := (-1)) dX3_countsOn_12 (by decide) ?_
    refine J_icmp_eq (tgt := 24) dX3_countsOn_13 (by decide) (fun c4 => ?_) (fun c4 => ?_)
    · have h := (if_pos c4).symm.trans h
      refine J_pick [] rfl ?_
      exact t_countsOn_8_24   _ _  h
    · have h := (if_neg c4).symm.trans h
      refine J_aload_n 0 dX3_countsOn_16 rfl ?_
      refine M_getI gf_X3_9_8 dX3_countsOn_17 hk hn ?_
      refine J_iload_n 1 dX3_countsOn_20 rfl ?_
      refine J_icmp_le (tgt := 28) dX3_countsOn_21 (by decide) (fun c5 => ?_) (fun c5 => ?_)
      · have h := (if_pos c5).symm.trans h
        refine J_pick [] rfl ?_
        exact t_countsOn_8_28   _ _  h
      · have h := (if_neg c5).symm.trans h
        refine J_pick [] rfl ?_
        exact t_countsOn_8_24   _ _  h
noncomputable def f_countsOn_5_29  (s0 : Int32) (σ : jM) : Option (Int32 × jM) :=
  gd (s0 = 0 ∨ s0 = 1) (some (s0, σ))
noncomputable def f_countsOn_5_28   (σ : jM) : Option (Int32 × jM) :=
  f_countsOn_5_29  0 σ
noncomputable def f_countsOn_5_24   (σ : jM) : Option (Int32 × jM) :=
  f_countsOn_5_29  1 σ
noncomputable def f_countsOn_5 (k : Nat) (a1 : Int32) (σ : jM) : Option (Int32 × jM) :=
  (if a1 < (rI σ k 0) then f_countsOn_5_28   σ else (if (rI σ k 1) = (-1) then f_countsOn_5_24   σ else (if (rI σ k 1) ≤ a1 then f_countsOn_5_28   σ else f_countsOn_5_24   σ)))
set_option maxRecDepth 20000 in
set_option maxHeartbeats 4000000 in
theorem t_countsOn_5_29  (s0 : Int32) (σ : jM) (r : Int32 × jM)  (h : f_countsOn_5_29  s0 σ = some r) : J mi_X3_countsOn 1 0 0 (jqI r) 29 [] [.int s0] (ms σ) := by
  unfold f_countsOn_5_29 at h
  obtain ⟨g2, h⟩ := gd_inv h
  exact J_ret (v := some (.int s0)) rfl ⟨dX3_countsOn_29, Or.inr (Or.inl ⟨rfl, g2⟩)⟩ (jqI_mk h)
set_option maxRecDepth 20000 in
set_option maxHeartbeats 4000000 in
theorem t_countsOn_5_28   (σ : jM) (r : Int32 × jM)  (h : f_countsOn_5_28   σ = some r) : J mi_X3_countsOn 1 0 0 (jqI r) 28 [] [] (ms σ) := by
  unfold f_countsOn_5_28 at h
  refine J_iconst (v := 0) dX3_countsOn_28 (by decide) ?_
  exact t_countsOn_5_29  _ _ _  h
set_option maxRecDepth 20000 in
set_option maxHeartbeats 4000000 in
theorem t_countsOn_5_24   (σ : jM) (r : Int32 × jM)  (h : f_countsOn_5_24   σ = some r) : J mi_X3_countsOn 1 0 0 (jqI r) 24 [] [] (ms σ) := by
  unfold f_countsOn_5_24 at h
  refine J_iconst (v := 1) dX3_countsOn_24 (by decide) ?_
  refine J_goto (tgt := 29) dX3_countsOn_25 (by decide) ?_
  exact t_countsOn_5_29  _ _ _  h
set_option maxRecDepth 20000 in
set_option maxHeartbeats 4000000 in
theorem t_countsOn_5 {k : Nat} {a1 : Int32} {σ : jM} {r : Int32 × jM} (hk : (shf k).1 = 5) (hn : k < 376) (h : f_countsOn_5 k a1 σ = some r) : J mi_X3_countsOn 1 0 0 (jqI r) 0 [(0, .ref k), (1, .int a1)] [] (ms σ) := by
  unfold f_countsOn_5 at h
  refine J_aload_n 0 dX3_countsOn_0 rfl ?_
  refine M_getI gf_X3_15_5 dX3_countsOn_1 hk hn ?_
  refine J_iload_n 1 dX3_countsOn_4 rfl ?_
  refine J_icmp_gt (tgt := 28) dX3_countsOn_5 (by decide) (fun c3 => ?_) (fun c3 => ?_)
  · have h := (if_pos c3).symm.trans h
    refine J_pick [] rfl ?_
    exact t_countsOn_5_28   _ _  h
  · have h := (if_neg c3).symm.trans h
    refine J_aload_n 0 dX3_countsOn_8 rfl ?_
    refine M_getI gf_X3_9_5 dX3_countsOn_9 hk hn ?_
    refine J_iconst (v := (-1)) dX3_countsOn_12 (by decide) ?_
    refine J_icmp_eq (tgt := 24) dX3_countsOn_13 (by decide) (fun c4 => ?_) (fun c4 => ?_)
    · have h := (if_pos c4).symm.trans h
      refine J_pick [] rfl ?_
      exact t_countsOn_5_24   _ _  h
    · have h := (if_neg c4).symm.trans h
      refine J_aload_n 0 dX3_countsOn_16 rfl ?_
      refine M_getI gf_X3_9_5 dX3_countsOn_17 hk hn ?_
      refine J_iload_n 1 dX3_countsOn_20 rfl ?_
      refine J_icmp_le (tgt := 28) dX3_countsOn_21 (by decide) (fun c5 => ?_) (fun c5 => ?_)
      · have h := (if_pos c5).symm.trans h
        refine J_pick [] rfl ?_
        exact t_countsOn_5_28   _ _  h
      · have h := (if_neg c5).symm.trans h
        refine J_pick [] rfl ?_
        exact t_countsOn_5_24   _ _  h
theorem dX12_countingToday_0 : decode cX12_countingToday 0 = .ok (.iconst 0, 1) := by decide +kernel
theorem dX12_countingToday_1 : decode cX12_countingToday 1 = .ok (.istore_n 3, 1) := by decide +kernel
theorem dX12_countingToday_2 : decode cX12_countingToday 2 = .ok (.iconst 0, 1) := by decide +kernel
theorem dX12_countingToday_3 : decode cX12_countingToday 3 = .ok (.istore 4, 2) := by decide +kernel
theorem dX12_countingToday_5 : decode cX12_countingToday 5 = .ok (.iload 4, 2) := by decide +kernel
theorem dX12_countingToday_7 : decode cX12_countingToday 7 = .ok (.iload_n 2, 1) := by decide +kernel
theorem dX12_countingToday_8 : decode cX12_countingToday 8 = .ok (.if_icmp .ge 36, 3) := by decide +kernel
theorem dX12_countingToday_11 : decode cX12_countingToday 11 = .ok (.iload 4, 2) := by decide +kernel
theorem dX12_countingToday_13 : decode cX12_countingToday 13 = .ok (.aload_n 1, 1) := by decide +kernel
theorem dX12_countingToday_14 : decode cX12_countingToday 14 = .ok (.arraylength, 1) := by decide +kernel
theorem dX12_countingToday_15 : decode cX12_countingToday 15 = .ok (.if_icmp .ge 29, 3) := by decide +kernel
theorem dX12_countingToday_18 : decode cX12_countingToday 18 = .ok (.aload_n 1, 1) := by decide +kernel
theorem dX12_countingToday_19 : decode cX12_countingToday 19 = .ok (.iload 4, 2) := by decide +kernel
theorem dX12_countingToday_21 : decode cX12_countingToday 21 = .ok (.aaload, 1) := by decide +kernel
theorem dX12_countingToday_22 : decode cX12_countingToday 22 = .ok (.aload_n 0, 1) := by decide +kernel
theorem dX12_countingToday_23 : decode cX12_countingToday 23 = .ok (.getfield 19, 3) := by decide +kernel
theorem dX12_countingToday_26 : decode cX12_countingToday 26 = .ok (.getfield 66, 3) := by decide +kernel
theorem dX12_countingToday_29 : decode cX12_countingToday 29 = .ok (.invokevirtual 375, 3) := by decide +kernel
theorem dX12_countingToday_32 : decode cX12_countingToday 32 = .ok (.ifCond .eq 6, 3) := by decide +kernel
theorem dX12_countingToday_35 : decode cX12_countingToday 35 = .ok (.iinc 3 1, 3) := by decide +kernel
theorem dX12_countingToday_38 : decode cX12_countingToday 38 = .ok (.iinc 4 1, 3) := by decide +kernel
theorem dX12_countingToday_41 : decode cX12_countingToday 41 = .ok (.goto (-36), 3) := by decide +kernel
theorem dX12_countingToday_44 : decode cX12_countingToday 44 = .ok (.iload_n 3, 1) := by decide +kernel
theorem dX12_countingToday_45 : decode cX12_countingToday 45 = .ok (.ireturn, 1) := by decide +kernel
noncomputable def f_X12_countingToday_4_44  (l3 : Int32) (σ : jM) : Option (Int32 × jM) :=
  some (l3, σ)
noncomputable def f_X12_countingToday_4_38 (rec5 : Int32 → Int32 → Int32 → jM → Option (Int32 × jM)) (l2 : Int32) (l3 : Int32) (l4 : Int32) (σ : jM) : Option (Int32 × jM) :=
  rec5 l2 l3 (l4 + 1) σ
noncomputable def s_X12_countingToday_4_5  (rec5 : Int32 → Int32 → Int32 → jM → Option (Int32 × jM)) (l2 : Int32) (l3 : Int32) (l4 : Int32) (σ : jM) : Option (Int32 × jM) :=
  (if l2 ≤ l4 then f_X12_countingToday_4_44  l3 σ else (if (Int32.ofNat 24) ≤ l4 then f_X12_countingToday_4_44  l3 σ else gd (inb l4 24) (bd (f_countsOn_9 (tabX (Int32.toNatClampNeg l4)) (rI σ 3 0) σ) (fun r5 σ6 => (if r5 = 0 then f_X12_countingToday_4_38 rec5 l2 l3 l4 σ6 else f_X12_countingToday_4_38 rec5 l2 (l3 + 1) l4 σ6)))))
noncomputable def f_X12_countingToday_4_5  (n : Nat) : Int32 → Int32 → Int32 → jM → Option (Int32 × jM) := Nat.rec (motive := fun _ => Int32 → Int32 → Int32 → jM → Option (Int32 × jM)) (fun _ _ _ _ => none) (fun _ q => s_X12_countingToday_4_5  q) n
noncomputable def f_X12_countingToday_4 (a2 : Int32) (σ : jM) : Option (Int32 × jM) :=
  f_X12_countingToday_4_5  Fu a2 0 0 σ
set_option maxRecDepth 20000 in
set_option maxHeartbeats 4000000 in
theorem t_X12_countingToday_4_44  (l3 : Int32) (σ : jM) (r : Int32 × jM)  (h : f_X12_countingToday_4_44  l3 σ = some r) : J mi_X12_countingToday 2 0 0 (jqI r) 44 [(3, .int l3)] [] (ms σ) := by
  unfold f_X12_countingToday_4_44 at h
  refine J_iload_n 0 dX12_countingToday_44 rfl ?_
  exact J_ret (v := some (.int l3)) rfl ⟨dX12_countingToday_45, Or.inl rfl⟩ (jqI_mk h)
set_option maxRecDepth 20000 in
set_option maxHeartbeats 4000000 in
theorem t_X12_countingToday_4_38 {rec5 : Int32 → Int32 → Int32 → jM → Option (Int32 × jM)} (hrec5 : ∀ (l2 : Int32) (l3 : Int32) (l4 : Int32) (σ : jM) (r : Int32 × jM), rec5 l2 l3 l4 σ = some r → J mi_X12_countingToday 2 0 0 (jqI r) 5 [(0, .ref 0), (1, .ref 4), (2, .int l2), (3, .int l3), (4, .int l4)] [] (ms σ)) (l2 : Int32) (l3 : Int32) (l4 : Int32) (σ : jM) (r : Int32 × jM)  (h : f_X12_countingToday_4_38 rec5 l2 l3 l4 σ = some r) : J mi_X12_countingToday 2 0 0 (jqI r) 38 [(0, .ref 0), (1, .ref 4), (2, .int l2), (3, .int l3), (4, .int l4)] [] (ms σ) := by
  unfold f_X12_countingToday_4_38 at h
  refine J_iinc (v := (l4 + 1)) (ls' := [(4, .int (l4 + 1)), (0, .ref 0), (1, .ref 4), (2, .int l2), (3, .int l3)]) 4 dX12_countingToday_38 rfl rfl (by decide) rfl ?_
  refine J_goto (tgt := 5) dX12_countingToday_41 (by decide) ?_
  refine J_pick [1, 2, 3, 4, 0] rfl ?_
  exact hrec5 _ _ _ _ _  h
set_option maxRecDepth 20000 in
set_option maxHeartbeats 4000000 in
theorem t_X12_countingToday_4_5  : ∀ (n : Nat) (l2 : Int32) (l3 : Int32) (l4 : Int32) (σ : jM) (r : Int32 × jM), f_X12_countingToday_4_5  n l2 l3 l4 σ = some r → J mi_X12_countingToday 2 0 0 (jqI r) 5 [(0, .ref 0), (1, .ref 4), (2, .int l2), (3, .int l3), (4, .int l4)] [] (ms σ) := by
  intro n
  induction n with
  | zero =>
    intro l2 l3 l4 σ r  h
    have h : (none : Option (Int32 × jM)) = some r := h
    cases h
  | succ n ih =>
    intro l2 l3 l4 σ r  h
    have h : s_X12_countingToday_4_5  (f_X12_countingToday_4_5  n) l2 l3 l4 σ = some r := h
    unfold s_X12_countingToday_4_5 at h
    refine J_iload 4 dX12_countingToday_5 rfl ?_
    refine J_iload_n 2 dX12_countingToday_7 rfl ?_
    refine J_icmp_ge (tgt := 44) dX12_countingToday_8 (by decide) (fun c9 => ?_) (fun c9 => ?_)
    · have h := (if_pos c9).symm.trans h
      refine J_pick [3] rfl ?_
      exact t_X12_countingToday_4_44  _ _ _  h
    · have h := (if_neg c9).symm.trans h
      refine J_iload 4 dX12_countingToday_11 rfl ?_
      refine J_aload_n 1 dX12_countingToday_13 rfl ?_
      refine M_alen dX12_countingToday_14 a_4 (by decide) n_4 ?_
      refine J_icmp_ge (tgt := 44) dX12_countingToday_15 (by decide) (fun c10 => ?_) (fun c10 => ?_)
      · have h := (if_pos c10).symm.trans h
        refine J_pick [3] rfl ?_
        exact t_X12_countingToday_4_44  _ _ _  h
      · have h := (if_neg c10).symm.trans h
        refine J_aload_n 1 dX12_countingToday_18 rfl ?_
        refine J_iload 4 dX12_countingToday_19 rfl ?_
        obtain ⟨g11, h⟩ := gd_inv h
        refine M_aald dX12_countingToday_21 a_4 (by decide) n_4 g11 (r_tab _ g11.2) ?_
        refine J_aload_n 0 dX12_countingToday_22 rfl ?_
        refine M_getR gf_X12_19_11 dX12_countingToday_23 (g_0_0 _) k_0 n_0 ?_
        refine M_getI gf_X12_66_0 dX12_countingToday_26 k_3 n_3 ?_
        obtain ⟨r12, σ13, h14, h⟩ := bd_inv h
        refine M_callU (d' := 1) (k := (tabX (Int32.toNatClampNeg l4))) (As := [.int (rI σ 3 0)]) (st := []) cu_X12_375_9 dX12_countingToday_29 rfl (Nat.le_of_ble_eq_true rfl) (Nat.le_of_ble_eq_true rfl) (by decide) (n_tab g11.2) (k_tab g11.2) rfl rfl (t_countsOn_9 (k_tab g11.2) (n_tab g11.2) h14) ?_
        refine J_if_eq (tgt := 38) dX12_countingToday_32 (by decide) (fun c15 => ?_) (fun c15 => ?_)
        · have h := (if_pos c15).symm.trans h
          exact t_X12_countingToday_4_38 ih _ _ _ _ _  h
        · have h := (if_neg c15).symm.trans h
          refine J_iinc (v := (l3 + 1)) (ls' := [(3, .int (l3 + 1)), (0, .ref 0), (1, .ref 4), (2, .int l2), (4, .int l4)]) 3 dX12_countingToday_35 rfl rfl (by decide) rfl ?_
          refine J_pick [1, 2, 3, 0, 4] rfl ?_
          exact t_X12_countingToday_4_38 ih _ _ _ _ _  h
set_option maxRecDepth 20000 in
set_option maxHeartbeats 4000000 in
theorem t_X12_countingToday_4 {a2 : Int32} {σ : jM} {r : Int32 × jM}  (h : f_X12_countingToday_4 a2 σ = some r) : J mi_X12_countingToday 2 0 0 (jqI r) 0 [(0, .ref 0), (1, .ref 4), (2, .int a2)] [] (ms σ) := by
  unfold f_X12_countingToday_4 at h
  refine J_iconst (v := 0) dX12_countingToday_0 (by decide) ?_
  refine J_istore_n (i := 3) (ls' := [(3, .int 0), (0, .ref 0), (1, .ref 4), (2, .int a2)]) dX12_countingToday_1 rfl (by decide) rfl ?_
  refine J_iconst (v := 0) dX12_countingToday_2 (by decide) ?_
  refine J_istore (i := 4) (ls' := [(4, .int 0), (3, .int 0), (0, .ref 0), (1, .ref 4), (2, .int a2)]) dX12_countingToday_3 (by decide) rfl ?_
  refine J_pick [2, 3, 4, 1, 0] rfl ?_
  exact t_X12_countingToday_4_5  _ _ _ _ _ _  h
noncomputable def f_X12_countingToday_7_44  (l3 : Int32) (σ : jM) : Option (Int32 × jM) :=
  some (l3, σ)
noncomputable def f_X12_countingToday_7_38 (rec5 : Int32 → Int32 → Int32 → jM → Option (Int32 × jM)) (l2 : Int32) (l3 : Int32) (l4 : Int32) (σ : jM) : Option (Int32 × jM) :=
  rec5 l2 l3 (l4 + 1) σ
noncomputable def s_X12_countingToday_7_5  (rec5 : Int32 → Int32 → Int32 → jM → Option (Int32 × jM)) (l2 : Int32) (l3 : Int32) (l4 : Int32) (σ : jM) : Option (Int32 × jM) :=
  (if l2 ≤ l4 then f_X12_countingToday_7_44  l3 σ else (if (Int32.ofNat 6) ≤ l4 then f_X12_countingToday_7_44  l3 σ else gd (inb l4 6) (bd (f_countsOn_5 (namX (Int32.toNatClampNeg l4)) (rI σ 3 0) σ) (fun r5 σ6 => (if r5 = 0 then f_X12_countingToday_7_38 rec5 l2 l3 l4 σ6 else f_X12_countingToday_7_38 rec5 l2 (l3 + 1) l4 σ6)))))
noncomputable def f_X12_countingToday_7_5  (n : Nat) : Int32 → Int32 → Int32 → jM → Option (Int32 × jM) := Nat.rec (motive := fun _ => Int32 → Int32 → Int32 → jM → Option (Int32 × jM)) (fun _ _ _ _ => none) (fun _ q => s_X12_countingToday_7_5  q) n
noncomputable def f_X12_countingToday_7 (a2 : Int32) (σ : jM) : Option (Int32 × jM) :=
  f_X12_countingToday_7_5  Fu a2 0 0 σ
set_option maxRecDepth 20000 in
set_option maxHeartbeats 4000000 in
theorem t_X12_countingToday_7_44  (l3 : Int32) (σ : jM) (r : Int32 × jM)  (h : f_X12_countingToday_7_44  l3 σ = some r) : J mi_X12_countingToday 2 0 0 (jqI r) 44 [(3, .int l3)] [] (ms σ) := by
  unfold f_X12_countingToday_7_44 at h
  refine J_iload_n 0 dX12_countingToday_44 rfl ?_
  exact J_ret (v := some (.int l3)) rfl ⟨dX12_countingToday_45, Or.inl rfl⟩ (jqI_mk h)
set_option maxRecDepth 20000 in
set_option maxHeartbeats 4000000 in
theorem t_X12_countingToday_7_38 {rec5 : Int32 → Int32 → Int32 → jM → Option (Int32 × jM)} (hrec5 : ∀ (l2 : Int32) (l3 : Int32) (l4 : Int32) (σ : jM) (r : Int32 × jM), rec5 l2 l3 l4 σ = some r → J mi_X12_countingToday 2 0 0 (jqI r) 5 [(0, .ref 0), (1, .ref 7), (2, .int l2), (3, .int l3), (4, .int l4)] [] (ms σ)) (l2 : Int32) (l3 : Int32) (l4 : Int32) (σ : jM) (r : Int32 × jM)  (h : f_X12_countingToday_7_38 rec5 l2 l3 l4 σ = some r) : J mi_X12_countingToday 2 0 0 (jqI r) 38 [(0, .ref 0), (1, .ref 7), (2, .int l2), (3, .int l3), (4, .int l4)] [] (ms σ) := by
  unfold f_X12_countingToday_7_38 at h
  refine J_iinc (v := (l4 + 1)) (ls' := [(4, .int (l4 + 1)), (0, .ref 0), (1, .ref 7), (2, .int l2), (3, .int l3)]) 4 dX12_countingToday_38 rfl rfl (by decide) rfl ?_
  refine J_goto (tgt := 5) dX12_countingToday_41 (by decide) ?_
  refine J_pick [1, 2, 3, 4, 0] rfl ?_
  exact hrec5 _ _ _ _ _  h
set_option maxRecDepth 20000 in
set_option maxHeartbeats 4000000 in
theorem t_X12_countingToday_7_5  : ∀ (n : Nat) (l2 : Int32) (l3 : Int32) (l4 : Int32) (σ : jM) (r : Int32 × jM), f_X12_countingToday_7_5  n l2 l3 l4 σ = some r → J mi_X12_countingToday 2 0 0 (jqI r) 5 [(0, .ref 0), (1, .ref 7), (2, .int l2), (3, .int l3), (4, .int l4)] [] (ms σ) := by
  intro n
  induction n with
  | zero =>
    intro l2 l3 l4 σ r  h
    have h : (none : Option (Int32 × jM)) = some r := h
    cases h
  | succ n ih =>
    intro l2 l3 l4 σ r  h
    have h : s_X12_countingToday_7_5  (f_X12_countingToday_7_5  n) l2 l3 l4 σ = some r := h
    unfold s_X12_countingToday_7_5 at h
    refine J_iload 4 dX12_countingToday_5 rfl ?_
    refine J_iload_n 2 dX12_countingToday_7 rfl ?_
    refine J_icmp_ge (tgt := 44) dX12_countingToday_8 (by decide) (fun c9 => ?_) (fun c9 => ?_)
    · have h := (if_pos c9).symm.trans h
      refine J_pick [3] rfl ?_
      exact t_X12_countingToday_7_44  _ _ _  h
    · have h := (if_neg c9).symm.trans h
      refine J_iload 4 dX12_countingToday_11 rfl ?_
      refine J_aload_n 1 dX12_countingToday_13 rfl ?_
      refine M_alen dX12_countingToday_14 a_7 (by decide) n_7 ?_
      refine J_icmp_ge (tgt := 44) dX12_countingToday_15 (by decide) (fun c10 => ?_) (fun c10 => ?_)
      · have h := (if_pos c10).symm.trans h
        refine J_pick [3] rfl ?_
        exact t_X12_countingToday_7_44  _ _ _  h
      · have h := (if_neg c10).symm.trans h
        refine J_aload_n 1 dX12_countingToday_18 rfl ?_
        refine J_iload 4 dX12_countingToday_19 rfl ?_
        obtain ⟨g11, h⟩ := gd_inv h
        refine M_aald dX12_countingToday_21 a_7 (by decide) n_7 g11 (r_nam _ g11.2) ?_
        refine J_aload_n 0 dX12_countingToday_22 rfl ?_
        refine M_getR gf_X12_19_11 dX12_countingToday_23 (g_0_0 _) k_0 n_0 ?_
        refine M_getI gf_X12_66_0 dX12_countingToday_26 k_3 n_3 ?_
        obtain ⟨r12, σ13, h14, h⟩ := bd_inv h
        refine M_callU (d' := 1) (k := (namX (Int32.toNatClampNeg l4))) (As := [.int (rI σ 3 0)]) (st := []) cu_X12_375_5 dX12_countingToday_29 rfl (Nat.le_of_ble_eq_true rfl) (Nat.le_of_ble_eq_true rfl) (by decide) (n_nam g11.2) (k_nam g11.2) rfl rfl (t_countsOn_5 (k_nam g11.2) (n_nam g11.2) h14) ?_
        refine J_if_eq (tgt := 38) dX12_countingToday_32 (by decide) (fun c15 => ?_) (fun c15 => ?_)
        · have h := (if_pos c15).symm.trans h
          exact t_X12_countingToday_7_38 ih _ _ _ _ _  h
        · have h := (if_neg c15).symm.trans h
          refine J_iinc (v := (l3 + 1)) (ls' := [(3, .int (l3 + 1)), (0, .ref 0), (1, .ref 7), (2, .int l2), (4, .int l4)]) 3 dX12_countingToday_35 rfl rfl (by decide) rfl ?_
          refine J_pick [1, 2, 3, 0, 4] rfl ?_
          exact t_X12_countingToday_7_38 ih _ _ _ _ _  h
set_option maxRecDepth 20000 in
set_option maxHeartbeats 4000000 in
theorem t_X12_countingToday_7 {a2 : Int32} {σ : jM} {r : Int32 × jM}  (h : f_X12_countingToday_7 a2 σ = some r) : J mi_X12_countingToday 2 0 0 (jqI r) 0 [(0, .ref 0), (1, .ref 7), (2, .int a2)] [] (ms σ) := by
  unfold f_X12_countingToday_7 at h
  refine J_iconst (v := 0) dX12_countingToday_0 (by decide) ?_
  refine J_istore_n (i := 3) (ls' := [(3, .int 0), (0, .ref 0), (1, .ref 7), (2, .int a2)]) dX12_countingToday_1 rfl (by decide) rfl ?_
  refine J_iconst (v := 0) dX12_countingToday_2 (by decide) ?_
  refine J_istore (i := 4) (ls' := [(4, .int 0), (3, .int 0), (0, .ref 0), (1, .ref 7), (2, .int a2)]) dX12_countingToday_3 (by decide) rfl ?_
  refine J_pick [2, 3, 4, 1, 0] rfl ?_
  exact t_X12_countingToday_7_5  _ _ _ _ _ _  h
theorem dX0_hasTablet_0 : decode cX0_hasTablet 0 = .ok (.iload_n 1, 1) := by decide +kernel
theorem dX0_hasTablet_1 : decode cX0_hasTablet 1 = .ok (.ifCond .lt 15, 3) := by decide +kernel
theorem dX0_hasTablet_4 : decode cX0_hasTablet 4 = .ok (.iload_n 1, 1) := by decide +kernel
theorem dX0_hasTablet_5 : decode cX0_hasTablet 5 = .ok (.aload_n 0, 1) := by decide +kernel
theorem dX0_hasTablet_6 : decode cX0_hasTablet 6 = .ok (.getfield 61, 3) := by decide +kernel
theorem dX0_hasTablet_9 : decode cX0_hasTablet 9 = .ok (.if_icmp .ge 7, 3) := by decide +kernel
theorem dX0_hasTablet_12 : decode cX0_hasTablet 12 = .ok (.iconst 1, 1) := by decide +kernel
theorem dX0_hasTablet_13 : decode cX0_hasTablet 13 = .ok (.goto 4, 3) := by decide +kernel
theorem dX0_hasTablet_16 : decode cX0_hasTablet 16 = .ok (.iconst 0, 1) := by decide +kernel
theorem dX0_hasTablet_17 : decode cX0_hasTablet 17 = .ok (.ireturn, 1) := by decide +kernel
noncomputable def f_X0_hasTablet_17  (s0 : Int32) (σ : jM) : Option (Int32 × jM) :=
  gd (s0 = 0 ∨ s0 = 1) (some (s0, σ))
noncomputable def f_X0_hasTablet_16   (σ : jM) : Option (Int32 × jM) :=
  f_X0_hasTablet_17  0 σ
noncomputable def f_X0_hasTablet (a1 : Int32) (σ : jM) : Option (Int32 × jM) :=
  (if a1 < 0 then f_X0_hasTablet_16   σ else (if (rI σ 3 2) ≤ a1 then f_X0_hasTablet_16   σ else f_X0_hasTablet_17  1 σ))
set_option maxRecDepth 20000 in
set_option maxHeartbeats 4000000 in
theorem t_X0_hasTablet_17  (s0 : Int32) (σ : jM) (r : Int32 × jM)  (h : f_X0_hasTablet_17  s0 σ = some r) : J mi_X0_hasTablet 1 0 0 (jqI r) 17 [] [.int s0] (ms σ) := by
  unfold f_X0_hasTablet_17 at h
  obtain ⟨g2, h⟩ := gd_inv h
  exact J_ret (v := some (.int s0)) rfl ⟨dX0_hasTablet_17, Or.inr (Or.inl ⟨rfl, g2⟩)⟩ (jqI_mk h)
set_option maxRecDepth 20000 in
set_option maxHeartbeats 4000000 in
theorem t_X0_hasTablet_16   (σ : jM) (r : Int32 × jM)  (h : f_X0_hasTablet_16   σ = some r) : J mi_X0_hasTablet 1 0 0 (jqI r) 16 [] [] (ms σ) := by
  unfold f_X0_hasTablet_16 at h
  refine J_iconst (v := 0) dX0_hasTablet_16 (by decide) ?_
  exact t_X0_hasTablet_17  _ _ _  h
set_option maxRecDepth 20000 in
set_option maxHeartbeats 4000000 in
theorem t_X0_hasTablet {a1 : Int32} {σ : jM} {r : Int32 × jM}  (h : f_X0_hasTablet a1 σ = some r) : J mi_X0_hasTablet 1 0 0 (jqI r) 0 [(0, .ref 3), (1, .int a1)] [] (ms σ) := by
  unfold f_X0_hasTablet at h
  refine J_iload_n 1 dX0_hasTablet_0 rfl ?_
  refine J_if_lt (tgt := 16) dX0_hasTablet_1 (by decide) (fun c3 => ?_) (fun c3 => ?_)
  · have h := (if_pos c3).symm.trans h
    refine J_pick [] rfl ?_
    exact t_X0_hasTablet_16   _ _  h
  · have h := (if_neg c3).symm.trans h
    refine J_iload_n 1 dX0_hasTablet_4 rfl ?_
    refine J_aload_n 0 dX0_hasTablet_5 rfl ?_
    refine M_getI gf_X0_61_0 dX0_hasTablet_6 k_3 n_3 ?_
    refine J_icmp_ge (tgt := 16) dX0_hasTablet_9 (by decide) (fun c4 => ?_) (fun c4 => ?_)
    · have h := (if_pos c4).symm.trans h
      refine J_pick [] rfl ?_
      exact t_X0_hasTablet_16   _ _  h
    · have h := (if_neg c4).symm.trans h
      refine J_iconst (v := 1) dX0_hasTablet_12 (by decide) ?_
      refine J_goto (tgt := 17) dX0_hasTablet_13 (by decide) ?_
      refine J_pick [] rfl ?_
      exact t_X0_hasTablet_17  _ _ _  h
theorem dX0_hasWord_0 : decode cX0_hasWord 0 = .ok (.aload_n 0, 1) := by decide +kernel
theorem dX0_hasWord_1 : decode cX0_hasWord 1 = .ok (.iload_n 1, 1) := by decide +kernel
theorem dX0_hasWord_2 : decode cX0_hasWord 2 = .ok (.invokevirtual 64, 3) := by decide +kernel
theorem dX0_hasWord_5 : decode cX0_hasWord 5 = .ok (.ifCond .eq 24, 3) := by decide +kernel
theorem dX0_hasWord_8 : decode cX0_hasWord 8 = .ok (.iload_n 2, 1) := by decide +kernel
theorem dX0_hasWord_9 : decode cX0_hasWord 9 = .ok (.ifCond .lt 20, 3) := by decide +kernel
theorem dX0_hasWord_12 : decode cX0_hasWord 12 = .ok (.iload_n 2, 1) := by decide +kernel
theorem dX0_hasWord_13 : decode cX0_hasWord 13 = .ok (.aload_n 0, 1) := by decide +kernel
theorem dX0_hasWord_14 : decode cX0_hasWord 14 = .ok (.getfield 11, 3) := by decide +kernel
theorem dX0_hasWord_17 : decode cX0_hasWord 17 = .ok (.iload_n 1, 1) := by decide +kernel
theorem dX0_hasWord_18 : decode cX0_hasWord 18 = .ok (.aaload, 1) := by decide +kernel
theorem dX0_hasWord_19 : decode cX0_hasWord 19 = .ok (.getfield 68, 3) := by decide +kernel
theorem dX0_hasWord_22 : decode cX0_hasWord 22 = .ok (.if_icmp .ge 7, 3) := by decide +kernel
theorem dX0_hasWord_25 : decode cX0_hasWord 25 = .ok (.iconst 1, 1) := by decide +kernel
theorem dX0_hasWord_26 : decode cX0_hasWord 26 = .ok (.goto 4, 3) := by decide +kernel
theorem dX0_hasWord_29 : decode cX0_hasWord 29 = .ok (.iconst 0, 1) := by decide +kernel
theorem dX0_hasWord_30 : decode cX0_hasWord 30 = .ok (.ireturn, 1) := by decide +kernel
noncomputable def f_X0_hasWord_30  (s0 : Int32) (σ : jM) : Option (Int32 × jM) :=
  gd (s0 = 0 ∨ s0 = 1) (some (s0, σ))
noncomputable def f_X0_hasWord_29   (σ : jM) : Option (Int32 × jM) :=
  f_X0_hasWord_30  0 σ
noncomputable def f_X0_hasWord (a1 : Int32) (a2 : Int32) (σ : jM) : Option (Int32 × jM) :=
  bd (f_X0_hasTablet a1 σ) (fun r4 σ5 => (if r4 = 0 then f_X0_hasWord_29   σ5 else (if a2 < 0 then f_X0_hasWord_29   σ5 else gd (inb a1 24) ((if (rI σ5 (tabX (Int32.toNatClampNeg a1)) 2) ≤ a2 then f_X0_hasWord_29   σ5 else f_X0_hasWord_30  1 σ5)))))
set_option maxRecDepth 20000 in
set_option maxHeartbeats 4000000 in
theorem t_X0_hasWord_30  (s0 : Int32) (σ : jM) (r : Int32 × jM)  (h : f_X0_hasWord_30  s0 σ = some r) : J mi_X0_hasWord 2 0 0 (jqI r) 30 [] [.int s0] (ms σ) := by
  unfold f_X0_hasWord_30 at h
  obtain ⟨g3, h⟩ := gd_inv h
  exact J_ret (v := some (.int s0)) rfl ⟨dX0_hasWord_30, Or.inr (Or.inl ⟨rfl, g3⟩)⟩ (jqI_mk h)
set_option maxRecDepth 20000 in
set_option maxHeartbeats 4000000 in
theorem t_X0_hasWord_29   (σ : jM) (r : Int32 × jM)  (h : f_X0_hasWord_29   σ = some r) : J mi_X0_hasWord 2 0 0 (jqI r) 29 [] [] (ms σ) := by
  unfold f_X0_hasWord_29 at h
  refine J_iconst (v := 0) dX0_hasWord_29 (by decide) ?_
  exact t_X0_hasWord_30  _ _ _  h
set_option maxRecDepth 20000 in
set_option maxHeartbeats 4000000 in
theorem t_X0_hasWord {a1 : Int32} {a2 : Int32} {σ : jM} {r : Int32 × jM}  (h : f_X0_hasWord a1 a2 σ = some r) : J mi_X0_hasWord 2 0 0 (jqI r) 0 [(0, .ref 3), (1, .int a1), (2, .int a2)] [] (ms σ) := by
  unfold f_X0_hasWord at h
  refine J_aload_n 0 dX0_hasWord_0 rfl ?_
  refine J_iload_n 1 dX0_hasWord_1 rfl ?_
  obtain ⟨r4, σ5, h6, h⟩ := bd_inv h
  refine M_callVI (d' := 1) (k := 3) (As := [.int a1]) (st := []) cv_X0_64 dX0_hasWord_2 rfl (by decide) rfl (Nat.le_of_ble_eq_true rfl) (Nat.le_of_ble_eq_true rfl) (by decide) n_3 k_3 rfl rfl (t_X0_hasTablet  h6) ?_
  refine J_if_eq (tgt := 29) dX0_hasWord_5 (by decide) (fun c7 => ?_) (fun c7 => ?_)
  · have h := (if_pos c7).symm.trans h
    refine J_pick [] rfl ?_
    exact t_X0_hasWord_29   _ _  h
  · have h := (if_neg c7).symm.trans h
    refine J_iload_n 2 dX0_hasWord_8 rfl ?_
    refine J_if_lt (tgt := 29) dX0_hasWord_9 (by decide) (fun c8 => ?_) (fun c8 => ?_)
    · have h := (if_pos c8).symm.trans h
      refine J_pick [] rfl ?_
      exact t_X0_hasWord_29   _ _  h
    · have h := (if_neg c8).symm.trans h
      refine J_iload_n 2 dX0_hasWord_12 rfl ?_
      refine J_aload_n 0 dX0_hasWord_13 rfl ?_
      refine M_getR gf_X0_11_0 dX0_hasWord_14 (g_3_1 _) k_3 n_3 ?_
      refine J_iload_n 1 dX0_hasWord_17 rfl ?_
      obtain ⟨g9, h⟩ := gd_inv h
      refine M_aald dX0_hasWord_18 a_4 (by decide) n_4 g9 (r_tab _ g9.2) ?_
      refine M_getI gf_X0_68_9 dX0_hasWord_19 (k_tab g9.2) (n_tab g9.2) ?_
      refine J_icmp_ge (tgt := 29) dX0_hasWord_22 (by decide) (fun c10 => ?_) (fun c10 => ?_)
      · have h := (if_pos c10).symm.trans h
        refine J_pick [] rfl ?_
        exact t_X0_hasWord_29   _ _  h
      · have h := (if_neg c10).symm.trans h
        refine J_iconst (v := 1) dX0_hasWord_25 (by decide) ?_
        refine J_goto (tgt := 30) dX0_hasWord_26 (by decide) ?_
        refine J_pick [] rfl ?_
        exact t_X0_hasWord_30  _ _ _  h
theorem dX0_hasName_0 : decode cX0_hasName 0 = .ok (.iload_n 1, 1) := by decide +kernel
theorem dX0_hasName_1 : decode cX0_hasName 1 = .ok (.ifCond .lt 15, 3) := by decide +kernel
theorem dX0_hasName_4 : decode cX0_hasName 4 = .ok (.iload_n 1, 1) := by decide +kernel
theorem dX0_hasName_5 : decode cX0_hasName 5 = .ok (.aload_n 0, 1) := by decide +kernel
theorem dX0_hasName_6 : decode cX0_hasName 6 = .ok (.getfield 71, 3) := by decide +kernel
theorem dX0_hasName_9 : decode cX0_hasName 9 = .ok (.if_icmp .ge 7, 3) := by decide +kernel
theorem dX0_hasName_12 : decode cX0_hasName 12 = .ok (.iconst 1, 1) := by decide +kernel
theorem dX0_hasName_13 : decode cX0_hasName 13 = .ok (.goto 4, 3) := by decide +kernel
theorem dX0_hasName_16 : decode cX0_hasName 16 = .ok (.iconst 0, 1) := by decide +kernel
theorem dX0_hasName_17 : decode cX0_hasName 17 = .ok (.ireturn, 1) := by decide +kernel
noncomputable def f_X0_hasName_17  (s0 : Int32) (σ : jM) : Option (Int32 × jM) :=
  gd (s0 = 0 ∨ s0 = 1) (some (s0, σ))
noncomputable def f_X0_hasName_16   (σ : jM) : Option (Int32 × jM) :=
  f_X0_hasName_17  0 σ
noncomputable def f_X0_hasName (a1 : Int32) (σ : jM) : Option (Int32 × jM) :=
  (if a1 < 0 then f_X0_hasName_16   σ else (if (rI σ 3 8) ≤ a1 then f_X0_hasName_16   σ else f_X0_hasName_17  1 σ))
set_option maxRecDepth 20000 in
set_option maxHeartbeats 4000000 in
theorem t_X0_hasName_17  (s0 : Int32) (σ : jM) (r : Int32 × jM)  (h : f_X0_hasName_17  s0 σ = some r) : J mi_X0_hasName 1 0 0 (jqI r) 17 [] [.int s0] (ms σ) := by
  unfold f_X0_hasName_17 at h
  obtain ⟨g2, h⟩ := gd_inv h
  exact J_ret (v := some (.int s0)) rfl ⟨dX0_hasName_17, Or.inr (Or.inl ⟨rfl, g2⟩)⟩ (jqI_mk h)
set_option maxRecDepth 20000 in
set_option maxHeartbeats 4000000 in
theorem t_X0_hasName_16   (σ : jM) (r : Int32 × jM)  (h : f_X0_hasName_16   σ = some r) : J mi_X0_hasName 1 0 0 (jqI r) 16 [] [] (ms σ) := by
  unfold f_X0_hasName_16 at h
  refine J_iconst (v := 0) dX0_hasName_16 (by decide) ?_
  exact t_X0_hasName_17  _ _ _  h
set_option maxRecDepth 20000 in
set_option maxHeartbeats 4000000 in
theorem t_X0_hasName {a1 : Int32} {σ : jM} {r : Int32 × jM}  (h : f_X0_hasName a1 σ = some r) : J mi_X0_hasName 1 0 0 (jqI r) 0 [(0, .ref 3), (1, .int a1)] [] (ms σ) := by
  unfold f_X0_hasName at h
  refine J_iload_n 1 dX0_hasName_0 rfl ?_
  refine J_if_lt (tgt := 16) dX0_hasName_1 (by decide) (fun c3 => ?_) (fun c3 => ?_)
  · have h := (if_pos c3).symm.trans h
    refine J_pick [] rfl ?_
    exact t_X0_hasName_16   _ _  h
  · have h := (if_neg c3).symm.trans h
    refine J_iload_n 1 dX0_hasName_4 rfl ?_
    refine J_aload_n 0 dX0_hasName_5 rfl ?_
    refine M_getI gf_X0_71_0 dX0_hasName_6 k_3 n_3 ?_
    refine J_icmp_ge (tgt := 16) dX0_hasName_9 (by decide) (fun c4 => ?_) (fun c4 => ?_)
    · have h := (if_pos c4).symm.trans h
      refine J_pick [] rfl ?_
      exact t_X0_hasName_16   _ _  h
    · have h := (if_neg c4).symm.trans h
      refine J_iconst (v := 1) dX0_hasName_12 (by decide) ?_
      refine J_goto (tgt := 17) dX0_hasName_13 (by decide) ?_
      refine J_pick [] rfl ?_
      exact t_X0_hasName_17  _ _ _  h
theorem dX0_tabletCounts_0 : decode cX0_tabletCounts 0 = .ok (.aload_n 0, 1) := by decide +kernel
theorem dX0_tabletCounts_1 : decode cX0_tabletCounts 1 = .ok (.getfield 11, 3) := by decide +kernel
theorem dX0_tabletCounts_4 : decode cX0_tabletCounts 4 = .ok (.iload_n 1, 1) := by decide +kernel
theorem dX0_tabletCounts_5 : decode cX0_tabletCounts 5 = .ok (.aaload, 1) := by decide +kernel
theorem dX0_tabletCounts_6 : decode cX0_tabletCounts 6 = .ok (.aload_n 0, 1) := by decide +kernel
theorem dX0_tabletCounts_7 : decode cX0_tabletCounts 7 = .ok (.getfield 42, 3) := by decide +kernel
theorem dX0_tabletCounts_10 : decode cX0_tabletCounts 10 = .ok (.invokevirtual 86, 3) := by decide +kernel
theorem dX0_tabletCounts_13 : decode cX0_tabletCounts 13 = .ok (.ireturn, 1) := by decide +kernel
noncomputable def f_X0_tabletCounts (a1 : Int32) (σ : jM) : Option (Int32 × jM) :=
  gd (inb a1 24) (bd (f_countsOn_9 (tabX (Int32.toNatClampNeg a1)) (rI σ 3 10) σ) (fun r3 σ4 => gd (r3 = 0 ∨ r3 = 1) (some (r3, σ4))))
set_option maxRecDepth 20000 in
set_option maxHeartbeats 4000000 in
theorem t_X0_tabletCounts {a1 : Int32} {σ : jM} {r : Int32 × jM}  (h : f_X0_tabletCounts a1 σ = some r) : J mi_X0_tabletCounts 2 0 0 (jqI r) 0 [(0, .ref 3), (1, .int a1)] [] (ms σ) := by
  unfold f_X0_tabletCounts at h
  refine J_aload_n 0 dX0_tabletCounts_0 rfl ?_
  refine M_getR gf_X0_11_0 dX0_tabletCounts_1 (g_3_1 _) k_3 n_3 ?_
  refine J_iload_n 1 dX0_tabletCounts_4 rfl ?_
  obtain ⟨g2, h⟩ := gd_inv h
  refine M_aald dX0_tabletCounts_5 a_4 (by decide) n_4 g2 (r_tab _ g2.2) ?_
  refine J_aload_n 0 dX0_tabletCounts_6 rfl ?_
  refine M_getI gf_X0_42_0 dX0_tabletCounts_7 k_3 n_3 ?_
  obtain ⟨r3, σ4, h5, h⟩ := bd_inv h
  refine M_callU (d' := 1) (k := (tabX (Int32.toNatClampNeg a1))) (As := [.int (rI σ 3 10)]) (st := []) cu_X0_86_9 dX0_tabletCounts_10 rfl (Nat.le_of_ble_eq_true rfl) (Nat.le_of_ble_eq_true rfl) (by decide) (n_tab g2.2) (k_tab g2.2) rfl rfl (t_countsOn_9 (k_tab g2.2) (n_tab g2.2) h5) ?_
  obtain ⟨g6, h⟩ := gd_inv h
  exact J_ret (v := some (.int r3)) rfl ⟨dX0_tabletCounts_13, Or.inr (Or.inl ⟨rfl, g6⟩)⟩ (jqI_mk h)
theorem dX0_nameCounts_0 : decode cX0_nameCounts 0 = .ok (.aload_n 0, 1) := by decide +kernel
theorem dX0_nameCounts_1 : decode cX0_nameCounts 1 = .ok (.getfield 31, 3) := by decide +kernel
theorem dX0_nameCounts_4 : decode cX0_nameCounts 4 = .ok (.iload_n 1, 1) := by decide +kernel
theorem dX0_nameCounts_5 : decode cX0_nameCounts 5 = .ok (.aaload, 1) := by decide +kernel
theorem dX0_nameCounts_6 : decode cX0_nameCounts 6 = .ok (.aload_n 0, 1) := by decide +kernel
theorem dX0_nameCounts_7 : decode cX0_nameCounts 7 = .ok (.getfield 42, 3) := by decide +kernel
theorem dX0_nameCounts_10 : decode cX0_nameCounts 10 = .ok (.invokevirtual 89, 3) := by decide +kernel
theorem dX0_nameCounts_13 : decode cX0_nameCounts 13 = .ok (.ifCond .eq 23, 3) := by decide +kernel
theorem dX0_nameCounts_16 : decode cX0_nameCounts 16 = .ok (.aload_n 0, 1) := by decide +kernel
theorem dX0_nameCounts_17 : decode cX0_nameCounts 17 = .ok (.aload_n 0, 1) := by decide +kernel
theorem dX0_nameCounts_18 : decode cX0_nameCounts 18 = .ok (.getfield 31, 3) := by decide +kernel
theorem dX0_nameCounts_21 : decode cX0_nameCounts 21 = .ok (.iload_n 1, 1) := by decide +kernel
theorem dX0_nameCounts_22 : decode cX0_nameCounts 22 = .ok (.aaload, 1) := by decide +kernel
theorem dX0_nameCounts_23 : decode cX0_nameCounts 23 = .ok (.getfield 90, 3) := by decide +kernel
theorem dX0_nameCounts_26 : decode cX0_nameCounts 26 = .ok (.invokevirtual 93, 3) := by decide +kernel
theorem dX0_nameCounts_29 : decode cX0_nameCounts 29 = .ok (.ifCond .eq 7, 3) := by decide +kernel
theorem dX0_nameCounts_32 : decode cX0_nameCounts 32 = .ok (.iconst 1, 1) := by decide +kernel
theorem dX0_nameCounts_33 : decode cX0_nameCounts 33 = .ok (.goto 4, 3) := by decide +kernel
theorem dX0_nameCounts_36 : decode cX0_nameCounts 36 = .ok (.iconst 0, 1) := by decide +kernel
theorem dX0_nameCounts_37 : decode cX0_nameCounts 37 = .ok (.ireturn, 1) := by decide +kernel
noncomputable def f_X0_nameCounts_37  (s0 : Int32) (σ : jM) : Option (Int32 × jM) :=
  gd (s0 = 0 ∨ s0 = 1) (some (s0, σ))
noncomputable def f_X0_nameCounts_36   (σ : jM) : Option (Int32 × jM) :=
  f_X0_nameCounts_37  0 σ
noncomputable def f_X0_nameCounts (a1 : Int32) (σ : jM) : Option (Int32 × jM) :=
  gd (inb a1 6) (bd (f_countsOn_5 (namX (Int32.toNatClampNeg a1)) (rI σ 3 10) σ) (fun r6 σ7 => (if r6 = 0 then f_X0_nameCounts_36   σ7 else gd (inb a1 6) (bd (f_X0_tabletCounts (rI σ7 (namX (Int32.toNatClampNeg a1)) 4) σ7) (fun r11 σ12 => (if r11 = 0 then f_X0_nameCounts_36   σ12 else f_X0_nameCounts_37  1 σ12))))))
set_option maxRecDepth 20000 in
set_option maxHeartbeats 4000000 in
theorem t_X0_nameCounts_37  (s0 : Int32) (σ : jM) (r : Int32 × jM)  (h : f_X0_nameCounts_37  s0 σ = some r) : J mi_X0_nameCounts 3 0 0 (jqI r) 37 [] [.int s0] (ms σ) := by
  unfold f_X0_nameCounts_37 at h
  obtain ⟨g4, h⟩ := gd_inv h
  exact J_ret (v := some (.int s0)) rfl ⟨dX0_nameCounts_37, Or.inr (Or.inl ⟨rfl, g4⟩)⟩ (jqI_mk h)
set_option maxRecDepth 20000 in
set_option maxHeartbeats 4000000 in
theorem t_X0_nameCounts_36   (σ : jM) (r : Int32 × jM)  (h : f_X0_nameCounts_36   σ = some r) : J mi_X0_nameCounts 3 0 0 (jqI r) 36 [] [] (ms σ) := by
  unfold f_X0_nameCounts_36 at h
  refine J_iconst (v := 0) dX0_nameCounts_36 (by decide) ?_
  exact t_X0_nameCounts_37  _ _ _  h
set_option maxRecDepth 20000 in
set_option maxHeartbeats 4000000 in
theorem t_X0_nameCounts {a1 : Int32} {σ : jM} {r : Int32 × jM}  (h : f_X0_nameCounts a1 σ = some r) : J mi_X0_nameCounts 3 0 0 (jqI r) 0 [(0, .ref 3), (1, .int a1)] [] (ms σ) := by
  unfold f_X0_nameCounts at h
  refine J_aload_n 0 dX0_nameCounts_0 rfl ?_
  refine M_getR gf_X0_31_0 dX0_nameCounts_1 (g_3_7 _) k_3 n_3 ?_
  refine J_iload_n 1 dX0_nameCounts_4 rfl ?_
  obtain ⟨g5, h⟩ := gd_inv h
  refine M_aald dX0_nameCounts_5 a_7 (by decide) n_7 g5 (r_nam _ g5.2) ?_
  refine J_aload_n 0 dX0_nameCounts_6 rfl ?_
  refine M_getI gf_X0_42_0 dX0_nameCounts_7 k_3 n_3 ?_
  obtain ⟨r6, σ7, h8, h⟩ := bd_inv h
  refine M_callU (d' := 1) (k := (namX (Int32.toNatClampNeg a1))) (As := [.int (rI σ 3 10)]) (st := []) cu_X0_89_5 dX0_nameCounts_10 rfl (Nat.le_of_ble_eq_true rfl) (Nat.le_of_ble_eq_true rfl) (by decide) (n_nam g5.2) (k_nam g5.2) rfl rfl (t_countsOn_5 (k_nam g5.2) (n_nam g5.2) h8) ?_
  refine J_if_eq (tgt := 36) dX0_nameCounts_13 (by decide) (fun c9 => ?_) (fun c9 => ?_)
  · have h := (if_pos c9).symm.trans h
    refine J_pick [] rfl ?_
    exact t_X0_nameCounts_36   _ _  h
  · have h := (if_neg c9).symm.trans h
    refine J_aload_n 0 dX0_nameCounts_16 rfl ?_
    refine J_aload_n 0 dX0_nameCounts_17 rfl ?_
    refine M_getR gf_X0_31_0 dX0_nameCounts_18 (g_3_7 _) k_3 n_3 ?_
    refine J_iload_n 1 dX0_nameCounts_21 rfl ?_
    obtain ⟨g10, h⟩ := gd_inv h
    refine M_aald dX0_nameCounts_22 a_7 (by decide) n_7 g10 (r_nam _ g10.2) ?_
    refine M_getI gf_X0_90_5 dX0_nameCounts_23 (k_nam g10.2) (n_nam g10.2) ?_
    obtain ⟨r11, σ12, h13, h⟩ := bd_inv h
    refine M_callVI (d' := 2) (k := 3) (As := [.int (rI σ7 (namX (Int32.toNatClampNeg a1)) 4)]) (st := []) cv_X0_93 dX0_nameCounts_26 rfl (by decide) rfl (Nat.le_of_ble_eq_true rfl) (Nat.le_of_ble_eq_true rfl) (by decide) n_3 k_3 rfl rfl (t_X0_tabletCounts  h13) ?_
    refine J_if_eq (tgt := 36) dX0_nameCounts_29 (by decide) (fun c14 => ?_) (fun c14 => ?_)
    · have h := (if_pos c14).symm.trans h
      refine J_pick [] rfl ?_
      exact t_X0_nameCounts_36   _ _  h
    · have h := (if_neg c14).symm.trans h
      refine J_iconst (v := 1) dX0_nameCounts_32 (by decide) ?_
      refine J_goto (tgt := 37) dX0_nameCounts_33 (by decide) ?_
      refine J_pick [] rfl ?_
      exact t_X0_nameCounts_37  _ _ _  h
theorem dX1_forgetCounts_0 : decode cX1_forgetCounts 0 = .ok (.aload_n 0, 1) := by decide +kernel
theorem dX1_forgetCounts_1 : decode cX1_forgetCounts 1 = .ok (.iconst 0, 1) := by decide +kernel
theorem dX1_forgetCounts_2 : decode cX1_forgetCounts 2 = .ok (.putfield 23, 3) := by decide +kernel
theorem dX1_forgetCounts_5 : decode cX1_forgetCounts 5 = .ok (.aload_n 0, 1) := by decide +kernel
theorem dX1_forgetCounts_6 : decode cX1_forgetCounts 6 = .ok (.iconst 0, 1) := by decide +kernel
theorem dX1_forgetCounts_7 : decode cX1_forgetCounts 7 = .ok (.putfield 27, 3) := by decide +kernel
theorem dX1_forgetCounts_10 : decode cX1_forgetCounts 10 = .ok (.aload_n 0, 1) := by decide +kernel
theorem dX1_forgetCounts_11 : decode cX1_forgetCounts 11 = .ok (.iconst 0, 1) := by decide +kernel
theorem dX1_forgetCounts_12 : decode cX1_forgetCounts 12 = .ok (.putfield 30, 3) := by decide +kernel
theorem dX1_forgetCounts_15 : decode cX1_forgetCounts 15 = .ok (.return_, 1) := by decide +kernel
noncomputable def f_X1_forgetCounts  (σ : jM) : Option (Unit × jM) :=
  some ((), wI (wI (wI σ 322 5 0) 322 6 0) 322 7 0)
set_option maxRecDepth 20000 in
set_option maxHeartbeats 4000000 in
theorem t_X1_forgetCounts  {σ : jM} {r : Unit × jM}  (h : f_X1_forgetCounts  σ = some r) : J mi_X1_forgetCounts 1 0 0 (jqV r) 0 [(0, .ref 322)] [] (ms σ) := by
  unfold f_X1_forgetCounts at h
  refine J_aload_n 0 dX1_forgetCounts_0 rfl ?_
  refine J_iconst (v := 0) dX1_forgetCounts_1 (by decide) ?_
  refine M_putI pf_X1_23_1 dX1_forgetCounts_2 k_322 n_322 (jbool (Or.inl rfl)) ?_
  refine J_aload_n 0 dX1_forgetCounts_5 rfl ?_
  refine J_iconst (v := 0) dX1_forgetCounts_6 (by decide) ?_
  refine M_putI pf_X1_27_1 dX1_forgetCounts_7 k_322 n_322 (jbool (Or.inl rfl)) ?_
  refine J_aload_n 0 dX1_forgetCounts_10 rfl ?_
  refine J_iconst (v := 0) dX1_forgetCounts_11 (by decide) ?_
  refine M_putI pf_X1_30_1 dX1_forgetCounts_12 k_322 n_322 (jbool (Or.inl rfl)) ?_
  exact J_ret (v := none) rfl ⟨dX1_forgetCounts_15, rfl⟩ (jqV_mk h)
theorem dX1_waysWith_0 : decode cX1_waysWith 0 = .ok (.aload_n 0, 1) := by decide +kernel
theorem dX1_waysWith_1 : decode cX1_waysWith 1 = .ok (.getfield 19, 3) := by decide +kernel
theorem dX1_waysWith_4 : decode cX1_waysWith 4 = .ok (.getfield 43, 3) := by decide +kernel
theorem dX1_waysWith_7 : decode cX1_waysWith 7 = .ok (.iload_n 1, 1) := by decide +kernel
theorem dX1_waysWith_8 : decode cX1_waysWith 8 = .ok (.sipush 135, 3) := by decide +kernel
theorem dX1_waysWith_11 : decode cX1_waysWith 11 = .ok (.imul, 1) := by decide +kernel
theorem dX1_waysWith_12 : decode cX1_waysWith 12 = .ok (.iload_n 2, 1) := by decide +kernel
theorem dX1_waysWith_13 : decode cX1_waysWith 13 = .ok (.iadd, 1) := by decide +kernel
theorem dX1_waysWith_14 : decode cX1_waysWith 14 = .ok (.iaload, 1) := by decide +kernel
theorem dX1_waysWith_15 : decode cX1_waysWith 15 = .ok (.ireturn, 1) := by decide +kernel
noncomputable def f_X1_waysWith (a1 : Int32) (a2 : Int32) (σ : jM) : Option (Int32 × jM) :=
  gd (inb ((a1 * 135) + a2) 5400) (some ((rI σ 297 (Int32.toNatClampNeg ((a1 * 135) + a2))), σ))
set_option maxRecDepth 20000 in
set_option maxHeartbeats 4000000 in
theorem t_X1_waysWith {a1 : Int32} {a2 : Int32} {σ : jM} {r : Int32 × jM}  (h : f_X1_waysWith a1 a2 σ = some r) : J mi_X1_waysWith 1 0 0 (jqI r) 0 [(0, .ref 322), (1, .int a1), (2, .int a2)] [] (ms σ) := by
  unfold f_X1_waysWith at h
  refine J_aload_n 0 dX1_waysWith_0 rfl ?_
  refine M_getR gf_X1_19_1 dX1_waysWith_1 (g_322_4 _) k_322 n_322 ?_
  refine M_getR gf_X1_43_7 dX1_waysWith_4 (g_296_0 _) k_296 n_296 ?_
  refine J_iload_n 1 dX1_waysWith_7 rfl ?_
  refine J_sipush (v := 135) dX1_waysWith_8 (by decide) ?_
  refine J_imul dX1_waysWith_11 ?_
  refine J_iload_n 2 dX1_waysWith_12 rfl ?_
  refine J_iadd dX1_waysWith_13 ?_
  obtain ⟨g2, h⟩ := gd_inv h
  refine M_iald dX1_waysWith_14 a_297 n_297 g2 ?_
  exact J_ret (v := some (.int (rI σ 297 (Int32.toNatClampNeg ((a1 * 135) + a2))))) rfl ⟨dX1_waysWith_15, Or.inl rfl⟩ (jqI_mk h)
theorem dX1_holderOf_0 : decode cX1_holderOf 0 = .ok (.iconst 0, 1) := by decide +kernel
theorem dX1_holderOf_1 : decode cX1_holderOf 1 = .ok (.istore_n 2, 1) := by decide +kernel
theorem dX1_holderOf_2 : decode cX1_holderOf 2 = .ok (.iload_n 2, 1) := by decide +kernel
theorem dX1_holderOf_3 : decode cX1_holderOf 3 = .ok (.bipush 40, 2) := by decide +kernel
theorem dX1_holderOf_5 : decode cX1_holderOf 5 = .ok (.if_icmp .ge 31, 3) := by decide +kernel
theorem dX1_holderOf_8 : decode cX1_holderOf 8 = .ok (.aload_n 0, 1) := by decide +kernel
theorem dX1_holderOf_9 : decode cX1_holderOf 9 = .ok (.getfield 39, 3) := by decide +kernel
theorem dX1_holderOf_12 : decode cX1_holderOf 12 = .ok (.ifCond .le 18, 3) := by decide +kernel
theorem dX1_holderOf_15 : decode cX1_holderOf 15 = .ok (.aload_n 0, 1) := by decide +kernel
theorem dX1_holderOf_16 : decode cX1_holderOf 16 = .ok (.iload_n 2, 1) := by decide +kernel
theorem dX1_holderOf_17 : decode cX1_holderOf 17 = .ok (.iload_n 1, 1) := by decide +kernel
theorem dX1_holderOf_18 : decode cX1_holderOf 18 = .ok (.invokevirtual 50, 3) := by decide +kernel
theorem dX1_holderOf_21 : decode cX1_holderOf 21 = .ok (.aload_n 0, 1) := by decide +kernel
theorem dX1_holderOf_22 : decode cX1_holderOf 22 = .ok (.getfield 39, 3) := by decide +kernel
theorem dX1_holderOf_25 : decode cX1_holderOf 25 = .ok (.if_icmp .ne 5, 3) := by decide +kernel
theorem dX1_holderOf_28 : decode cX1_holderOf 28 = .ok (.iload_n 2, 1) := by decide +kernel
theorem dX1_holderOf_29 : decode cX1_holderOf 29 = .ok (.ireturn, 1) := by decide +kernel
theorem dX1_holderOf_30 : decode cX1_holderOf 30 = .ok (.iinc 2 1, 3) := by decide +kernel
theorem dX1_holderOf_33 : decode cX1_holderOf 33 = .ok (.goto (-31), 3) := by decide +kernel
theorem dX1_holderOf_36 : decode cX1_holderOf 36 = .ok (.iconst (-1), 1) := by decide +kernel
theorem dX1_holderOf_37 : decode cX1_holderOf 37 = .ok (.ireturn, 1) := by decide +kernel
noncomputable def f_X1_holderOf_30 (rec2 : Int32 → Int32 → jM → Option (Int32 × jM)) (l1 : Int32) (l2 : Int32) (σ : jM) : Option (Int32 × jM) :=
  rec2 l1 (l2 + 1) σ
noncomputable def s_X1_holderOf_2  (rec2 : Int32 → Int32 → jM → Option (Int32 × jM)) (l1 : Int32) (l2 : Int32) (σ : jM) : Option (Int32 × jM) :=
  (if 40 ≤ l2 then some ((-1), σ) else (if (rI σ 322 0) ≤ 0 then f_X1_holderOf_30 rec2 l1 l2 σ else bd (f_X1_waysWith l2 l1 σ) (fun r3 σ4 => (if r3 = (rI σ4 322 0) then some (l2, σ4) else f_X1_holderOf_30 rec2 l1 l2 σ4))))
noncomputable def f_X1_holderOf_2  (n : Nat) : Int32 → Int32 → jM → Option (Int32 × jM) := Nat.rec (motive := fun _ => Int32 → Int32 → jM → Option (Int32 × jM)) (fun _ _ _ => none) (fun _ q => s_X1_holderOf_2  q) n
noncomputable def f_X1_holderOf (a1 : Int32) (σ : jM) : Option (Int32 × jM) :=
  f_X1_holderOf_2  Fu a1 0 σ
set_option maxRecDepth 20000 in
set_option maxHeartbeats 4000000 in
theorem t_X1_holderOf_30 {rec2 : Int32 → Int32 → jM → Option (Int32 × jM)} (hrec2 : ∀ (l1 : Int32) (l2 : Int32) (σ : jM) (r : Int32 × jM), rec2 l1 l2 σ = some r → J mi_X1_holderOf 2 0 0 (jqI r) 2 [(0, .ref 322), (1, .int l1), (2, .int l2)] [] (ms σ)) (l1 : Int32) (l2 : Int32) (σ : jM) (r : Int32 × jM)  (h : f_X1_holderOf_30 rec2 l1 l2 σ = some r) : J mi_X1_holderOf 2 0 0 (jqI r) 30 [(0, .ref 322), (1, .int l1), (2, .int l2)] [] (ms σ) := by
  unfold f_X1_holderOf_30 at h
  refine J_iinc (v := (l2 + 1)) (ls' := [(2, .int (l2 + 1)), (0, .ref 322), (1, .int l1)]) 2 dX1_holderOf_30 rfl rfl (by decide) rfl ?_
  refine J_goto (tgt := 2) dX1_holderOf_33 (by decide) ?_
  refine J_pick [1, 2, 0] rfl ?_
  exact hrec2 _ _ _ _  h
set_option maxRecDepth 20000 in
set_option maxHeartbeats 4000000 in
theorem t_X1_holderOf_2  : ∀ (n : Nat) (l1 : Int32) (l2 : Int32) (σ : jM) (r : Int32 × jM), f_X1_holderOf_2  n l1 l2 σ = some r → J mi_X1_holderOf 2 0 0 (jqI r) 2 [(0, .ref 322), (1, .int l1), (2, .int l2)] [] (ms σ) := by
  intro n
  induction n with
  | zero =>
    intro l1 l2 σ r  h
    have h : (none : Option (Int32 × jM)) = some r := h
    cases h
  | succ n ih =>
    intro l1 l2 σ r  h
    have h : s_X1_holderOf_2  (f_X1_holderOf_2  n) l1 l2 σ = some r := h
    unfold s_X1_holderOf_2 at h
    refine J_iload_n 2 dX1_holderOf_2 rfl ?_
    refine J_bipush (v := 40) dX1_holderOf_3 (by decide) ?_
    refine J_icmp_ge (tgt := 36) dX1_holderOf_5 (by decide) (fun c7 => ?_) (fun c7 => ?_)
    · have h := (if_pos c7).symm.trans h
      refine J_iconst (v := (-1)) dX1_holderOf_36 (by decide) ?_
      exact J_ret (v := some (.int (-1))) rfl ⟨dX1_holderOf_37, Or.inl rfl⟩ (jqI_mk h)
    · have h := (if_neg c7).symm.trans h
      refine J_aload_n 0 dX1_holderOf_8 rfl ?_
      refine M_getI gf_X1_39_1 dX1_holderOf_9 k_322 n_322 ?_
      refine J_if_le (tgt := 30) dX1_holderOf_12 (by decide) (fun c8 => ?_) (fun c8 => ?_)
      · have h := (if_pos c8).symm.trans h
        exact t_X1_holderOf_30 ih _ _ _ _  h
      · have h := (if_neg c8).symm.trans h
        refine J_aload_n 0 dX1_holderOf_15 rfl ?_
        refine J_iload_n 2 dX1_holderOf_16 rfl ?_
        refine J_iload_n 1 dX1_holderOf_17 rfl ?_
        obtain ⟨r9, σ10, h11, h⟩ := bd_inv h
        refine M_callVI (d' := 1) (k := 322) (As := [.int l2, .int l1]) (st := []) cv_X1_50 dX1_holderOf_18 rfl (by decide) rfl (Nat.le_of_ble_eq_true rfl) (Nat.le_of_ble_eq_true rfl) (by decide) n_322 k_322 rfl rfl (t_X1_waysWith  h11) ?_
        refine J_aload_n 0 dX1_holderOf_21 rfl ?_
        refine M_getI gf_X1_39_1 dX1_holderOf_22 k_322 n_322 ?_
        refine J_icmp_ne (tgt := 30) dX1_holderOf_25 (by decide) (fun c12 => ?_) (fun c12 => ?_)
        · have h := (if_neg c12).symm.trans h
          exact t_X1_holderOf_30 ih _ _ _ _  h
        · have h := (if_pos c12).symm.trans h
          refine J_iload_n 2 dX1_holderOf_28 rfl ?_
          exact J_ret (v := some (.int l2)) rfl ⟨dX1_holderOf_29, Or.inl rfl⟩ (jqI_mk h)
set_option maxRecDepth 20000 in
set_option maxHeartbeats 4000000 in
theorem t_X1_holderOf {a1 : Int32} {σ : jM} {r : Int32 × jM}  (h : f_X1_holderOf a1 σ = some r) : J mi_X1_holderOf 2 0 0 (jqI r) 0 [(0, .ref 322), (1, .int a1)] [] (ms σ) := by
  unfold f_X1_holderOf at h
  refine J_iconst (v := 0) dX1_holderOf_0 (by decide) ?_
  refine J_istore_n (i := 2) (ls' := [(2, .int 0), (0, .ref 322), (1, .int a1)]) dX1_holderOf_1 rfl (by decide) rfl ?_
  refine J_pick [1, 2, 0] rfl ?_
  exact t_X1_holderOf_2  _ _ _ _ _  h
theorem dX1_kindOfPlace_0 : decode cX1_kindOfPlace 0 = .ok (.iload_n 1, 1) := by decide +kernel
theorem dX1_kindOfPlace_1 : decode cX1_kindOfPlace 1 = .ok (.iconst 1, 1) := by decide +kernel
theorem dX1_kindOfPlace_2 : decode cX1_kindOfPlace 2 = .ok (.if_icmp .ne 5, 3) := by decide +kernel
theorem dX1_kindOfPlace_5 : decode cX1_kindOfPlace 5 = .ok (.iconst 2, 1) := by decide +kernel
theorem dX1_kindOfPlace_6 : decode cX1_kindOfPlace 6 = .ok (.ireturn, 1) := by decide +kernel
theorem dX1_kindOfPlace_7 : decode cX1_kindOfPlace 7 = .ok (.iload_n 0, 1) := by decide +kernel
theorem dX1_kindOfPlace_8 : decode cX1_kindOfPlace 8 = .ok (.ifCond .ne 5, 3) := by decide +kernel
theorem dX1_kindOfPlace_11 : decode cX1_kindOfPlace 11 = .ok (.iconst 0, 1) := by decide +kernel
theorem dX1_kindOfPlace_12 : decode cX1_kindOfPlace 12 = .ok (.ireturn, 1) := by decide +kernel
theorem dX1_kindOfPlace_13 : decode cX1_kindOfPlace 13 = .ok (.iload_n 0, 1) := by decide +kernel
theorem dX1_kindOfPlace_14 : decode cX1_kindOfPlace 14 = .ok (.iload_n 1, 1) := by decide +kernel
theorem dX1_kindOfPlace_15 : decode cX1_kindOfPlace 15 = .ok (.iconst 1, 1) := by decide +kernel
theorem dX1_kindOfPlace_16 : decode cX1_kindOfPlace 16 = .ok (.isub, 1) := by decide +kernel
theorem dX1_kindOfPlace_17 : decode cX1_kindOfPlace 17 = .ok (.if_icmp .ne 7, 3) := by decide +kernel
theorem dX1_kindOfPlace_20 : decode cX1_kindOfPlace 20 = .ok (.iconst 1, 1) := by decide +kernel
theorem dX1_kindOfPlace_21 : decode cX1_kindOfPlace 21 = .ok (.goto 4, 3) := by decide +kernel
theorem dX1_kindOfPlace_24 : decode cX1_kindOfPlace 24 = .ok (.iconst 3, 1) := by decide +kernel
theorem dX1_kindOfPlace_25 : decode cX1_kindOfPlace 25 = .ok (.ireturn, 1) := by decide +kernel
noncomputable def f_X1_kindOfPlace_25  (s0 : Int32) (σ : jM) : Option (Int32 × jM) :=
  some (s0, σ)
noncomputable def f_X1_kindOfPlace (a0 : Int32) (a1 : Int32) (σ : jM) : Option (Int32 × jM) :=
  (if a1 = 1 then some (2, σ) else (if a0 = 0 then some (0, σ) else (if a0 = (a1 - 1) then f_X1_kindOfPlace_25  1 σ else f_X1_kindOfPlace_25  3 σ)))
set_option maxRecDepth 20000 in
set_option maxHeartbeats 4000000 in
theorem t_X1_kindOfPlace_25  (s0 : Int32) (σ : jM) (r : Int32 × jM)  (h : f_X1_kindOfPlace_25  s0 σ = some r) : J mi_X1_kindOfPlace 1 0 0 (jqI r) 25 [] [.int s0] (ms σ) := by
  unfold f_X1_kindOfPlace_25 at h
  exact J_ret (v := some (.int s0)) rfl ⟨dX1_kindOfPlace_25, Or.inl rfl⟩ (jqI_mk h)
set_option maxRecDepth 20000 in
set_option maxHeartbeats 4000000 in
theorem t_X1_kindOfPlace {a0 : Int32} {a1 : Int32} {σ : jM} {r : Int32 × jM}  (h : f_X1_kindOfPlace a0 a1 σ = some r) : J mi_X1_kindOfPlace 1 0 0 (jqI r) 0 [(0, .int a0), (1, .int a1)] [] (ms σ) := by
  unfold f_X1_kindOfPlace at h
  refine J_iload_n 1 dX1_kindOfPlace_0 rfl ?_
  refine J_iconst (v := 1) dX1_kindOfPlace_1 (by decide) ?_
  refine J_icmp_ne (tgt := 7) dX1_kindOfPlace_2 (by decide) (fun c1 => ?_) (fun c1 => ?_)
  · have h := (if_neg c1).symm.trans h
    refine J_iload_n 0 dX1_kindOfPlace_7 rfl ?_
    refine J_if_ne (tgt := 13) dX1_kindOfPlace_8 (by decide) (fun c2 => ?_) (fun c2 => ?_)
    · have h := (if_neg c2).symm.trans h
      refine J_iload_n 0 dX1_kindOfPlace_13 rfl ?_
      refine J_iload_n 1 dX1_kindOfPlace_14 rfl ?_
      refine J_iconst (v := 1) dX1_kindOfPlace_15 (by decide) ?_
      refine J_isub dX1_kindOfPlace_16 ?_
      refine J_icmp_ne (tgt := 24) dX1_kindOfPlace_17 (by decide) (fun c3 => ?_) (fun c3 => ?_)
      · have h := (if_neg c3).symm.trans h
        refine J_iconst (v := 3) dX1_kindOfPlace_24 (by decide) ?_
        refine J_pick [] rfl ?_
        exact t_X1_kindOfPlace_25  _ _ _  h
      · have h := (if_pos c3).symm.trans h
        refine J_iconst (v := 1) dX1_kindOfPlace_20 (by decide) ?_
        refine J_goto (tgt := 25) dX1_kindOfPlace_21 (by decide) ?_
        refine J_pick [] rfl ?_
        exact t_X1_kindOfPlace_25  _ _ _  h
    · have h := (if_pos c2).symm.trans h
      refine J_iconst (v := 0) dX1_kindOfPlace_11 (by decide) ?_
      exact J_ret (v := some (.int 0)) rfl ⟨dX1_kindOfPlace_12, Or.inl rfl⟩ (jqI_mk h)
  · have h := (if_pos c1).symm.trans h
    refine J_iconst (v := 2) dX1_kindOfPlace_5 (by decide) ?_
    exact J_ret (v := some (.int 2)) rfl ⟨dX1_kindOfPlace_6, Or.inl rfl⟩ (jqI_mk h)
