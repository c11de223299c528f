theorem dX3_countsOn_0 : decode cX3_countsOn 0 = .ok (.aload_n 0, 1) := by decide +kernel
theorem dX3_countsOn_1 : decode cX3_countsOn 1 = .ok (.getfield 15, 3) := by decide +kernel
theorem dX3_countsOn_4 : decode cX3_countsOn 4 = .ok (.iload_n 1, 1) := by decide +kernel
theorem dX3_countsOn_5 : decode cX3_countsOn 5 = .ok (.if_icmp .gt 23, 3) := by decide +kernel
theorem dX3_countsOn_8 : decode cX3_countsOn 8 = .ok (.aload_n 0, 1) := by decide +kernel
theorem dX3_countsOn_9 : decode cX3_countsOn 9 = .ok (.getfield 9, 3) := by decide +kernel
theorem dX3_countsOn_12 : decode cX3_countsOn 12 = .ok (.iconst (-1), 1) := by decide +kernel
theorem dX3_countsOn_13 : decode cX3_countsOn 13 = .ok (.if_icmp .eq 11, 3) := by decide +kernel
theorem dX3_countsOn_16 : decode cX3_countsOn 16 = .ok (.aload_n 0, 1) := by decide +kernel
theorem dX3_countsOn_17 : decode cX3_countsOn 17 = .ok (.getfield 9, 3) := by decide +kernel
theorem dX3_countsOn_20 : decode cX3_countsOn 20 = .ok (.iload_n 1, 1) := by decide +kernel
theorem dX3_countsOn_21 : decode cX3_countsOn 21 = .ok (.if_icmp .le 7, 3) := by decide +kernel
theorem dX3_countsOn_24 : decode cX3_countsOn 24 = .ok (.iconst 1, 1) := by decide +kernel
theorem dX3_countsOn_25 : decode cX3_countsOn 25 = .ok (.goto 4, 3) := by decide +kernel
theorem dX3_countsOn_28 : decode cX3_countsOn 28 = .ok (.iconst 0, 1) := by decide +kernel
theorem dX3_countsOn_29 : decode cX3_countsOn 29 = .ok (.ireturn, 1) := by decide +kernel
noncomputable def f_countsOn_9_29  (s0 : Int32) (σ : jM) : Option (Int32 × jM) :=
  gd (s0 = 0 ∨ s0 = 1) (some (s0, σ))
noncomputable def f_countsOn_9_28   (σ : jM) : Option (Int32 × jM) :=
  f_countsOn_9_29  0 σ
noncomputable def f_countsOn_9_24   (σ : jM) : Option (Int32 × jM) :=
  f_countsOn_9_29  1 σ
noncomputable def f_countsOn_9 (k : Nat) (a1 : Int32) (σ : jM) : Option (Int32 × jM) :=
  (if a1 < (rI σ k 0) then f_countsOn_9_28   σ else (if (rI σ k 1) = (-1) then f_countsOn_9_24   σ else (if (rI σ k 1) ≤ a1 then f_countsOn_9_28   σ else f_countsOn_9_24   σ)))
set_option maxRecDepth 20000 in
set_option maxHeartbeats 4000000 in
theorem t_countsOn_9_29  (s0 : Int32) (σ : jM) (r : Int32 × jM)  (h : f_countsOn_9_29  s0 σ = some r) : J mi_X3_countsOn 1 0 0 (jqI r) 29 [] [.int s0] (ms σ) := by
  unfold f_countsOn_9_29 at h
  obtain ⟨g2, h⟩ := gd_inv h
  exact J_ret (v := some (.int s0)) rfl ⟨dX3_countsOn_29, Or.inr (Or.inl ⟨rfl, g2⟩)⟩ (jqI_mk h)
set_option maxRecDepth 20000 in
set_option maxHeartbeats 4000000 in
theorem t_countsOn_9_28   (σ : jM) (r : Int32 × jM)  (h : f_countsOn_9_28   σ = some r) : J mi_X3_countsOn 1 0 0 (jqI r) 28 [] [] (ms σ) := by
  unfold f_countsOn_9_28 at h
  refine J_iconst (v := 0) dX3_countsOn_28 (by decide) ?_
  exact t_countsOn_9_29  _ _ _  h
set_option maxRecDepth 20000 in
set_option maxHeartbeats 4000000 in
theorem t_countsOn_9_24   (σ : jM) (r : Int32 × jM)  (h : f_countsOn_9_24   σ = some r) : J mi_X3_countsOn 1 0 0 (jqI r) 24 [] [] (ms σ) := by
  unfold f_countsOn_9_24 at h
  refine J_iconst (v := 1) dX3_countsOn_24 (by decide) ?_
  refine J_goto (tgt := 29) dX3_countsOn_25 (by decide) ?_
  exact t_countsOn_9_29  _ _ _  h
set_option maxRecDepth 20000 in
set_option maxHeartbeats 4000000 in
theorem t_countsOn_9 {k : Nat} {a1 : Int32} {σ : jM} {r : Int32 × jM} (hk : (shf k).1 = 9) (hn : k < 376) (h : f_countsOn_9 k a1 σ = some r) : J mi_X3_countsOn 1 0 0 (jqI r) 0 [(0, .ref k), (1, .int a1)] [] (ms σ) := by
  unfold f_countsOn_9 at h
  refine J_aload_n 0 dX3_countsOn_0 rfl ?_
  refine M_getI gf_X3_15_9 dX3_countsOn_1 hk hn ?_
  refine J_iload_n 1 dX3_countsOn_4 rfl ?_
  refine J_icmp_gt (tgt := 28) dX3_countsOn_5 (by decide) (fun c3 => ?_) (fun c3 => ?_)
  · have h := (if_pos c3).symm.trans h
    refine J_pick [] rfl ?_
    exact t_countsOn_9_28   _ _  h
  · have h := (if_neg c3).symm.trans h
    refine J_aload_n 0 dX3_countsOn_8 rfl ?_
    refine M_getI gf_X3_9_9 dX3_countsOn_9 hk hn ?_
    refine J_iconst (v := (-1)) dX3_countsOn_12 (by decide) ?_
    refine J_icmp_eq (tgt := 24) dX3_countsOn_13 (by decide) (fun c4 => ?_) (fun c4 => ?_)
    · have h := (if_pos c4).symm.trans h
      refine J_pick [] rfl ?_
      exact t_countsOn_9_24   _ _  h
    · have h := (if_neg c4).symm.trans h
      refine J_aload_n 0 dX3_countsOn_16 rfl ?_
      refine M_getI gf_X3_9_9 dX3_countsOn_17 hk hn ?_
      refine J_iload_n 1 dX3_countsOn_20 rfl ?_
      refine J_icmp_le (tgt := 28) dX3_countsOn_21 (by decide) (fun c5 => ?_) (fun c5 => ?_)
      · have h := (if_pos c5).symm.trans h
        refine J_pick [] rfl ?_
        exact t_countsOn_9_28   _ _  h
      · have h := (if_neg c5).symm.trans h
        refine J_pick [] rfl ?_
        exact t_countsOn_9_24   _ _  h
noncomputable def f_countsOn_8_29  (s0 : Int32) (σ : jM) : Option (Int32 × jM) :=
  gd (s0 = 0 ∨ s0 = 1) (some (s0, σ))
noncomputable def f_countsOn_8_28   (σ : jM) : Option (Int32 × jM) :=
  f_countsOn_8_29  0 σ
noncomputable def f_countsOn_8_24   (σ : jM) : Option (Int32 × jM) :=
  f_countsOn_8_29  1 σ
noncomputable def f_countsOn_8 (k : Nat) (a1 : Int32) (σ : jM) : Option (Int32 × jM) :=
  (if a1 < (rI σ k 0) then f_countsOn_8_28   σ else (if (rI σ k 1) = (-1) then f_countsOn_8_24   σ else (if (rI σ k 1) ≤ a1 then f_countsOn_8_28   σ else f_countsOn_8_24   σ)))
set_option maxRecDepth 20000 in
set_option maxHeartbeats 4000000 in
theorem t_countsOn_8_29  (s0 : Int32) (σ : jM) (r : Int32 × jM)  (h : f_countsOn_8_29  s0 σ = some r) : J mi_X3_countsOn 1 0 0 (jqI r) 29 [] [.int s0] (ms σ) := by
  unfold f_countsOn_8_29 at h
  obtain ⟨g2, h⟩ := gd_inv h
  exact J_ret (v := some (.int s0)) rfl ⟨dX3_countsOn_29, Or.inr (Or.inl ⟨rfl, g2⟩)⟩ (jqI_mk h)
set_option maxRecDepth 20000 in
set_option maxHeartbeats 4000000 in
theorem t_countsOn_8_28   (σ : jM) (r : Int32 × jM)  (h : f_countsOn_8_28   σ = some r) : J mi_X3_countsOn 1 0 0 (jqI r) 28 [] [] (ms σ) := by
  unfold f_countsOn_8_28 at h
  refine J_iconst (v := 0) dX3_countsOn_28 (by decide) ?_
  exact t_countsOn_8_29  _ _ _  h
set_option maxRecDepth 20000 in
set_option maxHeartbeats 4000000 in
theorem t_countsOn_8_24   (σ : jM) (r : Int32 × jM)  (h : f_countsOn_8_24   σ = some r) : J mi_X3_countsOn 1 0 0 (jqI r) 24 [] [] (ms σ) := by
  unfold f_countsOn_8_24 at h
  refine J_iconst (v := 1) dX3_countsOn_24 (by decide) ?_
  refine J_goto (tgt := 29) dX3_countsOn_25 (by decide) ?_
  exact t_countsOn_8_29  _ _ _  h
set_option maxRecDepth 20000 in
set_option maxHeartbeats 4000000 in
theorem t_countsOn_8 {k : Nat} {a1 : Int32} {σ : jM} {r : Int32 × jM} (hk : (shf k).1 = 8) (hn : k < 376) (h : f_countsOn_8 k a1 σ = some r) : J mi_X3_countsOn 1 0 0 (jqI r) 0 [(0, .ref k), (1, .int a1)] [] (ms σ) := by
  unfold f_countsOn_8 at h
  refine J_aload_n 0 dX3_countsOn_0 rfl ?_
  refine M_getI gf_X3_15_8 dX3_countsOn_1 hk hn ?_
  refine J_iload_n 1 dX3_countsOn_4 rfl ?_
  refine J_icmp_gt (tgt := 28) dX3_countsOn_5 (by decide) (fun c3 => ?_) (fun c3 => ?_)
  · have h := (if_pos c3).symm.trans h
    refine J_pick [] rfl ?_
    exact t_countsOn_8_28   _ _  h
  · have h := (if_neg c3).symm.trans h
    refine J_aload_n 0 dX3_countsOn_8 rfl ?_
    refine M_getI gf_X3_9_8 dX3_countsOn_9 hk hn ?_
    refine J_iconst (v := (-1)) dX3_countsOn_12 (by decide) ?_
    refine J_icmp_eq (tgt := 24) dX3_countsOn_13 (by decide) (fun c4 => ?_) (fun c4 => ?_)
    · have h := (if_pos c4).symm.trans h
      refine J_pick [] rfl ?_
      exact t_countsOn_8_24   _ _  h
    · have h := (if_neg c4).symm.trans h
      refine J_aload_n 0 dX3_countsOn_16 rfl ?_
      refine M_getI gf_X3_9_8 dX3_countsOn_17 hk hn ?_
      refine J_iload_n 1 dX3_countsOn_20 rfl ?_
      refine J_icmp_le (tgt := 28) dX3_countsOn_21 (by decide) (fun c5 => ?_) (fun c5 => ?_)
      · have h := (if_pos c5).symm.trans h
        refine J_pick [] rfl ?_
        exact t_countsOn_8_28   _ _  h
      · have h := (if_neg c5).symm.trans h
        refine J_pick [] rfl ?_
        exact t_countsOn_8_24   _ _  h
noncomputable def f_countsOn_5_29  (s0 : Int32) (σ : jM) : Option (Int32 × jM) :=
  gd (s0 = 0 ∨ s0 = 1) (some (s0, σ))
noncomputable def f_countsOn_5_28   (σ : jM) : Option (Int32 × jM) :=
  f_countsOn_5_29  0 σ
noncomputable def f_countsOn_5_24   (σ : jM) : Option (Int32 × jM) :=
  f_countsOn_5_29  1 σ
noncomputable def f_countsOn_5 (k : Nat) (a1 : Int32) (σ : jM) : Option (Int32 × jM) :=
  (if a1 < (rI σ k 0) then f_countsOn_5_28   σ else (if (rI σ k 1) = (-1) then f_countsOn_5_24   σ else (if (rI σ k 1) ≤ a1 then f_countsOn_5_28   σ else f_countsOn_5_24   σ)))
set_option maxRecDepth 20000 in
set_option maxHeartbeats 4000000 in
theorem t_countsOn_5_29  (s0 : Int32) (σ : jM) (r : Int32 × jM)  (h : f_countsOn_5_29  s0 σ = some r) : J mi_X3_countsOn 1 0 0 (jqI r) 29 [] [.int s0] (ms σ) := by
  unfold f_countsOn_5_29 at h
  obtain ⟨g2, h⟩ := gd_inv h
  exact J_ret (v := some (.int s0)) rfl ⟨dX3_countsOn_29, Or.inr (Or.inl ⟨rfl, g2⟩)⟩ (jqI_mk h)
set_option maxRecDepth 20000 in
set_option maxHeartbeats 4000000 in
theorem t_countsOn_5_28   (σ : jM) (r : Int32 × jM)  (h : f_countsOn_5_28   σ = some r) : J mi_X3_countsOn 1 0 0 (jqI r) 28 [] [] (ms σ) := by
  unfold f_countsOn_5_28 at h
  refine J_iconst (v := 0) dX3_countsOn_28 (by decide) ?_
  exact t_countsOn_5_29  _ _ _  h
set_option maxRecDepth 20000 in
set_option maxHeartbeats 4000000 in
theorem t_countsOn_5_24   (σ : jM) (r : Int32 × jM)  (h : f_countsOn_5_24   σ = some r) : J mi_X3_countsOn 1 0 0 (jqI r) 24 [] [] (ms σ) := by
  unfold f_countsOn_5_24 at h
  refine J_iconst (v := 1) dX3_countsOn_24 (by decide) ?_
  refine J_goto (tgt := 29) dX3_countsOn_25 (by decide) ?_
  exact t_countsOn_5_29  _ _ _  h
set_option maxRecDepth 20000 in
set_option maxHeartbeats 4000000 in
theorem t_countsOn_5 {k : Nat} {a1 : Int32} {σ : jM} {r : Int32 × jM} (hk : (shf k).1 = 5) (hn : k < 376) (h : f_countsOn_5 k a1 σ = some r) : J mi_X3_countsOn 1 0 0 (jqI r) 0 [(0, .ref k), (1, .int a1)] [] (ms σ) := by
  unfold f_countsOn_5 at h
  refine J_aload_n 0 dX3_countsOn_0 rfl ?_
  refine M_getI gf_X3_15_5 dX3_countsOn_1 hk hn ?_
  refine J_iload_n 1 dX3_countsOn_4 rfl ?_
  refine J_icmp_gt (tgt := 28) dX3_countsOn_5 (by decide) (fun c3 => ?_) (fun c3 => ?_)
  · have h := (if_pos c3).symm.trans h
    refine J_pick [] rfl ?_
    exact t_countsOn_5_28   _ _  h
  · have h := (if_neg c3).symm.trans h
    refine J_aload_n 0 dX3_countsOn_8 rfl ?_
    refine M_getI gf_X3_9_5 dX3_countsOn_9 hk hn ?_
    refine J_iconst (v := (-1)) dX3_countsOn_12 (by decide) ?_
    refine J_icmp_eq (tgt := 24) dX3_countsOn_13 (by decide) (fun c4 => ?_) (fun c4 => ?_)
    · have h := (if_pos c4).symm.trans h
      refine J_pick [] rfl ?_
      exact t_countsOn_5_24   _ _  h
    · have h := (if_neg c4).symm.trans h
      refine J_aload_n 0 dX3_countsOn_16 rfl ?_
      refine M_getI gf_X3_9_5 dX3_countsOn_17 hk hn ?_
      refine J_iload_n 1 dX3_countsOn_20 rfl ?_
      refine J_icmp_le (tgt := 28) dX3_countsOn_21 (by decide) (fun c5 => ?_) (fun c5 => ?_)
      · have h := (if_pos c5).symm.trans h
        refine J_pick [] rfl ?_
        exact t_countsOn_5_28   _ _  h
      · have h := (if_neg c5).symm.trans h
        refine J_pick [] rfl ?_
        exact t_countsOn_5_24   _ _  h
theorem dX12_countingToday_0 : decode cX12_countingToday 0 = .ok (.iconst 0, 1) := by decide +kernel
theorem dX12_countingToday_1 : decode cX12_countingToday 1 = .ok (.istore_n 3, 1) := by decide +kernel
theorem dX12_countingToday_2 : decode cX12_countingToday 2 = .ok (.iconst 0, 1) := by decide +kernel
theorem dX12_countingToday_3 : decode cX12_countingToday 3 = .ok (.istore 4, 2) := by decide +kernel
theorem dX12_countingToday_5 : decode cX12_countingToday 5 = .ok (.iload 4, 2) := by decide +kernel
theorem dX12_countingToday_7 : decode cX12_countingToday 7 = .ok (.iload_n 2, 1) := by decide +kernel
theorem dX12_countingToday_8 : decode cX12_countingToday 8 = .ok (.if_icmp .ge 36, 3) := by decide +kernel
theorem dX12_countingToday_11 : decode cX12_countingToday 11 = .ok (.iload 4, 2) := by decide +kernel
theorem dX12_countingToday_13 : decode cX12_countingToday 13 = .ok (.aload_n 1, 1) := by decide +kernel
theorem dX12_countingToday_14 : decode cX12_countingToday 14 = .ok (.arraylength, 1) := by decide +kernel
theorem dX12_countingToday_15 : decode cX12_countingToday 15 = .ok (.if_icmp .ge 29, 3) := by decide +kernel
theorem dX12_countingToday_18 : decode cX12_countingToday 18 = .ok (.aload_n 1, 1) := by decide +kernel
theorem dX12_countingToday_19 : decode cX12_countingToday 19 = .ok (.iload 4, 2) := by decide +kernel
theorem dX12_countingToday_21 : decode cX12_countingToday 21 = .ok (.aaload, 1) := by decide +kernel
theorem dX12_countingToday_22 : decode cX12_countingToday 22 = .ok (.aload_n 0, 1) := by decide +kernel
theorem dX12_countingToday_23 : decode cX12_countingToday 23 = .ok (.getfield 19, 3) := by decide +kernel
theorem dX12_countingToday_26 : decode cX12_countingToday 26 = .ok (.getfield 66, 3) := by decide +kernel
theorem dX12_countingToday_29 : decode cX12_countingToday 29 = .ok (.invokevirtual 375, 3) := by decide +kernel
theorem dX12_countingToday_32 : decode cX12_countingToday 32 = .ok (.ifCond .eq 6, 3) := by decide +kernel
theorem dX12_countingToday_35 : decode cX12_countingToday 35 = .ok (.iinc 3 1, 3) := by decide +kernel
theorem dX12_countingToday_38 : decode cX12_countingToday 38 = .ok (.iinc 4 1, 3) := by decide +kernel
theorem dX12_countingToday_41 : decode cX12_countingToday 41 = .ok (.goto (-36), 3) := by decide +kernel
theorem dX12_countingToday_44 : decode cX12_countingToday 44 = .ok (.iload_n 3, 1) := by decide +kernel
theorem dX12_countingToday_45 : decode cX12_countingToday 45 = .ok (.ireturn, 1) := by decide +kernel
noncomputable def f_X12_countingToday_4_44  (l3 : Int32) (σ : jM) : Option (Int32 × jM) :=
  some (l3, σ)
noncomputable def f_X12_countingToday_4_38 (rec5 : Int32 → Int32 → Int32 → jM → Option (Int32 × jM)) (l2 : Int32) (l3 : Int32) (l4 : Int32) (σ : jM) : Option (Int32 × jM) :=
  rec5 l2 l3 (l4 + 1) σ
noncomputable def s_X12_countingToday_4_5  (rec5 : Int32 → Int32 → Int32 → jM → Option (Int32 × jM)) (l2 : Int32) (l3 : Int32) (l4 : Int32) (σ : jM) : Option (Int32 × jM) :=
  (if l2 ≤ l4 then f_X12_countingToday_4_44  l3 σ else (if (Int32.ofNat 24) ≤ l4 then f_X12_countingToday_4_44  l3 σ else gd (inb l4 24) (bd (f_countsOn_9 (tabX (Int32.toNatClampNeg l4)) (rI σ 3 0) σ) (fun r5 σ6 => (if r5 = 0 then f_X12_countingToday_4_38 rec5 l2 l3 l4 σ6 else f_X12_countingToday_4_38 rec5 l2 (l3 + 1) l4 σ6)))))
noncomputable def f_X12_countingToday_4_5  (n : Nat) : Int32 → Int32 → Int32 → jM → Option (Int32 × jM) := Nat.rec (motive := fun _ => Int32 → Int32 → Int32 → jM → Option (Int32 × jM)) (fun _ _ _ _ => none) (fun _ q => s_X12_countingToday_4_5  q) n
noncomputable def f_X12_countingToday_4 (a2 : Int32) (σ : jM) : Option (Int32 × jM) :=
  f_X12_countingToday_4_5  Fu a2 0 0 σ
set_option maxRecDepth 20000 in
set_option maxHeartbeats 4000000 in
theorem t_X12_countingToday_4_44  (l3 : Int32) (σ : jM) (r : Int32 × jM)  (h : f_X12_countingToday_4_44  l3 σ = some r) : J mi_X12_countingToday 2 0 0 (jqI r) 44 [(3, .int l3)] [] (ms σ) := by
  unfold f_X12_countingToday_4_44 at h
  refine J_iload_n 0 dX12_countingToday_44 rfl ?_
  exact J_ret (v := some (.int l3)) rfl ⟨dX12_countingToday_45, Or.inl rfl⟩ (jqI_mk h)
set_option maxRecDepth 20000 in
set_option maxHeartbeats 4000000 in
theorem t_X12_countingToday_4_38 {rec5 : Int32 → Int32 → Int32 → jM → Option (Int32 × jM)} (hrec5 : ∀ (l2 : Int32) (l3 : Int32) (l4 : Int32) (σ : jM) (r : Int32 × jM), rec5 l2 l3 l4 σ = some r → J mi_X12_countingToday 2 0 0 (jqI r) 5 [(0, .ref 0), (1, .ref 4), (2, .int l2), (3, .int l3), (4, .int l4)] [] (ms σ)) (l2 : Int32) (l3 : Int32) (l4 : Int32) (σ : jM) (r : Int32 × jM)  (h : f_X12_countingToday_4_38 rec5 l2 l3 l4 σ = some r) : J mi_X12_countingToday 2 0 0 (jqI r) 38 [(0, .ref 0), (1, .ref 4), (2, .int l2), (3, .int l3), (4, .int l4)] [] (ms σ) := by
  unfold f_X12_countingToday_4_38 at h
  refine J_iinc (v := (l4 + 1)) (ls' := [(4, .int (l4 + 1)), (0, .ref 0), (1, .ref 4), (2, .int l2), (3, .int l3)]) 4 dX12_countingToday_38 rfl rfl (by decide) rfl ?_
  refine J_goto (tgt := 5) dX12_countingToday_41 (by decide) ?_
  refine J_pick [1, 2, 3, 4, 0] rfl ?_
  exact hrec5 _ _ _ _ _  h
set_option maxRecDepth 20000 in
set_option maxHeartbeats 4000000 in
theorem t_X12_countingToday_4_5  : ∀ (n : Nat) (l2 : Int32) (l3 : Int32) (l4 : Int32) (σ : jM) (r : Int32 × jM), f_X12_countingToday_4_5  n l2 l3 l4 σ = some r → J mi_X12_countingToday 2 0 0 (jqI r) 5 [(0, .ref 0), (1, .ref 4), (2, .int l2), (3, .int l3), (4, .int l4)] [] (ms σ) := by
  intro n
  induction n with
  | zero =>
    intro l2 l3 l4 σ r  h
    have h : (none : Option (Int32 × jM)) = some r := h
    cases h
  | succ n ih =>
    intro l2 l3 l4 σ r  h
    have h : s_X12_countingToday_4_5  (f_X12_countingToday_4_5  n) l2 l3 l4 σ = some r := h
    unfold s_X12_countingToday_4_5 at h
    refine J_iload 4 dX12_countingToday_5 rfl ?_
    refine J_iload_n 2 dX12_countingToday_7 rfl ?_
    refine J_icmp_ge (tgt := 44) dX12_countingToday_8 (by decide) (fun c9 => ?_) (fun c9 => ?_)
    · have h := (if_pos c9).symm.trans h
      refine J_pick [3] rfl ?_
      exact t_X12_countingToday_4_44  _ _ _  h
    · have h := (if_neg c9).symm.trans h
      refine J_iload 4 dX12_countingToday_11 rfl ?_
      refine J_aload_n 1 dX12_countingToday_13 rfl ?_
      refine M_alen dX12_countingToday_14 a_4 (by decide) n_4 ?_
      refine J_icmp_ge (tgt := 44) dX12_countingToday_15 (by decide) (fun c10 => ?_) (fun c10 => ?_)
      · have h := (if_pos c10).symm.trans h
        refine J_pick [3] rfl ?_
        exact t_X12_countingToday_4_44  _ _ _  h
      · have h := (if_neg c10).symm.trans h
        refine J_aload_n 1 dX12_countingToday_18 rfl ?_
        refine J_iload 4 dX12_countingToday_19 rfl ?_
        obtain ⟨g11, h⟩ := gd_inv h
        refine M_aald dX12_countingToday_21 a_4 (by decide) n_4 g11 (r_tab _ g11.2) ?_
        refine J_aload_n 0 dX12_countingToday_22 rfl ?_
        refine M_getR gf_X12_19_11 dX12_countingToday_23 (g_0_0 _) k_0 n_0 ?_
        refine M_getI gf_X12_66_0 dX12_countingToday_26 k_3 n_3 ?_
        obtain ⟨r12, σ13, h14, h⟩ := bd_inv h
        refine M_callU (d' := 1) (k := (tabX (Int32.toNatClampNeg l4))) (As := [.int (rI σ 3 0)]) (st := []) cu_X12_375_9 dX12_countingToday_29 rfl (Nat.le_of_ble_eq_true rfl) (Nat.le_of_ble_eq_true rfl) (by decide) (n_tab g11.2) (k_tab g11.2) rfl rfl (t_countsOn_9 (k_tab g11.2) (n_tab g11.2) h14) ?_
        refine J_if_eq (tgt := 38) dX12_countingToday_32 (by decide) (fun c15 => ?_) (fun c15 => ?_)
        · have h := (if_pos c15).symm.trans h
          exact t_X12_countingToday_4_38 ih _ _ _ _ _  h
        · have h := (if_neg c15).symm.trans h
          refine J_iinc (v := (l3 + 1)) (ls' := [(3, .int (l3 + 1)), (0, .ref 0), (1, .ref 4), (2, .int l2), (4, .int l4)]) 3 dX12_countingToday_35 rfl rfl (by decide) rfl ?_
          refine J_pick [1, 2, 3, 0, 4] rfl ?_
          exact t_X12_countingToday_4_38 ih _ _ _ _ _  h
set_option maxRecDepth 20000 in
set_option maxHeartbeats 4000000 in
theorem t_X12_countingToday_4 {a2 : Int32} {σ : jM} {r : Int32 × jM}  (h : f_X12_countingToday_4 a2 σ = some r) : J mi_X12_countingToday 2 0 0 (jqI r) 0 [(0, .ref 0), (1, .ref 4), (2, .int a2)] [] (ms σ) := by
  unfold f_X12_countingToday_4 at h
  refine J_iconst (v := 0) dX12_countingToday_0 (by decide) ?_
  refine J_istore_n (i := 3) (ls' := [(3, .int 0), (0, .ref 0), (1, .ref 4), (2, .int a2)]) dX12_countingToday_1 rfl (by decide) rfl ?_
  refine J_iconst (v := 0) dX12_countingToday_2 (by decide) ?_
  refine J_istore (i := 4) (ls' := [(4, .int 0), (3, .int 0), (0, .ref 0), (1, .ref 4), (2, .int a2)]) dX12_countingToday_3 (by decide) rfl ?_
  refine J_pick [2, 3, 4, 1, 0] rfl ?_
  exact t_X12_countingToday_4_5  _ _ _ _ _ _  h
noncomputable def f_X12_countingToday_7_44  (l3 : Int32) (σ : jM) : Option (Int32 × jM) :=
  some (l3, σ)
noncomputable def f_X12_countingToday_7_38 (rec5 : Int32 → Int32 → Int32 → jM → Option (Int32 × jM)) (l2 : Int32) (l3 : Int32) (l4 : Int32) (σ : jM) : Option (Int32 × jM) :=
  rec5 l2 l3 (l4 + 1) σ
noncomputable def s_X12_countingToday_7_5  (rec5 : Int32 → Int32 → Int32 → jM → Option (Int32 × jM)) (l2 : Int32) (l3 : Int32) (l4 : Int32) (σ : jM) : Option (Int32 × jM) :=
  (if l2 ≤ l4 then f_X12_countingToday_7_44  l3 σ else (if (Int32.ofNat 6) ≤ l4 then f_X12_countingToday_7_44  l3 σ else gd (inb l4 6) (bd (f_countsOn_5 (namX (Int32.toNatClampNeg l4)) (rI σ 3 0) σ) (fun r5 σ6 => (if r5 = 0 then f_X12_countingToday_7_38 rec5 l2 l3 l4 σ6 else f_X12_countingToday_7_38 rec5 l2 (l3 + 1) l4 σ6)))))
noncomputable def f_X12_countingToday_7_5  (n : Nat) : Int32 → Int32 → Int32 → jM → Option (Int32 × jM) := Nat.rec (motive := fun _ => Int32 → Int32 → Int32 → jM → Option (Int32 × jM)) (fun _ _ _ _ => none) (fun _ q => s_X12_countingToday_7_5  q) n
noncomputable def f_X12_countingToday_7 (a2 : Int32) (σ : jM) : Option (Int32 × jM) :=
  f_X12_countingToday_7_5  Fu a2 0 0 σ
set_option maxRecDepth 20000 in
set_option maxHeartbeats 4000000 in
theorem t_X12_countingToday_7_44  (l3 : Int32) (σ : jM) (r : Int32 × jM)  (h : f_X12_countingToday_7_44  l3 σ = some r) : J mi_X12_countingToday 2 0 0 (jqI r) 44 [(3, .int l3)] [] (ms σ) := by
  unfold f_X12_countingToday_7_44 at h
  refine J_iload_n 0 dX12_countingToday_44 rfl ?_
  exact J_ret (v := some (.int l3)) rfl ⟨dX12_countingToday_45, Or.inl rfl⟩ (jqI_mk h)
set_option maxRecDepth 20000 in
set_option maxHeartbeats 4000000 in
theorem t_X12_countingToday_7_38 {rec5 : Int32 → Int32 → Int32 → jM → Option (Int32 × jM)} (hrec5 : ∀ (l2 : Int32) (l3 : Int32) (l4 : Int32) (σ : jM) (r : Int32 × jM), rec5 l2 l3 l4 σ = some r → J mi_X12_countingToday 2 0 0 (jqI r) 5 [(0, .ref 0), (1, .ref 7), (2, .int l2), (3, .int l3), (4, .int l4)] [] (ms σ)) (l2 : Int32) (l3 : Int32) (l4 : Int32) (σ : jM) (r : Int32 × jM)  (h : f_X12_countingToday_7_38 rec5 l2 l3 l4 σ = some r) : J mi_X12_countingToday 2 0 0 (jqI r) 38 [(0, .ref 0), (1, .ref 7), (2, .int l2), (3, .int l3), (4, .int l4)] [] (ms σ) := by
  unfold f_X12_countingToday_7_38 at h
  refine J_iinc (v := (l4 + 1)) (ls' := [(4, .int (l4 + 1)), (0, .ref 0), (1, .ref 7), (2, .int l2), (3, .int l3)]) 4 dX12_countingToday_38 rfl rfl (by decide) rfl ?_
  refine J_goto (tgt := 5) dX12_countingToday_41 (by decide) ?_
  refine J_pick [1, 2, 3, 4, 0] rfl ?_
  exact hrec5 _ _ _ _ _  h
set_option maxRecDepth 20000 in
set_option maxHeartbeats 4000000 in
theorem t_X12_countingToday_7_5  : ∀ (n : Nat) (l2 : Int32) (l3 : Int32) (l4 : Int32) (σ : jM) (r : Int32 × jM), f_X12_countingToday_7_5  n l2 l3 l4 σ = some r → J mi_X12_countingToday 2 0 0 (jqI r) 5 [(0, .ref 0), (1, .ref 7), (2, .int l2), (3, .int l3), (4, .int l4)] [] (ms σ) := by
  intro n
  induction n with
  | zero =>
    intro l2 l3 l4 σ r  h
    have h : (none : Option (Int32 × jM)) = some r := h
    cases h
  | succ n ih =>
    intro l2 l3 l4 σ r  h
    have h : s_X12_countingToday_7_5  (f_X12_countingToday_7_5  n) l2 l3 l4 σ = some r := h
    unfold s_X12_countingToday_7_5 at h
    refine J_iload 4 dX12_countingToday_5 rfl ?_
    refine J_iload_n 2 dX12_countingToday_7 rfl ?_
    refine J_icmp_ge (tgt := 44) dX12_countingToday_8 (by decide) (fun c9 => ?_) (fun c9 => ?_)
    · have h := (if_pos c9).symm.trans h
      refine J_pick [3] rfl ?_
      exact t_X12_countingToday_7_44  _ _ _  h
    · have h := (if_neg c9).symm.trans h
      refine J_iload 4 dX12_countingToday_11 rfl ?_
      refine J_aload_n 1 dX12_countingToday_13 rfl ?_
      refine M_alen dX12_countingToday_14 a_7 (by decide) n_7 ?_
      refine J_icmp_ge (tgt := 44) dX12_countingToday_15 (by decide) (fun c10 => ?_) (fun c10 => ?_)
      · have h := (if_pos c10).symm.trans h
        refine J_pick [3] rfl ?_
        exact t_X12_countingToday_7_44  _ _ _  h
      · have h := (if_neg c10).symm.trans h
        refine J_aload_n 1 dX12_countingToday_18 rfl ?_
        refine J_iload 4 dX12_countingToday_19 rfl ?_
        obtain ⟨g11, h⟩ := gd_inv h
        refine M_aald dX12_countingToday_21 a_7 (by decide) n_7 g11 (r_nam _ g11.2) ?_
        refine J_aload_n 0 dX12_countingToday_22 rfl ?_
        refine M_getR gf_X12_19_11 dX12_countingToday_23 (g_0_0 _) k_0 n_0 ?_
        refine M_getI gf_X12_66_0 dX12_countingToday_26 k_3 n_3 ?_
        obtain ⟨r12, σ13, h14, h⟩ := bd_inv h
        refine M_callU (d' := 1) (k := (namX (Int32.toNatClampNeg l4))) (As := [.int (rI σ 3 0)]) (st := []) cu_X12_375_5 dX12_countingToday_29 rfl (Nat.le_of_ble_eq_true rfl) (Nat.le_of_ble_eq_true rfl) (by decide) (n_nam g11.2) (k_nam g11.2) rfl rfl (t_countsOn_5 (k_nam g11.2) (n_nam g11.2) h14) ?_
        refine J_if_eq (tgt := 38) dX12_countingToday_32 (by decide) (fun c15 => ?_) (fun c15 => ?_)
        · have h := (if_pos c15).symm.trans h
          exact t_X12_countingToday_7_38 ih _ _ _ _ _  h
        · have h := (if_neg c15).symm.trans h
          refine J_iinc (v := (l3 + 1)) (ls' := [(3, .int (l3 + 1)), (0, .ref 0), (1, .ref 7), (2, .int l2), (4, .int l4)]) 3 dX12_countingToday_35 rfl rfl (by decide) rfl ?_
          refine J_pick [1, 2, 3, 0, 4] rfl ?_
          exact t_X12_countingToday_7_38 ih _ _ _ _ _  h
set_option maxRecDepth 20000 in
set_option maxHeartbeats 4000000 in
theorem t_X12_countingToday_7 {a2 : Int32} {σ : jM} {r : Int32 × jM}  (h : f_X12_countingToday_7 a2 σ = some r) : J mi_X12_countingToday 2 0 0 (jqI r) 0 [(0, .ref 0), (1, .ref 7), (2, .int a2)] [] (ms σ) := by
  unfold f_X12_countingToday_7 at h
  refine J_iconst (v := 0) dX12_countingToday_0 (by decide) ?_
  refine J_istore_n (i := 3) (ls' := [(3, .int 0), (0, .ref 0), (1, .ref 7), (2, .int a2)]) dX12_countingToday_1 rfl (by decide) rfl ?_
  refine J_iconst (v := 0) dX12_countingToday_2 (by decide) ?_
  refine J_istore (i := 4) (ls' := [(4, .int 0), (3, .int 0), (0, .ref 0), (1, .ref 7), (2, .int a2)]) dX12_countingToday_3 (by decide) rfl ?_
  refine J_pick [2, 3, 4, 1, 0] rfl ?_
  exact t_X12_countingToday_7_5  _ _ _ _ _ _  h
theorem dX0_hasTablet_0 : decode cX0_hasTablet 0 = .ok (.iload_n 1, 1) := by decide +kernel
theorem dX0_hasTablet_1 : decode cX0_hasTablet 1 = .ok (.ifCond .lt 15, 3) := by decide +kernel
theorem dX0_hasTablet_4 : decode cX0_hasTablet 4 = .ok (.iload_n 1, 1) := by decide +kernel
theorem dX0_hasTablet_5 : decode cX0_hasTablet 5 = .ok (.aload_n 0, 1) := by decide +kernel
theorem dX0_hasTablet_6 : decode cX0_hasTablet 6 = .ok (.getfield 61, 3) := by decide +kernel
theorem dX0_hasTablet_9 : decode cX0_hasTablet 9 = .ok (.if_icmp .ge 7, 3) := by decide +kernel
theorem dX0_hasTablet_12 : decode cX0_hasTablet 12 = .ok (.iconst 1, 1) := by decide +kernel
theorem dX0_hasTablet_13 : decode cX0_hasTablet 13 = .ok (.goto 4, 3) := by decide +kernel
theorem dX0_hasTablet_16 : decode cX0_hasTablet 16 = .ok (.iconst 0, 1) := by decide +kernel
theorem dX0_hasTablet_17 : decode cX0_hasTablet 17 = .ok (.ireturn, 1) := by decide +kernel
noncomputable def f_X0_hasTablet_17  (s0 : Int32) (σ : jM) : Option (Int32 × jM) :=
  gd (s0 = 0 ∨ s0 = 1) (some (s0, σ))
noncomputable def f_X0_hasTablet_16   (σ : jM) : Option (Int32 × jM) :=
  f_X0_hasTablet_17  0 σ
noncomputable def f_X0_hasTablet (a1 : Int32) (σ : jM) : Option (Int32 × jM) :=
  (if a1 < 0 then f_X0_hasTablet_16   σ else (if (rI σ 3 2) ≤ a1 then f_X0_hasTablet_16   σ else f_X0_hasTablet_17  1 σ))
set_option maxRecDepth 20000 in
set_option maxHeartbeats 4000000 in
theorem t_X0_hasTablet_17  (s0 : Int32) (σ : jM) (r : Int32 × jM)  (h : f_X0_hasTablet_17  s0 σ = some r) : J mi_X0_hasTablet 1 0 0 (jqI r) 17 [] [.int s0] (ms σ) := by
  unfold f_X0_hasTablet_17 at h
  obtain ⟨g2, h⟩ := gd_inv h
  exact J_ret (v := some (.int s0)) rfl ⟨dX0_hasTablet_17, Or.inr (Or.inl ⟨rfl, g2⟩)⟩ (jqI_mk h)
set_option maxRecDepth 20000 in
set_option maxHeartbeats 4000000 in
theorem t_X0_hasTablet_16   (σ : jM) (r : Int32 × jM)  (h : f_X0_hasTablet_16   σ = some r) : J mi_X0_hasTablet 1 0 0 (jqI r) 16 [] [] (ms σ) := by
  unfold f_X0_hasTablet_16 at h
  refine J_iconst (v := 0) dX0_hasTablet_16 (by decide) ?_
  exact t_X0_hasTablet_17  _ _ _  h
set_option maxRecDepth 20000 in
set_option maxHeartbeats 4000000 in
theorem t_X0_hasTablet {a1 : Int32} {σ : jM} {r : Int32 × jM}  (h : f_X0_hasTablet a1 σ = some r) : J mi_X0_hasTablet 1 0 0 (jqI r) 0 [(0, .ref 3), (1, .int a1)] [] (ms σ) := by
  unfold f_X0_hasTablet at h
  refine J_iload_n 1 dX0_hasTablet_0 rfl ?_
  refine J_if_lt (tgt := 16) dX0_hasTablet_1 (by decide) (fun c3 => ?_) (fun c3 => ?_)
  · have h := (if_pos c3).symm.trans h
    refine J_pick [] rfl ?_
    exact t_X0_hasTablet_16   _ _  h
  · have h := (if_neg c3).symm.trans h
    refine J_iload_n 1 dX0_hasTablet_4 rfl ?_
    refine J_aload_n 0 dX0_hasTablet_5 rfl ?_
    refine M_getI gf_X0_61_0 dX0_hasTablet_6 k_3 n_3 ?_
    refine J_icmp_ge (tgt := 16) dX0_hasTablet_9 (by decide) (fun c4 => ?_) (fun c4 => ?_)
    · have h := (if_pos c4).symm.trans h
      refine J_pick [] rfl ?_
      exact t_X0_hasTablet_16   _ _  h
    · have h := (if_neg c4).symm.trans h
      refine J_iconst (v := 1) dX0_hasTablet_12 (by decide) ?_
      refine J_goto (tgt := 17) dX0_hasTablet_13 (by decide) ?_
      refine J_pick [] rfl ?_
      exact t_X0_hasTablet_17  _ _ _  h
theorem dX0_hasWord_0 : decode cX0_hasWord 0 = .ok (.aload_n 0, 1) := by decide +kernel
theorem dX0_hasWord_1 : decode cX0_hasWord 1 = .ok (.iload_n 1, 1) := by decide +kernel
theorem dX0_hasWord_2 : decode cX0_hasWord 2 = .ok (.invokevirtual 64, 3) := by decide +kernel
theorem dX0_hasWord_5 : decode cX0_hasWord 5 = .ok (.ifCond .eq 24, 3) := by decide +kernel
theorem dX0_hasWord_8 : decode cX0_hasWord 8 = .ok (.iload_n 2, 1) := by decide +kernel
theorem dX0_hasWord_9 : decode cX0_hasWord 9 = .ok (.ifCond .lt 20, 3) := by decide +kernel
theorem dX0_hasWord_12 : decode cX0_hasWord 12 = .ok (.iload_n 2, 1) := by decide +kernel
theorem dX0_hasWord_13 : decode cX0_hasWord 13 = .ok (.aload_n 0, 1) := by decide +kernel
theorem dX0_hasWord_14 : decode cX0_hasWord 14 = .ok (.getfield 11, 3) := by decide +kernel
theorem dX0_hasWord_17 : decode cX0_hasWord 17 = .ok (.iload_n 1, 1) := by decide +kernel
theorem dX0_hasWord_18 : decode cX0_hasWord 18 = .ok (.aaload, 1) := by decide +kernel
theorem dX0_hasWord_19 : decode cX0_hasWord 19 = .ok (.getfield 68, 3) := by decide +kernel
theorem dX0_hasWord_22 : decode cX0_hasWord 22 = .ok (.if_icmp .ge 7, 3) := by decide +kernel
theorem dX0_hasWord_25 : decode cX0_hasWord 25 = .ok (.iconst 1, 1) := by decide +kernel
theorem dX0_hasWord_26 : decode cX0_hasWord 26 = .ok (.goto 4, 3) := by decide +kernel
theorem dX0_hasWord_29 : decode cX0_hasWord 29 = .ok (.iconst 0, 1) := by decide +kernel
theorem dX0_hasWord_30 : decode cX0_hasWord 30 = .ok (.ireturn, 1) := by decide +kernel
noncomputable def f_X0_hasWord_30  (s0 : Int32) (σ : jM) : Option (Int32 × jM) :=
  gd (s0 = 0 ∨ s0 = 1) (some (s0, σ))
noncomputable def f_X0_hasWord_29   (σ : jM) : Option (Int32 × jM) :=
  f_X0_hasWord_30  0 σ
noncomputable def f_X0_hasWord (a1 : Int32) (a2 : Int32) (σ : jM) : Option (Int32 × jM) :=
  bd (f_X0_hasTablet a1 σ) (fun r4 σ5 => (if r4 = 0 then f_X0_hasWord_29   σ5 else (if a2 < 0 then f_X0_hasWord_29   σ5 else gd (inb a1 24) ((if (rI σ5 (tabX (Int32.toNatClampNeg a1)) 2) ≤ a2 then f_X0_hasWord_29   σ5 else f_X0_hasWord_30  1 σ5)))))
set_option maxRecDepth 20000 in
set_option maxHeartbeats 4000000 in
theorem t_X0_hasWord_30  (s0 : Int32) (σ : jM) (r : Int32 × jM)  (h : f_X0_hasWord_30  s0 σ = some r) : J mi_X0_hasWord 2 0 0 (jqI r) 30 [] [.int s0] (ms σ) := by
  unfold f_X0_hasWord_30 at h
  obtain ⟨g3, h⟩ := gd_inv h
  exact J_ret (v := some (.int s0)) rfl ⟨dX0_hasWord_30, Or.inr (Or.inl ⟨rfl, g3⟩)⟩ (jqI_mk h)
set_option maxRecDepth 20000 in
set_option maxHeartbeats 4000000 in
theorem t_X0_hasWord_29   (σ : jM) (r : Int32 × jM)  (h : f_X0_hasWord_29   σ = some r) : J mi_X0_hasWord 2 0 0 (jqI r) 29 [] [] (ms σ) := by
  unfold f_X0_hasWord_29 at h
  refine J_iconst (v := 0) dX0_hasWord_29 (by decide) ?_
  exact t_X0_hasWord_30  _ _ _  h
set_option maxRecDepth 20000 in
set_option maxHeartbeats 4000000 in
theorem t_X0_hasWord {a1 : Int32} {a2 : Int32} {σ : jM} {r : Int32 × jM}  (h : f_X0_hasWord a1 a2 σ = some r) : J mi_X0_hasWord 2 0 0 (jqI r) 0 [(0, .ref 3), (1, .int a1), (2, .int a2)] [] (ms σ) := by
  unfold f_X0_hasWord at h
  refine J_aload_n 0 dX0_hasWord_0 rfl ?_
  refine J_iload_n 1 dX0_hasWord_1 rfl ?_
  obtain ⟨r4, σ5, h6, h⟩ := bd_inv h
  refine M_callVI (d' := 1) (k := 3) (As := [.int a1]) (st := []) cv_X0_64 dX0_hasWord_2 rfl (by decide) rfl (Nat.le_of_ble_eq_true rfl) (Nat.le_of_ble_eq_true rfl) (by decide) n_3 k_3 rfl rfl (t_X0_hasTablet  h6) ?_
  refine J_if_eq (tgt := 29) dX0_hasWord_5 (by decide) (fun c7 => ?_) (fun c7 => ?_)
  · have h := (if_pos c7).symm.trans h
    refine J_pick [] rfl ?_
    exact t_X0_hasWord_29   _ _  h
  · have h := (if_neg c7).symm.trans h
    refine J_iload_n 2 dX0_hasWord_8 rfl ?_
    refine J_if_lt (tgt := 29) dX0_hasWord_9 (by decide) (fun c8 => ?_) (fun c8 => ?_)
    · have h := (if_pos c8).symm.trans h
      refine J_pick [] rfl ?_
      exact t_X0_hasWord_29   _ _  h
    · have h := (if_neg c8).symm.trans h
      refine J_iload_n 2 dX0_hasWord_12 rfl ?_
      refine J_aload_n 0 dX0_hasWord_13 rfl ?_
      refine M_getR gf_X0_11_0 dX0_hasWord_14 (g_3_1 _) k_3 n_3 ?_
      refine J_iload_n 1 dX0_hasWord_17 rfl ?_
      obtain ⟨g9, h⟩ := gd_inv h
      refine M_aald dX0_hasWord_18 a_4 (by decide) n_4 g9 (r_tab _ g9.2) ?_
      refine M_getI gf_X0_68_9 dX0_hasWord_19 (k_tab g9.2) (n_tab g9.2) ?_
      refine J_icmp_ge (tgt := 29) dX0_hasWord_22 (by decide) (fun c10 => ?_) (fun c10 => ?_)
      · have h := (if_pos c10).symm.trans h
        refine J_pick [] rfl ?_
        exact t_X0_hasWord_29   _ _  h
      · have h := (if_neg c10).symm.trans h
        refine J_iconst (v := 1) dX0_hasWord_25 (by decide) ?_
        refine J_goto (tgt := 30) dX0_hasWord_26 (by decide) ?_
        refine J_pick [] rfl ?_
        exact t_X0_hasWord_30  _ _ _  h
theorem dX0_hasName_0 : decode cX0_hasName 0 = .ok (.iload_n 1, 1) := by decide +kernel
theorem dX0_hasName_1 : decode cX0_hasName 1 = .ok (.ifCond .lt 15, 3) := by decide +kernel
theorem dX0_hasName_4 : decode cX0_hasName 4 = .ok (.iload_n 1, 1) := by decide +kernel
theorem dX0_hasName_5 : decode cX0_hasName 5 = .ok (.aload_n 0, 1) := by decide +kernel
theorem dX0_hasName_6 : decode cX0_hasName 6 = .ok (.getfield 71, 3) := by decide +kernel
theorem dX0_hasName_9 : decode cX0_hasName 9 = .ok (.if_icmp .ge 7, 3) := by decide +kernel
theorem dX0_hasName_12 : decode cX0_hasName 12 = .ok (.iconst 1, 1) := by decide +kernel
theorem dX0_hasName_13 : decode cX0_hasName 13 = .ok (.goto 4, 3) := by decide +kernel
theorem dX0_hasName_16 : decode cX0_hasName 16 = .ok (.iconst 0, 1) := by decide +kernel
theorem dX0_hasName_17 : decode cX0_hasName 17 = .ok (.ireturn, 1) := by decide +kernel
noncomputable def f_X0_hasName_17  (s0 : Int32) (σ : jM) : Option (Int32 × jM) :=
  gd (s0 = 0 ∨ s0 = 1) (some (s0, σ))
noncomputable def f_X0_hasName_16   (σ : jM) : Option (Int32 × jM) :=
  f_X0_hasName_17  0 σ
noncomputable def f_X0_hasName (a1 : Int32) (σ : jM) : Option (Int32 × jM) :=
  (if a1 < 0 then f_X0_hasName_16   σ else (if (rI σ 3 8) ≤ a1 then f_X0_hasName_16   σ else f_X0_hasName_17  1 σ))
set_option maxRecDepth 20000 in
set_option maxHeartbeats 4000000 in
theorem t_X0_hasName_17  (s0 : Int32) (σ : jM) (r : Int32 × jM)  (h : f_X0_hasName_17  s0 σ = some r) : J mi_X0_hasName 1 0 0 (jqI r) 17 [] [.int s0] (ms σ) := by
  unfold f_X0_hasName_17 at h
  obtain ⟨g2, h⟩ := gd_inv h
  exact J_ret (v := some (.int s0)) rfl ⟨dX0_hasName_17, Or.inr (Or.inl ⟨rfl, g2⟩)⟩ (jqI_mk h)
set_option maxRecDepth 20000 in
set_option maxHeartbeats 4000000 in
theorem t_X0_hasName_16   (σ : jM) (r : Int32 × jM)  (h : f_X0_hasName_16   σ = some r) : J mi_X0_hasName 1 0 0 (jqI r) 16 [] [] (ms σ) := by
  unfold f_X0_hasName_16 at h
  refine J_iconst (v := 0) dX0_hasName_16 (by decide) ?_
  exact t_X0_hasName_17  _ _ _  h
set_option maxRecDepth 20000 in
set_option maxHeartbeats 4000000 in
theorem t_X0_hasName {a1 : Int32} {σ : jM} {r : Int32 × jM}  (h : f_X0_hasName a1 σ = some r) : J mi_X0_hasName 1 0 0 (jqI r) 0 [(0, .ref 3), (1, .int a1)] [] (ms σ) := by
  unfold f_X0_hasName at h
  refine J_iload_n 1 dX0_hasName_0 rfl ?_
  refine J_if_lt (tgt := 16) dX0_hasName_1 (by decide) (fun c3 => ?_) (fun c3 => ?_)
  · have h := (if_pos c3).symm.trans h
    refine J_pick [] rfl ?_
    exact t_X0_hasName_16   _ _  h
  · have h := (if_neg c3).symm.trans h
    refine J_iload_n 1 dX0_hasName_4 rfl ?_
    refine J_aload_n 0 dX0_hasName_5 rfl ?_
    refine M_getI gf_X0_71_0 dX0_hasName_6 k_3 n_3 ?_
    refine J_icmp_ge (tgt := 16) dX0_hasName_9 (by decide) (fun c4 => ?_) (fun c4 => ?_)
    · have h := (if_pos c4).symm.trans h
      refine J_pick [] rfl ?_
      exact t_X0_hasName_16   _ _  h
    · have h := (if_neg c4).symm.trans h
      refine J_iconst (v := 1) dX0_hasName_12 (by decide) ?_
      refine J_goto (tgt := 17) dX0_hasName_13 (by decide) ?_
      refine J_pick [] rfl ?_
      exact t_X0_hasName_17  _ _ _  h
theorem dX0_tabletCounts_0 : decode cX0_tabletCounts 0 = .ok (.aload_n 0, 1) := by decide +kernel
theorem dX0_tabletCounts_1 : decode cX0_tabletCounts 1 = .ok (.getfield 11, 3) := by decide +kernel
theorem dX0_tabletCounts_4 : decode cX0_tabletCounts 4 = .ok (.iload_n 1, 1) := by decide +kernel
theorem dX0_tabletCounts_5 : decode cX0_tabletCounts 5 = .ok (.aaload, 1) := by decide +kernel
theorem dX0_tabletCounts_6 : decode cX0_tabletCounts 6 = .ok (.aload_n 0, 1) := by decide +kernel
theorem dX0_tabletCounts_7 : decode cX0_tabletCounts 7 = .ok (.getfield 42, 3) := by decide +kernel
theorem dX0_tabletCounts_10 : decode cX0_tabletCounts 10 = .ok (.invokevirtual 86, 3) := by decide +kernel
theorem dX0_tabletCounts_13 : decode cX0_tabletCounts 13 = .ok (.ireturn, 1) := by decide +kernel
noncomputable def f_X0_tabletCounts (a1 : Int32) (σ : jM) : Option (Int32 × jM) :=
  gd (inb a1 24) (bd (f_countsOn_9 (tabX (Int32.toNatClampNeg a1)) (rI σ 3 10) σ) (fun r3 σ4 => gd (r3 = 0 ∨ r3 = 1) (some (r3, σ4))))
set_option maxRecDepth 20000 in
set_option maxHeartbeats 4000000 in
theorem t_X0_tabletCounts {a1 : Int32} {σ : jM} {r : Int32 × jM}  (h : f_X0_tabletCounts a1 σ = some r) : J mi_X0_tabletCounts 2 0 0 (jqI r) 0 [(0, .ref 3), (1, .int a1)] [] (ms σ) := by
  unfold f_X0_tabletCounts at h
  refine J_aload_n 0 dX0_tabletCounts_0 rfl ?_
  refine M_getR gf_X0_11_0 dX0_tabletCounts_1 (g_3_1 _) k_3 n_3 ?_
  refine J_iload_n 1 dX0_tabletCounts_4 rfl ?_
  obtain ⟨g2, h⟩ := gd_inv h
  refine M_aald dX0_tabletCounts_5 a_4 (by decide) n_4 g2 (r_tab _ g2.2) ?_
  refine J_aload_n 0 dX0_tabletCounts_6 rfl ?_
  refine M_getI gf_X0_42_0 dX0_tabletCounts_7 k_3 n_3 ?_
  obtain ⟨r3, σ4, h5, h⟩ := bd_inv h
  refine M_callU (d' := 1) (k := (tabX (Int32.toNatClampNeg a1))) (As := [.int (rI σ 3 10)]) (st := []) cu_X0_86_9 dX0_tabletCounts_10 rfl (Nat.le_of_ble_eq_true rfl) (Nat.le_of_ble_eq_true rfl) (by decide) (n_tab g2.2) (k_tab g2.2) rfl rfl (t_countsOn_9 (k_tab g2.2) (n_tab g2.2) h5) ?_
  obtain ⟨g6, h⟩ := gd_inv h
  exact J_ret (v := some (.int r3)) rfl ⟨dX0_tabletCounts_13, Or.inr (Or.inl ⟨rfl, g6⟩)⟩ (jqI_mk h)
theorem dX0_nameCounts_0 : decode cX0_nameCounts 0 = .ok (.aload_n 0, 1) := by decide +kernel
theorem dX0_nameCounts_1 : decode cX0_nameCounts 1 = .ok (.getfield 31, 3) := by decide +kernel
theorem dX0_nameCounts_4 : decode cX0_nameCounts 4 = .ok (.iload_n 1, 1) := by decide +kernel
theorem dX0_nameCounts_5 : decode cX0_nameCounts 5 = .ok (.aaload, 1) := by decide +kernel
theorem dX0_nameCounts_6 : decode cX0_nameCounts 6 = .ok (.aload_n 0, 1) := by decide +kernel
theorem dX0_nameCounts_7 : decode cX0_nameCounts 7 = .ok (.getfield 42, 3) := by decide +kernel
theorem dX0_nameCounts_10 : decode cX0_nameCounts 10 = .ok (.invokevirtual 89, 3) := by decide +kernel
theorem dX0_nameCounts_13 : decode cX0_nameCounts 13 = .ok (.ifCond .eq 23, 3) := by decide +kernel
theorem dX0_nameCounts_16 : decode cX0_nameCounts 16 = .ok (.aload_n 0, 1) := by decide +kernel
theorem dX0_nameCounts_17 : decode cX0_nameCounts 17 = .ok (.aload_n 0, 1) := by decide +kernel
theorem dX0_nameCounts_18 : decode cX0_nameCounts 18 = .ok (.getfield 31, 3) := by decide +kernel
theorem dX0_nameCounts_21 : decode cX0_nameCounts 21 = .ok (.iload_n 1, 1) := by decide +kernel
theorem dX0_nameCounts_22 : decode cX0_nameCounts 22 = .ok (.aaload, 1) := by decide +kernel
theorem dX0_nameCounts_23 : decode cX0_nameCounts 23 = .ok (.getfield 90, 3) := by decide +kernel
theorem dX0_nameCounts_26 : decode cX0_nameCounts 26 = .ok (.invokevirtual 93, 3) := by decide +kernel
theorem dX0_nameCounts_29 : decode cX0_nameCounts 29 = .ok (.ifCond .eq 7, 3) := by decide +kernel
theorem dX0_nameCounts_32 : decode cX0_nameCounts 32 = .ok (.iconst 1, 1) := by decide +kernel
theorem dX0_nameCounts_33 : decode cX0_nameCounts 33 = .ok (.goto 4, 3) := by decide +kernel
theorem dX0_nameCounts_36 : decode cX0_nameCounts 36 = .ok (.iconst 0, 1) := by decide +kernel
theorem dX0_nameCounts_37 : decode cX0_nameCounts 37 = .ok (.ireturn, 1) := by decide +kernel
noncomputable def f_X0_nameCounts_37  (s0 : Int32) (σ : jM) : Option (Int32 × jM) :=
  gd (s0 = 0 ∨ s0 = 1) (some (s0, σ))
noncomputable def f_X0_nameCounts_36   (σ : jM) : Option (Int32 × jM) :=
  f_X0_nameCounts_37  0 σ
noncomputable def f_X0_nameCounts (a1 : Int32) (σ : jM) : Option (Int32 × jM) :=
  gd (inb a1 6) (bd (f_countsOn_5 (namX (Int32.toNatClampNeg a1)) (rI σ 3 10) σ) (fun r6 σ7 => (if r6 = 0 then f_X0_nameCounts_36   σ7 else gd (inb a1 6) (bd (f_X0_tabletCounts (rI σ7 (namX (Int32.toNatClampNeg a1)) 4) σ7) (fun r11 σ12 => (if r11 = 0 then f_X0_nameCounts_36   σ12 else f_X0_nameCounts_37  1 σ12))))))
set_option maxRecDepth 20000 in
set_option maxHeartbeats 4000000 in
theorem t_X0_nameCounts_37  (s0 : Int32) (σ : jM) (r : Int32 × jM)  (h : f_X0_nameCounts_37  s0 σ = some r) : J mi_X0_nameCounts 3 0 0 (jqI r) 37 [] [.int s0] (ms σ) := by
  unfold f_X0_nameCounts_37 at h
  obtain ⟨g4, h⟩ := gd_inv h
  exact J_ret (v := some (.int s0)) rfl ⟨dX0_nameCounts_37, Or.inr (Or.inl ⟨rfl, g4⟩)⟩ (jqI_mk h)
set_option maxRecDepth 20000 in
set_option maxHeartbeats 4000000 in
theorem t_X0_nameCounts_36   (σ : jM) (r : Int32 × jM)  (h : f_X0_nameCounts_36   σ = some r) : J mi_X0_nameCounts 3 0 0 (jqI r) 36 [] [] (ms σ) := by
  unfold f_X0_nameCounts_36 at h
  refine J_iconst (v := 0) dX0_nameCounts_36 (by decide) ?_
  exact t_X0_nameCounts_37  _ _ _  h
set_option maxRecDepth 20000 in
set_option maxHeartbeats 4000000 in
theorem t_X0_nameCounts {a1 : Int32} {σ : jM} {r : Int32 × jM}  (h : f_X0_nameCounts a1 σ = some r) : J mi_X0_nameCounts 3 0 0 (jqI r) 0 [(0, .ref 3), (1, .int a1)] [] (ms σ) := by
  unfold f_X0_nameCounts at h
  refine J_aload_n 0 dX0_nameCounts_0 rfl ?_
  refine M_getR gf_X0_31_0 dX0_nameCounts_1 (g_3_7 _) k_3 n_3 ?_
  refine J_iload_n 1 dX0_nameCounts_4 rfl ?_
  obtain ⟨g5, h⟩ := gd_inv h
  refine M_aald dX0_nameCounts_5 a_7 (by decide) n_7 g5 (r_nam _ g5.2) ?_
  refine J_aload_n 0 dX0_nameCounts_6 rfl ?_
  refine M_getI gf_X0_42_0 dX0_nameCounts_7 k_3 n_3 ?_
  obtain ⟨r6, σ7, h8, h⟩ := bd_inv h
  refine M_callU (d' := 1) (k := (namX (Int32.toNatClampNeg a1))) (As := [.int (rI σ 3 10)]) (st := []) cu_X0_89_5 dX0_nameCounts_10 rfl (Nat.le_of_ble_eq_true rfl) (Nat.le_of_ble_eq_true rfl) (by decide) (n_nam g5.2) (k_nam g5.2) rfl rfl (t_countsOn_5 (k_nam g5.2) (n_nam g5.2) h8) ?_
  refine J_if_eq (tgt := 36) dX0_nameCounts_13 (by decide) (fun c9 => ?_) (fun c9 => ?_)
  · have h := (if_pos c9).symm.trans h
    refine J_pick [] rfl ?_
    exact t_X0_nameCounts_36   _ _  h
  · have h := (if_neg c9).symm.trans h
    refine J_aload_n 0 dX0_nameCounts_16 rfl ?_
    refine J_aload_n 0 dX0_nameCounts_17 rfl ?_
    refine M_getR gf_X0_31_0 dX0_nameCounts_18 (g_3_7 _) k_3 n_3 ?_
    refine J_iload_n 1 dX0_nameCounts_21 rfl ?_
    obtain ⟨g10, h⟩ := gd_inv h
    refine M_aald dX0_nameCounts_22 a_7 (by decide) n_7 g10 (r_nam _ g10.2) ?_
    refine M_getI gf_X0_90_5 dX0_nameCounts_23 (k_nam g10.2) (n_nam g10.2) ?_
    obtain ⟨r11, σ12, h13, h⟩ := bd_inv h
    refine M_callVI (d' := 2) (k := 3) (As := [.int (rI σ7 (namX (Int32.toNatClampNeg a1)) 4)]) (st := []) cv_X0_93 dX0_nameCounts_26 rfl (by decide) rfl (Nat.le_of_ble_eq_true rfl) (Nat.le_of_ble_eq_true rfl) (by decide) n_3 k_3 rfl rfl (t_X0_tabletCounts  h13) ?_
    refine J_if_eq (tgt := 36) dX0_nameCounts_29 (by decide) (fun c14 => ?_) (fun c14 => ?_)
    · have h := (if_pos c14).symm.trans h
      refine J_pick [] rfl ?_
      exact t_X0_nameCounts_36   _ _  h
    · have h := (if_neg c14).symm.trans h
      refine J_iconst (v := 1) dX0_nameCounts_32 (by decide) ?_
      refine J_goto (tgt := 37) dX0_nameCounts_33 (by decide) ?_
      refine J_pick [] rfl ?_
      exact t_X0_nameCounts_37  _ _ _  h
theorem dX1_forgetCounts_0 : decode cX1_forgetCounts 0 = .ok (.aload_n 0, 1) := by decide +kernel
theorem dX1_forgetCounts_1 : decode cX1_forgetCounts 1 = .ok (.iconst 0, 1) := by decide +kernel
theorem dX1_forgetCounts_2 : decode cX1_forgetCounts 2 = .ok (.putfield 23, 3) := by decide +kernel
theorem dX1_forgetCounts_5 : decode cX1_forgetCounts 5 = .ok (.aload_n 0, 1) := by decide +kernel
theorem dX1_forgetCounts_6 : decode cX1_forgetCounts 6 = .ok (.iconst 0, 1) := by decide +kernel
theorem dX1_forgetCounts_7 : decode cX1_forgetCounts 7 = .ok (.putfield 27, 3) := by decide +kernel
theorem dX1_forgetCounts_10 : decode cX1_forgetCounts 10 = .ok (.aload_n 0, 1) := by decide +kernel
theorem dX1_forgetCounts_11 : decode cX1_forgetCounts 11 = .ok (.iconst 0, 1) := by decide +kernel
theorem dX1_forgetCounts_12 : decode cX1_forgetCounts 12 = .ok (.putfield 30, 3) := by decide +kernel
theorem dX1_forgetCounts_15 : decode cX1_forgetCounts 15 = .ok (.return_, 1) := by decide +kernel
noncomputable def f_X1_forgetCounts  (σ : jM) : Option (Unit × jM) :=
  some ((), wI (wI (wI σ 322 5 0) 322 6 0) 322 7 0)
set_option maxRecDepth 20000 in
set_option maxHeartbeats 4000000 in
theorem t_X1_forgetCounts  {σ : jM} {r : Unit × jM}  (h : f_X1_forgetCounts  σ = some r) : J mi_X1_forgetCounts 1 0 0 (jqV r) 0 [(0, .ref 322)] [] (ms σ) := by
  unfold f_X1_forgetCounts at h
  refine J_aload_n 0 dX1_forgetCounts_0 rfl ?_
  refine J_iconst (v := 0) dX1_forgetCounts_1 (by decide) ?_
  refine M_putI pf_X1_23_1 dX1_forgetCounts_2 k_322 n_322 (jbool (Or.inl rfl)) ?_
  refine J_aload_n 0 dX1_forgetCounts_5 rfl ?_
  refine J_iconst (v := 0) dX1_forgetCounts_6 (by decide) ?_
  refine M_putI pf_X1_27_1 dX1_forgetCounts_7 k_322 n_322 (jbool (Or.inl rfl)) ?_
  refine J_aload_n 0 dX1_forgetCounts_10 rfl ?_
  refine J_iconst (v := 0) dX1_forgetCounts_11 (by decide) ?_
  refine M_putI pf_X1_30_1 dX1_forgetCounts_12 k_322 n_322 (jbool (Or.inl rfl)) ?_
  exact J_ret (v := none) rfl ⟨dX1_forgetCounts_15, rfl⟩ (jqV_mk h)
theorem dX1_waysWith_0 : decode cX1_waysWith 0 = .ok (.aload_n 0, 1) := by decide +kernel
theorem dX1_waysWith_1 : decode cX1_waysWith 1 = .ok (.getfield 19, 3) := by decide +kernel
theorem dX1_waysWith_4 : decode cX1_waysWith 4 = .ok (.getfield 43, 3) := by decide +kernel
theorem dX1_waysWith_7 : decode cX1_waysWith 7 = .ok (.iload_n 1, 1) := by decide +kernel
theorem dX1_waysWith_8 : decode cX1_waysWith 8 = .ok (.sipush 135, 3) := by decide +kernel
theorem dX1_waysWith_11 : decode cX1_waysWith 11 = .ok (.imul, 1) := by decide +kernel
theorem dX1_waysWith_12 : decode cX1_waysWith 12 = .ok (.iload_n 2, 1) := by decide +kernel
theorem dX1_waysWith_13 : decode cX1_waysWith 13 = .ok (.iadd, 1) := by decide +kernel
theorem dX1_waysWith_14 : decode cX1_waysWith 14 = .ok (.iaload, 1) := by decide +kernel
theorem dX1_waysWith_15 : decode cX1_waysWith 15 = .ok (.ireturn, 1) := by decide +kernel
noncomputable def f_X1_waysWith (a1 : Int32) (a2 : Int32) (σ : jM) : Option (Int32 × jM) :=
  gd (inb ((a1 * 135) + a2) 5400) (some ((rI σ 297 (Int32.toNatClampNeg ((a1 * 135) + a2))), σ))
set_option maxRecDepth 20000 in
set_option maxHeartbeats 4000000 in
theorem t_X1_waysWith {a1 : Int32} {a2 : Int32} {σ : jM} {r : Int32 × jM}  (h : f_X1_waysWith a1 a2 σ = some r) : J mi_X1_waysWith 1 0 0 (jqI r) 0 [(0, .ref 322), (1, .int a1), (2, .int a2)] [] (ms σ) := by
  unfold f_X1_waysWith at h
  refine J_aload_n 0 dX1_waysWith_0 rfl ?_
  refine M_getR gf_X1_19_1 dX1_waysWith_1 (g_322_4 _) k_322 n_322 ?_
  refine M_getR gf_X1_43_7 dX1_waysWith_4 (g_296_0 _) k_296 n_296 ?_
  refine J_iload_n 1 dX1_waysWith_7 rfl ?_
  refine J_sipush (v := 135) dX1_waysWith_8 (by decide) ?_
  refine J_imul dX1_waysWith_11 ?_
  refine J_iload_n 2 dX1_waysWith_12 rfl ?_
  refine J_iadd dX1_waysWith_13 ?_
  obtain ⟨g2, h⟩ := gd_inv h
  refine M_iald dX1_waysWith_14 a_297 n_297 g2 ?_
  exact J_ret (v := some (.int (rI σ 297 (Int32.toNatClampNeg ((a1 * 135) + a2))))) rfl ⟨dX1_waysWith_15, Or.inl rfl⟩ (jqI_mk h)
theorem dX1_holderOf_0 : decode cX1_holderOf 0 = .ok (.iconst 0, 1) := by decide +kernel
theorem dX1_holderOf_1 : decode cX1_holderOf 1 = .ok (.istore_n 2, 1) := by decide +kernel
theorem dX1_holderOf_2 : decode cX1_holderOf 2 = .ok (.iload_n 2, 1) := by decide +kernel
theorem dX1_holderOf_3 : decode cX1_holderOf 3 = .ok (.bipush 40, 2) := by decide +kernel
theorem dX1_holderOf_5 : decode cX1_holderOf 5 = .ok (.if_icmp .ge 31, 3) := by decide +kernel
theorem dX1_holderOf_8 : decode cX1_holderOf 8 = .ok (.aload_n 0, 1) := by decide +kernel
theorem dX1_holderOf_9 : decode cX1_holderOf 9 = .ok (.getfield 39, 3) := by decide +kernel
theorem dX1_holderOf_12 : decode cX1_holderOf 12 = .ok (.ifCond .le 18, 3) := by decide +kernel
theorem dX1_holderOf_15 : decode cX1_holderOf 15 = .ok (.aload_n 0, 1) := by decide +kernel
theorem dX1_holderOf_16 : decode cX1_holderOf 16 = .ok (.iload_n 2, 1) := by decide +kernel
theorem dX1_holderOf_17 : decode cX1_holderOf 17 = .ok (.iload_n 1, 1) := by decide +kernel
theorem dX1_holderOf_18 : decode cX1_holderOf 18 = .ok (.invokevirtual 50, 3) := by decide +kernel
theorem dX1_holderOf_21 : decode cX1_holderOf 21 = .ok (.aload_n 0, 1) := by decide +kernel
theorem dX1_holderOf_22 : decode cX1_holderOf 22 = .ok (.getfield 39, 3) := by decide +kernel
theorem dX1_holderOf_25 : decode cX1_holderOf 25 = .ok (.if_icmp .ne 5, 3) := by decide +kernel
theorem dX1_holderOf_28 : decode cX1_holderOf 28 = .ok (.iload_n 2, 1) := by decide +kernel
theorem dX1_holderOf_29 : decode cX1_holderOf 29 = .ok (.ireturn, 1) := by decide +kernel
theorem dX1_holderOf_30 : decode cX1_holderOf 30 = .ok (.iinc 2 1, 3) := by decide +kernel
theorem dX1_holderOf_33 : decode cX1_holderOf 33 = .ok (.goto (-31), 3) := by decide +kernel
theorem dX1_holderOf_36 : decode cX1_holderOf 36 = .ok (.iconst (-1), 1) := by decide +kernel
theorem dX1_holderOf_37 : decode cX1_holderOf 37 = .ok (.ireturn, 1) := by decide +kernel
noncomputable def f_X1_holderOf_30 (rec2 : Int32 → Int32 → jM → Option (Int32 × jM)) (l1 : Int32) (l2 : Int32) (σ : jM) : Option (Int32 × jM) :=
  rec2 l1 (l2 + 1) σ
noncomputable def s_X1_holderOf_2  (rec2 : Int32 → Int32 → jM → Option (Int32 × jM)) (l1 : Int32) (l2 : Int32) (σ : jM) : Option (Int32 × jM) :=
  (if 40 ≤ l2 then some ((-1), σ) else (if (rI σ 322 0) ≤ 0 then f_X1_holderOf_30 rec2 l1 l2 σ else bd (f_X1_waysWith l2 l1 σ) (fun r3 σ4 => (if r3 = (rI σ4 322 0) then some (l2, σ4) else f_X1_holderOf_30 rec2 l1 l2 σ4))))
noncomputable def f_X1_holderOf_2  (n : Nat) : Int32 → Int32 → jM → Option (Int32 × jM) := Nat.rec (motive := fun _ => Int32 → Int32 → jM → Option (Int32 × jM)) (fun _ _ _ => none) (fun _ q => s_X1_holderOf_2  q) n
noncomputable def f_X1_holderOf (a1 : Int32) (σ : jM) : Option (Int32 × jM) :=
  f_X1_holderOf_2  Fu a1 0 σ
set_option maxRecDepth 20000 in
set_option maxHeartbeats 4000000 in
theorem t_X1_holderOf_30 {rec2 : Int32 → Int32 → jM → Option (Int32 × jM)} (hrec2 : ∀ (l1 : Int32) (l2 : Int32) (σ : jM) (r : Int32 × jM), rec2 l1 l2 σ = some r → J mi_X1_holderOf 2 0 0 (jqI r) 2 [(0, .ref 322), (1, .int l1), (2, .int l2)] [] (ms σ)) (l1 : Int32) (l2 : Int32) (σ : jM) (r : Int32 × jM)  (h : f_X1_holderOf_30 rec2 l1 l2 σ = some r) : J mi_X1_holderOf 2 0 0 (jqI r) 30 [(0, .ref 322), (1, .int l1), (2, .int l2)] [] (ms σ) := by
  unfold f_X1_holderOf_30 at h
  refine J_iinc (v := (l2 + 1)) (ls' := [(2, .int (l2 + 1)), (0, .ref 322), (1, .int l1)]) 2 dX1_holderOf_30 rfl rfl (by decide) rfl ?_
  refine J_goto (tgt := 2) dX1_holderOf_33 (by decide) ?_
  refine J_pick [1, 2, 0] rfl ?_
  exact hrec2 _ _ _ _  h
set_option maxRecDepth 20000 in
set_option maxHeartbeats 4000000 in
theorem t_X1_holderOf_2  : ∀ (n : Nat) (l1 : Int32) (l2 : Int32) (σ : jM) (r : Int32 × jM), f_X1_holderOf_2  n l1 l2 σ = some r → J mi_X1_holderOf 2 0 0 (jqI r) 2 [(0, .ref 322), (1, .int l1), (2, .int l2)] [] (ms σ) := by
  intro n
  induction n with
  | zero =>
    intro l1 l2 σ r  h
    have h : (none : Option (Int32 × jM)) = some r := h
    cases h
  | succ n ih =>
    intro l1 l2 σ r  h
    have h : s_X1_holderOf_2  (f_X1_holderOf_2  n) l1 l2 σ = some r := h
    unfold s_X1_holderOf_2 at h
    refine J_iload_n 2 dX1_holderOf_2 rfl ?_
    refine J_bipush (v := 40) dX1_holderOf_3 (by decide) ?_
    refine J_icmp_ge (tgt := 36) dX1_holderOf_5 (by decide) (fun c7 => ?_) (fun c7 => ?_)
    · have h := (if_pos c7).symm.trans h
      refine J_iconst (v := (-1)) dX1_holderOf_36 (by decide) ?_
      exact J_ret (v := some (.int (-1))) rfl ⟨dX1_holderOf_37, Or.inl rfl⟩ (jqI_mk h)
    · have h := (if_neg c7).symm.trans h
      refine J_aload_n 0 dX1_holderOf_8 rfl ?_
      refine M_getI gf_X1_39_1 dX1_holderOf_9 k_322 n_322 ?_
      refine J_if_le (tgt := 30) dX1_holderOf_12 (by decide) (fun c8 => ?_) (fun c8 => ?_)
      · have h := (if_pos c8).symm.trans h
        exact t_X1_holderOf_30 ih _ _ _ _  h
      · have h := (if_neg c8).symm.trans h
        refine J_aload_n 0 dX1_holderOf_15 rfl ?_
        refine J_iload_n 2 dX1_holderOf_16 rfl ?_
        refine J_iload_n 1 dX1_holderOf_17 rfl ?_
        obtain ⟨r9, σ10, h11, h⟩ := bd_inv h
        refine M_callVI (d' := 1) (k := 322) (As := [.int l2, .int l1]) (st := []) cv_X1_50 dX1_holderOf_18 rfl (by decide) rfl (Nat.le_of_ble_eq_true rfl) (Nat.le_of_ble_eq_true rfl) (by decide) n_322 k_322 rfl rfl (t_X1_waysWith  h11) ?_
        refine J_aload_n 0 dX1_holderOf_21 rfl ?_
        refine M_getI gf_X1_39_1 dX1_holderOf_22 k_322 n_322 ?_
        refine J_icmp_ne (tgt := 30) dX1_holderOf_25 (by decide) (fun c12 => ?_) (fun c12 => ?_)
        · have h := (if_neg c12).symm.trans h
          exact t_X1_holderOf_30 ih _ _ _ _  h
        · have h := (if_pos c12).symm.trans h
          refine J_iload_n 2 dX1_holderOf_28 rfl ?_
          exact J_ret (v := some (.int l2)) rfl ⟨dX1_holderOf_29, Or.inl rfl⟩ (jqI_mk h)
set_option maxRecDepth 20000 in
set_option maxHeartbeats 4000000 in
theorem t_X1_holderOf {a1 : Int32} {σ : jM} {r : Int32 × jM}  (h : f_X1_holderOf a1 σ = some r) : J mi_X1_holderOf 2 0 0 (jqI r) 0 [(0, .ref 322), (1, .int a1)] [] (ms σ) := by
  unfold f_X1_holderOf at h
  refine J_iconst (v := 0) dX1_holderOf_0 (by decide) ?_
  refine J_istore_n (i := 2) (ls' := [(2, .int 0), (0, .ref 322), (1, .int a1)]) dX1_holderOf_1 rfl (by decide) rfl ?_
  refine J_pick [1, 2, 0] rfl ?_
  exact t_X1_holderOf_2  _ _ _ _ _  h
theorem dX1_kindOfPlace_0 : decode cX1_kindOfPlace 0 = .ok (.iload_n 1, 1) := by decide +kernel
theorem dX1_kindOfPlace_1 : decode cX1_kindOfPlace 1 = .ok (.iconst 1, 1) := by decide +kernel
theorem dX1_kindOfPlace_2 : decode cX1_kindOfPlace 2 = .ok (.if_icmp .ne 5, 3) := by decide +kernel
theorem dX1_kindOfPlace_5 : decode cX1_kindOfPlace 5 = .ok (.iconst 2, 1) := by decide +kernel
theorem dX1_kindOfPlace_6 : decode cX1_kindOfPlace 6 = .ok (.ireturn, 1) := by decide +kernel
theorem dX1_kindOfPlace_7 : decode cX1_kindOfPlace 7 = .ok (.iload_n 0, 1) := by decide +kernel
theorem dX1_kindOfPlace_8 : decode cX1_kindOfPlace 8 = .ok (.ifCond .ne 5, 3) := by decide +kernel
theorem dX1_kindOfPlace_11 : decode cX1_kindOfPlace 11 = .ok (.iconst 0, 1) := by decide +kernel
theorem dX1_kindOfPlace_12 : decode cX1_kindOfPlace 12 = .ok (.ireturn, 1) := by decide +kernel
theorem dX1_kindOfPlace_13 : decode cX1_kindOfPlace 13 = .ok (.iload_n 0, 1) := by decide +kernel
theorem dX1_kindOfPlace_14 : decode cX1_kindOfPlace 14 = .ok (.iload_n 1, 1) := by decide +kernel
theorem dX1_kindOfPlace_15 : decode cX1_kindOfPlace 15 = .ok (.iconst 1, 1) := by decide +kernel
theorem dX1_kindOfPlace_16 : decode cX1_kindOfPlace 16 = .ok (.isub, 1) := by decide +kernel
theorem dX1_kindOfPlace_17 : decode cX1_kindOfPlace 17 = .ok (.if_icmp .ne 7, 3) := by decide +kernel
theorem dX1_kindOfPlace_20 : decode cX1_kindOfPlace 20 = .ok (.iconst 1, 1) := by decide +kernel
theorem dX1_kindOfPlace_21 : decode cX1_kindOfPlace 21 = .ok (.goto 4, 3) := by decide +kernel
theorem dX1_kindOfPlace_24 : decode cX1_kindOfPlace 24 = .ok (.iconst 3, 1) := by decide +kernel
theorem dX1_kindOfPlace_25 : decode cX1_kindOfPlace 25 = .ok (.ireturn, 1) := by decide +kernel
noncomputable def f_X1_kindOfPlace_25  (s0 : Int32) (σ : jM) : Option (Int32 × jM) :=
  some (s0, σ)
noncomputable def f_X1_kindOfPlace (a0 : Int32) (a1 : Int32) (σ : jM) : Option (Int32 × jM) :=
  (if a1 = 1 then some (2, σ) else (if a0 = 0 then some (0, σ) else (if a0 = (a1 - 1) then f_X1_kindOfPlace_25  1 σ else f_X1_kindOfPlace_25  3 σ)))
set_option maxRecDepth 20000 in
set_option maxHeartbeats 4000000 in
theorem t_X1_kindOfPlace_25  (s0 : Int32) (σ : jM) (r : Int32 × jM)  (h : f_X1_kindOfPlace_25  s0 σ = some r) : J mi_X1_kindOfPlace 1 0 0 (jqI r) 25 [] [.int s0] (ms σ) := by
  unfold f_X1_kindOfPlace_25 at h
  exact J_ret (v := some (.int s0)) rfl ⟨dX1_kindOfPlace_25, Or.inl rfl⟩ (jqI_mk h)
set_option maxRecDepth 20000 in
set_option maxHeartbeats 4000000 in
theorem t_X1_kindOfPlace {a0 : Int32} {a1 : Int32} {σ : jM} {r : Int32 × jM}  (h : f_X1_kindOfPlace a0 a1 σ = some r) : J mi_X1_kindOfPlace 1 0 0 (jqI r) 0 [(0, .int a0), (1, .int a1)] [] (ms σ) := by
  unfold f_X1_kindOfPlace at h
  refine J_iload_n 1 dX1_kindOfPlace_0 rfl ?_
  refine J_iconst (v := 1) dX1_kindOfPlace_1 (by decide) ?_
  refine J_icmp_ne (tgt := 7) dX1_kindOfPlace_2 (by decide) (fun c1 => ?_) (fun c1 => ?_)
  · have h := (if_neg c1).symm.trans h
    refine J_iload_n 0 dX1_kindOfPlace_7 rfl ?_
    refine J_if_ne (tgt := 13) dX1_kindOfPlace_8 (by decide) (fun c2 => ?_) (fun c2 => ?_)
    · have h := (if_neg c2).symm.trans h
      refine J_iload_n 0 dX1_kindOfPlace_13 rfl ?_
      refine J_iload_n 1 dX1_kindOfPlace_14 rfl ?_
      refine J_iconst (v := 1) dX1_kindOfPlace_15 (by decide) ?_
      refine J_isub dX1_kindOfPlace_16 ?_
      refine J_icmp_ne (tgt := 24) dX1_kindOfPlace_17 (by decide) (fun c3 => ?_) (fun c3 => ?_)
      · have h := (if_neg c3).symm.trans h
        refine J_iconst (v := 3) dX1_kindOfPlace_24 (by decide) ?_
        refine J_pick [] rfl ?_
        exact t_X1_kindOfPlace_25  _ _ _  h
      · have h := (if_pos c3).symm.trans h
        refine J_iconst (v := 1) dX1_kindOfPlace_20 (by decide) ?_
        refine J_goto (tgt := 25) dX1_kindOfPlace_21 (by decide) ?_
        refine J_pick [] rfl ?_
        exact t_X1_kindOfPlace_25  _ _ _  h
    · have h := (if_pos c2).symm.trans h
      refine J_iconst (v := 0) dX1_kindOfPlace_11 (by decide) ?_
      exact J_ret (v := some (.int 0)) rfl ⟨dX1_kindOfPlace_12, Or.inl rfl⟩ (jqI_mk h)
  · have h := (if_pos c1).symm.trans h
    refine J_iconst (v := 2) dX1_kindOfPlace_5 (by decide) ?_
    exact J_ret (v := some (.int 2)) rfl ⟨dX1_kindOfPlace_6, Or.inl rfl⟩ (jqI_mk h)
theorem dX1_isAnywhere_0 : decode cX1_isAnywhere 0 = .ok (.aload_n 0, 1) := by decide +kernel
theorem dX1_isAnywhere_1 : decode cX1_isAnywhere 1 = .ok (.getfield 11, 3) := by decide +kernel
theorem dX1_isAnywhere_4 : decode cX1_isAnywhere 4 = .ok (.iload_n 1, 1) := by decide +kernel
theorem dX1_isAnywhere_5 : decode cX1_isAnywhere 5 = .ok (.iconst 5, 1) := by decide +kernel
theorem dX1_isAnywhere_6 : decode cX1_isAnywhere 6 = .ok (.imul, 1) := by decide +kernel
theorem dX1_isAnywhere_7 : decode cX1_isAnywhere 7 = .ok (.iconst 4, 1) := by decide +kernel
theorem dX1_isAnywhere_8 : decode cX1_isAnywhere 8 = .ok (.iadd, 1) := by decide +kernel
theorem dX1_isAnywhere_9 : decode cX1_isAnywhere 9 = .ok (.iaload, 1) := by decide +kernel
theorem dX1_isAnywhere_10 : decode cX1_isAnywhere 10 = .ok (.ifCond .le 7, 3) := by decide +kernel
theorem dX1_isAnywhere_13 : decode cX1_isAnywhere 13 = .ok (.iconst 1, 1) := by decide +kernel
theorem dX1_isAnywhere_14 : decode cX1_isAnywhere 14 = .ok (.goto 4, 3) := by decide +kernel
theorem dX1_isAnywhere_17 : decode cX1_isAnywhere 17 = .ok (.iconst 0, 1) := by decide +kernel
theorem dX1_isAnywhere_18 : decode cX1_isAnywhere 18 = .ok (.ireturn, 1) := by decide +kernel
noncomputable def f_X1_isAnywhere_18  (s0 : Int32) (σ : jM) : Option (Int32 × jM) :=
  gd (s0 = 0 ∨ s0 = 1) (some (s0, σ))
noncomputable def f_X1_isAnywhere (a1 : Int32) (σ : jM) : Option (Int32 × jM) :=
  gd (inb ((a1 * 5) + 4) 200) ((if (rI σ 323 (Int32.toNatClampNeg ((a1 * 5) + 4))) ≤ 0 then f_X1_isAnywhere_18  0 σ else f_X1_isAnywhere_18  1 σ))
set_option maxRecDepth 20000 in
set_option maxHeartbeats 4000000 in
theorem t_X1_isAnywhere_18  (s0 : Int32) (σ : jM) (r : Int32 × jM)  (h : f_X1_isAnywhere_18  s0 σ = some r) : J mi_X1_isAnywhere 1 0 0 (jqI r) 18 [] [.int s0] (ms σ) := by
  unfold f_X1_isAnywhere_18 at h
  obtain ⟨g3, h⟩ := gd_inv h
  exact J_ret (v := some (.int s0)) rfl ⟨dX1_isAnywhere_18, Or.inr (Or.inl ⟨rfl, g3⟩)⟩ (jqI_mk h)
set_option maxRecDepth 20000 in
set_option maxHeartbeats 4000000 in
theorem t_X1_isAnywhere {a1 : Int32} {σ : jM} {r : Int32 × jM}  (h : f_X1_isAnywhere a1 σ = some r) : J mi_X1_isAnywhere 1 0 0 (jqI r) 0 [(0, .ref 322), (1, .int a1)] [] (ms σ) := by
  unfold f_X1_isAnywhere at h
  refine J_aload_n 0 dX1_isAnywhere_0 rfl ?_
  refine M_getR gf_X1_11_1 dX1_isAnywhere_1 (g_322_2 _) k_322 n_322 ?_
  refine J_iload_n 1 dX1_isAnywhere_4 rfl ?_
  refine J_iconst (v := 5) dX1_isAnywhere_5 (by decide) ?_
  refine J_imul dX1_isAnywhere_6 ?_
  refine J_iconst (v := 4) dX1_isAnywhere_7 (by decide) ?_
  refine J_iadd dX1_isAnywhere_8 ?_
  obtain ⟨g4, h⟩ := gd_inv h
  refine M_iald dX1_isAnywhere_9 a_323 n_323 g4 ?_
  refine J_if_le (tgt := 17) dX1_isAnywhere_10 (by decide) (fun c5 => ?_) (fun c5 => ?_)
  · have h := (if_pos c5).symm.trans h
    refine J_iconst (v := 0) dX1_isAnywhere_17 (by decide) ?_
    refine J_pick [] rfl ?_
    exact t_X1_isAnywhere_18  _ _ _  h
  · have h := (if_neg c5).symm.trans h
    refine J_iconst (v := 1) dX1_isAnywhere_13 (by decide) ?_
    refine J_goto (tgt := 18) dX1_isAnywhere_14 (by decide) ?_
    refine J_pick [] rfl ?_
    exact t_X1_isAnywhere_18  _ _ _  h
theorem dX1_isAhead_0 : decode cX1_isAhead 0 = .ok (.aload_n 0, 1) := by decide +kernel
theorem dX1_isAhead_1 : decode cX1_isAhead 1 = .ok (.getfield 11, 3) := by decide +kernel
theorem dX1_isAhead_4 : decode cX1_isAhead 4 = .ok (.iload_n 1, 1) := by decide +kernel
theorem dX1_isAhead_5 : decode cX1_isAhead 5 = .ok (.iconst 5, 1) := by decide +kernel
theorem dX1_isAhead_6 : decode cX1_isAhead 6 = .ok (.imul, 1) := by decide +kernel
theorem dX1_isAhead_7 : decode cX1_isAhead 7 = .ok (.iconst 0, 1) := by decide +kernel
theorem dX1_isAhead_8 : decode cX1_isAhead 8 = .ok (.iadd, 1) := by decide +kernel
theorem dX1_isAhead_9 : decode cX1_isAhead 9 = .ok (.iaload, 1) := by decide +kernel
theorem dX1_isAhead_10 : decode cX1_isAhead 10 = .ok (.aload_n 0, 1) := by decide +kernel
theorem dX1_isAhead_11 : decode cX1_isAhead 11 = .ok (.getfield 11, 3) := by decide +kernel
theorem dX1_isAhead_14 : decode cX1_isAhead 14 = .ok (.iload_n 2, 1) := by decide +kernel
theorem dX1_isAhead_15 : decode cX1_isAhead 15 = .ok (.iconst 5, 1) := by decide +kernel
theorem dX1_isAhead_16 : decode cX1_isAhead 16 = .ok (.imul, 1) := by decide +kernel
theorem dX1_isAhead_17 : decode cX1_isAhead 17 = .ok (.iconst 4, 1) := by decide +kernel
theorem dX1_isAhead_18 : decode cX1_isAhead 18 = .ok (.iadd, 1) := by decide +kernel
theorem dX1_isAhead_19 : decode cX1_isAhead 19 = .ok (.iaload, 1) := by decide +kernel
theorem dX1_isAhead_20 : decode cX1_isAhead 20 = .ok (.imul, 1) := by decide +kernel
theorem dX1_isAhead_21 : decode cX1_isAhead 21 = .ok (.istore_n 3, 1) := by decide +kernel
theorem dX1_isAhead_22 : decode cX1_isAhead 22 = .ok (.aload_n 0, 1) := by decide +kernel
theorem dX1_isAhead_23 : decode cX1_isAhead 23 = .ok (.getfield 11, 3) := by decide +kernel
theorem dX1_isAhead_26 : decode cX1_isAhead 26 = .ok (.iload_n 2, 1) := by decide +kernel
theorem dX1_isAhead_27 : decode cX1_isAhead 27 = .ok (.iconst 5, 1) := by decide +kernel
theorem dX1_isAhead_28 : decode cX1_isAhead 28 = .ok (.imul, 1) := by decide +kernel
theorem dX1_isAhead_29 : decode cX1_isAhead 29 = .ok (.iconst 0, 1) := by decide +kernel
theorem dX1_isAhead_30 : decode cX1_isAhead 30 = .ok (.iadd, 1) := by decide +kernel
theorem dX1_isAhead_31 : decode cX1_isAhead 31 = .ok (.iaload, 1) := by decide +kernel
theorem dX1_isAhead_32 : decode cX1_isAhead 32 = .ok (.aload_n 0, 1) := by decide +kernel
theorem dX1_isAhead_33 : decode cX1_isAhead 33 = .ok (.getfield 11, 3) := by decide +kernel
theorem dX1_isAhead_36 : decode cX1_isAhead 36 = .ok (.iload_n 1, 1) := by decide +kernel
theorem dX1_isAhead_37 : decode cX1_isAhead 37 = .ok (.iconst 5, 1) := by decide +kernel
theorem dX1_isAhead_38 : decode cX1_isAhead 38 = .ok (.imul, 1) := by decide +kernel
theorem dX1_isAhead_39 : decode cX1_isAhead 39 = .ok (.iconst 4, 1) := by decide +kernel
theorem dX1_isAhead_40 : decode cX1_isAhead 40 = .ok (.iadd, 1) := by decide +kernel
theorem dX1_isAhead_41 : decode cX1_isAhead 41 = .ok (.iaload, 1) := by decide +kernel
theorem dX1_isAhead_42 : decode cX1_isAhead 42 = .ok (.imul, 1) := by decide +kernel
theorem dX1_isAhead_43 : decode cX1_isAhead 43 = .ok (.istore 4, 2) := by decide +kernel
theorem dX1_isAhead_45 : decode cX1_isAhead 45 = .ok (.iload_n 3, 1) := by decide +kernel
theorem dX1_isAhead_46 : decode cX1_isAhead 46 = .ok (.iload 4, 2) := by decide +kernel
theorem dX1_isAhead_48 : decode cX1_isAhead 48 = .ok (.if_icmp .eq 17, 3) := by decide +kernel
theorem dX1_isAhead_51 : decode cX1_isAhead 51 = .ok (.iload_n 3, 1) := by decide +kernel
theorem dX1_isAhead_52 : decode cX1_isAhead 52 = .ok (.iload 4, 2) := by decide +kernel
theorem dX1_isAhead_54 : decode cX1_isAhead 54 = .ok (.if_icmp .le 7, 3) := by decide +kernel
theorem dX1_isAhead_57 : decode cX1_isAhead 57 = .ok (.iconst 1, 1) := by decide +kernel
theorem dX1_isAhead_58 : decode cX1_isAhead 58 = .ok (.goto 17, 3) := by decide +kernel
theorem dX1_isAhead_61 : decode cX1_isAhead 61 = .ok (.iconst 0, 1) := by decide +kernel
theorem dX1_isAhead_62 : decode cX1_isAhead 62 = .ok (.goto 13, 3) := by decide +kernel
theorem dX1_isAhead_65 : decode cX1_isAhead 65 = .ok (.iload_n 1, 1) := by decide +kernel
theorem dX1_isAhead_66 : decode cX1_isAhead 66 = .ok (.iload_n 2, 1) := by decide +kernel
theorem dX1_isAhead_67 : decode cX1_isAhead 67 = .ok (.if_icmp .ge 7, 3) := by decide +kernel
theorem dX1_isAhead_70 : decode cX1_isAhead 70 = .ok (.iconst 1, 1) := by decide +kernel
theorem dX1_isAhead_71 : decode cX1_isAhead 71 = .ok (.goto 4, 3) := by decide +kernel
theorem dX1_isAhead_74 : decode cX1_isAhead 74 = .ok (.iconst 0, 1) := by decide +kernel
theorem dX1_isAhead_75 : decode cX1_isAhead 75 = .ok (.ireturn, 1) := by decide +kernel
noncomputable def f_X1_isAhead_75  (s0 : Int32) (σ : jM) : Option (Int32 × jM) :=
  gd (s0 = 0 ∨ s0 = 1) (some (s0, σ))
noncomputable def f_X1_isAhead (a1 : Int32) (a2 : Int32) (σ : jM) : Option (Int32 × jM) :=
  gd (inb ((a1 * 5) + 0) 200) (gd (inb ((a2 * 5) + 4) 200) (gd (inb ((a2 * 5) + 0) 200) (gd (inb ((a1 * 5) + 4) 200) ((if ((rI σ 323 (Int32.toNatClampNeg ((a1 * 5) + 0))) * (rI σ 323 (Int32.toNatClampNeg ((a2 * 5) + 4)))) = ((rI σ 323 (Int32.toNatClampNeg ((a2 * 5) + 0))) * (rI σ 323 (Int32.toNatClampNeg ((a1 * 5) + 4)))) then (if a2 ≤ a1 then f_X1_isAhead_75  0 σ else f_X1_isAhead_75  1 σ) else (if ((rI σ 323 (Int32.toNatClampNeg ((a1 * 5) + 0))) * (rI σ 323 (Int32.toNatClampNeg ((a2 * 5) + 4)))) ≤ ((rI σ 323 (Int32.toNatClampNeg ((a2 * 5) + 0))) * (rI σ 323 (Int32.toNatClampNeg ((a1 * 5) + 4)))) then f_X1_isAhead_75  0 σ else f_X1_isAhead_75  1 σ))))))
set_option maxRecDepth 20000 in
set_option maxHeartbeats 4000000 in
theorem t_X1_isAhead_75  (s0 : Int32) (σ : jM) (r : Int32 × jM)  (h : f_X1_isAhead_75  s0 σ = some r) : J mi_X1_isAhead 1 0 0 (jqI r) 75 [] [.int s0] (ms σ) := by
  unfold f_X1_isAhead_75 at h
  obtain ⟨g6, h⟩ := gd_inv h
  exact J_ret (v := some (.int s0)) rfl ⟨dX1_isAhead_75, Or.inr (Or.inl ⟨rfl, g6⟩)⟩ (jqI_mk h)
set_option maxRecDepth 20000 in
set_option maxHeartbeats 4000000 in
theorem t_X1_isAhead {a1 : Int32} {a2 : Int32} {σ : jM} {r : Int32 × jM}  (h : f_X1_isAhead a1 a2 σ = some r) : J mi_X1_isAhead 1 0 0 (jqI r) 0 [(0, .ref 322), (1, .int a1), (2, .int a2)] [] (ms σ) := by
  unfold f_X1_isAhead at h
  refine J_aload_n 0 dX1_isAhead_0 rfl ?_
  refine M_getR gf_X1_11_1 dX1_isAhead_1 (g_322_2 _) k_322 n_322 ?_
  refine J_iload_n 1 dX1_isAhead_4 rfl ?_
  refine J_iconst (v := 5) dX1_isAhead_5 (by decide) ?_
  refine J_imul dX1_isAhead_6 ?_
  refine J_iconst (v := 0) dX1_isAhead_7 (by decide) ?_
  refine J_iadd dX1_isAhead_8 ?_
  obtain ⟨g7, h⟩ := gd_inv h
  refine M_iald dX1_isAhead_9 a_323 n_323 g7 ?_
  refine J_aload_n 0 dX1_isAhead_10 rfl ?_
  refine M_getR gf_X1_11_1 dX1_isAhead_11 (g_322_2 _) k_322 n_322 ?_
  refine J_iload_n 2 dX1_isAhead_14 rfl ?_
  refine J_iconst (v := 5) dX1_isAhead_15 (by decide) ?_
  refine J_imul dX1_isAhead_16 ?_
  refine J_iconst (v := 4) dX1_isAhead_17 (by decide) ?_
  refine J_iadd dX1_isAhead_18 ?_
  obtain ⟨g8, h⟩ := gd_inv h
  refine M_iald dX1_isAhead_19 a_323 n_323 g8 ?_
  refine J_imul dX1_isAhead_20 ?_
  refine J_istore_n (i := 3) (ls' := [(3, .int ((rI σ 323 (Int32.toNatClampNeg ((a1 * 5) + 0))) * (rI σ 323 (Int32.toNatClampNeg ((a2 * 5) + 4))))), (0, .ref 322), (1, .int a1), (2, .int a2)]) dX1_isAhead_21 rfl (by decide) rfl ?_
  refine J_aload_n 1 dX1_isAhead_22 rfl ?_
  refine M_getR gf_X1_11_1 dX1_isAhead_23 (g_322_2 _) k_322 n_322 ?_
  refine J_iload_n 3 dX1_isAhead_26 rfl ?_
  refine J_iconst (v := 5) dX1_isAhead_27 (by decide) ?_
  refine J_imul dX1_isAhead_28 ?_
  refine J_iconst (v := 0) dX1_isAhead_29 (by decide) ?_
  refine J_iadd dX1_isAhead_30 ?_
  obtain ⟨g9, h⟩ := gd_inv h
  refine M_iald dX1_isAhead_31 a_323 n_323 g9 ?_
  refine J_aload_n 1 dX1_isAhead_32 rfl ?_
  refine M_getR gf_X1_11_1 dX1_isAhead_33 (g_322_2 _) k_322 n_322 ?_
  refine J_iload_n 2 dX1_isAhead_36 rfl ?_
  refine J_iconst (v := 5) dX1_isAhead_37 (by decide) ?_
  refine J_imul dX1_isAhead_38 ?_
  refine J_iconst (v := 4) dX1_isAhead_39 (by decide) ?_
  refine J_iadd dX1_isAhead_40 ?_
  obtain ⟨g10, h⟩ := gd_inv h
  refine M_iald dX1_isAhead_41 a_323 n_323 g10 ?_
  refine J_imul dX1_isAhead_42 ?_
  refine J_istore (i := 4) (ls' := [(4, .int ((rI σ 323 (Int32.toNatClampNeg ((a2 * 5) + 0))) * (rI σ 323 (Int32.toNatClampNeg ((a1 * 5) + 4))))), (3, .int ((rI σ 323 (Int32.toNatClampNeg ((a1 * 5) + 0))) * (rI σ 323 (Int32.toNatClampNeg ((a2 * 5) + 4))))), (0, .ref 322), (1, .int a1), (2, .int a2)]) dX1_isAhead_43 (by decide) rfl ?_
  refine J_iload_n 1 dX1_isAhead_45 rfl ?_
  refine J_iload 0 dX1_isAhead_46 rfl ?_
  refine J_icmp_eq (tgt := 65) dX1_isAhead_48 (by decide) (fun c11 => ?_) (fun c11 => ?_)
  · have h := (if_pos c11).symm.trans h
    refine J_iload_n 3 dX1_isAhead_65 rfl ?_
    refine J_iload_n 4 dX1_isAhead_66 rfl ?_
    refine J_icmp_ge (tgt := 74) dX1_isAhead_67 (by decide) (fun c12 => ?_) (fun c12 => ?_)
    · have h := (if_pos c12).symm.trans h
      refine J_iconst (v := 0) dX1_isAhead_74 (by decide) ?_
      refine J_pick [] rfl ?_
      exact t_X1_isAhead_75  _ _ _  h
    · have h := (if_neg c12).symm.trans h
      refine J_iconst (v := 1) dX1_isAhead_70 (by decide) ?_
      refine J_goto (tgt := 75) dX1_isAhead_71 (by decide) ?_
      refine J_pick [] rfl ?_
      exact t_X1_isAhead_75  _ _ _  h
  · have h := (if_neg c11).symm.trans h
    refine J_iload_n 1 dX1_isAhead_51 rfl ?_
    refine J_iload 0 dX1_isAhead_52 rfl ?_
    refine J_icmp_le (tgt := 61) dX1_isAhead_54 (by decide) (fun c13 => ?_) (fun c13 => ?_)
    · have h := (if_pos c13).symm.trans h
      refine J_iconst (v := 0) dX1_isAhead_61 (by decide) ?_
      refine J_goto (tgt := 75) dX1_isAhead_62 (by decide) ?_
      refine J_pick [] rfl ?_
      exact t_X1_isAhead_75  _ _ _  h
    · have h := (if_neg c13).symm.trans h
      refine J_iconst (v := 1) dX1_isAhead_57 (by decide) ?_
      refine J_goto (tgt := 75) dX1_isAhead_58 (by decide) ?_
      refine J_pick [] rfl ?_
      exact t_X1_isAhead_75  _ _ _  h
theorem dX2_clashingAbove_0 : decode cX2_clashingAbove 0 = .ok (.aload_n 0, 1) := by decide +kernel
theorem dX2_clashingAbove_1 : decode cX2_clashingAbove 1 = .ok (.getfield 26, 3) := by decide +kernel
theorem dX2_clashingAbove_4 : decode cX2_clashingAbove 4 = .ok (.getfield 59, 3) := by decide +kernel
theorem dX2_clashingAbove_7 : decode cX2_clashingAbove 7 = .ok (.iconst 0, 1) := by decide +kernel
theorem dX2_clashingAbove_8 : decode cX2_clashingAbove 8 = .ok (.aaload, 1) := by decide +kernel
theorem dX2_clashingAbove_9 : decode cX2_clashingAbove 9 = .ok (.iload_n 1, 1) := by decide +kernel
theorem dX2_clashingAbove_10 : decode cX2_clashingAbove 10 = .ok (.laload, 1) := by decide +kernel
theorem dX2_clashingAbove_11 : decode cX2_clashingAbove 11 = .ok (.lstore_n 2, 1) := by decide +kernel
theorem dX2_clashingAbove_12 : decode cX2_clashingAbove 12 = .ok (.aload_n 0, 1) := by decide +kernel
theorem dX2_clashingAbove_13 : decode cX2_clashingAbove 13 = .ok (.getfield 26, 3) := by decide +kernel
theorem dX2_clashingAbove_16 : decode cX2_clashingAbove 16 = .ok (.getfield 59, 3) := by decide +kernel
theorem dX2_clashingAbove_19 : decode cX2_clashingAbove 19 = .ok (.iconst 1, 1) := by decide +kernel
theorem dX2_clashingAbove_20 : decode cX2_clashingAbove 20 = .ok (.aaload, 1) := by decide +kernel
theorem dX2_clashingAbove_21 : decode cX2_clashingAbove 21 = .ok (.iload_n 1, 1) := by decide +kernel
theorem dX2_clashingAbove_22 : decode cX2_clashingAbove 22 = .ok (.laload, 1) := by decide +kernel
theorem dX2_clashingAbove_23 : decode cX2_clashingAbove 23 = .ok (.lstore 4, 2) := by decide +kernel
theorem dX2_clashingAbove_25 : decode cX2_clashingAbove 25 = .ok (.lload_n 2, 1) := by decide +kernel
theorem dX2_clashingAbove_26 : decode cX2_clashingAbove 26 = .ok (.lload 4, 2) := by decide +kernel
theorem dX2_clashingAbove_28 : decode cX2_clashingAbove 28 = .ok (.land, 1) := by decide +kernel
theorem dX2_clashingAbove_29 : decode cX2_clashingAbove 29 = .ok (.lload_n 2, 1) := by decide +kernel
theorem dX2_clashingAbove_30 : decode cX2_clashingAbove 30 = .ok (.aload_n 0, 1) := by decide +kernel
theorem dX2_clashingAbove_31 : decode cX2_clashingAbove 31 = .ok (.getfield 26, 3) := by decide +kernel
theorem dX2_clashingAbove_34 : decode cX2_clashingAbove 34 = .ok (.getfield 65, 3) := by decide +kernel
theorem dX2_clashingAbove_37 : decode cX2_clashingAbove 37 = .ok (.iconst 0, 1) := by decide +kernel
theorem dX2_clashingAbove_38 : decode cX2_clashingAbove 38 = .ok (.aaload, 1) := by decide +kernel
theorem dX2_clashingAbove_39 : decode cX2_clashingAbove 39 = .ok (.iload_n 1, 1) := by decide +kernel
theorem dX2_clashingAbove_40 : decode cX2_clashingAbove 40 = .ok (.laload, 1) := by decide +kernel
theorem dX2_clashingAbove_41 : decode cX2_clashingAbove 41 = .ok (.land, 1) := by decide +kernel
theorem dX2_clashingAbove_42 : decode cX2_clashingAbove 42 = .ok (.lor, 1) := by decide +kernel
theorem dX2_clashingAbove_43 : decode cX2_clashingAbove 43 = .ok (.lload 4, 2) := by decide +kernel
theorem dX2_clashingAbove_45 : decode cX2_clashingAbove 45 = .ok (.aload_n 0, 1) := by decide +kernel
theorem dX2_clashingAbove_46 : decode cX2_clashingAbove 46 = .ok (.getfield 26, 3) := by decide +kernel
theorem dX2_clashingAbove_49 : decode cX2_clashingAbove 49 = .ok (.getfield 65, 3) := by decide +kernel
theorem dX2_clashingAbove_52 : decode cX2_clashingAbove 52 = .ok (.iconst 1, 1) := by decide +kernel
theorem dX2_clashingAbove_53 : decode cX2_clashingAbove 53 = .ok (.aaload, 1) := by decide +kernel
theorem dX2_clashingAbove_54 : decode cX2_clashingAbove 54 = .ok (.iload_n 1, 1) := by decide +kernel
theorem dX2_clashingAbove_55 : decode cX2_clashingAbove 55 = .ok (.laload, 1) := by decide +kernel
theorem dX2_clashingAbove_56 : decode cX2_clashingAbove 56 = .ok (.land, 1) := by decide +kernel
theorem dX2_clashingAbove_57 : decode cX2_clashingAbove 57 = .ok (.lor, 1) := by decide +kernel
theorem dX2_clashingAbove_58 : decode cX2_clashingAbove 58 = .ok (.lstore 6, 2) := by decide +kernel
theorem dX2_clashingAbove_60 : decode cX2_clashingAbove 60 = .ok (.lload 6, 2) := by decide +kernel
theorem dX2_clashingAbove_62 : decode cX2_clashingAbove 62 = .ok (.ldc2_w 68, 3) := by decide +kernel
theorem dX2_clashingAbove_65 : decode cX2_clashingAbove 65 = .ok (.iload_n 1, 1) := by decide +kernel
theorem dX2_clashingAbove_66 : decode cX2_clashingAbove 66 = .ok (.iconst 1, 1) := by decide +kernel
theorem dX2_clashingAbove_67 : decode cX2_clashingAbove 67 = .ok (.iadd, 1) := by decide +kernel
theorem dX2_clashingAbove_68 : decode cX2_clashingAbove 68 = .ok (.lshl, 1) := by decide +kernel
theorem dX2_clashingAbove_69 : decode cX2_clashingAbove 69 = .ok (.land, 1) := by decide +kernel
theorem dX2_clashingAbove_70 : decode cX2_clashingAbove 70 = .ok (.lreturn, 1) := by decide +kernel
noncomputable def f_X2_clashingAbove (a1 : Int32) (σ : jM) : Option (Int64 × jM) :=
  gd (inb 0 2) (gd (inb a1 40) (gd (inb 1 2) (gd (inb a1 40) (gd (inb 0 2) (gd (inb a1 40) (gd (inb 1 2) (gd (inb a1 40) (some ((((((rL σ (285 + (Int32.toNatClampNeg 0)) (Int32.toNatClampNeg a1)) &&& (rL σ (285 + (Int32.toNatClampNeg 1)) (Int32.toNatClampNeg a1))) ||| ((rL σ (285 + (Int32.toNatClampNeg 0)) (Int32.toNatClampNeg a1)) &&& (rL σ (282 + (Int32.toNatClampNeg 0)) (Int32.toNatClampNeg a1)))) ||| ((rL σ (285 + (Int32.toNatClampNeg 1)) (Int32.toNatClampNeg a1)) &&& (rL σ (282 + (Int32.toNatClampNeg 1)) (Int32.toNatClampNeg a1)))) &&& (jlshl (-1) (a1 + 1))), σ)))))))))
set_option maxRecDepth 20000 in
set_option maxHeartbeats 4000000 in
theorem t_X2_clashingAbove {a1 : Int32} {σ : jM} {r : Int64 × jM}  (h : f_X2_clashingAbove a1 σ = some r) : J mi_X2_clashingAbove 1 0 0 (jqL r) 0 [(0, .ref 289), (1, .int a1)] [] (ms σ) := by
  unfold f_X2_clashingAbove at h
  refine J_aload_n 0 dX2_clashingAbove_0 rfl ?_
  refine M_getR gf_X2_26_2 dX2_clashingAbove_1 (g_289_9 _) k_289 n_289 ?_
  refine M_getR gf_X2_59_3 dX2_clashingAbove_4 (g_264_4 _) k_264 n_264 ?_
  refine J_iconst (v := 0) dX2_clashingAbove_7 (by decide) ?_
  obtain ⟨g9, h⟩ := gd_inv h
  refine M_aald dX2_clashingAbove_8 a_284 (by decide) n_284 g9 (r_row284 _ g9.2) ?_
  refine J_iload_n 1 dX2_clashingAbove_9 rfl ?_
  obtain ⟨g10, h⟩ := gd_inv h
  refine M_lald dX2_clashingAbove_10 (a_row284 g9.2) (na_row284 g9.2) g10 ?_
  refine J_lstore_n (i := 2) (ls' := [(2, .long (rL σ (285 + (Int32.toNatClampNeg 0)) (Int32.toNatClampNeg a1))), (0, .ref 289), (1, .int a1)]) dX2_clashingAbove_11 rfl (by decide) rfl ?_
  refine J_aload_n 1 dX2_clashingAbove_12 rfl ?_
  refine M_getR gf_X2_26_2 dX2_clashingAbove_13 (g_289_9 _) k_289 n_289 ?_
  refine M_getR gf_X2_59_3 dX2_clashingAbove_16 (g_264_4 _) k_264 n_264 ?_
  refine J_iconst (v := 1) dX2_clashingAbove_19 (by decide) ?_
  obtain ⟨g11, h⟩ := gd_inv h
  refine M_aald dX2_clashingAbove_20 a_284 (by decide) n_284 g11 (r_row284 _ g11.2) ?_
  refine J_iload_n 2 dX2_clashingAbove_21 rfl ?_
  obtain ⟨g12, h⟩ := gd_inv h
  refine M_lald dX2_clashingAbove_22 (a_row284 g11.2) (na_row284 g11.2) g12 ?_
  refine J_lstore (i := 4) (ls' := [(4, .long (rL σ (285 + (Int32.toNatClampNeg 1)) (Int32.toNatClampNeg a1))), (2, .long (rL σ (285 + (Int32.toNatClampNeg 0)) (Int32.toNatClampNeg a1))), (0, .ref 289), (1, .int a1)]) dX2_clashingAbove_23 (by decide) rfl ?_
  refine J_lload_n 1 dX2_clashingAbove_25 rfl ?_
  refine J_lload 0 dX2_clashingAbove_26 rfl ?_
  refine J_land dX2_clashingAbove_28 ?_
  refine J_lload_n 1 dX2_clashingAbove_29 rfl ?_
  refine J_aload_n 2 dX2_clashingAbove_30 rfl ?_
  refine M_getR gf_X2_26_2 dX2_clashingAbove_31 (g_289_9 _) k_289 n_289 ?_
  refine M_getR gf_X2_65_3 dX2_clashingAbove_34 (g_264_3 _) k_264 n_264 ?_
  refine J_iconst (v := 0) dX2_clashingAbove_37 (by decide) ?_
  obtain ⟨g13, h⟩ := gd_inv h
  refine M_aald dX2_clashingAbove_38 a_281 (by decide) n_281 g13 (r_row281 _ g13.2) ?_
  refine J_iload_n 3 dX2_clashingAbove_39 rfl ?_
  obtain ⟨g14, h⟩ := gd_inv h
  refine M_lald dX2_clashingAbove_40 (a_row281 g13.2) (na_row281 g13.2) g14 ?_
  refine J_land dX2_clashingAbove_41 ?_
  refine J_lor dX2_clashingAbove_42 ?_
  refine J_lload 0 dX2_clashingAbove_43 rfl ?_
  refine J_aload_n 2 dX2_clashingAbove_45 rfl ?_
  refine M_getR gf_X2_26_2 dX2_clashingAbove_46 (g_289_9 _) k_289 n_289 ?_
  refine M_getR gf_X2_65_3 dX2_clashingAbove_49 (g_264_3 _) k_264 n_264 ?_
  refine J_iconst (v := 1) dX2_clashingAbove_52 (by decide) ?_
  obtain ⟨g15, h⟩ := gd_inv h
  refine M_aald dX2_clashingAbove_53 a_281 (by decide) n_281 g15 (r_row281 _ g15.2) ?_
  refine J_iload_n 3 dX2_clashingAbove_54 rfl ?_
  obtain ⟨g16, h⟩ := gd_inv h
  refine M_lald dX2_clashingAbove_55 (a_row281 g15.2) (na_row281 g15.2) g16 ?_
  refine J_land dX2_clashingAbove_56 ?_
  refine J_lor dX2_clashingAbove_57 ?_
  refine J_lstore (i := 6) (ls' := [(6, .long ((((rL σ (285 + (Int32.toNatClampNeg 0)) (Int32.toNatClampNeg a1)) &&& (rL σ (285 + (Int32.toNatClampNeg 1)) (Int32.toNatClampNeg a1))) ||| ((rL σ (285 + (Int32.toNatClampNeg 0)) (Int32.toNatClampNeg a1)) &&& (rL σ (282 + (Int32.toNatClampNeg 0)) (Int32.toNatClampNeg a1)))) ||| ((rL σ (285 + (Int32.toNatClampNeg 1)) (Int32.toNatClampNeg a1)) &&& (rL σ (282 + (Int32.toNatClampNeg 1)) (Int32.toNatClampNeg a1))))), (4, .long (rL σ (285 + (Int32.toNatClampNeg 1)) (Int32.toNatClampNeg a1))), (2, .long (rL σ (285 + (Int32.toNatClampNeg 0)) (Int32.toNatClampNeg a1))), (0, .ref 289), (1, .int a1)]) dX2_clashingAbove_58 (by decide) rfl ?_
  refine J_lload 0 dX2_clashingAbove_60 rfl ?_
  refine J_ldc2 dX2_clashingAbove_62 ct_X2_68 ?_
  refine J_iload_n 4 dX2_clashingAbove_65 rfl ?_
  refine J_iconst (v := 1) dX2_clashingAbove_66 (by decide) ?_
  refine J_iadd dX2_clashingAbove_67 ?_
  refine J_lshl dX2_clashingAbove_68 ?_
  refine J_land dX2_clashingAbove_69 ?_
  exact J_ret (v := some (.long (((((rL σ (285 + (Int32.toNatClampNeg 0)) (Int32.toNatClampNeg a1)) &&& (rL σ (285 + (Int32.toNatClampNeg 1)) (Int32.toNatClampNeg a1))) ||| ((rL σ (285 + (Int32.toNatClampNeg 0)) (Int32.toNatClampNeg a1)) &&& (rL σ (282 + (Int32.toNatClampNeg 0)) (Int32.toNatClampNeg a1)))) ||| ((rL σ (285 + (Int32.toNatClampNeg 1)) (Int32.toNatClampNeg a1)) &&& (rL σ (282 + (Int32.toNatClampNeg 1)) (Int32.toNatClampNeg a1)))) &&& (jlshl (-1) (a1 + 1))))) rfl ⟨dX2_clashingAbove_70, rfl⟩ (jqL_mk h)
theorem dX2_isShorter_0 : decode cX2_isShorter 0 = .ok (.aload_n 0, 1) := by decide +kernel
theorem dX2_isShorter_1 : decode cX2_isShorter 1 = .ok (.getfield 34, 3) := by decide +kernel
theorem dX2_isShorter_4 : decode cX2_isShorter 4 = .ok (.iconst (-1), 1) := by decide +kernel
theorem dX2_isShorter_5 : decode cX2_isShorter 5 = .ok (.if_icmp .eq 11, 3) := by decide +kernel
theorem dX2_isShorter_8 : decode cX2_isShorter 8 = .ok (.iload_n 1, 1) := by decide +kernel
theorem dX2_isShorter_9 : decode cX2_isShorter 9 = .ok (.aload_n 0, 1) := by decide +kernel
theorem dX2_isShorter_10 : decode cX2_isShorter 10 = .ok (.getfield 89, 3) := by decide +kernel
theorem dX2_isShorter_13 : decode cX2_isShorter 13 = .ok (.if_icmp .ge 7, 3) := by decide +kernel
theorem dX2_isShorter_16 : decode cX2_isShorter 16 = .ok (.iconst 1, 1) := by decide +kernel
theorem dX2_isShorter_17 : decode cX2_isShorter 17 = .ok (.goto 4, 3) := by decide +kernel
theorem dX2_isShorter_20 : decode cX2_isShorter 20 = .ok (.iconst 0, 1) := by decide +kernel
theorem dX2_isShorter_21 : decode cX2_isShorter 21 = .ok (.ireturn, 1) := by decide +kernel
noncomputable def f_X2_isShorter_21  (s0 : Int32) (σ : jM) : Option (Int32 × jM) :=
  gd (s0 = 0 ∨ s0 = 1) (some (s0, σ))
noncomputable def f_X2_isShorter_16   (σ : jM) : Option (Int32 × jM) :=
  f_X2_isShorter_21  1 σ
noncomputable def f_X2_isShorter (a1 : Int32) (σ : jM) : Option (Int32 × jM) :=
  (if (rI σ 289 3) = (-1) then f_X2_isShorter_16   σ else (if (rI σ 289 4) ≤ a1 then f_X2_isShorter_21  0 σ else f_X2_isShorter_16   σ))
set_option maxRecDepth 20000 in
set_option maxHeartbeats 4000000 in
theorem t_X2_isShorter_21  (s0 : Int32) (σ : jM) (r : Int32 × jM)  (h : f_X2_isShorter_21  s0 σ = some r) : J mi_X2_isShorter 1 0 0 (jqI r) 21 [] [.int s0] (ms σ) := by
  unfold f_X2_isShorter_21 at h
  obtain ⟨g2, h⟩ := gd_inv h
  exact J_ret (v := some (.int s0)) rfl ⟨dX2_isShorter_21, Or.inr (Or.inl ⟨rfl, g2⟩)⟩ (jqI_mk h)
set_option maxRecDepth 20000 in
set_option maxHeartbeats 4000000 in
theorem t_X2_isShorter_16   (σ : jM) (r : Int32 × jM)  (h : f_X2_isShorter_16   σ = some r) : J mi_X2_isShorter 1 0 0 (jqI r) 16 [] [] (ms σ) := by
  unfold f_X2_isShorter_16 at h
  refine J_iconst (v := 1) dX2_isShorter_16 (by decide) ?_
  refine J_goto (tgt := 21) dX2_isShorter_17 (by decide) ?_
  exact t_X2_isShorter_21  _ _ _  h
set_option maxRecDepth 20000 in
set_option maxHeartbeats 4000000 in
theorem t_X2_isShorter {a1 : Int32} {σ : jM} {r : Int32 × jM}  (h : f_X2_isShorter a1 σ = some r) : J mi_X2_isShorter 1 0 0 (jqI r) 0 [(0, .ref 289), (1, .int a1)] [] (ms σ) := by
  unfold f_X2_isShorter at h
  refine J_aload_n 0 dX2_isShorter_0 rfl ?_
  refine M_getI gf_X2_34_2 dX2_isShorter_1 k_289 n_289 ?_
  refine J_iconst (v := (-1)) dX2_isShorter_4 (by decide) ?_
  refine J_icmp_eq (tgt := 16) dX2_isShorter_5 (by decide) (fun c3 => ?_) (fun c3 => ?_)
  · have h := (if_pos c3).symm.trans h
    refine J_pick [] rfl ?_
    exact t_X2_isShorter_16   _ _  h
  · have h := (if_neg c3).symm.trans h
    refine J_iload_n 1 dX2_isShorter_8 rfl ?_
    refine J_aload_n 0 dX2_isShorter_9 rfl ?_
    refine M_getI gf_X2_89_2 dX2_isShorter_10 k_289 n_289 ?_
    refine J_icmp_ge (tgt := 20) dX2_isShorter_13 (by decide) (fun c4 => ?_) (fun c4 => ?_)
    · have h := (if_pos c4).symm.trans h
      refine J_iconst (v := 0) dX2_isShorter_20 (by decide) ?_
      refine J_pick [] rfl ?_
      exact t_X2_isShorter_21  _ _ _  h
    · have h := (if_neg c4).symm.trans h
      refine J_pick [] rfl ?_
      exact t_X2_isShorter_16   _ _  h
theorem dX2_take_0 : decode cX2_take 0 = .ok (.aload_n 0, 1) := by decide +kernel
theorem dX2_take_1 : decode cX2_take 1 = .ok (.iload_n 1, 1) := by decide +kernel
theorem dX2_take_2 : decode cX2_take 2 = .ok (.putfield 92, 3) := by decide +kernel
theorem dX2_take_5 : decode cX2_take 5 = .ok (.aload_n 0, 1) := by decide +kernel
theorem dX2_take_6 : decode cX2_take 6 = .ok (.iload_n 2, 1) := by decide +kernel
theorem dX2_take_7 : decode cX2_take 7 = .ok (.putfield 95, 3) := by decide +kernel
theorem dX2_take_10 : decode cX2_take 10 = .ok (.aload_n 0, 1) := by decide +kernel
theorem dX2_take_11 : decode cX2_take 11 = .ok (.iload_n 3, 1) := by decide +kernel
theorem dX2_take_12 : decode cX2_take 12 = .ok (.putfield 34, 3) := by decide +kernel
theorem dX2_take_15 : decode cX2_take 15 = .ok (.aload_n 0, 1) := by decide +kernel
theorem dX2_take_16 : decode cX2_take 16 = .ok (.iload 4, 2) := by decide +kernel
theorem dX2_take_18 : decode cX2_take 18 = .ok (.putfield 49, 3) := by decide +kernel
theorem dX2_take_21 : decode cX2_take 21 = .ok (.aload_n 0, 1) := by decide +kernel
theorem dX2_take_22 : decode cX2_take 22 = .ok (.iload 5, 2) := by decide +kernel
theorem dX2_take_24 : decode cX2_take 24 = .ok (.putfield 52, 3) := by decide +kernel
theorem dX2_take_27 : decode cX2_take 27 = .ok (.aload_n 0, 1) := by decide +kernel
theorem dX2_take_28 : decode cX2_take 28 = .ok (.iload 6, 2) := by decide +kernel
theorem dX2_take_30 : decode cX2_take 30 = .ok (.putfield 89, 3) := by decide +kernel
theorem dX2_take_33 : decode cX2_take 33 = .ok (.return_, 1) := by decide +kernel
noncomputable def f_X2_take (a1 : Int32) (a2 : Int32) (a3 : Int32) (a4 : Int32) (a5 : Int32) (a6 : Int32) (σ : jM) : Option (Unit × jM) :=
  some ((), wI (wI (wI (wI (wI (wI σ 289 1 a1) 289 2 a2) 289 3 a3) 289 10 a4) 289 11 a5) 289 4 a6)
set_option maxRecDepth 20000 in
set_option maxHeartbeats 4000000 in
theorem t_X2_take {a1 : Int32} {a2 : Int32} {a3 : Int32} {a4 : Int32} {a5 : Int32} {a6 : Int32} {σ : jM} {r : Unit × jM}  (h : f_X2_take a1 a2 a3 a4 a5 a6 σ = some r) : J mi_X2_take 1 0 0 (jqV r) 0 [(0, .ref 289), (1, .int a1), (2, .int a2), (3, .int a3), (4, .int a4), (5, .int a5), (6, .int a6)] [] (ms σ) := by
  unfold f_X2_take at h
  refine J_aload_n 0 dX2_take_0 rfl ?_
  refine J_iload_n 1 dX2_take_1 rfl ?_
  refine M_putI pf_X2_92_2 dX2_take_2 k_289 n_289 ⟨rfl, rfl⟩ ?_
  refine J_aload_n 0 dX2_take_5 rfl ?_
  refine J_iload_n 2 dX2_take_6 rfl ?_
  refine M_putI pf_X2_95_2 dX2_take_7 k_289 n_289 ⟨rfl, rfl⟩ ?_
  refine J_aload_n 0 dX2_take_10 rfl ?_
  refine J_iload_n 3 dX2_take_11 rfl ?_
  refine M_putI pf_X2_34_2 dX2_take_12 k_289 n_289 ⟨rfl, rfl⟩ ?_
  refine J_aload_n 0 dX2_take_15 rfl ?_
  refine J_iload 4 dX2_take_16 rfl ?_
  refine M_putI pf_X2_49_2 dX2_take_18 k_289 n_289 ⟨rfl, rfl⟩ ?_
  refine J_aload_n 0 dX2_take_21 rfl ?_
  refine J_iload 5 dX2_take_22 rfl ?_
  refine M_putI pf_X2_52_2 dX2_take_24 k_289 n_289 ⟨rfl, rfl⟩ ?_
  refine J_aload_n 0 dX2_take_27 rfl ?_
  refine J_iload 6 dX2_take_28 rfl ?_
  refine M_putI pf_X2_89_2 dX2_take_30 k_289 n_289 ⟨rfl, rfl⟩ ?_
  exact J_ret (v := none) rfl ⟨dX2_take_33, rfl⟩ (jqV_mk h)
theorem dX4_isThere_0 : decode cX4_isThere 0 = .ok (.iconst 0, 1) := by decide +kernel
theorem dX4_isThere_1 : decode cX4_isThere 1 = .ok (.istore_n 3, 1) := by decide +kernel
theorem dX4_isThere_2 : decode cX4_isThere 2 = .ok (.iload_n 3, 1) := by decide +kernel
theorem dX4_isThere_3 : decode cX4_isThere 3 = .ok (.aload_n 0, 1) := by decide +kernel
theorem dX4_isThere_4 : decode cX4_isThere 4 = .ok (.getfield 68, 3) := by decide +kernel
theorem dX4_isThere_7 : decode cX4_isThere 7 = .ok (.if_icmp .ge 22, 3) := by decide +kernel
theorem dX4_isThere_10 : decode cX4_isThere 10 = .ok (.aload_n 0, 1) := by decide +kernel
theorem dX4_isThere_11 : decode cX4_isThere 11 = .ok (.getfield 27, 3) := by decide +kernel
theorem dX4_isThere_14 : decode cX4_isThere 14 = .ok (.iload_n 3, 1) := by decide +kernel
theorem dX4_isThere_15 : decode cX4_isThere 15 = .ok (.laload, 1) := by decide +kernel
theorem dX4_isThere_16 : decode cX4_isThere 16 = .ok (.lload_n 1, 1) := by decide +kernel
theorem dX4_isThere_17 : decode cX4_isThere 17 = .ok (.lcmp, 1) := by decide +kernel
theorem dX4_isThere_18 : decode cX4_isThere 18 = .ok (.ifCond .ne 5, 3) := by decide +kernel
theorem dX4_isThere_21 : decode cX4_isThere 21 = .ok (.iconst 1, 1) := by decide +kernel
theorem dX4_isThere_22 : decode cX4_isThere 22 = .ok (.ireturn, 1) := by decide +kernel
theorem dX4_isThere_23 : decode cX4_isThere 23 = .ok (.iinc 3 1, 3) := by decide +kernel
theorem dX4_isThere_26 : decode cX4_isThere 26 = .ok (.goto (-24), 3) := by decide +kernel
theorem dX4_isThere_29 : decode cX4_isThere 29 = .ok (.iconst 0, 1) := by decide +kernel
theorem dX4_isThere_30 : decode cX4_isThere 30 = .ok (.ireturn, 1) := by decide +kernel
noncomputable def s_X4_isThere_2  (rec2 : Int64 → Int32 → jM → Option (Int32 × jM)) (l1 : Int64) (l3 : Int32) (σ : jM) : Option (Int32 × jM) :=
  (if (rI σ 264 8) ≤ l3 then some (0, σ) else gd (inb l3 192) ((if (lg_cmp (rL σ 287 (Int32.toNatClampNeg l3)) l1) = 0 then some (1, σ) else rec2 l1 (l3 + 1) σ)))
noncomputable def f_X4_isThere_2  (n : Nat) : Int64 → Int32 → jM → Option (Int32 × jM) := Nat.rec (motive := fun _ => Int64 → Int32 → jM → Option (Int32 × jM)) (fun _ _ _ => none) (fun _ q => s_X4_isThere_2  q) n
noncomputable def f_X4_isThere (a1 : Int64) (σ : jM) : Option (Int32 × jM) :=
  f_X4_isThere_2  Fu a1 0 σ
set_option maxRecDepth 20000 in
set_option maxHeartbeats 4000000 in
theorem t_X4_isThere_2  : ∀ (n : Nat) (l1 : Int64) (l3 : Int32) (σ : jM) (r : Int32 × jM), f_X4_isThere_2  n l1 l3 σ = some r → J mi_X4_isThere 1 0 0 (jqI r) 2 [(0, .ref 264), (1, .long l1), (3, .int l3)] [] (ms σ) := by
  intro n
  induction n with
  | zero =>
    intro l1 l3 σ r  h
    have h : (none : Option (Int32 × jM)) = some r := h
    cases h
  | succ n ih =>
    intro l1 l3 σ r  h
    have h : s_X4_isThere_2  (f_X4_isThere_2  n) l1 l3 σ = some r := h
    unfold s_X4_isThere_2 at h
    refine J_iload_n 2 dX4_isThere_2 rfl ?_
    refine J_aload_n 0 dX4_isThere_3 rfl ?_
    refine M_getI gf_X4_68_3 dX4_isThere_4 k_264 n_264 ?_
    refine J_icmp_ge (tgt := 29) dX4_isThere_7 (by decide) (fun c5 => ?_) (fun c5 => ?_)
    · have h := (if_pos c5).symm.trans h
      refine J_iconst (v := 0) dX4_isThere_29 (by decide) ?_
      exact J_ret (v := some (.int 0)) rfl ⟨dX4_isThere_30, Or.inr (Or.inl ⟨rfl, Or.inl rfl⟩)⟩ (jqI_mk h)
    · have h := (if_neg c5).symm.trans h
      refine J_aload_n 0 dX4_isThere_10 rfl ?_
      refine M_getR gf_X4_27_3 dX4_isThere_11 (g_264_6 _) k_264 n_264 ?_
      refine J_iload_n 2 dX4_isThere_14 rfl ?_
      obtain ⟨g6, h⟩ := gd_inv h
      refine M_lald dX4_isThere_15 a_287 n_287 g6 ?_
      refine J_lload_n 1 dX4_isThere_16 rfl ?_
      refine J_lcmp dX4_isThere_17 ?_
      refine J_if_ne (tgt := 23) dX4_isThere_18 (by decide) (fun c7 => ?_) (fun c7 => ?_)
      · have h := (if_neg c7).symm.trans h
        refine J_iinc (v := (l3 + 1)) (ls' := [(3, .int (l3 + 1)), (0, .ref 264), (1, .long l1)]) 2 dX4_isThere_23 rfl rfl (by decide) rfl ?_
        refine J_goto (tgt := 2) dX4_isThere_26 (by decide) ?_
        refine J_pick [1, 2, 0] rfl ?_
        exact ih _ _ _ _  h
      · have h := (if_pos c7).symm.trans h
        refine J_iconst (v := 1) dX4_isThere_21 (by decide) ?_
        exact J_ret (v := some (.int 1)) rfl ⟨dX4_isThere_22, Or.inr (Or.inl ⟨rfl, Or.inr rfl⟩)⟩ (jqI_mk h)
set_option maxRecDepth 20000 in
set_option maxHeartbeats 4000000 in
theorem t_X4_isThere {a1 : Int64} {σ : jM} {r : Int32 × jM}  (h : f_X4_isThere a1 σ = some r) : J mi_X4_isThere 1 0 0 (jqI r) 0 [(0, .ref 264), (1, .long a1)] [] (ms σ) := by
  unfold f_X4_isThere at h
  refine J_iconst (v := 0) dX4_isThere_0 (by decide) ?_
  refine J_istore_n (i := 3) (ls' := [(3, .int 0), (0, .ref 264), (1, .long a1)]) dX4_isThere_1 rfl (by decide) rfl ?_
  refine J_pick [1, 2, 0] rfl ?_
  exact t_X4_isThere_2  _ _ _ _ _  h
theorem dX4_signIn_0 : decode cX4_signIn 0 = .ok (.lload_n 0, 1) := by decide +kernel
theorem dX4_signIn_1 : decode cX4_signIn 1 = .ok (.iload_n 2, 1) := by decide +kernel
theorem dX4_signIn_2 : decode cX4_signIn 2 = .ok (.lushr, 1) := by decide +kernel
theorem dX4_signIn_3 : decode cX4_signIn 3 = .ok (.ldc2_w 152, 3) := by decide +kernel
theorem dX4_signIn_6 : decode cX4_signIn 6 = .ok (.land, 1) := by decide +kernel
theorem dX4_signIn_7 : decode cX4_signIn 7 = .ok (.l2i, 1) := by decide +kernel
theorem dX4_signIn_8 : decode cX4_signIn 8 = .ok (.iconst 1, 1) := by decide +kernel
theorem dX4_signIn_9 : decode cX4_signIn 9 = .ok (.isub, 1) := by decide +kernel
theorem dX4_signIn_10 : decode cX4_signIn 10 = .ok (.ireturn, 1) := by decide +kernel
noncomputable def f_X4_signIn (a0 : Int64) (a2 : Int32) (σ : jM) : Option (Int32 × jM) :=
  some (((Int64.toInt32 ((jlushr a0 a2) &&& 63)) - 1), σ)
set_option maxRecDepth 20000 in
set_option maxHeartbeats 4000000 in
theorem t_X4_signIn {a0 : Int64} {a2 : Int32} {σ : jM} {r : Int32 × jM}  (h : f_X4_signIn a0 a2 σ = some r) : J mi_X4_signIn 1 0 0 (jqI r) 0 [(0, .long a0), (2, .int a2)] [] (ms σ) := by
  unfold f_X4_signIn at h
  refine J_lload_n 0 dX4_signIn_0 rfl ?_
  refine J_iload_n 1 dX4_signIn_1 rfl ?_
  refine J_lushr dX4_signIn_2 ?_
  refine J_ldc2 dX4_signIn_3 ct_X4_152 ?_
  refine J_land dX4_signIn_6 ?_
  refine J_l2i dX4_signIn_7 ?_
  refine J_iconst (v := 1) dX4_signIn_8 (by decide) ?_
  refine J_isub dX4_signIn_9 ?_
  exact J_ret (v := some (.int ((Int64.toInt32 ((jlushr a0 a2) &&& 63)) - 1))) rfl ⟨dX4_signIn_10, Or.inl rfl⟩ (jqI_mk h)
