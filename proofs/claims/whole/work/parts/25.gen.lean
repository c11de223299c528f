theorem dX11_isNumber_0 : decode cX11_isNumber 0 = .ok (.aload_n 0, 1) := by decide +kernel
theorem dX11_isNumber_1 : decode cX11_isNumber 1 = .ok (.getfield 29, 3) := by decide +kernel
theorem dX11_isNumber_4 : decode cX11_isNumber 4 = .ok (.iconst 2, 1) := by decide +kernel
theorem dX11_isNumber_5 : decode cX11_isNumber 5 = .ok (.if_icmp .eq 9, 3) := by decide +kernel
theorem dX11_isNumber_8 : decode cX11_isNumber 8 = .ok (.aload_n 0, 1) := by decide +kernel
theorem dX11_isNumber_9 : decode cX11_isNumber 9 = .ok (.iconst 1, 1) := by decide +kernel
theorem dX11_isNumber_10 : decode cX11_isNumber 10 = .ok (.invokevirtual 41, 3) := by decide +kernel
theorem dX11_isNumber_13 : decode cX11_isNumber 13 = .ok (.ireturn, 1) := by decide +kernel
theorem dX11_isNumber_14 : decode cX11_isNumber 14 = .ok (.aload_n 0, 1) := by decide +kernel
theorem dX11_isNumber_15 : decode cX11_isNumber 15 = .ok (.getfield 57, 3) := by decide +kernel
theorem dX11_isNumber_18 : decode cX11_isNumber 18 = .ok (.iload_n 1, 1) := by decide +kernel
theorem dX11_isNumber_19 : decode cX11_isNumber 19 = .ok (.if_icmp .lt 11, 3) := by decide +kernel
theorem dX11_isNumber_22 : decode cX11_isNumber 22 = .ok (.aload_n 0, 1) := by decide +kernel
theorem dX11_isNumber_23 : decode cX11_isNumber 23 = .ok (.getfield 57, 3) := by decide +kernel
theorem dX11_isNumber_26 : decode cX11_isNumber 26 = .ok (.iload_n 2, 1) := by decide +kernel
theorem dX11_isNumber_27 : decode cX11_isNumber 27 = .ok (.if_icmp .le 11, 3) := by decide +kernel
theorem dX11_isNumber_30 : decode cX11_isNumber 30 = .ok (.aload_n 0, 1) := by decide +kernel
theorem dX11_isNumber_31 : decode cX11_isNumber 31 = .ok (.iconst 2, 1) := by decide +kernel
theorem dX11_isNumber_32 : decode cX11_isNumber 32 = .ok (.invokevirtual 41, 3) := by decide +kernel
theorem dX11_isNumber_35 : decode cX11_isNumber 35 = .ok (.ifCond .eq 7, 3) := by decide +kernel
theorem dX11_isNumber_38 : decode cX11_isNumber 38 = .ok (.iconst 1, 1) := by decide +kernel
theorem dX11_isNumber_39 : decode cX11_isNumber 39 = .ok (.goto 4, 3) := by decide +kernel
theorem dX11_isNumber_42 : decode cX11_isNumber 42 = .ok (.iconst 0, 1) := by decide +kernel
theorem dX11_isNumber_43 : decode cX11_isNumber 43 = .ok (.ireturn, 1) := by decide +kernel
noncomputable def f_X11_isNumber_43  (s0 : Int32) (σ : jM) : Option (Int32 × jM) :=
  gd (s0 = 0 ∨ s0 = 1) (some (s0, σ))
noncomputable def f_X11_isNumber_38   (σ : jM) : Option (Int32 × jM) :=
  f_X11_isNumber_43  1 σ
noncomputable def f_X11_isNumber_30   (σ : jM) : Option (Int32 × jM) :=
  bd (f_X11_fault 2 σ) (fun r3 σ4 => (if r3 = 0 then f_X11_isNumber_43  0 σ4 else f_X11_isNumber_38   σ4))
noncomputable def f_X11_isNumber (a1 : Int32) (a2 : Int32) (σ : jM) : Option (Int32 × jM) :=
  (if (rI σ 262 4) = 2 then (if (rI σ 262 7) < a1 then f_X11_isNumber_30   σ else (if (rI σ 262 7) ≤ a2 then f_X11_isNumber_38   σ else f_X11_isNumber_30   σ)) else bd (f_X11_fault 1 σ) (fun r14 σ15 => gd (r14 = 0 ∨ r14 = 1) (some (r14, σ15))))
set_option maxRecDepth 20000 in
set_option maxHeartbeats 4000000 in
theorem t_X11_isNumber_43  (s0 : Int32) (σ : jM) (r : Int32 × jM)  (h : f_X11_isNumber_43  s0 σ = some r) : J mi_X11_isNumber 2 0 0 (jqI r) 43 [] [.int s0] (ms σ) := by
  unfold f_X11_isNumber_43 at h
  obtain ⟨g2, h⟩ := gd_inv h
  exact J_ret (v := some (.int s0)) rfl ⟨dX11_isNumber_43, Or.inr (Or.inl ⟨rfl, g2⟩)⟩ (jqI_mk h)
set_option maxRecDepth 20000 in
set_option maxHeartbeats 4000000 in
theorem t_X11_isNumber_38   (σ : jM) (r : Int32 × jM)  (h : f_X11_isNumber_38   σ = some r) : J mi_X11_isNumber 2 0 0 (jqI r) 38 [] [] (ms σ) := by
  unfold f_X11_isNumber_38 at h
  refine J_iconst (v := 1) dX11_isNumber_38 (by decide) ?_
  refine J_goto (tgt := 43) dX11_isNumber_39 (by decide) ?_
  exact t_X11_isNumber_43  _ _ _  h
set_option maxRecDepth 20000 in
set_option maxHeartbeats 4000000 in
theorem t_X11_isNumber_30   (σ : jM) (r : Int32 × jM)  (h : f_X11_isNumber_30   σ = some r) : J mi_X11_isNumber 2 0 0 (jqI r) 30 [(0, .ref 262)] [] (ms σ) := by
  unfold f_X11_isNumber_30 at h
  refine J_aload_n 0 dX11_isNumber_30 rfl ?_
  refine J_iconst (v := 2) dX11_isNumber_31 (by decide) ?_
  obtain ⟨r7, σ8, h9, h⟩ := bd_inv h
  refine M_callVI (d' := 1) (k := 262) (As := [.int 2]) (st := []) cv_X11_41 dX11_isNumber_32 rfl (by decide) rfl (Nat.le_of_ble_eq_true rfl) (Nat.le_of_ble_eq_true rfl) (by decide) n_262 k_262 rfl rfl (t_X11_fault  h9) ?_
  refine J_if_eq (tgt := 42) dX11_isNumber_35 (by decide) (fun c10 => ?_) (fun c10 => ?_)
  · have h := (if_pos c10).symm.trans h
    refine J_iconst (v := 0) dX11_isNumber_42 (by decide) ?_
    refine J_pick [] rfl ?_
    exact t_X11_isNumber_43  _ _ _  h
  · have h := (if_neg c10).symm.trans h
    refine J_pick [] rfl ?_
    exact t_X11_isNumber_38   _ _  h
set_option maxRecDepth 20000 in
set_option maxHeartbeats 4000000 in
theorem t_X11_isNumber {a1 : Int32} {a2 : Int32} {σ : jM} {r : Int32 × jM}  (h : f_X11_isNumber a1 a2 σ = some r) : J mi_X11_isNumber 2 0 0 (jqI r) 0 [(0, .ref 262), (1, .int a1), (2, .int a2)] [] (ms σ) := by
  unfold f_X11_isNumber at h
  refine J_aload_n 0 dX11_isNumber_0 rfl ?_
  refine M_getI gf_X11_29_10 dX11_isNumber_1 k_262 n_262 ?_
  refine J_iconst (v := 2) dX11_isNumber_4 (by decide) ?_
  refine J_icmp_eq (tgt := 14) dX11_isNumber_5 (by decide) (fun c11 => ?_) (fun c11 => ?_)
  · have h := (if_pos c11).symm.trans h
    refine J_aload_n 0 dX11_isNumber_14 rfl ?_
    refine M_getI gf_X11_57_10 dX11_isNumber_15 k_262 n_262 ?_
    refine J_iload_n 1 dX11_isNumber_18 rfl ?_
    refine J_icmp_lt (tgt := 30) dX11_isNumber_19 (by decide) (fun c12 => ?_) (fun c12 => ?_)
    · have h := (if_pos c12).symm.trans h
      refine J_pick [0] rfl ?_
      exact t_X11_isNumber_30   _ _  h
    · have h := (if_neg c12).symm.trans h
      refine J_aload_n 0 dX11_isNumber_22 rfl ?_
      refine M_getI gf_X11_57_10 dX11_isNumber_23 k_262 n_262 ?_
      refine J_iload_n 2 dX11_isNumber_26 rfl ?_
      refine J_icmp_le (tgt := 38) dX11_isNumber_27 (by decide) (fun c13 => ?_) (fun c13 => ?_)
      · have h := (if_pos c13).symm.trans h
        refine J_pick [] rfl ?_
        exact t_X11_isNumber_38   _ _  h
      · have h := (if_neg c13).symm.trans h
        refine J_pick [0] rfl ?_
        exact t_X11_isNumber_30   _ _  h
  · have h := (if_neg c11).symm.trans h
    refine J_aload_n 0 dX11_isNumber_8 rfl ?_
    refine J_iconst (v := 1) dX11_isNumber_9 (by decide) ?_
    obtain ⟨r14, σ15, h16, h⟩ := bd_inv h
    refine M_callVI (d' := 1) (k := 262) (As := [.int 1]) (st := []) cv_X11_41 dX11_isNumber_10 rfl (by decide) rfl (Nat.le_of_ble_eq_true rfl) (Nat.le_of_ble_eq_true rfl) (by decide) n_262 k_262 rfl rfl (t_X11_fault  h16) ?_
    obtain ⟨g17, h⟩ := gd_inv h
    exact J_ret (v := some (.int r14)) rfl ⟨dX11_isNumber_13, Or.inr (Or.inl ⟨rfl, g17⟩)⟩ (jqI_mk h)
theorem dX11_beginsPlace_0 : decode cX11_beginsPlace 0 = .ok (.aload_n 0, 1) := by decide +kernel
theorem dX11_beginsPlace_1 : decode cX11_beginsPlace 1 = .ok (.getfield 29, 3) := by decide +kernel
theorem dX11_beginsPlace_4 : decode cX11_beginsPlace 4 = .ok (.iconst 2, 1) := by decide +kernel
theorem dX11_beginsPlace_5 : decode cX11_beginsPlace 5 = .ok (.if_icmp .eq 12, 3) := by decide +kernel
theorem dX11_beginsPlace_8 : decode cX11_beginsPlace 8 = .ok (.aload_n 0, 1) := by decide +kernel
theorem dX11_beginsPlace_9 : decode cX11_beginsPlace 9 = .ok (.bipush 63, 2) := by decide +kernel
theorem dX11_beginsPlace_11 : decode cX11_beginsPlace 11 = .ok (.invokevirtual 48, 3) := by decide +kernel
theorem dX11_beginsPlace_14 : decode cX11_beginsPlace 14 = .ok (.ifCond .eq 7, 3) := by decide +kernel
theorem dX11_beginsPlace_17 : decode cX11_beginsPlace 17 = .ok (.iconst 1, 1) := by decide +kernel
theorem dX11_beginsPlace_18 : decode cX11_beginsPlace 18 = .ok (.goto 4, 3) := by decide +kernel
theorem dX11_beginsPlace_21 : decode cX11_beginsPlace 21 = .ok (.iconst 0, 1) := by decide +kernel
theorem dX11_beginsPlace_22 : decode cX11_beginsPlace 22 = .ok (.ireturn, 1) := by decide +kernel
noncomputable def f_X11_beginsPlace_22  (s0 : Int32) (σ : jM) : Option (Int32 × jM) :=
  gd (s0 = 0 ∨ s0 = 1) (some (s0, σ))
noncomputable def f_X11_beginsPlace_17   (σ : jM) : Option (Int32 × jM) :=
  f_X11_beginsPlace_22  1 σ
noncomputable def f_X11_beginsPlace  (σ : jM) : Option (Int32 × jM) :=
  (if (rI σ 262 4) = 2 then f_X11_beginsPlace_17   σ else bd (f_X11_isByte 63 σ) (fun r4 σ5 => (if r4 = 0 then f_X11_beginsPlace_22  0 σ5 else f_X11_beginsPlace_17   σ5)))
set_option maxRecDepth 20000 in
set_option maxHeartbeats 4000000 in
theorem t_X11_beginsPlace_22  (s0 : Int32) (σ : jM) (r : Int32 × jM)  (h : f_X11_beginsPlace_22  s0 σ = some r) : J mi_X11_beginsPlace 2 0 0 (jqI r) 22 [] [.int s0] (ms σ) := by
  unfold f_X11_beginsPlace_22 at h
  obtain ⟨g2, h⟩ := gd_inv h
  exact J_ret (v := some (.int s0)) rfl ⟨dX11_beginsPlace_22, Or.inr (Or.inl ⟨rfl, g2⟩)⟩ (jqI_mk h)
set_option maxRecDepth 20000 in
set_option maxHeartbeats 4000000 in
theorem t_X11_beginsPlace_17   (σ : jM) (r : Int32 × jM)  (h : f_X11_beginsPlace_17   σ = some r) : J mi_X11_beginsPlace 2 0 0 (jqI r) 17 [] [] (ms σ) := by
  unfold f_X11_beginsPlace_17 at h
  refine J_iconst (v := 1) dX11_beginsPlace_17 (by decide) ?_
  refine J_goto (tgt := 22) dX11_beginsPlace_18 (by decide) ?_
  exact t_X11_beginsPlace_22  _ _ _  h
set_option maxRecDepth 20000 in
set_option maxHeartbeats 4000000 in
theorem t_X11_beginsPlace  {σ : jM} {r : Int32 × jM}  (h : f_X11_beginsPlace  σ = some r) : J mi_X11_beginsPlace 2 0 0 (jqI r) 0 [(0, .ref 262)] [] (ms σ) := by
  unfold f_X11_beginsPlace at h
  refine J_aload_n 0 dX11_beginsPlace_0 rfl ?_
  refine M_getI gf_X11_29_10 dX11_beginsPlace_1 k_262 n_262 ?_
  refine J_iconst (v := 2) dX11_beginsPlace_4 (by decide) ?_
  refine J_icmp_eq (tgt := 17) dX11_beginsPlace_5 (by decide) (fun c3 => ?_) (fun c3 => ?_)
  · have h := (if_pos c3).symm.trans h
    refine J_pick [] rfl ?_
    exact t_X11_beginsPlace_17   _ _  h
  · have h := (if_neg c3).symm.trans h
    refine J_aload_n 0 dX11_beginsPlace_8 rfl ?_
    refine J_bipush (v := 63) dX11_beginsPlace_9 (by decide) ?_
    obtain ⟨r4, σ5, h6, h⟩ := bd_inv h
    refine M_callVI (d' := 1) (k := 262) (As := [.int 63]) (st := []) cv_X11_48 dX11_beginsPlace_11 rfl (by decide) rfl (Nat.le_of_ble_eq_true rfl) (Nat.le_of_ble_eq_true rfl) (by decide) n_262 k_262 rfl rfl (t_X11_isByte  h6) ?_
    refine J_if_eq (tgt := 21) dX11_beginsPlace_14 (by decide) (fun c7 => ?_) (fun c7 => ?_)
    · have h := (if_pos c7).symm.trans h
      refine J_iconst (v := 0) dX11_beginsPlace_21 (by decide) ?_
      refine J_pick [] rfl ?_
      exact t_X11_beginsPlace_22  _ _ _  h
    · have h := (if_neg c7).symm.trans h
      refine J_pick [] rfl ?_
      exact t_X11_beginsPlace_17   _ _  h
theorem dX11_takeWord_0 : decode cX11_takeWord 0 = .ok (.aload_n 0, 1) := by decide +kernel
theorem dX11_takeWord_1 : decode cX11_takeWord 1 = .ok (.iconst 1, 1) := by decide +kernel
theorem dX11_takeWord_2 : decode cX11_takeWord 2 = .ok (.putfield 29, 3) := by decide +kernel
theorem dX11_takeWord_5 : decode cX11_takeWord 5 = .ok (.aload_n 0, 1) := by decide +kernel
theorem dX11_takeWord_6 : decode cX11_takeWord 6 = .ok (.getfield 148, 3) := by decide +kernel
theorem dX11_takeWord_9 : decode cX11_takeWord 9 = .ok (.aload_n 0, 1) := by decide +kernel
theorem dX11_takeWord_10 : decode cX11_takeWord 10 = .ok (.getfield 19, 3) := by decide +kernel
theorem dX11_takeWord_13 : decode cX11_takeWord 13 = .ok (.if_icmp .ge 27, 3) := by decide +kernel
theorem dX11_takeWord_16 : decode cX11_takeWord 16 = .ok (.aload_n 0, 1) := by decide +kernel
theorem dX11_takeWord_17 : decode cX11_takeWord 17 = .ok (.aload_n 0, 1) := by decide +kernel
theorem dX11_takeWord_18 : decode cX11_takeWord 18 = .ok (.getfield 148, 3) := by decide +kernel
theorem dX11_takeWord_21 : decode cX11_takeWord 21 = .ok (.invokevirtual 22, 3) := by decide +kernel
theorem dX11_takeWord_24 : decode cX11_takeWord 24 = .ok (.ifCond .eq 16, 3) := by decide +kernel
theorem dX11_takeWord_27 : decode cX11_takeWord 27 = .ok (.aload_n 0, 1) := by decide +kernel
theorem dX11_takeWord_28 : decode cX11_takeWord 28 = .ok (.dup, 1) := by decide +kernel
theorem dX11_takeWord_29 : decode cX11_takeWord 29 = .ok (.getfield 148, 3) := by decide +kernel
theorem dX11_takeWord_32 : decode cX11_takeWord 32 = .ok (.iconst 1, 1) := by decide +kernel
theorem dX11_takeWord_33 : decode cX11_takeWord 33 = .ok (.iadd, 1) := by decide +kernel
theorem dX11_takeWord_34 : decode cX11_takeWord 34 = .ok (.putfield 148, 3) := by decide +kernel
theorem dX11_takeWord_37 : decode cX11_takeWord 37 = .ok (.goto (-32), 3) := by decide +kernel
theorem dX11_takeWord_40 : decode cX11_takeWord 40 = .ok (.return_, 1) := by decide +kernel
noncomputable def f_X11_takeWord_40   (σ : jM) : Option (Unit × jM) :=
  some ((), σ)
noncomputable def s_X11_takeWord_5  (rec5 : jM → Option (Unit × jM))  (σ : jM) : Option (Unit × jM) :=
  (if (rI σ 262 1) ≤ (rI σ 262 6) then f_X11_takeWord_40   σ else bd (f_X11_isLetterAt (rI σ 262 6) σ) (fun r2 σ3 => (if r2 = 0 then f_X11_takeWord_40   σ3 else rec5  (wI σ3 262 6 ((rI σ3 262 6) + 1)))))
noncomputable def f_X11_takeWord_5  (n : Nat) : jM → Option (Unit × jM) := Nat.rec (motive := fun _ => jM → Option (Unit × jM)) (fun  _ => none) (fun _ q => s_X11_takeWord_5  q) n
noncomputable def f_X11_takeWord  (σ : jM) : Option (Unit × jM) :=
  f_X11_takeWord_5  Fu  (wI σ 262 4 1)
set_option maxRecDepth 20000 in
set_option maxHeartbeats 4000000 in
theorem t_X11_takeWord_40   (σ : jM) (r : Unit × jM)  (h : f_X11_takeWord_40   σ = some r) : J mi_X11_takeWord 2 0 0 (jqV r) 40 [] [] (ms σ) := by
  unfold f_X11_takeWord_40 at h
  exact J_ret (v := none) rfl ⟨dX11_takeWord_40, rfl⟩ (jqV_mk h)
set_option maxRecDepth 20000 in
set_option maxHeartbeats 4000000 in
theorem t_X11_takeWord_5  : ∀ (n : Nat)  (σ : jM) (r : Unit × jM), f_X11_takeWord_5  n  σ = some r → J mi_X11_takeWord 2 0 0 (jqV r) 5 [(0, .ref 262)] [] (ms σ) := by
  intro n
  induction n with
  | zero =>
    intro  σ r  h
    have h : (none : Option (Unit × jM)) = some r := h
    cases h
  | succ n ih =>
    intro  σ r  h
    have h : s_X11_takeWord_5  (f_X11_takeWord_5  n)  σ = some r := h
    unfold s_X11_takeWord_5 at h
    refine J_aload_n 0 dX11_takeWord_5 rfl ?_
    refine M_getI gf_X11_148_10 dX11_takeWord_6 k_262 n_262 ?_
    refine J_aload_n 0 dX11_takeWord_9 rfl ?_
    refine M_getI gf_X11_19_10 dX11_takeWord_10 k_262 n_262 ?_
    refine J_icmp_ge (tgt := 40) dX11_takeWord_13 (by decide) (fun c6 => ?_) (fun c6 => ?_)
    · have h := (if_pos c6).symm.trans h
      refine J_pick [] rfl ?_
      exact t_X11_takeWord_40   _ _  h
    · have h := (if_neg c6).symm.trans h
      refine J_aload_n 0 dX11_takeWord_16 rfl ?_
      refine J_aload_n 0 dX11_takeWord_17 rfl ?_
      refine M_getI gf_X11_148_10 dX11_takeWord_18 k_262 n_262 ?_
      obtain ⟨r7, σ8, h9, h⟩ := bd_inv h
      refine M_callVI (d' := 1) (k := 262) (As := [.int (rI σ 262 6)]) (st := []) cv_X11_22 dX11_takeWord_21 rfl (by decide) rfl (Nat.le_of_ble_eq_true rfl) (Nat.le_of_ble_eq_true rfl) (by decide) n_262 k_262 rfl rfl (t_X11_isLetterAt  h9) ?_
      refine J_if_eq (tgt := 40) dX11_takeWord_24 (by decide) (fun c10 => ?_) (fun c10 => ?_)
      · have h := (if_pos c10).symm.trans h
        refine J_pick [] rfl ?_
        exact t_X11_takeWord_40   _ _  h
      · have h := (if_neg c10).symm.trans h
        refine J_aload_n 0 dX11_takeWord_27 rfl ?_
        refine J_dup dX11_takeWord_28 rfl ?_
        refine M_getI gf_X11_148_10 dX11_takeWord_29 k_262 n_262 ?_
        refine J_iconst (v := 1) dX11_takeWord_32 (by decide) ?_
        refine J_iadd dX11_takeWord_33 ?_
        refine M_putI pf_X11_148_10 dX11_takeWord_34 k_262 n_262 ⟨rfl, rfl⟩ ?_
        refine J_goto (tgt := 5) dX11_takeWord_37 (by decide) ?_
        exact ih  _ _  h
set_option maxRecDepth 20000 in
set_option maxHeartbeats 4000000 in
theorem t_X11_takeWord  {σ : jM} {r : Unit × jM}  (h : f_X11_takeWord  σ = some r) : J mi_X11_takeWord 2 0 0 (jqV r) 0 [(0, .ref 262)] [] (ms σ) := by
  unfold f_X11_takeWord at h
  refine J_aload_n 0 dX11_takeWord_0 rfl ?_
  refine J_iconst (v := 1) dX11_takeWord_1 (by decide) ?_
  refine M_putI pf_X11_29_10 dX11_takeWord_2 k_262 n_262 ⟨rfl, rfl⟩ ?_
  exact t_X11_takeWord_5  _  _ _  h
theorem dX11_takeNumber_0 : decode cX11_takeNumber 0 = .ok (.aload_n 0, 1) := by decide +kernel
theorem dX11_takeNumber_1 : decode cX11_takeNumber 1 = .ok (.iconst 0, 1) := by decide +kernel
theorem dX11_takeNumber_2 : decode cX11_takeNumber 2 = .ok (.putfield 57, 3) := by decide +kernel
theorem dX11_takeNumber_5 : decode cX11_takeNumber 5 = .ok (.aload_n 0, 1) := by decide +kernel
theorem dX11_takeNumber_6 : decode cX11_takeNumber 6 = .ok (.getfield 148, 3) := by decide +kernel
theorem dX11_takeNumber_9 : decode cX11_takeNumber 9 = .ok (.aload_n 0, 1) := by decide +kernel
theorem dX11_takeNumber_10 : decode cX11_takeNumber 10 = .ok (.getfield 19, 3) := by decide +kernel
theorem dX11_takeNumber_13 : decode cX11_takeNumber 13 = .ok (.if_icmp .ge 51, 3) := by decide +kernel
theorem dX11_takeNumber_16 : decode cX11_takeNumber 16 = .ok (.aload_n 0, 1) := by decide +kernel
theorem dX11_takeNumber_17 : decode cX11_takeNumber 17 = .ok (.aload_n 0, 1) := by decide +kernel
theorem dX11_takeNumber_18 : decode cX11_takeNumber 18 = .ok (.getfield 148, 3) := by decide +kernel
theorem dX11_takeNumber_21 : decode cX11_takeNumber 21 = .ok (.invokevirtual 165, 3) := by decide +kernel
theorem dX11_takeNumber_24 : decode cX11_takeNumber 24 = .ok (.ifCond .eq 40, 3) := by decide +kernel
theorem dX11_takeNumber_27 : decode cX11_takeNumber 27 = .ok (.aload_n 0, 1) := by decide +kernel
theorem dX11_takeNumber_28 : decode cX11_takeNumber 28 = .ok (.aload_n 0, 1) := by decide +kernel
theorem dX11_takeNumber_29 : decode cX11_takeNumber 29 = .ok (.getfield 57, 3) := by decide +kernel
theorem dX11_takeNumber_32 : decode cX11_takeNumber 32 = .ok (.bipush 10, 2) := by decide +kernel
theorem dX11_takeNumber_34 : decode cX11_takeNumber 34 = .ok (.imul, 1) := by decide +kernel
theorem dX11_takeNumber_35 : decode cX11_takeNumber 35 = .ok (.aload_n 0, 1) := by decide +kernel
theorem dX11_takeNumber_36 : decode cX11_takeNumber 36 = .ok (.getfield 9, 3) := by decide +kernel
theorem dX11_takeNumber_39 : decode cX11_takeNumber 39 = .ok (.aload_n 0, 1) := by decide +kernel
theorem dX11_takeNumber_40 : decode cX11_takeNumber 40 = .ok (.getfield 148, 3) := by decide +kernel
theorem dX11_takeNumber_43 : decode cX11_takeNumber 43 = .ok (.iaload, 1) := by decide +kernel
theorem dX11_takeNumber_44 : decode cX11_takeNumber 44 = .ok (.iadd, 1) := by decide +kernel
theorem dX11_takeNumber_45 : decode cX11_takeNumber 45 = .ok (.bipush 48, 2) := by decide +kernel
theorem dX11_takeNumber_47 : decode cX11_takeNumber 47 = .ok (.isub, 1) := by decide +kernel
theorem dX11_takeNumber_48 : decode cX11_takeNumber 48 = .ok (.putfield 57, 3) := by decide +kernel
theorem dX11_takeNumber_51 : decode cX11_takeNumber 51 = .ok (.aload_n 0, 1) := by decide +kernel
theorem dX11_takeNumber_52 : decode cX11_takeNumber 52 = .ok (.dup, 1) := by decide +kernel
theorem dX11_takeNumber_53 : decode cX11_takeNumber 53 = .ok (.getfield 148, 3) := by decide +kernel
theorem dX11_takeNumber_56 : decode cX11_takeNumber 56 = .ok (.iconst 1, 1) := by decide +kernel
theorem dX11_takeNumber_57 : decode cX11_takeNumber 57 = .ok (.iadd, 1) := by decide +kernel
theorem dX11_takeNumber_58 : decode cX11_takeNumber 58 = .ok (.putfield 148, 3) := by decide +kernel
theorem dX11_takeNumber_61 : decode cX11_takeNumber 61 = .ok (.goto (-56), 3) := by decide +kernel
theorem dX11_takeNumber_64 : decode cX11_takeNumber 64 = .ok (.aload_n 0, 1) := by decide +kernel
theorem dX11_takeNumber_65 : decode cX11_takeNumber 65 = .ok (.iconst 2, 1) := by decide +kernel
theorem dX11_takeNumber_66 : decode cX11_takeNumber 66 = .ok (.putfield 29, 3) := by decide +kernel
theorem dX11_takeNumber_69 : decode cX11_takeNumber 69 = .ok (.aload_n 0, 1) := by decide +kernel
theorem dX11_takeNumber_70 : decode cX11_takeNumber 70 = .ok (.getfield 148, 3) := by decide +kernel
theorem dX11_takeNumber_73 : decode cX11_takeNumber 73 = .ok (.aload_n 0, 1) := by decide +kernel
theorem dX11_takeNumber_74 : decode cX11_takeNumber 74 = .ok (.getfield 137, 3) := by decide +kernel
theorem dX11_takeNumber_77 : decode cX11_takeNumber 77 = .ok (.isub, 1) := by decide +kernel
theorem dX11_takeNumber_78 : decode cX11_takeNumber 78 = .ok (.iconst 2, 1) := by decide +kernel
theorem dX11_takeNumber_79 : decode cX11_takeNumber 79 = .ok (.if_icmp .le 13, 3) := by decide +kernel
theorem dX11_takeNumber_82 : decode cX11_takeNumber 82 = .ok (.aload_n 0, 1) := by decide +kernel
theorem dX11_takeNumber_83 : decode cX11_takeNumber 83 = .ok (.iconst 3, 1) := by decide +kernel
theorem dX11_takeNumber_84 : decode cX11_takeNumber 84 = .ok (.putfield 29, 3) := by decide +kernel
theorem dX11_takeNumber_87 : decode cX11_takeNumber 87 = .ok (.aload_n 0, 1) := by decide +kernel
theorem dX11_takeNumber_88 : decode cX11_takeNumber 88 = .ok (.iconst (-1), 1) := by decide +kernel
theorem dX11_takeNumber_89 : decode cX11_takeNumber 89 = .ok (.putfield 57, 3) := by decide +kernel
theorem dX11_takeNumber_92 : decode cX11_takeNumber 92 = .ok (.return_, 1) := by decide +kernel
noncomputable def f_X11_takeNumber_92   (σ : jM) : Option (Unit × jM) :=
  some ((), σ)
noncomputable def f_X11_takeNumber_64   (σ : jM) : Option (Unit × jM) :=
  (if ((rI (wI σ 262 4 2) 262 6) - (rI (wI σ 262 4 2) 262 5)) ≤ 2 then f_X11_takeNumber_92   (wI σ 262 4 2) else f_X11_takeNumber_92   (wI (wI (wI σ 262 4 2) 262 4 3) 262 7 (-1)))
noncomputable def s_X11_takeNumber_5  (rec5 : jM → Option (Unit × jM))  (σ : jM) : Option (Unit × jM) :=
  (if (rI σ 262 1) ≤ (rI σ 262 6) then f_X11_takeNumber_64   σ else bd (f_X11_isFigureAt (rI σ 262 6) σ) (fun r5 σ6 => (if r5 = 0 then f_X11_takeNumber_64   σ6 else gd (inb (rI σ6 262 6) 300) (rec5  (wI (wI σ6 262 7 ((((rI σ6 262 7) * 10) + (rI σ6 263 (Int32.toNatClampNeg (rI σ6 262 6)))) - 48)) 262 6 ((rI (wI σ6 262 7 ((((rI σ6 262 7) * 10) + (rI σ6 263 (Int32.toNatClampNeg (rI σ6 262 6)))) - 48)) 262 6) + 1))))))
noncomputable def f_X11_takeNumber_5  (n : Nat) : jM → Option (Unit × jM) := Nat.rec (motive := fun _ => jM → Option (Unit × jM)) (fun  _ => none) (fun _ q => s_X11_takeNumber_5  q) n
noncomputable def f_X11_takeNumber  (σ : jM) : Option (Unit × jM) :=
  f_X11_takeNumber_5  Fu  (wI σ 262 7 0)
set_option maxRecDepth 20000 in
set_option maxHeartbeats 4000000 in
theorem t_X11_takeNumber_92   (σ : jM) (r : Unit × jM)  (h : f_X11_takeNumber_92   σ = some r) : J mi_X11_takeNumber 2 0 0 (jqV r) 92 [] [] (ms σ) := by
  unfold f_X11_takeNumber_92 at h
  exact J_ret (v := none) rfl ⟨dX11_takeNumber_92, rfl⟩ (jqV_mk h)
set_option maxRecDepth 20000 in
set_option maxHeartbeats 4000000 in
theorem t_X11_takeNumber_64   (σ : jM) (r : Unit × jM)  (h : f_X11_takeNumber_64   σ = some r) : J mi_X11_takeNumber 2 0 0 (jqV r) 64 [(0, .ref 262)] [] (ms σ) := by
  unfold f_X11_takeNumber_64 at h
  refine J_aload_n 0 dX11_takeNumber_64 rfl ?_
  refine J_iconst (v := 2) dX11_takeNumber_65 (by decide) ?_
  refine M_putI pf_X11_29_10 dX11_takeNumber_66 k_262 n_262 ⟨rfl, rfl⟩ ?_
  refine J_aload_n 0 dX11_takeNumber_69 rfl ?_
  refine M_getI gf_X11_148_10 dX11_takeNumber_70 k_262 n_262 ?_
  refine J_aload_n 0 dX11_takeNumber_73 rfl ?_
  refine M_getI gf_X11_137_10 dX11_takeNumber_74 k_262 n_262 ?_
  refine J_isub dX11_takeNumber_77 ?_
  refine J_iconst (v := 2) dX11_takeNumber_78 (by decide) ?_
  refine J_icmp_le (tgt := 92) dX11_takeNumber_79 (by decide) (fun c3 => ?_) (fun c3 => ?_)
  · have h := (if_pos c3).symm.trans h
    refine J_pick [] rfl ?_
    exact t_X11_takeNumber_92   _ _  h
  · have h := (if_neg c3).symm.trans h
    refine J_aload_n 0 dX11_takeNumber_82 rfl ?_
    refine J_iconst (v := 3) dX11_takeNumber_83 (by decide) ?_
    refine M_putI pf_X11_29_10 dX11_takeNumber_84 k_262 n_262 ⟨rfl, rfl⟩ ?_
    refine J_aload_n 0 dX11_takeNumber_87 rfl ?_
    refine J_iconst (v := (-1)) dX11_takeNumber_88 (by decide) ?_
    refine M_putI pf_X11_57_10 dX11_takeNumber_89 k_262 n_262 ⟨rfl, rfl⟩ ?_
    refine J_pick [] rfl ?_
    exact t_X11_takeNumber_92   _ _  h
set_option maxRecDepth 20000 in
set_option maxHeartbeats 4000000 in
theorem t_X11_takeNumber_5  : ∀ (n : Nat)  (σ : jM) (r : Unit × jM), f_X11_takeNumber_5  n  σ = some r → J mi_X11_takeNumber 2 0 0 (jqV r) 5 [(0, .ref 262)] [] (ms σ) := by
  intro n
  induction n with
  | zero =>
    intro  σ r  h
    have h : (none : Option (Unit × jM)) = some r := h
    cases h
  | succ n ih =>
    intro  σ r  h
    have h : s_X11_takeNumber_5  (f_X11_takeNumber_5  n)  σ = some r := h
    unfold s_X11_takeNumber_5 at h
    refine J_aload_n 0 dX11_takeNumber_5 rfl ?_
    refine M_getI gf_X11_148_10 dX11_takeNumber_6 k_262 n_262 ?_
    refine J_aload_n 0 dX11_takeNumber_9 rfl ?_
    refine M_getI gf_X11_19_10 dX11_takeNumber_10 k_262 n_262 ?_
    refine J_icmp_ge (tgt := 64) dX11_takeNumber_13 (by decide) (fun c10 => ?_) (fun c10 => ?_)
    · have h := (if_pos c10).symm.trans h
      exact t_X11_takeNumber_64   _ _  h
    · have h := (if_neg c10).symm.trans h
      refine J_aload_n 0 dX11_takeNumber_16 rfl ?_
      refine J_aload_n 0 dX11_takeNumber_17 rfl ?_
      refine M_getI gf_X11_148_10 dX11_takeNumber_18 k_262 n_262 ?_
      obtain ⟨r11, σ12, h13, h⟩ := bd_inv h
      refine M_callVI (d' := 1) (k := 262) (As := [.int (rI σ 262 6)]) (st := []) cv_X11_165 dX11_takeNumber_21 rfl (by decide) rfl (Nat.le_of_ble_eq_true rfl) (Nat.le_of_ble_eq_true rfl) (by decide) n_262 k_262 rfl rfl (t_X11_isFigureAt  h13) ?_
      refine J_if_eq (tgt := 64) dX11_takeNumber_24 (by decide) (fun c14 => ?_) (fun c14 => ?_)
      · have h := (if_pos c14).symm.trans h
        exact t_X11_takeNumber_64   _ _  h
      · have h := (if_neg c14).symm.trans h
        refine J_aload_n 0 dX11_takeNumber_27 rfl ?_
        refine J_aload_n 0 dX11_takeNumber_28 rfl ?_
        refine M_getI gf_X11_57_10 dX11_takeNumber_29 k_262 n_262 ?_
        refine J_bipush (v := 10) dX11_takeNumber_32 (by decide) ?_
        refine J_imul dX11_takeNumber_34 ?_
        refine J_aload_n 0 dX11_takeNumber_35 rfl ?_
        refine M_getR gf_X11_9_10 dX11_takeNumber_36 (g_262_0 _) k_262 n_262 ?_
        refine J_aload_n 0 dX11_takeNumber_39 rfl ?_
        refine M_getI gf_X11_148_10 dX11_takeNumber_40 k_262 n_262 ?_
        obtain ⟨g15, h⟩ := gd_inv h
        refine M_iald dX11_takeNumber_43 a_263 n_263 g15 ?_
        refine J_iadd dX11_takeNumber_44 ?_
        refine J_bipush (v := 48) dX11_takeNumber_45 (by decide) ?_
        refine J_isub dX11_takeNumber_47 ?_
        refine M_putI pf_X11_57_10 dX11_takeNumber_48 k_262 n_262 ⟨rfl, rfl⟩ ?_
        refine J_aload_n 0 dX11_takeNumber_51 rfl ?_
        refine J_dup dX11_takeNumber_52 rfl ?_
        refine M_getI gf_X11_148_10 dX11_takeNumber_53 k_262 n_262 ?_
        refine J_iconst (v := 1) dX11_takeNumber_56 (by decide) ?_
        refine J_iadd dX11_takeNumber_57 ?_
        refine M_putI pf_X11_148_10 dX11_takeNumber_58 k_262 n_262 ⟨rfl, rfl⟩ ?_
        refine J_goto (tgt := 5) dX11_takeNumber_61 (by decide) ?_
        exact ih  _ _  h
set_option maxRecDepth 20000 in
set_option maxHeartbeats 4000000 in
theorem t_X11_takeNumber  {σ : jM} {r : Unit × jM}  (h : f_X11_takeNumber  σ = some r) : J mi_X11_takeNumber 2 0 0 (jqV r) 0 [(0, .ref 262)] [] (ms σ) := by
  unfold f_X11_takeNumber at h
  refine J_aload_n 0 dX11_takeNumber_0 rfl ?_
  refine J_iconst (v := 0) dX11_takeNumber_1 (by decide) ?_
  refine M_putI pf_X11_57_10 dX11_takeNumber_2 k_262 n_262 ⟨rfl, rfl⟩ ?_
  exact t_X11_takeNumber_5  _  _ _  h
theorem dX12_trust_0 : decode cX12_trust 0 = .ok (.iload_n 1, 1) := by decide +kernel
theorem dX12_trust_1 : decode cX12_trust 1 = .ok (.invokestatic 131, 3) := by decide +kernel
theorem dX12_trust_4 : decode cX12_trust 4 = .ok (.ifCond .eq 13, 3) := by decide +kernel
theorem dX12_trust_7 : decode cX12_trust 7 = .ok (.iload_n 2, 1) := by decide +kernel
theorem dX12_trust_8 : decode cX12_trust 8 = .ok (.ifCond .lt 9, 3) := by decide +kernel
theorem dX12_trust_11 : decode cX12_trust 11 = .ok (.iload_n 2, 1) := by decide +kernel
theorem dX12_trust_12 : decode cX12_trust 12 = .ok (.bipush 99, 2) := by decide +kernel
theorem dX12_trust_14 : decode cX12_trust 14 = .ok (.if_icmp .le 5, 3) := by decide +kernel
theorem dX12_trust_17 : decode cX12_trust 17 = .ok (.iconst 0, 1) := by decide +kernel
theorem dX12_trust_18 : decode cX12_trust 18 = .ok (.ireturn, 1) := by decide +kernel
theorem dX12_trust_19 : decode cX12_trust 19 = .ok (.aload_n 0, 1) := by decide +kernel
theorem dX12_trust_20 : decode cX12_trust 20 = .ok (.getfield 19, 3) := by decide +kernel
theorem dX12_trust_23 : decode cX12_trust 23 = .ok (.getfield 135, 3) := by decide +kernel
theorem dX12_trust_26 : decode cX12_trust 26 = .ok (.getfield 139, 3) := by decide +kernel
theorem dX12_trust_29 : decode cX12_trust 29 = .ok (.iload_n 1, 1) := by decide +kernel
theorem dX12_trust_30 : decode cX12_trust 30 = .ok (.iload_n 2, 1) := by decide +kernel
theorem dX12_trust_31 : decode cX12_trust 31 = .ok (.iastore, 1) := by decide +kernel
theorem dX12_trust_32 : decode cX12_trust 32 = .ok (.aload_n 0, 1) := by decide +kernel
theorem dX12_trust_33 : decode cX12_trust 33 = .ok (.invokevirtual 97, 3) := by decide +kernel
theorem dX12_trust_36 : decode cX12_trust 36 = .ok (.iconst 1, 1) := by decide +kernel
theorem dX12_trust_37 : decode cX12_trust 37 = .ok (.ireturn, 1) := by decide +kernel
noncomputable def f_X12_trust_17   (σ : jM) : Option (Int32 × jM) :=
  some (0, σ)
noncomputable def f_X12_trust (a1 : Int32) (a2 : Int32) (σ : jM) : Option (Int32 × jM) :=
  bd (f_X12_isHand a1 σ) (fun r2 σ3 => (if r2 = 0 then f_X12_trust_17   σ3 else (if a2 < 0 then f_X12_trust_17   σ3 else (if a2 ≤ 99 then gd (inb a1 4) (bd (f_X12_forgetView  (wI σ3 9 (Int32.toNatClampNeg a1) a2)) (fun _ σ10 => some (1, σ10))) else f_X12_trust_17   σ3))))
set_option maxRecDepth 20000 in
set_option maxHeartbeats 4000000 in
theorem t_X12_trust_17   (σ : jM) (r : Int32 × jM)  (h : f_X12_trust_17   σ = some r) : J mi_X12_trust 2 0 0 (jqI r) 17 [] [] (ms σ) := by
  unfold f_X12_trust_17 at h
  refine J_iconst (v := 0) dX12_trust_17 (by decide) ?_
  exact J_ret (v := some (.int 0)) rfl ⟨dX12_trust_18, Or.inr (Or.inl ⟨rfl, Or.inl rfl⟩)⟩ (jqI_mk h)
set_option maxRecDepth 20000 in
set_option maxHeartbeats 4000000 in
theorem t_X12_trust {a1 : Int32} {a2 : Int32} {σ : jM} {r : Int32 × jM}  (h : f_X12_trust a1 a2 σ = some r) : J mi_X12_trust 2 0 0 (jqI r) 0 [(0, .ref 0), (1, .int a1), (2, .int a2)] [] (ms σ) := by
  unfold f_X12_trust at h
  refine J_iload_n 1 dX12_trust_0 rfl ?_
  obtain ⟨r2, σ3, h4, h⟩ := bd_inv h
  refine M_callSI (d' := 1) (As := [.int a1]) (st := []) cs_X12_131 dX12_trust_1 rfl (Nat.le_of_ble_eq_true rfl) (Nat.le_of_ble_eq_true rfl) (by decide) rfl rfl (t_X12_isHand  h4) ?_
  refine J_if_eq (tgt := 17) dX12_trust_4 (by decide) (fun c5 => ?_) (fun c5 => ?_)
  · have h := (if_pos c5).symm.trans h
    refine J_pick [] rfl ?_
    exact t_X12_trust_17   _ _  h
  · have h := (if_neg c5).symm.trans h
    refine J_iload_n 2 dX12_trust_7 rfl ?_
    refine J_if_lt (tgt := 17) dX12_trust_8 (by decide) (fun c6 => ?_) (fun c6 => ?_)
    · have h := (if_pos c6).symm.trans h
      refine J_pick [] rfl ?_
      exact t_X12_trust_17   _ _  h
    · have h := (if_neg c6).symm.trans h
      refine J_iload_n 2 dX12_trust_11 rfl ?_
      refine J_bipush (v := 99) dX12_trust_12 (by decide) ?_
      refine J_icmp_le (tgt := 19) dX12_trust_14 (by decide) (fun c7 => ?_) (fun c7 => ?_)
      · have h := (if_pos c7).symm.trans h
        refine J_aload_n 0 dX12_trust_19 rfl ?_
        refine M_getR gf_X12_19_11 dX12_trust_20 (g_0_0 _) k_0 n_0 ?_
        refine M_getR gf_X12_135_0 dX12_trust_23 (g_3_9 _) k_3 n_3 ?_
        refine M_getR gf_X12_139_4 dX12_trust_26 (g_8_0 _) k_8 n_8 ?_
        refine J_iload_n 1 dX12_trust_29 rfl ?_
        refine J_iload_n 2 dX12_trust_30 rfl ?_
        obtain ⟨g8, h⟩ := gd_inv h
        refine M_iast dX12_trust_31 a_9 n_9 g8 ?_
        refine J_aload_n 0 dX12_trust_32 rfl ?_
        obtain ⟨_, σ10, h11, h⟩ := bd_inv h
        refine M_callVV (d' := 1) (k := 0) (As := []) (st := []) cv_X12_97 dX12_trust_33 rfl (by decide) rfl (Nat.le_of_ble_eq_true rfl) (Nat.le_of_ble_eq_true rfl) (by decide) n_0 k_0 rfl rfl (t_X12_forgetView  h11) ?_
        refine J_iconst (v := 1) dX12_trust_36 (by decide) ?_
        exact J_ret (v := some (.int 1)) rfl ⟨dX12_trust_37, Or.inr (Or.inl ⟨rfl, Or.inr rfl⟩)⟩ (jqI_mk h)
      · have h := (if_neg c7).symm.trans h
        refine J_pick [] rfl ?_
        exact t_X12_trust_17   _ _  h
theorem dX12_holds_0 : decode cX12_holds 0 = .ok (.iload_n 1, 1) := by decide +kernel
theorem dX12_holds_1 : decode cX12_holds 1 = .ok (.invokestatic 131, 3) := by decide +kernel
theorem dX12_holds_4 : decode cX12_holds 4 = .ok (.ifCond .eq 33, 3) := by decide +kernel
theorem dX12_holds_7 : decode cX12_holds 7 = .ok (.iload_n 2, 1) := by decide +kernel
theorem dX12_holds_8 : decode cX12_holds 8 = .ok (.invokestatic 144, 3) := by decide +kernel
theorem dX12_holds_11 : decode cX12_holds 11 = .ok (.ifCond .eq 26, 3) := by decide +kernel
theorem dX12_holds_14 : decode cX12_holds 14 = .ok (.iload_n 3, 1) := by decide +kernel
theorem dX12_holds_15 : decode cX12_holds 15 = .ok (.invokestatic 144, 3) := by decide +kernel
theorem dX12_holds_18 : decode cX12_holds 18 = .ok (.ifCond .eq 19, 3) := by decide +kernel
theorem dX12_holds_21 : decode cX12_holds 21 = .ok (.iload_n 2, 1) := by decide +kernel
theorem dX12_holds_22 : decode cX12_holds 22 = .ok (.iload_n 3, 1) := by decide +kernel
theorem dX12_holds_23 : decode cX12_holds 23 = .ok (.if_icmp .eq 14, 3) := by decide +kernel
theorem dX12_holds_26 : decode cX12_holds 26 = .ok (.iload 4, 2) := by decide +kernel
theorem dX12_holds_28 : decode cX12_holds 28 = .ok (.ifCond .lt 9, 3) := by decide +kernel
theorem dX12_holds_31 : decode cX12_holds 31 = .ok (.iload 4, 2) := by decide +kernel
theorem dX12_holds_33 : decode cX12_holds 33 = .ok (.iconst 2, 1) := by decide +kernel
theorem dX12_holds_34 : decode cX12_holds 34 = .ok (.if_icmp .le 5, 3) := by decide +kernel
theorem dX12_holds_37 : decode cX12_holds 37 = .ok (.iconst 0, 1) := by decide +kernel
theorem dX12_holds_38 : decode cX12_holds 38 = .ok (.ireturn, 1) := by decide +kernel
theorem dX12_holds_39 : decode cX12_holds 39 = .ok (.aload_n 0, 1) := by decide +kernel
theorem dX12_holds_40 : decode cX12_holds 40 = .ok (.getfield 19, 3) := by decide +kernel
theorem dX12_holds_43 : decode cX12_holds 43 = .ok (.getfield 135, 3) := by decide +kernel
theorem dX12_holds_46 : decode cX12_holds 46 = .ok (.getfield 147, 3) := by decide +kernel
theorem dX12_holds_49 : decode cX12_holds 49 = .ok (.sipush 200, 3) := by decide +kernel
theorem dX12_holds_52 : decode cX12_holds 52 = .ok (.if_icmp .lt 5, 3) := by decide +kernel
theorem dX12_holds_55 : decode cX12_holds 55 = .ok (.iconst 0, 1) := by decide +kernel
theorem dX12_holds_56 : decode cX12_holds 56 = .ok (.ireturn, 1) := by decide +kernel
theorem dX12_holds_57 : decode cX12_holds 57 = .ok (.aload_n 0, 1) := by decide +kernel
theorem dX12_holds_58 : decode cX12_holds 58 = .ok (.getfield 19, 3) := by decide +kernel
theorem dX12_holds_61 : decode cX12_holds 61 = .ok (.getfield 135, 3) := by decide +kernel
theorem dX12_holds_64 : decode cX12_holds 64 = .ok (.aload_n 0, 1) := by decide +kernel
theorem dX12_holds_65 : decode cX12_holds 65 = .ok (.getfield 19, 3) := by decide +kernel
theorem dX12_holds_68 : decode cX12_holds 68 = .ok (.getfield 66, 3) := by decide +kernel
theorem dX12_holds_71 : decode cX12_holds 71 = .ok (.iload_n 1, 1) := by decide +kernel
theorem dX12_holds_72 : decode cX12_holds 72 = .ok (.iload_n 2, 1) := by decide +kernel
theorem dX12_holds_73 : decode cX12_holds 73 = .ok (.iload_n 3, 1) := by decide +kernel
theorem dX12_holds_74 : decode cX12_holds 74 = .ok (.iload 4, 2) := by decide +kernel
theorem dX12_holds_76 : decode cX12_holds 76 = .ok (.invokevirtual 148, 3) := by decide +kernel
theorem dX12_holds_79 : decode cX12_holds 79 = .ok (.aload_n 0, 1) := by decide +kernel
theorem dX12_holds_80 : decode cX12_holds 80 = .ok (.invokevirtual 97, 3) := by decide +kernel
theorem dX12_holds_83 : decode cX12_holds 83 = .ok (.iconst 1, 1) := by decide +kernel
theorem dX12_holds_84 : decode cX12_holds 84 = .ok (.ireturn, 1) := by decide +kernel
noncomputable def f_X12_holds_37   (σ : jM) : Option (Int32 × jM) :=
  some (0, σ)
noncomputable def f_X12_holds (a1 : Int32) (a2 : Int32) (a3 : Int32) (a4 : Int32) (σ : jM) : Option (Int32 × jM) :=
  bd (f_X12_isHand a1 σ) (fun r1 σ2 => (if r1 = 0 then f_X12_holds_37   σ2 else bd (f_X12_isSign a2 σ2) (fun r5 σ6 => (if r5 = 0 then f_X12_holds_37   σ6 else bd (f_X12_isSign a3 σ6) (fun r9 σ10 => (if r9 = 0 then f_X12_holds_37   σ10 else (if a2 = a3 then f_X12_holds_37   σ10 else (if a4 < 0 then f_X12_holds_37   σ10 else (if a4 ≤ 2 then (if (rI σ10 8 1) < 200 then bd (f_X5_hear (rI σ10 3 0) a1 a2 a3 a4 σ10) (fun _ σ18 => bd (f_X12_forgetView  σ18) (fun _ σ21 => some (1, σ21))) else some (0, σ10)) else f_X12_holds_37   σ10)))))))))
set_option maxRecDepth 20000 in
set_option maxHeartbeats 4000000 in
theorem t_X12_holds_37   (σ : jM) (r : Int32 × jM)  (h : f_X12_holds_37   σ = some r) : J mi_X12_holds 3 0 0 (jqI r) 37 [] [] (ms σ) := by
  unfold f_X12_holds_37 at h
  refine J_iconst (v := 0) dX12_holds_37 (by decide) ?_
  exact J_ret (v := some (.int 0)) rfl ⟨dX12_holds_38, Or.inr (Or.inl ⟨rfl, Or.inl rfl⟩)⟩ (jqI_mk h)
set_option maxRecDepth 20000 in
set_option maxHeartbeats 4000000 in
theorem t_X12_holds {a1 : Int32} {a2 : Int32} {a3 : Int32} {a4 : Int32} {σ : jM} {r : Int32 × jM}  (h : f_X12_holds a1 a2 a3 a4 σ = some r) : J mi_X12_holds 3 0 0 (jqI r) 0 [(0, .ref 0), (1, .int a1), (2, .int a2), (3, .int a3), (4, .int a4)] [] (ms σ) := by
  unfold f_X12_holds at h
  refine J_iload_n 1 dX12_holds_0 rfl ?_
  obtain ⟨r1, σ2, h3, h⟩ := bd_inv h
  refine M_callSI (d' := 1) (As := [.int a1]) (st := []) cs_X12_131 dX12_holds_1 rfl (Nat.le_of_ble_eq_true rfl) (Nat.le_of_ble_eq_true rfl) (by decide) rfl rfl (t_X12_isHand  h3) ?_
  refine J_if_eq (tgt := 37) dX12_holds_4 (by decide) (fun c4 => ?_) (fun c4 => ?_)
  · have h := (if_pos c4).symm.trans h
    refine J_pick [] rfl ?_
    exact t_X12_holds_37   _ _  h
  · have h := (if_neg c4).symm.trans h
    refine J_iload_n 2 dX12_holds_7 rfl ?_
    obtain ⟨r5, σ6, h7, h⟩ := bd_inv h
    refine M_callSI (d' := 1) (As := [.int a2]) (st := []) cs_X12_144 dX12_holds_8 rfl (Nat.le_of_ble_eq_true rfl) (Nat.le_of_ble_eq_true rfl) (by decide) rfl rfl (t_X12_isSign  h7) ?_
    refine J_if_eq (tgt := 37) dX12_holds_11 (by decide) (fun c8 => ?_) (fun c8 => ?_)
    · have h := (if_pos c8).symm.trans h
      refine J_pick [] rfl ?_
      exact t_X12_holds_37   _ _  h
    · have h := (if_neg c8).symm.trans h
      refine J_iload_n 3 dX12_holds_14 rfl ?_
      obtain ⟨r9, σ10, h11, h⟩ := bd_inv h
      refine M_callSI (d' := 1) (As := [.int a3]) (st := []) cs_X12_144 dX12_holds_15 rfl (Nat.le_of_ble_eq_true rfl) (Nat.le_of_ble_eq_true rfl) (by decide) rfl rfl (t_X12_isSign  h11) ?_
      refine J_if_eq (tgt := 37) dX12_holds_18 (by decide) (fun c12 => ?_) (fun c12 => ?_)
      · have h := (if_pos c12).symm.trans h
        refine J_pick [] rfl ?_
        exact t_X12_holds_37   _ _  h
      · have h := (if_neg c12).symm.trans h
        refine J_iload_n 2 dX12_holds_21 rfl ?_
        refine J_iload_n 3 dX12_holds_22 rfl ?_
        refine J_icmp_eq (tgt := 37) dX12_holds_23 (by decide) (fun c13 => ?_) (fun c13 => ?_)
        · have h := (if_pos c13).symm.trans h
          refine J_pick [] rfl ?_
          exact t_X12_holds_37   _ _  h
        · have h := (if_neg c13).symm.trans h
          refine J_iload 4 dX12_holds_26 rfl ?_
          refine J_if_lt (tgt := 37) dX12_holds_28 (by decide) (fun c14 => ?_) (fun c14 => ?_)
          · have h := (if_pos c14).symm.trans h
            refine J_pick [] rfl ?_
            exact t_X12_holds_37   _ _  h
          · have h := (if_neg c14).symm.trans h
            refine J_iload 4 dX12_holds_31 rfl ?_
            refine J_iconst (v := 2) dX12_holds_33 (by decide) ?_
            refine J_icmp_le (tgt := 39) dX12_holds_34 (by decide) (fun c15 => ?_) (fun c15 => ?_)
            · have h := (if_pos c15).symm.trans h
              refine J_aload_n 0 dX12_holds_39 rfl ?_
              refine M_getR gf_X12_19_11 dX12_holds_40 (g_0_0 _) k_0 n_0 ?_
              refine M_getR gf_X12_135_0 dX12_holds_43 (g_3_9 _) k_3 n_3 ?_
              refine M_getI gf_X12_147_4 dX12_holds_46 k_8 n_8 ?_
              refine J_sipush (v := 200) dX12_holds_49 (by decide) ?_
              refine J_icmp_lt (tgt := 57) dX12_holds_52 (by decide) (fun c16 => ?_) (fun c16 => ?_)
              · have h := (if_pos c16).symm.trans h
                refine J_aload_n 0 dX12_holds_57 rfl ?_
                refine M_getR gf_X12_19_11 dX12_holds_58 (g_0_0 _) k_0 n_0 ?_
                refine M_getR gf_X12_135_0 dX12_holds_61 (g_3_9 _) k_3 n_3 ?_
                refine J_aload_n 0 dX12_holds_64 rfl ?_
                refine M_getR gf_X12_19_11 dX12_holds_65 (g_0_0 _) k_0 n_0 ?_
                refine M_getI gf_X12_66_0 dX12_holds_68 k_3 n_3 ?_
                refine J_iload_n 1 dX12_holds_71 rfl ?_
                refine J_iload_n 2 dX12_holds_72 rfl ?_
                refine J_iload_n 3 dX12_holds_73 rfl ?_
                refine J_iload 4 dX12_holds_74 rfl ?_
                obtain ⟨_, σ18, h19, h⟩ := bd_inv h
                refine M_callVV (d' := 2) (k := 8) (As := [.int (rI σ10 3 0), .int a1, .int a2, .int a3, .int a4]) (st := []) cv_X12_148 dX12_holds_76 rfl (by decide) rfl (Nat.le_of_ble_eq_true rfl) (Nat.le_of_ble_eq_true rfl) (by decide) n_8 k_8 rfl rfl (t_X5_hear  h19) ?_
                refine J_aload_n 0 dX12_holds_79 rfl ?_
                obtain ⟨_, σ21, h22, h⟩ := bd_inv h
                refine M_callVV (d' := 1) (k := 0) (As := []) (st := []) cv_X12_97 dX12_holds_80 rfl (by decide) rfl (Nat.le_of_ble_eq_true rfl) (Nat.le_of_ble_eq_true rfl) (by decide) n_0 k_0 rfl rfl (t_X12_forgetView  h22) ?_
                refine J_iconst (v := 1) dX12_holds_83 (by decide) ?_
                exact J_ret (v := some (.int 1)) rfl ⟨dX12_holds_84, Or.inr (Or.inl ⟨rfl, Or.inr rfl⟩)⟩ (jqI_mk h)
              · have h := (if_neg c16).symm.trans h
                refine J_iconst (v := 0) dX12_holds_55 (by decide) ?_
                exact J_ret (v := some (.int 0)) rfl ⟨dX12_holds_56, Or.inr (Or.inl ⟨rfl, Or.inl rfl⟩)⟩ (jqI_mk h)
            · have h := (if_neg c15).symm.trans h
              refine J_pick [] rfl ?_
              exact t_X12_holds_37   _ _  h
theorem dX12_share_0 : decode cX12_share 0 = .ok (.aload_n 0, 1) := by decide +kernel
theorem dX12_share_1 : decode cX12_share 1 = .ok (.getfield 19, 3) := by decide +kernel
theorem dX12_share_4 : decode cX12_share 4 = .ok (.getfield 152, 3) := by decide +kernel
theorem dX12_share_7 : decode cX12_share 7 = .ok (.istore 5, 2) := by decide +kernel
theorem dX12_share_9 : decode cX12_share 9 = .ok (.iload_n 1, 1) := by decide +kernel
theorem dX12_share_10 : decode cX12_share 10 = .ok (.invokestatic 155, 3) := by decide +kernel
theorem dX12_share_13 : decode cX12_share 13 = .ok (.ifCond .eq 29, 3) := by decide +kernel
theorem dX12_share_16 : decode cX12_share 16 = .ok (.iload_n 2, 1) := by decide +kernel
theorem dX12_share_17 : decode cX12_share 17 = .ok (.invokestatic 144, 3) := by decide +kernel
theorem dX12_share_20 : decode cX12_share 20 = .ok (.ifCond .eq 22, 3) := by decide +kernel
theorem dX12_share_23 : decode cX12_share 23 = .ok (.iload_n 3, 1) := by decide +kernel
theorem dX12_share_24 : decode cX12_share 24 = .ok (.invokestatic 144, 3) := by decide +kernel
theorem dX12_share_27 : decode cX12_share 27 = .ok (.ifCond .eq 15, 3) := by decide +kernel
theorem dX12_share_30 : decode cX12_share 30 = .ok (.iload_n 2, 1) := by decide +kernel
theorem dX12_share_31 : decode cX12_share 31 = .ok (.iload_n 3, 1) := by decide +kernel
theorem dX12_share_32 : decode cX12_share 32 = .ok (.if_icmp .eq 10, 3) := by decide +kernel
theorem dX12_share_35 : decode cX12_share 35 = .ok (.iload 5, 2) := by decide +kernel
theorem dX12_share_37 : decode cX12_share 37 = .ok (.bipush 60, 2) := by decide +kernel
theorem dX12_share_39 : decode cX12_share 39 = .ok (.if_icmp .lt 5, 3) := by decide +kernel
theorem dX12_share_42 : decode cX12_share 42 = .ok (.iconst (-1), 1) := by decide +kernel
theorem dX12_share_43 : decode cX12_share 43 = .ok (.ireturn, 1) := by decide +kernel
theorem dX12_share_44 : decode cX12_share 44 = .ok (.aload_n 0, 1) := by decide +kernel
theorem dX12_share_45 : decode cX12_share 45 = .ok (.getfield 19, 3) := by decide +kernel
theorem dX12_share_48 : decode cX12_share 48 = .ok (.getfield 158, 3) := by decide +kernel
theorem dX12_share_51 : decode cX12_share 51 = .ok (.iload 5, 2) := by decide +kernel
theorem dX12_share_53 : decode cX12_share 53 = .ok (.aaload, 1) := by decide +kernel
theorem dX12_share_54 : decode cX12_share 54 = .ok (.iload_n 1, 1) := by decide +kernel
theorem dX12_share_55 : decode cX12_share 55 = .ok (.iload_n 2, 1) := by decide +kernel
theorem dX12_share_56 : decode cX12_share 56 = .ok (.iload_n 3, 1) := by decide +kernel
theorem dX12_share_57 : decode cX12_share 57 = .ok (.iload 4, 2) := by decide +kernel
theorem dX12_share_59 : decode cX12_share 59 = .ok (.invokevirtual 162, 3) := by decide +kernel
theorem dX12_share_62 : decode cX12_share 62 = .ok (.aload_n 0, 1) := by decide +kernel
theorem dX12_share_63 : decode cX12_share 63 = .ok (.getfield 19, 3) := by decide +kernel
theorem dX12_share_66 : decode cX12_share 66 = .ok (.getfield 158, 3) := by decide +kernel
theorem dX12_share_69 : decode cX12_share 69 = .ok (.iload 5, 2) := by decide +kernel
theorem dX12_share_71 : decode cX12_share 71 = .ok (.aaload, 1) := by decide +kernel
theorem dX12_share_72 : decode cX12_share 72 = .ok (.aload_n 0, 1) := by decide +kernel
theorem dX12_share_73 : decode cX12_share 73 = .ok (.getfield 19, 3) := by decide +kernel
theorem dX12_share_76 : decode cX12_share 76 = .ok (.getfield 66, 3) := by decide +kernel
theorem dX12_share_79 : decode cX12_share 79 = .ok (.putfield 168, 3) := by decide +kernel
theorem dX12_share_82 : decode cX12_share 82 = .ok (.aload_n 0, 1) := by decide +kernel
theorem dX12_share_83 : decode cX12_share 83 = .ok (.getfield 19, 3) := by decide +kernel
theorem dX12_share_86 : decode cX12_share 86 = .ok (.dup, 1) := by decide +kernel
theorem dX12_share_87 : decode cX12_share 87 = .ok (.getfield 152, 3) := by decide +kernel
theorem dX12_share_90 : decode cX12_share 90 = .ok (.iconst 1, 1) := by decide +kernel
theorem dX12_share_91 : decode cX12_share 91 = .ok (.iadd, 1) := by decide +kernel
theorem dX12_share_92 : decode cX12_share 92 = .ok (.putfield 152, 3) := by decide +kernel
theorem dX12_share_95 : decode cX12_share 95 = .ok (.aload_n 0, 1) := by decide +kernel
theorem dX12_share_96 : decode cX12_share 96 = .ok (.invokevirtual 97, 3) := by decide +kernel
theorem dX12_share_99 : decode cX12_share 99 = .ok (.iload 5, 2) := by decide +kernel
theorem dX12_share_101 : decode cX12_share 101 = .ok (.ireturn, 1) := by decide +kernel
noncomputable def f_X12_share_42   (σ : jM) : Option (Int32 × jM) :=
  some ((-1), σ)
noncomputable def f_X12_share (a1 : Int32) (a2 : Int32) (a3 : Int32) (a4 : Int32) (σ : jM) : Option (Int32 × jM) :=
  bd (f_X12_isSort a1 σ) (fun r3 σ4 => (if r3 = 0 then f_X12_share_42   σ4 else bd (f_X12_isSign a2 σ4) (fun r7 σ8 => (if r7 = 0 then f_X12_share_42   σ8 else bd (f_X12_isSign a3 σ8) (fun r11 σ12 => (if r11 = 0 then f_X12_share_42   σ12 else (if a2 = a3 then f_X12_share_42   σ12 else (if (rI σ 3 6) < 60 then gd (inb (rI σ 3 6) 60) (bd (f_X9_tell (Int32.toNatClampNeg (rI σ 3 6)) a1 a2 a3 a4 σ12) (fun _ σ19 => gd (inb (rI σ 3 6) 60) (bd (f_X12_forgetView  (wI (wI σ19 (shaX (Int32.toNatClampNeg (rI σ 3 6))) 0 (rI σ19 3 0)) 3 6 ((rI (wI σ19 (shaX (Int32.toNatClampNeg (rI σ 3 6))) 0 (rI σ19 3 0)) 3 6) + 1))) (fun _ σ23 => some ((rI σ 3 6), σ23))))) else f_X12_share_42   σ12))))))))
set_option maxRecDepth 20000 in
set_option maxHeartbeats 4000000 in
theorem t_X12_share_42   (σ : jM) (r : Int32 × jM)  (h : f_X12_share_42   σ = some r) : J mi_X12_share 2 0 0 (jqI r) 42 [] [] (ms σ) := by
  unfold f_X12_share_42 at h
  refine J_iconst (v := (-1)) dX12_share_42 (by decide) ?_
  exact J_ret (v := some (.int (-1))) rfl ⟨dX12_share_43, Or.inl rfl⟩ (jqI_mk h)
set_option maxRecDepth 20000 in
set_option maxHeartbeats 4000000 in
theorem t_X12_share {a1 : Int32} {a2 : Int32} {a3 : Int32} {a4 : Int32} {σ : jM} {r : Int32 × jM}  (h : f_X12_share a1 a2 a3 a4 σ = some r) : J mi_X12_share 2 0 0 (jqI r) 0 [(0, .ref 0), (1, .int a1), (2, .int a2), (3, .int a3), (4, .int a4)] [] (ms σ) := by
  unfold f_X12_share at h
  refine J_aload_n 0 dX12_share_0 rfl ?_
  refine M_getR gf_X12_19_11 dX12_share_1 (g_0_0 _) k_0 n_0 ?_
  refine M_getI gf_X12_152_0 dX12_share_4 k_3 n_3 ?_
  refine J_istore (i := 5) (ls' := [(5, .int (rI σ 3 6)), (0, .ref 0), (1, .int a1), (2, .int a2), (3, .int a3), (4, .int a4)]) dX12_share_7 (by decide) rfl ?_
  refine J_iload_n 2 dX12_share_9 rfl ?_
  obtain ⟨r3, σ4, h5, h⟩ := bd_inv h
  refine M_callSI (d' := 1) (As := [.int a1]) (st := []) cs_X12_155 dX12_share_10 rfl (Nat.le_of_ble_eq_true rfl) (Nat.le_of_ble_eq_true rfl) (by decide) rfl rfl (t_X12_isSort  h5) ?_
  refine J_if_eq (tgt := 42) dX12_share_13 (by decide) (fun c6 => ?_) (fun c6 => ?_)
  · have h := (if_pos c6).symm.trans h
    refine J_pick [] rfl ?_
    exact t_X12_share_42   _ _  h
  · have h := (if_neg c6).symm.trans h
    refine J_iload_n 3 dX12_share_16 rfl ?_
    obtain ⟨r7, σ8, h9, h⟩ := bd_inv h
    refine M_callSI (d' := 1) (As := [.int a2]) (st := []) cs_X12_144 dX12_share_17 rfl (Nat.le_of_ble_eq_true rfl) (Nat.le_of_ble_eq_true rfl) (by decide) rfl rfl (t_X12_isSign  h9) ?_
    refine J_if_eq (tgt := 42) dX12_share_20 (by decide) (fun c10 => ?_) (fun c10 => ?_)
    · have h := (if_pos c10).symm.trans h
      refine J_pick [] rfl ?_
      exact t_X12_share_42   _ _  h
    · have h := (if_neg c10).symm.trans h
      refine J_iload_n 4 dX12_share_23 rfl ?_
      obtain ⟨r11, σ12, h13, h⟩ := bd_inv h
      refine M_callSI (d' := 1) (As := [.int a3]) (st := []) cs_X12_144 dX12_share_24 rfl (Nat.le_of_ble_eq_true rfl) (Nat.le_of_ble_eq_true rfl) (by decide) rfl rfl (t_X12_isSign  h13) ?_
      refine J_if_eq (tgt := 42) dX12_share_27 (by decide) (fun c14 => ?_) (fun c14 => ?_)
      · have h := (if_pos c14).symm.trans h
        refine J_pick [] rfl ?_
        exact t_X12_share_42   _ _  h
      · have h := (if_neg c14).symm.trans h
        refine J_iload_n 3 dX12_share_30 rfl ?_
        refine J_iload_n 4 dX12_share_31 rfl ?_
        refine J_icmp_eq (tgt := 42) dX12_share_32 (by decide) (fun c15 => ?_) (fun c15 => ?_)
        · have h := (if_pos c15).symm.trans h
          refine J_pick [] rfl ?_
          exact t_X12_share_42   _ _  h
        · have h := (if_neg c15).symm.trans h
          refine J_iload 0 dX12_share_35 rfl ?_
          refine J_bipush (v := 60) dX12_share_37 (by decide) ?_
          refine J_icmp_lt (tgt := 44) dX12_share_39 (by decide) (fun c16 => ?_) (fun c16 => ?_)
          · have h := (if_pos c16).symm.trans h
            refine J_aload_n 1 dX12_share_44 rfl ?_
            refine M_getR gf_X12_19_11 dX12_share_45 (g_0_0 _) k_0 n_0 ?_
            refine M_getR gf_X12_158_0 dX12_share_48 (g_3_5 _) k_3 n_3 ?_
            refine J_iload 0 dX12_share_51 rfl ?_
            obtain ⟨g17, h⟩ := gd_inv h
            refine M_aald dX12_share_53 a_6 (by decide) n_6 g17 (r_sha _ g17.2) ?_
            refine J_iload_n 2 dX12_share_54 rfl ?_
            refine J_iload_n 3 dX12_share_55 rfl ?_
            refine J_iload_n 4 dX12_share_56 rfl ?_
            refine J_iload 5 dX12_share_57 rfl ?_
            obtain ⟨_, σ19, h20, h⟩ := bd_inv h
            refine M_callVV (d' := 1) (k := (shaX (Int32.toNatClampNeg (rI σ 3 6)))) (As := [.int a1, .int a2, .int a3, .int a4]) (st := []) cv_X12_162 dX12_share_59 rfl (by decide) rfl (Nat.le_of_ble_eq_true rfl) (Nat.le_of_ble_eq_true rfl) (by decide) (n_sha g17.2) (k_sha g17.2) rfl rfl (t_X9_tell g17.2 h20) ?_
            refine J_aload_n 1 dX12_share_62 rfl ?_
            refine M_getR gf_X12_19_11 dX12_share_63 (g_0_0 _) k_0 n_0 ?_
            refine M_getR gf_X12_158_0 dX12_share_66 (g_3_5 _) k_3 n_3 ?_
            refine J_iload 0 dX12_share_69 rfl ?_
            obtain ⟨g21, h⟩ := gd_inv h
            refine M_aald dX12_share_71 a_6 (by decide) n_6 g21 (r_sha _ g21.2) ?_
            refine J_aload_n 1 dX12_share_72 rfl ?_
            refine M_getR gf_X12_19_11 dX12_share_73 (g_0_0 _) k_0 n_0 ?_
            refine M_getI gf_X12_66_0 dX12_share_76 k_3 n_3 ?_
            refine M_putI pf_X12_168_8 dX12_share_79 (k_sha g21.2) (n_sha g21.2) ⟨rfl, rfl⟩ ?_
            refine J_aload_n 1 dX12_share_82 rfl ?_
            refine M_getR gf_X12_19_11 dX12_share_83 (g_0_0 _) k_0 n_0 ?_
            refine J_dup dX12_share_86 rfl ?_
            refine M_getI gf_X12_152_0 dX12_share_87 k_3 n_3 ?_
            refine J_iconst (v := 1) dX12_share_90 (by decide) ?_
            refine J_iadd dX12_share_91 ?_
            refine M_putI pf_X12_152_0 dX12_share_92 k_3 n_3 ⟨rfl, rfl⟩ ?_
            refine J_aload_n 1 dX12_share_95 rfl ?_
            obtain ⟨_, σ23, h24, h⟩ := bd_inv h
            refine M_callVV (d' := 1) (k := 0) (As := []) (st := []) cv_X12_97 dX12_share_96 rfl (by decide) rfl (Nat.le_of_ble_eq_true rfl) (Nat.le_of_ble_eq_true rfl) (by decide) n_0 k_0 rfl rfl (t_X12_forgetView  h24) ?_
            refine J_iload 0 dX12_share_99 rfl ?_
            exact J_ret (v := some (.int (rI σ 3 6))) rfl ⟨dX12_share_101, Or.inl rfl⟩ (jqI_mk h)
          · have h := (if_neg c16).symm.trans h
            refine J_pick [] rfl ?_
            exact t_X12_share_42   _ _  h
theorem dX12_name_0 : decode cX12_name 0 = .ok (.aload_n 0, 1) := by decide +kernel
theorem dX12_name_1 : decode cX12_name 1 = .ok (.getfield 19, 3) := by decide +kernel
theorem dX12_name_4 : decode cX12_name 4 = .ok (.getfield 169, 3) := by decide +kernel
theorem dX12_name_7 : decode cX12_name 7 = .ok (.istore_n 2, 1) := by decide +kernel
theorem dX12_name_8 : decode cX12_name 8 = .ok (.aload_n 0, 1) := by decide +kernel
theorem dX12_name_9 : decode cX12_name 9 = .ok (.getfield 19, 3) := by decide +kernel
theorem dX12_name_12 : decode cX12_name 12 = .ok (.iload_n 1, 1) := by decide +kernel
theorem dX12_name_13 : decode cX12_name 13 = .ok (.invokevirtual 172, 3) := by decide +kernel
theorem dX12_name_16 : decode cX12_name 16 = .ok (.ifCond .eq 19, 3) := by decide +kernel
theorem dX12_name_19 : decode cX12_name 19 = .ok (.aload_n 0, 1) := by decide +kernel
theorem dX12_name_20 : decode cX12_name 20 = .ok (.getfield 26, 3) := by decide +kernel
theorem dX12_name_23 : decode cX12_name 23 = .ok (.invokevirtual 175, 3) := by decide +kernel
theorem dX12_name_26 : decode cX12_name 26 = .ok (.ifCond .eq 9, 3) := by decide +kernel
theorem dX12_name_29 : decode cX12_name 29 = .ok (.iload_n 2, 1) := by decide +kernel
theorem dX12_name_30 : decode cX12_name 30 = .ok (.bipush 6, 2) := by decide +kernel
theorem dX12_name_32 : decode cX12_name 32 = .ok (.if_icmp .lt 5, 3) := by decide +kernel
theorem dX12_name_35 : decode cX12_name 35 = .ok (.iconst (-1), 1) := by decide +kernel
theorem dX12_name_36 : decode cX12_name 36 = .ok (.ireturn, 1) := by decide +kernel
theorem dX12_name_37 : decode cX12_name 37 = .ok (.aload_n 0, 1) := by decide +kernel
theorem dX12_name_38 : decode cX12_name 38 = .ok (.getfield 19, 3) := by decide +kernel
theorem dX12_name_41 : decode cX12_name 41 = .ok (.getfield 179, 3) := by decide +kernel
theorem dX12_name_44 : decode cX12_name 44 = .ok (.iload_n 2, 1) := by decide +kernel
theorem dX12_name_45 : decode cX12_name 45 = .ok (.aaload, 1) := by decide +kernel
theorem dX12_name_46 : decode cX12_name 46 = .ok (.astore_n 3, 1) := by decide +kernel
theorem dX12_name_47 : decode cX12_name 47 = .ok (.aload_n 0, 1) := by decide +kernel
theorem dX12_name_48 : decode cX12_name 48 = .ok (.getfield 26, 3) := by decide +kernel
theorem dX12_name_51 : decode cX12_name 51 = .ok (.getfield 183, 3) := by decide +kernel
theorem dX12_name_54 : decode cX12_name 54 = .ok (.iconst 0, 1) := by decide +kernel
theorem dX12_name_55 : decode cX12_name 55 = .ok (.aload_n 3, 1) := by decide +kernel
theorem dX12_name_56 : decode cX12_name 56 = .ok (.getfield 186, 3) := by decide +kernel
theorem dX12_name_59 : decode cX12_name 59 = .ok (.iconst 0, 1) := by decide +kernel
theorem dX12_name_60 : decode cX12_name 60 = .ok (.aload_n 0, 1) := by decide +kernel
theorem dX12_name_61 : decode cX12_name 61 = .ok (.getfield 26, 3) := by decide +kernel
theorem dX12_name_64 : decode cX12_name 64 = .ok (.getfield 71, 3) := by decide +kernel
theorem dX12_name_67 : decode cX12_name 67 = .ok (.invokestatic 191, 3) := by decide +kernel
theorem dX12_name_70 : decode cX12_name 70 = .ok (.aload_n 3, 1) := by decide +kernel
theorem dX12_name_71 : decode cX12_name 71 = .ok (.aload_n 0, 1) := by decide +kernel
theorem dX12_name_72 : decode cX12_name 72 = .ok (.getfield 26, 3) := by decide +kernel
theorem dX12_name_75 : decode cX12_name 75 = .ok (.getfield 71, 3) := by decide +kernel
theorem dX12_name_78 : decode cX12_name 78 = .ok (.putfield 197, 3) := by decide +kernel
theorem dX12_name_81 : decode cX12_name 81 = .ok (.aload_n 3, 1) := by decide +kernel
theorem dX12_name_82 : decode cX12_name 82 = .ok (.iload_n 1, 1) := by decide +kernel
theorem dX12_name_83 : decode cX12_name 83 = .ok (.putfield 198, 3) := by decide +kernel
theorem dX12_name_86 : decode cX12_name 86 = .ok (.aload_n 3, 1) := by decide +kernel
theorem dX12_name_87 : decode cX12_name 87 = .ok (.aload_n 0, 1) := by decide +kernel
theorem dX12_name_88 : decode cX12_name 88 = .ok (.getfield 19, 3) := by decide +kernel
theorem dX12_name_91 : decode cX12_name 91 = .ok (.getfield 66, 3) := by decide +kernel
theorem dX12_name_94 : decode cX12_name 94 = .ok (.putfield 201, 3) := by decide +kernel
theorem dX12_name_97 : decode cX12_name 97 = .ok (.aload_n 0, 1) := by decide +kernel
theorem dX12_name_98 : decode cX12_name 98 = .ok (.getfield 19, 3) := by decide +kernel
theorem dX12_name_101 : decode cX12_name 101 = .ok (.dup, 1) := by decide +kernel
theorem dX12_name_102 : decode cX12_name 102 = .ok (.getfield 169, 3) := by decide +kernel
theorem dX12_name_105 : decode cX12_name 105 = .ok (.iconst 1, 1) := by decide +kernel
theorem dX12_name_106 : decode cX12_name 106 = .ok (.iadd, 1) := by decide +kernel
theorem dX12_name_107 : decode cX12_name 107 = .ok (.putfield 169, 3) := by decide +kernel
theorem dX12_name_110 : decode cX12_name 110 = .ok (.aload_n 0, 1) := by decide +kernel
theorem dX12_name_111 : decode cX12_name 111 = .ok (.getfield 26, 3) := by decide +kernel
theorem dX12_name_114 : decode cX12_name 114 = .ok (.iconst 0, 1) := by decide +kernel
theorem dX12_name_115 : decode cX12_name 115 = .ok (.putfield 71, 3) := by decide +kernel
theorem dX12_name_118 : decode cX12_name 118 = .ok (.aload_n 0, 1) := by decide +kernel
theorem dX12_name_119 : decode cX12_name 119 = .ok (.invokevirtual 97, 3) := by decide +kernel
theorem dX12_name_122 : decode cX12_name 122 = .ok (.iload_n 2, 1) := by decide +kernel
theorem dX12_name_123 : decode cX12_name 123 = .ok (.ireturn, 1) := by decide +kernel
noncomputable def f_X12_name_35   (σ : jM) : Option (Int32 × jM) :=
  some ((-1), σ)
noncomputable def f_X12_name (a1 : Int32) (σ : jM) : Option (Int32 × jM) :=
  bd (f_X0_hasTablet a1 σ) (fun r3 σ4 => (if r3 = 0 then f_X12_name_35   σ4 else bd (f_X11_isName  σ4) (fun r7 σ8 => (if r7 = 0 then f_X12_name_35   σ8 else (if (rI σ 3 8) < 6 then gd (inb (rI σ 3 8) 6) (gd (cpOk 0 0 (rI σ8 262 1) 300 8) (bd (f_X12_forgetView  (wI (wI (wI (wI (wI (wCp σ8 263 0 (namX (Int32.toNatClampNeg (rI σ 3 8)) + 1) 0 (rI σ8 262 1)) (namX (Int32.toNatClampNeg (rI σ 3 8))) 3 (rI (wCp σ8 263 0 (namX (Int32.toNatClampNeg (rI σ 3 8)) + 1) 0 (rI σ8 262 1)) 262 1)) (namX (Int32.toNatClampNeg (rI σ 3 8))) 4 a1) (namX (Int32.toNatClampNeg (rI σ 3 8))) 0 (rI (wI (wI (wCp σ8 263 0 (namX (Int32.toNatClampNeg (rI σ 3 8)) + 1) 0 (rI σ8 262 1)) (namX (Int32.toNatClampNeg (rI σ 3 8))) 3 (rI (wCp σ8 263 0 (namX (Int32.toNatClampNeg (rI σ 3 8)) + 1) 0 (rI σ8 262 1)) 262 1)) (namX (Int32.toNatClampNeg (rI σ 3 8))) 4 a1) 3 0)) 3 8 ((rI (wI (wI (wI (wCp σ8 263 0 (namX (Int32.toNatClampNeg (rI σ 3 8)) + 1) 0 (rI σ8 262 1)) (namX (Int32.toNatClampNeg (rI σ 3 8))) 3 (rI (wCp σ8 263 0 (namX (Int32.toNatClampNeg (rI σ 3 8)) + 1) 0 (rI σ8 262 1)) 262 1)) (namX (Int32.toNatClampNeg (rI σ 3 8))) 4 a1) (namX (Int32.toNatClampNeg (rI σ 3 8))) 0 (rI (wI (wI (wCp σ8 263 0 (namX (Int32.toNatClampNeg (rI σ 3 8)) + 1) 0 (rI σ8 262 1)) (namX (Int32.toNatClampNeg (rI σ 3 8))) 3 (rI (wCp σ8 263 0 (namX (Int32.toNatClampNeg (rI σ 3 8)) + 1) 0 (rI σ8 262 1)) 262 1)) (namX (Int32.toNatClampNeg (rI σ 3 8))) 4 a1) 3 0)) 3 8) + 1)) 262 1 0)) (fun _ σ15 => some ((rI σ 3 8), σ15)))) else f_X12_name_35   σ8)))))
set_option maxRecDepth 20000 in
set_option maxHeartbeats 4000000 in
theorem t_X12_name_35   (σ : jM) (r : Int32 × jM)  (h : f_X12_name_35   σ = some r) : J mi_X12_name 3 0 0 (jqI r) 35 [] [] (ms σ) := by
  unfold f_X12_name_35 at h
  refine J_iconst (v := (-1)) dX12_name_35 (by decide) ?_
  exact J_ret (v := some (.int (-1))) rfl ⟨dX12_name_36, Or.inl rfl⟩ (jqI_mk h)
set_option maxRecDepth 20000 in
set_option maxHeartbeats 4000000 in
theorem t_X12_name {a1 : Int32} {σ : jM} {r : Int32 × jM}  (h : f_X12_name a1 σ = some r) : J mi_X12_name 3 0 0 (jqI r) 0 [(0, .ref 0), (1, .int a1)] [] (ms σ) := by
  unfold f_X12_name at h
  refine J_aload_n 0 dX12_name_0 rfl ?_
  refine M_getR gf_X12_19_11 dX12_name_1 (g_0_0 _) k_0 n_0 ?_
  refine M_getI gf_X12_169_0 dX12_name_4 k_3 n_3 ?_
  refine J_istore_n (i := 2) (ls' := [(2, .int (rI σ 3 8)), (0, .ref 0), (1, .int a1)]) dX12_name_7 rfl (by decide) rfl ?_
  refine J_aload_n 1 dX12_name_8 rfl ?_
  refine M_getR gf_X12_19_11 dX12_name_9 (g_0_0 _) k_0 n_0 ?_
  refine J_iload_n 2 dX12_name_12 rfl ?_
  obtain ⟨r3, σ4, h5, h⟩ := bd_inv h
  refine M_callVI (d' := 1) (k := 3) (As := [.int a1]) (st := []) cv_X12_172 dX12_name_13 rfl (by decide) rfl (Nat.le_of_ble_eq_true rfl) (Nat.le_of_ble_eq_true rfl) (by decide) n_3 k_3 rfl rfl (t_X0_hasTablet  h5) ?_
  refine J_if_eq (tgt := 35) dX12_name_16 (by decide) (fun c6 => ?_) (fun c6 => ?_)
  · have h := (if_pos c6).symm.trans h
    refine J_pick [] rfl ?_
    exact t_X12_name_35   _ _  h
  · have h := (if_neg c6).symm.trans h
    refine J_aload_n 1 dX12_name_19 rfl ?_
    refine M_getR gf_X12_26_11 dX12_name_20 (g_0_1 _) k_0 n_0 ?_
    obtain ⟨r7, σ8, h9, h⟩ := bd_inv h
    refine M_callVI (d' := 2) (k := 262) (As := []) (st := []) cv_X12_175 dX12_name_23 rfl (by decide) rfl (Nat.le_of_ble_eq_true rfl) (Nat.le_of_ble_eq_true rfl) (by decide) n_262 k_262 rfl rfl (t_X11_isName  h9) ?_
    refine J_if_eq (tgt := 35) dX12_name_26 (by decide) (fun c10 => ?_) (fun c10 => ?_)
    · have h := (if_pos c10).symm.trans h
      refine J_pick [] rfl ?_
      exact t_X12_name_35   _ _  h
    · have h := (if_neg c10).symm.trans h
      refine J_iload_n 0 dX12_name_29 rfl ?_
      refine J_bipush (v := 6) dX12_name_30 (by decide) ?_
      refine J_icmp_lt (tgt := 37) dX12_name_32 (by decide) (fun c11 => ?_) (fun c11 => ?_)
      · have h := (if_pos c11).symm.trans h
        refine J_aload_n 1 dX12_name_37 rfl ?_
        refine M_getR gf_X12_19_11 dX12_name_38 (g_0_0 _) k_0 n_0 ?_
        refine M_getR gf_X12_179_0 dX12_name_41 (g_3_7 _) k_3 n_3 ?_
        refine J_iload_n 0 dX12_name_44 rfl ?_
        obtain ⟨g12, h⟩ := gd_inv h
        refine M_aald dX12_name_45 a_7 (by decide) n_7 g12 (r_nam _ g12.2) ?_
        refine J_astore_n (i := 3) (ls' := [(3, .ref (namX (Int32.toNatClampNeg (rI σ 3 8)))), (2, .int (rI σ 3 8)), (0, .ref 0), (1, .int a1)]) dX12_name_46 rfl (by decide) rfl ?_
        refine J_aload_n 2 dX12_name_47 rfl ?_
        refine M_getR gf_X12_26_11 dX12_name_48 (g_0_1 _) k_0 n_0 ?_
        refine M_getR gf_X12_183_10 dX12_name_51 (g_262_0 _) k_262 n_262 ?_
        refine J_iconst (v := 0) dX12_name_54 (by decide) ?_
        refine J_aload_n 0 dX12_name_55 rfl ?_
        refine M_getR gf_X12_186_5 dX12_name_56 (g_nam2 _ g12.2) (k_nam g12.2) (n_nam g12.2) ?_
        refine J_iconst (v := 0) dX12_name_59 (by decide) ?_
        refine J_aload_n 2 dX12_name_60 rfl ?_
        refine M_getR gf_X12_26_11 dX12_name_61 (g_0_1 _) k_0 n_0 ?_
        refine M_getI gf_X12_71_10 dX12_name_64 k_262 n_262 ?_
        obtain ⟨g13, h⟩ := gd_inv h
        refine M_acopy ac_X12_191 dX12_name_67 a_263 (a_nam2 g12.2) n_263 (na_nam2 g12.2) g13 (Nat.le_of_ble_eq_true rfl) (by decide) ?_
        refine J_aload_n 0 dX12_name_70 rfl ?_
        refine J_aload_n 2 dX12_name_71 rfl ?_
        refine M_getR gf_X12_26_11 dX12_name_72 (g_0_1 _) k_0 n_0 ?_
        refine M_getI gf_X12_71_10 dX12_name_75 k_262 n_262 ?_
        refine M_putI pf_X12_197_5 dX12_name_78 (k_nam g12.2) (n_nam g12.2) ⟨rfl, rfl⟩ ?_
        refine J_aload_n 0 dX12_name_81 rfl ?_
        refine J_iload_n 3 dX12_name_82 rfl ?_
        refine M_putI pf_X12_198_5 dX12_name_83 (k_nam g12.2) (n_nam g12.2) ⟨rfl, rfl⟩ ?_
        refine J_aload_n 0 dX12_name_86 rfl ?_
        refine J_aload_n 2 dX12_name_87 rfl ?_
        refine M_getR gf_X12_19_11 dX12_name_88 (g_0_0 _) k_0 n_0 ?_
        refine M_getI gf_X12_66_0 dX12_name_91 k_3 n_3 ?_
        refine M_putI pf_X12_201_5 dX12_name_94 (k_nam g12.2) (n_nam g12.2) ⟨rfl, rfl⟩ ?_
        refine J_aload_n 2 dX12_name_97 rfl ?_
        refine M_getR gf_X12_19_11 dX12_name_98 (g_0_0 _) k_0 n_0 ?_
        refine J_dup dX12_name_101 rfl ?_
        refine M_getI gf_X12_169_0 dX12_name_102 k_3 n_3 ?_
        refine J_iconst (v := 1) dX12_name_105 (by decide) ?_
        refine J_iadd dX12_name_106 ?_
        refine M_putI pf_X12_169_0 dX12_name_107 k_3 n_3 ⟨rfl, rfl⟩ ?_
        refine J_aload_n 2 dX12_name_110 rfl ?_
        refine M_getR gf_X12_26_11 dX12_name_111 (g_0_1 _) k_0 n_0 ?_
        refine J_iconst (v := 0) dX12_name_114 (by decide) ?_
        refine M_putI pf_X12_71_10 dX12_name_115 k_262 n_262 ⟨rfl, rfl⟩ ?_
        refine J_aload_n 2 dX12_name_118 rfl ?_
        obtain ⟨_, σ15, h16, h⟩ := bd_inv h
        refine M_callVV (d' := 1) (k := 0) (As := []) (st := []) cv_X12_97 dX12_name_119 rfl (by decide) rfl (Nat.le_of_ble_eq_true rfl) (Nat.le_of_ble_eq_true rfl) (by decide) n_0 k_0 rfl rfl (t_X12_forgetView  h16) ?_
        refine J_iload_n 1 dX12_name_122 rfl ?_
        exact J_ret (v := some (.int (rI σ 3 8))) rfl ⟨dX12_name_123, Or.inl rfl⟩ (jqI_mk h)
      · have h := (if_neg c11).symm.trans h
        refine J_pick [] rfl ?_
        exact t_X12_name_35   _ _  h
theorem dX12_writeCell_0 : decode cX12_writeCell 0 = .ok (.iload_n 1, 1) := by decide +kernel
theorem dX12_writeCell_1 : decode cX12_writeCell 1 = .ok (.iconst (-1), 1) := by decide +kernel
theorem dX12_writeCell_2 : decode cX12_writeCell 2 = .ok (.if_icmp .ne 10, 3) := by decide +kernel
theorem dX12_writeCell_5 : decode cX12_writeCell 5 = .ok (.aload_n 0, 1) := by decide +kernel
theorem dX12_writeCell_6 : decode cX12_writeCell 6 = .ok (.bipush 63, 2) := by decide +kernel
theorem dX12_writeCell_8 : decode cX12_writeCell 8 = .ok (.invokevirtual 391, 3) := by decide +kernel
theorem dX12_writeCell_11 : decode cX12_writeCell 11 = .ok (.return_, 1) := by decide +kernel
theorem dX12_writeCell_12 : decode cX12_writeCell 12 = .ok (.iload_n 1, 1) := by decide +kernel
theorem dX12_writeCell_13 : decode cX12_writeCell 13 = .ok (.iconst 5, 1) := by decide +kernel
theorem dX12_writeCell_14 : decode cX12_writeCell 14 = .ok (.idiv, 1) := by decide +kernel
theorem dX12_writeCell_15 : decode cX12_writeCell 15 = .ok (.istore_n 2, 1) := by decide +kernel
theorem dX12_writeCell_16 : decode cX12_writeCell 16 = .ok (.iload_n 2, 1) := by decide +kernel
theorem dX12_writeCell_17 : decode cX12_writeCell 17 = .ok (.ifCond .le 13, 3) := by decide +kernel
theorem dX12_writeCell_20 : decode cX12_writeCell 20 = .ok (.aload_n 0, 1) := by decide +kernel
theorem dX12_writeCell_21 : decode cX12_writeCell 21 = .ok (.bipush 97, 2) := by decide +kernel
theorem dX12_writeCell_23 : decode cX12_writeCell 23 = .ok (.iload_n 2, 1) := by decide +kernel
theorem dX12_writeCell_24 : decode cX12_writeCell 24 = .ok (.iadd, 1) := by decide +kernel
theorem dX12_writeCell_25 : decode cX12_writeCell 25 = .ok (.iconst 1, 1) := by decide +kernel
theorem dX12_writeCell_26 : decode cX12_writeCell 26 = .ok (.isub, 1) := by decide +kernel
theorem dX12_writeCell_27 : decode cX12_writeCell 27 = .ok (.invokevirtual 391, 3) := by decide +kernel
theorem dX12_writeCell_30 : decode cX12_writeCell 30 = .ok (.aload_n 0, 1) := by decide +kernel
theorem dX12_writeCell_31 : decode cX12_writeCell 31 = .ok (.ldc_w 394, 3) := by decide +kernel
theorem dX12_writeCell_34 : decode cX12_writeCell 34 = .ok (.iload_n 1, 1) := by decide +kernel
theorem dX12_writeCell_35 : decode cX12_writeCell 35 = .ok (.iconst 5, 1) := by decide +kernel
theorem dX12_writeCell_36 : decode cX12_writeCell 36 = .ok (.irem, 1) := by decide +kernel
theorem dX12_writeCell_37 : decode cX12_writeCell 37 = .ok (.invokevirtual 396, 3) := by decide +kernel
theorem dX12_writeCell_40 : decode cX12_writeCell 40 = .ok (.invokevirtual 391, 3) := by decide +kernel
theorem dX12_writeCell_43 : decode cX12_writeCell 43 = .ok (.return_, 1) := by decide +kernel
noncomputable def f_X12_writeCell_30  (l1 : Int32) (σ : jM) : Option (Unit × jM) :=
  gd (inb (l1 - l1 / 5 * 5) (jslen.getD 9 0)) (bd (f_X12_writeByte (strAt 9 (l1 - l1 / 5 * 5)) σ) (fun _ σ4 => some ((), σ4)))
noncomputable def f_X12_writeCell (a1 : Int32) (σ : jM) : Option (Unit × jM) :=
  (if a1 = (-1) then bd (f_X12_writeByte 63 σ) (fun _ σ16 => some ((), σ16)) else (if (a1 / 5) ≤ 0 then f_X12_writeCell_30  a1 σ else bd (f_X12_writeByte ((97 + (a1 / 5)) - 1) σ) (fun _ σ13 => f_X12_writeCell_30  a1 σ13)))
set_option maxRecDepth 20000 in
set_option maxHeartbeats 4000000 in
theorem t_X12_writeCell_30  (l1 : Int32) (σ : jM) (r : Unit × jM)  (h : f_X12_writeCell_30  l1 σ = some r) : J mi_X12_writeCell 6 0 0 (jqV r) 30 [(0, .ref 0), (1, .int l1)] [] (ms σ) := by
  unfold f_X12_writeCell_30 at h
  refine J_aload_n 0 dX12_writeCell_30 rfl ?_
  refine M_ldcSw (w := 9) (tx := "aeiou") dX12_writeCell_31 (by decide +kernel) ?_
  refine J_iload_n 1 dX12_writeCell_34 rfl ?_
  refine J_iconst (v := 5) dX12_writeCell_35 (by decide) ?_
  refine J_irem dX12_writeCell_36 (by decide) ?_
  obtain ⟨g6, h⟩ := gd_inv h
  refine M_strat sc_X12_396 dX12_writeCell_37 (by decide) g6 (Nat.le_of_ble_eq_true rfl) (by decide) ?_
  obtain ⟨_, σ8, h9, h⟩ := bd_inv h
  refine M_callVV (d' := 1) (k := 0) (As := [.int (strAt 9 (l1 - l1 / 5 * 5))]) (st := []) cv_X12_391 dX12_writeCell_40 rfl (by decide) rfl (Nat.le_of_ble_eq_true rfl) (Nat.le_of_ble_eq_true rfl) (by decide) n_0 k_0 rfl rfl (t_X12_writeByte  h9) ?_
  exact J_ret (v := none) rfl ⟨dX12_writeCell_43, rfl⟩ (jqV_mk h)
set_option maxRecDepth 20000 in
set_option maxHeartbeats 4000000 in
theorem t_X12_writeCell {a1 : Int32} {σ : jM} {r : Unit × jM}  (h : f_X12_writeCell a1 σ = some r) : J mi_X12_writeCell 6 0 0 (jqV r) 0 [(0, .ref 0), (1, .int a1)] [] (ms σ) := by
  unfold f_X12_writeCell at h
  refine J_iload_n 1 dX12_writeCell_0 rfl ?_
  refine J_iconst (v := (-1)) dX12_writeCell_1 (by decide) ?_
  refine J_icmp_ne (tgt := 12) dX12_writeCell_2 (by decide) (fun c10 => ?_) (fun c10 => ?_)
  · have h := (if_neg c10).symm.trans h
    refine J_iload_n 1 dX12_writeCell_12 rfl ?_
    refine J_iconst (v := 5) dX12_writeCell_13 (by decide) ?_
    refine J_idiv dX12_writeCell_14 (by decide) ?_
    refine J_istore_n (i := 2) (ls' := [(2, .int (a1 / 5)), (0, .ref 0), (1, .int a1)]) dX12_writeCell_15 rfl (by decide) rfl ?_
    refine J_iload_n 0 dX12_writeCell_16 rfl ?_
    refine J_if_le (tgt := 30) dX12_writeCell_17 (by decide) (fun c11 => ?_) (fun c11 => ?_)
    · have h := (if_pos c11).symm.trans h
      refine J_pick [1, 2] rfl ?_
      exact t_X12_writeCell_30  _ _ _  h
    · have h := (if_neg c11).symm.trans h
      refine J_aload_n 1 dX12_writeCell_20 rfl ?_
      refine J_bipush (v := 97) dX12_writeCell_21 (by decide) ?_
      refine J_iload_n 0 dX12_writeCell_23 rfl ?_
      refine J_iadd dX12_writeCell_24 ?_
      refine J_iconst (v := 1) dX12_writeCell_25 (by decide) ?_
      refine J_isub dX12_writeCell_26 ?_
      obtain ⟨_, σ13, h14, h⟩ := bd_inv h
      refine M_callVV (d' := 1) (k := 0) (As := [.int ((97 + (a1 / 5)) - 1)]) (st := []) cv_X12_391 dX12_writeCell_27 rfl (by decide) rfl (Nat.le_of_ble_eq_true rfl) (Nat.le_of_ble_eq_true rfl) (by decide) n_0 k_0 rfl rfl (t_X12_writeByte  h14) ?_
      refine J_pick [1, 2] rfl ?_
      exact t_X12_writeCell_30  _ _ _  h
  · have h := (if_pos c10).symm.trans h
    refine J_aload_n 0 dX12_writeCell_5 rfl ?_
    refine J_bipush (v := 63) dX12_writeCell_6 (by decide) ?_
    obtain ⟨_, σ16, h17, h⟩ := bd_inv h
    refine M_callVV (d' := 1) (k := 0) (As := [.int 63]) (st := []) cv_X12_391 dX12_writeCell_8 rfl (by decide) rfl (Nat.le_of_ble_eq_true rfl) (Nat.le_of_ble_eq_true rfl) (by decide) n_0 k_0 rfl rfl (t_X12_writeByte  h17) ?_
    exact J_ret (v := none) rfl ⟨dX12_writeCell_11, rfl⟩ (jqV_mk h)
theorem dX12_leastOf_0 : decode cX12_leastOf 0 = .ok (.lload_n 0, 1) := by decide +kernel
theorem dX12_leastOf_1 : decode cX12_leastOf 1 = .ok (.lconst 0, 1) := by decide +kernel
theorem dX12_leastOf_2 : decode cX12_leastOf 2 = .ok (.lcmp, 1) := by decide +kernel
theorem dX12_leastOf_3 : decode cX12_leastOf 3 = .ok (.ifCond .ne 7, 3) := by decide +kernel
theorem dX12_leastOf_6 : decode cX12_leastOf 6 = .ok (.iconst (-1), 1) := by decide +kernel
theorem dX12_leastOf_7 : decode cX12_leastOf 7 = .ok (.goto 12, 3) := by decide +kernel
theorem dX12_leastOf_10 : decode cX12_leastOf 10 = .ok (.lload_n 0, 1) := by decide +kernel
theorem dX12_leastOf_11 : decode cX12_leastOf 11 = .ok (.lload_n 0, 1) := by decide +kernel
theorem dX12_leastOf_12 : decode cX12_leastOf 12 = .ok (.lneg, 1) := by decide +kernel
theorem dX12_leastOf_13 : decode cX12_leastOf 13 = .ok (.land, 1) := by decide +kernel
theorem dX12_leastOf_14 : decode cX12_leastOf 14 = .ok (.lconst 1, 1) := by decide +kernel
theorem dX12_leastOf_15 : decode cX12_leastOf 15 = .ok (.lsub, 1) := by decide +kernel
theorem dX12_leastOf_16 : decode cX12_leastOf 16 = .ok (.invokestatic 413, 3) := by decide +kernel
theorem dX12_leastOf_19 : decode cX12_leastOf 19 = .ok (.ireturn, 1) := by decide +kernel
noncomputable def f_X12_leastOf_19  (s0 : Int32) (σ : jM) : Option (Int32 × jM) :=
  some (s0, σ)
noncomputable def f_X12_leastOf (a0 : Int64) (σ : jM) : Option (Int32 × jM) :=
  (if (lg_cmp a0 0) = 0 then f_X12_leastOf_19  (-1) σ else bd (f_J13_bitCount_95d88 ((a0 &&& (-a0)) - 1) σ) (fun r2 σ3 => f_X12_leastOf_19  r2 σ3))
set_option maxRecDepth 20000 in
set_option maxHeartbeats 4000000 in
theorem t_X12_leastOf_19  (s0 : Int32) (σ : jM) (r : Int32 × jM)  (h : f_X12_leastOf_19  s0 σ = some r) : J mi_X12_leastOf 2 0 0 (jqI r) 19 [] [.int s0] (ms σ) := by
  unfold f_X12_leastOf_19 at h
  exact J_ret (v := some (.int s0)) rfl ⟨dX12_leastOf_19, Or.inl rfl⟩ (jqI_mk h)
set_option maxRecDepth 20000 in
set_option maxHeartbeats 4000000 in
theorem t_X12_leastOf {a0 : Int64} {σ : jM} {r : Int32 × jM}  (h : f_X12_leastOf a0 σ = some r) : J mi_X12_leastOf 2 0 0 (jqI r) 0 [(0, .long a0)] [] (ms σ) := by
  unfold f_X12_leastOf at h
  refine J_lload_n 0 dX12_leastOf_0 rfl ?_
  refine J_lconst (v := 0) dX12_leastOf_1 (by decide) ?_
  refine J_lcmp dX12_leastOf_2 ?_
  refine J_if_ne (tgt := 10) dX12_leastOf_3 (by decide) (fun c1 => ?_) (fun c1 => ?_)
  · have h := (if_neg c1).symm.trans h
    refine J_lload_n 0 dX12_leastOf_10 rfl ?_
    refine J_lload_n 0 dX12_leastOf_11 rfl ?_
    refine J_lneg dX12_leastOf_12 ?_
    refine J_land dX12_leastOf_13 ?_
    refine J_lconst (v := 1) dX12_leastOf_14 (by decide) ?_
    refine J_lsub dX12_leastOf_15 ?_
    obtain ⟨r2, σ3, h4, h⟩ := bd_inv h
    refine M_callSI (d' := 1) (As := [.long ((a0 &&& (-a0)) - 1)]) (st := []) cs_X12_413 dX12_leastOf_16 rfl (Nat.le_of_ble_eq_true rfl) (Nat.le_of_ble_eq_true rfl) (by decide) rfl rfl (t_J13_bitCount_95d88  h4) ?_
    refine J_pick [] rfl ?_
    exact t_X12_leastOf_19  _ _ _  h
  · have h := (if_pos c1).symm.trans h
    refine J_iconst (v := (-1)) dX12_leastOf_6 (by decide) ?_
    refine J_goto (tgt := 19) dX12_leastOf_7 (by decide) ?_
    refine J_pick [] rfl ?_
    exact t_X12_leastOf_19  _ _ _  h
