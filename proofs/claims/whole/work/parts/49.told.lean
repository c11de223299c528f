/-! GridRoom.told: it answers, or it throws -/
theorem dX12_told_0 : decode cX12_told 0 = .ok (.aload_n 0, 1) := by decide +kernel
theorem dX12_told_1 : decode cX12_told 1 = .ok (.getfield 19, 3) := by decide +kernel
theorem dX12_told_4 : decode cX12_told 4 = .ok (.iload_n 1, 1) := by decide +kernel
theorem dX12_told_5 : decode cX12_told 5 = .ok (.iload_n 2, 1) := by decide +kernel
theorem dX12_told_6 : decode cX12_told 6 = .ok (.invokevirtual 208, 3) := by decide +kernel
theorem dX12_told_9 : decode cX12_told 9 = .ok (.ifCond .ne 13, 3) := by decide +kernel
theorem dX12_told_12 : decode cX12_told 12 = .ok (.new 212, 3) := by decide +kernel
theorem dX12_told_15 : decode cX12_told 15 = .ok (.dup, 1) := by decide +kernel
theorem dX12_told_16 : decode cX12_told 16 = .ok (.ldc 214, 2) := by decide +kernel
theorem dX12_told_18 : decode cX12_told 18 = .ok (.invokespecial 216, 3) := by decide +kernel
theorem dX12_told_21 : decode cX12_told 21 = .ok (.athrow, 1) := by decide +kernel
theorem dX12_told_22 : decode cX12_told 22 = .ok (.iload_n 3, 1) := by decide +kernel
theorem dX12_told_23 : decode cX12_told 23 = .ok (.ifCond .lt 21, 3) := by decide +kernel
theorem dX12_told_26 : decode cX12_told 26 = .ok (.iload_n 3, 1) := by decide +kernel
theorem dX12_told_27 : decode cX12_told 27 = .ok (.aload_n 0, 1) := by decide +kernel
theorem dX12_told_28 : decode cX12_told 28 = .ok (.getfield 19, 3) := by decide +kernel
theorem dX12_told_31 : decode cX12_told 31 = .ok (.getfield 81, 3) := by decide +kernel
theorem dX12_told_34 : decode cX12_told 34 = .ok (.iload_n 1, 1) := by decide +kernel
theorem dX12_told_35 : decode cX12_told 35 = .ok (.aaload, 1) := by decide +kernel
theorem dX12_told_36 : decode cX12_told 36 = .ok (.getfield 219, 3) := by decide +kernel
theorem dX12_told_39 : decode cX12_told 39 = .ok (.iload_n 2, 1) := by decide +kernel
theorem dX12_told_40 : decode cX12_told 40 = .ok (.iaload, 1) := by decide +kernel
theorem dX12_told_41 : decode cX12_told 41 = .ok (.if_icmp .lt 13, 3) := by decide +kernel
theorem dX12_told_44 : decode cX12_told 44 = .ok (.new 212, 3) := by decide +kernel
theorem dX12_told_47 : decode cX12_told 47 = .ok (.dup, 1) := by decide +kernel
theorem dX12_told_48 : decode cX12_told 48 = .ok (.ldc 222, 2) := by decide +kernel
theorem dX12_told_50 : decode cX12_told 50 = .ok (.invokespecial 216, 3) := by decide +kernel
theorem dX12_told_53 : decode cX12_told 53 = .ok (.athrow, 1) := by decide +kernel
theorem dX12_told_54 : decode cX12_told 54 = .ok (.aload_n 0, 1) := by decide +kernel
theorem dX12_told_55 : decode cX12_told 55 = .ok (.getfield 19, 3) := by decide +kernel
theorem dX12_told_58 : decode cX12_told 58 = .ok (.getfield 81, 3) := by decide +kernel
theorem dX12_told_61 : decode cX12_told 61 = .ok (.iload_n 1, 1) := by decide +kernel
theorem dX12_told_62 : decode cX12_told 62 = .ok (.aaload, 1) := by decide +kernel
theorem dX12_told_63 : decode cX12_told 63 = .ok (.iload_n 2, 1) := by decide +kernel
theorem dX12_told_64 : decode cX12_told 64 = .ok (.iload_n 3, 1) := by decide +kernel
theorem dX12_told_65 : decode cX12_told 65 = .ok (.invokevirtual 224, 3) := by decide +kernel
theorem dX12_told_68 : decode cX12_told 68 = .ok (.ireturn, 1) := by decide +kernel
theorem MX_getR {b : jMI} {Y : jG → Launch → State → Prop} {E : Nat → List (Nat × Value) → List Value → jPS → Prop} {d kc ks : Nat} {Q : Option Value → jPS → Prop} {pc : Nat} {ls : List (Nat × Value)} {st : List Value} {σ : jM} {idx ci j k q : Nat} (hF : jGF b.1 idx ci j 2) (hdg : decode b.2.2.1 pc = .ok (.getfield idx, 3)) (hq : gr σ.2.2 k j = some q) (hk : (shf k).1 = ci) (hn : k < 376) (K : JX b d kc ks Y E Q (pc + 3) ls (.ref q :: st) (ms σ)) : JX b d kc ks Y E Q pc ls (.ref k :: st) (ms σ) := JX_getR (S := ms σ) hq hF hdg hk hn K
theorem MX_iald {b : jMI} {Y : jG → Launch → State → Prop} {E : Nat → List (Nat × Value) → List Value → jPS → Prop} {d kc ks : Nat} {Q : Option Value → jPS → Prop} {pc : Nat} {ls : List (Nat × Value)} {st : List Value} {σ : jM} {k n : Nat} {i : Int32} (hdg : decode b.2.2.1 pc = .ok (.iaload, 1)) (hk : shf k = (14, n)) (hn : k < 376) (hin : inb i n) (K : JX b d kc ks Y E Q (pc + 1) ls (.int (rI σ k i.toNatClampNeg) :: st) (ms σ)) : JX b d kc ks Y E Q pc ls (.int i :: .ref k :: st) (ms σ) := JX_iald (S := ms σ) hdg hk hn (inb_vp hin) K
theorem MX_lald {b : jMI} {Y : jG → Launch → State → Prop} {E : Nat → List (Nat × Value) → List Value → jPS → Prop} {d kc ks : Nat} {Q : Option Value → jPS → Prop} {pc : Nat} {ls : List (Nat × Value)} {st : List Value} {σ : jM} {k n : Nat} {i : Int32} (hdg : decode b.2.2.1 pc = .ok (.laload, 1)) (hk : shf k = (15, n)) (hn : k < 376) (hin : inb i n) (K : JX b d kc ks Y E Q (pc + 1) ls (.long (rL σ k i.toNatClampNeg) :: st) (ms σ)) : JX b d kc ks Y E Q pc ls (.int i :: .ref k :: st) (ms σ) := JX_lald (S := ms σ) hdg hk hn (inb_vp hin) K
theorem MX_aald {b : jMI} {Y : jG → Launch → State → Prop} {E : Nat → List (Nat × Value) → List Value → jPS → Prop} {d kc ks : Nat} {Q : Option Value → jPS → Prop} {pc : Nat} {ls : List (Nat × Value)} {st : List Value} {σ : jM} {k n kd q : Nat} {i : Int32} (hdg : decode b.2.2.1 pc = .ok (.aaload, 1)) (hk : shf k = (kd, n)) (hkd : 17 ≤ kd ∧ kd ≤ 22) (hn : k < 376) (hin : inb i n) (hq : gr σ.2.2 k i.toNatClampNeg = some q) (K : JX b d kc ks Y E Q (pc + 1) ls (.ref q :: st) (ms σ)) : JX b d kc ks Y E Q pc ls (.int i :: .ref k :: st) (ms σ) := JX_aald (S := ms σ) hdg hk hkd hn (inb_vp hin) hq K
theorem MX_callVI {b : jMI} {Y : jG → Launch → State → Prop} {E : Nat → List (Nat × Value) → List Value → jPS → Prop} {d kc ks : Nat} {Q : Option Value → jPS → Prop} {pc : Nat} {ls : List (Nat × Value)} {st : List Value} {σ : jM} {b' : jMI} {d' idx n ci k : Nat} {As st0 : List Value} {ls' : List (Nat × Value)} {T : u_T} {N : Nat} {r : Int32 × jM} (hc : jCV b.1 idx b' n) (hdg : decode b.2.2.1 pc = .ok (.invokevirtual idx, 3)) (hci : vwCl[ci]? = some (b'.1, T, N)) (hc13 : ci < 13) (hn : As.length = n) (hw : (st.map (fun v => v.category)).sum ≤ 8) (hA : (lg_sl (.ref k :: As)).length ≤ b'.2.2.2.1) (hd : d' + 1 ≤ d) (hr : k < 376) (hk : (shf k).1 = ci) (hst : st0 = As.reverse ++ .ref k :: st) (hls : lv_args 0 (.ref k :: As) = ls') (hJ : J b' d' 0 0 (jqI r) 0 ls' [] (ms σ)) (K : JX b d kc ks Y E Q (pc + 3) ls (.int r.1 :: st) (ms r.2)) : JX b d kc ks Y E Q pc ls st0 (ms σ) := by
  subst hst
  subst hls
  exact JX_callV (S := ms σ) hc hdg hci hc13 hn hw hA hd hr hk hJ (fun v S' hq => by obtain ⟨rfl, rfl⟩ := hq; exact K)
noncomputable def f_X12_told (a1 a2 a3 : Int32) (σ : jM) : Option (Option Int32 × jM) :=
  bd (f_X0_hasWord a1 a2 σ) (fun r σ1 => if r = 0 then some (none, σ1) else if a3 < 0 then some (none, σ1) else gd (inb a1 24) (gd (inb a2 8) (if a3 < rI σ1 (tabX (Int32.toNatClampNeg a1) + 1) (Int32.toNatClampNeg a2) then bd (f_X10_signAt (Int32.toNatClampNeg a1) a2 a3 σ1) (fun v σ2 => some (some v, σ2)) else some (none, σ1))))
/-- where it throws -/
def tE (σ : jM) : Nat → List (Nat × Value) → List Value → jPS → Prop := fun pc _ st S => (pc = 12 ∨ pc = 44) ∧ st = [] ∧ S = ms σ
def jqT (r : Option Int32 × jM) : Option Value → jPS → Prop := fun v S => ∃ x, r.1 = some x ∧ v = some (.int x) ∧ S = ms r.2
theorem tE_mk {pc : Nat} {ls : List (Nat × Value)} {σ σ' : jM} (hpc : pc = 12 ∨ pc = 44) (h : some ((none : Option Int32), σ) = some (none, σ')) : tE σ' pc ls [] (ms σ) := by cases h; exact ⟨hpc, rfl, rfl⟩
set_option maxHeartbeats 4000000 in
theorem t_X12_told {Y : jG → Launch → State → Prop} {a1 a2 a3 : Int32} {σ : jM} {r : Option Int32 × jM} (h : f_X12_told a1 a2 a3 σ = some r) : JX mi_X12_told 7 0 0 Y (fun pc ls st S => r.1 = none ∧ tE r.2 pc ls st S) (jqT r) 0 [(0, .ref 0), (1, .int a1), (2, .int a2), (3, .int a3)] [] (ms σ) := by
  unfold f_X12_told at h
  refine JX_aload_n 0 dX12_told_0 rfl ?_
  refine MX_getR gf_X12_19_11 dX12_told_1 (g_0_0 _) k_0 n_0 ?_
  refine JX_iload_n 1 dX12_told_4 rfl ?_
  refine JX_iload_n 2 dX12_told_5 rfl ?_
  obtain ⟨r1, σ1, h1, h⟩ := bd_inv h
  refine MX_callVI (d' := 2) (k := 3) (As := [.int a1, .int a2]) (st := []) cv_X12_208 dX12_told_6 rfl (by decide) rfl (Nat.le_of_ble_eq_true rfl) (Nat.le_of_ble_eq_true rfl) (by decide) n_3 k_3 rfl rfl (t_X0_hasWord h1) ?_
  refine JX_if_ne (tgt := 22) dX12_told_9 (by decide) (fun c1 => ?_) (fun c1 => ?_)
  · have h := (if_neg c1).symm.trans h
    refine JX_iload_n 3 dX12_told_22 rfl ?_
    refine JX_if_lt (tgt := 44) dX12_told_23 (by decide) (fun c2 => ?_) (fun c2 => ?_)
    · have h := (if_pos c2).symm.trans h
      have e := Option.some.inj h
      subst e
      exact JX_exit ⟨rfl, Or.inr rfl, rfl, rfl⟩
    · have h := (if_neg c2).symm.trans h
      obtain ⟨g1, h⟩ := gd_inv h
      obtain ⟨g2, h⟩ := gd_inv h
      refine JX_iload_n 3 dX12_told_26 rfl ?_
      refine JX_aload_n 0 dX12_told_27 rfl ?_
      refine MX_getR gf_X12_19_11 dX12_told_28 (g_0_0 _) k_0 n_0 ?_
      refine MX_getR gf_X12_81_0 dX12_told_31 (g_3_1 _) k_3 n_3 ?_
      refine JX_iload_n 1 dX12_told_34 rfl ?_
      refine MX_aald dX12_told_35 a_4 (by decide) n_4 g1 (r_tab _ g1.2) ?_
      refine MX_getR gf_X12_219_9 dX12_told_36 (g_tab3 _ g1.2) (k_tab g1.2) (n_tab g1.2) ?_
      refine JX_iload_n 2 dX12_told_39 rfl ?_
      refine MX_iald dX12_told_40 (a_tab3 g1.2) (na_tab3 g1.2) g2 ?_
      refine JX_icmp_lt (tgt := 54) dX12_told_41 (by decide) (fun c3 => ?_) (fun c3 => ?_)
      · have h := (if_pos c3).symm.trans h
        obtain ⟨v, σ2, h2, h⟩ := bd_inv h
        have e := Option.some.inj h
        subst e
        refine JX_of ?_
        refine J_aload_n 0 dX12_told_54 rfl ?_
        refine M_getR gf_X12_19_11 dX12_told_55 (g_0_0 _) k_0 n_0 ?_
        refine M_getR gf_X12_81_0 dX12_told_58 (g_3_1 _) k_3 n_3 ?_
        refine J_iload_n 1 dX12_told_61 rfl ?_
        refine M_aald dX12_told_62 a_4 (by decide) n_4 g1 (r_tab _ g1.2) ?_
        refine J_iload_n 2 dX12_told_63 rfl ?_
        refine J_iload_n 3 dX12_told_64 rfl ?_
        refine M_callVI (d' := 1) (k := tabX (Int32.toNatClampNeg a1)) (As := [.int a2, .int a3]) (st := []) cv_X12_224 dX12_told_65 rfl (by decide) rfl (Nat.le_of_ble_eq_true rfl) (Nat.le_of_ble_eq_true rfl) (by decide) (n_tab g1.2) (k_tab g1.2) rfl rfl (t_X10_signAt g1.2 h2) ?_
        exact J_ret (v := some (.int v)) rfl ⟨dX12_told_68, Or.inl rfl⟩ ⟨v, rfl, rfl, rfl⟩
      · have h := (if_neg c3).symm.trans h
        have e := Option.some.inj h
        subst e
        exact JX_exit ⟨rfl, Or.inr rfl, rfl, rfl⟩
  · have h := (if_pos c1).symm.trans h
    have e := Option.some.inj h
    subst e
    exact JX_exit ⟨rfl, Or.inl rfl, rfl, rfl⟩
