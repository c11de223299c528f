theorem dX0_find_0 : decode cX0_find 0 = .ok (.iload_n 2, 1) := by decide +kernel
theorem dX0_find_1 : decode cX0_find 1 = .ok (.ifCond .ge 5, 3) := by decide +kernel
theorem dX0_find_4 : decode cX0_find 4 = .ok (.aconst_null, 1) := by decide +kernel
theorem dX0_find_5 : decode cX0_find 5 = .ok (.areturn, 1) := by decide +kernel
theorem dX0_find_6 : decode cX0_find 6 = .ok (.iload_n 1, 1) := by decide +kernel
theorem dX0_find_7 : decode cX0_find 7 = .ok (.tableswitch 82 0 2 #[25, 44, 63], 25) := by decide +kernel
theorem dX0_find_32 : decode cX0_find 32 = .ok (.iload_n 2, 1) := by decide +kernel
theorem dX0_find_33 : decode cX0_find 33 = .ok (.aload_n 0, 1) := by decide +kernel
theorem dX0_find_34 : decode cX0_find 34 = .ok (.getfield 61, 3) := by decide +kernel
theorem dX0_find_37 : decode cX0_find 37 = .ok (.if_icmp .ge 12, 3) := by decide +kernel
theorem dX0_find_40 : decode cX0_find 40 = .ok (.aload_n 0, 1) := by decide +kernel
theorem dX0_find_41 : decode cX0_find 41 = .ok (.getfield 11, 3) := by decide +kernel
theorem dX0_find_44 : decode cX0_find 44 = .ok (.iload_n 2, 1) := by decide +kernel
theorem dX0_find_45 : decode cX0_find 45 = .ok (.aaload, 1) := by decide +kernel
theorem dX0_find_46 : decode cX0_find 46 = .ok (.goto 4, 3) := by decide +kernel
theorem dX0_find_49 : decode cX0_find 49 = .ok (.aconst_null, 1) := by decide +kernel
theorem dX0_find_50 : decode cX0_find 50 = .ok (.areturn, 1) := by decide +kernel
theorem dX0_find_51 : decode cX0_find 51 = .ok (.iload_n 2, 1) := by decide +kernel
theorem dX0_find_52 : decode cX0_find 52 = .ok (.aload_n 0, 1) := by decide +kernel
theorem dX0_find_53 : decode cX0_find 53 = .ok (.getfield 74, 3) := by decide +kernel
theorem dX0_find_56 : decode cX0_find 56 = .ok (.if_icmp .ge 12, 3) := by decide +kernel
theorem dX0_find_59 : decode cX0_find 59 = .ok (.aload_n 0, 1) := by decide +kernel
theorem dX0_find_60 : decode cX0_find 60 = .ok (.getfield 25, 3) := by decide +kernel
theorem dX0_find_63 : decode cX0_find 63 = .ok (.iload_n 2, 1) := by decide +kernel
theorem dX0_find_64 : decode cX0_find 64 = .ok (.aaload, 1) := by decide +kernel
theorem dX0_find_65 : decode cX0_find 65 = .ok (.goto 4, 3) := by decide +kernel
theorem dX0_find_68 : decode cX0_find 68 = .ok (.aconst_null, 1) := by decide +kernel
theorem dX0_find_69 : decode cX0_find 69 = .ok (.areturn, 1) := by decide +kernel
theorem dX0_find_70 : decode cX0_find 70 = .ok (.iload_n 2, 1) := by decide +kernel
theorem dX0_find_71 : decode cX0_find 71 = .ok (.aload_n 0, 1) := by decide +kernel
theorem dX0_find_72 : decode cX0_find 72 = .ok (.getfield 71, 3) := by decide +kernel
theorem dX0_find_75 : decode cX0_find 75 = .ok (.if_icmp .ge 12, 3) := by decide +kernel
theorem dX0_find_78 : decode cX0_find 78 = .ok (.aload_n 0, 1) := by decide +kernel
theorem dX0_find_79 : decode cX0_find 79 = .ok (.getfield 31, 3) := by decide +kernel
theorem dX0_find_82 : decode cX0_find 82 = .ok (.iload_n 2, 1) := by decide +kernel
theorem dX0_find_83 : decode cX0_find 83 = .ok (.aaload, 1) := by decide +kernel
theorem dX0_find_84 : decode cX0_find 84 = .ok (.goto 4, 3) := by decide +kernel
theorem dX0_find_87 : decode cX0_find 87 = .ok (.aconst_null, 1) := by decide +kernel
theorem dX0_find_88 : decode cX0_find 88 = .ok (.areturn, 1) := by decide +kernel
theorem dX0_find_89 : decode cX0_find 89 = .ok (.aconst_null, 1) := by decide +kernel
theorem dX0_find_90 : decode cX0_find 90 = .ok (.areturn, 1) := by decide +kernel
theorem dX12_away_0 : decode cX12_away 0 = .ok (.aload_n 0, 1) := by decide +kernel
theorem dX12_away_1 : decode cX12_away 1 = .ok (.getfield 19, 3) := by decide +kernel
theorem dX12_away_4 : decode cX12_away 4 = .ok (.iload_n 1, 1) := by decide +kernel
theorem dX12_away_5 : decode cX12_away 5 = .ok (.iload_n 2, 1) := by decide +kernel
theorem dX12_away_6 : decode cX12_away 6 = .ok (.invokevirtual 122, 3) := by decide +kernel
theorem dX12_away_9 : decode cX12_away 9 = .ok (.astore_n 3, 1) := by decide +kernel
theorem dX12_away_10 : decode cX12_away 10 = .ok (.aload_n 3, 1) := by decide +kernel
theorem dX12_away_11 : decode cX12_away 11 = .ok (.ifnull 11, 3) := by decide +kernel
theorem dX12_away_14 : decode cX12_away 14 = .ok (.aload_n 3, 1) := by decide +kernel
theorem dX12_away_15 : decode cX12_away 15 = .ok (.getfield 126, 3) := by decide +kernel
theorem dX12_away_18 : decode cX12_away 18 = .ok (.iconst (-1), 1) := by decide +kernel
theorem dX12_away_19 : decode cX12_away 19 = .ok (.if_icmp .eq 5, 3) := by decide +kernel
theorem dX12_away_22 : decode cX12_away 22 = .ok (.iconst 0, 1) := by decide +kernel
theorem dX12_away_23 : decode cX12_away 23 = .ok (.ireturn, 1) := by decide +kernel
theorem dX12_away_24 : decode cX12_away 24 = .ok (.aload_n 3, 1) := by decide +kernel
theorem dX12_away_25 : decode cX12_away 25 = .ok (.aload_n 0, 1) := by decide +kernel
theorem dX12_away_26 : decode cX12_away 26 = .ok (.getfield 19, 3) := by decide +kernel
theorem dX12_away_29 : decode cX12_away 29 = .ok (.getfield 66, 3) := by decide +kernel
theorem dX12_away_32 : decode cX12_away 32 = .ok (.putfield 126, 3) := by decide +kernel
theorem dX12_away_35 : decode cX12_away 35 = .ok (.aload_n 0, 1) := by decide +kernel
theorem dX12_away_36 : decode cX12_away 36 = .ok (.invokevirtual 97, 3) := by decide +kernel
theorem dX12_away_39 : decode cX12_away 39 = .ok (.iconst 1, 1) := by decide +kernel
theorem dX12_away_40 : decode cX12_away 40 = .ok (.ireturn, 1) := by decide +kernel
/-- Archive.find: what is there under a number -/
noncomputable def f_X0_find (a1 a2 : Int32) (σ : jM) : Option (Option Nat × jM) :=
  (if 0 ≤ a2 then (if a1 = 0 then (if rI σ 3 2 ≤ a2 then some (none, σ) else gd (inb a2 24) (some (some (tabX a2.toNatClampNeg), σ)))
    else (if a1 = 1 then (if rI σ 3 6 ≤ a2 then some (none, σ) else gd (inb a2 60) (some (some (shaX a2.toNatClampNeg), σ)))
    else (if a1 = 2 then (if rI σ 3 8 ≤ a2 then some (none, σ) else gd (inb a2 6) (some (some (namX a2.toNatClampNeg), σ)))
    else some (none, σ)))) else some (none, σ))
theorem find_kind {a1 a2 : Int32} {σ σ1 : jM} {k : Nat} (h : f_X0_find a1 a2 σ = some (some k, σ1)) : ((shf k).1 = 9 ∨ (shf k).1 = 8 ∨ (shf k).1 = 5) ∧ k < 376 := by
  unfold f_X0_find at h
  split at h
  · split at h
    · split at h
      · cases h
      · obtain ⟨g, h⟩ := gd_inv h
        cases h
        exact ⟨Or.inl (k_tab g.2), n_tab g.2⟩
    · split at h
      · split at h
        · cases h
        · obtain ⟨g, h⟩ := gd_inv h
          cases h
          exact ⟨Or.inr (Or.inl (k_sha g.2)), n_sha g.2⟩
      · split at h
        · split at h
          · cases h
          · obtain ⟨g, h⟩ := gd_inv h
            cases h
            exact ⟨Or.inr (Or.inr (k_nam g.2)), n_nam g.2⟩
        · cases h
  · cases h
theorem find_nul {pc : Nat} {ls : List (Nat × Value)} {σ : jM} {r : Option Nat × jM} (hd : decode cX0_find pc = .ok (.areturn, 1)) (h : some (none, σ) = some r) : J mi_X0_find 1 0 0 (jqR r) pc ls [.null] (ms σ) := J_ret (v := some .null) rfl ⟨hd, _, rfl⟩ (jqN_mk h)
theorem find_ref {pc q : Nat} {ls : List (Nat × Value)} {σ : jM} {r : Option Nat × jM} (hd : decode cX0_find pc = .ok (.areturn, 1)) (h : some (some q, σ) = some r) : J mi_X0_find 1 0 0 (jqR r) pc ls [.ref q] (ms σ) := J_ret (v := some (.ref q)) rfl ⟨hd, _, rfl⟩ (jqR_mk h)
set_option maxRecDepth 20000 in
theorem t_X0_find {a1 a2 : Int32} {σ : jM} {r : Option Nat × jM} (h : f_X0_find a1 a2 σ = some r) : J mi_X0_find 1 0 0 (jqR r) 0 [(0, .ref 3), (1, .int a1), (2, .int a2)] [] (ms σ) := by
  unfold f_X0_find at h
  refine J_iload_n 2 dX0_find_0 rfl ?_
  refine J_if_ge (tgt := 6) dX0_find_1 (by decide) (fun c1 => ?_) (fun c1 => ?_)
  · have h := (if_pos c1).symm.trans h
    refine J_iload_n 1 dX0_find_6 rfl ?_
    by_cases e0 : a1 = 0
    · have h := (if_pos e0).symm.trans h
      refine J_tableIn (off := 25) (tgt := 32) dX0_find_7 (by rw [e0]; decide) (by rw [e0]; decide) (by rw [e0]; decide) (by decide) ?_
      refine J_iload_n 2 dX0_find_32 rfl ?_
      refine J_aload_n 0 dX0_find_33 rfl ?_
      refine M_getI gf_X0_61_0 dX0_find_34 k_3 n_3 ?_
      refine J_icmp_ge (tgt := 49) dX0_find_37 (by decide) (fun c2 => ?_) (fun c2 => ?_)
      · have h := (if_pos c2).symm.trans h
        refine J_null dX0_find_49 ?_
        exact find_nul dX0_find_50 h
      · have h := (if_neg c2).symm.trans h
        obtain ⟨g1, h⟩ := gd_inv h
        refine J_aload_n 0 dX0_find_40 rfl ?_
        refine M_getR gf_X0_11_0 dX0_find_41 (g_3_1 _) k_3 n_3 ?_
        refine J_iload_n 2 dX0_find_44 rfl ?_
        refine M_aald dX0_find_45 a_4 (by decide) n_4 g1 (r_tab _ g1.2) ?_
        refine J_goto (tgt := 50) dX0_find_46 (by decide) ?_
        exact find_ref dX0_find_50 h
    · have h := (if_neg e0).symm.trans h
      by_cases e1 : a1 = 1
      · have h := (if_pos e1).symm.trans h
        refine J_tableIn (off := 44) (tgt := 51) dX0_find_7 (by rw [e1]; decide) (by rw [e1]; decide) (by rw [e1]; decide) (by decide) ?_
        refine J_iload_n 2 dX0_find_51 rfl ?_
        refine J_aload_n 0 dX0_find_52 rfl ?_
        refine M_getI gf_X0_74_0 dX0_find_53 k_3 n_3 ?_
        refine J_icmp_ge (tgt := 68) dX0_find_56 (by decide) (fun c2 => ?_) (fun c2 => ?_)
        · have h := (if_pos c2).symm.trans h
          refine J_null dX0_find_68 ?_
          exact find_nul dX0_find_69 h
        · have h := (if_neg c2).symm.trans h
          obtain ⟨g1, h⟩ := gd_inv h
          refine J_aload_n 0 dX0_find_59 rfl ?_
          refine M_getR gf_X0_25_0 dX0_find_60 (g_3_5 _) k_3 n_3 ?_
          refine J_iload_n 2 dX0_find_63 rfl ?_
          refine M_aald dX0_find_64 a_6 (by decide) n_6 g1 (r_sha _ g1.2) ?_
          refine J_goto (tgt := 69) dX0_find_65 (by decide) ?_
          exact find_ref dX0_find_69 h
      · have h := (if_neg e1).symm.trans h
        by_cases e2 : a1 = 2
        · have h := (if_pos e2).symm.trans h
          refine J_tableIn (off := 63) (tgt := 70) dX0_find_7 (by rw [e2]; decide) (by rw [e2]; decide) (by rw [e2]; decide) (by decide) ?_
          refine J_iload_n 2 dX0_find_70 rfl ?_
          refine J_aload_n 0 dX0_find_71 rfl ?_
          refine M_getI gf_X0_71_0 dX0_find_72 k_3 n_3 ?_
          refine J_icmp_ge (tgt := 87) dX0_find_75 (by decide) (fun c2 => ?_) (fun c2 => ?_)
          · have h := (if_pos c2).symm.trans h
            refine J_null dX0_find_87 ?_
            exact find_nul dX0_find_88 h
          · have h := (if_neg c2).symm.trans h
            obtain ⟨g1, h⟩ := gd_inv h
            refine J_aload_n 0 dX0_find_78 rfl ?_
            refine M_getR gf_X0_31_0 dX0_find_79 (g_3_7 _) k_3 n_3 ?_
            refine J_iload_n 2 dX0_find_82 rfl ?_
            refine M_aald dX0_find_83 a_7 (by decide) n_7 g1 (r_nam _ g1.2) ?_
            refine J_goto (tgt := 88) dX0_find_84 (by decide) ?_
            exact find_ref dX0_find_88 h
        · have h := (if_neg e2).symm.trans h
          refine J_tableOut (tgt := 89) dX0_find_7 (sw_out 0 2 (by decide) (fun v hv1 hv2 => ?_)) (by decide) ?_
          · rcases (by omega : v = 0 ∨ v = 1 ∨ v = 2) with rfl | rfl | rfl
            · exact e0
            · exact e1
            · exact e2
          · refine J_null dX0_find_89 ?_
            exact find_nul dX0_find_90 h
  · have h := (if_neg c1).symm.trans h
    refine J_null dX0_find_4 ?_
    exact find_nul dX0_find_5 h

theorem J_astore_nN {b : jMI} {d kc ks : Nat} {Q : Option Value → jPS → Prop} {pc : Nat} {ls : List (Nat × Value)} {st : List Value} {S : jPS} {j : Fin 4} {i : Nat} {ls' : List (Nat × Value)} (hdg : decode b.2.2.1 pc = .ok (.astore_n j, 1)) (hi : (j : Nat) = i) (hn : i < b.2.2.2.1) (hl : (i, Value.null) :: ls.filter (fun q => !(q.1 == i) && !(q.1 + 1 == i && q.2.category == 2)) = ls') (k : J b d kc ks Q (pc + 1) ls' st S) : J b d kc ks Q pc ls (.null :: st) S := by
  intro g p l e R s m args below meth c cells slots Z C Rt H locs lsA hv hP hS
  refine lv_astore_nN (lv' := jlv g ls') C.1.1 C.1.2.1 hdg hi hv hn ?_ (fun lsB hB => k g p l e R s m args below meth c cells slots Z C Rt H locs lsB hB hP hS)
  rw [← hl]
  show _ :: _ = _ :: _
  congr 1
  exact jlv_filter g ls (fun a t => !(a == i) && !(a + 1 == i && t == 2))
theorem J_aload_nN {b : jMI} {d kc ks : Nat} {Q : Option Value → jPS → Prop} {pc : Nat} {ls : List (Nat × Value)} {st : List Value} {S : jPS} {i : Fin 4} (q : Nat) (hdg : decode b.2.2.1 pc = .ok (.aload_n i, 1)) (hl : ls[q]? = some ((i : Nat), Value.null)) (k : J b d kc ks Q (pc + 1) ls (.null :: st) S) : J b d kc ks Q pc ls st S := by
  intro g p l e R s m args below meth c cells slots Z C Rt H locs lsA hv hP hS
  exact lv_aload_nN C.1.1 C.1.2.1 hdg rfl (jlv_at hv hl) (k g p l e R s m args below meth c cells slots Z C Rt H locs lsA hv hP hS)
noncomputable def f_X12_away (a1 a2 : Int32) (σ : jM) : Option (Int32 × jM) :=
  bd (f_X0_find a1 a2 σ) (fun q σ1 => match q with
    | none => some (0, σ1)
    | some k => if rI σ1 k 1 = -1 then bd (f_X12_forgetView (wI σ1 k 1 (rI σ1 3 0))) (fun _ σ3 => some (1, σ3)) else some (0, σ1))
theorem away_put {k ci : Nat} {a1 a2 : Int32} {σ : jM} {r : Int32 × jM} (hgf : jGF RX12 126 ci 1 0) (hpf : jPF RX12 126 ci 1 0 false) (hty : jty ci 1 = .int) (hk : (shf k).1 = ci) (hn : k < 376) (h : (if rI σ k 1 = -1 then bd (f_X12_forgetView (wI σ k 1 (rI σ 3 0))) (fun _ σ3 => some ((1 : Int32), σ3)) else some (0, σ)) = some r) : J mi_X12_away 2 0 0 (jqI r) 14 [(3, .ref k), (0, .ref 0), (1, .int a1), (2, .int a2)] [] (ms σ) := by
  refine J_aload_n 0 dX12_away_14 rfl ?_
  refine M_getI hgf dX12_away_15 hk hn ?_
  refine J_iconst (v := -1) dX12_away_18 (by decide) ?_
  refine J_icmp_eq (tgt := 24) dX12_away_19 (by decide) (fun c1 => ?_) (fun c1 => ?_)
  · have h := (if_pos c1).symm.trans h
    obtain ⟨_, σ3, h3, h⟩ := bd_inv h
    refine J_aload_n 0 dX12_away_24 rfl ?_
    refine J_aload_n 1 dX12_away_25 rfl ?_
    refine M_getR gf_X12_19_11 dX12_away_26 (g_0_0 _) k_0 n_0 ?_
    refine M_getI gf_X12_66_0 dX12_away_29 k_3 n_3 ?_
    refine M_putI hpf dX12_away_32 hk hn (by rw [hty]; exact ⟨rfl, rfl⟩) ?_
    refine J_aload_n 1 dX12_away_35 rfl ?_
    refine M_callVV (d' := 1) (k := 0) (As := []) (st := []) cv_X12_97 dX12_away_36 rfl (by decide) rfl (Nat.le_of_ble_eq_true rfl) (Nat.le_of_ble_eq_true rfl) (by decide) n_0 k_0 rfl rfl (t_X12_forgetView h3) ?_
    refine J_iconst (v := 1) dX12_away_39 (by decide) ?_
    exact J_ret (v := some (.int 1)) rfl ⟨dX12_away_40, Or.inr (Or.inl ⟨rfl, Or.inr rfl⟩)⟩ (jqI_mk h)
  · have h := (if_neg c1).symm.trans h
    refine J_iconst (v := 0) dX12_away_22 (by decide) ?_
    exact J_ret (v := some (.int 0)) rfl ⟨dX12_away_23, Or.inr (Or.inl ⟨rfl, Or.inl rfl⟩)⟩ (jqI_mk h)
theorem t_X12_away {a1 a2 : Int32} {σ : jM} {r : Int32 × jM} (h : f_X12_away a1 a2 σ = some r) : J mi_X12_away 2 0 0 (jqI r) 0 [(0, .ref 0), (1, .int a1), (2, .int a2)] [] (ms σ) := by
  unfold f_X12_away at h
  obtain ⟨q, σ1, h1, h⟩ := bd_inv h
  refine J_aload_n 0 dX12_away_0 rfl ?_
  refine M_getR gf_X12_19_11 dX12_away_1 (g_0_0 _) k_0 n_0 ?_
  refine J_iload_n 1 dX12_away_4 rfl ?_
  refine J_iload_n 2 dX12_away_5 rfl ?_
  refine M_callVR (d' := 1) (k := 3) (As := [.int a1, .int a2]) (st := []) cv_X12_122 dX12_away_6 rfl (by decide) rfl (Nat.le_of_ble_eq_true rfl) (Nat.le_of_ble_eq_true rfl) (by decide) n_3 k_3 rfl rfl (t_X0_find h1) ?_
  cases q with
  | none =>
    refine J_astore_nN (i := 3) (ls' := [(3, .null), (0, .ref 0), (1, .int a1), (2, .int a2)]) dX12_away_9 rfl (by decide) rfl ?_
    refine J_aload_nN 0 dX12_away_10 rfl ?_
    refine J_ifnullN (tgt := 22) dX12_away_11 (by decide) ?_
    refine J_iconst (v := 0) dX12_away_22 (by decide) ?_
    exact J_ret (v := some (.int 0)) rfl ⟨dX12_away_23, Or.inr (Or.inl ⟨rfl, Or.inl rfl⟩)⟩ (jqI_mk h)
  | some k =>
    obtain ⟨hk, hn⟩ := find_kind h1
    refine J_astore_n (i := 3) (ls' := [(3, .ref k), (0, .ref 0), (1, .int a1), (2, .int a2)]) dX12_away_9 rfl (by decide) rfl ?_
    refine J_aload_n 0 dX12_away_10 rfl ?_
    refine J_ifnullR dX12_away_11 ?_
    rcases hk with hk | hk | hk
    · exact away_put gf_X12_126_9 pf_X12_126_9 rfl hk hn h
    · exact away_put gf_X12_126_8 pf_X12_126_8 rfl hk hn h
    · exact away_put gf_X12_126_5 pf_X12_126_5 rfl hk hn h

