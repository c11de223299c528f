/-! THE LAW AS A WHOLE OVER PURE CELLS: one call, class and reference answer alike -/
def lw_op (k : Nat) (a1 a2 a3 a4 a5 : Int32) (σ σ' : jM) : Prop := match k with
  | 0 => ∃ (r : Int32) (σ1 : jM), f_X12_day a1 σ = some (r, σ1) ∧ f_X13_day a1 σ1 = some (r, σ')
  | 1 => ∃ (r : Int32) (σ1 : jM), f_X12_feed a1 a2 a3 a4 a5 σ = some (r, σ1) ∧ f_X13_feed a1 a2 a3 a4 a5 σ1 = some (r, σ')
  | 2 => ∃ (r : Int32) (σ1 : jM), f_X12_end a1 σ = some (r, σ1) ∧ f_X13_end a1 σ1 = some (r, σ')
  | 3 => ∃ (r : Int32) (σ1 : jM), f_X12_tablet σ = some (r, σ1) ∧ f_X13_tablet σ1 = some (r, σ')
  | 4 => ∃ (r : Int32) (σ1 : jM), f_X12_rules σ = some (r, σ1) ∧ f_X13_rules σ1 = some (r, σ')
  | 5 => ∃ (r : Int32) (σ1 : jM), f_X12_place σ = some (r, σ1) ∧ f_X13_place σ1 = some (r, σ')
  | 6 => ∃ (r : Int32) (σ1 : jM), f_X12_away a1 a2 σ = some (r, σ1) ∧ f_X13_away a1 a2 σ1 = some (r, σ')
  | 7 => ∃ (r : Int32) (σ1 : jM), f_X12_trust a1 a2 σ = some (r, σ1) ∧ f_X13_trust a1 a2 σ1 = some (r, σ')
  | 8 => ∃ (r : Int32) (σ1 : jM), f_X12_holds a1 a2 a3 a4 σ = some (r, σ1) ∧ f_X13_holds a1 a2 a3 a4 σ1 = some (r, σ')
  | 9 => ∃ (r : Int32) (σ1 : jM), f_X12_sign a1 a2 σ = some (r, σ1) ∧ f_X13_sign a1 a2 σ1 = some (r, σ')
  | 10 => ∃ (r : Option Int32 × jM) (b : Int32) (σ2 : jM), f_X12_told a1 a2 a3 σ = some r ∧ f_X13_told a1 a2 a3 (f_L_told2 r).2 = some (b, σ2) ∧ f_X13_thrown σ2 = some ((f_L_told2 r).1, σ') ∧ ((f_L_told2 r).1 = 0 → rL σ' 375 0 = b.toInt64)
  | 11 => ∃ (r : Int32) (σ1 : jM), f_X12_share a1 a2 a3 (if a4 = 0 then 0 else 1) σ = some (r, σ1) ∧ f_X13_share a1 a2 a3 (if a4 = 0 then 0 else 1) σ1 = some (r, σ')
  | 12 => ∃ (r : Int32) (σ1 : jM), f_X12_pairs a1 a2 a3 a4 σ = some (r, σ1) ∧ f_X13_pairs a1 a2 a3 a4 σ1 = some (r, σ')
  | 13 => ∃ (r : Int32) (σ1 : jM), f_X12_links a1 a2 σ = some (r, σ1) ∧ f_X13_links_ a1 a2 σ1 = some (r, σ')
  | 14 => ∃ (r : Int32) (σ1 : jM), f_X12_classOf a1 a2 a3 σ = some (r, σ1) ∧ f_X13_classOf a1 a2 a3 σ1 = some (r, σ')
  | 15 => ∃ (r : Int32) (σ1 : jM), f_X12_clash a1 a2 σ = some (r, σ1) ∧ f_X13_clash a1 a2 σ1 = some (r, σ')
  | 16 => ∃ (r : Int32) (σ1 : jM), f_X12_reason a1 a2 a3 σ = some (r, σ1) ∧ f_X13_reason a1 a2 a3 σ1 = some (r, σ')
  | 17 => ∃ (r : Int32) (σ1 : jM), f_X12_name a1 σ = some (r, σ1) ∧ f_X13_name a1 σ1 = some (r, σ')
  | 18 => ∃ (r : Int32) (σ1 : jM), f_X12_spelled a1 a2 σ = some (r, σ1) ∧ f_X13_spelled a1 a2 σ1 = some (r, σ')
  | 19 => ∃ (r : Int32) (σ1 : jM), f_X12_cell a1 a2 a3 σ = some (r, σ1) ∧ f_X13_cell a1 a2 a3 σ1 = some (r, σ')
  | 20 => ∃ (r : Int32) (σ1 : jM), f_X12_ways a1 σ = some (r, σ1) ∧ f_X13_ways a1 σ1 = some (r, σ')
  | 21 => ∃ (r : Int32) (σ1 : jM), f_X12_way a1 a2 a3 σ = some (r, σ1) ∧ f_X13_way a1 a2 a3 σ1 = some (r, σ')
  | 22 => ∃ (r : Int32) (σ1 : jM), f_X12_given a1 a2 a3 σ = some (r, σ1) ∧ f_X13_given a1 a2 a3 σ1 = some (r, σ')
  | 23 => ∃ (r : Int32) (σ1 : jM), f_X12_forced a1 a2 σ = some (r, σ1) ∧ f_X13_forced a1 a2 σ1 = some (r, σ')
  | 24 => ∃ (r : Int32) (σ1 : jM), f_X12_reads a1 a2 a3 σ = some (r, σ1) ∧ f_X13_reads a1 a2 a3 σ1 = some (r, σ')
  | 25 => ∃ (r : Int32) (σ1 : jM), f_X12_letter a1 σ = some (r, σ1) ∧ f_X13_letter a1 σ1 = some (r, σ')
  | 26 => ∃ (r : Int32) (σ1 : jM), f_X12_settles a1 a2 σ = some (r, σ1) ∧ f_X13_settles a1 a2 σ1 = some (r, σ')
  | 27 => ∃ (r : Int32) (σ1 : jM), f_X12_would a1 a2 σ = some (r, σ1) ∧ f_X13_would a1 a2 σ1 = some (r, σ')
  | 28 => ∃ (r : Int32) (σ1 : jM), f_X12_fits a1 σ = some (r, σ1) ∧ f_X13_fits a1 σ1 = some (r, σ')
  | 29 => ∃ (r : Int32) (σ1 : jM), f_X12_doubt a1 a2 σ = some (r, σ1) ∧ f_X13_doubt a1 a2 σ1 = some (r, σ')
  | 30 => ∃ (r : Int32) (σ1 : jM), f_X12_could a1 a2 a3 a4 σ = some (r, σ1) ∧ f_X13_could a1 a2 a3 a4 σ1 = some (r, σ')
  | 31 => ∃ (r : Int32) (σ1 : jM), f_X12_inGrid a1 a2 σ = some (r, σ1) ∧ f_X13_inGrid a1 a2 σ1 = some (r, σ')
  | 32 => ∃ (r : Int32) (σ1 : jM), f_X12_where a1 σ = some (r, σ1) ∧ f_X13_where a1 σ1 = some (r, σ')
  | 33 => ∃ (r : Int32) (σ1 : jM), f_X12_often a1 a2 a3 σ = some (r, σ1) ∧ f_X13_often a1 a2 a3 σ1 = some (r, σ')
  | 34 => ∃ (r : Int32) (σ1 : jM), f_X12_rank a1 a2 σ = some (r, σ1) ∧ f_X13_rank a1 a2 σ1 = some (r, σ')
  | 35 => ∃ (r : Int32) (σ1 : jM), f_X12_count a1 σ = some (r, σ1) ∧ f_X13_count a1 σ1 = some (r, σ')
  | _ => σ' = σ
theorem lg_cmp_self (x : Int64) : lg_cmp x x = 0 := by unfold lg_cmp; rw [if_neg Int64.lt_irrefl, if_pos rfl]
theorem lc_10 {kc ks : Nat} {L : Nat} {xs : Nat → Int32} {Q : Option Value → jPS → Prop} {i : Int32} {σ : jM} {a1 a2 a3 b : Int32} {r : Option Int32 × jM} {σ1 σ2 : jM} (hx1 : vp_in (i + 1) L ∧ xs (i + 1).toNatClampNeg = a1) (hx2 : vp_in (i + 2) L ∧ xs (i + 2).toNatClampNeg = a2) (hx3 : vp_in (i + 3) L ∧ xs (i + 3).toNatClampNeg = a3) (h1 : f_X12_told a1 a2 a3 σ = some r) (h2 : f_X13_told a1 a2 a3 (f_L_told2 r).2 = some (b, σ1)) (h3 : f_X13_thrown σ1 = some ((f_L_told2 r).1, σ2)) (h4 : (f_L_told2 r).1 = 0 → rL σ2 375 0 = b.toInt64) (K : JX mi_L_law 20 kc ks (jYL L xs) (fun _ _ _ _ => False) Q 1639 (lsL i) [] (ms σ2)) : JX mi_L_law 20 (1 + kc) (6 + ks) (jYL L xs) (fun _ _ _ _ => False) Q 534 (lsL i) [] (ms σ) := by
  refine JX_aload_n 1 dL_law_534 rfl ?_
  refine JX_aload_n 0 dL_law_535 rfl ?_
  refine JX_iload 4 dL_law_536 rfl ?_
  refine JX_iconst (v := 1) dL_law_538 (by decide) ?_
  refine JX_iadd dL_law_539 ?_
  refine JX_sld dL_law_540 hx1.1 hx1.2 ?_
  refine JX_aload_n 0 dL_law_541 rfl ?_
  refine JX_iload 4 dL_law_542 rfl ?_
  refine JX_iconst (v := 2) dL_law_544 (by decide) ?_
  refine JX_iadd dL_law_545 ?_
  refine JX_sld dL_law_546 hx2.1 hx2.2 ?_
  refine JX_aload_n 0 dL_law_547 rfl ?_
  refine JX_iload 4 dL_law_548 rfl ?_
  refine JX_iconst (v := 3) dL_law_550 (by decide) ?_
  refine JX_iadd dL_law_551 ?_
  refine JX_sld dL_law_552 hx3.1 hx3.2 ?_
  refine JX_aload_n 3 dL_law_553 rfl ?_
  refine JX_ltold dL_law_554 (by decide) h1 ?_
  refine JX_istore (i := 5) (ls' := (5, .int (f_L_told2 r).1) :: lsL i) dL_law_557 (by decide) rfl ?_
  refine JX_aload_n 3 dL_law_559 rfl ?_
  refine JX_aload_n 1 dL_law_560 rfl ?_
  refine JX_iload 5 dL_law_561 rfl ?_
  refine JX_iconst (v := 1) dL_law_563 (by decide) ?_
  refine JX_iadd dL_law_564 ?_
  refine JX_sld dL_law_565 hx1.1 hx1.2 ?_
  refine JX_aload_n 1 dL_law_566 rfl ?_
  refine JX_iload 5 dL_law_567 rfl ?_
  refine JX_iconst (v := 2) dL_law_569 (by decide) ?_
  refine JX_iadd dL_law_570 ?_
  refine JX_sld dL_law_571 hx2.1 hx2.2 ?_
  refine JX_aload_n 1 dL_law_572 rfl ?_
  refine JX_iload 5 dL_law_573 rfl ?_
  refine JX_iconst (v := 3) dL_law_575 (by decide) ?_
  refine JX_iadd dL_law_576 ?_
  refine JX_sld dL_law_577 hx3.1 hx3.2 ?_
  refine MX_callVI (d' := 2) (k := 324) (As := [.int a1, .int a2, .int a3]) (st := []) cv_L_70 dL_law_578 rfl (by decide) rfl (Nat.le_of_ble_eq_true rfl) (Nat.le_of_ble_eq_true rfl) (by decide) n_324 k_324 rfl rfl (t_X13_told h2) ?_
  refine JX_istore (i := 6) (ls' := (6, .int b) :: (5, .int (f_L_told2 r).1) :: lsL i) dL_law_581 (by decide) rfl ?_
  refine JX_aload_n 4 dL_law_583 rfl ?_
  refine MX_callVI (d' := 1) (k := 324) (As := []) (st := []) cv_L_71 dL_law_584 rfl (by decide) rfl (Nat.le_of_ble_eq_true rfl) (Nat.le_of_ble_eq_true rfl) (by decide) n_324 k_324 rfl rfl (t_X13_thrown h3) ?_
  refine JX_iload 1 dL_law_587 rfl ?_
  refine JX_icmp_eq (tgt := 594) dL_law_589 (by decide) (fun _ => ?_) (fun z => absurd rfl z)
  refine JX_iload 1 dL_law_594 rfl ?_
  have K2 : JX mi_L_law 20 kc ks (jYL L xs) (fun _ _ _ _ => False) Q 611 ((6, .int b) :: (5, .int (f_L_told2 r).1) :: lsL i) [] (ms σ2) := JX_goto (tgt := 1639) dL_law_611 (by decide) (JX_pick [2, 3, 4, 5, 6] rfl K)
  refine JX_if_ne (tgt := 611) dL_law_596 (by decide) (fun _ => K2) (fun z => ?_)
  refine JX_aload_n 5 dL_law_599 rfl ?_
  refine JX_iconst (v := 0) dL_law_600 (by decide) ?_
  refine MX_lald (n := 1) dL_law_601 (by decide +kernel) (by decide) (by decide) ?_
  refine JX_iload 0 dL_law_602 rfl ?_
  refine JX_i2l dL_law_604 ?_
  refine JX_lcmp dL_law_605 ?_
  refine JX_if_eq (tgt := 611) dL_law_606 (by decide) (fun _ => K2) (fun w => absurd ?_ w)
  show lg_cmp (rL σ2 375 0) b.toInt64 = 0
  rw [h4 z]
  exact lg_cmp_self _
def lw_tg : List Nat := [200, 225, 298, 323, 336, 349, 362, 399, 436, 497, 534, 614, 691, 752, 789, 838, 875, 924, 949, 986, 1035, 1060, 1109, 1158, 1195, 1244, 1269, 1306, 1343, 1368, 1405, 1466, 1503, 1528, 1577, 1614]
theorem lw_tgo : ∀ k, k < 36 → (#[160, 185, 258, 283, 296, 309, 322, 359, 396, 457, 494, 574, 651, 712, 749, 798, 835, 884, 909, 946, 995, 1020, 1069, 1118, 1155, 1204, 1229, 1266, 1303, 1328, 1365, 1426, 1463, 1488, 1537, 1574] : Array Int)[k]? = some ((lw_tg.getD k 0 : Int) - 40) := by decide
set_option maxRecDepth 4000 in
theorem lc_all {kc ks : Nat} {L : Nat} {xs : Nat → Int32} {Q : Option Value → jPS → Prop} {i : Int32} {σ : jM} {a1 a2 a3 a4 a5 : Int32} {k : Nat} {σ' : jM} (hk : k < 36) (hx1 : vp_in (i + 1) L ∧ xs (i + 1).toNatClampNeg = a1) (hx2 : vp_in (i + 2) L ∧ xs (i + 2).toNatClampNeg = a2) (hx3 : vp_in (i + 3) L ∧ xs (i + 3).toNatClampNeg = a3) (hx4 : vp_in (i + 4) L ∧ xs (i + 4).toNatClampNeg = a4) (hx5 : vp_in (i + 5) L ∧ xs (i + 5).toNatClampNeg = a5) (h : lw_op k a1 a2 a3 a4 a5 σ σ') (K : JX mi_L_law 20 kc ks (jYL L xs) (fun _ _ _ _ => False) Q 1639 (lsL i) [] (ms σ')) : JX mi_L_law 20 (1 + kc) (6 + ks) (jYL L xs) (fun _ _ _ _ => False) Q (lw_tg.getD k 0) (lsL i) [] (ms σ) := by
  match k, hk with
  | 0, _ => obtain ⟨r, σ1, h1, h2⟩ := h; exact JX_widen (Nat.le_add_left _ _) (Nat.le_add_left _ _) (lc_0 hx1 h1 h2 K)
  | 1, _ => obtain ⟨r, σ1, h1, h2⟩ := h; exact JX_widen (Nat.le_add_left _ _) (Nat.le_add_left _ _) (lc_1 hx1 hx2 hx3 hx4 hx5 h1 h2 K)
  | 2, _ => obtain ⟨r, σ1, h1, h2⟩ := h; exact JX_widen (Nat.le_add_left _ _) (Nat.le_add_left _ _) (lc_2 hx1 h1 h2 K)
  | 3, _ => obtain ⟨r, σ1, h1, h2⟩ := h; exact JX_widen (Nat.le_add_left _ _) (Nat.le_add_left _ _) (lc_3  h1 h2 K)
  | 4, _ => obtain ⟨r, σ1, h1, h2⟩ := h; exact JX_widen (Nat.le_add_left _ _) (Nat.le_add_left _ _) (lc_4  h1 h2 K)
  | 5, _ => obtain ⟨r, σ1, h1, h2⟩ := h; exact JX_widen (Nat.le_add_left _ _) (Nat.le_add_left _ _) (lc_5  h1 h2 K)
  | 6, _ => obtain ⟨r, σ1, h1, h2⟩ := h; exact JX_widen (Nat.le_add_left _ _) (Nat.le_add_left _ _) (lc_6 hx1 hx2 h1 h2 K)
  | 7, _ => obtain ⟨r, σ1, h1, h2⟩ := h; exact JX_widen (Nat.le_add_left _ _) (Nat.le_add_left _ _) (lc_7 hx1 hx2 h1 h2 K)
  | 8, _ => obtain ⟨r, σ1, h1, h2⟩ := h; exact JX_widen (Nat.le_add_left _ _) (Nat.le_add_left _ _) (lc_8 hx1 hx2 hx3 hx4 h1 h2 K)
  | 9, _ => obtain ⟨r, σ1, h1, h2⟩ := h; exact JX_widen (Nat.le_add_left _ _) (Nat.le_add_left _ _) (lc_9 hx1 hx2 h1 h2 K)
  | 10, _ => obtain ⟨r, b, σ2, h1, h2, h3, h4⟩ := h; exact lc_10 hx1 hx2 hx3 h1 h2 h3 h4 K
  | 11, _ => obtain ⟨r, σ1, h1, h2⟩ := h; exact JX_widen (Nat.le_add_left _ _) (Nat.le_add_left _ _) (lc_11 hx1 hx2 hx3 hx4 h1 h2 K)
  | 12, _ => obtain ⟨r, σ1, h1, h2⟩ := h; exact JX_widen (Nat.le_add_left _ _) (Nat.le_add_left _ _) (lc_12 hx1 hx2 hx3 hx4 h1 h2 K)
  | 13, _ => obtain ⟨r, σ1, h1, h2⟩ := h; exact JX_widen (Nat.le_add_left _ _) (Nat.le_add_left _ _) (lc_13 hx1 hx2 h1 h2 K)
  | 14, _ => obtain ⟨r, σ1, h1, h2⟩ := h; exact JX_widen (Nat.le_add_left _ _) (Nat.le_add_left _ _) (lc_14 hx1 hx2 hx3 h1 h2 K)
  | 15, _ => obtain ⟨r, σ1, h1, h2⟩ := h; exact JX_widen (Nat.le_add_left _ _) (Nat.le_add_left _ _) (lc_15 hx1 hx2 h1 h2 K)
  | 16, _ => obtain ⟨r, σ1, h1, h2⟩ := h; exact JX_widen (Nat.le_add_left _ _) (Nat.le_add_left _ _) (lc_16 hx1 hx2 hx3 h1 h2 K)
  | 17, _ => obtain ⟨r, σ1, h1, h2⟩ := h; exact JX_widen (Nat.le_add_left _ _) (Nat.le_add_left _ _) (lc_17 hx1 h1 h2 K)
  | 18, _ => obtain ⟨r, σ1, h1, h2⟩ := h; exact JX_widen (Nat.le_add_left _ _) (Nat.le_add_left _ _) (lc_18 hx1 hx2 h1 h2 K)
  | 19, _ => obtain ⟨r, σ1, h1, h2⟩ := h; exact JX_widen (Nat.le_add_left _ _) (Nat.le_add_left _ _) (lc_19 hx1 hx2 hx3 h1 h2 K)
  | 20, _ => obtain ⟨r, σ1, h1, h2⟩ := h; exact JX_widen (Nat.le_add_left _ _) (Nat.le_add_left _ _) (lc_20 hx1 h1 h2 K)
  | 21, _ => obtain ⟨r, σ1, h1, h2⟩ := h; exact JX_widen (Nat.le_add_left _ _) (Nat.le_add_left _ _) (lc_21 hx1 hx2 hx3 h1 h2 K)
  | 22, _ => obtain ⟨r, σ1, h1, h2⟩ := h; exact JX_widen (Nat.le_add_left _ _) (Nat.le_add_left _ _) (lc_22 hx1 hx2 hx3 h1 h2 K)
  | 23, _ => obtain ⟨r, σ1, h1, h2⟩ := h; exact JX_widen (Nat.le_add_left _ _) (Nat.le_add_left _ _) (lc_23 hx1 hx2 h1 h2 K)
  | 24, _ => obtain ⟨r, σ1, h1, h2⟩ := h; exact JX_widen (Nat.le_add_left _ _) (Nat.le_add_left _ _) (lc_24 hx1 hx2 hx3 h1 h2 K)
  | 25, _ => obtain ⟨r, σ1, h1, h2⟩ := h; exact JX_widen (Nat.le_add_left _ _) (Nat.le_add_left _ _) (lc_25 hx1 h1 h2 K)
  | 26, _ => obtain ⟨r, σ1, h1, h2⟩ := h; exact JX_widen (Nat.le_add_left _ _) (Nat.le_add_left _ _) (lc_26 hx1 hx2 h1 h2 K)
  | 27, _ => obtain ⟨r, σ1, h1, h2⟩ := h; exact JX_widen (Nat.le_add_left _ _) (Nat.le_add_left _ _) (lc_27 hx1 hx2 h1 h2 K)
  | 28, _ => obtain ⟨r, σ1, h1, h2⟩ := h; exact JX_widen (Nat.le_add_left _ _) (Nat.le_add_left _ _) (lc_28 hx1 h1 h2 K)
  | 29, _ => obtain ⟨r, σ1, h1, h2⟩ := h; exact JX_widen (Nat.le_add_left _ _) (Nat.le_add_left _ _) (lc_29 hx1 hx2 h1 h2 K)
  | 30, _ => obtain ⟨r, σ1, h1, h2⟩ := h; exact JX_widen (Nat.le_add_left _ _) (Nat.le_add_left _ _) (lc_30 hx1 hx2 hx3 hx4 h1 h2 K)
  | 31, _ => obtain ⟨r, σ1, h1, h2⟩ := h; exact JX_widen (Nat.le_add_left _ _) (Nat.le_add_left _ _) (lc_31 hx1 hx2 h1 h2 K)
  | 32, _ => obtain ⟨r, σ1, h1, h2⟩ := h; exact JX_widen (Nat.le_add_left _ _) (Nat.le_add_left _ _) (lc_32 hx1 h1 h2 K)
  | 33, _ => obtain ⟨r, σ1, h1, h2⟩ := h; exact JX_widen (Nat.le_add_left _ _) (Nat.le_add_left _ _) (lc_33 hx1 hx2 hx3 h1 h2 K)
  | 34, _ => obtain ⟨r, σ1, h1, h2⟩ := h; exact JX_widen (Nat.le_add_left _ _) (Nat.le_add_left _ _) (lc_34 hx1 hx2 h1 h2 K)
  | 35, _ => obtain ⟨r, σ1, h1, h2⟩ := h; exact JX_widen (Nat.le_add_left _ _) (Nat.le_add_left _ _) (lc_35 hx1 h1 h2 K)
  | (k + 36), hk => exact absurd hk (by omega)
theorem lw_cmp {L i : Nat} (hL : L ≤ 3072) (hi : i ≤ 3072) : Int32.ofNat L - 6 < Int32.ofNat i ↔ L < i + 6 := by
  show Int32.ofNat L - zi 6 < _ ↔ _
  rw [zi_nat, zi_nat, zi_sub, zi_lt (by omega) (by omega) (by omega) (by omega)]
  omega
theorem lw_ix {L i k : Nat} (hL : L ≤ 3072) (hi : i + 6 ≤ L) (hk : k ≤ 5) : vp_in (Int32.ofNat i + Int32.ofNat k) L ∧ (Int32.ofNat i + Int32.ofNat k).toNatClampNeg = i + k := by
  rw [zi_nat, zi_nat, zi_add]
  exact ⟨inb_vp (zi_inb (by omega) (by omega) (by omega)), by rw [zi_ix (by omega) (by omega)]; omega⟩
theorem lw_and (x : Int32) : ∃ k : Nat, k < 64 ∧ (x &&& 63).toInt = (k : Int) := by
  have h : (x &&& 63).toBitVec.toNat < 64 := by
    rw [Int32.toBitVec_and, BitVec.toNat_and]
    exact Nat.lt_of_le_of_lt Nat.and_le_right (by decide)
  refine ⟨(x &&& 63).toBitVec.toNat, h, ?_⟩
  show (x &&& 63).toBitVec.toInt = _
  rw [BitVec.toInt_eq_toNat_of_lt (by omega)]
set_option maxHeartbeats 4000000 in
/-- the law's loop: with what stays true over the calls -/
theorem law_loop {L : Nat} {xs : Nat → Int32} {Q : Option Value → jPS → Prop} (hL : L ≤ 3072) (Inv : jM → Prop) (hQ : ∀ σ, Q (some (.int 1)) (ms σ)) (hstep : ∀ (k : Nat) (a1 a2 a3 a4 a5 : Int32) (σ : jM), k < 36 → Inv σ → ∃ σ', lw_op k a1 a2 a3 a4 a5 σ σ' ∧ Inv σ') :
    ∀ (n i : Nat) (σ : jM), L < 6 * n + i + 6 → i ≤ L → Inv σ → JX mi_L_law 20 n (6 * n) (jYL L xs) (fun _ _ _ _ => False) Q 23 (lsL (Int32.ofNat i)) [] (ms σ) := by
  intro n
  induction n with
  | zero =>
    intro i σ h hi hI
    refine JX_iload 4 dL_law_23 rfl ?_
    refine JX_aload_n 0 dL_law_25 rfl ?_
    refine JX_slen dL_law_26 ?_
    refine JX_bipush (v := 6) dL_law_27 (by decide) ?_
    refine JX_isub dL_law_29 ?_
    refine JX_icmp_gt (tgt := 1645) dL_law_30 (by decide) (fun _ => ?_) (fun z => absurd ((lw_cmp hL (by omega)).mpr (by omega)) z)
    refine JX_iconst (v := 1) dL_law_1645 (by decide) ?_
    exact JX_of (J_ret (v := some (.int 1)) rfl ⟨dL_law_1646, Or.inr (Or.inl ⟨rfl, Or.inr rfl⟩)⟩ (hQ σ))
  | succ n ih =>
    intro i σ h hi hI
    refine JX_iload 4 dL_law_23 rfl ?_
    refine JX_aload_n 0 dL_law_25 rfl ?_
    refine JX_slen dL_law_26 ?_
    refine JX_bipush (v := 6) dL_law_27 (by decide) ?_
    refine JX_isub dL_law_29 ?_
    refine JX_icmp_gt (tgt := 1645) dL_law_30 (by decide) (fun _ => ?_) (fun z => ?_)
    · refine JX_iconst (v := 1) dL_law_1645 (by decide) ?_
      exact JX_of (J_ret (v := some (.int 1)) rfl ⟨dL_law_1646, Or.inr (Or.inl ⟨rfl, Or.inr rfl⟩)⟩ (hQ σ))
    · have hlt : i + 6 ≤ L := by
        rcases Nat.lt_or_ge L (i + 6) with w | w
        · exact absurd ((lw_cmp hL (by omega)).mpr w) z
        · exact w
      have K : ∀ σ', Inv σ' → JX mi_L_law 20 n (6 * n) (jYL L xs) (fun _ _ _ _ => False) Q 1639 (lsL (Int32.ofNat i)) [] (ms σ') := by
        intro σ' hI'
        refine JX_iinc (v := Int32.ofNat (i + 6)) (ls' := [(4, .int (Int32.ofNat (i + 6))), (0, .ref 1002000), (1, .ref 0), (2, .ref 324), (3, .ref 375)]) 4 dL_law_1639 rfl ?_ (by decide) rfl ?_
        · show Int32.ofNat i + zi 6 = _
          rw [zi_nat, zi_nat, zi_add]
          rfl
        · refine JX_goto (tgt := 23) dL_law_1642 (by decide) ?_
          refine JX_pick [1, 2, 3, 4, 0] rfl ?_
          exact ih (i + 6) σ' (by omega) hlt hI'
      have hx : ∀ k : Nat, k ≤ 5 → vp_in (Int32.ofNat i + Int32.ofNat k) L ∧ xs (Int32.ofNat i + Int32.ofNat k).toNatClampNeg = xs (i + k) := fun k hk => ⟨(lw_ix hL hlt hk).1, by rw [(lw_ix hL hlt hk).2]⟩
      have hx0 : vp_in (Int32.ofNat i) L ∧ xs (Int32.ofNat i).toNatClampNeg = xs i := by
        have h0 := hx 0 (by omega)
        have e0 : Int32.ofNat i + Int32.ofNat 0 = Int32.ofNat i := by rw [zi_nat, zi_nat, zi_add]; congr 1
        rw [e0] at h0
        exact h0
      refine JX_aload_n 0 dL_law_33 rfl ?_
      refine JX_iload 4 dL_law_34 rfl ?_
      refine JX_sld dL_law_36 hx0.1 hx0.2 ?_
      refine JX_bipush (v := 63) dL_law_37 (by decide) ?_
      refine JX_iand dL_law_39 ?_
      obtain ⟨k, hk, hk2⟩ := lw_and (xs i)
      by_cases h36 : k < 36
      · obtain ⟨σ', hop, hI'⟩ := hstep k (xs (i + 1)) (xs (i + 2)) (xs (i + 3)) (xs (i + 4)) (xs (i + 5)) σ h36 hI
        refine JX_tableIn (off := (lw_tg.getD k 0 : Int) - 40) (tgt := lw_tg.getD k 0) dL_law_40 (by rw [hk2]; omega) (by rw [hk2]; omega) ?_ (by omega) ?_
        · rw [hk2]
          have e : ((k : Int) - 0).toNat = k := by omega
          rw [e]
          exact lw_tgo k h36
        · have hh := lc_all (kc := n) (ks := 6 * n) (Q := Q) (i := Int32.ofNat i) h36 (hx 1 (by omega)) (hx 2 (by omega)) (hx 3 (by omega)) (hx 4 (by omega)) (hx 5 (by omega)) hop (K σ' hI')
          rw [show n + 1 = 1 + n by omega, show 6 * (1 + n) = 6 + 6 * n by omega]
          exact hh
      · refine JX_tableOut (tgt := 1639) dL_law_40 (Or.inr (by rw [hk2]; omega)) (by decide) ?_
        exact JX_widen (by omega) (by omega) (K σ hI)
