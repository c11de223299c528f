theorem dJ0_length_8abf5_0 : decode cJ0_length_8abf5 0 = .ok (.aload_n 0, 1) := by decide +kernel
theorem dJ0_length_8abf5_1 : decode cJ0_length_8abf5 1 = .ok (.getfield 9, 3) := by decide +kernel
theorem dJ0_length_8abf5_4 : decode cJ0_length_8abf5 4 = .ok (.arraylength, 1) := by decide +kernel
theorem dJ0_length_8abf5_5 : decode cJ0_length_8abf5 5 = .ok (.aload_n 0, 1) := by decide +kernel
theorem dJ0_length_8abf5_6 : decode cJ0_length_8abf5 6 = .ok (.invokevirtual 335, 3) := by decide +kernel
theorem dJ0_length_8abf5_9 : decode cJ0_length_8abf5 9 = .ok (.ishr, 1) := by decide +kernel
theorem dJ0_length_8abf5_10 : decode cJ0_length_8abf5 10 = .ok (.ireturn, 1) := by decide +kernel
theorem dJ0_charAt_5068e_0 : decode cJ0_charAt_5068e 0 = .ok (.aload_n 0, 1) := by decide +kernel
theorem dJ0_charAt_5068e_1 : decode cJ0_charAt_5068e 1 = .ok (.invokevirtual 492, 3) := by decide +kernel
theorem dJ0_charAt_5068e_4 : decode cJ0_charAt_5068e 4 = .ok (.ifCond .eq 12, 3) := by decide +kernel
theorem dJ0_charAt_5068e_7 : decode cJ0_charAt_5068e 7 = .ok (.aload_n 0, 1) := by decide +kernel
theorem dJ0_charAt_5068e_8 : decode cJ0_charAt_5068e 8 = .ok (.getfield 9, 3) := by decide +kernel
theorem dJ0_charAt_5068e_11 : decode cJ0_charAt_5068e 11 = .ok (.iload_n 1, 1) := by decide +kernel
theorem dJ0_charAt_5068e_12 : decode cJ0_charAt_5068e 12 = .ok (.invokestatic 495, 3) := by decide +kernel
theorem dJ0_charAt_5068e_15 : decode cJ0_charAt_5068e 15 = .ok (.ireturn, 1) := by decide +kernel
theorem dJ0_charAt_5068e_16 : decode cJ0_charAt_5068e 16 = .ok (.aload_n 0, 1) := by decide +kernel
theorem dJ0_charAt_5068e_17 : decode cJ0_charAt_5068e 17 = .ok (.getfield 9, 3) := by decide +kernel
theorem dJ0_charAt_5068e_20 : decode cJ0_charAt_5068e 20 = .ok (.iload_n 1, 1) := by decide +kernel
theorem dJ0_charAt_5068e_21 : decode cJ0_charAt_5068e 21 = .ok (.invokestatic 498, 3) := by decide +kernel
theorem dJ0_charAt_5068e_24 : decode cJ0_charAt_5068e 24 = .ok (.ireturn, 1) := by decide +kernel
theorem dJ0_coder_7d493_0 : decode cJ0_coder_7d493 0 = .ok (.getstatic 38, 3) := by decide +kernel
theorem dJ0_coder_7d493_3 : decode cJ0_coder_7d493 3 = .ok (.ifCond .eq 10, 3) := by decide +kernel
theorem dJ0_coder_7d493_6 : decode cJ0_coder_7d493 6 = .ok (.aload_n 0, 1) := by decide +kernel
theorem dJ0_coder_7d493_7 : decode cJ0_coder_7d493 7 = .ok (.getfield 15, 3) := by decide +kernel
theorem dJ0_coder_7d493_10 : decode cJ0_coder_7d493 10 = .ok (.goto 4, 3) := by decide +kernel
theorem dJ0_coder_7d493_13 : decode cJ0_coder_7d493 13 = .ok (.iconst 1, 1) := by decide +kernel
theorem dJ0_coder_7d493_14 : decode cJ0_coder_7d493 14 = .ok (.ireturn, 1) := by decide +kernel
theorem dJ0_isLatin1_aae02_0 : decode cJ0_isLatin1_aae02 0 = .ok (.getstatic 38, 3) := by decide +kernel
theorem dJ0_isLatin1_aae02_3 : decode cJ0_isLatin1_aae02 3 = .ok (.ifCond .eq 14, 3) := by decide +kernel
theorem dJ0_isLatin1_aae02_6 : decode cJ0_isLatin1_aae02 6 = .ok (.aload_n 0, 1) := by decide +kernel
theorem dJ0_isLatin1_aae02_7 : decode cJ0_isLatin1_aae02 7 = .ok (.getfield 15, 3) := by decide +kernel
theorem dJ0_isLatin1_aae02_10 : decode cJ0_isLatin1_aae02 10 = .ok (.ifCond .ne 7, 3) := by decide +kernel
theorem dJ0_isLatin1_aae02_13 : decode cJ0_isLatin1_aae02 13 = .ok (.iconst 1, 1) := by decide +kernel
theorem dJ0_isLatin1_aae02_14 : decode cJ0_isLatin1_aae02 14 = .ok (.goto 4, 3) := by decide +kernel
theorem dJ0_isLatin1_aae02_17 : decode cJ0_isLatin1_aae02 17 = .ok (.iconst 0, 1) := by decide +kernel
theorem dJ0_isLatin1_aae02_18 : decode cJ0_isLatin1_aae02 18 = .ok (.ireturn, 1) := by decide +kernel
theorem dJ0_checkIndex_df160_0 : decode cJ0_checkIndex_df160 0 = .ok (.iload_n 0, 1) := by decide +kernel
theorem dJ0_checkIndex_df160_1 : decode cJ0_checkIndex_df160 1 = .ok (.iload_n 1, 1) := by decide +kernel
theorem dJ0_checkIndex_df160_2 : decode cJ0_checkIndex_df160 2 = .ok (.getstatic 1053, 3) := by decide +kernel
theorem dJ0_checkIndex_df160_5 : decode cJ0_checkIndex_df160 5 = .ok (.invokestatic 1059, 3) := by decide +kernel
theorem dJ0_checkIndex_df160_8 : decode cJ0_checkIndex_df160 8 = .ok (.pop, 1) := by decide +kernel
theorem dJ0_checkIndex_df160_9 : decode cJ0_checkIndex_df160 9 = .ok (.return_, 1) := by decide +kernel
theorem dJ1_charAt_3b067_0 : decode cJ1_charAt_3b067 0 = .ok (.iload_n 1, 1) := by decide +kernel
theorem dJ1_charAt_3b067_1 : decode cJ1_charAt_3b067 1 = .ok (.aload_n 0, 1) := by decide +kernel
theorem dJ1_charAt_3b067_2 : decode cJ1_charAt_3b067 2 = .ok (.arraylength, 1) := by decide +kernel
theorem dJ1_charAt_3b067_3 : decode cJ1_charAt_3b067 3 = .ok (.invokestatic 9, 3) := by decide +kernel
theorem dJ1_charAt_3b067_6 : decode cJ1_charAt_3b067 6 = .ok (.aload_n 0, 1) := by decide +kernel
theorem dJ1_charAt_3b067_7 : decode cJ1_charAt_3b067 7 = .ok (.iload_n 1, 1) := by decide +kernel
theorem dJ1_charAt_3b067_8 : decode cJ1_charAt_3b067 8 = .ok (.baload, 1) := by decide +kernel
theorem dJ1_charAt_3b067_9 : decode cJ1_charAt_3b067 9 = .ok (.sipush 255, 3) := by decide +kernel
theorem dJ1_charAt_3b067_12 : decode cJ1_charAt_3b067 12 = .ok (.iand, 1) := by decide +kernel
theorem dJ1_charAt_3b067_13 : decode cJ1_charAt_3b067 13 = .ok (.i2c, 1) := by decide +kernel
theorem dJ1_charAt_3b067_14 : decode cJ1_charAt_3b067 14 = .ok (.ireturn, 1) := by decide +kernel
theorem dJ3_checkIndex_8e157_0 : decode cJ3_checkIndex_8e157 0 = .ok (.iload_n 0, 1) := by decide +kernel
theorem dJ3_checkIndex_8e157_1 : decode cJ3_checkIndex_8e157 1 = .ok (.ifCond .lt 8, 3) := by decide +kernel
theorem dJ3_checkIndex_8e157_4 : decode cJ3_checkIndex_8e157 4 = .ok (.iload_n 0, 1) := by decide +kernel
theorem dJ3_checkIndex_8e157_5 : decode cJ3_checkIndex_8e157 5 = .ok (.iload_n 1, 1) := by decide +kernel
theorem dJ3_checkIndex_8e157_6 : decode cJ3_checkIndex_8e157 6 = .ok (.if_icmp .lt 10, 3) := by decide +kernel
theorem dJ3_checkIndex_8e157_9 : decode cJ3_checkIndex_8e157 9 = .ok (.aload_n 2, 1) := by decide +kernel
theorem dJ3_checkIndex_8e157_10 : decode cJ3_checkIndex_8e157 10 = .ok (.iload_n 0, 1) := by decide +kernel
theorem dJ3_checkIndex_8e157_11 : decode cJ3_checkIndex_8e157 11 = .ok (.iload_n 1, 1) := by decide +kernel
theorem dJ3_checkIndex_8e157_12 : decode cJ3_checkIndex_8e157 12 = .ok (.invokestatic 95, 3) := by decide +kernel
theorem dJ3_checkIndex_8e157_15 : decode cJ3_checkIndex_8e157 15 = .ok (.athrow, 1) := by decide +kernel
theorem dJ3_checkIndex_8e157_16 : decode cJ3_checkIndex_8e157 16 = .ok (.iload_n 0, 1) := by decide +kernel
theorem dJ3_checkIndex_8e157_17 : decode cJ3_checkIndex_8e157 17 = .ok (.ireturn, 1) := by decide +kernel
theorem sf_value : Cond.fieldLink RJ0 9 "java/lang/String" "value" "[B" ∈ jgt := jmT 2030 (by decide +kernel) (by decide +kernel)
theorem sf_coder : Cond.fieldLink RJ0 15 "java/lang/String" "coder" "B" ∈ jgt := jmT 2031 (by decide +kernel) (by decide +kernel)
theorem sf_compact : Cond.fieldLink RJ0 38 "java/lang/String" "COMPACT_STRINGS" "Z" ∈ jgt := jmT 662 (by decide +kernel) (by decide +kernel)
theorem sf_sio : Cond.fieldLink RJ0 1053 "jdk/internal/util/Preconditions" "SIOOBE_FORMATTER" "Ljava/util/function/BiFunction;" ∈ jgt := jmT 678 (by decide +kernel) (by decide +kernel)
theorem sv_335 : jCV RJ0 335 mi_J0_coder_7d493 0 := ⟨⟨jmT 658 (by decide +kernel) (by decide +kernel), jmT 659 (by decide +kernel) (by decide +kernel), jmT 660 (by decide +kernel) (by decide +kernel), jmT 15 (by decide +kernel) (by decide +kernel), jmT 661 (by decide +kernel) (by decide +kernel)⟩, ⟨rfl, by decide +kernel, by decide +kernel, by decide +kernel⟩, by decide +kernel, by decide⟩
theorem sv_492 : jCV RJ0 492 mi_J0_isLatin1_aae02 0 := ⟨⟨jmT 668 (by decide +kernel) (by decide +kernel), jmT 669 (by decide +kernel) (by decide +kernel), jmT 670 (by decide +kernel) (by decide +kernel), jmT 15 (by decide +kernel) (by decide +kernel), jmT 671 (by decide +kernel) (by decide +kernel)⟩, ⟨rfl, by decide +kernel, by decide +kernel, by decide +kernel⟩, by decide +kernel, by decide⟩
theorem ss_495 : jCS RJ0 495 mi_J1_charAt_3b067 2 := ⟨⟨jmT 672 (by decide +kernel) (by decide +kernel), jmT 673 (by decide +kernel) (by decide +kernel), jmT 16 (by decide +kernel) (by decide +kernel), jmT 674 (by decide +kernel) (by decide +kernel)⟩, ⟨by decide +kernel, by decide +kernel, by decide +kernel⟩, ⟨by decide +kernel, rfl⟩, by decide⟩
theorem ss_9 : jCS RJ1 9 mi_J0_checkIndex_df160 2 := ⟨⟨jmT 675 (by decide +kernel) (by decide +kernel), jmT 676 (by decide +kernel) (by decide +kernel), jmT 15 (by decide +kernel) (by decide +kernel), jmT 677 (by decide +kernel) (by decide +kernel)⟩, ⟨by decide +kernel, by decide +kernel, by decide +kernel⟩, ⟨by decide +kernel, rfl⟩, by decide⟩
theorem ss_1059 : jCS RJ0 1059 mi_J3_checkIndex_8e157 3 := ⟨⟨jmT 680 (by decide +kernel) (by decide +kernel), jmT 681 (by decide +kernel) (by decide +kernel), jmT 17 (by decide +kernel) (by decide +kernel), jmT 682 (by decide +kernel) (by decide +kernel)⟩, ⟨by decide +kernel, by decide +kernel, by decide +kernel⟩, ⟨by decide +kernel, rfl⟩, by decide⟩
theorem jad_byt {g : jG} {U : State} (h : jT g U) {w : Nat} (hw : w < 12) : jad g (1001000 + w) = g.2.2.2.2 w := by
  unfold jad
  rw [if_neg (by omega), show 1001000 + w - 1000000 = 1000 + w by omega]
  exact h.2.2.2.2.2.2.2 w hw
theorem S_value {b : jMI} {d : Nat} {Q : Option Value → jPS → Prop} {pc : Nat} {ls : List (Nat × Value)} {st : List Value} {σ : jM} {idx w : Nat} (hl : Cond.fieldLink b.1 idx "java/lang/String" "value" "[B" ∈ jgt) (hdg : decode b.2.2.1 pc = .ok (.getfield idx, 3)) (hw : w < 12) (K : J b d 0 0 Q (pc + 3) ls (.ref (1001000 + w) :: st) (ms σ)) : J b d 0 0 Q pc ls (.ref (1000000 + w) :: st) (ms σ) := by
  intro g p l e R s m args below meth c cells slots Z C Rt H locs lsA hv hP hS
  have hT := C.2.1.2.2
  have h9 := K g p l e R s m args below meth c cells slots Z C Rt H locs lsA hv hP hS
  rw [List.map_cons, show jtr g (.ref (1001000 + w)) = .ref (g.2.2.2.2 w) from congrArg Value.ref (jad_byt hT hw)] at h9
  rw [List.map_cons, show jtr g (.ref (1000000 + w)) = .ref (g.2.2.2.1 w) from congrArg Value.ref (jad_str g w)]
  exact vk_getf C.1.1 C.1.2.1 (hT.1.1 w hw).2.2.1 hS C.1.2.2.2.1 (C.1.2.2.2.2 _ hl) (fun _ q => q) hdg h9
theorem S_coder {b : jMI} {d : Nat} {Q : Option Value → jPS → Prop} {pc : Nat} {ls : List (Nat × Value)} {st : List Value} {σ : jM} {idx w : Nat} (hl : Cond.fieldLink b.1 idx "java/lang/String" "coder" "B" ∈ jgt) (hdg : decode b.2.2.1 pc = .ok (.getfield idx, 3)) (hw : w < 12) (K : J b d 0 0 Q (pc + 3) ls (.int 0 :: st) (ms σ)) : J b d 0 0 Q pc ls (.ref (1000000 + w) :: st) (ms σ) := by
  intro g p l e R s m args below meth c cells slots Z C Rt H locs lsA hv hP hS
  have hT := C.2.1.2.2
  rw [List.map_cons, show jtr g (.ref (1000000 + w)) = .ref (g.2.2.2.1 w) from congrArg Value.ref (jad_str g w)]
  exact vk_getf C.1.1 C.1.2.1 (hT.1.1 w hw).2.1 hS C.1.2.2.2.1 (C.1.2.2.2.2 _ hl) (fun _ q => q) hdg (K g p l e R s m args below meth c cells slots Z C Rt H locs lsA hv hP hS)
theorem S_compact {b : jMI} {d : Nat} {Q : Option Value → jPS → Prop} {pc : Nat} {ls : List (Nat × Value)} {st : List Value} {σ : jM} {idx : Nat} (hl : Cond.fieldLink b.1 idx "java/lang/String" "COMPACT_STRINGS" "Z" ∈ jgt) (hdg : decode b.2.2.1 pc = .ok (.getstatic idx, 3)) (K : J b d 0 0 Q (pc + 3) ls (.int 1 :: st) (ms σ)) : J b d 0 0 Q pc ls st (ms σ) := by
  intro g p l e R s m args below meth c cells slots Z C Rt H locs lsA hv hP hS
  exact va_gets C.1.1 C.1.2.1 C.2.1.2.2.2.2.2.2.2.1 hS C.1.2.2.2.1 (C.1.2.2.2.2 _ hl) (fun _ q => q) hdg (K g p l e R s m args below meth c cells slots Z C Rt H locs lsA hv hP hS)
theorem S_blen {b : jMI} {d : Nat} {Q : Option Value → jPS → Prop} {pc : Nat} {ls : List (Nat × Value)} {st : List Value} {σ : jM} {w : Nat} (hdg : decode b.2.2.1 pc = .ok (.arraylength, 1)) (hw : w < 12) (K : J b d 0 0 Q (pc + 1) ls (.int (strLen w) :: st) (ms σ)) : J b d 0 0 Q pc ls (.ref (1001000 + w) :: st) (ms σ) := by
  intro g p l e R s m args below meth c cells slots Z C Rt H locs lsA hv hP hS
  have hT := C.2.1.2.2
  rw [List.map_cons, show jtr g (.ref (1001000 + w)) = .ref (g.2.2.2.2 w) from congrArg Value.ref (jad_byt hT hw)]
  exact va_tlen (v := strLen w) C.1.1 C.1.2.1 (hT.1.1 w hw).2.2.2 hS rfl hdg (K g p l e R s m args below meth c cells slots Z C Rt H locs lsA hv hP hS)
theorem S_bald {b : jMI} {d : Nat} {Q : Option Value → jPS → Prop} {pc : Nat} {ls : List (Nat × Value)} {st : List Value} {σ : jM} {w : Nat} {i : Int32} (hdg : decode b.2.2.1 pc = .ok (.baload, 1)) (hw : w < 12) (hin : inb i (jslen.getD w 0)) (K : J b d 0 0 Q (pc + 1) ls (.int (strAt w i) :: st) (ms σ)) : J b d 0 0 Q pc ls (.int i :: .ref (1001000 + w) :: st) (ms σ) := by
  intro g p l e R s m args below meth c cells slots Z C Rt H locs lsA hv hP hS
  have hT := C.2.1.2.2
  rw [List.map_cons, List.map_cons, show jtr g (.ref (1001000 + w)) = .ref (g.2.2.2.2 w) from congrArg Value.ref (jad_byt hT hw)]
  exact va_tb (v := .int (strAt w i)) C.1.1 C.1.2.1 (hT.1.1 w hw).2.2.2 hS (inb_vp hin) rfl hdg (K g p l e R s m args below meth c cells slots Z C Rt H locs lsA hv hP hS)
set_option maxHeartbeats 4000000 in
theorem M_callT {b : jMI} {d : Nat} {Q : Option Value → jPS → Prop} {pc : Nat} {ls : List (Nat × Value)} {st : List Value} {σ : jM} {b' : jMI} {d' idx n w : Nat} {As st0 : List Value} {ls' : List (Nat × Value)} {r : Int32 × jM} (hw12 : w < 12) (hc : jCV b.1 idx b' n) (hcl : b'.1 = "java/lang/String") (hdg : decode b.2.2.1 pc = .ok (.invokevirtual idx, 3)) (hn : As.length = n) (hw : (st.map (fun v => v.category)).sum ≤ 8) (hA : (lg_sl (.ref (1000000 + w) :: As)).length ≤ b'.2.2.2.1) (hd : d' + 1 ≤ d) (hst : st0 = As.reverse ++ .ref (1000000 + w) :: st) (hls : lv_args 0 (.ref (1000000 + w) :: As) = ls') (hJ : J b' d' 0 0 (jqI r) 0 ls' [] (ms σ)) (K : J b d 0 0 Q (pc + 3) ls (.int r.1 :: st) (ms r.2)) : J b d 0 0 Q pc ls st0 (ms σ) := by
  subst hst
  subst hls
  intro g p l e R s m args below meth c cells slots Z C Rt H locs lsA hv hP hS
  obtain ⟨⟨m1, m2, m3, m4, m5⟩, hd1, hpl, hmx⟩ := hc
  have hrecv := vk_recv C.2.1.2.2.1 hw12 hS
  rw [← hcl] at hrecv
  have hG : GoodIn jgt (wsV b.1 idx b'.1 b'.2.1 (jyw b')) := jgt_good _ (fun w hw => by
    simp only [wsV, jyw, List.cons_append, List.nil_append, List.mem_cons] at hw
    rcases hw with rfl | rfl | rfl | rfl | rfl | hw
    · exact m1
    · exact m2
    · exact m3
    · exact m4
    · exact m5
    · exact hw)
  have run := va_runV (As := As.map (jtr g)) (rest := st.map (jtr g)) (g := F0 m pc lsA ((As.map (jtr g)).reverse ++ .ref (g.2.2.2.1 w) :: st.map (jtr g))) (cells := cells) (slots := slots) (locs := locs) (below := below) (e := e) (meth := meth) C.1 (J_met (b := b') hpl hd1.1.symm hA hJ g l) (cwV n C.1.2.2.2.2 hG rfl rfl rfl hd1 (jrm_fits hd C.2.2.1.1 C.2.2.1.2 hmx)) ⟨jPc_blind _ _ _, hrecv, by
    have := jPc_of (.ref (1000000 + w) :: As) C hP hS
    simpa [jtr, jad_str] using this⟩ rfl (by rw [List.length_map]; exact hn) hv.1 rfl (by
      show 2 * 0 + _ ≤ 8
      rw [jcat]
      omega) hdg ⟨by have := C.2.2.2.1.1; omega, by have := C.2.2.2.1.2; omega⟩
  have hst : (As.reverse ++ .ref (1000000 + w) :: st).map (jtr g) = (As.map (jtr g)).reverse ++ .ref (g.2.2.2.1 w) :: st.map (jtr g) := by
    rw [List.map_append, List.map_reverse, List.map_cons]
    show _ ++ Value.ref (jad g (1000000 + w)) :: _ = _
    rw [jad_str]
  rw [hst]
  refine jcall run hS ?_
  intro v S' H1 locs1 hq hP1 hS1
  obtain ⟨rfl, rfl⟩ := hq
  exact K g p l e R s m args below meth c cells slots Z C Rt H1 locs1 lsA hv hP1 hS1
theorem sJ_coder {w : Nat} {σ : jM} (hw : w < 12) : J mi_J0_coder_7d493 1 0 0 (jqI (0, σ)) 0 [(0, .ref (1000000 + w))] [] (ms σ) := by
  refine S_compact sf_compact dJ0_coder_7d493_0 ?_
  refine J_if_eq (tgt := 13) dJ0_coder_7d493_3 (by decide) (fun h => absurd h (by decide)) (fun _ => ?_)
  refine J_aload_n 0 dJ0_coder_7d493_6 rfl ?_
  refine S_coder sf_coder dJ0_coder_7d493_7 hw ?_
  refine J_goto (tgt := 14) dJ0_coder_7d493_10 (by decide) ?_
  exact J_ret (v := some (.int 0)) rfl ⟨dJ0_coder_7d493_14, Or.inr (Or.inr (Or.inr ⟨rfl, rfl⟩))⟩ ⟨rfl, rfl⟩
theorem sJ_isLatin1 {w : Nat} {σ : jM} (hw : w < 12) : J mi_J0_isLatin1_aae02 1 0 0 (jqI (1, σ)) 0 [(0, .ref (1000000 + w))] [] (ms σ) := by
  refine S_compact sf_compact dJ0_isLatin1_aae02_0 ?_
  refine J_if_eq (tgt := 17) dJ0_isLatin1_aae02_3 (by decide) (fun h => absurd h (by decide)) (fun _ => ?_)
  refine J_aload_n 0 dJ0_isLatin1_aae02_6 rfl ?_
  refine S_coder sf_coder dJ0_isLatin1_aae02_7 hw ?_
  refine J_if_ne (tgt := 17) dJ0_isLatin1_aae02_10 (by decide) (fun h => absurd rfl h) (fun _ => ?_)
  refine J_iconst (v := 1) dJ0_isLatin1_aae02_13 (by decide) ?_
  refine J_goto (tgt := 18) dJ0_isLatin1_aae02_14 (by decide) ?_
  exact J_ret (v := some (.int 1)) rfl ⟨dJ0_isLatin1_aae02_18, Or.inr (Or.inl ⟨rfl, Or.inr rfl⟩)⟩ ⟨rfl, rfl⟩
theorem s_len : ∀ w, w < 12 → (strLen w) >>> ((0 : Int32) &&& 31) = strLen w := by decide +kernel
theorem s_chr : ∀ w, w < 12 → ∀ k, k < jslen.getD w 0 → (((jsbyt.getD w []).getD k 0 &&& 255).toUInt32 % 65536).toInt32 = (jsbyt.getD w []).getD k 0 ∧ narrow .char (.int ((jsbyt.getD w []).getD k 0)) = .int ((jsbyt.getD w []).getD k 0) := by decide +kernel
theorem sJ_length {w : Nat} {σ : jM} (hw : w < 12) : J mi_J0_length_8abf5 2 0 0 (jqI (strLen w, σ)) 0 [(0, .ref (1000000 + w))] [] (ms σ) := by
  refine J_aload_n 0 dJ0_length_8abf5_0 rfl ?_
  refine S_value sf_value dJ0_length_8abf5_1 hw ?_
  refine S_blen dJ0_length_8abf5_4 hw ?_
  refine J_aload_n 0 dJ0_length_8abf5_5 rfl ?_
  refine M_callT (d' := 1) (w := w) (As := []) (st := [.int (strLen w)]) hw sv_335 rfl dJ0_length_8abf5_6 rfl (Nat.le_of_ble_eq_true rfl) (Nat.le_of_ble_eq_true rfl) (by decide) rfl rfl (sJ_coder hw) ?_
  refine J_ishr dJ0_length_8abf5_9 ?_
  rw [s_len w hw]
  exact J_ret (v := some (.int (strLen w))) rfl ⟨dJ0_length_8abf5_10, Or.inl rfl⟩ ⟨rfl, rfl⟩
/-- Preconditions.checkIndex, whatever its third argument is -/
theorem s_pre (l : Launch) {i n : Int32} (v : Value) (h0 : 0 ≤ i) (h1 : i < n) (hv3 : v.category = 1) : Met l mi_J3_checkIndex_8e157.2.1 (jyw mi_J3_checkIndex_8e157) (jrm 1 0 0) (va_Pc [.int i, .int n, v] (fun _ => True)) (va_Qi (S := Unit) (fun r _ => r = i) (fun _ _ => True) (fun _ => False)) 0 0 (fun _ => False) := by
  refine Met.ofW (cc := cJ3_checkIndex_8e157) (maxL := 3) (ret := some .int) (by decide +kernel) rfl ?_
  intro p e s m args below meth c s₁ B hml hv
  obtain ⟨rfl, -⟩ := hv
  have hx := B.exec
  have hb := B.bytes
  have hr := B.returns
  have hlocks := B.notSynchronized
  have hl := lv_entry ([.int i, .int n, v]) (n := 3) (by
    have e3 : lg_sl [.int i, .int n, v] = [.val (.int i), .val (.int n), .val v] := by
      show [Slot.val (.int i)] ++ ([Slot.val (.int n)] ++ ((if v.category = 2 then [.val v, .second] else [.val v]) ++ [])) = _
      rw [if_neg (by rw [hv3]; decide)]
      rfl
    rw [e3]
    exact Nat.le_refl 3)
  rw [lg_entry_eq]
  generalize (lg_sl ([.int i, .int n, v]) ++ List.replicate (3 - (lg_sl ([.int i, .int n, v])).length) Slot.unset).toArray = ls at hl ⊢
  have hl2 : lv_has ls 3 [(0, .int i), (1, .int n)] := ⟨hl.1, hl.2.1, fun q hq => hl.2.2 q (by
    rcases List.mem_cons.mp hq with rfl | hq
    · exact List.mem_cons_self
    · rcases List.mem_cons.mp hq with rfl | hq
      · exact List.mem_cons_of_mem _ List.mem_cons_self
      · cases hq)⟩
  refine lv_iload_n hx hb dJ3_checkIndex_8e157_0 rfl (lv_at hl2 0 rfl) ?_
  refine lv_if_lt (tgt := 9) hx hb dJ3_checkIndex_8e157_1 (by decide) (fun c1 => absurd c1 (Int32.not_lt.mpr h0)) (fun _ => ?_)
  refine lv_iload_n hx hb dJ3_checkIndex_8e157_4 rfl (lv_at hl2 0 rfl) ?_
  refine lv_iload_n hx hb dJ3_checkIndex_8e157_5 rfl (lv_at hl2 1 rfl) ?_
  refine lv_icmp_lt (tgt := 16) hx hb dJ3_checkIndex_8e157_6 (by decide) (fun _ => ?_) (fun c1 => absurd h1 c1)
  refine lv_iload_n hx hb dJ3_checkIndex_8e157_16 rfl (lv_at hl2 0 rfl) ?_
  exact W.iret hx hb hr (fun t ht _ => ⟨⟨i, (), rfl, rfl, trivial⟩, by rw [ht]; exact Nat.le_refl _, fun q _ _ => by rw [ht]⟩) (fun q hq => by cases hq) dJ3_checkIndex_8e157_17
set_option maxHeartbeats 1000000 in
theorem sJ_ck {i n : Int32} {σ : jM} (h0 : 0 ≤ i) (h1 : i < n) : J mi_J0_checkIndex_df160 2 0 0 (jqV ((), σ)) 0 [(0, .int i), (1, .int n)] [] (ms σ) := by
  refine J_iload_n 0 dJ0_checkIndex_df160_0 rfl ?_
  refine J_iload_n 1 dJ0_checkIndex_df160_1 rfl ?_
  intro g p l e R s m args below meth c cells slots Z C Rt H locs lsA hv hP hS
  have go : ∀ v : Value, v.category = 1 → W p l e R s m args below meth c H locs cells slots Z (F0 m (2 + 3) lsA (v :: .int n :: .int i :: [])) := by
    intro v hv3
    obtain ⟨⟨m1, m2, m4, m5⟩, hd1, hpl, hmx⟩ := ss_1059
    have hG : GoodIn jgt (va_wsS RJ0 1059 mi_J3_checkIndex_8e157.2.1 (jyw mi_J3_checkIndex_8e157)) := jgt_good _ (fun w hw => by
      simp only [va_wsS, jyw, List.cons_append, List.nil_append, List.mem_cons] at hw
      rcases hw with rfl | rfl | rfl | rfl | hw
      · exact m1
      · exact m2
      · exact m4
      · exact m5
      · exact hw)
    have run := va_runS (As := [.int i, .int n, v]) (rest := []) (g := F0 m (2 + 3) lsA [v, .int n, .int i]) (cells := cells) (slots := slots) (locs := locs) (below := below) (e := e) (meth := meth) (H := H) C.1 (s_pre l v h0 h1 hv3) (va_cwS 3 C.1.2.2.2.2 hG rfl rfl rfl hd1 (jrm_fits (d' := 1) (Nat.le_refl 2) C.2.2.1.1 C.2.2.1.2 hmx)) ⟨fun a U G mk q => q, fun U _ _ => ⟨rfl, trivial⟩⟩ rfl rfl hv.1 rfl (Nat.le_of_ble_eq_true rfl) dJ0_checkIndex_df160_5 ⟨by have := C.2.2.2.1.1; omega, by have := C.2.2.2.1.2; omega⟩
    refine va_calli run hS (fun _ _ h => h.elim) (fun _ h => h.elim) ?_
    intro r u t H1 locs1 ht hvm hr hB hsz hkeep hS1
    refine lv_pop C.1.1 C.1.2.1 dJ0_checkIndex_df160_8 rfl ?_
    have hP1 : jR g (ms σ) H1 := ⟨hP.1.kept (fun k q hq => hkeep _ ((hP.1 k q hq).lt) (fun z => z)), hP.2.1, fun z => absurd ((ms_off σ).symm.trans z) (by decide)⟩
    exact Rt none (ms σ) H1 locs1 9 lsA ⟨rfl, rfl⟩ hP1 hS1 ⟨dJ0_checkIndex_df160_9, rfl⟩
  rcases C.2.1.2.2.2.2.2.2.2.2.1 _ (List.mem_cons_self) with hz | ⟨t, hz⟩
  · exact va_gets C.1.1 C.1.2.1 hz hS C.1.2.2.2.1 (C.1.2.2.2.2 _ sf_sio) (fun _ q => q) dJ0_checkIndex_df160_2 (go .null rfl)
  · exact va_gets C.1.1 C.1.2.1 hz hS C.1.2.2.2.1 (C.1.2.2.2.2 _ sf_sio) (fun _ q => q) dJ0_checkIndex_df160_2 (go (.ref t) rfl)
theorem s_lt : ∀ w, w < 12 → jslen.getD w 0 < 2 ^ 31 := by decide +kernel
theorem strLen_lt {w : Nat} {i : Int32} (hw : w < 12) (hin : inb i (jslen.getD w 0)) : i < strLen w := by
  obtain ⟨j, hj, rfl⟩ := vp_in_of (inb_vp hin) (s_lt w hw)
  exact nI_lt hj (s_lt w hw)
theorem sJ_l1 {w : Nat} {i : Int32} {σ : jM} (hw : w < 12) (hin : inb i (jslen.getD w 0)) : J mi_J1_charAt_3b067 3 0 0 (jqI (strAt w i, σ)) 0 [(0, .ref (1001000 + w)), (1, .int i)] [] (ms σ) := by
  refine J_iload_n 1 dJ1_charAt_3b067_0 rfl ?_
  refine J_aload_n 0 dJ1_charAt_3b067_1 rfl ?_
  refine S_blen dJ1_charAt_3b067_2 hw ?_
  refine M_callSV (d' := 2) (As := [.int i, .int (strLen w)]) (st := []) (r := ((), σ)) ss_9 dJ1_charAt_3b067_3 rfl (Nat.le_of_ble_eq_true rfl) (Nat.le_of_ble_eq_true rfl) (by decide) rfl rfl (sJ_ck hin.1 (strLen_lt hw hin)) ?_
  refine J_aload_n 0 dJ1_charAt_3b067_6 rfl ?_
  refine J_iload_n 1 dJ1_charAt_3b067_7 rfl ?_
  refine S_bald dJ1_charAt_3b067_8 hw hin ?_
  refine J_sipush (v := 255) dJ1_charAt_3b067_9 (by decide) ?_
  refine J_iand dJ1_charAt_3b067_12 ?_
  have h9 := s_chr w hw i.toNatClampNeg hin.2
  refine J_i2c (v := strAt w i) dJ1_charAt_3b067_13 h9.1 ?_
  exact J_ret (v := some (.int (strAt w i))) rfl ⟨dJ1_charAt_3b067_14, Or.inr (Or.inr (Or.inl ⟨rfl, h9.2⟩))⟩ ⟨rfl, rfl⟩
theorem sJ_charAt {w : Nat} {i : Int32} {σ : jM} (hw : w < 12) (hin : inb i (jslen.getD w 0)) : J mi_J0_charAt_5068e 4 0 0 (jqI (strAt w i, σ)) 0 [(0, .ref (1000000 + w)), (1, .int i)] [] (ms σ) := by
  refine J_aload_n 0 dJ0_charAt_5068e_0 rfl ?_
  refine M_callT (d' := 1) (w := w) (As := []) (st := []) hw sv_492 rfl dJ0_charAt_5068e_1 rfl (Nat.le_of_ble_eq_true rfl) (Nat.le_of_ble_eq_true rfl) (by decide) rfl rfl (sJ_isLatin1 hw) ?_
  refine J_if_eq (tgt := 16) dJ0_charAt_5068e_4 (by decide) (fun h => absurd (show (1 : Int32) = 0 from h) (by decide)) (fun _ => ?_)
  refine J_aload_n 0 dJ0_charAt_5068e_7 rfl ?_
  refine S_value sf_value dJ0_charAt_5068e_8 hw ?_
  refine J_iload_n 1 dJ0_charAt_5068e_11 rfl ?_
  refine M_callSI (d' := 3) (As := [.ref (1001000 + w), .int i]) (st := []) ss_495 dJ0_charAt_5068e_12 rfl (Nat.le_of_ble_eq_true rfl) (Nat.le_of_ble_eq_true rfl) (by decide) rfl rfl (sJ_l1 hw hin) ?_
  exact J_ret (v := some (.int (strAt w i))) rfl ⟨dJ0_charAt_5068e_15, Or.inr (Or.inr (Or.inl ⟨rfl, (s_chr w hw i.toNatClampNeg hin.2).2⟩))⟩ ⟨rfl, rfl⟩
theorem M_strlen {b : jMI} {d : Nat} {Q : Option Value → jPS → Prop} {pc : Nat} {ls : List (Nat × Value)} {st : List Value} {σ : jM} {idx w : Nat} (hc : jCV b.1 idx mi_J0_length_8abf5 0) (hdg : decode b.2.2.1 pc = .ok (.invokevirtual idx, 3)) (hwn : w < 12) (hw : (st.map (fun v => v.category)).sum ≤ 8) (hd : 5 + 1 ≤ d) (K : J b d 0 0 Q (pc + 3) ls (.int (strLen w) :: st) (ms σ)) : J b d 0 0 Q pc ls (.ref (1000000 + w) :: st) (ms σ) :=
  M_callT (d' := 2) (w := w) (As := []) (st := st) hwn hc rfl hdg rfl hw (Nat.le_of_ble_eq_true rfl) (by omega) rfl rfl (sJ_length hwn) K
theorem M_strat {b : jMI} {d : Nat} {Q : Option Value → jPS → Prop} {pc : Nat} {ls : List (Nat × Value)} {st : List Value} {σ : jM} {idx w : Nat} {i : Int32} (hc : jCV b.1 idx mi_J0_charAt_5068e 1) (hdg : decode b.2.2.1 pc = .ok (.invokevirtual idx, 3)) (hwn : w < 12) (hin : inb i (jslen.getD w 0)) (hw : (st.map (fun v => v.category)).sum ≤ 8) (hd : 5 + 1 ≤ d) (K : J b d 0 0 Q (pc + 3) ls (.int (strAt w i) :: st) (ms σ)) : J b d 0 0 Q pc ls (.int i :: .ref (1000000 + w) :: st) (ms σ) :=
  M_callT (d' := 4) (w := w) (As := [.int i]) (st := st) hwn hc rfl hdg rfl hw (Nat.le_of_ble_eq_true rfl) (by omega) rfl rfl (sJ_charAt hwn hin) K

