def bk (x : Option (List C0)) (k : List C0 → Option (List C0)) : Option (List C0) := match x with
  | none => none
  | some q => k q
theorem bk_inv {x : Option (List C0)} {k : List C0 → Option (List C0)} {r : List C0} (h : bk x k = some r) : ∃ M, x = some M ∧ k M = some r := by
  cases x with
  | none => cases h
  | some q => exact ⟨q, rfl, h⟩
def bo (x : Option Nat) (k : Nat → Option (List C0)) : Option (List C0) := match x with
  | none => none
  | some q => k q
theorem bo_inv {x : Option Nat} {k : Nat → Option (List C0)} {r : List C0} (h : bo x k = some r) : ∃ q, x = some q ∧ k q = some r := by
  cases x with
  | none => cases h
  | some q => exact ⟨q, rfl, h⟩
theorem K_ret {b : jMI} {d pc : Nat} {ls : List (Nat × Value)} {L M : List C0} (hdg : decode b.2.2.1 pc = .ok (.return_, 1)) (hr : b.2.2.2.2 = none) (h : some L = some M) : JA b d (jqK M) pc ls [] L M := by
  cases h
  exact ⟨Nat.le_refl _, Nat.le_refl _, fun _ => J_ret (v := none) rfl ⟨hdg, hr⟩ ⟨rfl, rfl⟩⟩

theorem ob_X3_3 : Cond.methodLink RX3 3 Lib.objectInit ∈ jgt ∧ Cond.instanceMethod Lib.objectInit ∈ jgt ∧ Cond.code Lib.objectInit ⟨#[0xb1]⟩ 1 none ∈ jgt := ⟨jmT 146 (by decide +kernel) (by decide +kernel), jmT 34 (by decide +kernel) (by decide +kernel), jmT 35 (by decide +kernel) (by decide +kernel)⟩
theorem ci_X10_3 : jCI RX10 3 mi_X3_init 0 := ⟨Or.inl ⟨"GridRoom", by decide +kernel⟩, ⟨jmT 144 (by decide +kernel) (by decide +kernel), jmT 5 (by decide +kernel) (by decide +kernel), jmT 145 (by decide +kernel) (by decide +kernel)⟩, ⟨by decide +kernel, by decide +kernel, by decide +kernel⟩, ⟨by decide +kernel, rfl⟩, by decide, rfl, rfl⟩
theorem am_int : Cond.arrayClass .int ∈ jgt := jmT 89 (by decide +kernel) (by decide +kernel)
theorem ci_X6_3 : jCI RX6 3 mi_X3_init 0 := ⟨Or.inl ⟨"GridRoom", by decide +kernel⟩, ⟨jmT 144 (by decide +kernel) (by decide +kernel), jmT 5 (by decide +kernel) (by decide +kernel), jmT 145 (by decide +kernel) (by decide +kernel)⟩, ⟨by decide +kernel, by decide +kernel, by decide +kernel⟩, ⟨by decide +kernel, rfl⟩, by decide, rfl, rfl⟩
theorem ci_X9_1 : jCI RX9 1 mi_X3_init 0 := ⟨Or.inl ⟨"GridRoom", by decide +kernel⟩, ⟨jmT 144 (by decide +kernel) (by decide +kernel), jmT 5 (by decide +kernel) (by decide +kernel), jmT 145 (by decide +kernel) (by decide +kernel)⟩, ⟨by decide +kernel, by decide +kernel, by decide +kernel⟩, ⟨by decide +kernel, rfl⟩, by decide, rfl, rfl⟩
theorem ob_X7_3 : Cond.methodLink RX7 3 Lib.objectInit ∈ jgt ∧ Cond.instanceMethod Lib.objectInit ∈ jgt ∧ Cond.code Lib.objectInit ⟨#[0xb1]⟩ 1 none ∈ jgt := ⟨jmT 95 (by decide +kernel) (by decide +kernel), jmT 34 (by decide +kernel) (by decide +kernel), jmT 35 (by decide +kernel) (by decide +kernel)⟩
theorem ob_X5_3 : Cond.methodLink RX5 3 Lib.objectInit ∈ jgt ∧ Cond.instanceMethod Lib.objectInit ∈ jgt ∧ Cond.code Lib.objectInit ⟨#[0xb1]⟩ 1 none ∈ jgt := ⟨jmT 55 (by decide +kernel) (by decide +kernel), jmT 34 (by decide +kernel) (by decide +kernel), jmT 35 (by decide +kernel) (by decide +kernel)⟩
theorem am_long : Cond.arrayClass .long ∈ jgt := jmT 90 (by decide +kernel) (by decide +kernel)
theorem ob_X11_3 : Cond.methodLink RX11 3 Lib.objectInit ∈ jgt ∧ Cond.instanceMethod Lib.objectInit ∈ jgt ∧ Cond.code Lib.objectInit ⟨#[0xb1]⟩ 1 none ∈ jgt := ⟨jmT 303 (by decide +kernel) (by decide +kernel), jmT 34 (by decide +kernel) (by decide +kernel), jmT 35 (by decide +kernel) (by decide +kernel)⟩
theorem nw_X0_29 : Cond.classLink RX0 29 RX6 ∈ jgt ∧ Cond.instantiable RX6 5 ∈ jgt ∧ Cond.initialized RX6 ∈ jgt := ⟨jmT 48 (by decide +kernel) (by decide +kernel), jmT 204 (by decide +kernel) (by decide +kernel), jmT 8 (by decide +kernel) (by decide +kernel)⟩
theorem ci_X0_57 : jCI RX0 57 mi_X6_init 0 := ⟨Or.inl ⟨"GridRoom", by decide +kernel⟩, ⟨jmT 206 (by decide +kernel) (by decide +kernel), jmT 8 (by decide +kernel) (by decide +kernel), jmT 207 (by decide +kernel) (by decide +kernel)⟩, ⟨by decide +kernel, by decide +kernel, by decide +kernel⟩, ⟨by decide +kernel, rfl⟩, by decide, rfl, rfl⟩
theorem nw_X0_23 : Cond.classLink RX0 23 RX9 ∈ jgt ∧ Cond.instantiable RX9 6 ∈ jgt ∧ Cond.initialized RX9 ∈ jgt := ⟨jmT 46 (by decide +kernel) (by decide +kernel), jmT 180 (by decide +kernel) (by decide +kernel), jmT 7 (by decide +kernel) (by decide +kernel)⟩
theorem ci_X0_56 : jCI RX0 56 mi_X9_init 0 := ⟨Or.inl ⟨"GridRoom", by decide +kernel⟩, ⟨jmT 182 (by decide +kernel) (by decide +kernel), jmT 7 (by decide +kernel) (by decide +kernel), jmT 183 (by decide +kernel) (by decide +kernel)⟩, ⟨by decide +kernel, by decide +kernel, by decide +kernel⟩, ⟨by decide +kernel, rfl⟩, by decide, rfl, rfl⟩
theorem nw_X0_17 : Cond.classLink RX0 17 RX7 ∈ jgt ∧ Cond.instantiable RX7 10 ∈ jgt ∧ Cond.initialized RX7 ∈ jgt := ⟨jmT 44 (by decide +kernel) (by decide +kernel), jmT 91 (by decide +kernel) (by decide +kernel), jmT 4 (by decide +kernel) (by decide +kernel)⟩
theorem ci_X0_50 : jCI RX0 50 mi_X7_init 0 := ⟨Or.inl ⟨"GridRoom", by decide +kernel⟩, ⟨jmT 93 (by decide +kernel) (by decide +kernel), jmT 4 (by decide +kernel) (by decide +kernel), jmT 94 (by decide +kernel) (by decide +kernel)⟩, ⟨by decide +kernel, by decide +kernel, by decide +kernel⟩, ⟨by decide +kernel, rfl⟩, by decide, rfl, rfl⟩
theorem nw_X0_9 : Cond.classLink RX0 9 RX10 ∈ jgt ∧ Cond.instantiable RX10 5 ∈ jgt ∧ Cond.initialized RX10 ∈ jgt := ⟨jmT 42 (by decide +kernel) (by decide +kernel), jmT 139 (by decide +kernel) (by decide +kernel), jmT 6 (by decide +kernel) (by decide +kernel)⟩
theorem ci_X0_55 : jCI RX0 55 mi_X10_init 0 := ⟨Or.inl ⟨"GridRoom", by decide +kernel⟩, ⟨jmT 141 (by decide +kernel) (by decide +kernel), jmT 6 (by decide +kernel) (by decide +kernel), jmT 142 (by decide +kernel) (by decide +kernel)⟩, ⟨by decide +kernel, by decide +kernel, by decide +kernel⟩, ⟨by decide +kernel, rfl⟩, by decide, rfl, rfl⟩
theorem ob_X0_3 : Cond.methodLink RX0 3 Lib.objectInit ∈ jgt ∧ Cond.instanceMethod Lib.objectInit ∈ jgt ∧ Cond.code Lib.objectInit ⟨#[0xb1]⟩ 1 none ∈ jgt := ⟨jmT 41 (by decide +kernel) (by decide +kernel), jmT 34 (by decide +kernel) (by decide +kernel), jmT 35 (by decide +kernel) (by decide +kernel)⟩
theorem an_X0_9 : Cond.classLink RX0 9 RX10 ∈ jgt ∧ RX10 ∈ [RX6, RX7, RX9, RX10] := ⟨jmT 42 (by decide +kernel) (by decide +kernel), by decide +kernel⟩
theorem an_X0_17 : Cond.classLink RX0 17 RX7 ∈ jgt ∧ RX7 ∈ [RX6, RX7, RX9, RX10] := ⟨jmT 44 (by decide +kernel) (by decide +kernel), by decide +kernel⟩
theorem an_X0_23 : Cond.classLink RX0 23 RX9 ∈ jgt ∧ RX9 ∈ [RX6, RX7, RX9, RX10] := ⟨jmT 46 (by decide +kernel) (by decide +kernel), by decide +kernel⟩
theorem an_X0_29 : Cond.classLink RX0 29 RX6 ∈ jgt ∧ RX6 ∈ [RX6, RX7, RX9, RX10] := ⟨jmT 48 (by decide +kernel) (by decide +kernel), by decide +kernel⟩
theorem nw_X0_35 : Cond.classLink RX0 35 RX5 ∈ jgt ∧ Cond.instantiable RX5 10 ∈ jgt ∧ Cond.initialized RX5 ∈ jgt := ⟨jmT 50 (by decide +kernel) (by decide +kernel), jmT 51 (by decide +kernel) (by decide +kernel), jmT 3 (by decide +kernel) (by decide +kernel)⟩
theorem ci_X0_37 : jCI RX0 37 mi_X5_init 0 := ⟨Or.inl ⟨"GridRoom", by decide +kernel⟩, ⟨jmT 53 (by decide +kernel) (by decide +kernel), jmT 3 (by decide +kernel) (by decide +kernel), jmT 54 (by decide +kernel) (by decide +kernel)⟩, ⟨by decide +kernel, by decide +kernel, by decide +kernel⟩, ⟨by decide +kernel, rfl⟩, by decide, rfl, rfl⟩
theorem ob_X4_3 : Cond.methodLink RX4 3 Lib.objectInit ∈ jgt ∧ Cond.instanceMethod Lib.objectInit ∈ jgt ∧ Cond.code Lib.objectInit ⟨#[0xb1]⟩ 1 none ∈ jgt := ⟨jmT 338 (by decide +kernel) (by decide +kernel), jmT 34 (by decide +kernel) (by decide +kernel), jmT 35 (by decide +kernel) (by decide +kernel)⟩
theorem mn_X4_9 : Cond.classLink RX4 9 ("[" ++ (FieldType.array .int).toString) ∈ jgt ∧ FieldType.int ∈ [FieldType.int, FieldType.long] ∧ Cond.arrayClass .int ∈ jgt := ⟨jmT 339 (by decide +kernel) (by decide +kernel), by decide +kernel, jmT 89 (by decide +kernel) (by decide +kernel)⟩
theorem mn_X4_16 : Cond.classLink RX4 16 ("[" ++ (FieldType.array .long).toString) ∈ jgt ∧ FieldType.long ∈ [FieldType.int, FieldType.long] ∧ Cond.arrayClass .long ∈ jgt := ⟨jmT 341 (by decide +kernel) (by decide +kernel), by decide +kernel, jmT 90 (by decide +kernel) (by decide +kernel)⟩
theorem ob_X2_3 : Cond.methodLink RX2 3 Lib.objectInit ∈ jgt ∧ Cond.instanceMethod Lib.objectInit ∈ jgt ∧ Cond.code Lib.objectInit ⟨#[0xb1]⟩ 1 none ∈ jgt := ⟨jmT 384 (by decide +kernel) (by decide +kernel), jmT 34 (by decide +kernel) (by decide +kernel), jmT 35 (by decide +kernel) (by decide +kernel)⟩
theorem mn_X2_21 : Cond.classLink RX2 21 ("[" ++ (FieldType.array .int).toString) ∈ jgt ∧ FieldType.int ∈ [FieldType.int, FieldType.long] ∧ Cond.arrayClass .int ∈ jgt := ⟨jmT 385 (by decide +kernel) (by decide +kernel), by decide +kernel, jmT 89 (by decide +kernel) (by decide +kernel)⟩
theorem ob_X8_3 : Cond.methodLink RX8 3 Lib.objectInit ∈ jgt ∧ Cond.instanceMethod Lib.objectInit ∈ jgt ∧ Cond.code Lib.objectInit ⟨#[0xb1]⟩ 1 none ∈ jgt := ⟨jmT 440 (by decide +kernel) (by decide +kernel), jmT 34 (by decide +kernel) (by decide +kernel), jmT 35 (by decide +kernel) (by decide +kernel)⟩
theorem mn_X8_27 : Cond.classLink RX8 27 ("[" ++ (FieldType.array .int).toString) ∈ jgt ∧ FieldType.int ∈ [FieldType.int, FieldType.long] ∧ Cond.arrayClass .int ∈ jgt := ⟨jmT 441 (by decide +kernel) (by decide +kernel), by decide +kernel, jmT 89 (by decide +kernel) (by decide +kernel)⟩
theorem ob_X1_3 : Cond.methodLink RX1 3 Lib.objectInit ∈ jgt ∧ Cond.instanceMethod Lib.objectInit ∈ jgt ∧ Cond.code Lib.objectInit ⟨#[0xb1]⟩ 1 none ∈ jgt := ⟨jmT 508 (by decide +kernel) (by decide +kernel), jmT 34 (by decide +kernel) (by decide +kernel), jmT 35 (by decide +kernel) (by decide +kernel)⟩
theorem ob_X12_3 : Cond.methodLink RX12 3 Lib.objectInit ∈ jgt ∧ Cond.instanceMethod Lib.objectInit ∈ jgt ∧ Cond.code Lib.objectInit ⟨#[0xb1]⟩ 1 none ∈ jgt := ⟨jmT 33 (by decide +kernel) (by decide +kernel), jmT 34 (by decide +kernel) (by decide +kernel), jmT 35 (by decide +kernel) (by decide +kernel)⟩
theorem nw_X12_16 : Cond.classLink RX12 16 RX0 ∈ jgt ∧ Cond.instantiable RX0 14 ∈ jgt ∧ Cond.initialized RX0 ∈ jgt := ⟨jmT 36 (by decide +kernel) (by decide +kernel), jmT 37 (by decide +kernel) (by decide +kernel), jmT 2 (by decide +kernel) (by decide +kernel)⟩
theorem ci_X12_18 : jCI RX12 18 mi_X0_init 0 := ⟨Or.inr (jmT 38 (by decide +kernel) (by decide +kernel)), ⟨jmT 39 (by decide +kernel) (by decide +kernel), jmT 2 (by decide +kernel) (by decide +kernel), jmT 40 (by decide +kernel) (by decide +kernel)⟩, ⟨by decide +kernel, by decide +kernel, by decide +kernel⟩, ⟨by decide +kernel, rfl⟩, by decide, rfl, rfl⟩
theorem nw_X12_23 : Cond.classLink RX12 23 RX11 ∈ jgt ∧ Cond.instantiable RX11 8 ∈ jgt ∧ Cond.initialized RX11 ∈ jgt := ⟨jmT 298 (by decide +kernel) (by decide +kernel), jmT 299 (by decide +kernel) (by decide +kernel), jmT 9 (by decide +kernel) (by decide +kernel)⟩
theorem ci_X12_25 : jCI RX12 25 mi_X11_init 0 := ⟨Or.inl ⟨"GridRoom", by decide +kernel⟩, ⟨jmT 301 (by decide +kernel) (by decide +kernel), jmT 9 (by decide +kernel) (by decide +kernel), jmT 302 (by decide +kernel) (by decide +kernel)⟩, ⟨by decide +kernel, by decide +kernel, by decide +kernel⟩, ⟨by decide +kernel, rfl⟩, by decide, rfl, rfl⟩
theorem nw_X12_30 : Cond.classLink RX12 30 RX4 ∈ jgt ∧ Cond.instantiable RX4 9 ∈ jgt ∧ Cond.initialized RX4 ∈ jgt := ⟨jmT 333 (by decide +kernel) (by decide +kernel), jmT 334 (by decide +kernel) (by decide +kernel), jmT 10 (by decide +kernel) (by decide +kernel)⟩
theorem ci_X12_32 : jCI RX12 32 mi_X4_init 1 := ⟨Or.inr (jmT 335 (by decide +kernel) (by decide +kernel)), ⟨jmT 336 (by decide +kernel) (by decide +kernel), jmT 10 (by decide +kernel) (by decide +kernel), jmT 337 (by decide +kernel) (by decide +kernel)⟩, ⟨by decide +kernel, by decide +kernel, by decide +kernel⟩, ⟨by decide +kernel, rfl⟩, by decide, rfl, rfl⟩
theorem nw_X12_39 : Cond.classLink RX12 39 RX2 ∈ jgt ∧ Cond.instantiable RX2 13 ∈ jgt ∧ Cond.initialized RX2 ∈ jgt := ⟨jmT 379 (by decide +kernel) (by decide +kernel), jmT 380 (by decide +kernel) (by decide +kernel), jmT 11 (by decide +kernel) (by decide +kernel)⟩
theorem ci_X12_41 : jCI RX12 41 mi_X2_init 1 := ⟨Or.inr (jmT 381 (by decide +kernel) (by decide +kernel)), ⟨jmT 382 (by decide +kernel) (by decide +kernel), jmT 11 (by decide +kernel) (by decide +kernel), jmT 383 (by decide +kernel) (by decide +kernel)⟩, ⟨by decide +kernel, by decide +kernel, by decide +kernel⟩, ⟨by decide +kernel, rfl⟩, by decide, rfl, rfl⟩
theorem nw_X12_48 : Cond.classLink RX12 48 RX8 ∈ jgt ∧ Cond.instantiable RX8 19 ∈ jgt ∧ Cond.initialized RX8 ∈ jgt := ⟨jmT 435 (by decide +kernel) (by decide +kernel), jmT 436 (by decide +kernel) (by decide +kernel), jmT 12 (by decide +kernel) (by decide +kernel)⟩
theorem ci_X12_50 : jCI RX12 50 mi_X8_init 2 := ⟨Or.inr (jmT 437 (by decide +kernel) (by decide +kernel)), ⟨jmT 438 (by decide +kernel) (by decide +kernel), jmT 12 (by decide +kernel) (by decide +kernel), jmT 439 (by decide +kernel) (by decide +kernel)⟩, ⟨by decide +kernel, by decide +kernel, by decide +kernel⟩, ⟨by decide +kernel, rfl⟩, by decide, rfl, rfl⟩
theorem nw_X12_57 : Cond.classLink RX12 57 RX1 ∈ jgt ∧ Cond.instantiable RX1 8 ∈ jgt ∧ Cond.initialized RX1 ∈ jgt := ⟨jmT 503 (by decide +kernel) (by decide +kernel), jmT 504 (by decide +kernel) (by decide +kernel), jmT 13 (by decide +kernel) (by decide +kernel)⟩
theorem ci_X12_59 : jCI RX12 59 mi_X1_init 2 := ⟨Or.inr (jmT 505 (by decide +kernel) (by decide +kernel)), ⟨jmT 506 (by decide +kernel) (by decide +kernel), jmT 13 (by decide +kernel) (by decide +kernel), jmT 507 (by decide +kernel) (by decide +kernel)⟩, ⟨by decide +kernel, by decide +kernel, by decide +kernel⟩, ⟨by decide +kernel, rfl⟩, by decide, rfl, rfl⟩
theorem ob_X13_7 : Cond.methodLink RX13 7 Lib.objectInit ∈ jgt ∧ Cond.instanceMethod Lib.objectInit ∈ jgt ∧ Cond.code Lib.objectInit ⟨#[0xb1]⟩ 1 none ∈ jgt := ⟨jmT 1389 (by decide +kernel) (by decide +kernel), jmT 34 (by decide +kernel) (by decide +kernel), jmT 35 (by decide +kernel) (by decide +kernel)⟩
theorem am_byte : Cond.arrayClass .byte ∈ jgt := jmT 748 (by decide +kernel) (by decide +kernel)
theorem am_boolean : Cond.arrayClass .boolean ∈ jgt := jmT 1619 (by decide +kernel) (by decide +kernel)
theorem dX3_init_0 : decode cX3_init 0 = .ok (.aload_n 0, 1) := by decide +kernel
theorem dX3_init_1 : decode cX3_init 1 = .ok (.invokespecial 3, 3) := by decide +kernel
theorem dX3_init_4 : decode cX3_init 4 = .ok (.aload_n 0, 1) := by decide +kernel
theorem dX3_init_5 : decode cX3_init 5 = .ok (.iconst (-1), 1) := by decide +kernel
theorem dX3_init_6 : decode cX3_init 6 = .ok (.putfield 9, 3) := by decide +kernel
theorem dX3_init_9 : decode cX3_init 9 = .ok (.return_, 1) := by decide +kernel
set_option maxRecDepth 20000 in
noncomputable def f_X3_init (k0 : Nat) (L : List C0) : Option (List C0) :=
  gd (((L.getD k0 dC).1.1 = 9 ∧ k0 < L.length ∧ k0 < 1000000) ∨ ((L.getD k0 dC).1.1 = 8 ∧ k0 < L.length ∧ k0 < 1000000) ∨ ((L.getD k0 dC).1.1 = 5 ∧ k0 < L.length ∧ k0 < 1000000)) (bk (some (ptI L k0 1 (-1))) (fun L3 => some L3))
set_option maxRecDepth 20000 in
set_option maxHeartbeats 4000000 in
theorem t_X3_init {k0 : Nat} {L M : List C0} (h : f_X3_init k0 L = some M) : JA mi_X3_init 1 (jqK M) 0 [(0, .ref k0)] [] L M := by
  unfold f_X3_init at h
  refine K_lift (fun kc ks K => J_aload_n 0 dX3_init_0 rfl K) ?_
  refine K_obj ob_X3_3 dX3_init_1 (by decide) (Nat.le_of_ble_eq_true rfl) ?_
  refine K_lift (fun kc ks K => J_aload_n 0 dX3_init_4 rfl K) ?_
  refine K_lift (fun kc ks K => J_iconst (v := (-1)) dX3_init_5 (by decide) K) ?_
  obtain ⟨g5, h⟩ := gd_inv h
  rcases g5 with g5 | g5 | g5
  · refine K_putI pf_X3_9_9 (fun _ => rfl) dX3_init_6 g5 ⟨rfl, rfl⟩ ?_
    obtain ⟨L3, e4, h⟩ := bk_inv h
    have e4 := Option.some.inj e4
    rw [e4]
    exact K_ret dX3_init_9 rfl h
  · refine K_putI pf_X3_9_8 (fun _ => rfl) dX3_init_6 g5 ⟨rfl, rfl⟩ ?_
    obtain ⟨L3, e4, h⟩ := bk_inv h
    have e4 := Option.some.inj e4
    rw [e4]
    exact K_ret dX3_init_9 rfl h
  · refine K_putI pf_X3_9_5 (fun _ => rfl) dX3_init_6 g5 ⟨rfl, rfl⟩ ?_
    obtain ⟨L3, e4, h⟩ := bk_inv h
    have e4 := Option.some.inj e4
    rw [e4]
    exact K_ret dX3_init_9 rfl h
theorem dX10_init_0 : decode cX10_init 0 = .ok (.aload_n 0, 1) := by decide +kernel
theorem dX10_init_1 : decode cX10_init 1 = .ok (.invokespecial 3, 3) := by decide +kernel
theorem dX10_init_4 : decode cX10_init 4 = .ok (.aload_n 0, 1) := by decide +kernel
theorem dX10_init_5 : decode cX10_init 5 = .ok (.bipush 8, 2) := by decide +kernel
theorem dX10_init_7 : decode cX10_init 7 = .ok (.newarray .int, 2) := by decide +kernel
theorem dX10_init_9 : decode cX10_init 9 = .ok (.putfield 9, 3) := by decide +kernel
theorem dX10_init_12 : decode cX10_init 12 = .ok (.aload_n 0, 1) := by decide +kernel
theorem dX10_init_13 : decode cX10_init 13 = .ok (.bipush 48, 2) := by decide +kernel
theorem dX10_init_15 : decode cX10_init 15 = .ok (.newarray .int, 2) := by decide +kernel
theorem dX10_init_17 : decode cX10_init 17 = .ok (.putfield 15, 3) := by decide +kernel
theorem dX10_init_20 : decode cX10_init 20 = .ok (.return_, 1) := by decide +kernel
set_option maxRecDepth 20000 in
noncomputable def f_X10_init (k0 : Nat) (L : List C0) : Option (List C0) :=
  bk (f_X3_init k0 L) (fun L2 => gd (L2.length < 1000000) (bk (some (L2 ++ [((14, 8), [], [])])) (fun L5 => gd ((L5.getD k0 dC).1.1 = 9 ∧ k0 < L5.length ∧ k0 < 1000000) (bk (some (ptR L5 k0 3 (some (L2.length)))) (fun L8 => gd (L8.length < 1000000) (bk (some (L8 ++ [((14, 48), [], [])])) (fun L11 => gd ((L11.getD k0 dC).1.1 = 9 ∧ k0 < L11.length ∧ k0 < 1000000) (bk (some (ptR L11 k0 4 (some (L8.length)))) (fun L14 => some L14)))))))))
set_option maxRecDepth 20000 in
set_option maxHeartbeats 4000000 in
theorem t_X10_init {k0 : Nat} {L M : List C0} (h : f_X10_init k0 L = some M) : JA mi_X10_init 2 (jqK M) 0 [(0, .ref k0)] [] L M := by
  unfold f_X10_init at h
  refine K_lift (fun kc ks K => J_aload_n 0 dX10_init_0 rfl K) ?_
  obtain ⟨L2, h3, h⟩ := bk_inv h
  refine K_callI (d' := 1) (r := k0) (As := []) (st := []) ci_X10_3 dX10_init_1 rfl (Nat.le_of_ble_eq_true rfl) (Nat.le_of_ble_eq_true rfl) (by decide) rfl rfl (t_X3_init h3) ?_
  refine K_lift (fun kc ks K => J_aload_n 0 dX10_init_4 rfl K) ?_
  refine K_lift (fun kc ks K => J_bipush (v := 8) dX10_init_5 (by decide) K) ?_
  obtain ⟨g4, h⟩ := gd_inv h
  refine K_newa (at_ := .int) (kd := 14) (t0 := 1) (n := 8) (fun g => rfl) (fun U cA q => q) (by decide) (by decide) am_int dX10_init_7 (by decide) (by decide) (by decide) g4 ?_
  obtain ⟨L5, e6, h⟩ := bk_inv h
  have e6 := Option.some.inj e6
  rw [e6]
  obtain ⟨g7, h⟩ := gd_inv h
  refine K_putR pf_X10_9_9 (fun _ => rfl) dX10_init_9 g7 ?_
  obtain ⟨L8, e9, h⟩ := bk_inv h
  have e9 := Option.some.inj e9
  rw [e9]
  refine K_lift (fun kc ks K => J_aload_n 0 dX10_init_12 rfl K) ?_
  refine K_lift (fun kc ks K => J_bipush (v := 48) dX10_init_13 (by decide) K) ?_
  obtain ⟨g10, h⟩ := gd_inv h
  refine K_newa (at_ := .int) (kd := 14) (t0 := 1) (n := 48) (fun g => rfl) (fun U cA q => q) (by decide) (by decide) am_int dX10_init_15 (by decide) (by decide) (by decide) g10 ?_
  obtain ⟨L11, e12, h⟩ := bk_inv h
  have e12 := Option.some.inj e12
  rw [e12]
  obtain ⟨g13, h⟩ := gd_inv h
  refine K_putR pf_X10_15_9 (fun _ => rfl) dX10_init_17 g13 ?_
  obtain ⟨L14, e15, h⟩ := bk_inv h
  have e15 := Option.some.inj e15
  rw [e15]
  exact K_ret dX10_init_20 rfl h
theorem dX6_init_0 : decode cX6_init 0 = .ok (.aload_n 0, 1) := by decide +kernel
theorem dX6_init_1 : decode cX6_init 1 = .ok (.invokespecial 3, 3) := by decide +kernel
theorem dX6_init_4 : decode cX6_init 4 = .ok (.aload_n 0, 1) := by decide +kernel
theorem dX6_init_5 : decode cX6_init 5 = .ok (.bipush 8, 2) := by decide +kernel
theorem dX6_init_7 : decode cX6_init 7 = .ok (.newarray .int, 2) := by decide +kernel
theorem dX6_init_9 : decode cX6_init 9 = .ok (.putfield 9, 3) := by decide +kernel
theorem dX6_init_12 : decode cX6_init 12 = .ok (.return_, 1) := by decide +kernel
set_option maxRecDepth 20000 in
noncomputable def f_X6_init (k0 : Nat) (L : List C0) : Option (List C0) :=
  bk (f_X3_init k0 L) (fun L2 => gd (L2.length < 1000000) (bk (some (L2 ++ [((14, 8), [], [])])) (fun L5 => gd ((L5.getD k0 dC).1.1 = 5 ∧ k0 < L5.length ∧ k0 < 1000000) (bk (some (ptR L5 k0 2 (some (L2.length)))) (fun L8 => some L8)))))
set_option maxRecDepth 20000 in
set_option maxHeartbeats 4000000 in
theorem t_X6_init {k0 : Nat} {L M : List C0} (h : f_X6_init k0 L = some M) : JA mi_X6_init 2 (jqK M) 0 [(0, .ref k0)] [] L M := by
  unfold f_X6_init at h
  refine K_lift (fun kc ks K => J_aload_n 0 dX6_init_0 rfl K) ?_
  obtain ⟨L2, h3, h⟩ := bk_inv h
  refine K_callI (d' := 1) (r := k0) (As := []) (st := []) ci_X6_3 dX6_init_1 rfl (Nat.le_of_ble_eq_true rfl) (Nat.le_of_ble_eq_true rfl) (by decide) rfl rfl (t_X3_init h3) ?_
  refine K_lift (fun kc ks K => J_aload_n 0 dX6_init_4 rfl K) ?_
  refine K_lift (fun kc ks K => J_bipush (v := 8) dX6_init_5 (by decide) K) ?_
  obtain ⟨g4, h⟩ := gd_inv h
  refine K_newa (at_ := .int) (kd := 14) (t0 := 1) (n := 8) (fun g => rfl) (fun U cA q => q) (by decide) (by decide) am_int dX6_init_7 (by decide) (by decide) (by decide) g4 ?_
  obtain ⟨L5, e6, h⟩ := bk_inv h
  have e6 := Option.some.inj e6
  rw [e6]
  obtain ⟨g7, h⟩ := gd_inv h
  refine K_putR pf_X6_9_5 (fun _ => rfl) dX6_init_9 g7 ?_
  obtain ⟨L8, e9, h⟩ := bk_inv h
  have e9 := Option.some.inj e9
  rw [e9]
  exact K_ret dX6_init_12 rfl h
theorem dX9_init_0 : decode cX9_init 0 = .ok (.aload_n 0, 1) := by decide +kernel
theorem dX9_init_1 : decode cX9_init 1 = .ok (.invokespecial 1, 3) := by decide +kernel
theorem dX9_init_4 : decode cX9_init 4 = .ok (.return_, 1) := by decide +kernel
set_option maxRecDepth 20000 in
noncomputable def f_X9_init (k0 : Nat) (L : List C0) : Option (List C0) :=
  bk (f_X3_init k0 L) (fun L2 => some L2)
set_option maxRecDepth 20000 in
set_option maxHeartbeats 4000000 in
theorem t_X9_init {k0 : Nat} {L M : List C0} (h : f_X9_init k0 L = some M) : JA mi_X9_init 2 (jqK M) 0 [(0, .ref k0)] [] L M := by
  unfold f_X9_init at h
  refine K_lift (fun kc ks K => J_aload_n 0 dX9_init_0 rfl K) ?_
  obtain ⟨L2, h3, h⟩ := bk_inv h
  refine K_callI (d' := 1) (r := k0) (As := []) (st := []) ci_X9_1 dX9_init_1 rfl (Nat.le_of_ble_eq_true rfl) (Nat.le_of_ble_eq_true rfl) (by decide) rfl rfl (t_X3_init h3) ?_
  exact K_ret dX9_init_4 rfl h
theorem dX7_init_0 : decode cX7_init 0 = .ok (.aload_n 0, 1) := by decide +kernel
theorem dX7_init_1 : decode cX7_init 1 = .ok (.invokespecial 3, 3) := by decide +kernel
theorem dX7_init_4 : decode cX7_init 4 = .ok (.aload_n 0, 1) := by decide +kernel
theorem dX7_init_5 : decode cX7_init 5 = .ok (.bipush 12, 2) := by decide +kernel
theorem dX7_init_7 : decode cX7_init 7 = .ok (.newarray .int, 2) := by decide +kernel
theorem dX7_init_9 : decode cX7_init 9 = .ok (.putfield 9, 3) := by decide +kernel
theorem dX7_init_12 : decode cX7_init 12 = .ok (.aload_n 0, 1) := by decide +kernel
theorem dX7_init_13 : decode cX7_init 13 = .ok (.bipush 12, 2) := by decide +kernel
theorem dX7_init_15 : decode cX7_init 15 = .ok (.newarray .int, 2) := by decide +kernel
theorem dX7_init_17 : decode cX7_init 17 = .ok (.putfield 15, 3) := by decide +kernel
theorem dX7_init_20 : decode cX7_init 20 = .ok (.aload_n 0, 1) := by decide +kernel
theorem dX7_init_21 : decode cX7_init 21 = .ok (.bipush 12, 2) := by decide +kernel
theorem dX7_init_23 : decode cX7_init 23 = .ok (.newarray .int, 2) := by decide +kernel
theorem dX7_init_25 : decode cX7_init 25 = .ok (.putfield 18, 3) := by decide +kernel
theorem dX7_init_28 : decode cX7_init 28 = .ok (.aload_n 0, 1) := by decide +kernel
theorem dX7_init_29 : decode cX7_init 29 = .ok (.bipush 12, 2) := by decide +kernel
theorem dX7_init_31 : decode cX7_init 31 = .ok (.newarray .int, 2) := by decide +kernel
theorem dX7_init_33 : decode cX7_init 33 = .ok (.putfield 21, 3) := by decide +kernel
theorem dX7_init_36 : decode cX7_init 36 = .ok (.aload_n 0, 1) := by decide +kernel
theorem dX7_init_37 : decode cX7_init 37 = .ok (.bipush 12, 2) := by decide +kernel
theorem dX7_init_39 : decode cX7_init 39 = .ok (.newarray .int, 2) := by decide +kernel
theorem dX7_init_41 : decode cX7_init 41 = .ok (.putfield 24, 3) := by decide +kernel
theorem dX7_init_44 : decode cX7_init 44 = .ok (.aload_n 0, 1) := by decide +kernel
theorem dX7_init_45 : decode cX7_init 45 = .ok (.bipush 12, 2) := by decide +kernel
theorem dX7_init_47 : decode cX7_init 47 = .ok (.newarray .int, 2) := by decide +kernel
theorem dX7_init_49 : decode cX7_init 49 = .ok (.putfield 27, 3) := by decide +kernel
theorem dX7_init_52 : decode cX7_init 52 = .ok (.aload_n 0, 1) := by decide +kernel
theorem dX7_init_53 : decode cX7_init 53 = .ok (.bipush 8, 2) := by decide +kernel
theorem dX7_init_55 : decode cX7_init 55 = .ok (.newarray .int, 2) := by decide +kernel
theorem dX7_init_57 : decode cX7_init 57 = .ok (.putfield 30, 3) := by decide +kernel
theorem dX7_init_60 : decode cX7_init 60 = .ok (.aload_n 0, 1) := by decide +kernel
theorem dX7_init_61 : decode cX7_init 61 = .ok (.bipush 8, 2) := by decide +kernel
theorem dX7_init_63 : decode cX7_init 63 = .ok (.newarray .int, 2) := by decide +kernel
theorem dX7_init_65 : decode cX7_init 65 = .ok (.putfield 33, 3) := by decide +kernel
theorem dX7_init_68 : decode cX7_init 68 = .ok (.return_, 1) := by decide +kernel
set_option maxRecDepth 20000 in
noncomputable def f_X7_init (k0 : Nat) (L : List C0) : Option (List C0) :=
  gd (L.length < 1000000) (bk (some (L ++ [((14, 12), [], [])])) (fun L3 => gd ((L3.getD k0 dC).1.1 = 6 ∧ k0 < L3.length ∧ k0 < 1000000) (bk (some (ptR L3 k0 2 (some (L.length)))) (fun L6 => gd (L6.length < 1000000) (bk (some (L6 ++ [((14, 12), [], [])])) (fun L9 => gd ((L9.getD k0 dC).1.1 = 6 ∧ k0 < L9.length ∧ k0 < 1000000) (bk (some (ptR L9 k0 3 (some (L6.length)))) (fun L12 => gd (L12.length < 1000000) (bk (some (L12 ++ [((14, 12), [], [])])) (fun L15 => gd ((L15.getD k0 dC).1.1 = 6 ∧ k0 < L15.length ∧ k0 < 1000000) (bk (some (ptR L15 k0 4 (some (L12.length)))) (fun L18 => gd (L18.length < 1000000) (bk (some (L18 ++ [((14, 12), [], [])])) (fun L21 => gd ((L21.getD k0 dC).1.1 = 6 ∧ k0 < L21.length ∧ k0 < 1000000) (bk (some (ptR L21 k0 5 (some (L18.length)))) (fun L24 => gd (L24.length < 1000000) (bk (some (L24 ++ [((14, 12), [], [])])) (fun L27 => gd ((L27.getD k0 dC).1.1 = 6 ∧ k0 < L27.length ∧ k0 < 1000000) (bk (some (ptR L27 k0 6 (some (L24.length)))) (fun L30 => gd (L30.length < 1000000) (bk (some (L30 ++ [((14, 12), [], [])])) (fun L33 => gd ((L33.getD k0 dC).1.1 = 6 ∧ k0 < L33.length ∧ k0 < 1000000) (bk (some (ptR L33 k0 7 (some (L30.length)))) (fun L36 => gd (L36.length < 1000000) (bk (some (L36 ++ [((14, 8), [], [])])) (fun L39 => gd ((L39.getD k0 dC).1.1 = 6 ∧ k0 < L39.length ∧ k0 < 1000000) (bk (some (ptR L39 k0 8 (some (L36.length)))) (fun L42 => gd (L42.length < 1000000) (bk (some (L42 ++ [((14, 8), [], [])])) (fun L45 => gd ((L45.getD k0 dC).1.1 = 6 ∧ k0 < L45.length ∧ k0 < 1000000) (bk (some (ptR L45 k0 9 (some (L42.length)))) (fun L48 => some L48))))))))))))))))))))))))))))))))
set_option maxRecDepth 20000 in
set_option maxHeartbeats 4000000 in
theorem t_X7_init {k0 : Nat} {L M : List C0} (h : f_X7_init k0 L = some M) : JA mi_X7_init 1 (jqK M) 0 [(0, .ref k0)] [] L M := by
  unfold f_X7_init at h
  refine K_lift (fun kc ks K => J_aload_n 0 dX7_init_0 rfl K) ?_
  refine K_obj ob_X7_3 dX7_init_1 (by decide) (Nat.le_of_ble_eq_true rfl) ?_
  refine K_lift (fun kc ks K => J_aload_n 0 dX7_init_4 rfl K) ?_
  refine K_lift (fun kc ks K => J_bipush (v := 12) dX7_init_5 (by decide) K) ?_
  obtain ⟨g2, h⟩ := gd_inv h
  refine K_newa (at_ := .int) (kd := 14) (t0 := 1) (n := 12) (fun g => rfl) (fun U cA q => q) (by decide) (by decide) am_int dX7_init_7 (by decide) (by decide) (by decide) g2 ?_
  obtain ⟨L3, e4, h⟩ := bk_inv h
  have e4 := Option.some.inj e4
  rw [e4]
  obtain ⟨g5, h⟩ := gd_inv h
  refine K_putR pf_X7_9_6 (fun _ => rfl) dX7_init_9 g5 ?_
  obtain ⟨L6, e7, h⟩ := bk_inv h
  have e7 := Option.some.inj e7
  rw [e7]
  refine K_lift (fun kc ks K => J_aload_n 0 dX7_init_12 rfl K) ?_
  refine K_lift (fun kc ks K => J_bipush (v := 12) dX7_init_13 (by decide) K) ?_
  obtain ⟨g8, h⟩ := gd_inv h
  refine K_newa (at_ := .int) (kd := 14) (t0 := 1) (n := 12) (fun g => rfl) (fun U cA q => q) (by decide) (by decide) am_int dX7_init_15 (by decide) (by decide) (by decide) g8 ?_
  obtain ⟨L9, e10, h⟩ := bk_inv h
  have e10 := Option.some.inj e10
  rw [e10]
  obtain ⟨g11, h⟩ := gd_inv h
  refine K_putR pf_X7_15_6 (fun _ => rfl) dX7_init_17 g11 ?_
  obtain ⟨L12, e13, h⟩ := bk_inv h
  have e13 := Option.some.inj e13
  rw [e13]
  refine K_lift (fun kc ks K => J_aload_n 0 dX7_init_20 rfl K) ?_
  refine K_lift (fun kc ks K => J_bipush (v := 12) dX7_init_21 (by decide) K) ?_
  obtain ⟨g14, h⟩ := gd_inv h
  refine K_newa (at_ := .int) (kd := 14) (t0 := 1) (n := 12) (fun g => rfl) (fun U cA q => q) (by decide) (by decide) am_int dX7_init_23 (by decide) (by decide) (by decide) g14 ?_
  obtain ⟨L15, e16, h⟩ := bk_inv h
  have e16 := Option.some.inj e16
  rw [e16]
  obtain ⟨g17, h⟩ := gd_inv h
  refine K_putR pf_X7_18_6 (fun _ => rfl) dX7_init_25 g17 ?_
  obtain ⟨L18, e19, h⟩ := bk_inv h
  have e19 := Option.some.inj e19
  rw [e19]
  refine K_lift (fun kc ks K => J_aload_n 0 dX7_init_28 rfl K) ?_
  refine K_lift (fun kc ks K => J_bipush (v := 12) dX7_init_29 (by decide) K) ?_
  obtain ⟨g20, h⟩ := gd_inv h
  refine K_newa (at_ := .int) (kd := 14) (t0 := 1) (n := 12) (fun g => rfl) (fun U cA q => q) (by decide) (by decide) am_int dX7_init_31 (by decide) (by decide) (by decide) g20 ?_
  obtain ⟨L21, e22, h⟩ := bk_inv h
  have e22 := Option.some.inj e22
  rw [e22]
  obtain ⟨g23, h⟩ := gd_inv h
  refine K_putR pf_X7_21_6 (fun _ => rfl) dX7_init_33 g23 ?_
  obtain ⟨L24, e25, h⟩ := bk_inv h
  have e25 := Option.some.inj e25
  rw [e25]
  refine K_lift (fun kc ks K => J_aload_n 0 dX7_init_36 rfl K) ?_
  refine K_lift (fun kc ks K => J_bipush (v := 12) dX7_init_37 (by decide) K) ?_
  obtain ⟨g26, h⟩ := gd_inv h
  refine K_newa (at_ := .int) (kd := 14) (t0 := 1) (n := 12) (fun g => rfl) (fun U cA q => q) (by decide) (by decide) am_int dX7_init_39 (by decide) (by decide) (by decide) g26 ?_
  obtain ⟨L27, e28, h⟩ := bk_inv h
  have e28 := Option.some.inj e28
  rw [e28]
  obtain ⟨g29, h⟩ := gd_inv h
  refine K_putR pf_X7_24_6 (fun _ => rfl) dX7_init_41 g29 ?_
  obtain ⟨L30, e31, h⟩ := bk_inv h
  have e31 := Option.some.inj e31
  rw [e31]
  refine K_lift (fun kc ks K => J_aload_n 0 dX7_init_44 rfl K) ?_
  refine K_lift (fun kc ks K => J_bipush (v := 12) dX7_init_45 (by decide) K) ?_
  obtain ⟨g32, h⟩ := gd_inv h
  refine K_newa (at_ := .int) (kd := 14) (t0 := 1) (n := 12) (fun g => rfl) (fun U cA q => q) (by decide) (by decide) am_int dX7_init_47 (by decide) (by decide) (by decide) g32 ?_
  obtain ⟨L33, e34, h⟩ := bk_inv h
  have e34 := Option.some.inj e34
  rw [e34]
  obtain ⟨g35, h⟩ := gd_inv h
  refine K_putR pf_X7_27_6 (fun _ => rfl) dX7_init_49 g35 ?_
  obtain ⟨L36, e37, h⟩ := bk_inv h
  have e37 := Option.some.inj e37
  rw [e37]
  refine K_lift (fun kc ks K => J_aload_n 0 dX7_init_52 rfl K) ?_
  refine K_lift (fun kc ks K => J_bipush (v := 8) dX7_init_53 (by decide) K) ?_
  obtain ⟨g38, h⟩ := gd_inv h
  refine K_newa (at_ := .int) (kd := 14) (t0 := 1) (n := 8) (fun g => rfl) (fun U cA q => q) (by decide) (by decide) am_int dX7_init_55 (by decide) (by decide) (by decide) g38 ?_
  obtain ⟨L39, e40, h⟩ := bk_inv h
  have e40 := Option.some.inj e40
  rw [e40]
  obtain ⟨g41, h⟩ := gd_inv h
  refine K_putR pf_X7_30_6 (fun _ => rfl) dX7_init_57 g41 ?_
  obtain ⟨L42, e43, h⟩ := bk_inv h
  have e43 := Option.some.inj e43
  rw [e43]
  refine K_lift (fun kc ks K => J_aload_n 0 dX7_init_60 rfl K) ?_
  refine K_lift (fun kc ks K => J_bipush (v := 8) dX7_init_61 (by decide) K) ?_
  obtain ⟨g44, h⟩ := gd_inv h
  refine K_newa (at_ := .int) (kd := 14) (t0 := 1) (n := 8) (fun g => rfl) (fun U cA q => q) (by decide) (by decide) am_int dX7_init_63 (by decide) (by decide) (by decide) g44 ?_
  obtain ⟨L45, e46, h⟩ := bk_inv h
  have e46 := Option.some.inj e46
  rw [e46]
  obtain ⟨g47, h⟩ := gd_inv h
  refine K_putR pf_X7_33_6 (fun _ => rfl) dX7_init_65 g47 ?_
  obtain ⟨L48, e49, h⟩ := bk_inv h
  have e49 := Option.some.inj e49
  rw [e49]
  exact K_ret dX7_init_68 rfl h
theorem dX5_init_0 : decode cX5_init 0 = .ok (.aload_n 0, 1) := by decide +kernel
theorem dX5_init_1 : decode cX5_init 1 = .ok (.invokespecial 3, 3) := by decide +kernel
theorem dX5_init_4 : decode cX5_init 4 = .ok (.aload_n 0, 1) := by decide +kernel
theorem dX5_init_5 : decode cX5_init 5 = .ok (.iconst 4, 1) := by decide +kernel
theorem dX5_init_6 : decode cX5_init 6 = .ok (.newarray .int, 2) := by decide +kernel
theorem dX5_init_8 : decode cX5_init 8 = .ok (.dup, 1) := by decide +kernel
theorem dX5_init_9 : decode cX5_init 9 = .ok (.iconst 0, 1) := by decide +kernel
theorem dX5_init_10 : decode cX5_init 10 = .ok (.bipush 10, 2) := by decide +kernel
theorem dX5_init_12 : decode cX5_init 12 = .ok (.iastore, 1) := by decide +kernel
theorem dX5_init_13 : decode cX5_init 13 = .ok (.dup, 1) := by decide +kernel
theorem dX5_init_14 : decode cX5_init 14 = .ok (.iconst 1, 1) := by decide +kernel
theorem dX5_init_15 : decode cX5_init 15 = .ok (.bipush 10, 2) := by decide +kernel
theorem dX5_init_17 : decode cX5_init 17 = .ok (.iastore, 1) := by decide +kernel
theorem dX5_init_18 : decode cX5_init 18 = .ok (.dup, 1) := by decide +kernel
theorem dX5_init_19 : decode cX5_init 19 = .ok (.iconst 2, 1) := by decide +kernel
theorem dX5_init_20 : decode cX5_init 20 = .ok (.bipush 10, 2) := by decide +kernel
theorem dX5_init_22 : decode cX5_init 22 = .ok (.iastore, 1) := by decide +kernel
theorem dX5_init_23 : decode cX5_init 23 = .ok (.dup, 1) := by decide +kernel
theorem dX5_init_24 : decode cX5_init 24 = .ok (.iconst 3, 1) := by decide +kernel
theorem dX5_init_25 : decode cX5_init 25 = .ok (.bipush 10, 2) := by decide +kernel
theorem dX5_init_27 : decode cX5_init 27 = .ok (.iastore, 1) := by decide +kernel
theorem dX5_init_28 : decode cX5_init 28 = .ok (.putfield 9, 3) := by decide +kernel
theorem dX5_init_31 : decode cX5_init 31 = .ok (.aload_n 0, 1) := by decide +kernel
theorem dX5_init_32 : decode cX5_init 32 = .ok (.sipush 200, 3) := by decide +kernel
theorem dX5_init_35 : decode cX5_init 35 = .ok (.newarray .int, 2) := by decide +kernel
theorem dX5_init_37 : decode cX5_init 37 = .ok (.putfield 15, 3) := by decide +kernel
theorem dX5_init_40 : decode cX5_init 40 = .ok (.aload_n 0, 1) := by decide +kernel
theorem dX5_init_41 : decode cX5_init 41 = .ok (.sipush 200, 3) := by decide +kernel
theorem dX5_init_44 : decode cX5_init 44 = .ok (.newarray .int, 2) := by decide +kernel
theorem dX5_init_46 : decode cX5_init 46 = .ok (.putfield 18, 3) := by decide +kernel
theorem dX5_init_49 : decode cX5_init 49 = .ok (.aload_n 0, 1) := by decide +kernel
theorem dX5_init_50 : decode cX5_init 50 = .ok (.sipush 200, 3) := by decide +kernel
theorem dX5_init_53 : decode cX5_init 53 = .ok (.newarray .int, 2) := by decide +kernel
theorem dX5_init_55 : decode cX5_init 55 = .ok (.putfield 21, 3) := by decide +kernel
theorem dX5_init_58 : decode cX5_init 58 = .ok (.aload_n 0, 1) := by decide +kernel
theorem dX5_init_59 : decode cX5_init 59 = .ok (.sipush 200, 3) := by decide +kernel
theorem dX5_init_62 : decode cX5_init 62 = .ok (.newarray .int, 2) := by decide +kernel
theorem dX5_init_64 : decode cX5_init 64 = .ok (.putfield 24, 3) := by decide +kernel
theorem dX5_init_67 : decode cX5_init 67 = .ok (.aload_n 0, 1) := by decide +kernel
theorem dX5_init_68 : decode cX5_init 68 = .ok (.sipush 200, 3) := by decide +kernel
theorem dX5_init_71 : decode cX5_init 71 = .ok (.newarray .int, 2) := by decide +kernel
theorem dX5_init_73 : decode cX5_init 73 = .ok (.putfield 27, 3) := by decide +kernel
theorem dX5_init_76 : decode cX5_init 76 = .ok (.aload_n 0, 1) := by decide +kernel
theorem dX5_init_77 : decode cX5_init 77 = .ok (.sipush 780, 3) := by decide +kernel
theorem dX5_init_80 : decode cX5_init 80 = .ok (.newarray .int, 2) := by decide +kernel
theorem dX5_init_82 : decode cX5_init 82 = .ok (.putfield 30, 3) := by decide +kernel
theorem dX5_init_85 : decode cX5_init 85 = .ok (.aload_n 0, 1) := by decide +kernel
theorem dX5_init_86 : decode cX5_init 86 = .ok (.sipush 780, 3) := by decide +kernel
theorem dX5_init_89 : decode cX5_init 89 = .ok (.newarray .int, 2) := by decide +kernel
theorem dX5_init_91 : decode cX5_init 91 = .ok (.putfield 33, 3) := by decide +kernel
theorem dX5_init_94 : decode cX5_init 94 = .ok (.aload_n 0, 1) := by decide +kernel
theorem dX5_init_95 : decode cX5_init 95 = .ok (.bipush 40, 2) := by decide +kernel
theorem dX5_init_97 : decode cX5_init 97 = .ok (.newarray .long, 2) := by decide +kernel
theorem dX5_init_99 : decode cX5_init 99 = .ok (.putfield 36, 3) := by decide +kernel
theorem dX5_init_102 : decode cX5_init 102 = .ok (.return_, 1) := by decide +kernel
set_option maxRecDepth 20000 in
noncomputable def f_X5_init (k0 : Nat) (L : List C0) : Option (List C0) :=
  gd (L.length < 1000000) (bk (some (L ++ [((14, 4), [], [])])) (fun L3 => gd ((L3.getD (L.length) dC).1 = (14, 4) ∧ (L.length) < L3.length ∧ (L.length) < 1000000 ∧ inb 0 4) (bk (some (ptI L3 (L.length) (Int32.toNatClampNeg 0) 10)) (fun L6 => gd ((L6.getD (L.length) dC).1 = (14, 4) ∧ (L.length) < L6.length ∧ (L.length) < 1000000 ∧ inb 1 4) (bk (some (ptI L6 (L.length) (Int32.toNatClampNeg 1) 10)) (fun L9 => gd ((L9.getD (L.length) dC).1 = (14, 4) ∧ (L.length) < L9.length ∧ (L.length) < 1000000 ∧ inb 2 4) (bk (some (ptI L9 (L.length) (Int32.toNatClampNeg 2) 10)) (fun L12 => gd ((L12.getD (L.length) dC).1 = (14, 4) ∧ (L.length) < L12.length ∧ (L.length) < 1000000 ∧ inb 3 4) (bk (some (ptI L12 (L.length) (Int32.toNatClampNeg 3) 10)) (fun L15 => gd ((L15.getD k0 dC).1.1 = 4 ∧ k0 < L15.length ∧ k0 < 1000000) (bk (some (ptR L15 k0 0 (some (L.length)))) (fun L18 => gd (L18.length < 1000000) (bk (some (L18 ++ [((14, 200), [], [])])) (fun L21 => gd ((L21.getD k0 dC).1.1 = 4 ∧ k0 < L21.length ∧ k0 < 1000000) (bk (some (ptR L21 k0 2 (some (L18.length)))) (fun L24 => gd (L24.length < 1000000) (bk (some (L24 ++ [((14, 200), [], [])])) (fun L27 => gd ((L27.getD k0 dC).1.1 = 4 ∧ k0 < L27.length ∧ k0 < 1000000) (bk (some (ptR L27 k0 3 (some (L24.length)))) (fun L30 => gd (L30.length < 1000000) (bk (some (L30 ++ [((14, 200), [], [])])) (fun L33 => gd ((L33.getD k0 dC).1.1 = 4 ∧ k0 < L33.length ∧ k0 < 1000000) (bk (some (ptR L33 k0 4 (some (L30.length)))) (fun L36 => gd (L36.length < 1000000) (bk (some (L36 ++ [((14, 200), [], [])])) (fun L39 => gd ((L39.getD k0 dC).1.1 = 4 ∧ k0 < L39.length ∧ k0 < 1000000) (bk (some (ptR L39 k0 5 (some (L36.length)))) (fun L42 => gd (L42.length < 1000000) (bk (some (L42 ++ [((14, 200), [], [])])) (fun L45 => gd ((L45.getD k0 dC).1.1 = 4 ∧ k0 < L45.length ∧ k0 < 1000000) (bk (some (ptR L45 k0 6 (some (L42.length)))) (fun L48 => gd (L48.length < 1000000) (bk (some (L48 ++ [((14, 780), [], [])])) (fun L51 => gd ((L51.getD k0 dC).1.1 = 4 ∧ k0 < L51.length ∧ k0 < 1000000) (bk (some (ptR L51 k0 7 (some (L48.length)))) (fun L54 => gd (L54.length < 1000000) (bk (some (L54 ++ [((14, 780), [], [])])) (fun L57 => gd ((L57.getD k0 dC).1.1 = 4 ∧ k0 < L57.length ∧ k0 < 1000000) (bk (some (ptR L57 k0 8 (some (L54.length)))) (fun L60 => gd (L60.length < 1000000) (bk (some (L60 ++ [((15, 40), [], [])])) (fun L63 => gd ((L63.getD k0 dC).1.1 = 4 ∧ k0 < L63.length ∧ k0 < 1000000) (bk (some (ptR L63 k0 9 (some (L60.length)))) (fun L66 => some L66))))))))))))))))))))))))))))))))))))))))))))
set_option maxRecDepth 20000 in
set_option maxHeartbeats 4000000 in
theorem t_X5_init {k0 : Nat} {L M : List C0} (h : f_X5_init k0 L = some M) : JA mi_X5_init 1 (jqK M) 0 [(0, .ref k0)] [] L M := by
  unfold f_X5_init at h
  refine K_lift (fun kc ks K => J_aload_n 0 dX5_init_0 rfl K) ?_
  refine K_obj ob_X5_3 dX5_init_1 (by decide) (Nat.le_of_ble_eq_true rfl) ?_
  refine K_lift (fun kc ks K => J_aload_n 0 dX5_init_4 rfl K) ?_
  refine K_lift (fun kc ks K => J_iconst (v := 4) dX5_init_5 (by decide) K) ?_
  obtain ⟨g2, h⟩ := gd_inv h
  refine K_newa (at_ := .int) (kd := 14) (t0 := 1) (n := 4) (fun g => rfl) (fun U cA q => q) (by decide) (by decide) am_int dX5_init_6 (by decide) (by decide) (by decide) g2 ?_
  obtain ⟨L3, e4, h⟩ := bk_inv h
  have e4 := Option.some.inj e4
  rw [e4]
  refine K_lift (fun kc ks K => J_dup dX5_init_8 rfl K) ?_
  refine K_lift (fun kc ks K => J_iconst (v := 0) dX5_init_9 (by decide) K) ?_
  refine K_lift (fun kc ks K => J_bipush (v := 10) dX5_init_10 (by decide) K) ?_
  obtain ⟨g5, h⟩ := gd_inv h
  refine K_iast dX5_init_12 g5 ?_
  obtain ⟨L6, e7, h⟩ := bk_inv h
  have e7 := Option.some.inj e7
  rw [e7]
  refine K_lift (fun kc ks K => J_dup dX5_init_13 rfl K) ?_
  refine K_lift (fun kc ks K => J_iconst (v := 1) dX5_init_14 (by decide) K) ?_
  refine K_lift (fun kc ks K => J_bipush (v := 10) dX5_init_15 (by decide) K) ?_
  obtain ⟨g8, h⟩ := gd_inv h
  refine K_iast dX5_init_17 g8 ?_
  obtain ⟨L9, e10, h⟩ := bk_inv h
  have e10 := Option.some.inj e10
  rw [e10]
  refine K_lift (fun kc ks K => J_dup dX5_init_18 rfl K) ?_
  refine K_lift (fun kc ks K => J_iconst (v := 2) dX5_init_19 (by decide) K) ?_
  refine K_lift (fun kc ks K => J_bipush (v := 10) dX5_init_20 (by decide) K) ?_
  obtain ⟨g11, h⟩ := gd_inv h
  refine K_iast dX5_init_22 g11 ?_
  obtain ⟨L12, e13, h⟩ := bk_inv h
  have e13 := Option.some.inj e13
  rw [e13]
  refine K_lift (fun kc ks K => J_dup dX5_init_23 rfl K) ?_
  refine K_lift (fun kc ks K => J_iconst (v := 3) dX5_init_24 (by decide) K) ?_
  refine K_lift (fun kc ks K => J_bipush (v := 10) dX5_init_25 (by decide) K) ?_
  obtain ⟨g14, h⟩ := gd_inv h
  refine K_iast dX5_init_27 g14 ?_
  obtain ⟨L15, e16, h⟩ := bk_inv h
  have e16 := Option.some.inj e16
  rw [e16]
  obtain ⟨g17, h⟩ := gd_inv h
  refine K_putR pf_X5_9_4 (fun _ => rfl) dX5_init_28 g17 ?_
  obtain ⟨L18, e19, h⟩ := bk_inv h
  have e19 := Option.some.inj e19
  rw [e19]
  refine K_lift (fun kc ks K => J_aload_n 0 dX5_init_31 rfl K) ?_
  refine K_lift (fun kc ks K => J_sipush (v := 200) dX5_init_32 (by decide) K) ?_
  obtain ⟨g20, h⟩ := gd_inv h
  refine K_newa (at_ := .int) (kd := 14) (t0 := 1) (n := 200) (fun g => rfl) (fun U cA q => q) (by decide) (by decide) am_int dX5_init_35 (by decide) (by decide) (by decide) g20 ?_
  obtain ⟨L21, e22, h⟩ := bk_inv h
  have e22 := Option.some.inj e22
  rw [e22]
  obtain ⟨g23, h⟩ := gd_inv h
  refine K_putR pf_X5_15_4 (fun _ => rfl) dX5_init_37 g23 ?_
  obtain ⟨L24, e25, h⟩ := bk_inv h
  have e25 := Option.some.inj e25
  rw [e25]
  refine K_lift (fun kc ks K => J_aload_n 0 dX5_init_40 rfl K) ?_
  refine K_lift (fun kc ks K => J_sipush (v := 200) dX5_init_41 (by decide) K) ?_
  obtain ⟨g26, h⟩ := gd_inv h
  refine K_newa (at_ := .int) (kd := 14) (t0 := 1) (n := 200) (fun g => rfl) (fun U cA q => q) (by decide) (by decide) am_int dX5_init_44 (by decide) (by decide) (by decide) g26 ?_
  obtain ⟨L27, e28, h⟩ := bk_inv h
  have e28 := Option.some.inj e28
  rw [e28]
  obtain ⟨g29, h⟩ := gd_inv h
  refine K_putR pf_X5_18_4 (fun _ => rfl) dX5_init_46 g29 ?_
  obtain ⟨L30, e31, h⟩ := bk_inv h
  have e31 := Option.some.inj e31
  rw [e31]
  refine K_lift (fun kc ks K => J_aload_n 0 dX5_init_49 rfl K) ?_
  refine K_lift (fun kc ks K => J_sipush (v := 200) dX5_init_50 (by decide) K) ?_
  obtain ⟨g32, h⟩ := gd_inv h
  refine K_newa (at_ := .int) (kd := 14) (t0 := 1) (n := 200) (fun g => rfl) (fun U cA q => q) (by decide) (by decide) am_int dX5_init_53 (by decide) (by decide) (by decide) g32 ?_
  obtain ⟨L33, e34, h⟩ := bk_inv h
  have e34 := Option.some.inj e34
  rw [e34]
  obtain ⟨g35, h⟩ := gd_inv h
  refine K_putR pf_X5_21_4 (fun _ => rfl) dX5_init_55 g35 ?_
  obtain ⟨L36, e37, h⟩ := bk_inv h
  have e37 := Option.some.inj e37
  rw [e37]
  refine K_lift (fun kc ks K => J_aload_n 0 dX5_init_58 rfl K) ?_
  refine K_lift (fun kc ks K => J_sipush (v := 200) dX5_init_59 (by decide) K) ?_
  obtain ⟨g38, h⟩ := gd_inv h
  refine K_newa (at_ := .int) (kd := 14) (t0 := 1) (n := 200) (fun g => rfl) (fun U cA q => q) (by decide) (by decide) am_int dX5_init_62 (by decide) (by decide) (by decide) g38 ?_
  obtain ⟨L39, e40, h⟩ := bk_inv h
  have e40 := Option.some.inj e40
  rw [e40]
  obtain ⟨g41, h⟩ := gd_inv h
  refine K_putR pf_X5_24_4 (fun _ => rfl) dX5_init_64 g41 ?_
  obtain ⟨L42, e43, h⟩ := bk_inv h
  have e43 := Option.some.inj e43
  rw [e43]
  refine K_lift (fun kc ks K => J_aload_n 0 dX5_init_67 rfl K) ?_
  refine K_lift (fun kc ks K => J_sipush (v := 200) dX5_init_68 (by decide) K) ?_
  obtain ⟨g44, h⟩ := gd_inv h
  refine K_newa (at_ := .int) (kd := 14) (t0 := 1) (n := 200) (fun g => rfl) (fun U cA q => q) (by decide) (by decide) am_int dX5_init_71 (by decide) (by decide) (by decide) g44 ?_
  obtain ⟨L45, e46, h⟩ := bk_inv h
  have e46 := Option.some.inj e46
  rw [e46]
  obtain ⟨g47, h⟩ := gd_inv h
  refine K_putR pf_X5_27_4 (fun _ => rfl) dX5_init_73 g47 ?_
  obtain ⟨L48, e49, h⟩ := bk_inv h
  have e49 := Option.some.inj e49
  rw [e49]
  refine K_lift (fun kc ks K => J_aload_n 0 dX5_init_76 rfl K) ?_
  refine K_lift (fun kc ks K => J_sipush (v := 780) dX5_init_77 (by decide) K) ?_
  obtain ⟨g50, h⟩ := gd_inv h
  refine K_newa (at_ := .int) (kd := 14) (t0 := 1) (n := 780) (fun g => rfl) (fun U cA q => q) (by decide) (by decide) am_int dX5_init_80 (by decide) (by decide) (by decide) g50 ?_
  obtain ⟨L51, e52, h⟩ := bk_inv h
  have e52 := Option.some.inj e52
  rw [e52]
  obtain ⟨g53, h⟩ := gd_inv h
  refine K_putR pf_X5_30_4 (fun _ => rfl) dX5_init_82 g53 ?_
  obtain ⟨L54, e55, h⟩ := bk_inv h
  have e55 := Option.some.inj e55
  rw [e55]
  refine K_lift (fun kc ks K => J_aload_n 0 dX5_init_85 rfl K) ?_
  refine K_lift (fun kc ks K => J_sipush (v := 780) dX5_init_86 (by decide) K) ?_
  obtain ⟨g56, h⟩ := gd_inv h
  refine K_newa (at_ := .int) (kd := 14) (t0 := 1) (n := 780) (fun g => rfl) (fun U cA q => q) (by decide) (by decide) am_int dX5_init_89 (by decide) (by decide) (by decide) g56 ?_
  obtain ⟨L57, e58, h⟩ := bk_inv h
  have e58 := Option.some.inj e58
  rw [e58]
  obtain ⟨g59, h⟩ := gd_inv h
  refine K_putR pf_X5_33_4 (fun _ => rfl) dX5_init_91 g59 ?_
  obtain ⟨L60, e61, h⟩ := bk_inv h
  have e61 := Option.some.inj e61
  rw [e61]
  refine K_lift (fun kc ks K => J_aload_n 0 dX5_init_94 rfl K) ?_
  refine K_lift (fun kc ks K => J_bipush (v := 40) dX5_init_95 (by decide) K) ?_
  obtain ⟨g62, h⟩ := gd_inv h
  refine K_newa (at_ := .long) (kd := 15) (t0 := 2) (n := 40) (fun g => rfl) (fun U cA q => q) (by decide) (by decide) am_long dX5_init_97 (by decide) (by decide) (by decide) g62 ?_
  obtain ⟨L63, e64, h⟩ := bk_inv h
  have e64 := Option.some.inj e64
  rw [e64]
  obtain ⟨g65, h⟩ := gd_inv h
  refine K_putR pf_X5_36_4 (fun _ => rfl) dX5_init_99 g65 ?_
  obtain ⟨L66, e67, h⟩ := bk_inv h
  have e67 := Option.some.inj e67
  rw [e67]
  exact K_ret dX5_init_102 rfl h
theorem dX11_init_0 : decode cX11_init 0 = .ok (.aload_n 0, 1) := by decide +kernel
theorem dX11_init_1 : decode cX11_init 1 = .ok (.invokespecial 3, 3) := by decide +kernel
theorem dX11_init_4 : decode cX11_init 4 = .ok (.aload_n 0, 1) := by decide +kernel
theorem dX11_init_5 : decode cX11_init 5 = .ok (.sipush 300, 3) := by decide +kernel
theorem dX11_init_8 : decode cX11_init 8 = .ok (.newarray .int, 2) := by decide +kernel
theorem dX11_init_10 : decode cX11_init 10 = .ok (.putfield 9, 3) := by decide +kernel
theorem dX11_init_13 : decode cX11_init 13 = .ok (.aload_n 0, 1) := by decide +kernel
theorem dX11_init_14 : decode cX11_init 14 = .ok (.iconst (-1), 1) := by decide +kernel
theorem dX11_init_15 : decode cX11_init 15 = .ok (.putfield 15, 3) := by decide +kernel
theorem dX11_init_18 : decode cX11_init 18 = .ok (.return_, 1) := by decide +kernel
set_option maxRecDepth 20000 in
noncomputable def f_X11_init (k0 : Nat) (L : List C0) : Option (List C0) :=
  gd (L.length < 1000000) (bk (some (L ++ [((14, 300), [], [])])) (fun L3 => gd ((L3.getD k0 dC).1.1 = 10 ∧ k0 < L3.length ∧ k0 < 1000000) (bk (some (ptR L3 k0 0 (some (L.length)))) (fun L6 => gd ((L6.getD k0 dC).1.1 = 10 ∧ k0 < L6.length ∧ k0 < 1000000) (bk (some (ptI L6 k0 3 (-1))) (fun L9 => some L9))))))
set_option maxRecDepth 20000 in
set_option maxHeartbeats 4000000 in
theorem t_X11_init {k0 : Nat} {L M : List C0} (h : f_X11_init k0 L = some M) : JA mi_X11_init 1 (jqK M) 0 [(0, .ref k0)] [] L M := by
  unfold f_X11_init at h
  refine K_lift (fun kc ks K => J_aload_n 0 dX11_init_0 rfl K) ?_
  refine K_obj ob_X11_3 dX11_init_1 (by decide) (Nat.le_of_ble_eq_true rfl) ?_
  refine K_lift (fun kc ks K => J_aload_n 0 dX11_init_4 rfl K) ?_
  refine K_lift (fun kc ks K => J_sipush (v := 300) dX11_init_5 (by decide) K) ?_
  obtain ⟨g2, h⟩ := gd_inv h
  refine K_newa (at_ := .int) (kd := 14) (t0 := 1) (n := 300) (fun g => rfl) (fun U cA q => q) (by decide) (by decide) am_int dX11_init_8 (by decide) (by decide) (by decide) g2 ?_
  obtain ⟨L3, e4, h⟩ := bk_inv h
  have e4 := Option.some.inj e4
  rw [e4]
  obtain ⟨g5, h⟩ := gd_inv h
  refine K_putR pf_X11_9_10 (fun _ => rfl) dX11_init_10 g5 ?_
  obtain ⟨L6, e7, h⟩ := bk_inv h
  have e7 := Option.some.inj e7
  rw [e7]
  refine K_lift (fun kc ks K => J_aload_n 0 dX11_init_13 rfl K) ?_
  refine K_lift (fun kc ks K => J_iconst (v := (-1)) dX11_init_14 (by decide) K) ?_
  obtain ⟨g8, h⟩ := gd_inv h
  refine K_putI pf_X11_15_10 (fun _ => rfl) dX11_init_15 g8 ⟨rfl, rfl⟩ ?_
  obtain ⟨L9, e10, h⟩ := bk_inv h
  have e10 := Option.some.inj e10
  rw [e10]
  exact K_ret dX11_init_18 rfl h
theorem dX0_init_0 : decode cX0_init 0 = .ok (.aload_n 0, 1) := by decide +kernel
theorem dX0_init_1 : decode cX0_init 1 = .ok (.invokespecial 3, 3) := by decide +kernel
theorem dX0_init_4 : decode cX0_init 4 = .ok (.aload_n 0, 1) := by decide +kernel
theorem dX0_init_5 : decode cX0_init 5 = .ok (.bipush 24, 2) := by decide +kernel
theorem dX0_init_7 : decode cX0_init 7 = .ok (.anewarray 9, 3) := by decide +kernel
theorem dX0_init_10 : decode cX0_init 10 = .ok (.putfield 11, 3) := by decide +kernel
theorem dX0_init_13 : decode cX0_init 13 = .ok (.aload_n 0, 1) := by decide +kernel
theorem dX0_init_14 : decode cX0_init 14 = .ok (.bipush 10, 2) := by decide +kernel
theorem dX0_init_16 : decode cX0_init 16 = .ok (.anewarray 17, 3) := by decide +kernel
theorem dX0_init_19 : decode cX0_init 19 = .ok (.putfield 19, 3) := by decide +kernel
theorem dX0_init_22 : decode cX0_init 22 = .ok (.aload_n 0, 1) := by decide +kernel
theorem dX0_init_23 : decode cX0_init 23 = .ok (.bipush 60, 2) := by decide +kernel
theorem dX0_init_25 : decode cX0_init 25 = .ok (.anewarray 23, 3) := by decide +kernel
theorem dX0_init_28 : decode cX0_init 28 = .ok (.putfield 25, 3) := by decide +kernel
theorem dX0_init_31 : decode cX0_init 31 = .ok (.aload_n 0, 1) := by decide +kernel
theorem dX0_init_32 : decode cX0_init 32 = .ok (.bipush 6, 2) := by decide +kernel
theorem dX0_init_34 : decode cX0_init 34 = .ok (.anewarray 29, 3) := by decide +kernel
theorem dX0_init_37 : decode cX0_init 37 = .ok (.putfield 31, 3) := by decide +kernel
theorem dX0_init_40 : decode cX0_init 40 = .ok (.aload_n 0, 1) := by decide +kernel
theorem dX0_init_41 : decode cX0_init 41 = .ok (.new 35, 3) := by decide +kernel
theorem dX0_init_44 : decode cX0_init 44 = .ok (.dup, 1) := by decide +kernel
theorem dX0_init_45 : decode cX0_init 45 = .ok (.invokespecial 37, 3) := by decide +kernel
theorem dX0_init_48 : decode cX0_init 48 = .ok (.putfield 38, 3) := by decide +kernel
theorem dX0_init_51 : decode cX0_init 51 = .ok (.aload_n 0, 1) := by decide +kernel
theorem dX0_init_52 : decode cX0_init 52 = .ok (.iconst (-1), 1) := by decide +kernel
theorem dX0_init_53 : decode cX0_init 53 = .ok (.putfield 42, 3) := by decide +kernel
theorem dX0_init_56 : decode cX0_init 56 = .ok (.aload_n 0, 1) := by decide +kernel
theorem dX0_init_57 : decode cX0_init 57 = .ok (.bipush 40, 2) := by decide +kernel
theorem dX0_init_59 : decode cX0_init 59 = .ok (.newarray .int, 2) := by decide +kernel
theorem dX0_init_61 : decode cX0_init 61 = .ok (.putfield 46, 3) := by decide +kernel
theorem dX0_init_64 : decode cX0_init 64 = .ok (.aload_n 0, 1) := by decide +kernel
theorem dX0_init_65 : decode cX0_init 65 = .ok (.new 17, 3) := by decide +kernel
theorem dX0_init_68 : decode cX0_init 68 = .ok (.dup, 1) := by decide +kernel
theorem dX0_init_69 : decode cX0_init 69 = .ok (.invokespecial 50, 3) := by decide +kernel
theorem dX0_init_72 : decode cX0_init 72 = .ok (.putfield 51, 3) := by decide +kernel
theorem dX0_init_75 : decode cX0_init 75 = .ok (.iconst 0, 1) := by decide +kernel
theorem dX0_init_76 : decode cX0_init 76 = .ok (.istore_n 1, 1) := by decide +kernel
theorem dX0_init_77 : decode cX0_init 77 = .ok (.iload_n 1, 1) := by decide +kernel
theorem dX0_init_78 : decode cX0_init 78 = .ok (.bipush 24, 2) := by decide +kernel
theorem dX0_init_80 : decode cX0_init 80 = .ok (.if_icmp .ge 22, 3) := by decide +kernel
theorem dX0_init_83 : decode cX0_init 83 = .ok (.aload_n 0, 1) := by decide +kernel
theorem dX0_init_84 : decode cX0_init 84 = .ok (.getfield 11, 3) := by decide +kernel
theorem dX0_init_87 : decode cX0_init 87 = .ok (.iload_n 1, 1) := by decide +kernel
theorem dX0_init_88 : decode cX0_init 88 = .ok (.new 9, 3) := by decide +kernel
theorem dX0_init_91 : decode cX0_init 91 = .ok (.dup, 1) := by decide +kernel
theorem dX0_init_92 : decode cX0_init 92 = .ok (.invokespecial 55, 3) := by decide +kernel
theorem dX0_init_95 : decode cX0_init 95 = .ok (.aastore, 1) := by decide +kernel
theorem dX0_init_96 : decode cX0_init 96 = .ok (.iinc 1 1, 3) := by decide +kernel
theorem dX0_init_99 : decode cX0_init 99 = .ok (.goto (-22), 3) := by decide +kernel
theorem dX0_init_102 : decode cX0_init 102 = .ok (.iconst 0, 1) := by decide +kernel
theorem dX0_init_103 : decode cX0_init 103 = .ok (.istore_n 1, 1) := by decide +kernel
theorem dX0_init_104 : decode cX0_init 104 = .ok (.iload_n 1, 1) := by decide +kernel
theorem dX0_init_105 : decode cX0_init 105 = .ok (.bipush 10, 2) := by decide +kernel
theorem dX0_init_107 : decode cX0_init 107 = .ok (.if_icmp .ge 22, 3) := by decide +kernel
theorem dX0_init_110 : decode cX0_init 110 = .ok (.aload_n 0, 1) := by decide +kernel
theorem dX0_init_111 : decode cX0_init 111 = .ok (.getfield 19, 3) := by decide +kernel
theorem dX0_init_114 : decode cX0_init 114 = .ok (.iload_n 1, 1) := by decide +kernel
theorem dX0_init_115 : decode cX0_init 115 = .ok (.new 17, 3) := by decide +kernel
theorem dX0_init_118 : decode cX0_init 118 = .ok (.dup, 1) := by decide +kernel
theorem dX0_init_119 : decode cX0_init 119 = .ok (.invokespecial 50, 3) := by decide +kernel
theorem dX0_init_122 : decode cX0_init 122 = .ok (.aastore, 1) := by decide +kernel
theorem dX0_init_123 : decode cX0_init 123 = .ok (.iinc 1 1, 3) := by decide +kernel
theorem dX0_init_126 : decode cX0_init 126 = .ok (.goto (-22), 3) := by decide +kernel
theorem dX0_init_129 : decode cX0_init 129 = .ok (.iconst 0, 1) := by decide +kernel
theorem dX0_init_130 : decode cX0_init 130 = .ok (.istore_n 1, 1) := by decide +kernel
theorem dX0_init_131 : decode cX0_init 131 = .ok (.iload_n 1, 1) := by decide +kernel
theorem dX0_init_132 : decode cX0_init 132 = .ok (.bipush 60, 2) := by decide +kernel
theorem dX0_init_134 : decode cX0_init 134 = .ok (.if_icmp .ge 22, 3) := by decide +kernel
theorem dX0_init_137 : decode cX0_init 137 = .ok (.aload_n 0, 1) := by decide +kernel
theorem dX0_init_138 : decode cX0_init 138 = .ok (.getfield 25, 3) := by decide +kernel
theorem dX0_init_141 : decode cX0_init 141 = .ok (.iload_n 1, 1) := by decide +kernel
theorem dX0_init_142 : decode cX0_init 142 = .ok (.new 23, 3) := by decide +kernel
theorem dX0_init_145 : decode cX0_init 145 = .ok (.dup, 1) := by decide +kernel
theorem dX0_init_146 : decode cX0_init 146 = .ok (.invokespecial 56, 3) := by decide +kernel
theorem dX0_init_149 : decode cX0_init 149 = .ok (.aastore, 1) := by decide +kernel
theorem dX0_init_150 : decode cX0_init 150 = .ok (.iinc 1 1, 3) := by decide +kernel
theorem dX0_init_153 : decode cX0_init 153 = .ok (.goto (-22), 3) := by decide +kernel
theorem dX0_init_156 : decode cX0_init 156 = .ok (.iconst 0, 1) := by decide +kernel
theorem dX0_init_157 : decode cX0_init 157 = .ok (.istore_n 1, 1) := by decide +kernel
theorem dX0_init_158 : decode cX0_init 158 = .ok (.iload_n 1, 1) := by decide +kernel
theorem dX0_init_159 : decode cX0_init 159 = .ok (.bipush 6, 2) := by decide +kernel
theorem dX0_init_161 : decode cX0_init 161 = .ok (.if_icmp .ge 22, 3) := by decide +kernel
theorem dX0_init_164 : decode cX0_init 164 = .ok (.aload_n 0, 1) := by decide +kernel
theorem dX0_init_165 : decode cX0_init 165 = .ok (.getfield 31, 3) := by decide +kernel
theorem dX0_init_168 : decode cX0_init 168 = .ok (.iload_n 1, 1) := by decide +kernel
theorem dX0_init_169 : decode cX0_init 169 = .ok (.new 29, 3) := by decide +kernel
theorem dX0_init_172 : decode cX0_init 172 = .ok (.dup, 1) := by decide +kernel
theorem dX0_init_173 : decode cX0_init 173 = .ok (.invokespecial 57, 3) := by decide +kernel
theorem dX0_init_176 : decode cX0_init 176 = .ok (.aastore, 1) := by decide +kernel
theorem dX0_init_177 : decode cX0_init 177 = .ok (.iinc 1 1, 3) := by decide +kernel
theorem dX0_init_180 : decode cX0_init 180 = .ok (.goto (-22), 3) := by decide +kernel
theorem dX0_init_183 : decode cX0_init 183 = .ok (.aload_n 0, 1) := by decide +kernel
theorem dX0_init_184 : decode cX0_init 184 = .ok (.aload_n 0, 1) := by decide +kernel
theorem dX0_init_185 : decode cX0_init 185 = .ok (.getfield 51, 3) := by decide +kernel
theorem dX0_init_188 : decode cX0_init 188 = .ok (.putfield 58, 3) := by decide +kernel
theorem dX0_init_191 : decode cX0_init 191 = .ok (.return_, 1) := by decide +kernel
set_option maxRecDepth 20000 in
noncomputable def s_X0_init_158 (rec : Nat → Int32 → List C0 → Option (List C0)) (l0 : Nat) (l1 : Int32) (L : List C0) : Option (List C0) :=
  (if 6 ≤ l1 then gd ((L.getD l0 dC).1.1 = 0 ∧ l0 < L.length ∧ l0 < 1000000) (bo ((L.getD l0 dC).2.2.getD 13 none) (fun q3 => gd ((L.getD l0 dC).1.1 = 0 ∧ l0 < L.length ∧ l0 < 1000000) (bk (some (ptR L l0 12 (some q3))) (fun L6 => some L6)))) else gd ((L.getD l0 dC).1.1 = 0 ∧ l0 < L.length ∧ l0 < 1000000) (bo ((L.getD l0 dC).2.2.getD 7 none) (fun q9 => gd (L.length < 1000000) (bk (some (L ++ [((5, 0), [], [])])) (fun L12 => bk (f_X6_init (L.length) L12) (fun L15 => gd ((L15.getD q9 dC).1 = (17, 6) ∧ q9 < L15.length ∧ q9 < 1000000 ∧ inb l1 6) (gd ((L15.getD (L.length) dC).1.1 = 5 ∧ (L.length) < L15.length ∧ (L.length) < 1000000) (bk (some (ptR L15 q9 (Int32.toNatClampNeg l1) (some (L.length)))) (fun L19 => rec l0 (l1 + 1) L19)))))))))
set_option maxRecDepth 20000 in
noncomputable def f_X0_init_158 (n : Nat) : Nat → Int32 → List C0 → Option (List C0) := Nat.rec (motive := fun _ => Nat → Int32 → List C0 → Option (List C0)) (fun _ _ _ => none) (fun _ q => s_X0_init_158 q) n
set_option maxRecDepth 20000 in
noncomputable def s_X0_init_131 (rec : Nat → Int32 → List C0 → Option (List C0)) (l0 : Nat) (l1 : Int32) (L : List C0) : Option (List C0) :=
  (if 60 ≤ l1 then f_X0_init_158 Fu l0 0 L else gd ((L.getD l0 dC).1.1 = 0 ∧ l0 < L.length ∧ l0 < 1000000) (bo ((L.getD l0 dC).2.2.getD 5 none) (fun q23 => gd (L.length < 1000000) (bk (some (L ++ [((8, 0), [], [])])) (fun L26 => bk (f_X9_init (L.length) L26) (fun L29 => gd ((L29.getD q23 dC).1 = (19, 60) ∧ q23 < L29.length ∧ q23 < 1000000 ∧ inb l1 60) (gd ((L29.getD (L.length) dC).1.1 = 8 ∧ (L.length) < L29.length ∧ (L.length) < 1000000) (bk (some (ptR L29 q23 (Int32.toNatClampNeg l1) (some (L.length)))) (fun L33 => rec l0 (l1 + 1) L33)))))))))
set_option maxRecDepth 20000 in
noncomputable def f_X0_init_131 (n : Nat) : Nat → Int32 → List C0 → Option (List C0) := Nat.rec (motive := fun _ => Nat → Int32 → List C0 → Option (List C0)) (fun _ _ _ => none) (fun _ q => s_X0_init_131 q) n
set_option maxRecDepth 20000 in
noncomputable def s_X0_init_104 (rec : Nat → Int32 → List C0 → Option (List C0)) (l0 : Nat) (l1 : Int32) (L : List C0) : Option (List C0) :=
  (if 10 ≤ l1 then f_X0_init_131 Fu l0 0 L else gd ((L.getD l0 dC).1.1 = 0 ∧ l0 < L.length ∧ l0 < 1000000) (bo ((L.getD l0 dC).2.2.getD 3 none) (fun q37 => gd (L.length < 1000000) (bk (some (L ++ [((6, 0), [], [])])) (fun L40 => bk (f_X7_init (L.length) L40) (fun L43 => gd ((L43.getD q37 dC).1 = (18, 10) ∧ q37 < L43.length ∧ q37 < 1000000 ∧ inb l1 10) (gd ((L43.getD (L.length) dC).1.1 = 6 ∧ (L.length) < L43.length ∧ (L.length) < 1000000) (bk (some (ptR L43 q37 (Int32.toNatClampNeg l1) (some (L.length)))) (fun L47 => rec l0 (l1 + 1) L47)))))))))
set_option maxRecDepth 20000 in
noncomputable def f_X0_init_104 (n : Nat) : Nat → Int32 → List C0 → Option (List C0) := Nat.rec (motive := fun _ => Nat → Int32 → List C0 → Option (List C0)) (fun _ _ _ => none) (fun _ q => s_X0_init_104 q) n
set_option maxRecDepth 20000 in
noncomputable def s_X0_init_77 (rec : Nat → Int32 → List C0 → Option (List C0)) (l0 : Nat) (l1 : Int32) (L : List C0) : Option (List C0) :=
  (if 24 ≤ l1 then f_X0_init_104 Fu l0 0 L else gd ((L.getD l0 dC).1.1 = 0 ∧ l0 < L.length ∧ l0 < 1000000) (bo ((L.getD l0 dC).2.2.getD 1 none) (fun q51 => gd (L.length < 1000000) (bk (some (L ++ [((9, 0), [], [])])) (fun L54 => bk (f_X10_init (L.length) L54) (fun L57 => gd ((L57.getD q51 dC).1 = (20, 24) ∧ q51 < L57.length ∧ q51 < 1000000 ∧ inb l1 24) (gd ((L57.getD (L.length) dC).1.1 = 9 ∧ (L.length) < L57.length ∧ (L.length) < 1000000) (bk (some (ptR L57 q51 (Int32.toNatClampNeg l1) (some (L.length)))) (fun L61 => rec l0 (l1 + 1) L61)))))))))
set_option maxRecDepth 20000 in
noncomputable def f_X0_init_77 (n : Nat) : Nat → Int32 → List C0 → Option (List C0) := Nat.rec (motive := fun _ => Nat → Int32 → List C0 → Option (List C0)) (fun _ _ _ => none) (fun _ q => s_X0_init_77 q) n
set_option maxRecDepth 20000 in
noncomputable def f_X0_init (k0 : Nat) (L : List C0) : Option (List C0) :=
  gd (L.length < 1000000) (bk (some (L ++ [((20, 24), [], [])])) (fun L65 => gd ((L65.getD k0 dC).1.1 = 0 ∧ k0 < L65.length ∧ k0 < 1000000) (bk (some (ptR L65 k0 1 (some (L.length)))) (fun L68 => gd (L68.length < 1000000) (bk (some (L68 ++ [((18, 10), [], [])])) (fun L71 => gd ((L71.getD k0 dC).1.1 = 0 ∧ k0 < L71.length ∧ k0 < 1000000) (bk (some (ptR L71 k0 3 (some (L68.length)))) (fun L74 => gd (L74.length < 1000000) (bk (some (L74 ++ [((19, 60), [], [])])) (fun L77 => gd ((L77.getD k0 dC).1.1 = 0 ∧ k0 < L77.length ∧ k0 < 1000000) (bk (some (ptR L77 k0 5 (some (L74.length)))) (fun L80 => gd (L80.length < 1000000) (bk (some (L80 ++ [((17, 6), [], [])])) (fun L83 => gd ((L83.getD k0 dC).1.1 = 0 ∧ k0 < L83.length ∧ k0 < 1000000) (bk (some (ptR L83 k0 7 (some (L80.length)))) (fun L86 => gd (L86.length < 1000000) (bk (some (L86 ++ [((4, 0), [], [])])) (fun L89 => bk (f_X5_init (L86.length) L89) (fun L92 => gd ((L92.getD k0 dC).1.1 = 0 ∧ k0 < L92.length ∧ k0 < 1000000) (bk (some (ptR L92 k0 9 (some (L86.length)))) (fun L95 => gd ((L95.getD k0 dC).1.1 = 0 ∧ k0 < L95.length ∧ k0 < 1000000) (bk (some (ptI L95 k0 10 (-1))) (fun L98 => gd (L98.length < 1000000) (bk (some (L98 ++ [((14, 40), [], [])])) (fun L101 => gd ((L101.getD k0 dC).1.1 = 0 ∧ k0 < L101.length ∧ k0 < 1000000) (bk (some (ptR L101 k0 11 (some (L98.length)))) (fun L104 => gd (L104.length < 1000000) (bk (some (L104 ++ [((6, 0), [], [])])) (fun L107 => bk (f_X7_init (L104.length) L107) (fun L110 => gd ((L110.getD k0 dC).1.1 = 0 ∧ k0 < L110.length ∧ k0 < 1000000) (bk (some (ptR L110 k0 13 (some (L104.length)))) (fun L113 => f_X0_init_77 Fu k0 0 L113))))))))))))))))))))))))))))))))
set_option maxRecDepth 20000 in
set_option maxHeartbeats 4000000 in
theorem t_X0_init_158 : ∀ (n : Nat) (l0 : Nat) (l1 : Int32) (L M : List C0), f_X0_init_158 n l0 l1 L = some M → JA mi_X0_init 3 (jqK M) 158 [(0, .ref l0), (1, .int l1)] [] L M := by
  intro n
  induction n with
  | zero =>
    intro l0 l1 L M h
    have h : (none : Option (List C0)) = some M := h
    cases h
  | succ n ih =>
    intro l0 l1 L M h
    have h : s_X0_init_158 (f_X0_init_158 n) l0 l1 L = some M := h
    unfold s_X0_init_158 at h
    refine K_lift (fun kc ks K => J_iload_n 1 dX0_init_158 rfl K) ?_
    refine K_lift (fun kc ks K => J_bipush (v := 6) dX0_init_159 (by decide) K) ?_
    refine K_br (Decidable.em (6 ≤ l1)) (fun kc ks h1 h2 => J_icmp_ge (tgt := 183) dX0_init_161 (by decide) h1 h2) (fun c1 => ?_) (fun c1 => ?_)
    · have h := (if_pos c1).symm.trans h
      refine K_lift (fun kc ks K => J_aload_n 0 dX0_init_183 rfl K) ?_
      refine K_lift (fun kc ks K => J_aload_n 0 dX0_init_184 rfl K) ?_
      obtain ⟨g2, h⟩ := gd_inv h
      obtain ⟨q3, h4, h⟩ := bo_inv h
      refine K_lift (fun kc ks K => J_getR (S := bs L) h4 gf_X0_51_0 dX0_init_185 (by rw [bs_sh g2.2.2]; exact g2.1) g2.2.1 K) ?_
      obtain ⟨g5, h⟩ := gd_inv h
      refine K_putR pf_X0_58_0 (fun _ => rfl) dX0_init_188 g5 ?_
      obtain ⟨L6, e7, h⟩ := bk_inv h
      have e7 := Option.some.inj e7
      rw [e7]
      exact K_ret dX0_init_191 rfl h
    · have h := (if_neg c1).symm.trans h
      refine K_lift (fun kc ks K => J_aload_n 0 dX0_init_164 rfl K) ?_
      obtain ⟨g8, h⟩ := gd_inv h
      obtain ⟨q9, h10, h⟩ := bo_inv h
      refine K_lift (fun kc ks K => J_getR (S := bs L) h10 gf_X0_31_0 dX0_init_165 (by rw [bs_sh g8.2.2]; exact g8.1) g8.2.1 K) ?_
      refine K_lift (fun kc ks K => J_iload_n 1 dX0_init_168 rfl K) ?_
      obtain ⟨g11, h⟩ := gd_inv h
      refine K_new cl_5 nw_X0_29 dX0_init_169 g11 ?_
      obtain ⟨L12, e13, h⟩ := bk_inv h
      have e13 := Option.some.inj e13
      rw [e13]
      refine K_lift (fun kc ks K => J_dup dX0_init_172 rfl K) ?_
      obtain ⟨L15, h16, h⟩ := bk_inv h
      refine K_callI (d' := 2) (r := L.length) (As := []) (st := [.ref (L.length), .int l1, .ref q9]) ci_X0_57 dX0_init_173 rfl (Nat.le_of_ble_eq_true rfl) (Nat.le_of_ble_eq_true rfl) (by decide) rfl rfl (t_X6_init h16) ?_
      obtain ⟨g17, h⟩ := gd_inv h
      obtain ⟨g18, h⟩ := gd_inv h
      refine K_aast (kd := 17) (t0 := 4) (fun g => rfl) cl_5 (by decide) dX0_init_176 g17 g18 ?_
      obtain ⟨L19, e20, h⟩ := bk_inv h
      have e20 := Option.some.inj e20
      rw [e20]
      refine K_lift (fun kc ks K => J_iinc (v := (l1 + 1)) (ls' := [(1, .int (l1 + 1)), (0, .ref l0)]) 1 dX0_init_177 rfl rfl (by decide) rfl K) ?_
      refine K_lift (fun kc ks K => J_goto (tgt := 158) dX0_init_180 (by decide) K) ?_
      refine K_lift (fun kc ks K => J_pick [1, 0] rfl K) ?_
      exact ih _ _ _ _ h
set_option maxRecDepth 20000 in
set_option maxHeartbeats 4000000 in
theorem t_X0_init_131 : ∀ (n : Nat) (l0 : Nat) (l1 : Int32) (L M : List C0), f_X0_init_131 n l0 l1 L = some M → JA mi_X0_init 3 (jqK M) 131 [(0, .ref l0), (1, .int l1)] [] L M := by
  intro n
  induction n with
  | zero =>
    intro l0 l1 L M h
    have h : (none : Option (List C0)) = some M := h
    cases h
  | succ n ih =>
    intro l0 l1 L M h
    have h : s_X0_init_131 (f_X0_init_131 n) l0 l1 L = some M := h
    unfold s_X0_init_131 at h
    refine K_lift (fun kc ks K => J_iload_n 1 dX0_init_131 rfl K) ?_
    refine K_lift (fun kc ks K => J_bipush (v := 60) dX0_init_132 (by decide) K) ?_
    refine K_br (Decidable.em (60 ≤ l1)) (fun kc ks h1 h2 => J_icmp_ge (tgt := 156) dX0_init_134 (by decide) h1 h2) (fun c21 => ?_) (fun c21 => ?_)
    · have h := (if_pos c21).symm.trans h
      refine K_lift (fun kc ks K => J_iconst (v := 0) dX0_init_156 (by decide) K) ?_
      refine K_lift (fun kc ks K => J_istore_n (i := 1) (ls' := [(1, .int 0), (0, .ref l0)]) dX0_init_157 rfl (by decide) rfl K) ?_
      refine K_lift (fun kc ks K => J_pick [1, 0] rfl K) ?_
      exact t_X0_init_158 _ _ _ _ _ h
    · have h := (if_neg c21).symm.trans h
      refine K_lift (fun kc ks K => J_aload_n 0 dX0_init_137 rfl K) ?_
      obtain ⟨g22, h⟩ := gd_inv h
      obtain ⟨q23, h24, h⟩ := bo_inv h
      refine K_lift (fun kc ks K => J_getR (S := bs L) h24 gf_X0_25_0 dX0_init_138 (by rw [bs_sh g22.2.2]; exact g22.1) g22.2.1 K) ?_
      refine K_lift (fun kc ks K => J_iload_n 1 dX0_init_141 rfl K) ?_
      obtain ⟨g25, h⟩ := gd_inv h
      refine K_new cl_8 nw_X0_23 dX0_init_142 g25 ?_
      obtain ⟨L26, e27, h⟩ := bk_inv h
      have e27 := Option.some.inj e27
      rw [e27]
      refine K_lift (fun kc ks K => J_dup dX0_init_145 rfl K) ?_
      obtain ⟨L29, h30, h⟩ := bk_inv h
      refine K_callI (d' := 2) (r := L.length) (As := []) (st := [.ref (L.length), .int l1, .ref q23]) ci_X0_56 dX0_init_146 rfl (Nat.le_of_ble_eq_true rfl) (Nat.le_of_ble_eq_true rfl) (by decide) rfl rfl (t_X9_init h30) ?_
      obtain ⟨g31, h⟩ := gd_inv h
      obtain ⟨g32, h⟩ := gd_inv h
      refine K_aast (kd := 19) (t0 := 6) (fun g => rfl) cl_8 (by decide) dX0_init_149 g31 g32 ?_
      obtain ⟨L33, e34, h⟩ := bk_inv h
      have e34 := Option.some.inj e34
      rw [e34]
      refine K_lift (fun kc ks K => J_iinc (v := (l1 + 1)) (ls' := [(1, .int (l1 + 1)), (0, .ref l0)]) 1 dX0_init_150 rfl rfl (by decide) rfl K) ?_
      refine K_lift (fun kc ks K => J_goto (tgt := 131) dX0_init_153 (by decide) K) ?_
      refine K_lift (fun kc ks K => J_pick [1, 0] rfl K) ?_
      exact ih _ _ _ _ h
set_option maxRecDepth 20000 in
set_option maxHeartbeats 4000000 in
theorem t_X0_init_104 : ∀ (n : Nat) (l0 : Nat) (l1 : Int32) (L M : List C0), f_X0_init_104 n l0 l1 L = some M → JA mi_X0_init 3 (jqK M) 104 [(0, .ref l0), (1, .int l1)] [] L M := by
  intro n
  induction n with
  | zero =>
    intro l0 l1 L M h
    have h : (none : Option (List C0)) = some M := h
    cases h
  | succ n ih =>
    intro l0 l1 L M h
    have h : s_X0_init_104 (f_X0_init_104 n) l0 l1 L = some M := h
    unfold s_X0_init_104 at h
    refine K_lift (fun kc ks K => J_iload_n 1 dX0_init_104 rfl K) ?_
    refine K_lift (fun kc ks K => J_bipush (v := 10) dX0_init_105 (by decide) K) ?_
    refine K_br (Decidable.em (10 ≤ l1)) (fun kc ks h1 h2 => J_icmp_ge (tgt := 129) dX0_init_107 (by decide) h1 h2) (fun c35 => ?_) (fun c35 => ?_)
    · have h := (if_pos c35).symm.trans h
      refine K_lift (fun kc ks K => J_iconst (v := 0) dX0_init_129 (by decide) K) ?_
      refine K_lift (fun kc ks K => J_istore_n (i := 1) (ls' := [(1, .int 0), (0, .ref l0)]) dX0_init_130 rfl (by decide) rfl K) ?_
      refine K_lift (fun kc ks K => J_pick [1, 0] rfl K) ?_
      exact t_X0_init_131 _ _ _ _ _ h
    · have h := (if_neg c35).symm.trans h
      refine K_lift (fun kc ks K => J_aload_n 0 dX0_init_110 rfl K) ?_
      obtain ⟨g36, h⟩ := gd_inv h
      obtain ⟨q37, h38, h⟩ := bo_inv h
      refine K_lift (fun kc ks K => J_getR (S := bs L) h38 gf_X0_19_0 dX0_init_111 (by rw [bs_sh g36.2.2]; exact g36.1) g36.2.1 K) ?_
      refine K_lift (fun kc ks K => J_iload_n 1 dX0_init_114 rfl K) ?_
      obtain ⟨g39, h⟩ := gd_inv h
      refine K_new cl_6 nw_X0_17 dX0_init_115 g39 ?_
      obtain ⟨L40, e41, h⟩ := bk_inv h
      have e41 := Option.some.inj e41
      rw [e41]
      refine K_lift (fun kc ks K => J_dup dX0_init_118 rfl K) ?_
      obtain ⟨L43, h44, h⟩ := bk_inv h
      refine K_callI (d' := 1) (r := L.length) (As := []) (st := [.ref (L.length), .int l1, .ref q37]) ci_X0_50 dX0_init_119 rfl (Nat.le_of_ble_eq_true rfl) (Nat.le_of_ble_eq_true rfl) (by decide) rfl rfl (t_X7_init h44) ?_
      obtain ⟨g45, h⟩ := gd_inv h
      obtain ⟨g46, h⟩ := gd_inv h
      refine K_aast (kd := 18) (t0 := 5) (fun g => rfl) cl_6 (by decide) dX0_init_122 g45 g46 ?_
      obtain ⟨L47, e48, h⟩ := bk_inv h
      have e48 := Option.some.inj e48
      rw [e48]
      refine K_lift (fun kc ks K => J_iinc (v := (l1 + 1)) (ls' := [(1, .int (l1 + 1)), (0, .ref l0)]) 1 dX0_init_123 rfl rfl (by decide) rfl K) ?_
      refine K_lift (fun kc ks K => J_goto (tgt := 104) dX0_init_126 (by decide) K) ?_
      refine K_lift (fun kc ks K => J_pick [1, 0] rfl K) ?_
      exact ih _ _ _ _ h
set_option maxRecDepth 20000 in
set_option maxHeartbeats 4000000 in
theorem t_X0_init_77 : ∀ (n : Nat) (l0 : Nat) (l1 : Int32) (L M : List C0), f_X0_init_77 n l0 l1 L = some M → JA mi_X0_init 3 (jqK M) 77 [(0, .ref l0), (1, .int l1)] [] L M := by
  intro n
  induction n with
  | zero =>
    intro l0 l1 L M h
    have h : (none : Option (List C0)) = some M := h
    cases h
  | succ n ih =>
    intro l0 l1 L M h
    have h : s_X0_init_77 (f_X0_init_77 n) l0 l1 L = some M := h
    unfold s_X0_init_77 at h
    refine K_lift (fun kc ks K => J_iload_n 1 dX0_init_77 rfl K) ?_
    refine K_lift (fun kc ks K => J_bipush (v := 24) dX0_init_78 (by decide) K) ?_
    refine K_br (Decidable.em (24 ≤ l1)) (fun kc ks h1 h2 => J_icmp_ge (tgt := 102) dX0_init_80 (by decide) h1 h2) (fun c49 => ?_) (fun c49 => ?_)
    · have h := (if_pos c49).symm.trans h
      refine K_lift (fun kc ks K => J_iconst (v := 0) dX0_init_102 (by decide) K) ?_
      refine K_lift (fun kc ks K => J_istore_n (i := 1) (ls' := [(1, .int 0), (0, .ref l0)]) dX0_init_103 rfl (by decide) rfl K) ?_
      refine K_lift (fun kc ks K => J_pick [1, 0] rfl K) ?_
      exact t_X0_init_104 _ _ _ _ _ h
    · have h := (if_neg c49).symm.trans h
      refine K_lift (fun kc ks K => J_aload_n 0 dX0_init_83 rfl K) ?_
      obtain ⟨g50, h⟩ := gd_inv h
      obtain ⟨q51, h52, h⟩ := bo_inv h
      refine K_lift (fun kc ks K => J_getR (S := bs L) h52 gf_X0_11_0 dX0_init_84 (by rw [bs_sh g50.2.2]; exact g50.1) g50.2.1 K) ?_
      refine K_lift (fun kc ks K => J_iload_n 1 dX0_init_87 rfl K) ?_
      obtain ⟨g53, h⟩ := gd_inv h
      refine K_new cl_9 nw_X0_9 dX0_init_88 g53 ?_
      obtain ⟨L54, e55, h⟩ := bk_inv h
      have e55 := Option.some.inj e55
      rw [e55]
      refine K_lift (fun kc ks K => J_dup dX0_init_91 rfl K) ?_
      obtain ⟨L57, h58, h⟩ := bk_inv h
      refine K_callI (d' := 2) (r := L.length) (As := []) (st := [.ref (L.length), .int l1, .ref q51]) ci_X0_55 dX0_init_92 rfl (Nat.le_of_ble_eq_true rfl) (Nat.le_of_ble_eq_true rfl) (by decide) rfl rfl (t_X10_init h58) ?_
      obtain ⟨g59, h⟩ := gd_inv h
      obtain ⟨g60, h⟩ := gd_inv h
      refine K_aast (kd := 20) (t0 := 7) (fun g => rfl) cl_9 (by decide) dX0_init_95 g59 g60 ?_
      obtain ⟨L61, e62, h⟩ := bk_inv h
      have e62 := Option.some.inj e62
      rw [e62]
      refine K_lift (fun kc ks K => J_iinc (v := (l1 + 1)) (ls' := [(1, .int (l1 + 1)), (0, .ref l0)]) 1 dX0_init_96 rfl rfl (by decide) rfl K) ?_
      refine K_lift (fun kc ks K => J_goto (tgt := 77) dX0_init_99 (by decide) K) ?_
      refine K_lift (fun kc ks K => J_pick [1, 0] rfl K) ?_
      exact ih _ _ _ _ h
set_option maxRecDepth 20000 in
set_option maxHeartbeats 4000000 in
theorem t_X0_init {k0 : Nat} {L M : List C0} (h : f_X0_init k0 L = some M) : JA mi_X0_init 3 (jqK M) 0 [(0, .ref k0)] [] L M := by
  unfold f_X0_init at h
  refine K_lift (fun kc ks K => J_aload_n 0 dX0_init_0 rfl K) ?_
  refine K_obj ob_X0_3 dX0_init_1 (by decide) (Nat.le_of_ble_eq_true rfl) ?_
  refine K_lift (fun kc ks K => J_aload_n 0 dX0_init_4 rfl K) ?_
  refine K_lift (fun kc ks K => J_bipush (v := 24) dX0_init_5 (by decide) K) ?_
  obtain ⟨g64, h⟩ := gd_inv h
  refine K_anew (kd := 20) (t0 := 7) (n := 24) (fun g => rfl) (by decide) an_X0_9 dX0_init_7 (by decide) (by decide) (by decide) g64 ?_
  obtain ⟨L65, e66, h⟩ := bk_inv h
  have e66 := Option.some.inj e66
  rw [e66]
  obtain ⟨g67, h⟩ := gd_inv h
  refine K_putR pf_X0_11_0 (fun _ => rfl) dX0_init_10 g67 ?_
  obtain ⟨L68, e69, h⟩ := bk_inv h
  have e69 := Option.some.inj e69
  rw [e69]
  refine K_lift (fun kc ks K => J_aload_n 0 dX0_init_13 rfl K) ?_
  refine K_lift (fun kc ks K => J_bipush (v := 10) dX0_init_14 (by decide) K) ?_
  obtain ⟨g70, h⟩ := gd_inv h
  refine K_anew (kd := 18) (t0 := 5) (n := 10) (fun g => rfl) (by decide) an_X0_17 dX0_init_16 (by decide) (by decide) (by decide) g70 ?_
  obtain ⟨L71, e72, h⟩ := bk_inv h
  have e72 := Option.some.inj e72
  rw [e72]
  obtain ⟨g73, h⟩ := gd_inv h
  refine K_putR pf_X0_19_0 (fun _ => rfl) dX0_init_19 g73 ?_
  obtain ⟨L74, e75, h⟩ := bk_inv h
  have e75 := Option.some.inj e75
  rw [e75]
  refine K_lift (fun kc ks K => J_aload_n 0 dX0_init_22 rfl K) ?_
  refine K_lift (fun kc ks K => J_bipush (v := 60) dX0_init_23 (by decide) K) ?_
  obtain ⟨g76, h⟩ := gd_inv h
  refine K_anew (kd := 19) (t0 := 6) (n := 60) (fun g => rfl) (by decide) an_X0_23 dX0_init_25 (by decide) (by decide) (by decide) g76 ?_
  obtain ⟨L77, e78, h⟩ := bk_inv h
  have e78 := Option.some.inj e78
  rw [e78]
  obtain ⟨g79, h⟩ := gd_inv h
  refine K_putR pf_X0_25_0 (fun _ => rfl) dX0_init_28 g79 ?_
  obtain ⟨L80, e81, h⟩ := bk_inv h
  have e81 := Option.some.inj e81
  rw [e81]
  refine K_lift (fun kc ks K => J_aload_n 0 dX0_init_31 rfl K) ?_
  refine K_lift (fun kc ks K => J_bipush (v := 6) dX0_init_32 (by decide) K) ?_
  obtain ⟨g82, h⟩ := gd_inv h
  refine K_anew (kd := 17) (t0 := 4) (n := 6) (fun g => rfl) (by decide) an_X0_29 dX0_init_34 (by decide) (by decide) (by decide) g82 ?_
  obtain ⟨L83, e84, h⟩ := bk_inv h
  have e84 := Option.some.inj e84
  rw [e84]
  obtain ⟨g85, h⟩ := gd_inv h
  refine K_putR pf_X0_31_0 (fun _ => rfl) dX0_init_37 g85 ?_
  obtain ⟨L86, e87, h⟩ := bk_inv h
  have e87 := Option.some.inj e87
  rw [e87]
  refine K_lift (fun kc ks K => J_aload_n 0 dX0_init_40 rfl K) ?_
  obtain ⟨g88, h⟩ := gd_inv h
  refine K_new cl_4 nw_X0_35 dX0_init_41 g88 ?_
  obtain ⟨L89, e90, h⟩ := bk_inv h
  have e90 := Option.some.inj e90
  rw [e90]
  refine K_lift (fun kc ks K => J_dup dX0_init_44 rfl K) ?_
  obtain ⟨L92, h93, h⟩ := bk_inv h
  refine K_callI (d' := 1) (r := L86.length) (As := []) (st := [.ref (L86.length), .ref k0]) ci_X0_37 dX0_init_45 rfl (Nat.le_of_ble_eq_true rfl) (Nat.le_of_ble_eq_true rfl) (by decide) rfl rfl (t_X5_init h93) ?_
  obtain ⟨g94, h⟩ := gd_inv h
  refine K_putR pf_X0_38_0 (fun _ => rfl) dX0_init_48 g94 ?_
  obtain ⟨L95, e96, h⟩ := bk_inv h
  have e96 := Option.some.inj e96
  rw [e96]
  refine K_lift (fun kc ks K => J_aload_n 0 dX0_init_51 rfl K) ?_
  refine K_lift (fun kc ks K => J_iconst (v := (-1)) dX0_init_52 (by decide) K) ?_
  obtain ⟨g97, h⟩ := gd_inv h
  refine K_putI pf_X0_42_0 (fun _ => rfl) dX0_init_53 g97 ⟨rfl, rfl⟩ ?_
  obtain ⟨L98, e99, h⟩ := bk_inv h
  have e99 := Option.some.inj e99
  rw [e99]
  refine K_lift (fun kc ks K => J_aload_n 0 dX0_init_56 rfl K) ?_
  refine K_lift (fun kc ks K => J_bipush (v := 40) dX0_init_57 (by decide) K) ?_
  obtain ⟨g100, h⟩ := gd_inv h
  refine K_newa (at_ := .int) (kd := 14) (t0 := 1) (n := 40) (fun g => rfl) (fun U cA q => q) (by decide) (by decide) am_int dX0_init_59 (by decide) (by decide) (by decide) g100 ?_
  obtain ⟨L101, e102, h⟩ := bk_inv h
  have e102 := Option.some.inj e102
  rw [e102]
  obtain ⟨g103, h⟩ := gd_inv h
  refine K_putR pf_X0_46_0 (fun _ => rfl) dX0_init_61 g103 ?_
  obtain ⟨L104, e105, h⟩ := bk_inv h
  have e105 := Option.some.inj e105
  rw [e105]
  refine K_lift (fun kc ks K => J_aload_n 0 dX0_init_64 rfl K) ?_
  obtain ⟨g106, h⟩ := gd_inv h
  refine K_new cl_6 nw_X0_17 dX0_init_65 g106 ?_
  obtain ⟨L107, e108, h⟩ := bk_inv h
  have e108 := Option.some.inj e108
  rw [e108]
  refine K_lift (fun kc ks K => J_dup dX0_init_68 rfl K) ?_
  obtain ⟨L110, h111, h⟩ := bk_inv h
  refine K_callI (d' := 1) (r := L104.length) (As := []) (st := [.ref (L104.length), .ref k0]) ci_X0_50 dX0_init_69 rfl (Nat.le_of_ble_eq_true rfl) (Nat.le_of_ble_eq_true rfl) (by decide) rfl rfl (t_X7_init h111) ?_
  obtain ⟨g112, h⟩ := gd_inv h
  refine K_putR pf_X0_51_0 (fun _ => rfl) dX0_init_72 g112 ?_
  obtain ⟨L113, e114, h⟩ := bk_inv h
  have e114 := Option.some.inj e114
  rw [e114]
  refine K_lift (fun kc ks K => J_iconst (v := 0) dX0_init_75 (by decide) K) ?_
  refine K_lift (fun kc ks K => J_istore_n (i := 1) (ls' := [(1, .int 0), (0, .ref k0)]) dX0_init_76 rfl (by decide) rfl K) ?_
  refine K_lift (fun kc ks K => J_pick [1, 0] rfl K) ?_
  exact t_X0_init_77 _ _ _ _ _ h
theorem dX4_init_0 : decode cX4_init 0 = .ok (.aload_n 0, 1) := by decide +kernel
theorem dX4_init_1 : decode cX4_init 1 = .ok (.invokespecial 3, 3) := by decide +kernel
theorem dX4_init_4 : decode cX4_init 4 = .ok (.aload_n 0, 1) := by decide +kernel
theorem dX4_init_5 : decode cX4_init 5 = .ok (.bipush 12, 2) := by decide +kernel
theorem dX4_init_7 : decode cX4_init 7 = .ok (.sipush 780, 3) := by decide +kernel
theorem dX4_init_10 : decode cX4_init 10 = .ok (.multianewarray 9 2, 4) := by decide +kernel
theorem dX4_init_14 : decode cX4_init 14 = .ok (.putfield 11, 3) := by decide +kernel
theorem dX4_init_17 : decode cX4_init 17 = .ok (.aload_n 0, 1) := by decide +kernel
theorem dX4_init_18 : decode cX4_init 18 = .ok (.iconst 2, 1) := by decide +kernel
theorem dX4_init_19 : decode cX4_init 19 = .ok (.bipush 40, 2) := by decide +kernel
theorem dX4_init_21 : decode cX4_init 21 = .ok (.multianewarray 16 2, 4) := by decide +kernel
theorem dX4_init_25 : decode cX4_init 25 = .ok (.putfield 18, 3) := by decide +kernel
theorem dX4_init_28 : decode cX4_init 28 = .ok (.aload_n 0, 1) := by decide +kernel
theorem dX4_init_29 : decode cX4_init 29 = .ok (.iconst 2, 1) := by decide +kernel
theorem dX4_init_30 : decode cX4_init 30 = .ok (.bipush 40, 2) := by decide +kernel
theorem dX4_init_32 : decode cX4_init 32 = .ok (.multianewarray 16 2, 4) := by decide +kernel
theorem dX4_init_36 : decode cX4_init 36 = .ok (.putfield 21, 3) := by decide +kernel
theorem dX4_init_39 : decode cX4_init 39 = .ok (.aload_n 0, 1) := by decide +kernel
theorem dX4_init_40 : decode cX4_init 40 = .ok (.iconst 2, 1) := by decide +kernel
theorem dX4_init_41 : decode cX4_init 41 = .ok (.bipush 40, 2) := by decide +kernel
theorem dX4_init_43 : decode cX4_init 43 = .ok (.multianewarray 16 2, 4) := by decide +kernel
theorem dX4_init_47 : decode cX4_init 47 = .ok (.putfield 24, 3) := by decide +kernel
theorem dX4_init_50 : decode cX4_init 50 = .ok (.aload_n 0, 1) := by decide +kernel
theorem dX4_init_51 : decode cX4_init 51 = .ok (.sipush 192, 3) := by decide +kernel
theorem dX4_init_54 : decode cX4_init 54 = .ok (.newarray .long, 2) := by decide +kernel
theorem dX4_init_56 : decode cX4_init 56 = .ok (.putfield 27, 3) := by decide +kernel
theorem dX4_init_59 : decode cX4_init 59 = .ok (.aload_n 0, 1) := by decide +kernel
theorem dX4_init_60 : decode cX4_init 60 = .ok (.sipush 192, 3) := by decide +kernel
theorem dX4_init_63 : decode cX4_init 63 = .ok (.newarray .int, 2) := by decide +kernel
theorem dX4_init_65 : decode cX4_init 65 = .ok (.putfield 31, 3) := by decide +kernel
theorem dX4_init_68 : decode cX4_init 68 = .ok (.aload_n 0, 1) := by decide +kernel
theorem dX4_init_69 : decode cX4_init 69 = .ok (.aload_n 1, 1) := by decide +kernel
theorem dX4_init_70 : decode cX4_init 70 = .ok (.putfield 35, 3) := by decide +kernel
theorem dX4_init_73 : decode cX4_init 73 = .ok (.return_, 1) := by decide +kernel
set_option maxRecDepth 20000 in
noncomputable def f_X4_init (k0 : Nat) (k1 : Nat) (L : List C0) : Option (List C0) :=
  gd (L.length + 13 ≤ 1000000) (bk (some (mnL L 21 14 12 780)) (fun L3 => gd ((L3.getD k0 dC).1.1 = 3 ∧ k0 < L3.length ∧ k0 < 1000000) (bk (some (ptR L3 k0 1 (some (L.length)))) (fun L6 => gd (L6.length + 3 ≤ 1000000) (bk (some (mnL L6 22 15 2 40)) (fun L9 => gd ((L9.getD k0 dC).1.1 = 3 ∧ k0 < L9.length ∧ k0 < 1000000) (bk (some (ptR L9 k0 2 (some (L6.length)))) (fun L12 => gd (L12.length + 3 ≤ 1000000) (bk (some (mnL L12 22 15 2 40)) (fun L15 => gd ((L15.getD k0 dC).1.1 = 3 ∧ k0 < L15.length ∧ k0 < 1000000) (bk (some (ptR L15 k0 3 (some (L12.length)))) (fun L18 => gd (L18.length + 3 ≤ 1000000) (bk (some (mnL L18 22 15 2 40)) (fun L21 => gd ((L21.getD k0 dC).1.1 = 3 ∧ k0 < L21.length ∧ k0 < 1000000) (bk (some (ptR L21 k0 4 (some (L18.length)))) (fun L24 => gd (L24.length < 1000000) (bk (some (L24 ++ [((15, 192), [], [])])) (fun L27 => gd ((L27.getD k0 dC).1.1 = 3 ∧ k0 < L27.length ∧ k0 < 1000000) (bk (some (ptR L27 k0 6 (some (L24.length)))) (fun L30 => gd (L30.length < 1000000) (bk (some (L30 ++ [((14, 192), [], [])])) (fun L33 => gd ((L33.getD k0 dC).1.1 = 3 ∧ k0 < L33.length ∧ k0 < 1000000) (bk (some (ptR L33 k0 7 (some (L30.length)))) (fun L36 => gd ((L36.getD k0 dC).1.1 = 3 ∧ k0 < L36.length ∧ k0 < 1000000) (bk (some (ptR L36 k0 5 (some k1))) (fun L39 => some L39))))))))))))))))))))))))))
set_option maxRecDepth 20000 in
set_option maxHeartbeats 4000000 in
theorem t_X4_init {k0 : Nat} {k1 : Nat} {L M : List C0} (h : f_X4_init k0 k1 L = some M) : JA mi_X4_init 1 (jqK M) 0 [(0, .ref k0), (1, .ref k1)] [] L M := by
  unfold f_X4_init at h
  refine K_lift (fun kc ks K => J_aload_n 0 dX4_init_0 rfl K) ?_
  refine K_obj ob_X4_3 dX4_init_1 (by decide) (Nat.le_of_ble_eq_true rfl) ?_
  refine K_lift (fun kc ks K => J_aload_n 0 dX4_init_4 rfl K) ?_
  refine K_lift (fun kc ks K => J_bipush (v := 12) dX4_init_5 (by decide) K) ?_
  refine K_lift (fun kc ks K => J_sipush (v := 780) dX4_init_7 (by decide) K) ?_
  obtain ⟨g2, h⟩ := gd_inv h
  refine K_mna (ty := .int) (kd := 21) (ik := 14) (N := 12) (K := 780) mn_X4_9 dX4_init_10 (mk_int) (by decide) (by decide) (by decide) g2 ?_
  obtain ⟨L3, e4, h⟩ := bk_inv h
  have e4 := Option.some.inj e4
  rw [e4]
  obtain ⟨g5, h⟩ := gd_inv h
  refine K_putR pf_X4_11_3 (fun _ => rfl) dX4_init_14 g5 ?_
  obtain ⟨L6, e7, h⟩ := bk_inv h
  have e7 := Option.some.inj e7
  rw [e7]
  refine K_lift (fun kc ks K => J_aload_n 0 dX4_init_17 rfl K) ?_
  refine K_lift (fun kc ks K => J_iconst (v := 2) dX4_init_18 (by decide) K) ?_
  refine K_lift (fun kc ks K => J_bipush (v := 40) dX4_init_19 (by decide) K) ?_
  obtain ⟨g8, h⟩ := gd_inv h
  refine K_mna (ty := .long) (kd := 22) (ik := 15) (N := 2) (K := 40) mn_X4_16 dX4_init_21 (mk_long) (by decide) (by decide) (by decide) g8 ?_
  obtain ⟨L9, e10, h⟩ := bk_inv h
  have e10 := Option.some.inj e10
  rw [e10]
  obtain ⟨g11, h⟩ := gd_inv h
  refine K_putR pf_X4_18_3 (fun _ => rfl) dX4_init_25 g11 ?_
  obtain ⟨L12, e13, h⟩ := bk_inv h
  have e13 := Option.some.inj e13
  rw [e13]
  refine K_lift (fun kc ks K => J_aload_n 0 dX4_init_28 rfl K) ?_
  refine K_lift (fun kc ks K => J_iconst (v := 2) dX4_init_29 (by decide) K) ?_
  refine K_lift (fun kc ks K => J_bipush (v := 40) dX4_init_30 (by decide) K) ?_
  obtain ⟨g14, h⟩ := gd_inv h
  refine K_mna (ty := .long) (kd := 22) (ik := 15) (N := 2) (K := 40) mn_X4_16 dX4_init_32 (mk_long) (by decide) (by decide) (by decide) g14 ?_
  obtain ⟨L15, e16, h⟩ := bk_inv h
  have e16 := Option.some.inj e16
  rw [e16]
  obtain ⟨g17, h⟩ := gd_inv h
  refine K_putR pf_X4_21_3 (fun _ => rfl) dX4_init_36 g17 ?_
  obtain ⟨L18, e19, h⟩ := bk_inv h
  have e19 := Option.some.inj e19
  rw [e19]
  refine K_lift (fun kc ks K => J_aload_n 0 dX4_init_39 rfl K) ?_
  refine K_lift (fun kc ks K => J_iconst (v := 2) dX4_init_40 (by decide) K) ?_
  refine K_lift (fun kc ks K => J_bipush (v := 40) dX4_init_41 (by decide) K) ?_
  obtain ⟨g20, h⟩ := gd_inv h
  refine K_mna (ty := .long) (kd := 22) (ik := 15) (N := 2) (K := 40) mn_X4_16 dX4_init_43 (mk_long) (by decide) (by decide) (by decide) g20 ?_
  obtain ⟨L21, e22, h⟩ := bk_inv h
  have e22 := Option.some.inj e22
  rw [e22]
  obtain ⟨g23, h⟩ := gd_inv h
  refine K_putR pf_X4_24_3 (fun _ => rfl) dX4_init_47 g23 ?_
  obtain ⟨L24, e25, h⟩ := bk_inv h
  have e25 := Option.some.inj e25
  rw [e25]
  refine K_lift (fun kc ks K => J_aload_n 0 dX4_init_50 rfl K) ?_
  refine K_lift (fun kc ks K => J_sipush (v := 192) dX4_init_51 (by decide) K) ?_
  obtain ⟨g26, h⟩ := gd_inv h
  refine K_newa (at_ := .long) (kd := 15) (t0 := 2) (n := 192) (fun g => rfl) (fun U cA q => q) (by decide) (by decide) am_long dX4_init_54 (by decide) (by decide) (by decide) g26 ?_
  obtain ⟨L27, e28, h⟩ := bk_inv h
  have e28 := Option.some.inj e28
  rw [e28]
  obtain ⟨g29, h⟩ := gd_inv h
  refine K_putR pf_X4_27_3 (fun _ => rfl) dX4_init_56 g29 ?_
  obtain ⟨L30, e31, h⟩ := bk_inv h
  have e31 := Option.some.inj e31
  rw [e31]
  refine K_lift (fun kc ks K => J_aload_n 0 dX4_init_59 rfl K) ?_
  refine K_lift (fun kc ks K => J_sipush (v := 192) dX4_init_60 (by decide) K) ?_
  obtain ⟨g32, h⟩ := gd_inv h
  refine K_newa (at_ := .int) (kd := 14) (t0 := 1) (n := 192) (fun g => rfl) (fun U cA q => q) (by decide) (by decide) am_int dX4_init_63 (by decide) (by decide) (by decide) g32 ?_
  obtain ⟨L33, e34, h⟩ := bk_inv h
  have e34 := Option.some.inj e34
  rw [e34]
  obtain ⟨g35, h⟩ := gd_inv h
  refine K_putR pf_X4_31_3 (fun _ => rfl) dX4_init_65 g35 ?_
  obtain ⟨L36, e37, h⟩ := bk_inv h
  have e37 := Option.some.inj e37
  rw [e37]
  refine K_lift (fun kc ks K => J_aload_n 0 dX4_init_68 rfl K) ?_
  refine K_lift (fun kc ks K => J_aload_n 1 dX4_init_69 rfl K) ?_
  obtain ⟨g38, h⟩ := gd_inv h
  refine K_putR pf_X4_35_3 (fun _ => rfl) dX4_init_70 g38 ?_
  obtain ⟨L39, e40, h⟩ := bk_inv h
  have e40 := Option.some.inj e40
  rw [e40]
  exact K_ret dX4_init_73 rfl h
theorem dX2_init_0 : decode cX2_init 0 = .ok (.aload_n 0, 1) := by decide +kernel
theorem dX2_init_1 : decode cX2_init 1 = .ok (.invokespecial 3, 3) := by decide +kernel
theorem dX2_init_4 : decode cX2_init 4 = .ok (.aload_n 0, 1) := by decide +kernel
theorem dX2_init_5 : decode cX2_init 5 = .ok (.bipush 80, 2) := by decide +kernel
theorem dX2_init_7 : decode cX2_init 7 = .ok (.newarray .int, 2) := by decide +kernel
theorem dX2_init_9 : decode cX2_init 9 = .ok (.putfield 11, 3) := by decide +kernel
theorem dX2_init_12 : decode cX2_init 12 = .ok (.aload_n 0, 1) := by decide +kernel
theorem dX2_init_13 : decode cX2_init 13 = .ok (.bipush 80, 2) := by decide +kernel
theorem dX2_init_15 : decode cX2_init 15 = .ok (.newarray .int, 2) := by decide +kernel
theorem dX2_init_17 : decode cX2_init 17 = .ok (.putfield 15, 3) := by decide +kernel
theorem dX2_init_20 : decode cX2_init 20 = .ok (.aload_n 0, 1) := by decide +kernel
theorem dX2_init_21 : decode cX2_init 21 = .ok (.bipush 80, 2) := by decide +kernel
theorem dX2_init_23 : decode cX2_init 23 = .ok (.newarray .int, 2) := by decide +kernel
theorem dX2_init_25 : decode cX2_init 25 = .ok (.putfield 18, 3) := by decide +kernel
theorem dX2_init_28 : decode cX2_init 28 = .ok (.aload_n 0, 1) := by decide +kernel
theorem dX2_init_29 : decode cX2_init 29 = .ok (.iconst 2, 1) := by decide +kernel
theorem dX2_init_30 : decode cX2_init 30 = .ok (.bipush 40, 2) := by decide +kernel
theorem dX2_init_32 : decode cX2_init 32 = .ok (.multianewarray 21 2, 4) := by decide +kernel
theorem dX2_init_36 : decode cX2_init 36 = .ok (.putfield 23, 3) := by decide +kernel
theorem dX2_init_39 : decode cX2_init 39 = .ok (.aload_n 0, 1) := by decide +kernel
theorem dX2_init_40 : decode cX2_init 40 = .ok (.aload_n 1, 1) := by decide +kernel
theorem dX2_init_41 : decode cX2_init 41 = .ok (.putfield 26, 3) := by decide +kernel
theorem dX2_init_44 : decode cX2_init 44 = .ok (.return_, 1) := by decide +kernel
set_option maxRecDepth 20000 in
noncomputable def f_X2_init (k0 : Nat) (k1 : Nat) (L : List C0) : Option (List C0) :=
  gd (L.length < 1000000) (bk (some (L ++ [((14, 80), [], [])])) (fun L3 => gd ((L3.getD k0 dC).1.1 = 2 ∧ k0 < L3.length ∧ k0 < 1000000) (bk (some (ptR L3 k0 6 (some (L.length)))) (fun L6 => gd (L6.length < 1000000) (bk (some (L6 ++ [((14, 80), [], [])])) (fun L9 => gd ((L9.getD k0 dC).1.1 = 2 ∧ k0 < L9.length ∧ k0 < 1000000) (bk (some (ptR L9 k0 7 (some (L6.length)))) (fun L12 => gd (L12.length < 1000000) (bk (some (L12 ++ [((14, 80), [], [])])) (fun L15 => gd ((L15.getD k0 dC).1.1 = 2 ∧ k0 < L15.length ∧ k0 < 1000000) (bk (some (ptR L15 k0 8 (some (L12.length)))) (fun L18 => gd (L18.length + 3 ≤ 1000000) (bk (some (mnL L18 21 14 2 40)) (fun L21 => gd ((L21.getD k0 dC).1.1 = 2 ∧ k0 < L21.length ∧ k0 < 1000000) (bk (some (ptR L21 k0 12 (some (L18.length)))) (fun L24 => gd ((L24.getD k0 dC).1.1 = 2 ∧ k0 < L24.length ∧ k0 < 1000000) (bk (some (ptR L24 k0 9 (some k1))) (fun L27 => some L27))))))))))))))))))
set_option maxRecDepth 20000 in
set_option maxHeartbeats 4000000 in
theorem t_X2_init {k0 : Nat} {k1 : Nat} {L M : List C0} (h : f_X2_init k0 k1 L = some M) : JA mi_X2_init 1 (jqK M) 0 [(0, .ref k0), (1, .ref k1)] [] L M := by
  unfold f_X2_init at h
  refine K_lift (fun kc ks K => J_aload_n 0 dX2_init_0 rfl K) ?_
  refine K_obj ob_X2_3 dX2_init_1 (by decide) (Nat.le_of_ble_eq_true rfl) ?_
  refine K_lift (fun kc ks K => J_aload_n 0 dX2_init_4 rfl K) ?_
  refine K_lift (fun kc ks K => J_bipush (v := 80) dX2_init_5 (by decide) K) ?_
  obtain ⟨g2, h⟩ := gd_inv h
  refine K_newa (at_ := .int) (kd := 14) (t0 := 1) (n := 80) (fun g => rfl) (fun U cA q => q) (by decide) (by decide) am_int dX2_init_7 (by decide) (by decide) (by decide) g2 ?_
  obtain ⟨L3, e4, h⟩ := bk_inv h
  have e4 := Option.some.inj e4
  rw [e4]
  obtain ⟨g5, h⟩ := gd_inv h
  refine K_putR pf_X2_11_2 (fun _ => rfl) dX2_init_9 g5 ?_
  obtain ⟨L6, e7, h⟩ := bk_inv h
  have e7 := Option.some.inj e7
  rw [e7]
  refine K_lift (fun kc ks K => J_aload_n 0 dX2_init_12 rfl K) ?_
  refine K_lift (fun kc ks K => J_bipush (v := 80) dX2_init_13 (by decide) K) ?_
  obtain ⟨g8, h⟩ := gd_inv h
  refine K_newa (at_ := .int) (kd := 14) (t0 := 1) (n := 80) (fun g => rfl) (fun U cA q => q) (by decide) (by decide) am_int dX2_init_15 (by decide) (by decide) (by decide) g8 ?_
  obtain ⟨L9, e10, h⟩ := bk_inv h
  have e10 := Option.some.inj e10
  rw [e10]
  obtain ⟨g11, h⟩ := gd_inv h
  refine K_putR pf_X2_15_2 (fun _ => rfl) dX2_init_17 g11 ?_
  obtain ⟨L12, e13, h⟩ := bk_inv h
  have e13 := Option.some.inj e13
  rw [e13]
  refine K_lift (fun kc ks K => J_aload_n 0 dX2_init_20 rfl K) ?_
  refine K_lift (fun kc ks K => J_bipush (v := 80) dX2_init_21 (by decide) K) ?_
  obtain ⟨g14, h⟩ := gd_inv h
  refine K_newa (at_ := .int) (kd := 14) (t0 := 1) (n := 80) (fun g => rfl) (fun U cA q => q) (by decide) (by decide) am_int dX2_init_23 (by decide) (by decide) (by decide) g14 ?_
  obtain ⟨L15, e16, h⟩ := bk_inv h
  have e16 := Option.some.inj e16
  rw [e16]
  obtain ⟨g17, h⟩ := gd_inv h
  refine K_putR pf_X2_18_2 (fun _ => rfl) dX2_init_25 g17 ?_
  obtain ⟨L18, e19, h⟩ := bk_inv h
  have e19 := Option.some.inj e19
  rw [e19]
  refine K_lift (fun kc ks K => J_aload_n 0 dX2_init_28 rfl K) ?_
  refine K_lift (fun kc ks K => J_iconst (v := 2) dX2_init_29 (by decide) K) ?_
  refine K_lift (fun kc ks K => J_bipush (v := 40) dX2_init_30 (by decide) K) ?_
  obtain ⟨g20, h⟩ := gd_inv h
  refine K_mna (ty := .int) (kd := 21) (ik := 14) (N := 2) (K := 40) mn_X2_21 dX2_init_32 (mk_int) (by decide) (by decide) (by decide) g20 ?_
  obtain ⟨L21, e22, h⟩ := bk_inv h
  have e22 := Option.some.inj e22
  rw [e22]
  obtain ⟨g23, h⟩ := gd_inv h
  refine K_putR pf_X2_23_2 (fun _ => rfl) dX2_init_36 g23 ?_
  obtain ⟨L24, e25, h⟩ := bk_inv h
  have e25 := Option.some.inj e25
  rw [e25]
  refine K_lift (fun kc ks K => J_aload_n 0 dX2_init_39 rfl K) ?_
  refine K_lift (fun kc ks K => J_aload_n 1 dX2_init_40 rfl K) ?_
  obtain ⟨g26, h⟩ := gd_inv h
  refine K_putR pf_X2_26_2 (fun _ => rfl) dX2_init_41 g26 ?_
  obtain ⟨L27, e28, h⟩ := bk_inv h
  have e28 := Option.some.inj e28
  rw [e28]
  exact K_ret dX2_init_44 rfl h
theorem dX8_init_0 : decode cX8_init 0 = .ok (.aload_n 0, 1) := by decide +kernel
theorem dX8_init_1 : decode cX8_init 1 = .ok (.invokespecial 3, 3) := by decide +kernel
theorem dX8_init_4 : decode cX8_init 4 = .ok (.aload_n 0, 1) := by decide +kernel
theorem dX8_init_5 : decode cX8_init 5 = .ok (.sipush 5400, 3) := by decide +kernel
theorem dX8_init_8 : decode cX8_init 8 = .ok (.newarray .int, 2) := by decide +kernel
theorem dX8_init_10 : decode cX8_init 10 = .ok (.putfield 9, 3) := by decide +kernel
theorem dX8_init_13 : decode cX8_init 13 = .ok (.aload_n 0, 1) := by decide +kernel
theorem dX8_init_14 : decode cX8_init 14 = .ok (.bipush 40, 2) := by decide +kernel
theorem dX8_init_16 : decode cX8_init 16 = .ok (.newarray .int, 2) := by decide +kernel
theorem dX8_init_18 : decode cX8_init 18 = .ok (.putfield 15, 3) := by decide +kernel
theorem dX8_init_21 : decode cX8_init 21 = .ok (.aload_n 0, 1) := by decide +kernel
theorem dX8_init_22 : decode cX8_init 22 = .ok (.bipush 7, 2) := by decide +kernel
theorem dX8_init_24 : decode cX8_init 24 = .ok (.newarray .int, 2) := by decide +kernel
theorem dX8_init_26 : decode cX8_init 26 = .ok (.putfield 18, 3) := by decide +kernel
theorem dX8_init_29 : decode cX8_init 29 = .ok (.aload_n 0, 1) := by decide +kernel
theorem dX8_init_30 : decode cX8_init 30 = .ok (.bipush 7, 2) := by decide +kernel
theorem dX8_init_32 : decode cX8_init 32 = .ok (.newarray .int, 2) := by decide +kernel
theorem dX8_init_34 : decode cX8_init 34 = .ok (.putfield 21, 3) := by decide +kernel
theorem dX8_init_37 : decode cX8_init 37 = .ok (.aload_n 0, 1) := by decide +kernel
theorem dX8_init_38 : decode cX8_init 38 = .ok (.bipush 7, 2) := by decide +kernel
theorem dX8_init_40 : decode cX8_init 40 = .ok (.newarray .int, 2) := by decide +kernel
theorem dX8_init_42 : decode cX8_init 42 = .ok (.putfield 24, 3) := by decide +kernel
theorem dX8_init_45 : decode cX8_init 45 = .ok (.aload_n 0, 1) := by decide +kernel
theorem dX8_init_46 : decode cX8_init 46 = .ok (.bipush 7, 2) := by decide +kernel
theorem dX8_init_48 : decode cX8_init 48 = .ok (.bipush 8, 2) := by decide +kernel
theorem dX8_init_50 : decode cX8_init 50 = .ok (.multianewarray 27 2, 4) := by decide +kernel
theorem dX8_init_54 : decode cX8_init 54 = .ok (.putfield 29, 3) := by decide +kernel
theorem dX8_init_57 : decode cX8_init 57 = .ok (.aload_n 0, 1) := by decide +kernel
theorem dX8_init_58 : decode cX8_init 58 = .ok (.bipush 7, 2) := by decide +kernel
theorem dX8_init_60 : decode cX8_init 60 = .ok (.newarray .int, 2) := by decide +kernel
theorem dX8_init_62 : decode cX8_init 62 = .ok (.putfield 32, 3) := by decide +kernel
theorem dX8_init_65 : decode cX8_init 65 = .ok (.aload_n 0, 1) := by decide +kernel
theorem dX8_init_66 : decode cX8_init 66 = .ok (.bipush 7, 2) := by decide +kernel
theorem dX8_init_68 : decode cX8_init 68 = .ok (.bipush 6, 2) := by decide +kernel
theorem dX8_init_70 : decode cX8_init 70 = .ok (.multianewarray 27 2, 4) := by decide +kernel
theorem dX8_init_74 : decode cX8_init 74 = .ok (.putfield 35, 3) := by decide +kernel
theorem dX8_init_77 : decode cX8_init 77 = .ok (.aload_n 0, 1) := by decide +kernel
theorem dX8_init_78 : decode cX8_init 78 = .ok (.bipush 7, 2) := by decide +kernel
theorem dX8_init_80 : decode cX8_init 80 = .ok (.newarray .int, 2) := by decide +kernel
theorem dX8_init_82 : decode cX8_init 82 = .ok (.putfield 38, 3) := by decide +kernel
theorem dX8_init_85 : decode cX8_init 85 = .ok (.aload_n 0, 1) := by decide +kernel
theorem dX8_init_86 : decode cX8_init 86 = .ok (.bipush 27, 2) := by decide +kernel
theorem dX8_init_88 : decode cX8_init 88 = .ok (.newarray .long, 2) := by decide +kernel
theorem dX8_init_90 : decode cX8_init 90 = .ok (.putfield 41, 3) := by decide +kernel
theorem dX8_init_93 : decode cX8_init 93 = .ok (.aload_n 0, 1) := by decide +kernel
theorem dX8_init_94 : decode cX8_init 94 = .ok (.iconst 5, 1) := by decide +kernel
theorem dX8_init_95 : decode cX8_init 95 = .ok (.newarray .long, 2) := by decide +kernel
theorem dX8_init_97 : decode cX8_init 97 = .ok (.putfield 45, 3) := by decide +kernel
theorem dX8_init_100 : decode cX8_init 100 = .ok (.aload_n 0, 1) := by decide +kernel
theorem dX8_init_101 : decode cX8_init 101 = .ok (.aload_n 1, 1) := by decide +kernel
theorem dX8_init_102 : decode cX8_init 102 = .ok (.putfield 48, 3) := by decide +kernel
theorem dX8_init_105 : decode cX8_init 105 = .ok (.aload_n 0, 1) := by decide +kernel
theorem dX8_init_106 : decode cX8_init 106 = .ok (.aload_n 2, 1) := by decide +kernel
theorem dX8_init_107 : decode cX8_init 107 = .ok (.putfield 52, 3) := by decide +kernel
theorem dX8_init_110 : decode cX8_init 110 = .ok (.return_, 1) := by decide +kernel
set_option maxRecDepth 20000 in
noncomputable def f_X8_init (k0 : Nat) (k1 : Nat) (k2 : Nat) (L : List C0) : Option (List C0) :=
  gd (L.length < 1000000) (bk (some (L ++ [((14, 5400), [], [])])) (fun L3 => gd ((L3.getD k0 dC).1.1 = 7 ∧ k0 < L3.length ∧ k0 < 1000000) (bk (some (ptR L3 k0 0 (some (L.length)))) (fun L6 => gd (L6.length < 1000000) (bk (some (L6 ++ [((14, 40), [], [])])) (fun L9 => gd ((L9.getD k0 dC).1.1 = 7 ∧ k0 < L9.length ∧ k0 < 1000000) (bk (some (ptR L9 k0 2 (some (L6.length)))) (fun L12 => gd (L12.length < 1000000) (bk (some (L12 ++ [((14, 7), [], [])])) (fun L15 => gd ((L15.getD k0 dC).1.1 = 7 ∧ k0 < L15.length ∧ k0 < 1000000) (bk (some (ptR L15 k0 6 (some (L12.length)))) (fun L18 => gd (L18.length < 1000000) (bk (some (L18 ++ [((14, 7), [], [])])) (fun L21 => gd ((L21.getD k0 dC).1.1 = 7 ∧ k0 < L21.length ∧ k0 < 1000000) (bk (some (ptR L21 k0 7 (some (L18.length)))) (fun L24 => gd (L24.length < 1000000) (bk (some (L24 ++ [((14, 7), [], [])])) (fun L27 => gd ((L27.getD k0 dC).1.1 = 7 ∧ k0 < L27.length ∧ k0 < 1000000) (bk (some (ptR L27 k0 8 (some (L24.length)))) (fun L30 => gd (L30.length + 8 ≤ 1000000) (bk (some (mnL L30 21 14 7 8)) (fun L33 => gd ((L33.getD k0 dC).1.1 = 7 ∧ k0 < L33.length ∧ k0 < 1000000) (bk (some (ptR L33 k0 9 (some (L30.length)))) (fun L36 => gd (L36.length < 1000000) (bk (some (L36 ++ [((14, 7), [], [])])) (fun L39 => gd ((L39.getD k0 dC).1.1 = 7 ∧ k0 < L39.length ∧ k0 < 1000000) (bk (some (ptR L39 k0 10 (some (L36.length)))) (fun L42 => gd (L42.length + 8 ≤ 1000000) (bk (some (mnL L42 21 14 7 6)) (fun L45 => gd ((L45.getD k0 dC).1.1 = 7 ∧ k0 < L45.length ∧ k0 < 1000000) (bk (some (ptR L45 k0 11 (some (L42.length)))) (fun L48 => gd (L48.length < 1000000) (bk (some (L48 ++ [((14, 7), [], [])])) (fun L51 => gd ((L51.getD k0 dC).1.1 = 7 ∧ k0 < L51.length ∧ k0 < 1000000) (bk (some (ptR L51 k0 12 (some (L48.length)))) (fun L54 => gd (L54.length < 1000000) (bk (some (L54 ++ [((15, 27), [], [])])) (fun L57 => gd ((L57.getD k0 dC).1.1 = 7 ∧ k0 < L57.length ∧ k0 < 1000000) (bk (some (ptR L57 k0 14 (some (L54.length)))) (fun L60 => gd (L60.length < 1000000) (bk (some (L60 ++ [((15, 5), [], [])])) (fun L63 => gd ((L63.getD k0 dC).1.1 = 7 ∧ k0 < L63.length ∧ k0 < 1000000) (bk (some (ptR L63 k0 15 (some (L60.length)))) (fun L66 => gd ((L66.getD k0 dC).1.1 = 7 ∧ k0 < L66.length ∧ k0 < 1000000) (bk (some (ptR L66 k0 3 (some k1))) (fun L69 => gd ((L69.getD k0 dC).1.1 = 7 ∧ k0 < L69.length ∧ k0 < 1000000) (bk (some (ptR L69 k0 4 (some k2))) (fun L72 => some L72))))))))))))))))))))))))))))))))))))))))))))))))
set_option maxRecDepth 20000 in
set_option maxHeartbeats 4000000 in
theorem t_X8_init {k0 : Nat} {k1 : Nat} {k2 : Nat} {L M : List C0} (h : f_X8_init k0 k1 k2 L = some M) : JA mi_X8_init 1 (jqK M) 0 [(0, .ref k0), (1, .ref k1), (2, .ref k2)] [] L M := by
  unfold f_X8_init at h
  refine K_lift (fun kc ks K => J_aload_n 0 dX8_init_0 rfl K) ?_
  refine K_obj ob_X8_3 dX8_init_1 (by decide) (Nat.le_of_ble_eq_true rfl) ?_
  refine K_lift (fun kc ks K => J_aload_n 0 dX8_init_4 rfl K) ?_
  refine K_lift (fun kc ks K => J_sipush (v := 5400) dX8_init_5 (by decide) K) ?_
  obtain ⟨g2, h⟩ := gd_inv h
  refine K_newa (at_ := .int) (kd := 14) (t0 := 1) (n := 5400) (fun g => rfl) (fun U cA q => q) (by decide) (by decide) am_int dX8_init_8 (by decide) (by decide) (by decide) g2 ?_
  obtain ⟨L3, e4, h⟩ := bk_inv h
  have e4 := Option.some.inj e4
  rw [e4]
  obtain ⟨g5, h⟩ := gd_inv h
  refine K_putR pf_X8_9_7 (fun _ => rfl) dX8_init_10 g5 ?_
  obtain ⟨L6, e7, h⟩ := bk_inv h
  have e7 := Option.some.inj e7
  rw [e7]
  refine K_lift (fun kc ks K => J_aload_n 0 dX8_init_13 rfl K) ?_
  refine K_lift (fun kc ks K => J_bipush (v := 40) dX8_init_14 (by decide) K) ?_
  obtain ⟨g8, h⟩ := gd_inv h
  refine K_newa (at_ := .int) (kd := 14) (t0 := 1) (n := 40) (fun g => rfl) (fun U cA q => q) (by decide) (by decide) am_int dX8_init_16 (by decide) (by decide) (by decide) g8 ?_
  obtain ⟨L9, e10, h⟩ := bk_inv h
  have e10 := Option.some.inj e10
  rw [e10]
  obtain ⟨g11, h⟩ := gd_inv h
  refine K_putR pf_X8_15_7 (fun _ => rfl) dX8_init_18 g11 ?_
  obtain ⟨L12, e13, h⟩ := bk_inv h
  have e13 := Option.some.inj e13
  rw [e13]
  refine K_lift (fun kc ks K => J_aload_n 0 dX8_init_21 rfl K) ?_
  refine K_lift (fun kc ks K => J_bipush (v := 7) dX8_init_22 (by decide) K) ?_
  obtain ⟨g14, h⟩ := gd_inv h
  refine K_newa (at_ := .int) (kd := 14) (t0 := 1) (n := 7) (fun g => rfl) (fun U cA q => q) (by decide) (by decide) am_int dX8_init_24 (by decide) (by decide) (by decide) g14 ?_
  obtain ⟨L15, e16, h⟩ := bk_inv h
  have e16 := Option.some.inj e16
  rw [e16]
  obtain ⟨g17, h⟩ := gd_inv h
  refine K_putR pf_X8_18_7 (fun _ => rfl) dX8_init_26 g17 ?_
  obtain ⟨L18, e19, h⟩ := bk_inv h
  have e19 := Option.some.inj e19
  rw [e19]
  refine K_lift (fun kc ks K => J_aload_n 0 dX8_init_29 rfl K) ?_
  refine K_lift (fun kc ks K => J_bipush (v := 7) dX8_init_30 (by decide) K) ?_
  obtain ⟨g20, h⟩ := gd_inv h
  refine K_newa (at_ := .int) (kd := 14) (t0 := 1) (n := 7) (fun g => rfl) (fun U cA q => q) (by decide) (by decide) am_int dX8_init_32 (by decide) (by decide) (by decide) g20 ?_
  obtain ⟨L21, e22, h⟩ := bk_inv h
  have e22 := Option.some.inj e22
  rw [e22]
  obtain ⟨g23, h⟩ := gd_inv h
  refine K_putR pf_X8_21_7 (fun _ => rfl) dX8_init_34 g23 ?_
  obtain ⟨L24, e25, h⟩ := bk_inv h
  have e25 := Option.some.inj e25
  rw [e25]
  refine K_lift (fun kc ks K => J_aload_n 0 dX8_init_37 rfl K) ?_
  refine K_lift (fun kc ks K => J_bipush (v := 7) dX8_init_38 (by decide) K) ?_
  obtain ⟨g26, h⟩ := gd_inv h
  refine K_newa (at_ := .int) (kd := 14) (t0 := 1) (n := 7) (fun g => rfl) (fun U cA q => q) (by decide) (by decide) am_int dX8_init_40 (by decide) (by decide) (by decide) g26 ?_
  obtain ⟨L27, e28, h⟩ := bk_inv h
  have e28 := Option.some.inj e28
  rw [e28]
  obtain ⟨g29, h⟩ := gd_inv h
  refine K_putR pf_X8_24_7 (fun _ => rfl) dX8_init_42 g29 ?_
  obtain ⟨L30, e31, h⟩ := bk_inv h
  have e31 := Option.some.inj e31
  rw [e31]
  refine K_lift (fun kc ks K => J_aload_n 0 dX8_init_45 rfl K) ?_
  refine K_lift (fun kc ks K => J_bipush (v := 7) dX8_init_46 (by decide) K) ?_
  refine K_lift (fun kc ks K => J_bipush (v := 8) dX8_init_48 (by decide) K) ?_
  obtain ⟨g32, h⟩ := gd_inv h
  refine K_mna (ty := .int) (kd := 21) (ik := 14) (N := 7) (K := 8) mn_X8_27 dX8_init_50 (mk_int) (by decide) (by decide) (by decide) g32 ?_
  obtain ⟨L33, e34, h⟩ := bk_inv h
  have e34 := Option.some.inj e34
  rw [e34]
  obtain ⟨g35, h⟩ := gd_inv h
  refine K_putR pf_X8_29_7 (fun _ => rfl) dX8_init_54 g35 ?_
  obtain ⟨L36, e37, h⟩ := bk_inv h
  have e37 := Option.some.inj e37
  rw [e37]
  refine K_lift (fun kc ks K => J_aload_n 0 dX8_init_57 rfl K) ?_
  refine K_lift (fun kc ks K => J_bipush (v := 7) dX8_init_58 (by decide) K) ?_
  obtain ⟨g38, h⟩ := gd_inv h
  refine K_newa (at_ := .int) (kd := 14) (t0 := 1) (n := 7) (fun g => rfl) (fun U cA q => q) (by decide) (by decide) am_int dX8_init_60 (by decide) (by decide) (by decide) g38 ?_
  obtain ⟨L39, e40, h⟩ := bk_inv h
  have e40 := Option.some.inj e40
  rw [e40]
  obtain ⟨g41, h⟩ := gd_inv h
  refine K_putR pf_X8_32_7 (fun _ => rfl) dX8_init_62 g41 ?_
  obtain ⟨L42, e43, h⟩ := bk_inv h
  have e43 := Option.some.inj e43
  rw [e43]
  refine K_lift (fun kc ks K => J_aload_n 0 dX8_init_65 rfl K) ?_
  refine K_lift (fun kc ks K => J_bipush (v := 7) dX8_init_66 (by decide) K) ?_
  refine K_lift (fun kc ks K => J_bipush (v := 6) dX8_init_68 (by decide) K) ?_
  obtain ⟨g44, h⟩ := gd_inv h
  refine K_mna (ty := .int) (kd := 21) (ik := 14) (N := 7) (K := 6) mn_X8_27 dX8_init_70 (mk_int) (by decide) (by decide) (by decide) g44 ?_
  obtain ⟨L45, e46, h⟩ := bk_inv h
  have e46 := Option.some.inj e46
  rw [e46]
  obtain ⟨g47, h⟩ := gd_inv h
  refine K_putR pf_X8_35_7 (fun _ => rfl) dX8_init_74 g47 ?_
  obtain ⟨L48, e49, h⟩ := bk_inv h
  have e49 := Option.some.inj e49
  rw [e49]
  refine K_lift (fun kc ks K => J_aload_n 0 dX8_init_77 rfl K) ?_
  refine K_lift (fun kc ks K => J_bipush (v := 7) dX8_init_78 (by decide) K) ?_
  obtain ⟨g50, h⟩ := gd_inv h
  refine K_newa (at_ := .int) (kd := 14) (t0 := 1) (n := 7) (fun g => rfl) (fun U cA q => q) (by decide) (by decide) am_int dX8_init_80 (by decide) (by decide) (by decide) g50 ?_
  obtain ⟨L51, e52, h⟩ := bk_inv h
  have e52 := Option.some.inj e52
  rw [e52]
  obtain ⟨g53, h⟩ := gd_inv h
  refine K_putR pf_X8_38_7 (fun _ => rfl) dX8_init_82 g53 ?_
  obtain ⟨L54, e55, h⟩ := bk_inv h
  have e55 := Option.some.inj e55
  rw [e55]
  refine K_lift (fun kc ks K => J_aload_n 0 dX8_init_85 rfl K) ?_
  refine K_lift (fun kc ks K => J_bipush (v := 27) dX8_init_86 (by decide) K) ?_
  obtain ⟨g56, h⟩ := gd_inv h
  refine K_newa (at_ := .long) (kd := 15) (t0 := 2) (n := 27) (fun g => rfl) (fun U cA q => q) (by decide) (by decide) am_long dX8_init_88 (by decide) (by decide) (by decide) g56 ?_
  obtain ⟨L57, e58, h⟩ := bk_inv h
  have e58 := Option.some.inj e58
  rw [e58]
  obtain ⟨g59, h⟩ := gd_inv h
  refine K_putR pf_X8_41_7 (fun _ => rfl) dX8_init_90 g59 ?_
  obtain ⟨L60, e61, h⟩ := bk_inv h
  have e61 := Option.some.inj e61
  rw [e61]
  refine K_lift (fun kc ks K => J_aload_n 0 dX8_init_93 rfl K) ?_
  refine K_lift (fun kc ks K => J_iconst (v := 5) dX8_init_94 (by decide) K) ?_
  obtain ⟨g62, h⟩ := gd_inv h
  refine K_newa (at_ := .long) (kd := 15) (t0 := 2) (n := 5) (fun g => rfl) (fun U cA q => q) (by decide) (by decide) am_long dX8_init_95 (by decide) (by decide) (by decide) g62 ?_
  obtain ⟨L63, e64, h⟩ := bk_inv h
  have e64 := Option.some.inj e64
  rw [e64]
  obtain ⟨g65, h⟩ := gd_inv h
  refine K_putR pf_X8_45_7 (fun _ => rfl) dX8_init_97 g65 ?_
  obtain ⟨L66, e67, h⟩ := bk_inv h
  have e67 := Option.some.inj e67
  rw [e67]
  refine K_lift (fun kc ks K => J_aload_n 0 dX8_init_100 rfl K) ?_
  refine K_lift (fun kc ks K => J_aload_n 1 dX8_init_101 rfl K) ?_
  obtain ⟨g68, h⟩ := gd_inv h
  refine K_putR pf_X8_48_7 (fun _ => rfl) dX8_init_102 g68 ?_
  obtain ⟨L69, e70, h⟩ := bk_inv h
  have e70 := Option.some.inj e70
  rw [e70]
  refine K_lift (fun kc ks K => J_aload_n 0 dX8_init_105 rfl K) ?_
  refine K_lift (fun kc ks K => J_aload_n 2 dX8_init_106 rfl K) ?_
  obtain ⟨g71, h⟩ := gd_inv h
  refine K_putR pf_X8_52_7 (fun _ => rfl) dX8_init_107 g71 ?_
  obtain ⟨L72, e73, h⟩ := bk_inv h
  have e73 := Option.some.inj e73
  rw [e73]
  exact K_ret dX8_init_110 rfl h
theorem dX1_init_0 : decode cX1_init 0 = .ok (.aload_n 0, 1) := by decide +kernel
theorem dX1_init_1 : decode cX1_init 1 = .ok (.invokespecial 3, 3) := by decide +kernel
theorem dX1_init_4 : decode cX1_init 4 = .ok (.aload_n 0, 1) := by decide +kernel
theorem dX1_init_5 : decode cX1_init 5 = .ok (.sipush 200, 3) := by decide +kernel
theorem dX1_init_8 : decode cX1_init 8 = .ok (.newarray .int, 2) := by decide +kernel
theorem dX1_init_10 : decode cX1_init 10 = .ok (.putfield 11, 3) := by decide +kernel
theorem dX1_init_13 : decode cX1_init 13 = .ok (.aload_n 0, 1) := by decide +kernel
theorem dX1_init_14 : decode cX1_init 14 = .ok (.aload_n 1, 1) := by decide +kernel
theorem dX1_init_15 : decode cX1_init 15 = .ok (.putfield 15, 3) := by decide +kernel
theorem dX1_init_18 : decode cX1_init 18 = .ok (.aload_n 0, 1) := by decide +kernel
theorem dX1_init_19 : decode cX1_init 19 = .ok (.aload_n 2, 1) := by decide +kernel
theorem dX1_init_20 : decode cX1_init 20 = .ok (.putfield 19, 3) := by decide +kernel
theorem dX1_init_23 : decode cX1_init 23 = .ok (.return_, 1) := by decide +kernel
set_option maxRecDepth 20000 in
noncomputable def f_X1_init (k0 : Nat) (k1 : Nat) (k2 : Nat) (L : List C0) : Option (List C0) :=
  gd (L.length < 1000000) (bk (some (L ++ [((14, 200), [], [])])) (fun L3 => gd ((L3.getD k0 dC).1.1 = 1 ∧ k0 < L3.length ∧ k0 < 1000000) (bk (some (ptR L3 k0 2 (some (L.length)))) (fun L6 => gd ((L6.getD k0 dC).1.1 = 1 ∧ k0 < L6.length ∧ k0 < 1000000) (bk (some (ptR L6 k0 3 (some k1))) (fun L9 => gd ((L9.getD k0 dC).1.1 = 1 ∧ k0 < L9.length ∧ k0 < 1000000) (bk (some (ptR L9 k0 4 (some k2))) (fun L12 => some L12))))))))
set_option maxRecDepth 20000 in
set_option maxHeartbeats 4000000 in
theorem t_X1_init {k0 : Nat} {k1 : Nat} {k2 : Nat} {L M : List C0} (h : f_X1_init k0 k1 k2 L = some M) : JA mi_X1_init 1 (jqK M) 0 [(0, .ref k0), (1, .ref k1), (2, .ref k2)] [] L M := by
  unfold f_X1_init at h
  refine K_lift (fun kc ks K => J_aload_n 0 dX1_init_0 rfl K) ?_
  refine K_obj ob_X1_3 dX1_init_1 (by decide) (Nat.le_of_ble_eq_true rfl) ?_
  refine K_lift (fun kc ks K => J_aload_n 0 dX1_init_4 rfl K) ?_
  refine K_lift (fun kc ks K => J_sipush (v := 200) dX1_init_5 (by decide) K) ?_
  obtain ⟨g2, h⟩ := gd_inv h
  refine K_newa (at_ := .int) (kd := 14) (t0 := 1) (n := 200) (fun g => rfl) (fun U cA q => q) (by decide) (by decide) am_int dX1_init_8 (by decide) (by decide) (by decide) g2 ?_
  obtain ⟨L3, e4, h⟩ := bk_inv h
  have e4 := Option.some.inj e4
  rw [e4]
  obtain ⟨g5, h⟩ := gd_inv h
  refine K_putR pf_X1_11_1 (fun _ => rfl) dX1_init_10 g5 ?_
  obtain ⟨L6, e7, h⟩ := bk_inv h
  have e7 := Option.some.inj e7
  rw [e7]
  refine K_lift (fun kc ks K => J_aload_n 0 dX1_init_13 rfl K) ?_
  refine K_lift (fun kc ks K => J_aload_n 1 dX1_init_14 rfl K) ?_
  obtain ⟨g8, h⟩ := gd_inv h
  refine K_putR pf_X1_15_1 (fun _ => rfl) dX1_init_15 g8 ?_
  obtain ⟨L9, e10, h⟩ := bk_inv h
  have e10 := Option.some.inj e10
  rw [e10]
  refine K_lift (fun kc ks K => J_aload_n 0 dX1_init_18 rfl K) ?_
  refine K_lift (fun kc ks K => J_aload_n 2 dX1_init_19 rfl K) ?_
  obtain ⟨g11, h⟩ := gd_inv h
  refine K_putR pf_X1_19_1 (fun _ => rfl) dX1_init_20 g11 ?_
  obtain ⟨L12, e13, h⟩ := bk_inv h
  have e13 := Option.some.inj e13
  rw [e13]
  exact K_ret dX1_init_23 rfl h
theorem dX12_init_0 : decode cX12_init 0 = .ok (.aload_n 0, 1) := by decide +kernel
theorem dX12_init_1 : decode cX12_init 1 = .ok (.invokespecial 3, 3) := by decide +kernel
theorem dX12_init_4 : decode cX12_init 4 = .ok (.aload_n 0, 1) := by decide +kernel
theorem dX12_init_5 : decode cX12_init 5 = .ok (.bipush 12, 2) := by decide +kernel
theorem dX12_init_7 : decode cX12_init 7 = .ok (.newarray .int, 2) := by decide +kernel
theorem dX12_init_9 : decode cX12_init 9 = .ok (.putfield 9, 3) := by decide +kernel
theorem dX12_init_12 : decode cX12_init 12 = .ok (.aload_n 0, 1) := by decide +kernel
theorem dX12_init_13 : decode cX12_init 13 = .ok (.bipush 8, 2) := by decide +kernel
theorem dX12_init_15 : decode cX12_init 15 = .ok (.newarray .int, 2) := by decide +kernel
theorem dX12_init_17 : decode cX12_init 17 = .ok (.putfield 13, 3) := by decide +kernel
theorem dX12_init_20 : decode cX12_init 20 = .ok (.aload_n 0, 1) := by decide +kernel
theorem dX12_init_21 : decode cX12_init 21 = .ok (.new 16, 3) := by decide +kernel
theorem dX12_init_24 : decode cX12_init 24 = .ok (.dup, 1) := by decide +kernel
theorem dX12_init_25 : decode cX12_init 25 = .ok (.invokespecial 18, 3) := by decide +kernel
theorem dX12_init_28 : decode cX12_init 28 = .ok (.putfield 19, 3) := by decide +kernel
theorem dX12_init_31 : decode cX12_init 31 = .ok (.aload_n 0, 1) := by decide +kernel
theorem dX12_init_32 : decode cX12_init 32 = .ok (.new 23, 3) := by decide +kernel
theorem dX12_init_35 : decode cX12_init 35 = .ok (.dup, 1) := by decide +kernel
theorem dX12_init_36 : decode cX12_init 36 = .ok (.invokespecial 25, 3) := by decide +kernel
theorem dX12_init_39 : decode cX12_init 39 = .ok (.putfield 26, 3) := by decide +kernel
theorem dX12_init_42 : decode cX12_init 42 = .ok (.aload_n 0, 1) := by decide +kernel
theorem dX12_init_43 : decode cX12_init 43 = .ok (.new 30, 3) := by decide +kernel
theorem dX12_init_46 : decode cX12_init 46 = .ok (.dup, 1) := by decide +kernel
theorem dX12_init_47 : decode cX12_init 47 = .ok (.aload_n 0, 1) := by decide +kernel
theorem dX12_init_48 : decode cX12_init 48 = .ok (.getfield 19, 3) := by decide +kernel
theorem dX12_init_51 : decode cX12_init 51 = .ok (.invokespecial 32, 3) := by decide +kernel
theorem dX12_init_54 : decode cX12_init 54 = .ok (.putfield 35, 3) := by decide +kernel
theorem dX12_init_57 : decode cX12_init 57 = .ok (.aload_n 0, 1) := by decide +kernel
theorem dX12_init_58 : decode cX12_init 58 = .ok (.new 39, 3) := by decide +kernel
theorem dX12_init_61 : decode cX12_init 61 = .ok (.dup, 1) := by decide +kernel
theorem dX12_init_62 : decode cX12_init 62 = .ok (.aload_n 0, 1) := by decide +kernel
theorem dX12_init_63 : decode cX12_init 63 = .ok (.getfield 35, 3) := by decide +kernel
theorem dX12_init_66 : decode cX12_init 66 = .ok (.invokespecial 41, 3) := by decide +kernel
theorem dX12_init_69 : decode cX12_init 69 = .ok (.putfield 44, 3) := by decide +kernel
theorem dX12_init_72 : decode cX12_init 72 = .ok (.aload_n 0, 1) := by decide +kernel
theorem dX12_init_73 : decode cX12_init 73 = .ok (.new 48, 3) := by decide +kernel
theorem dX12_init_76 : decode cX12_init 76 = .ok (.dup, 1) := by decide +kernel
theorem dX12_init_77 : decode cX12_init 77 = .ok (.aload_n 0, 1) := by decide +kernel
theorem dX12_init_78 : decode cX12_init 78 = .ok (.getfield 19, 3) := by decide +kernel
theorem dX12_init_81 : decode cX12_init 81 = .ok (.aload_n 0, 1) := by decide +kernel
theorem dX12_init_82 : decode cX12_init 82 = .ok (.getfield 35, 3) := by decide +kernel
theorem dX12_init_85 : decode cX12_init 85 = .ok (.invokespecial 50, 3) := by decide +kernel
theorem dX12_init_88 : decode cX12_init 88 = .ok (.putfield 53, 3) := by decide +kernel
theorem dX12_init_91 : decode cX12_init 91 = .ok (.aload_n 0, 1) := by decide +kernel
theorem dX12_init_92 : decode cX12_init 92 = .ok (.new 57, 3) := by decide +kernel
theorem dX12_init_95 : decode cX12_init 95 = .ok (.dup, 1) := by decide +kernel
theorem dX12_init_96 : decode cX12_init 96 = .ok (.aload_n 0, 1) := by decide +kernel
theorem dX12_init_97 : decode cX12_init 97 = .ok (.getfield 19, 3) := by decide +kernel
theorem dX12_init_100 : decode cX12_init 100 = .ok (.aload_n 0, 1) := by decide +kernel
theorem dX12_init_101 : decode cX12_init 101 = .ok (.getfield 53, 3) := by decide +kernel
theorem dX12_init_104 : decode cX12_init 104 = .ok (.invokespecial 59, 3) := by decide +kernel
theorem dX12_init_107 : decode cX12_init 107 = .ok (.putfield 62, 3) := by decide +kernel
theorem dX12_init_110 : decode cX12_init 110 = .ok (.return_, 1) := by decide +kernel
set_option maxRecDepth 20000 in
noncomputable def f_X12_init (k0 : Nat) (L : List C0) : Option (List C0) :=
  gd (L.length < 1000000) (bk (some (L ++ [((14, 12), [], [])])) (fun L3 => gd ((L3.getD k0 dC).1.1 = 11 ∧ k0 < L3.length ∧ k0 < 1000000) (bk (some (ptR L3 k0 6 (some (L.length)))) (fun L6 => gd (L6.length < 1000000) (bk (some (L6 ++ [((14, 8), [], [])])) (fun L9 => gd ((L9.getD k0 dC).1.1 = 11 ∧ k0 < L9.length ∧ k0 < 1000000) (bk (some (ptR L9 k0 8 (some (L6.length)))) (fun L12 => gd (L12.length < 1000000) (bk (some (L12 ++ [((0, 0), [], [])])) (fun L15 => bk (f_X0_init (L12.length) L15) (fun L18 => gd ((L18.getD k0 dC).1.1 = 11 ∧ k0 < L18.length ∧ k0 < 1000000) (bk (some (ptR L18 k0 0 (some (L12.length)))) (fun L21 => gd (L21.length < 1000000) (bk (some (L21 ++ [((10, 0), [], [])])) (fun L24 => bk (f_X11_init (L21.length) L24) (fun L27 => gd ((L27.getD k0 dC).1.1 = 11 ∧ k0 < L27.length ∧ k0 < 1000000) (bk (some (ptR L27 k0 1 (some (L21.length)))) (fun L30 => gd (L30.length < 1000000) (bk (some (L30 ++ [((3, 0), [], [])])) (fun L33 => gd ((L33.getD k0 dC).1.1 = 11 ∧ k0 < L33.length ∧ k0 < 1000000) (bo ((L33.getD k0 dC).2.2.getD 0 none) (fun q36 => bk (f_X4_init (L30.length) q36 L33) (fun L39 => gd ((L39.getD k0 dC).1.1 = 11 ∧ k0 < L39.length ∧ k0 < 1000000) (bk (some (ptR L39 k0 2 (some (L30.length)))) (fun L42 => gd (L42.length < 1000000) (bk (some (L42 ++ [((2, 0), [], [])])) (fun L45 => gd ((L45.getD k0 dC).1.1 = 11 ∧ k0 < L45.length ∧ k0 < 1000000) (bo ((L45.getD k0 dC).2.2.getD 2 none) (fun q48 => bk (f_X2_init (L42.length) q48 L45) (fun L51 => gd ((L51.getD k0 dC).1.1 = 11 ∧ k0 < L51.length ∧ k0 < 1000000) (bk (some (ptR L51 k0 3 (some (L42.length)))) (fun L54 => gd (L54.length < 1000000) (bk (some (L54 ++ [((7, 0), [], [])])) (fun L57 => gd ((L57.getD k0 dC).1.1 = 11 ∧ k0 < L57.length ∧ k0 < 1000000) (bo ((L57.getD k0 dC).2.2.getD 0 none) (fun q60 => gd ((L57.getD k0 dC).1.1 = 11 ∧ k0 < L57.length ∧ k0 < 1000000) (bo ((L57.getD k0 dC).2.2.getD 2 none) (fun q63 => bk (f_X8_init (L54.length) q60 q63 L57) (fun L66 => gd ((L66.getD k0 dC).1.1 = 11 ∧ k0 < L66.length ∧ k0 < 1000000) (bk (some (ptR L66 k0 4 (some (L54.length)))) (fun L69 => gd (L69.length < 1000000) (bk (some (L69 ++ [((1, 0), [], [])])) (fun L72 => gd ((L72.getD k0 dC).1.1 = 11 ∧ k0 < L72.length ∧ k0 < 1000000) (bo ((L72.getD k0 dC).2.2.getD 0 none) (fun q75 => gd ((L72.getD k0 dC).1.1 = 11 ∧ k0 < L72.length ∧ k0 < 1000000) (bo ((L72.getD k0 dC).2.2.getD 4 none) (fun q78 => bk (f_X1_init (L69.length) q75 q78 L72) (fun L81 => gd ((L81.getD k0 dC).1.1 = 11 ∧ k0 < L81.length ∧ k0 < 1000000) (bk (some (ptR L81 k0 5 (some (L69.length)))) (fun L84 => some L84))))))))))))))))))))))))))))))))))))))))))))))))))
set_option maxRecDepth 20000 in
set_option maxHeartbeats 4000000 in
theorem t_X12_init {k0 : Nat} {L M : List C0} (h : f_X12_init k0 L = some M) : JA mi_X12_init 4 (jqK M) 0 [(0, .ref k0)] [] L M := by
  unfold f_X12_init at h
  refine K_lift (fun kc ks K => J_aload_n 0 dX12_init_0 rfl K) ?_
  refine K_obj ob_X12_3 dX12_init_1 (by decide) (Nat.le_of_ble_eq_true rfl) ?_
  refine K_lift (fun kc ks K => J_aload_n 0 dX12_init_4 rfl K) ?_
  refine K_lift (fun kc ks K => J_bipush (v := 12) dX12_init_5 (by decide) K) ?_
  obtain ⟨g2, h⟩ := gd_inv h
  refine K_newa (at_ := .int) (kd := 14) (t0 := 1) (n := 12) (fun g => rfl) (fun U cA q => q) (by decide) (by decide) am_int dX12_init_7 (by decide) (by decide) (by decide) g2 ?_
  obtain ⟨L3, e4, h⟩ := bk_inv h
  have e4 := Option.some.inj e4
  rw [e4]
  obtain ⟨g5, h⟩ := gd_inv h
  refine K_putR pf_X12_9_11 (fun _ => rfl) dX12_init_9 g5 ?_
  obtain ⟨L6, e7, h⟩ := bk_inv h
  have e7 := Option.some.inj e7
  rw [e7]
  refine K_lift (fun kc ks K => J_aload_n 0 dX12_init_12 rfl K) ?_
  refine K_lift (fun kc ks K => J_bipush (v := 8) dX12_init_13 (by decide) K) ?_
  obtain ⟨g8, h⟩ := gd_inv h
  refine K_newa (at_ := .int) (kd := 14) (t0 := 1) (n := 8) (fun g => rfl) (fun U cA q => q) (by decide) (by decide) am_int dX12_init_15 (by decide) (by decide) (by decide) g8 ?_
  obtain ⟨L9, e10, h⟩ := bk_inv h
  have e10 := Option.some.inj e10
  rw [e10]
  obtain ⟨g11, h⟩ := gd_inv h
  refine K_putR pf_X12_13_11 (fun _ => rfl) dX12_init_17 g11 ?_
  obtain ⟨L12, e13, h⟩ := bk_inv h
  have e13 := Option.some.inj e13
  rw [e13]
  refine K_lift (fun kc ks K => J_aload_n 0 dX12_init_20 rfl K) ?_
  obtain ⟨g14, h⟩ := gd_inv h
  refine K_new cl_0 nw_X12_16 dX12_init_21 g14 ?_
  obtain ⟨L15, e16, h⟩ := bk_inv h
  have e16 := Option.some.inj e16
  rw [e16]
  refine K_lift (fun kc ks K => J_dup dX12_init_24 rfl K) ?_
  obtain ⟨L18, h19, h⟩ := bk_inv h
  refine K_callI (d' := 3) (r := L12.length) (As := []) (st := [.ref (L12.length), .ref k0]) ci_X12_18 dX12_init_25 rfl (Nat.le_of_ble_eq_true rfl) (Nat.le_of_ble_eq_true rfl) (by decide) rfl rfl (t_X0_init h19) ?_
  obtain ⟨g20, h⟩ := gd_inv h
  refine K_putR pf_X12_19_11 (fun _ => rfl) dX12_init_28 g20 ?_
  obtain ⟨L21, e22, h⟩ := bk_inv h
  have e22 := Option.some.inj e22
  rw [e22]
  refine K_lift (fun kc ks K => J_aload_n 0 dX12_init_31 rfl K) ?_
  obtain ⟨g23, h⟩ := gd_inv h
  refine K_new cl_10 nw_X12_23 dX12_init_32 g23 ?_
  obtain ⟨L24, e25, h⟩ := bk_inv h
  have e25 := Option.some.inj e25
  rw [e25]
  refine K_lift (fun kc ks K => J_dup dX12_init_35 rfl K) ?_
  obtain ⟨L27, h28, h⟩ := bk_inv h
  refine K_callI (d' := 1) (r := L21.length) (As := []) (st := [.ref (L21.length), .ref k0]) ci_X12_25 dX12_init_36 rfl (Nat.le_of_ble_eq_true rfl) (Nat.le_of_ble_eq_true rfl) (by decide) rfl rfl (t_X11_init h28) ?_
  obtain ⟨g29, h⟩ := gd_inv h
  refine K_putR pf_X12_26_11 (fun _ => rfl) dX12_init_39 g29 ?_
  obtain ⟨L30, e31, h⟩ := bk_inv h
  have e31 := Option.some.inj e31
  rw [e31]
  refine K_lift (fun kc ks K => J_aload_n 0 dX12_init_42 rfl K) ?_
  obtain ⟨g32, h⟩ := gd_inv h
  refine K_new cl_3 nw_X12_30 dX12_init_43 g32 ?_
  obtain ⟨L33, e34, h⟩ := bk_inv h
  have e34 := Option.some.inj e34
  rw [e34]
  refine K_lift (fun kc ks K => J_dup dX12_init_46 rfl K) ?_
  refine K_lift (fun kc ks K => J_aload_n 0 dX12_init_47 rfl K) ?_
  obtain ⟨g35, h⟩ := gd_inv h
  obtain ⟨q36, h37, h⟩ := bo_inv h
  refine K_lift (fun kc ks K => J_getR (S := bs L33) h37 gf_X12_19_11 dX12_init_48 (by rw [bs_sh g35.2.2]; exact g35.1) g35.2.1 K) ?_
  obtain ⟨L39, h40, h⟩ := bk_inv h
  refine K_callI (d' := 1) (r := L30.length) (As := [.ref q36]) (st := [.ref (L30.length), .ref k0]) ci_X12_32 dX12_init_51 rfl (Nat.le_of_ble_eq_true rfl) (Nat.le_of_ble_eq_true rfl) (by decide) rfl rfl (t_X4_init h40) ?_
  obtain ⟨g41, h⟩ := gd_inv h
  refine K_putR pf_X12_35_11 (fun _ => rfl) dX12_init_54 g41 ?_
  obtain ⟨L42, e43, h⟩ := bk_inv h
  have e43 := Option.some.inj e43
  rw [e43]
  refine K_lift (fun kc ks K => J_aload_n 0 dX12_init_57 rfl K) ?_
  obtain ⟨g44, h⟩ := gd_inv h
  refine K_new cl_2 nw_X12_39 dX12_init_58 g44 ?_
  obtain ⟨L45, e46, h⟩ := bk_inv h
  have e46 := Option.some.inj e46
  rw [e46]
  refine K_lift (fun kc ks K => J_dup dX12_init_61 rfl K) ?_
  refine K_lift (fun kc ks K => J_aload_n 0 dX12_init_62 rfl K) ?_
  obtain ⟨g47, h⟩ := gd_inv h
  obtain ⟨q48, h49, h⟩ := bo_inv h
  refine K_lift (fun kc ks K => J_getR (S := bs L45) h49 gf_X12_35_11 dX12_init_63 (by rw [bs_sh g47.2.2]; exact g47.1) g47.2.1 K) ?_
  obtain ⟨L51, h52, h⟩ := bk_inv h
  refine K_callI (d' := 1) (r := L42.length) (As := [.ref q48]) (st := [.ref (L42.length), .ref k0]) ci_X12_41 dX12_init_66 rfl (Nat.le_of_ble_eq_true rfl) (Nat.le_of_ble_eq_true rfl) (by decide) rfl rfl (t_X2_init h52) ?_
  obtain ⟨g53, h⟩ := gd_inv h
  refine K_putR pf_X12_44_11 (fun _ => rfl) dX12_init_69 g53 ?_
  obtain ⟨L54, e55, h⟩ := bk_inv h
  have e55 := Option.some.inj e55
  rw [e55]
  refine K_lift (fun kc ks K => J_aload_n 0 dX12_init_72 rfl K) ?_
  obtain ⟨g56, h⟩ := gd_inv h
  refine K_new cl_7 nw_X12_48 dX12_init_73 g56 ?_
  obtain ⟨L57, e58, h⟩ := bk_inv h
  have e58 := Option.some.inj e58
  rw [e58]
  refine K_lift (fun kc ks K => J_dup dX12_init_76 rfl K) ?_
  refine K_lift (fun kc ks K => J_aload_n 0 dX12_init_77 rfl K) ?_
  obtain ⟨g59, h⟩ := gd_inv h
  obtain ⟨q60, h61, h⟩ := bo_inv h
  refine K_lift (fun kc ks K => J_getR (S := bs L57) h61 gf_X12_19_11 dX12_init_78 (by rw [bs_sh g59.2.2]; exact g59.1) g59.2.1 K) ?_
  refine K_lift (fun kc ks K => J_aload_n 0 dX12_init_81 rfl K) ?_
  obtain ⟨g62, h⟩ := gd_inv h
  obtain ⟨q63, h64, h⟩ := bo_inv h
  refine K_lift (fun kc ks K => J_getR (S := bs L57) h64 gf_X12_35_11 dX12_init_82 (by rw [bs_sh g62.2.2]; exact g62.1) g62.2.1 K) ?_
  obtain ⟨L66, h67, h⟩ := bk_inv h
  refine K_callI (d' := 1) (r := L54.length) (As := [.ref q60, .ref q63]) (st := [.ref (L54.length), .ref k0]) ci_X12_50 dX12_init_85 rfl (Nat.le_of_ble_eq_true rfl) (Nat.le_of_ble_eq_true rfl) (by decide) rfl rfl (t_X8_init h67) ?_
  obtain ⟨g68, h⟩ := gd_inv h
  refine K_putR pf_X12_53_11 (fun _ => rfl) dX12_init_88 g68 ?_
  obtain ⟨L69, e70, h⟩ := bk_inv h
  have e70 := Option.some.inj e70
  rw [e70]
  refine K_lift (fun kc ks K => J_aload_n 0 dX12_init_91 rfl K) ?_
  obtain ⟨g71, h⟩ := gd_inv h
  refine K_new cl_1 nw_X12_57 dX12_init_92 g71 ?_
  obtain ⟨L72, e73, h⟩ := bk_inv h
  have e73 := Option.some.inj e73
  rw [e73]
  refine K_lift (fun kc ks K => J_dup dX12_init_95 rfl K) ?_
  refine K_lift (fun kc ks K => J_aload_n 0 dX12_init_96 rfl K) ?_
  obtain ⟨g74, h⟩ := gd_inv h
  obtain ⟨q75, h76, h⟩ := bo_inv h
  refine K_lift (fun kc ks K => J_getR (S := bs L72) h76 gf_X12_19_11 dX12_init_97 (by rw [bs_sh g74.2.2]; exact g74.1) g74.2.1 K) ?_
  refine K_lift (fun kc ks K => J_aload_n 0 dX12_init_100 rfl K) ?_
  obtain ⟨g77, h⟩ := gd_inv h
  obtain ⟨q78, h79, h⟩ := bo_inv h
  refine K_lift (fun kc ks K => J_getR (S := bs L72) h79 gf_X12_53_11 dX12_init_101 (by rw [bs_sh g77.2.2]; exact g77.1) g77.2.1 K) ?_
  obtain ⟨L81, h82, h⟩ := bk_inv h
  refine K_callI (d' := 1) (r := L69.length) (As := [.ref q75, .ref q78]) (st := [.ref (L69.length), .ref k0]) ci_X12_59 dX12_init_104 rfl (Nat.le_of_ble_eq_true rfl) (Nat.le_of_ble_eq_true rfl) (by decide) rfl rfl (t_X1_init h82) ?_
  obtain ⟨g83, h⟩ := gd_inv h
  refine K_putR pf_X12_62_11 (fun _ => rfl) dX12_init_107 g83 ?_
  obtain ⟨L84, e85, h⟩ := bk_inv h
  have e85 := Option.some.inj e85
  rw [e85]
  exact K_ret dX12_init_110 rfl h
theorem dX13_init_0 : decode cX13_init 0 = .ok (.aload_n 0, 1) := by decide +kernel
theorem dX13_init_1 : decode cX13_init 1 = .ok (.invokespecial 7, 3) := by decide +kernel
theorem dX13_init_4 : decode cX13_init 4 = .ok (.aload_n 0, 1) := by decide +kernel
theorem dX13_init_5 : decode cX13_init 5 = .ok (.bipush 24, 2) := by decide +kernel
theorem dX13_init_7 : decode cX13_init 7 = .ok (.newarray .int, 2) := by decide +kernel
theorem dX13_init_9 : decode cX13_init 9 = .ok (.putfield 13, 3) := by decide +kernel
theorem dX13_init_12 : decode cX13_init 12 = .ok (.aload_n 0, 1) := by decide +kernel
theorem dX13_init_13 : decode cX13_init 13 = .ok (.bipush 24, 2) := by decide +kernel
theorem dX13_init_15 : decode cX13_init 15 = .ok (.newarray .int, 2) := by decide +kernel
theorem dX13_init_17 : decode cX13_init 17 = .ok (.putfield 17, 3) := by decide +kernel
theorem dX13_init_20 : decode cX13_init 20 = .ok (.aload_n 0, 1) := by decide +kernel
theorem dX13_init_21 : decode cX13_init 21 = .ok (.bipush 25, 2) := by decide +kernel
theorem dX13_init_23 : decode cX13_init 23 = .ok (.newarray .int, 2) := by decide +kernel
theorem dX13_init_25 : decode cX13_init 25 = .ok (.putfield 20, 3) := by decide +kernel
theorem dX13_init_28 : decode cX13_init 28 = .ok (.aload_n 0, 1) := by decide +kernel
theorem dX13_init_29 : decode cX13_init 29 = .ok (.sipush 200, 3) := by decide +kernel
theorem dX13_init_32 : decode cX13_init 32 = .ok (.newarray .int, 2) := by decide +kernel
theorem dX13_init_34 : decode cX13_init 34 = .ok (.putfield 23, 3) := by decide +kernel
theorem dX13_init_37 : decode cX13_init 37 = .ok (.aload_n 0, 1) := by decide +kernel
theorem dX13_init_38 : decode cX13_init 38 = .ok (.sipush 1200, 3) := by decide +kernel
theorem dX13_init_41 : decode cX13_init 41 = .ok (.newarray .int, 2) := by decide +kernel
theorem dX13_init_43 : decode cX13_init 43 = .ok (.putfield 26, 3) := by decide +kernel
theorem dX13_init_46 : decode cX13_init 46 = .ok (.aload_n 0, 1) := by decide +kernel
theorem dX13_init_47 : decode cX13_init 47 = .ok (.bipush 10, 2) := by decide +kernel
theorem dX13_init_49 : decode cX13_init 49 = .ok (.newarray .int, 2) := by decide +kernel
theorem dX13_init_51 : decode cX13_init 51 = .ok (.putfield 29, 3) := by decide +kernel
theorem dX13_init_54 : decode cX13_init 54 = .ok (.aload_n 0, 1) := by decide +kernel
theorem dX13_init_55 : decode cX13_init 55 = .ok (.bipush 11, 2) := by decide +kernel
theorem dX13_init_57 : decode cX13_init 57 = .ok (.newarray .int, 2) := by decide +kernel
theorem dX13_init_59 : decode cX13_init 59 = .ok (.putfield 32, 3) := by decide +kernel
theorem dX13_init_62 : decode cX13_init 62 = .ok (.aload_n 0, 1) := by decide +kernel
theorem dX13_init_63 : decode cX13_init 63 = .ok (.sipush 132, 3) := by decide +kernel
theorem dX13_init_66 : decode cX13_init 66 = .ok (.newarray .int, 2) := by decide +kernel
theorem dX13_init_68 : decode cX13_init 68 = .ok (.putfield 35, 3) := by decide +kernel
theorem dX13_init_71 : decode cX13_init 71 = .ok (.aload_n 0, 1) := by decide +kernel
theorem dX13_init_72 : decode cX13_init 72 = .ok (.sipush 132, 3) := by decide +kernel
theorem dX13_init_75 : decode cX13_init 75 = .ok (.newarray .int, 2) := by decide +kernel
theorem dX13_init_77 : decode cX13_init 77 = .ok (.putfield 38, 3) := by decide +kernel
theorem dX13_init_80 : decode cX13_init 80 = .ok (.aload_n 0, 1) := by decide +kernel
theorem dX13_init_81 : decode cX13_init 81 = .ok (.sipush 132, 3) := by decide +kernel
theorem dX13_init_84 : decode cX13_init 84 = .ok (.newarray .int, 2) := by decide +kernel
theorem dX13_init_86 : decode cX13_init 86 = .ok (.putfield 41, 3) := by decide +kernel
theorem dX13_init_89 : decode cX13_init 89 = .ok (.aload_n 0, 1) := by decide +kernel
theorem dX13_init_90 : decode cX13_init 90 = .ok (.sipush 132, 3) := by decide +kernel
theorem dX13_init_93 : decode cX13_init 93 = .ok (.newarray .int, 2) := by decide +kernel
theorem dX13_init_95 : decode cX13_init 95 = .ok (.putfield 44, 3) := by decide +kernel
theorem dX13_init_98 : decode cX13_init 98 = .ok (.aload_n 0, 1) := by decide +kernel
theorem dX13_init_99 : decode cX13_init 99 = .ok (.sipush 300, 3) := by decide +kernel
theorem dX13_init_102 : decode cX13_init 102 = .ok (.newarray .byte, 2) := by decide +kernel
theorem dX13_init_104 : decode cX13_init 104 = .ok (.putfield 47, 3) := by decide +kernel
theorem dX13_init_107 : decode cX13_init 107 = .ok (.aload_n 0, 1) := by decide +kernel
theorem dX13_init_108 : decode cX13_init 108 = .ok (.iconst (-1), 1) := by decide +kernel
theorem dX13_init_109 : decode cX13_init 109 = .ok (.putfield 51, 3) := by decide +kernel
theorem dX13_init_112 : decode cX13_init 112 = .ok (.aload_n 0, 1) := by decide +kernel
theorem dX13_init_113 : decode cX13_init 113 = .ok (.iconst 4, 1) := by decide +kernel
theorem dX13_init_114 : decode cX13_init 114 = .ok (.newarray .int, 2) := by decide +kernel
theorem dX13_init_116 : decode cX13_init 116 = .ok (.putfield 54, 3) := by decide +kernel
theorem dX13_init_119 : decode cX13_init 119 = .ok (.aload_n 0, 1) := by decide +kernel
theorem dX13_init_120 : decode cX13_init 120 = .ok (.sipush 200, 3) := by decide +kernel
theorem dX13_init_123 : decode cX13_init 123 = .ok (.newarray .int, 2) := by decide +kernel
theorem dX13_init_125 : decode cX13_init 125 = .ok (.putfield 57, 3) := by decide +kernel
theorem dX13_init_128 : decode cX13_init 128 = .ok (.aload_n 0, 1) := by decide +kernel
theorem dX13_init_129 : decode cX13_init 129 = .ok (.sipush 200, 3) := by decide +kernel
theorem dX13_init_132 : decode cX13_init 132 = .ok (.newarray .int, 2) := by decide +kernel
theorem dX13_init_134 : decode cX13_init 134 = .ok (.putfield 60, 3) := by decide +kernel
theorem dX13_init_137 : decode cX13_init 137 = .ok (.aload_n 0, 1) := by decide +kernel
theorem dX13_init_138 : decode cX13_init 138 = .ok (.sipush 200, 3) := by decide +kernel
theorem dX13_init_141 : decode cX13_init 141 = .ok (.newarray .int, 2) := by decide +kernel
theorem dX13_init_143 : decode cX13_init 143 = .ok (.putfield 63, 3) := by decide +kernel
theorem dX13_init_146 : decode cX13_init 146 = .ok (.aload_n 0, 1) := by decide +kernel
theorem dX13_init_147 : decode cX13_init 147 = .ok (.sipush 200, 3) := by decide +kernel
theorem dX13_init_150 : decode cX13_init 150 = .ok (.newarray .int, 2) := by decide +kernel
theorem dX13_init_152 : decode cX13_init 152 = .ok (.putfield 66, 3) := by decide +kernel
theorem dX13_init_155 : decode cX13_init 155 = .ok (.aload_n 0, 1) := by decide +kernel
theorem dX13_init_156 : decode cX13_init 156 = .ok (.sipush 200, 3) := by decide +kernel
theorem dX13_init_159 : decode cX13_init 159 = .ok (.newarray .int, 2) := by decide +kernel
theorem dX13_init_161 : decode cX13_init 161 = .ok (.putfield 69, 3) := by decide +kernel
theorem dX13_init_164 : decode cX13_init 164 = .ok (.aload_n 0, 1) := by decide +kernel
theorem dX13_init_165 : decode cX13_init 165 = .ok (.bipush 40, 2) := by decide +kernel
theorem dX13_init_167 : decode cX13_init 167 = .ok (.newarray .int, 2) := by decide +kernel
theorem dX13_init_169 : decode cX13_init 169 = .ok (.putfield 72, 3) := by decide +kernel
theorem dX13_init_172 : decode cX13_init 172 = .ok (.aload_n 0, 1) := by decide +kernel
theorem dX13_init_173 : decode cX13_init 173 = .ok (.bipush 60, 2) := by decide +kernel
theorem dX13_init_175 : decode cX13_init 175 = .ok (.newarray .int, 2) := by decide +kernel
theorem dX13_init_177 : decode cX13_init 177 = .ok (.putfield 75, 3) := by decide +kernel
theorem dX13_init_180 : decode cX13_init 180 = .ok (.aload_n 0, 1) := by decide +kernel
theorem dX13_init_181 : decode cX13_init 181 = .ok (.bipush 60, 2) := by decide +kernel
theorem dX13_init_183 : decode cX13_init 183 = .ok (.newarray .int, 2) := by decide +kernel
theorem dX13_init_185 : decode cX13_init 185 = .ok (.putfield 78, 3) := by decide +kernel
theorem dX13_init_188 : decode cX13_init 188 = .ok (.aload_n 0, 1) := by decide +kernel
theorem dX13_init_189 : decode cX13_init 189 = .ok (.bipush 60, 2) := by decide +kernel
theorem dX13_init_191 : decode cX13_init 191 = .ok (.newarray .int, 2) := by decide +kernel
theorem dX13_init_193 : decode cX13_init 193 = .ok (.putfield 81, 3) := by decide +kernel
theorem dX13_init_196 : decode cX13_init 196 = .ok (.aload_n 0, 1) := by decide +kernel
theorem dX13_init_197 : decode cX13_init 197 = .ok (.bipush 60, 2) := by decide +kernel
theorem dX13_init_199 : decode cX13_init 199 = .ok (.newarray .boolean, 2) := by decide +kernel
theorem dX13_init_201 : decode cX13_init 201 = .ok (.putfield 84, 3) := by decide +kernel
theorem dX13_init_204 : decode cX13_init 204 = .ok (.aload_n 0, 1) := by decide +kernel
theorem dX13_init_205 : decode cX13_init 205 = .ok (.bipush 60, 2) := by decide +kernel
theorem dX13_init_207 : decode cX13_init 207 = .ok (.newarray .int, 2) := by decide +kernel
theorem dX13_init_209 : decode cX13_init 209 = .ok (.putfield 88, 3) := by decide +kernel
theorem dX13_init_212 : decode cX13_init 212 = .ok (.aload_n 0, 1) := by decide +kernel
theorem dX13_init_213 : decode cX13_init 213 = .ok (.bipush 60, 2) := by decide +kernel
theorem dX13_init_215 : decode cX13_init 215 = .ok (.newarray .int, 2) := by decide +kernel
theorem dX13_init_217 : decode cX13_init 217 = .ok (.putfield 91, 3) := by decide +kernel
theorem dX13_init_220 : decode cX13_init 220 = .ok (.aload_n 0, 1) := by decide +kernel
theorem dX13_init_221 : decode cX13_init 221 = .ok (.sipush 192, 3) := by decide +kernel
theorem dX13_init_224 : decode cX13_init 224 = .ok (.newarray .int, 2) := by decide +kernel
theorem dX13_init_226 : decode cX13_init 226 = .ok (.putfield 94, 3) := by decide +kernel
theorem dX13_init_229 : decode cX13_init 229 = .ok (.aload_n 0, 1) := by decide +kernel
theorem dX13_init_230 : decode cX13_init 230 = .ok (.sipush 1152, 3) := by decide +kernel
theorem dX13_init_233 : decode cX13_init 233 = .ok (.newarray .int, 2) := by decide +kernel
theorem dX13_init_235 : decode cX13_init 235 = .ok (.putfield 97, 3) := by decide +kernel
theorem dX13_init_238 : decode cX13_init 238 = .ok (.aload_n 0, 1) := by decide +kernel
theorem dX13_init_239 : decode cX13_init 239 = .ok (.sipush 3200, 3) := by decide +kernel
theorem dX13_init_242 : decode cX13_init 242 = .ok (.newarray .boolean, 2) := by decide +kernel
theorem dX13_init_244 : decode cX13_init 244 = .ok (.putfield 100, 3) := by decide +kernel
theorem dX13_init_247 : decode cX13_init 247 = .ok (.aload_n 0, 1) := by decide +kernel
theorem dX13_init_248 : decode cX13_init 248 = .ok (.sipush 3200, 3) := by decide +kernel
theorem dX13_init_251 : decode cX13_init 251 = .ok (.newarray .boolean, 2) := by decide +kernel
theorem dX13_init_253 : decode cX13_init 253 = .ok (.putfield 103, 3) := by decide +kernel
theorem dX13_init_256 : decode cX13_init 256 = .ok (.aload_n 0, 1) := by decide +kernel
theorem dX13_init_257 : decode cX13_init 257 = .ok (.bipush 80, 2) := by decide +kernel
theorem dX13_init_259 : decode cX13_init 259 = .ok (.newarray .int, 2) := by decide +kernel
theorem dX13_init_261 : decode cX13_init 261 = .ok (.putfield 106, 3) := by decide +kernel
theorem dX13_init_264 : decode cX13_init 264 = .ok (.aload_n 0, 1) := by decide +kernel
theorem dX13_init_265 : decode cX13_init 265 = .ok (.sipush 1600, 3) := by decide +kernel
theorem dX13_init_268 : decode cX13_init 268 = .ok (.newarray .int, 2) := by decide +kernel
theorem dX13_init_270 : decode cX13_init 270 = .ok (.putfield 109, 3) := by decide +kernel
theorem dX13_init_273 : decode cX13_init 273 = .ok (.aload_n 0, 1) := by decide +kernel
theorem dX13_init_274 : decode cX13_init 274 = .ok (.bipush 40, 2) := by decide +kernel
theorem dX13_init_276 : decode cX13_init 276 = .ok (.newarray .int, 2) := by decide +kernel
theorem dX13_init_278 : decode cX13_init 278 = .ok (.putfield 112, 3) := by decide +kernel
theorem dX13_init_281 : decode cX13_init 281 = .ok (.aload_n 0, 1) := by decide +kernel
theorem dX13_init_282 : decode cX13_init 282 = .ok (.sipush 3200, 3) := by decide +kernel
theorem dX13_init_285 : decode cX13_init 285 = .ok (.newarray .int, 2) := by decide +kernel
theorem dX13_init_287 : decode cX13_init 287 = .ok (.putfield 115, 3) := by decide +kernel
theorem dX13_init_290 : decode cX13_init 290 = .ok (.aload_n 0, 1) := by decide +kernel
theorem dX13_init_291 : decode cX13_init 291 = .ok (.sipush 240, 3) := by decide +kernel
theorem dX13_init_294 : decode cX13_init 294 = .ok (.newarray .int, 2) := by decide +kernel
theorem dX13_init_296 : decode cX13_init 296 = .ok (.putfield 118, 3) := by decide +kernel
theorem dX13_init_299 : decode cX13_init 299 = .ok (.aload_n 0, 1) := by decide +kernel
theorem dX13_init_300 : decode cX13_init 300 = .ok (.bipush 7, 2) := by decide +kernel
theorem dX13_init_302 : decode cX13_init 302 = .ok (.newarray .int, 2) := by decide +kernel
theorem dX13_init_304 : decode cX13_init 304 = .ok (.putfield 121, 3) := by decide +kernel
theorem dX13_init_307 : decode cX13_init 307 = .ok (.aload_n 0, 1) := by decide +kernel
theorem dX13_init_308 : decode cX13_init 308 = .ok (.bipush 56, 2) := by decide +kernel
theorem dX13_init_310 : decode cX13_init 310 = .ok (.newarray .int, 2) := by decide +kernel
theorem dX13_init_312 : decode cX13_init 312 = .ok (.putfield 124, 3) := by decide +kernel
theorem dX13_init_315 : decode cX13_init 315 = .ok (.aload_n 0, 1) := by decide +kernel
theorem dX13_init_316 : decode cX13_init 316 = .ok (.bipush 7, 2) := by decide +kernel
theorem dX13_init_318 : decode cX13_init 318 = .ok (.newarray .int, 2) := by decide +kernel
theorem dX13_init_320 : decode cX13_init 320 = .ok (.putfield 127, 3) := by decide +kernel
theorem dX13_init_323 : decode cX13_init 323 = .ok (.aload_n 0, 1) := by decide +kernel
theorem dX13_init_324 : decode cX13_init 324 = .ok (.bipush 6, 2) := by decide +kernel
theorem dX13_init_326 : decode cX13_init 326 = .ok (.newarray .int, 2) := by decide +kernel
theorem dX13_init_328 : decode cX13_init 328 = .ok (.putfield 130, 3) := by decide +kernel
theorem dX13_init_331 : decode cX13_init 331 = .ok (.aload_n 0, 1) := by decide +kernel
theorem dX13_init_332 : decode cX13_init 332 = .ok (.bipush 6, 2) := by decide +kernel
theorem dX13_init_334 : decode cX13_init 334 = .ok (.newarray .int, 2) := by decide +kernel
theorem dX13_init_336 : decode cX13_init 336 = .ok (.putfield 133, 3) := by decide +kernel
theorem dX13_init_339 : decode cX13_init 339 = .ok (.aload_n 0, 1) := by decide +kernel
theorem dX13_init_340 : decode cX13_init 340 = .ok (.bipush 56, 2) := by decide +kernel
theorem dX13_init_342 : decode cX13_init 342 = .ok (.newarray .int, 2) := by decide +kernel
theorem dX13_init_344 : decode cX13_init 344 = .ok (.putfield 136, 3) := by decide +kernel
theorem dX13_init_347 : decode cX13_init 347 = .ok (.aload_n 0, 1) := by decide +kernel
theorem dX13_init_348 : decode cX13_init 348 = .ok (.bipush 7, 2) := by decide +kernel
theorem dX13_init_350 : decode cX13_init 350 = .ok (.newarray .int, 2) := by decide +kernel
theorem dX13_init_352 : decode cX13_init 352 = .ok (.putfield 139, 3) := by decide +kernel
theorem dX13_init_355 : decode cX13_init 355 = .ok (.aload_n 0, 1) := by decide +kernel
theorem dX13_init_356 : decode cX13_init 356 = .ok (.bipush 8, 2) := by decide +kernel
theorem dX13_init_358 : decode cX13_init 358 = .ok (.newarray .int, 2) := by decide +kernel
theorem dX13_init_360 : decode cX13_init 360 = .ok (.putfield 142, 3) := by decide +kernel
theorem dX13_init_363 : decode cX13_init 363 = .ok (.aload_n 0, 1) := by decide +kernel
theorem dX13_init_364 : decode cX13_init 364 = .ok (.bipush 7, 2) := by decide +kernel
theorem dX13_init_366 : decode cX13_init 366 = .ok (.newarray .int, 2) := by decide +kernel
theorem dX13_init_368 : decode cX13_init 368 = .ok (.putfield 145, 3) := by decide +kernel
theorem dX13_init_371 : decode cX13_init 371 = .ok (.aload_n 0, 1) := by decide +kernel
theorem dX13_init_372 : decode cX13_init 372 = .ok (.bipush 7, 2) := by decide +kernel
theorem dX13_init_374 : decode cX13_init 374 = .ok (.newarray .int, 2) := by decide +kernel
theorem dX13_init_376 : decode cX13_init 376 = .ok (.putfield 148, 3) := by decide +kernel
theorem dX13_init_379 : decode cX13_init 379 = .ok (.aload_n 0, 1) := by decide +kernel
theorem dX13_init_380 : decode cX13_init 380 = .ok (.sipush 320, 3) := by decide +kernel
theorem dX13_init_383 : decode cX13_init 383 = .ok (.newarray .int, 2) := by decide +kernel
theorem dX13_init_385 : decode cX13_init 385 = .ok (.putfield 151, 3) := by decide +kernel
theorem dX13_init_388 : decode cX13_init 388 = .ok (.aload_n 0, 1) := by decide +kernel
theorem dX13_init_389 : decode cX13_init 389 = .ok (.bipush 7, 2) := by decide +kernel
theorem dX13_init_391 : decode cX13_init 391 = .ok (.newarray .int, 2) := by decide +kernel
theorem dX13_init_393 : decode cX13_init 393 = .ok (.putfield 154, 3) := by decide +kernel
theorem dX13_init_396 : decode cX13_init 396 = .ok (.aload_n 0, 1) := by decide +kernel
theorem dX13_init_397 : decode cX13_init 397 = .ok (.bipush 40, 2) := by decide +kernel
theorem dX13_init_399 : decode cX13_init 399 = .ok (.newarray .int, 2) := by decide +kernel
theorem dX13_init_401 : decode cX13_init 401 = .ok (.putfield 157, 3) := by decide +kernel
theorem dX13_init_404 : decode cX13_init 404 = .ok (.aload_n 0, 1) := by decide +kernel
theorem dX13_init_405 : decode cX13_init 405 = .ok (.sipush 5440, 3) := by decide +kernel
theorem dX13_init_408 : decode cX13_init 408 = .ok (.newarray .int, 2) := by decide +kernel
theorem dX13_init_410 : decode cX13_init 410 = .ok (.putfield 160, 3) := by decide +kernel
theorem dX13_init_413 : decode cX13_init 413 = .ok (.aload_n 0, 1) := by decide +kernel
theorem dX13_init_414 : decode cX13_init 414 = .ok (.sipush 192, 3) := by decide +kernel
theorem dX13_init_417 : decode cX13_init 417 = .ok (.newarray .boolean, 2) := by decide +kernel
theorem dX13_init_419 : decode cX13_init 419 = .ok (.putfield 163, 3) := by decide +kernel
theorem dX13_init_422 : decode cX13_init 422 = .ok (.aload_n 0, 1) := by decide +kernel
theorem dX13_init_423 : decode cX13_init 423 = .ok (.bipush 12, 2) := by decide +kernel
theorem dX13_init_425 : decode cX13_init 425 = .ok (.newarray .int, 2) := by decide +kernel
theorem dX13_init_427 : decode cX13_init 427 = .ok (.putfield 166, 3) := by decide +kernel
theorem dX13_init_430 : decode cX13_init 430 = .ok (.iconst 0, 1) := by decide +kernel
theorem dX13_init_431 : decode cX13_init 431 = .ok (.istore_n 1, 1) := by decide +kernel
theorem dX13_init_432 : decode cX13_init 432 = .ok (.iload_n 1, 1) := by decide +kernel
theorem dX13_init_433 : decode cX13_init 433 = .ok (.iconst 4, 1) := by decide +kernel
theorem dX13_init_434 : decode cX13_init 434 = .ok (.if_icmp .ge 17, 3) := by decide +kernel
theorem dX13_init_437 : decode cX13_init 437 = .ok (.aload_n 0, 1) := by decide +kernel
theorem dX13_init_438 : decode cX13_init 438 = .ok (.getfield 54, 3) := by decide +kernel
theorem dX13_init_441 : decode cX13_init 441 = .ok (.iload_n 1, 1) := by decide +kernel
theorem dX13_init_442 : decode cX13_init 442 = .ok (.bipush 10, 2) := by decide +kernel
theorem dX13_init_444 : decode cX13_init 444 = .ok (.iastore, 1) := by decide +kernel
theorem dX13_init_445 : decode cX13_init 445 = .ok (.iinc 1 1, 3) := by decide +kernel
theorem dX13_init_448 : decode cX13_init 448 = .ok (.goto (-16), 3) := by decide +kernel
theorem dX13_init_451 : decode cX13_init 451 = .ok (.return_, 1) := by decide +kernel
set_option maxRecDepth 20000 in
noncomputable def s_X13_init_432 (rec : Nat → Int32 → List C0 → Option (List C0)) (l0 : Nat) (l1 : Int32) (L : List C0) : Option (List C0) :=
  (if 4 ≤ l1 then some L else gd ((L.getD l0 dC).1.1 = 12 ∧ l0 < L.length ∧ l0 < 1000000) (bo ((L.getD l0 dC).2.2.getD 24 none) (fun q3 => gd ((L.getD q3 dC).1 = (14, 4) ∧ q3 < L.length ∧ q3 < 1000000 ∧ inb l1 4) (bk (some (ptI L q3 (Int32.toNatClampNeg l1) 10)) (fun L6 => rec l0 (l1 + 1) L6)))))
set_option maxRecDepth 20000 in
noncomputable def f_X13_init_432 (n : Nat) : Nat → Int32 → List C0 → Option (List C0) := Nat.rec (motive := fun _ => Nat → Int32 → List C0 → Option (List C0)) (fun _ _ _ => none) (fun _ q => s_X13_init_432 q) n
set_option maxRecDepth 20000 in
noncomputable def f_X13_init (k0 : Nat) (L : List C0) : Option (List C0) :=
  gd (L.length < 1000000) (bk (some (L ++ [((14, 24), [], [])])) (fun L10 => gd ((L10.getD k0 dC).1.1 = 12 ∧ k0 < L10.length ∧ k0 < 1000000) (bk (some (ptR L10 k0 3 (some (L.length)))) (fun L13 => gd (L13.length < 1000000) (bk (some (L13 ++ [((14, 24), [], [])])) (fun L16 => gd ((L16.getD k0 dC).1.1 = 12 ∧ k0 < L16.length ∧ k0 < 1000000) (bk (some (ptR L16 k0 4 (some (L13.length)))) (fun L19 => gd (L19.length < 1000000) (bk (some (L19 ++ [((14, 25), [], [])])) (fun L22 => gd ((L22.getD k0 dC).1.1 = 12 ∧ k0 < L22.length ∧ k0 < 1000000) (bk (some (ptR L22 k0 5 (some (L19.length)))) (fun L25 => gd (L25.length < 1000000) (bk (some (L25 ++ [((14, 200), [], [])])) (fun L28 => gd ((L28.getD k0 dC).1.1 = 12 ∧ k0 < L28.length ∧ k0 < 1000000) (bk (some (ptR L28 k0 6 (some (L25.length)))) (fun L31 => gd (L31.length < 1000000) (bk (some (L31 ++ [((14, 1200), [], [])])) (fun L34 => gd ((L34.getD k0 dC).1.1 = 12 ∧ k0 < L34.length ∧ k0 < 1000000) (bk (some (ptR L34 k0 7 (some (L31.length)))) (fun L37 => gd (L37.length < 1000000) (bk (some (L37 ++ [((14, 10), [], [])])) (fun L40 => gd ((L40.getD k0 dC).1.1 = 12 ∧ k0 < L40.length ∧ k0 < 1000000) (bk (some (ptR L40 k0 9 (some (L37.length)))) (fun L43 => gd (L43.length < 1000000) (bk (some (L43 ++ [((14, 11), [], [])])) (fun L46 => gd ((L46.getD k0 dC).1.1 = 12 ∧ k0 < L46.length ∧ k0 < 1000000) (bk (some (ptR L46 k0 10 (some (L43.length)))) (fun L49 => gd (L49.length < 1000000) (bk (some (L49 ++ [((14, 132), [], [])])) (fun L52 => gd ((L52.getD k0 dC).1.1 = 12 ∧ k0 < L52.length ∧ k0 < 1000000) (bk (some (ptR L52 k0 11 (some (L49.length)))) (fun L55 => gd (L55.length < 1000000) (bk (some (L55 ++ [((14, 132), [], [])])) (fun L58 => gd ((L58.getD k0 dC).1.1 = 12 ∧ k0 < L58.length ∧ k0 < 1000000) (bk (some (ptR L58 k0 12 (some (L55.length)))) (fun L61 => gd (L61.length < 1000000) (bk (some (L61 ++ [((14, 132), [], [])])) (fun L64 => gd ((L64.getD k0 dC).1.1 = 12 ∧ k0 < L64.length ∧ k0 < 1000000) (bk (some (ptR L64 k0 13 (some (L61.length)))) (fun L67 => gd (L67.length < 1000000) (bk (some (L67 ++ [((14, 132), [], [])])) (fun L70 => gd ((L70.getD k0 dC).1.1 = 12 ∧ k0 < L70.length ∧ k0 < 1000000) (bk (some (ptR L70 k0 14 (some (L67.length)))) (fun L73 => gd (L73.length < 1000000) (bk (some (L73 ++ [((13, 300), [], [])])) (fun L76 => gd ((L76.getD k0 dC).1.1 = 12 ∧ k0 < L76.length ∧ k0 < 1000000) (bk (some (ptR L76 k0 15 (some (L73.length)))) (fun L79 => gd ((L79.getD k0 dC).1.1 = 12 ∧ k0 < L79.length ∧ k0 < 1000000) (bk (some (ptI L79 k0 23 (-1))) (fun L82 => gd (L82.length < 1000000) (bk (some (L82 ++ [((14, 4), [], [])])) (fun L85 => gd ((L85.getD k0 dC).1.1 = 12 ∧ k0 < L85.length ∧ k0 < 1000000) (bk (some (ptR L85 k0 24 (some (L82.length)))) (fun L88 => gd (L88.length < 1000000) (bk (some (L88 ++ [((14, 200), [], [])])) (fun L91 => gd ((L91.getD k0 dC).1.1 = 12 ∧ k0 < L91.length ∧ k0 < 1000000) (bk (some (ptR L91 k0 26 (some (L88.length)))) (fun L94 => gd (L94.length < 1000000) (bk (some (L94 ++ [((14, 200), [], [])])) (fun L97 => gd ((L97.getD k0 dC).1.1 = 12 ∧ k0 < L97.length ∧ k0 < 1000000) (bk (some (ptR L97 k0 27 (some (L94.length)))) (fun L100 => gd (L100.length < 1000000) (bk (some (L100 ++ [((14, 200), [], [])])) (fun L103 => gd ((L103.getD k0 dC).1.1 = 12 ∧ k0 < L103.length ∧ k0 < 1000000) (bk (some (ptR L103 k0 28 (some (L100.length)))) (fun L106 => gd (L106.length < 1000000) (bk (some (L106 ++ [((14, 200), [], [])])) (fun L109 => gd ((L109.getD k0 dC).1.1 = 12 ∧ k0 < L109.length ∧ k0 < 1000000) (bk (some (ptR L109 k0 29 (some (L106.length)))) (fun L112 => gd (L112.length < 1000000) (bk (some (L112 ++ [((14, 200), [], [])])) (fun L115 => gd ((L115.getD k0 dC).1.1 = 12 ∧ k0 < L115.length ∧ k0 < 1000000) (bk (some (ptR L115 k0 30 (some (L112.length)))) (fun L118 => gd (L118.length < 1000000) (bk (some (L118 ++ [((14, 40), [], [])])) (fun L121 => gd ((L121.getD k0 dC).1.1 = 12 ∧ k0 < L121.length ∧ k0 < 1000000) (bk (some (ptR L121 k0 31 (some (L118.length)))) (fun L124 => gd (L124.length < 1000000) (bk (some (L124 ++ [((14, 60), [], [])])) (fun L127 => gd ((L127.getD k0 dC).1.1 = 12 ∧ k0 < L127.length ∧ k0 < 1000000) (bk (some (ptR L127 k0 33 (some (L124.length)))) (fun L130 => gd (L130.length < 1000000) (bk (some (L130 ++ [((14, 60), [], [])])) (fun L133 => gd ((L133.getD k0 dC).1.1 = 12 ∧ k0 < L133.length ∧ k0 < 1000000) (bk (some (ptR L133 k0 34 (some (L130.length)))) (fun L136 => gd (L136.length < 1000000) (bk (some (L136 ++ [((14, 60), [], [])])) (fun L139 => gd ((L139.getD k0 dC).1.1 = 12 ∧ k0 < L139.length ∧ k0 < 1000000) (bk (some (ptR L139 k0 35 (some (L136.length)))) (fun L142 => gd (L142.length < 1000000) (bk (some (L142 ++ [((16, 60), [], [])])) (fun L145 => gd ((L145.getD k0 dC).1.1 = 12 ∧ k0 < L145.length ∧ k0 < 1000000) (bk (some (ptR L145 k0 36 (some (L142.length)))) (fun L148 => gd (L148.length < 1000000) (bk (some (L148 ++ [((14, 60), [], [])])) (fun L151 => gd ((L151.getD k0 dC).1.1 = 12 ∧ k0 < L151.length ∧ k0 < 1000000) (bk (some (ptR L151 k0 37 (some (L148.length)))) (fun L154 => gd (L154.length < 1000000) (bk (some (L154 ++ [((14, 60), [], [])])) (fun L157 => gd ((L157.getD k0 dC).1.1 = 12 ∧ k0 < L157.length ∧ k0 < 1000000) (bk (some (ptR L157 k0 38 (some (L154.length)))) (fun L160 => gd (L160.length < 1000000) (bk (some (L160 ++ [((14, 192), [], [])])) (fun L163 => gd ((L163.getD k0 dC).1.1 = 12 ∧ k0 < L163.length ∧ k0 < 1000000) (bk (some (ptR L163 k0 40 (some (L160.length)))) (fun L166 => gd (L166.length < 1000000) (bk (some (L166 ++ [((14, 1152), [], [])])) (fun L169 => gd ((L169.getD k0 dC).1.1 = 12 ∧ k0 < L169.length ∧ k0 < 1000000) (bk (some (ptR L169 k0 41 (some (L166.length)))) (fun L172 => gd (L172.length < 1000000) (bk (some (L172 ++ [((16, 3200), [], [])])) (fun L175 => gd ((L175.getD k0 dC).1.1 = 12 ∧ k0 < L175.length ∧ k0 < 1000000) (bk (some (ptR L175 k0 42 (some (L172.length)))) (fun L178 => gd (L178.length < 1000000) (bk (some (L178 ++ [((16, 3200), [], [])])) (fun L181 => gd ((L181.getD k0 dC).1.1 = 12 ∧ k0 < L181.length ∧ k0 < 1000000) (bk (some (ptR L181 k0 43 (some (L178.length)))) (fun L184 => gd (L184.length < 1000000) (bk (some (L184 ++ [((14, 80), [], [])])) (fun L187 => gd ((L187.getD k0 dC).1.1 = 12 ∧ k0 < L187.length ∧ k0 < 1000000) (bk (some (ptR L187 k0 44 (some (L184.length)))) (fun L190 => gd (L190.length < 1000000) (bk (some (L190 ++ [((14, 1600), [], [])])) (fun L193 => gd ((L193.getD k0 dC).1.1 = 12 ∧ k0 < L193.length ∧ k0 < 1000000) (bk (some (ptR L193 k0 45 (some (L190.length)))) (fun L196 => gd (L196.length < 1000000) (bk (some (L196 ++ [((14, 40), [], [])])) (fun L199 => gd ((L199.getD k0 dC).1.1 = 12 ∧ k0 < L199.length ∧ k0 < 1000000) (bk (some (ptR L199 k0 46 (some (L196.length)))) (fun L202 => gd (L202.length < 1000000) (bk (some (L202 ++ [((14, 3200), [], [])])) (fun L205 => gd ((L205.getD k0 dC).1.1 = 12 ∧ k0 < L205.length ∧ k0 < 1000000) (bk (some (ptR L205 k0 52 (some (L202.length)))) (fun L208 => gd (L208.length < 1000000) (bk (some (L208 ++ [((14, 240), [], [])])) (fun L211 => gd ((L211.getD k0 dC).1.1 = 12 ∧ k0 < L211.length ∧ k0 < 1000000) (bk (some (ptR L211 k0 54 (some (L208.length)))) (fun L214 => gd (L214.length < 1000000) (bk (some (L214 ++ [((14, 7), [], [])])) (fun L217 => gd ((L217.getD k0 dC).1.1 = 12 ∧ k0 < L217.length ∧ k0 < 1000000) (bk (some (ptR L217 k0 56 (some (L214.length)))) (fun L220 => gd (L220.length < 1000000) (bk (some (L220 ++ [((14, 56), [], [])])) (fun L223 => gd ((L223.getD k0 dC).1.1 = 12 ∧ k0 < L223.length ∧ k0 < 1000000) (bk (some (ptR L223 k0 57 (some (L220.length)))) (fun L226 => gd (L226.length < 1000000) (bk (some (L226 ++ [((14, 7), [], [])])) (fun L229 => gd ((L229.getD k0 dC).1.1 = 12 ∧ k0 < L229.length ∧ k0 < 1000000) (bk (some (ptR L229 k0 58 (some (L226.length)))) (fun L232 => gd (L232.length < 1000000) (bk (some (L232 ++ [((14, 6), [], [])])) (fun L235 => gd ((L235.getD k0 dC).1.1 = 12 ∧ k0 < L235.length ∧ k0 < 1000000) (bk (some (ptR L235 k0 59 (some (L232.length)))) (fun L238 => gd (L238.length < 1000000) (bk (some (L238 ++ [((14, 6), [], [])])) (fun L241 => gd ((L241.getD k0 dC).1.1 = 12 ∧ k0 < L241.length ∧ k0 < 1000000) (bk (some (ptR L241 k0 60 (some (L238.length)))) (fun L244 => gd (L244.length < 1000000) (bk (some (L244 ++ [((14, 56), [], [])])) (fun L247 => gd ((L247.getD k0 dC).1.1 = 12 ∧ k0 < L247.length ∧ k0 < 1000000) (bk (some (ptR L247 k0 61 (some (L244.length)))) (fun L250 => gd (L250.length < 1000000) (bk (some (L250 ++ [((14, 7), [], [])])) (fun L253 => gd ((L253.getD k0 dC).1.1 = 12 ∧ k0 < L253.length ∧ k0 < 1000000) (bk (some (ptR L253 k0 62 (some (L250.length)))) (fun L256 => gd (L256.length < 1000000) (bk (some (L256 ++ [((14, 8), [], [])])) (fun L259 => gd ((L259.getD k0 dC).1.1 = 12 ∧ k0 < L259.length ∧ k0 < 1000000) (bk (some (ptR L259 k0 63 (some (L256.length)))) (fun L262 => gd (L262.length < 1000000) (bk (some (L262 ++ [((14, 7), [], [])])) (fun L265 => gd ((L265.getD k0 dC).1.1 = 12 ∧ k0 < L265.length ∧ k0 < 1000000) (bk (some (ptR L265 k0 65 (some (L262.length)))) (fun L268 => gd (L268.length < 1000000) (bk (some (L268 ++ [((14, 7), [], [])])) (fun L271 => gd ((L271.getD k0 dC).1.1 = 12 ∧ k0 < L271.length ∧ k0 < 1000000) (bk (some (ptR L271 k0 66 (some (L268.length)))) (fun L274 => gd (L274.length < 1000000) (bk (some (L274 ++ [((14, 320), [], [])])) (fun L277 => gd ((L277.getD k0 dC).1.1 = 12 ∧ k0 < L277.length ∧ k0 < 1000000) (bk (some (ptR L277 k0 67 (some (L274.length)))) (fun L280 => gd (L280.length < 1000000) (bk (some (L280 ++ [((14, 7), [], [])])) (fun L283 => gd ((L283.getD k0 dC).1.1 = 12 ∧ k0 < L283.length ∧ k0 < 1000000) (bk (some (ptR L283 k0 70 (some (L280.length)))) (fun L286 => gd (L286.length < 1000000) (bk (some (L286 ++ [((14, 40), [], [])])) (fun L289 => gd ((L289.getD k0 dC).1.1 = 12 ∧ k0 < L289.length ∧ k0 < 1000000) (bk (some (ptR L289 k0 71 (some (L286.length)))) (fun L292 => gd (L292.length < 1000000) (bk (some (L292 ++ [((14, 5440), [], [])])) (fun L295 => gd ((L295.getD k0 dC).1.1 = 12 ∧ k0 < L295.length ∧ k0 < 1000000) (bk (some (ptR L295 k0 72 (some (L292.length)))) (fun L298 => gd (L298.length < 1000000) (bk (some (L298 ++ [((16, 192), [], [])])) (fun L301 => gd ((L301.getD k0 dC).1.1 = 12 ∧ k0 < L301.length ∧ k0 < 1000000) (bk (some (ptR L301 k0 73 (some (L298.length)))) (fun L304 => gd (L304.length < 1000000) (bk (some (L304 ++ [((14, 12), [], [])])) (fun L307 => gd ((L307.getD k0 dC).1.1 = 12 ∧ k0 < L307.length ∧ k0 < 1000000) (bk (some (ptR L307 k0 74 (some (L304.length)))) (fun L310 => f_X13_init_432 Fu k0 0 L310))))))))))))))))))))))))))))))))))))))))))))))))))))))))))))))))))))))))))))))))))))))))))))))))))))))))))))))))))))))))))))))))))))))))))))))))))))))))))))))))))))))))))))))))))))))))))))))))))))))))))
set_option maxRecDepth 20000 in
set_option maxHeartbeats 4000000 in
theorem t_X13_init_432 : ∀ (n : Nat) (l0 : Nat) (l1 : Int32) (L M : List C0), f_X13_init_432 n l0 l1 L = some M → JA mi_X13_init 1 (jqK M) 432 [(0, .ref l0), (1, .int l1)] [] L M := by
  intro n
  induction n with
  | zero =>
    intro l0 l1 L M h
    have h : (none : Option (List C0)) = some M := h
    cases h
  | succ n ih =>
    intro l0 l1 L M h
    have h : s_X13_init_432 (f_X13_init_432 n) l0 l1 L = some M := h
    unfold s_X13_init_432 at h
    refine K_lift (fun kc ks K => J_iload_n 1 dX13_init_432 rfl K) ?_
    refine K_lift (fun kc ks K => J_iconst (v := 4) dX13_init_433 (by decide) K) ?_
    refine K_br (Decidable.em (4 ≤ l1)) (fun kc ks h1 h2 => J_icmp_ge (tgt := 451) dX13_init_434 (by decide) h1 h2) (fun c1 => ?_) (fun c1 => ?_)
    · have h := (if_pos c1).symm.trans h
      exact K_ret dX13_init_451 rfl h
    · have h := (if_neg c1).symm.trans h
      refine K_lift (fun kc ks K => J_aload_n 0 dX13_init_437 rfl K) ?_
      obtain ⟨g2, h⟩ := gd_inv h
      obtain ⟨q3, h4, h⟩ := bo_inv h
      refine K_lift (fun kc ks K => J_getR (S := bs L) h4 gf_X13_54_12 dX13_init_438 (by rw [bs_sh g2.2.2]; exact g2.1) g2.2.1 K) ?_
      refine K_lift (fun kc ks K => J_iload_n 1 dX13_init_441 rfl K) ?_
      refine K_lift (fun kc ks K => J_bipush (v := 10) dX13_init_442 (by decide) K) ?_
      obtain ⟨g5, h⟩ := gd_inv h
      refine K_iast dX13_init_444 g5 ?_
      obtain ⟨L6, e7, h⟩ := bk_inv h
      have e7 := Option.some.inj e7
      rw [e7]
      refine K_lift (fun kc ks K => J_iinc (v := (l1 + 1)) (ls' := [(1, .int (l1 + 1)), (0, .ref l0)]) 1 dX13_init_445 rfl rfl (by decide) rfl K) ?_
      refine K_lift (fun kc ks K => J_goto (tgt := 432) dX13_init_448 (by decide) K) ?_
      refine K_lift (fun kc ks K => J_pick [1, 0] rfl K) ?_
      exact ih _ _ _ _ h
set_option maxRecDepth 20000 in
set_option maxHeartbeats 4000000 in
theorem t_X13_init {k0 : Nat} {L M : List C0} (h : f_X13_init k0 L = some M) : JA mi_X13_init 1 (jqK M) 0 [(0, .ref k0)] [] L M := by
  unfold f_X13_init at h
  refine K_lift (fun kc ks K => J_aload_n 0 dX13_init_0 rfl K) ?_
  refine K_obj ob_X13_7 dX13_init_1 (by decide) (Nat.le_of_ble_eq_true rfl) ?_
  refine K_lift (fun kc ks K => J_aload_n 0 dX13_init_4 rfl K) ?_
  refine K_lift (fun kc ks K => J_bipush (v := 24) dX13_init_5 (by decide) K) ?_
  obtain ⟨g9, h⟩ := gd_inv h
  refine K_newa (at_ := .int) (kd := 14) (t0 := 1) (n := 24) (fun g => rfl) (fun U cA q => q) (by decide) (by decide) am_int dX13_init_7 (by decide) (by decide) (by decide) g9 ?_
  obtain ⟨L10, e11, h⟩ := bk_inv h
  have e11 := Option.some.inj e11
  rw [e11]
  obtain ⟨g12, h⟩ := gd_inv h
  refine K_putR pf_X13_13_12 (fun _ => rfl) dX13_init_9 g12 ?_
  obtain ⟨L13, e14, h⟩ := bk_inv h
  have e14 := Option.some.inj e14
  rw [e14]
  refine K_lift (fun kc ks K => J_aload_n 0 dX13_init_12 rfl K) ?_
  refine K_lift (fun kc ks K => J_bipush (v := 24) dX13_init_13 (by decide) K) ?_
  obtain ⟨g15, h⟩ := gd_inv h
  refine K_newa (at_ := .int) (kd := 14) (t0 := 1) (n := 24) (fun g => rfl) (fun U cA q => q) (by decide) (by decide) am_int dX13_init_15 (by decide) (by decide) (by decide) g15 ?_
  obtain ⟨L16, e17, h⟩ := bk_inv h
  have e17 := Option.some.inj e17
  rw [e17]
  obtain ⟨g18, h⟩ := gd_inv h
  refine K_putR pf_X13_17_12 (fun _ => rfl) dX13_init_17 g18 ?_
  obtain ⟨L19, e20, h⟩ := bk_inv h
  have e20 := Option.some.inj e20
  rw [e20]
  refine K_lift (fun kc ks K => J_aload_n 0 dX13_init_20 rfl K) ?_
  refine K_lift (fun kc ks K => J_bipush (v := 25) dX13_init_21 (by decide) K) ?_
  obtain ⟨g21, h⟩ := gd_inv h
  refine K_newa (at_ := .int) (kd := 14) (t0 := 1) (n := 25) (fun g => rfl) (fun U cA q => q) (by decide) (by decide) am_int dX13_init_23 (by decide) (by decide) (by decide) g21 ?_
  obtain ⟨L22, e23, h⟩ := bk_inv h
  have e23 := Option.some.inj e23
  rw [e23]
  obtain ⟨g24, h⟩ := gd_inv h
  refine K_putR pf_X13_20_12 (fun _ => rfl) dX13_init_25 g24 ?_
  obtain ⟨L25, e26, h⟩ := bk_inv h
  have e26 := Option.some.inj e26
  rw [e26]
  refine K_lift (fun kc ks K => J_aload_n 0 dX13_init_28 rfl K) ?_
  refine K_lift (fun kc ks K => J_sipush (v := 200) dX13_init_29 (by decide) K) ?_
  obtain ⟨g27, h⟩ := gd_inv h
  refine K_newa (at_ := .int) (kd := 14) (t0 := 1) (n := 200) (fun g => rfl) (fun U cA q => q) (by decide) (by decide) am_int dX13_init_32 (by decide) (by decide) (by decide) g27 ?_
  obtain ⟨L28, e29, h⟩ := bk_inv h
  have e29 := Option.some.inj e29
  rw [e29]
  obtain ⟨g30, h⟩ := gd_inv h
  refine K_putR pf_X13_23_12 (fun _ => rfl) dX13_init_34 g30 ?_
  obtain ⟨L31, e32, h⟩ := bk_inv h
  have e32 := Option.some.inj e32
  rw [e32]
  refine K_lift (fun kc ks K => J_aload_n 0 dX13_init_37 rfl K) ?_
  refine K_lift (fun kc ks K => J_sipush (v := 1200) dX13_init_38 (by decide) K) ?_
  obtain ⟨g33, h⟩ := gd_inv h
  refine K_newa (at_ := .int) (kd := 14) (t0 := 1) (n := 1200) (fun g => rfl) (fun U cA q => q) (by decide) (by decide) am_int dX13_init_41 (by decide) (by decide) (by decide) g33 ?_
  obtain ⟨L34, e35, h⟩ := bk_inv h
  have e35 := Option.some.inj e35
  rw [e35]
  obtain ⟨g36, h⟩ := gd_inv h
  refine K_putR pf_X13_26_12 (fun _ => rfl) dX13_init_43 g36 ?_
  obtain ⟨L37, e38, h⟩ := bk_inv h
  have e38 := Option.some.inj e38
  rw [e38]
  refine K_lift (fun kc ks K => J_aload_n 0 dX13_init_46 rfl K) ?_
  refine K_lift (fun kc ks K => J_bipush (v := 10) dX13_init_47 (by decide) K) ?_
  obtain ⟨g39, h⟩ := gd_inv h
  refine K_newa (at_ := .int) (kd := 14) (t0 := 1) (n := 10) (fun g => rfl) (fun U cA q => q) (by decide) (by decide) am_int dX13_init_49 (by decide) (by decide) (by decide) g39 ?_
  obtain ⟨L40, e41, h⟩ := bk_inv h
  have e41 := Option.some.inj e41
  rw [e41]
  obtain ⟨g42, h⟩ := gd_inv h
  refine K_putR pf_X13_29_12 (fun _ => rfl) dX13_init_51 g42 ?_
  obtain ⟨L43, e44, h⟩ := bk_inv h
  have e44 := Option.some.inj e44
  rw [e44]
  refine K_lift (fun kc ks K => J_aload_n 0 dX13_init_54 rfl K) ?_
  refine K_lift (fun kc ks K => J_bipush (v := 11) dX13_init_55 (by decide) K) ?_
  obtain ⟨g45, h⟩ := gd_inv h
  refine K_newa (at_ := .int) (kd := 14) (t0 := 1) (n := 11) (fun g => rfl) (fun U cA q => q) (by decide) (by decide) am_int dX13_init_57 (by decide) (by decide) (by decide) g45 ?_
  obtain ⟨L46, e47, h⟩ := bk_inv h
  have e47 := Option.some.inj e47
  rw [e47]
  obtain ⟨g48, h⟩ := gd_inv h
  refine K_putR pf_X13_32_12 (fun _ => rfl) dX13_init_59 g48 ?_
  obtain ⟨L49, e50, h⟩ := bk_inv h
  have e50 := Option.some.inj e50
  rw [e50]
  refine K_lift (fun kc ks K => J_aload_n 0 dX13_init_62 rfl K) ?_
  refine K_lift (fun kc ks K => J_sipush (v := 132) dX13_init_63 (by decide) K) ?_
  obtain ⟨g51, h⟩ := gd_inv h
  refine K_newa (at_ := .int) (kd := 14) (t0 := 1) (n := 132) (fun g => rfl) (fun U cA q => q) (by decide) (by decide) am_int dX13_init_66 (by decide) (by decide) (by decide) g51 ?_
  obtain ⟨L52, e53, h⟩ := bk_inv h
  have e53 := Option.some.inj e53
  rw [e53]
  obtain ⟨g54, h⟩ := gd_inv h
  refine K_putR pf_X13_35_12 (fun _ => rfl) dX13_init_68 g54 ?_
  obtain ⟨L55, e56, h⟩ := bk_inv h
  have e56 := Option.some.inj e56
  rw [e56]
  refine K_lift (fun kc ks K => J_aload_n 0 dX13_init_71 rfl K) ?_
  refine K_lift (fun kc ks K => J_sipush (v := 132) dX13_init_72 (by decide) K) ?_
  obtain ⟨g57, h⟩ := gd_inv h
  refine K_newa (at_ := .int) (kd := 14) (t0 := 1) (n := 132) (fun g => rfl) (fun U cA q => q) (by decide) (by decide) am_int dX13_init_75 (by decide) (by decide) (by decide) g57 ?_
  obtain ⟨L58, e59, h⟩ := bk_inv h
  have e59 := Option.some.inj e59
  rw [e59]
  obtain ⟨g60, h⟩ := gd_inv h
  refine K_putR pf_X13_38_12 (fun _ => rfl) dX13_init_77 g60 ?_
  obtain ⟨L61, e62, h⟩ := bk_inv h
  have e62 := Option.some.inj e62
  rw [e62]
  refine K_lift (fun kc ks K => J_aload_n 0 dX13_init_80 rfl K) ?_
  refine K_lift (fun kc ks K => J_sipush (v := 132) dX13_init_81 (by decide) K) ?_
  obtain ⟨g63, h⟩ := gd_inv h
  refine K_newa (at_ := .int) (kd := 14) (t0 := 1) (n := 132) (fun g => rfl) (fun U cA q => q) (by decide) (by decide) am_int dX13_init_84 (by decide) (by decide) (by decide) g63 ?_
  obtain ⟨L64, e65, h⟩ := bk_inv h
  have e65 := Option.some.inj e65
  rw [e65]
  obtain ⟨g66, h⟩ := gd_inv h
  refine K_putR pf_X13_41_12 (fun _ => rfl) dX13_init_86 g66 ?_
  obtain ⟨L67, e68, h⟩ := bk_inv h
  have e68 := Option.some.inj e68
  rw [e68]
  refine K_lift (fun kc ks K => J_aload_n 0 dX13_init_89 rfl K) ?_
  refine K_lift (fun kc ks K => J_sipush (v := 132) dX13_init_90 (by decide) K) ?_
  obtain ⟨g69, h⟩ := gd_inv h
  refine K_newa (at_ := .int) (kd := 14) (t0 := 1) (n := 132) (fun g => rfl) (fun U cA q => q) (by decide) (by decide) am_int dX13_init_93 (by decide) (by decide) (by decide) g69 ?_
  obtain ⟨L70, e71, h⟩ := bk_inv h
  have e71 := Option.some.inj e71
  rw [e71]
  obtain ⟨g72, h⟩ := gd_inv h
  refine K_putR pf_X13_44_12 (fun _ => rfl) dX13_init_95 g72 ?_
  obtain ⟨L73, e74, h⟩ := bk_inv h
  have e74 := Option.some.inj e74
  rw [e74]
  refine K_lift (fun kc ks K => J_aload_n 0 dX13_init_98 rfl K) ?_
  refine K_lift (fun kc ks K => J_sipush (v := 300) dX13_init_99 (by decide) K) ?_
  obtain ⟨g75, h⟩ := gd_inv h
  refine K_newa (at_ := .byte) (kd := 13) (t0 := 0) (n := 300) (fun g => rfl) (fun U cA q => q) (by decide) (by decide) am_byte dX13_init_102 (by decide) (by decide) (by decide) g75 ?_
  obtain ⟨L76, e77, h⟩ := bk_inv h
  have e77 := Option.some.inj e77
  rw [e77]
  obtain ⟨g78, h⟩ := gd_inv h
  refine K_putR pf_X13_47_12 (fun _ => rfl) dX13_init_104 g78 ?_
  obtain ⟨L79, e80, h⟩ := bk_inv h
  have e80 := Option.some.inj e80
  rw [e80]
  refine K_lift (fun kc ks K => J_aload_n 0 dX13_init_107 rfl K) ?_
  refine K_lift (fun kc ks K => J_iconst (v := (-1)) dX13_init_108 (by decide) K) ?_
  obtain ⟨g81, h⟩ := gd_inv h
  refine K_putI pf_X13_51_12 (fun _ => rfl) dX13_init_109 g81 ⟨rfl, rfl⟩ ?_
  obtain ⟨L82, e83, h⟩ := bk_inv h
  have e83 := Option.some.inj e83
  rw [e83]
  refine K_lift (fun kc ks K => J_aload_n 0 dX13_init_112 rfl K) ?_
  refine K_lift (fun kc ks K => J_iconst (v := 4) dX13_init_113 (by decide) K) ?_
  obtain ⟨g84, h⟩ := gd_inv h
  refine K_newa (at_ := .int) (kd := 14) (t0 := 1) (n := 4) (fun g => rfl) (fun U cA q => q) (by decide) (by decide) am_int dX13_init_114 (by decide) (by decide) (by decide) g84 ?_
  obtain ⟨L85, e86, h⟩ := bk_inv h
  have e86 := Option.some.inj e86
  rw [e86]
  obtain ⟨g87, h⟩ := gd_inv h
  refine K_putR pf_X13_54_12 (fun _ => rfl) dX13_init_116 g87 ?_
  obtain ⟨L88, e89, h⟩ := bk_inv h
  have e89 := Option.some.inj e89
  rw [e89]
  refine K_lift (fun kc ks K => J_aload_n 0 dX13_init_119 rfl K) ?_
  refine K_lift (fun kc ks K => J_sipush (v := 200) dX13_init_120 (by decide) K) ?_
  obtain ⟨g90, h⟩ := gd_inv h
  refine K_newa (at_ := .int) (kd := 14) (t0 := 1) (n := 200) (fun g => rfl) (fun U cA q => q) (by decide) (by decide) am_int dX13_init_123 (by decide) (by decide) (by decide) g90 ?_
  obtain ⟨L91, e92, h⟩ := bk_inv h
  have e92 := Option.some.inj e92
  rw [e92]
  obtain ⟨g93, h⟩ := gd_inv h
  refine K_putR pf_X13_57_12 (fun _ => rfl) dX13_init_125 g93 ?_
  obtain ⟨L94, e95, h⟩ := bk_inv h
  have e95 := Option.some.inj e95
  rw [e95]
  refine K_lift (fun kc ks K => J_aload_n 0 dX13_init_128 rfl K) ?_
  refine K_lift (fun kc ks K => J_sipush (v := 200) dX13_init_129 (by decide) K) ?_
  obtain ⟨g96, h⟩ := gd_inv h
  refine K_newa (at_ := .int) (kd := 14) (t0 := 1) (n := 200) (fun g => rfl) (fun U cA q => q) (by decide) (by decide) am_int dX13_init_132 (by decide) (by decide) (by decide) g96 ?_
  obtain ⟨L97, e98, h⟩ := bk_inv h
  have e98 := Option.some.inj e98
  rw [e98]
  obtain ⟨g99, h⟩ := gd_inv h
  refine K_putR pf_X13_60_12 (fun _ => rfl) dX13_init_134 g99 ?_
  obtain ⟨L100, e101, h⟩ := bk_inv h
  have e101 := Option.some.inj e101
  rw [e101]
  refine K_lift (fun kc ks K => J_aload_n 0 dX13_init_137 rfl K) ?_
  refine K_lift (fun kc ks K => J_sipush (v := 200) dX13_init_138 (by decide) K) ?_
  obtain ⟨g102, h⟩ := gd_inv h
  refine K_newa (at_ := .int) (kd := 14) (t0 := 1) (n := 200) (fun g => rfl) (fun U cA q => q) (by decide) (by decide) am_int dX13_init_141 (by decide) (by decide) (by decide) g102 ?_
  obtain ⟨L103, e104, h⟩ := bk_inv h
  have e104 := Option.some.inj e104
  rw [e104]
  obtain ⟨g105, h⟩ := gd_inv h
  refine K_putR pf_X13_63_12 (fun _ => rfl) dX13_init_143 g105 ?_
  obtain ⟨L106, e107, h⟩ := bk_inv h
  have e107 := Option.some.inj e107
  rw [e107]
  refine K_lift (fun kc ks K => J_aload_n 0 dX13_init_146 rfl K) ?_
  refine K_lift (fun kc ks K => J_sipush (v := 200) dX13_init_147 (by decide) K) ?_
  obtain ⟨g108, h⟩ := gd_inv h
  refine K_newa (at_ := .int) (kd := 14) (t0 := 1) (n := 200) (fun g => rfl) (fun U cA q => q) (by decide) (by decide) am_int dX13_init_150 (by decide) (by decide) (by decide) g108 ?_
  obtain ⟨L109, e110, h⟩ := bk_inv h
  have e110 := Option.some.inj e110
  rw [e110]
  obtain ⟨g111, h⟩ := gd_inv h
  refine K_putR pf_X13_66_12 (fun _ => rfl) dX13_init_152 g111 ?_
  obtain ⟨L112, e113, h⟩ := bk_inv h
  have e113 := Option.some.inj e113
  rw [e113]
  refine K_lift (fun kc ks K => J_aload_n 0 dX13_init_155 rfl K) ?_
  refine K_lift (fun kc ks K => J_sipush (v := 200) dX13_init_156 (by decide) K) ?_
  obtain ⟨g114, h⟩ := gd_inv h
  refine K_newa (at_ := .int) (kd := 14) (t0 := 1) (n := 200) (fun g => rfl) (fun U cA q => q) (by decide) (by decide) am_int dX13_init_159 (by decide) (by decide) (by decide) g114 ?_
  obtain ⟨L115, e116, h⟩ := bk_inv h
  have e116 := Option.some.inj e116
  rw [e116]
  obtain ⟨g117, h⟩ := gd_inv h
  refine K_putR pf_X13_69_12 (fun _ => rfl) dX13_init_161 g117 ?_
  obtain ⟨L118, e119, h⟩ := bk_inv h
  have e119 := Option.some.inj e119
  rw [e119]
  refine K_lift (fun kc ks K => J_aload_n 0 dX13_init_164 rfl K) ?_
  refine K_lift (fun kc ks K => J_bipush (v := 40) dX13_init_165 (by decide) K) ?_
  obtain ⟨g120, h⟩ := gd_inv h
  refine K_newa (at_ := .int) (kd := 14) (t0 := 1) (n := 40) (fun g => rfl) (fun U cA q => q) (by decide) (by decide) am_int dX13_init_167 (by decide) (by decide) (by decide) g120 ?_
  obtain ⟨L121, e122, h⟩ := bk_inv h
  have e122 := Option.some.inj e122
  rw [e122]
  obtain ⟨g123, h⟩ := gd_inv h
  refine K_putR pf_X13_72_12 (fun _ => rfl) dX13_init_169 g123 ?_
  obtain ⟨L124, e125, h⟩ := bk_inv h
  have e125 := Option.some.inj e125
  rw [e125]
  refine K_lift (fun kc ks K => J_aload_n 0 dX13_init_172 rfl K) ?_
  refine K_lift (fun kc ks K => J_bipush (v := 60) dX13_init_173 (by decide) K) ?_
  obtain ⟨g126, h⟩ := gd_inv h
  refine K_newa (at_ := .int) (kd := 14) (t0 := 1) (n := 60) (fun g => rfl) (fun U cA q => q) (by decide) (by decide) am_int dX13_init_175 (by decide) (by decide) (by decide) g126 ?_
  obtain ⟨L127, e128, h⟩ := bk_inv h
  have e128 := Option.some.inj e128
  rw [e128]
  obtain ⟨g129, h⟩ := gd_inv h
  refine K_putR pf_X13_75_12 (fun _ => rfl) dX13_init_177 g129 ?_
  obtain ⟨L130, e131, h⟩ := bk_inv h
  have e131 := Option.some.inj e131
  rw [e131]
  refine K_lift (fun kc ks K => J_aload_n 0 dX13_init_180 rfl K) ?_
  refine K_lift (fun kc ks K => J_bipush (v := 60) dX13_init_181 (by decide) K) ?_
  obtain ⟨g132, h⟩ := gd_inv h
  refine K_newa (at_ := .int) (kd := 14) (t0 := 1) (n := 60) (fun g => rfl) (fun U cA q => q) (by decide) (by decide) am_int dX13_init_183 (by decide) (by decide) (by decide) g132 ?_
  obtain ⟨L133, e134, h⟩ := bk_inv h
  have e134 := Option.some.inj e134
  rw [e134]
  obtain ⟨g135, h⟩ := gd_inv h
  refine K_putR pf_X13_78_12 (fun _ => rfl) dX13_init_185 g135 ?_
  obtain ⟨L136, e137, h⟩ := bk_inv h
  have e137 := Option.some.inj e137
  rw [e137]
  refine K_lift (fun kc ks K => J_aload_n 0 dX13_init_188 rfl K) ?_
  refine K_lift (fun kc ks K => J_bipush (v := 60) dX13_init_189 (by decide) K) ?_
  obtain ⟨g138, h⟩ := gd_inv h
  refine K_newa (at_ := .int) (kd := 14) (t0 := 1) (n := 60) (fun g => rfl) (fun U cA q => q) (by decide) (by decide) am_int dX13_init_191 (by decide) (by decide) (by decide) g138 ?_
  obtain ⟨L139, e140, h⟩ := bk_inv h
  have e140 := Option.some.inj e140
  rw [e140]
  obtain ⟨g141, h⟩ := gd_inv h
  refine K_putR pf_X13_81_12 (fun _ => rfl) dX13_init_193 g141 ?_
  obtain ⟨L142, e143, h⟩ := bk_inv h
  have e143 := Option.some.inj e143
  rw [e143]
  refine K_lift (fun kc ks K => J_aload_n 0 dX13_init_196 rfl K) ?_
  refine K_lift (fun kc ks K => J_bipush (v := 60) dX13_init_197 (by decide) K) ?_
  obtain ⟨g144, h⟩ := gd_inv h
  refine K_newa (at_ := .boolean) (kd := 16) (t0 := 3) (n := 60) (fun g => rfl) (fun U cA q => q) (by decide) (by decide) am_boolean dX13_init_199 (by decide) (by decide) (by decide) g144 ?_
  obtain ⟨L145, e146, h⟩ := bk_inv h
  have e146 := Option.some.inj e146
  rw [e146]
  obtain ⟨g147, h⟩ := gd_inv h
  refine K_putR pf_X13_84_12 (fun _ => rfl) dX13_init_201 g147 ?_
  obtain ⟨L148, e149, h⟩ := bk_inv h
  have e149 := Option.some.inj e149
  rw [e149]
  refine K_lift (fun kc ks K => J_aload_n 0 dX13_init_204 rfl K) ?_
  refine K_lift (fun kc ks K => J_bipush (v := 60) dX13_init_205 (by decide) K) ?_
  obtain ⟨g150, h⟩ := gd_inv h
  refine K_newa (at_ := .int) (kd := 14) (t0 := 1) (n := 60) (fun g => rfl) (fun U cA q => q) (by decide) (by decide) am_int dX13_init_207 (by decide) (by decide) (by decide) g150 ?_
  obtain ⟨L151, e152, h⟩ := bk_inv h
  have e152 := Option.some.inj e152
  rw [e152]
  obtain ⟨g153, h⟩ := gd_inv h
  refine K_putR pf_X13_88_12 (fun _ => rfl) dX13_init_209 g153 ?_
  obtain ⟨L154, e155, h⟩ := bk_inv h
  have e155 := Option.some.inj e155
  rw [e155]
  refine K_lift (fun kc ks K => J_aload_n 0 dX13_init_212 rfl K) ?_
  refine K_lift (fun kc ks K => J_bipush (v := 60) dX13_init_213 (by decide) K) ?_
  obtain ⟨g156, h⟩ := gd_inv h
  refine K_newa (at_ := .int) (kd := 14) (t0 := 1) (n := 60) (fun g => rfl) (fun U cA q => q) (by decide) (by decide) am_int dX13_init_215 (by decide) (by decide) (by decide) g156 ?_
  obtain ⟨L157, e158, h⟩ := bk_inv h
  have e158 := Option.some.inj e158
  rw [e158]
  obtain ⟨g159, h⟩ := gd_inv h
  refine K_putR pf_X13_91_12 (fun _ => rfl) dX13_init_217 g159 ?_
  obtain ⟨L160, e161, h⟩ := bk_inv h
  have e161 := Option.some.inj e161
  rw [e161]
  refine K_lift (fun kc ks K => J_aload_n 0 dX13_init_220 rfl K) ?_
  refine K_lift (fun kc ks K => J_sipush (v := 192) dX13_init_221 (by decide) K) ?_
  obtain ⟨g162, h⟩ := gd_inv h
  refine K_newa (at_ := .int) (kd := 14) (t0 := 1) (n := 192) (fun g => rfl) (fun U cA q => q) (by decide) (by decide) am_int dX13_init_224 (by decide) (by decide) (by decide) g162 ?_
  obtain ⟨L163, e164, h⟩ := bk_inv h
  have e164 := Option.some.inj e164
  rw [e164]
  obtain ⟨g165, h⟩ := gd_inv h
  refine K_putR pf_X13_94_12 (fun _ => rfl) dX13_init_226 g165 ?_
  obtain ⟨L166, e167, h⟩ := bk_inv h
  have e167 := Option.some.inj e167
  rw [e167]
  refine K_lift (fun kc ks K => J_aload_n 0 dX13_init_229 rfl K) ?_
  refine K_lift (fun kc ks K => J_sipush (v := 1152) dX13_init_230 (by decide) K) ?_
  obtain ⟨g168, h⟩ := gd_inv h
  refine K_newa (at_ := .int) (kd := 14) (t0 := 1) (n := 1152) (fun g => rfl) (fun U cA q => q) (by decide) (by decide) am_int dX13_init_233 (by decide) (by decide) (by decide) g168 ?_
  obtain ⟨L169, e170, h⟩ := bk_inv h
  have e170 := Option.some.inj e170
  rw [e170]
  obtain ⟨g171, h⟩ := gd_inv h
  refine K_putR pf_X13_97_12 (fun _ => rfl) dX13_init_235 g171 ?_
  obtain ⟨L172, e173, h⟩ := bk_inv h
  have e173 := Option.some.inj e173
  rw [e173]
  refine K_lift (fun kc ks K => J_aload_n 0 dX13_init_238 rfl K) ?_
  refine K_lift (fun kc ks K => J_sipush (v := 3200) dX13_init_239 (by decide) K) ?_
  obtain ⟨g174, h⟩ := gd_inv h
  refine K_newa (at_ := .boolean) (kd := 16) (t0 := 3) (n := 3200) (fun g => rfl) (fun U cA q => q) (by decide) (by decide) am_boolean dX13_init_242 (by decide) (by decide) (by decide) g174 ?_
  obtain ⟨L175, e176, h⟩ := bk_inv h
  have e176 := Option.some.inj e176
  rw [e176]
  obtain ⟨g177, h⟩ := gd_inv h
  refine K_putR pf_X13_100_12 (fun _ => rfl) dX13_init_244 g177 ?_
  obtain ⟨L178, e179, h⟩ := bk_inv h
  have e179 := Option.some.inj e179
  rw [e179]
  refine K_lift (fun kc ks K => J_aload_n 0 dX13_init_247 rfl K) ?_
  refine K_lift (fun kc ks K => J_sipush (v := 3200) dX13_init_248 (by decide) K) ?_
  obtain ⟨g180, h⟩ := gd_inv h
  refine K_newa (at_ := .boolean) (kd := 16) (t0 := 3) (n := 3200) (fun g => rfl) (fun U cA q => q) (by decide) (by decide) am_boolean dX13_init_251 (by decide) (by decide) (by decide) g180 ?_
  obtain ⟨L181, e182, h⟩ := bk_inv h
  have e182 := Option.some.inj e182
  rw [e182]
  obtain ⟨g183, h⟩ := gd_inv h
  refine K_putR pf_X13_103_12 (fun _ => rfl) dX13_init_253 g183 ?_
  obtain ⟨L184, e185, h⟩ := bk_inv h
  have e185 := Option.some.inj e185
  rw [e185]
  refine K_lift (fun kc ks K => J_aload_n 0 dX13_init_256 rfl K) ?_
  refine K_lift (fun kc ks K => J_bipush (v := 80) dX13_init_257 (by decide) K) ?_
  obtain ⟨g186, h⟩ := gd_inv h
  refine K_newa (at_ := .int) (kd := 14) (t0 := 1) (n := 80) (fun g => rfl) (fun U cA q => q) (by decide) (by decide) am_int dX13_init_259 (by decide) (by decide) (by decide) g186 ?_
  obtain ⟨L187, e188, h⟩ := bk_inv h
  have e188 := Option.some.inj e188
  rw [e188]
  obtain ⟨g189, h⟩ := gd_inv h
  refine K_putR pf_X13_106_12 (fun _ => rfl) dX13_init_261 g189 ?_
  obtain ⟨L190, e191, h⟩ := bk_inv h
  have e191 := Option.some.inj e191
  rw [e191]
  refine K_lift (fun kc ks K => J_aload_n 0 dX13_init_264 rfl K) ?_
  refine K_lift (fun kc ks K => J_sipush (v := 1600) dX13_init_265 (by decide) K) ?_
  obtain ⟨g192, h⟩ := gd_inv h
  refine K_newa (at_ := .int) (kd := 14) (t0 := 1) (n := 1600) (fun g => rfl) (fun U cA q => q) (by decide) (by decide) am_int dX13_init_268 (by decide) (by decide) (by decide) g192 ?_
  obtain ⟨L193, e194, h⟩ := bk_inv h
  have e194 := Option.some.inj e194
  rw [e194]
  obtain ⟨g195, h⟩ := gd_inv h
  refine K_putR pf_X13_109_12 (fun _ => rfl) dX13_init_270 g195 ?_
  obtain ⟨L196, e197, h⟩ := bk_inv h
  have e197 := Option.some.inj e197
  rw [e197]
  refine K_lift (fun kc ks K => J_aload_n 0 dX13_init_273 rfl K) ?_
  refine K_lift (fun kc ks K => J_bipush (v := 40) dX13_init_274 (by decide) K) ?_
  obtain ⟨g198, h⟩ := gd_inv h
  refine K_newa (at_ := .int) (kd := 14) (t0 := 1) (n := 40) (fun g => rfl) (fun U cA q => q) (by decide) (by decide) am_int dX13_init_276 (by decide) (by decide) (by decide) g198 ?_
  obtain ⟨L199, e200, h⟩ := bk_inv h
  have e200 := Option.some.inj e200
  rw [e200]
  obtain ⟨g201, h⟩ := gd_inv h
  refine K_putR pf_X13_112_12 (fun _ => rfl) dX13_init_278 g201 ?_
  obtain ⟨L202, e203, h⟩ := bk_inv h
  have e203 := Option.some.inj e203
  rw [e203]
  refine K_lift (fun kc ks K => J_aload_n 0 dX13_init_281 rfl K) ?_
  refine K_lift (fun kc ks K => J_sipush (v := 3200) dX13_init_282 (by decide) K) ?_
  obtain ⟨g204, h⟩ := gd_inv h
  refine K_newa (at_ := .int) (kd := 14) (t0 := 1) (n := 3200) (fun g => rfl) (fun U cA q => q) (by decide) (by decide) am_int dX13_init_285 (by decide) (by decide) (by decide) g204 ?_
  obtain ⟨L205, e206, h⟩ := bk_inv h
  have e206 := Option.some.inj e206
  rw [e206]
  obtain ⟨g207, h⟩ := gd_inv h
  refine K_putR pf_X13_115_12 (fun _ => rfl) dX13_init_287 g207 ?_
  obtain ⟨L208, e209, h⟩ := bk_inv h
  have e209 := Option.some.inj e209
  rw [e209]
  refine K_lift (fun kc ks K => J_aload_n 0 dX13_init_290 rfl K) ?_
  refine K_lift (fun kc ks K => J_sipush (v := 240) dX13_init_291 (by decide) K) ?_
  obtain ⟨g210, h⟩ := gd_inv h
  refine K_newa (at_ := .int) (kd := 14) (t0 := 1) (n := 240) (fun g => rfl) (fun U cA q => q) (by decide) (by decide) am_int dX13_init_294 (by decide) (by decide) (by decide) g210 ?_
  obtain ⟨L211, e212, h⟩ := bk_inv h
  have e212 := Option.some.inj e212
  rw [e212]
  obtain ⟨g213, h⟩ := gd_inv h
  refine K_putR pf_X13_118_12 (fun _ => rfl) dX13_init_296 g213 ?_
  obtain ⟨L214, e215, h⟩ := bk_inv h
  have e215 := Option.some.inj e215
  rw [e215]
  refine K_lift (fun kc ks K => J_aload_n 0 dX13_init_299 rfl K) ?_
  refine K_lift (fun kc ks K => J_bipush (v := 7) dX13_init_300 (by decide) K) ?_
  obtain ⟨g216, h⟩ := gd_inv h
  refine K_newa (at_ := .int) (kd := 14) (t0 := 1) (n := 7) (fun g => rfl) (fun U cA q => q) (by decide) (by decide) am_int dX13_init_302 (by decide) (by decide) (by decide) g216 ?_
  obtain ⟨L217, e218, h⟩ := bk_inv h
  have e218 := Option.some.inj e218
  rw [e218]
  obtain ⟨g219, h⟩ := gd_inv h
  refine K_putR pf_X13_121_12 (fun _ => rfl) dX13_init_304 g219 ?_
  obtain ⟨L220, e221, h⟩ := bk_inv h
  have e221 := Option.some.inj e221
  rw [e221]
  refine K_lift (fun kc ks K => J_aload_n 0 dX13_init_307 rfl K) ?_
  refine K_lift (fun kc ks K => J_bipush (v := 56) dX13_init_308 (by decide) K) ?_
  obtain ⟨g222, h⟩ := gd_inv h
  refine K_newa (at_ := .int) (kd := 14) (t0 := 1) (n := 56) (fun g => rfl) (fun U cA q => q) (by decide) (by decide) am_int dX13_init_310 (by decide) (by decide) (by decide) g222 ?_
  obtain ⟨L223, e224, h⟩ := bk_inv h
  have e224 := Option.some.inj e224
  rw [e224]
  obtain ⟨g225, h⟩ := gd_inv h
  refine K_putR pf_X13_124_12 (fun _ => rfl) dX13_init_312 g225 ?_
  obtain ⟨L226, e227, h⟩ := bk_inv h
  have e227 := Option.some.inj e227
  rw [e227]
  refine K_lift (fun kc ks K => J_aload_n 0 dX13_init_315 rfl K) ?_
  refine K_lift (fun kc ks K => J_bipush (v := 7) dX13_init_316 (by decide) K) ?_
  obtain ⟨g228, h⟩ := gd_inv h
  refine K_newa (at_ := .int) (kd := 14) (t0 := 1) (n := 7) (fun g => rfl) (fun U cA q => q) (by decide) (by decide) am_int dX13_init_318 (by decide) (by decide) (by decide) g228 ?_
  obtain ⟨L229, e230, h⟩ := bk_inv h
  have e230 := Option.some.inj e230
  rw [e230]
  obtain ⟨g231, h⟩ := gd_inv h
  refine K_putR pf_X13_127_12 (fun _ => rfl) dX13_init_320 g231 ?_
  obtain ⟨L232, e233, h⟩ := bk_inv h
  have e233 := Option.some.inj e233
  rw [e233]
  refine K_lift (fun kc ks K => J_aload_n 0 dX13_init_323 rfl K) ?_
  refine K_lift (fun kc ks K => J_bipush (v := 6) dX13_init_324 (by decide) K) ?_
  obtain ⟨g234, h⟩ := gd_inv h
  refine K_newa (at_ := .int) (kd := 14) (t0 := 1) (n := 6) (fun g => rfl) (fun U cA q => q) (by decide) (by decide) am_int dX13_init_326 (by decide) (by decide) (by decide) g234 ?_
  obtain ⟨L235, e236, h⟩ := bk_inv h
  have e236 := Option.some.inj e236
  rw [e236]
  obtain ⟨g237, h⟩ := gd_inv h
  refine K_putR pf_X13_130_12 (fun _ => rfl) dX13_init_328 g237 ?_
  obtain ⟨L238, e239, h⟩ := bk_inv h
  have e239 := Option.some.inj e239
  rw [e239]
  refine K_lift (fun kc ks K => J_aload_n 0 dX13_init_331 rfl K) ?_
  refine K_lift (fun kc ks K => J_bipush (v := 6) dX13_init_332 (by decide) K) ?_
  obtain ⟨g240, h⟩ := gd_inv h
  refine K_newa (at_ := .int) (kd := 14) (t0 := 1) (n := 6) (fun g => rfl) (fun U cA q => q) (by decide) (by decide) am_int dX13_init_334 (by decide) (by decide) (by decide) g240 ?_
  obtain ⟨L241, e242, h⟩ := bk_inv h
  have e242 := Option.some.inj e242
  rw [e242]
  obtain ⟨g243, h⟩ := gd_inv h
  refine K_putR pf_X13_133_12 (fun _ => rfl) dX13_init_336 g243 ?_
  obtain ⟨L244, e245, h⟩ := bk_inv h
  have e245 := Option.some.inj e245
  rw [e245]
  refine K_lift (fun kc ks K => J_aload_n 0 dX13_init_339 rfl K) ?_
  refine K_lift (fun kc ks K => J_bipush (v := 56) dX13_init_340 (by decide) K) ?_
  obtain ⟨g246, h⟩ := gd_inv h
  refine K_newa (at_ := .int) (kd := 14) (t0 := 1) (n := 56) (fun g => rfl) (fun U cA q => q) (by decide) (by decide) am_int dX13_init_342 (by decide) (by decide) (by decide) g246 ?_
  obtain ⟨L247, e248, h⟩ := bk_inv h
  have e248 := Option.some.inj e248
  rw [e248]
  obtain ⟨g249, h⟩ := gd_inv h
  refine K_putR pf_X13_136_12 (fun _ => rfl) dX13_init_344 g249 ?_
  obtain ⟨L250, e251, h⟩ := bk_inv h
  have e251 := Option.some.inj e251
  rw [e251]
  refine K_lift (fun kc ks K => J_aload_n 0 dX13_init_347 rfl K) ?_
  refine K_lift (fun kc ks K => J_bipush (v := 7) dX13_init_348 (by decide) K) ?_
  obtain ⟨g252, h⟩ := gd_inv h
  refine K_newa (at_ := .int) (kd := 14) (t0 := 1) (n := 7) (fun g => rfl) (fun U cA q => q) (by decide) (by decide) am_int dX13_init_350 (by decide) (by decide) (by decide) g252 ?_
  obtain ⟨L253, e254, h⟩ := bk_inv h
  have e254 := Option.some.inj e254
  rw [e254]
  obtain ⟨g255, h⟩ := gd_inv h
  refine K_putR pf_X13_139_12 (fun _ => rfl) dX13_init_352 g255 ?_
  obtain ⟨L256, e257, h⟩ := bk_inv h
  have e257 := Option.some.inj e257
  rw [e257]
  refine K_lift (fun kc ks K => J_aload_n 0 dX13_init_355 rfl K) ?_
  refine K_lift (fun kc ks K => J_bipush (v := 8) dX13_init_356 (by decide) K) ?_
  obtain ⟨g258, h⟩ := gd_inv h
  refine K_newa (at_ := .int) (kd := 14) (t0 := 1) (n := 8) (fun g => rfl) (fun U cA q => q) (by decide) (by decide) am_int dX13_init_358 (by decide) (by decide) (by decide) g258 ?_
  obtain ⟨L259, e260, h⟩ := bk_inv h
  have e260 := Option.some.inj e260
  rw [e260]
  obtain ⟨g261, h⟩ := gd_inv h
  refine K_putR pf_X13_142_12 (fun _ => rfl) dX13_init_360 g261 ?_
  obtain ⟨L262, e263, h⟩ := bk_inv h
  have e263 := Option.some.inj e263
  rw [e263]
  refine K_lift (fun kc ks K => J_aload_n 0 dX13_init_363 rfl K) ?_
  refine K_lift (fun kc ks K => J_bipush (v := 7) dX13_init_364 (by decide) K) ?_
  obtain ⟨g264, h⟩ := gd_inv h
  refine K_newa (at_ := .int) (kd := 14) (t0 := 1) (n := 7) (fun g => rfl) (fun U cA q => q) (by decide) (by decide) am_int dX13_init_366 (by decide) (by decide) (by decide) g264 ?_
  obtain ⟨L265, e266, h⟩ := bk_inv h
  have e266 := Option.some.inj e266
  rw [e266]
  obtain ⟨g267, h⟩ := gd_inv h
  refine K_putR pf_X13_145_12 (fun _ => rfl) dX13_init_368 g267 ?_
  obtain ⟨L268, e269, h⟩ := bk_inv h
  have e269 := Option.some.inj e269
  rw [e269]
  refine K_lift (fun kc ks K => J_aload_n 0 dX13_init_371 rfl K) ?_
  refine K_lift (fun kc ks K => J_bipush (v := 7) dX13_init_372 (by decide) K) ?_
  obtain ⟨g270, h⟩ := gd_inv h
  refine K_newa (at_ := .int) (kd := 14) (t0 := 1) (n := 7) (fun g => rfl) (fun U cA q => q) (by decide) (by decide) am_int dX13_init_374 (by decide) (by decide) (by decide) g270 ?_
  obtain ⟨L271, e272, h⟩ := bk_inv h
  have e272 := Option.some.inj e272
  rw [e272]
  obtain ⟨g273, h⟩ := gd_inv h
  refine K_putR pf_X13_148_12 (fun _ => rfl) dX13_init_376 g273 ?_
  obtain ⟨L274, e275, h⟩ := bk_inv h
  have e275 := Option.some.inj e275
  rw [e275]
  refine K_lift (fun kc ks K => J_aload_n 0 dX13_init_379 rfl K) ?_
  refine K_lift (fun kc ks K => J_sipush (v := 320) dX13_init_380 (by decide) K) ?_
  obtain ⟨g276, h⟩ := gd_inv h
  refine K_newa (at_ := .int) (kd := 14) (t0 := 1) (n := 320) (fun g => rfl) (fun U cA q => q) (by decide) (by decide) am_int dX13_init_383 (by decide) (by decide) (by decide) g276 ?_
  obtain ⟨L277, e278, h⟩ := bk_inv h
  have e278 := Option.some.inj e278
  rw [e278]
  obtain ⟨g279, h⟩ := gd_inv h
  refine K_putR pf_X13_151_12 (fun _ => rfl) dX13_init_385 g279 ?_
  obtain ⟨L280, e281, h⟩ := bk_inv h
  have e281 := Option.some.inj e281
  rw [e281]
  refine K_lift (fun kc ks K => J_aload_n 0 dX13_init_388 rfl K) ?_
  refine K_lift (fun kc ks K => J_bipush (v := 7) dX13_init_389 (by decide) K) ?_
  obtain ⟨g282, h⟩ := gd_inv h
  refine K_newa (at_ := .int) (kd := 14) (t0 := 1) (n := 7) (fun g => rfl) (fun U cA q => q) (by decide) (by decide) am_int dX13_init_391 (by decide) (by decide) (by decide) g282 ?_
  obtain ⟨L283, e284, h⟩ := bk_inv h
  have e284 := Option.some.inj e284
  rw [e284]
  obtain ⟨g285, h⟩ := gd_inv h
  refine K_putR pf_X13_154_12 (fun _ => rfl) dX13_init_393 g285 ?_
  obtain ⟨L286, e287, h⟩ := bk_inv h
  have e287 := Option.some.inj e287
  rw [e287]
  refine K_lift (fun kc ks K => J_aload_n 0 dX13_init_396 rfl K) ?_
  refine K_lift (fun kc ks K => J_bipush (v := 40) dX13_init_397 (by decide) K) ?_
  obtain ⟨g288, h⟩ := gd_inv h
  refine K_newa (at_ := .int) (kd := 14) (t0 := 1) (n := 40) (fun g => rfl) (fun U cA q => q) (by decide) (by decide) am_int dX13_init_399 (by decide) (by decide) (by decide) g288 ?_
  obtain ⟨L289, e290, h⟩ := bk_inv h
  have e290 := Option.some.inj e290
  rw [e290]
  obtain ⟨g291, h⟩ := gd_inv h
  refine K_putR pf_X13_157_12 (fun _ => rfl) dX13_init_401 g291 ?_
  obtain ⟨L292, e293, h⟩ := bk_inv h
  have e293 := Option.some.inj e293
  rw [e293]
  refine K_lift (fun kc ks K => J_aload_n 0 dX13_init_404 rfl K) ?_
  refine K_lift (fun kc ks K => J_sipush (v := 5440) dX13_init_405 (by decide) K) ?_
  obtain ⟨g294, h⟩ := gd_inv h
  refine K_newa (at_ := .int) (kd := 14) (t0 := 1) (n := 5440) (fun g => rfl) (fun U cA q => q) (by decide) (by decide) am_int dX13_init_408 (by decide) (by decide) (by decide) g294 ?_
  obtain ⟨L295, e296, h⟩ := bk_inv h
  have e296 := Option.some.inj e296
  rw [e296]
  obtain ⟨g297, h⟩ := gd_inv h
  refine K_putR pf_X13_160_12 (fun _ => rfl) dX13_init_410 g297 ?_
  obtain ⟨L298, e299, h⟩ := bk_inv h
  have e299 := Option.some.inj e299
  rw [e299]
  refine K_lift (fun kc ks K => J_aload_n 0 dX13_init_413 rfl K) ?_
  refine K_lift (fun kc ks K => J_sipush (v := 192) dX13_init_414 (by decide) K) ?_
  obtain ⟨g300, h⟩ := gd_inv h
  refine K_newa (at_ := .boolean) (kd := 16) (t0 := 3) (n := 192) (fun g => rfl) (fun U cA q => q) (by decide) (by decide) am_boolean dX13_init_417 (by decide) (by decide) (by decide) g300 ?_
  obtain ⟨L301, e302, h⟩ := bk_inv h
  have e302 := Option.some.inj e302
  rw [e302]
  obtain ⟨g303, h⟩ := gd_inv h
  refine K_putR pf_X13_163_12 (fun _ => rfl) dX13_init_419 g303 ?_
  obtain ⟨L304, e305, h⟩ := bk_inv h
  have e305 := Option.some.inj e305
  rw [e305]
  refine K_lift (fun kc ks K => J_aload_n 0 dX13_init_422 rfl K) ?_
  refine K_lift (fun kc ks K => J_bipush (v := 12) dX13_init_423 (by decide) K) ?_
  obtain ⟨g306, h⟩ := gd_inv h
  refine K_newa (at_ := .int) (kd := 14) (t0 := 1) (n := 12) (fun g => rfl) (fun U cA q => q) (by decide) (by decide) am_int dX13_init_425 (by decide) (by decide) (by decide) g306 ?_
  obtain ⟨L307, e308, h⟩ := bk_inv h
  have e308 := Option.some.inj e308
  rw [e308]
  obtain ⟨g309, h⟩ := gd_inv h
  refine K_putR pf_X13_166_12 (fun _ => rfl) dX13_init_427 g309 ?_
  obtain ⟨L310, e311, h⟩ := bk_inv h
  have e311 := Option.some.inj e311
  rw [e311]
  refine K_lift (fun kc ks K => J_iconst (v := 0) dX13_init_430 (by decide) K) ?_
  refine K_lift (fun kc ks K => J_istore_n (i := 1) (ls' := [(1, .int 0), (0, .ref k0)]) dX13_init_431 rfl (by decide) rfl K) ?_
  refine K_lift (fun kc ks K => J_pick [1, 0] rfl K) ?_
  exact t_X13_init_432 _ _ _ _ _ h
