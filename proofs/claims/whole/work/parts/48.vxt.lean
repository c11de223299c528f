/-! a throw that the one row of a method's table takes, whether the row's class has been looked up before or not -/
theorem ct_out {e : Env} {s : State} {f : JFrame} {a : Addr} {r : List Frame} {x : ExceptionTableEntry} {k : ClassId} {ce : Cell} {meth : Method} {cd : Code} {zk : Class}
    (hm : s.vm.method? f.method = some meth ∧ meth.code = some cd ∧ cd.exceptionTable.toList = [x]) (hx : covers x f.pc = true ∧ x.catchType ≠ 0) (hlk : s.vm.ClassLinks e.platform f.method.cls x.catchType k)
    (ha : s.heap[a]? = some ce ∧ ce.vm = .none) (hz : s.vm.classes[k]? = some zk) (hf : s.vm.assignable ce.cls k = true) :
    (stepThrowing e s a (.java f :: r)).1 = (s.setVm (s.vm.noted f.method.cls x.catchType (.cls k))).setFrames (.java { f with pc := x.handlerPc, stack := [.ref a] } :: r) := by
  obtain ⟨y1, y2⟩ := (resolveClass_links e.toSetting hlk).op (op := VmOp.resolveClass f.method.cls x.catchType) rfl
  have al := (Vm.Alike.refl s.vm).noted f.method.cls x.catchType (.cls k)
  obtain ⟨zc, hzc⟩ := Vm.classAt_of_assignable hf ⟨zk, hz⟩
  obtain ⟨z1, h1, -⟩ := al.2.2 _ _ hz
  obtain ⟨z2, h2, -⟩ := al.2.2 _ _ hzc
  have h3 : (s.vm.noted f.method.cls x.catchType (.cls k)).assignable ce.cls k = true := by rw [al.assignable, hf]
  have h4 := hx.1
  unfold covers at h4
  have look : ∀ (P : Handler → Pre) (E : CtlPost) (d : Bool) (acts : List Action), wp (findHandler f a) P E e d acts s ↔ P (.found x.handlerPc) d acts (s.setVm (s.vm.noted f.method.cls x.catchType (.cls k))) := fun P E d acts => by
    rw [W.findHandler_eq hm.1 hm.2.1, hm.2.2]
    simp [findHandler.go, h4, hx.2, y1, y2, ha.1, ha.2, h1, h2, h3, VmOp.acts, VmOp.dirties]
  show (searchFrame e s [] a f f r).1 = _
  unfold searchFrame vmDo
  generalize hg : Sem.go _ e false [] s = o
  obtain ⟨as, rfl, -⟩ := Sem.eq_ok_of hg (a := Handler.found x.handlerPc) (s' := s.setVm _) (acts' := []) (by simp [look]; rfl)
  rfl
theorem vx_catch {p : Program} {l : Launch} {e : Env} {R : Room} {s : State} {m : MethodId} {args : Array Value} {below : List Frame} {meth : Method} {c : Code} {H : Heap} {locs : List Loc} {cells slots : Nat} {Q : State → Prop} {pc : Nat} {ls : Array Slot} {rest : List Value} {own name : String} {E : String} {ce : Cell} {q : Addr}
    (hown : s.vm.findClass own = some m.cls) (x : ExceptionTableEntry) (ht : c.exceptionTable.toList = [x]) (hx : covers x pc = true) (h0 : x.catchType ≠ 0)
    (hlink : (Cond.classLink own x.catchType name).before args s = true) (hcast : (Cond.castable E name).before args s = true) (hcell : H[q]? = some ce) (hv : ce.vm = .none) (hcl : s.vm.findClass E = some ce.cls)
    (kk : W p l e R s m args below meth c H locs cells slots Q (F0 m x.handlerPc ls [.ref q])) : vx_W p l e R s m args below meth c H locs cells slots Q (F0 m pc ls rest) q := by
  intro T hT X
  obtain ⟨i1, i2, g1, g2, g3⟩ := Cond.castable_spec hcast
  obtain rfl : i1 = ce.cls := Option.some.inj (g1.symm.trans hcl)
  obtain ⟨i3, g4, lk⟩ := Cond.classLink_spec hown hlink e.platform (by rw [X.admits.platform])
  obtain rfl : i2 = i3 := Option.some.inj (g2.symm.trans g4)
  obtain ⟨kd, _, _, kt, hkd, _, _, _, _, hkt, _, hop⟩ := lk.here
  have hw := X.warmed.noted hkd hop (State.rightAt_cls lk)
  have al := X.warmed.alike
  obtain ⟨kt1, hkt1, -⟩ := al.2.2 _ _ hkt
  obtain ⟨t, a1, b1⟩ := kk (T.setVm (T.vm.noted m.cls x.catchType (.cls i2))) hT (X.noted hw)
  obtain ⟨go1, go2⟩ := X.here.throwing (g := F0 m pc ls rest) q
  refine ⟨t, Steps.head go1 go2 ?_, b1⟩
  rw [stepThread_throwing (frames_entered X.here.top _), ct_out (f := F0 m pc ls rest) (s := (T.setTop (F0 m pc ls rest)).pushFrame (.throwing q)) (k := i2) (ce := ce) (zk := kt1) ⟨X.method', X.code, ht⟩ ⟨hx, h0⟩ (X.warmed.classLinks lk) ⟨by rw [← hT] at hcell; exact hcell, hv⟩ hkt1 (by show T.vm.assignable _ _ = true; rw [al.assignable]; exact g3)]
  obtain ⟨F, fF⟩ := Option.isSome_iff_exists.mp X.here.top
  obtain ⟨B, fB⟩ := State.topJava?_eq_some.mp fF
  have fB1 : (T.setVm (T.vm.noted m.cls x.catchType (.cls i2))).frames = .java F :: B := fB
  have swap : ∀ (u : State) (w : Vm) (P R : List Frame), ((u.setFrames P).setVm w).setFrames R = (u.setVm w).setFrames R := fun u w P R => State.setFrames_setFrames (s := u.setVm w) ..
  rw [State.setTop_of_frames _ fB1] at a1
  rw [fB, State.pushFrame, List.tail_cons, swap, State.setTop_of_frames _ fB, swap]
  exact a1
