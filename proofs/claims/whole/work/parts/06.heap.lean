/-- a field or a place written -/
def jup {α : Type} (f : Nat → Nat → α) (k j : Nat) (x : α) : Nat → Nat → α := fun a b => if a = k ∧ b = j then x else f a b
theorem jup_ne {α : Type} {f : Nat → Nat → α} {k j : Nat} {x : α} {a : Nat} (h : a ≠ k) : jup f k j x a = f a := funext fun b => if_neg (fun q => h q.1)
theorem jup_at {α : Type} (f : Nat → Nat → α) (k j : Nat) (x : α) (b : Nat) : jup f k j x k b = if b = j then x else f k b := by
  unfold jup
  by_cases h : b = j
  · rw [if_pos ⟨rfl, h⟩, if_pos h]
  · rw [if_neg (fun q => h q.2), if_neg h]
theorem jup_updI (f : Nat → Nat → Int32) (k j : Nat) (x : Int32) : jup f k j x k = upd (f k) j x := funext fun b => by rw [jup_at]; rfl
theorem jup_updL (f : Nat → Nat → Int64) (k j : Nat) (x : Int64) : jup f k j x k = vp_updL (f k) j x := funext fun b => by rw [jup_at]; rfl
theorem jent_obj {g : jG} {S : jPS} {k ci : Nat} (hk : (S.1.1 k).1 = ci) (h13 : ci < 13) : jent g S k = .inr (ci, (List.range (jnf ci)).map (fun j => jfv g S.2 (jcode (jty ci j)) k j)) := by
  unfold jent
  rw [hk, if_pos h13]
theorem jent_arr {g : jG} {S : jPS} {k kd n : Nat} (hk : S.1.1 k = (kd, n)) (h13 : ¬ kd < 13) : jent g S k = .inl (g.2.2.1 kd, n, jar g S.2 kd k) := by
  unfold jent
  rw [hk, if_neg h13]
theorem jflds {g : jG} {S : jHS} {ci k j : Nat} (hj : j < jnf ci) : ((List.range (jnf ci)).map (fun j => jfv g S (jcode (jty ci j)) k j))[j]? = some (jfv g S (jcode (jty ci j)) k j) := by
  rw [List.getElem?_map, List.getElem?_range hj]
  rfl
theorem jflds_set {g : jG} {S S' : jHS} {ci k j : Nat} {v : Value} (hj : j < jnf ci) (hv : jfv g S' (jcode (jty ci j)) k j = v) (ho : ∀ i, i ≠ j → jfv g S' (jcode (jty ci i)) k i = jfv g S (jcode (jty ci i)) k i) :
    ((List.range (jnf ci)).map (fun i => jfv g S (jcode (jty ci i)) k i)).set j v = (List.range (jnf ci)).map (fun i => jfv g S' (jcode (jty ci i)) k i) := by
  apply List.ext_getElem?
  intro i
  by_cases hi : i < jnf ci
  · rw [jflds (S := S') hi]
    by_cases h : j = i
    · subst h
      rw [List.getElem?_set_self (by simpa using hi), hv]
    · rw [List.getElem?_set_ne h, jflds hi, ho i (fun q => h q.symm)]
  · rw [List.getElem?_eq_none (by simpa using hi), List.getElem?_eq_none (by simpa using hi)]
/-- what the tables say of a class -/
def jCL (ci : Nat) (C : String) (T : u_T) (N : Nat) : Prop := vwCl[ci]? = some (C, T, N) ∧ ci < 13 ∧ jnf ci = N ∧ (∀ w ∈ u_ws C T N, w ∈ jgt) ∧ (∀ k, k < N → parseFieldDescriptor (T k).2.2.1 = some (jty ci k)) ∧ ∀ a, a < N → ∀ b, b < N → a ≠ b → (T a).2.1 ≠ (T b).2.1
/-- the entry idx of a file is field j of class ci, of kind t -/
def jGF (own : String) (idx ci j t : Nat) : Prop := ∃ (ref C : String) (T : u_T) (N : Nat), jCL ci C T N ∧ j < N ∧ jcode (jty ci j) = t ∧ Cond.fieldLink own idx ref (T j).2.1 (T j).2.2.1 ∈ jgt ∧ (ref = (T j).1 ∨ Cond.sameField ref (T j).1 (T j).2.1 (T j).2.2.1 ∈ jgt)
def jPF (own : String) (idx ci j t : Nat) (fin : Bool) : Prop := ∃ (ref C : String) (T : u_T) (N : Nat), jCL ci C T N ∧ j < N ∧ jcode (jty ci j) = t ∧ Cond.fieldLink own idx ref (T j).2.1 (T j).2.2.1 ∈ jgt ∧ (ref = (T j).1 ∨ Cond.sameField ref (T j).1 (T j).2.1 (T j).2.2.1 ∈ jgt) ∧ (T j).2.2.2 = fin ∧ (fin = true → (T j).1 = own)
theorem jsame {args : Array Value} {s : State} {ref o n d : String} (hts : ∀ w ∈ jgt, w.before args s = true) (h : ref = o ∨ Cond.sameField ref o n d ∈ jgt) : ∀ x, s.fieldFound? o n d = some x → s.fieldFound? ref n d = some x := by
  rcases h with rfl | h
  · exact fun _ q => q
  · exact fun x q => u_same (hts _ h) x q
theorem jmem_ws {g : jG} {S : jPS} {H : Heap} {k : Nat} (hP : jR g S H) (hn : k < S.1.2) : (jws g S)[k]? = some (jad g k, jent g S k) := by
  rw [jws_get hn]
  unfold jad
  rw [if_pos (Nat.lt_of_lt_of_le hn hP.2.1)]
theorem jad_eq {g : jG} {S : jPS} {H : Heap} {k : Nat} (hP : jR g S H) (hn : k < S.1.2) : jad g k = g.1 + k := if_pos (Nat.lt_of_lt_of_le hn hP.2.1)

theorem J_getI {b : jMI} {d kc ks : Nat} {Q : Option Value → jPS → Prop} {pc : Nat} {ls : List (Nat × Value)} {st : List Value} {S : jPS} {idx ci j k : Nat}  (hF : jGF b.1 idx ci j 0) (hdg : decode b.2.2.1 pc = .ok (.getfield idx, 3)) (hk : (S.1.1 k).1 = ci) (hn : k < S.1.2) (K : J b d kc ks Q (pc + 3) ls (.int (S.2.1 k j) :: st) S) : J b d kc ks Q pc ls (.ref k :: st) S := by
  intro g p l e R s m args below meth c cells slots Z C Rt H locs lsA hv hP hS
  obtain ⟨ref, Cn, T, N, ⟨c1, c2, c3, c4, c5, c6⟩, hj, ht, hl, hs⟩ := hF
  have he : (jws g S)[k]? = some (jad g k, .inr (ci, (List.range (jnf ci)).map (fun j => jfv g S.2 (jcode (jty ci j)) k j))) := by rw [jmem_ws hP hn, jent_obj hk c2]
  have hfv : jfv g S.2 (jcode (jty ci j)) k j = .int (S.2.1 k j) := by
    rw [ht]
    exact rfl
  refine va_get C.1.1 C.1.2.1 C.1.2.2.2.2 c4 C.1.2.2.2.1 C.2.1.1 hP.1 k he c1 j hj (C.1.2.2.2.2 _ hl) (jsame C.1.2.2.2.2 hs) ((jflds (by rw [c3]; exact hj)).trans (congrArg some hfv)) hdg (K g p l e R s m args below meth c cells slots Z C Rt H locs lsA hv hP hS)

theorem J_getL {b : jMI} {d kc ks : Nat} {Q : Option Value → jPS → Prop} {pc : Nat} {ls : List (Nat × Value)} {st : List Value} {S : jPS} {idx ci j k : Nat}  (hF : jGF b.1 idx ci j 1) (hdg : decode b.2.2.1 pc = .ok (.getfield idx, 3)) (hk : (S.1.1 k).1 = ci) (hn : k < S.1.2) (K : J b d kc ks Q (pc + 3) ls (.long (S.2.2.1 k j) :: st) S) : J b d kc ks Q pc ls (.ref k :: st) S := by
  intro g p l e R s m args below meth c cells slots Z C Rt H locs lsA hv hP hS
  obtain ⟨ref, Cn, T, N, ⟨c1, c2, c3, c4, c5, c6⟩, hj, ht, hl, hs⟩ := hF
  have he : (jws g S)[k]? = some (jad g k, .inr (ci, (List.range (jnf ci)).map (fun j => jfv g S.2 (jcode (jty ci j)) k j))) := by rw [jmem_ws hP hn, jent_obj hk c2]
  have hfv : jfv g S.2 (jcode (jty ci j)) k j = .long (S.2.2.1 k j) := by
    rw [ht]
    exact rfl
  refine va_get C.1.1 C.1.2.1 C.1.2.2.2.2 c4 C.1.2.2.2.1 C.2.1.1 hP.1 k he c1 j hj (C.1.2.2.2.2 _ hl) (jsame C.1.2.2.2.2 hs) ((jflds (by rw [c3]; exact hj)).trans (congrArg some hfv)) hdg (K g p l e R s m args below meth c cells slots Z C Rt H locs lsA hv hP hS)

theorem J_getR {b : jMI} {d kc ks : Nat} {Q : Option Value → jPS → Prop} {pc : Nat} {ls : List (Nat × Value)} {st : List Value} {S : jPS} {idx ci j k : Nat} {q : Nat} (hq : S.2.2.2 k j = some q) (hF : jGF b.1 idx ci j 2) (hdg : decode b.2.2.1 pc = .ok (.getfield idx, 3)) (hk : (S.1.1 k).1 = ci) (hn : k < S.1.2) (K : J b d kc ks Q (pc + 3) ls (.ref q :: st) S) : J b d kc ks Q pc ls (.ref k :: st) S := by
  intro g p l e R s m args below meth c cells slots Z C Rt H locs lsA hv hP hS
  obtain ⟨ref, Cn, T, N, ⟨c1, c2, c3, c4, c5, c6⟩, hj, ht, hl, hs⟩ := hF
  have he : (jws g S)[k]? = some (jad g k, .inr (ci, (List.range (jnf ci)).map (fun j => jfv g S.2 (jcode (jty ci j)) k j))) := by rw [jmem_ws hP hn, jent_obj hk c2]
  have hfv : jfv g S.2 (jcode (jty ci j)) k j = .ref (jad g q) := by
    rw [ht]
    exact by unfold jfv; rw [if_neg (by decide), if_neg (by decide), hq]; rfl
  refine va_get C.1.1 C.1.2.1 C.1.2.2.2.2 c4 C.1.2.2.2.1 C.2.1.1 hP.1 k he c1 j hj (C.1.2.2.2.2 _ hl) (jsame C.1.2.2.2.2 hs) ((jflds (by rw [c3]; exact hj)).trans (congrArg some hfv)) hdg (K g p l e R s m args below meth c cells slots Z C Rt H locs lsA hv hP hS)

theorem J_getN {b : jMI} {d kc ks : Nat} {Q : Option Value → jPS → Prop} {pc : Nat} {ls : List (Nat × Value)} {st : List Value} {S : jPS} {idx ci j k : Nat} (hq : S.2.2.2 k j = none) (hF : jGF b.1 idx ci j 2) (hdg : decode b.2.2.1 pc = .ok (.getfield idx, 3)) (hk : (S.1.1 k).1 = ci) (hn : k < S.1.2) (K : J b d kc ks Q (pc + 3) ls (.null :: st) S) : J b d kc ks Q pc ls (.ref k :: st) S := by
  intro g p l e R s m args below meth c cells slots Z C Rt H locs lsA hv hP hS
  obtain ⟨ref, Cn, T, N, ⟨c1, c2, c3, c4, c5, c6⟩, hj, ht, hl, hs⟩ := hF
  have he : (jws g S)[k]? = some (jad g k, .inr (ci, (List.range (jnf ci)).map (fun j => jfv g S.2 (jcode (jty ci j)) k j))) := by rw [jmem_ws hP hn, jent_obj hk c2]
  have hfv : jfv g S.2 (jcode (jty ci j)) k j = .null := by
    rw [ht]
    unfold jfv
    rw [if_neg (by decide), if_neg (by decide), hq]
    rfl
  refine va_get C.1.1 C.1.2.1 C.1.2.2.2.2 c4 C.1.2.2.2.1 C.2.1.1 hP.1 k he c1 j hj (C.1.2.2.2.2 _ hl) (jsame C.1.2.2.2.2 hs) ((jflds (by rw [c3]; exact hj)).trans (congrArg some hfv)) hdg (K g p l e R s m args below meth c cells slots Z C Rt H locs lsA hv hP hS)

def jwI (S : jPS) (k j : Nat) (x : Int32) : jPS := (S.1, (jup S.2.1 k j x, S.2.2))

theorem jwI_fv {g : jG} {S : jPS} {k j : Nat} {x : Int32} {t a i : Nat} (h : a ≠ k ∨ i ≠ j ∨ t ≠ 0 ∧ t < 3) (ht : t < 3) : jfv g (jwI S k j x).2 t a i = jfv g S.2 t a i := by
  match t, ht with
  | 0, _ => show Value.int (if a = k ∧ i = j then x else S.2.1 a i) = Value.int (S.2.1 a i); rw [if_neg (by omega)]
  | 1, _ => rfl
  | 2, _ => rfl
theorem jwI_ar {g : jG} {S : jPS} {k j : Nat} {x : Int32} {kd a : Nat} (h : a ≠ k) : jar g (jwI S k j x).2 kd a = jar g S.2 kd a := by
  unfold jar jwI
  dsimp only
  rw [jup_ne h]
theorem jwI_ent {g : jG} {S : jPS} {k j : Nat} {x : Int32} {a : Nat} (h : a ≠ k) : jent g (jwI S k j x) a = jent g S a := by
  show (if (S.1.1 a).1 < 13 then _ else _) = (if (S.1.1 a).1 < 13 then _ else _)
  by_cases h13 : (S.1.1 a).1 < 13
  · rw [if_pos h13, if_pos h13]
    congr 2
    exact List.map_congr_left (fun i _ => jwI_fv (Or.inl h) (by unfold jcode; split <;> decide))
  · rw [if_neg h13, if_neg h13]
    exact congrArg _ (congrArg _ (congrArg _ (jwI_ar h)))

def jwL (S : jPS) (k j : Nat) (x : Int64) : jPS := (S.1, (S.2.1, jup S.2.2.1 k j x, S.2.2.2))

theorem jwL_fv {g : jG} {S : jPS} {k j : Nat} {x : Int64} {t a i : Nat} (h : a ≠ k ∨ i ≠ j ∨ t ≠ 1 ∧ t < 3) (ht : t < 3) : jfv g (jwL S k j x).2 t a i = jfv g S.2 t a i := by
  match t, ht with
  | 0, _ => rfl
  | 1, _ => show Value.long (if a = k ∧ i = j then x else S.2.2.1 a i) = Value.long (S.2.2.1 a i); rw [if_neg (by omega)]
  | 2, _ => rfl
theorem jwL_ar {g : jG} {S : jPS} {k j : Nat} {x : Int64} {kd a : Nat} (h : a ≠ k) : jar g (jwL S k j x).2 kd a = jar g S.2 kd a := by
  unfold jar jwL
  dsimp only
  rw [jup_ne h]
theorem jwL_ent {g : jG} {S : jPS} {k j : Nat} {x : Int64} {a : Nat} (h : a ≠ k) : jent g (jwL S k j x) a = jent g S a := by
  show (if (S.1.1 a).1 < 13 then _ else _) = (if (S.1.1 a).1 < 13 then _ else _)
  by_cases h13 : (S.1.1 a).1 < 13
  · rw [if_pos h13, if_pos h13]
    congr 2
    exact List.map_congr_left (fun i _ => jwL_fv (Or.inl h) (by unfold jcode; split <;> decide))
  · rw [if_neg h13, if_neg h13]
    exact congrArg _ (congrArg _ (congrArg _ (jwL_ar h)))

def jwR (S : jPS) (k j : Nat) (x : Option Nat) : jPS := (S.1, (S.2.1, S.2.2.1, jup S.2.2.2 k j x))

theorem jwR_fv {g : jG} {S : jPS} {k j : Nat} {x : Option Nat} {t a i : Nat} (h : a ≠ k ∨ i ≠ j ∨ t ≠ 2 ∧ t < 3) (ht : t < 3) : jfv g (jwR S k j x).2 t a i = jfv g S.2 t a i := by
  match t, ht with
  | 0, _ => rfl
  | 1, _ => rfl
  | 2, _ => show va_rf (Option.map _ (if a = k ∧ i = j then x else S.2.2.2 a i)) = va_rf (Option.map _ (S.2.2.2 a i)); rw [if_neg (by omega)]
theorem jwR_ar {g : jG} {S : jPS} {k j : Nat} {x : Option Nat} {kd a : Nat} (h : a ≠ k) : jar g (jwR S k j x).2 kd a = jar g S.2 kd a := by
  unfold jar jwR
  dsimp only
  rw [jup_ne h]
theorem jwR_ent {g : jG} {S : jPS} {k j : Nat} {x : Option Nat} {a : Nat} (h : a ≠ k) : jent g (jwR S k j x) a = jent g S a := by
  show (if (S.1.1 a).1 < 13 then _ else _) = (if (S.1.1 a).1 < 13 then _ else _)
  by_cases h13 : (S.1.1 a).1 < 13
  · rw [if_pos h13, if_pos h13]
    congr 2
    exact List.map_congr_left (fun i _ => jwR_fv (Or.inl h) (by unfold jcode; split <;> decide))
  · rw [if_neg h13, if_neg h13]
    exact congrArg _ (congrArg _ (congrArg _ (jwR_ar h)))

set_option maxHeartbeats 1000000 in
theorem J_putI {b : jMI} {d kc ks : Nat} {Q : Option Value → jPS → Prop} {pc : Nat} {ls : List (Nat × Value)} {st : List Value} {S : jPS} {idx ci j k : Nat} {x : Int32}  (hoff : S.1.1 1000000 = (99, 0)) (hF : jPF b.1 idx ci j 0 false) (hdg : decode b.2.2.1 pc = .ok (.putfield idx, 3)) (hk : (S.1.1 k).1 = ci) (hn : k < S.1.2) (hx : narrow (jty ci j) (.int x) = .int x ∧ fits (jty ci j) (.int x) = true) (K : J b d kc ks Q (pc + 3) ls st (jwI S k j x)) : J b d kc ks Q pc ls (.int x :: .ref k :: st) S := by
  intro g p l e R s m args below meth c cells slots Z C Rt H locs lsA hv hP hS
  obtain ⟨ref, Cn, T, N, ⟨c1, c2, c3, c4, c5, c6⟩, hj, ht, hl, hs, hfin, how⟩ := hF
  have he : (jws g S)[k]? = some (jad g k, .inr (ci, (List.range (jnf ci)).map (fun j => jfv g S.2 (jcode (jty ci j)) k j))) := by rw [jmem_ws hP hn, jent_obj hk c2]
  have hset : (jws g S).set k (jad g k, .inr (ci, ((List.range (jnf ci)).map (fun j => jfv g S.2 (jcode (jty ci j)) k j)).set j (.int x))) = jws g (jwI S k j x) := by
    rw [jad_eq hP hn]
    refine jws_set rfl ?_ (fun a ha => jwI_ent ha)
    rw [jent_obj (S := jwI S k j x) hk c2]
    congr 2
    refine (jflds_set (by rw [c3]; exact hj) ?_ (fun i hi => jwI_fv (Or.inr (Or.inl hi)) (by unfold jcode; split <;> decide))).symm
    rw [ht]
    unfold jfv jwI
    simp [jup, va_rf]
  refine va_put (v := .int x) C.1.1 C.1.2.1 C.1.2.2.2.2 c4 (jty ci) c5 c6 C.1.2.2.2.1 C.2.1.1 hP.1 (jws_D g S) hS k he c1 j hj (C.1.2.2.2.2 _ hl) (jsame C.1.2.2.2.2 hs) hfin (c5 j hj) hx.1 hx.2 (by simp; rw [c3]; exact hj) hdg (fun H1 locs1 hP1 _ hS1 => K g p l e R s m args below meth c cells slots Z C Rt H1 locs1 lsA hv ⟨by rw [hset] at hP1; exact hP1, hP.2.1, fun z => absurd (hoff.symm.trans z) (by decide)⟩ hS1)

set_option maxHeartbeats 1000000 in
theorem J_putL {b : jMI} {d kc ks : Nat} {Q : Option Value → jPS → Prop} {pc : Nat} {ls : List (Nat × Value)} {st : List Value} {S : jPS} {idx ci j k : Nat} {x : Int64}  (hoff : S.1.1 1000000 = (99, 0)) (hF : jPF b.1 idx ci j 1 false) (hdg : decode b.2.2.1 pc = .ok (.putfield idx, 3)) (hk : (S.1.1 k).1 = ci) (hn : k < S.1.2)  (K : J b d kc ks Q (pc + 3) ls st (jwL S k j x)) : J b d kc ks Q pc ls (.long x :: .ref k :: st) S := by
  intro g p l e R s m args below meth c cells slots Z C Rt H locs lsA hv hP hS
  obtain ⟨ref, Cn, T, N, ⟨c1, c2, c3, c4, c5, c6⟩, hj, ht, hl, hs, hfin, how⟩ := hF
  have he : (jws g S)[k]? = some (jad g k, .inr (ci, (List.range (jnf ci)).map (fun j => jfv g S.2 (jcode (jty ci j)) k j))) := by rw [jmem_ws hP hn, jent_obj hk c2]
  have hset : (jws g S).set k (jad g k, .inr (ci, ((List.range (jnf ci)).map (fun j => jfv g S.2 (jcode (jty ci j)) k j)).set j (.long x))) = jws g (jwL S k j x) := by
    rw [jad_eq hP hn]
    refine jws_set rfl ?_ (fun a ha => jwL_ent ha)
    rw [jent_obj (S := jwL S k j x) hk c2]
    congr 2
    refine (jflds_set (by rw [c3]; exact hj) ?_ (fun i hi => jwL_fv (Or.inr (Or.inl hi)) (by unfold jcode; split <;> decide))).symm
    rw [ht]
    unfold jfv jwL
    simp [jup, va_rf]
  refine va_put (v := .long x) C.1.1 C.1.2.1 C.1.2.2.2.2 c4 (jty ci) c5 c6 C.1.2.2.2.1 C.2.1.1 hP.1 (jws_D g S) hS k he c1 j hj (C.1.2.2.2.2 _ hl) (jsame C.1.2.2.2.2 hs) hfin (c5 j hj) (by unfold jcode at ht; split at ht <;> first | (cases ht; done) | skip; all_goals first | rfl | (rename_i q; rw [q]; rfl)) (by unfold jcode at ht; split at ht <;> first | (cases ht; done) | skip; all_goals first | rfl | (rename_i q; rw [q]; rfl)) (by simp; rw [c3]; exact hj) hdg (fun H1 locs1 hP1 _ hS1 => K g p l e R s m args below meth c cells slots Z C Rt H1 locs1 lsA hv ⟨by rw [hset] at hP1; exact hP1, hP.2.1, fun z => absurd (hoff.symm.trans z) (by decide)⟩ hS1)

set_option maxHeartbeats 1000000 in
theorem J_putR {b : jMI} {d kc ks : Nat} {Q : Option Value → jPS → Prop} {pc : Nat} {ls : List (Nat × Value)} {st : List Value} {S : jPS} {idx ci j k : Nat} {x : Nat}  (hoff : S.1.1 1000000 = (99, 0)) (hF : jPF b.1 idx ci j 2 false) (hdg : decode b.2.2.1 pc = .ok (.putfield idx, 3)) (hk : (S.1.1 k).1 = ci) (hn : k < S.1.2)  (K : J b d kc ks Q (pc + 3) ls st (jwR S k j (some x))) : J b d kc ks Q pc ls (.ref x :: .ref k :: st) S := by
  intro g p l e R s m args below meth c cells slots Z C Rt H locs lsA hv hP hS
  obtain ⟨ref, Cn, T, N, ⟨c1, c2, c3, c4, c5, c6⟩, hj, ht, hl, hs, hfin, how⟩ := hF
  have he : (jws g S)[k]? = some (jad g k, .inr (ci, (List.range (jnf ci)).map (fun j => jfv g S.2 (jcode (jty ci j)) k j))) := by rw [jmem_ws hP hn, jent_obj hk c2]
  have hset : (jws g S).set k (jad g k, .inr (ci, ((List.range (jnf ci)).map (fun j => jfv g S.2 (jcode (jty ci j)) k j)).set j (.ref (jad g x)))) = jws g (jwR S k j (some x)) := by
    rw [jad_eq hP hn]
    refine jws_set rfl ?_ (fun a ha => jwR_ent ha)
    rw [jent_obj (S := jwR S k j (some x)) hk c2]
    congr 2
    refine (jflds_set (by rw [c3]; exact hj) ?_ (fun i hi => jwR_fv (Or.inr (Or.inl hi)) (by unfold jcode; split <;> decide))).symm
    rw [ht]
    unfold jfv jwR
    simp [jup, va_rf]
  refine va_put (v := .ref (jad g x)) C.1.1 C.1.2.1 C.1.2.2.2.2 c4 (jty ci) c5 c6 C.1.2.2.2.1 C.2.1.1 hP.1 (jws_D g S) hS k he c1 j hj (C.1.2.2.2.2 _ hl) (jsame C.1.2.2.2.2 hs) hfin (c5 j hj) (by unfold jcode at ht; split at ht <;> first | (cases ht; done) | skip; all_goals (rename_i q; rw [q]; rfl)) (by unfold jcode at ht; split at ht <;> first | (cases ht; done) | skip; all_goals (rename_i q; rw [q]; rfl)) (by simp; rw [c3]; exact hj) hdg (fun H1 locs1 hP1 _ hS1 => K g p l e R s m args below meth c cells slots Z C Rt H1 locs1 lsA hv ⟨by rw [hset] at hP1; exact hP1, hP.2.1, fun z => absurd (hoff.symm.trans z) (by decide)⟩ hS1)

theorem J_iald {b : jMI} {d kc ks : Nat} {Q : Option Value → jPS → Prop} {pc : Nat} {ls : List (Nat × Value)} {st : List Value} {S : jPS} {k n : Nat} {i : Int32} (hdg : decode b.2.2.1 pc = .ok (.iaload, 1)) (hk : S.1.1 k = (14, n)) (hn : k < S.1.2) (hin : vp_in i n) (K : J b d kc ks Q (pc + 1) ls (.int (S.2.1 k i.toNatClampNeg) :: st) S) : J b d kc ks Q pc ls (.int i :: .ref k :: st) S := by
  intro g p l e R s m args below meth c cells slots Z C Rt H locs lsA hv hP hS
  exact va_iald C.1.1 C.1.2.1 C.2.1.1 hP.1 k 1 (by rw [jmem_ws hP hn, jent_arr hk (by decide)]; rfl) rfl hin hdg (K g p l e R s m args below meth c cells slots Z C Rt H locs lsA hv hP hS)

theorem J_bald {b : jMI} {d kc ks : Nat} {Q : Option Value → jPS → Prop} {pc : Nat} {ls : List (Nat × Value)} {st : List Value} {S : jPS} {k n : Nat} {i : Int32} (hdg : decode b.2.2.1 pc = .ok (.baload, 1)) (hk : S.1.1 k = (13, n)) (hn : k < S.1.2) (hin : vp_in i n) (K : J b d kc ks Q (pc + 1) ls (.int (S.2.1 k i.toNatClampNeg) :: st) S) : J b d kc ks Q pc ls (.int i :: .ref k :: st) S := by
  intro g p l e R s m args below meth c cells slots Z C Rt H locs lsA hv hP hS
  exact va_bald C.1.1 C.1.2.1 C.2.1.1 hP.1 k 0 (by rw [jmem_ws hP hn, jent_arr hk (by decide)]; rfl) rfl hin hdg (K g p l e R s m args below meth c cells slots Z C Rt H locs lsA hv hP hS)

theorem J_zald {b : jMI} {d kc ks : Nat} {Q : Option Value → jPS → Prop} {pc : Nat} {ls : List (Nat × Value)} {st : List Value} {S : jPS} {k n : Nat} {i : Int32} (hdg : decode b.2.2.1 pc = .ok (.baload, 1)) (hk : S.1.1 k = (16, n)) (hn : k < S.1.2) (hin : vp_in i n) (K : J b d kc ks Q (pc + 1) ls (.int (S.2.1 k i.toNatClampNeg) :: st) S) : J b d kc ks Q pc ls (.int i :: .ref k :: st) S := by
  intro g p l e R s m args below meth c cells slots Z C Rt H locs lsA hv hP hS
  exact va_zald C.1.1 C.1.2.1 C.2.1.1 hP.1 k 3 (by rw [jmem_ws hP hn, jent_arr hk (by decide)]; rfl) rfl hin hdg (K g p l e R s m args below meth c cells slots Z C Rt H locs lsA hv hP hS)

theorem J_lald {b : jMI} {d kc ks : Nat} {Q : Option Value → jPS → Prop} {pc : Nat} {ls : List (Nat × Value)} {st : List Value} {S : jPS} {k n : Nat} {i : Int32} (hdg : decode b.2.2.1 pc = .ok (.laload, 1)) (hk : S.1.1 k = (15, n)) (hn : k < S.1.2) (hin : vp_in i n) (K : J b d kc ks Q (pc + 1) ls (.long (S.2.2.1 k i.toNatClampNeg) :: st) S) : J b d kc ks Q pc ls (.int i :: .ref k :: st) S := by
  intro g p l e R s m args below meth c cells slots Z C Rt H locs lsA hv hP hS
  exact va_lald C.1.1 C.1.2.1 C.2.1.1 hP.1 k 2 (by rw [jmem_ws hP hn, jent_arr hk (by decide)]; rfl) rfl hin hdg (K g p l e R s m args below meth c cells slots Z C Rt H locs lsA hv hP hS)

theorem J_iast {b : jMI} {d kc ks : Nat} {Q : Option Value → jPS → Prop} {pc : Nat} {ls : List (Nat × Value)} {st : List Value} {S : jPS} {k n : Nat} {i : Int32} {x : Int32} (hoff : S.1.1 1000000 = (99, 0)) (hdg : decode b.2.2.1 pc = .ok (.iastore, 1)) (hk : S.1.1 k = (14, n)) (hn : k < S.1.2) (hin : vp_in i n) (K : J b d kc ks Q (pc + 1) ls st (jwI S k i.toNatClampNeg x)) : J b d kc ks Q pc ls (.int x :: .int i :: .ref k :: st) S := by
  intro g p l e R s m args below meth c cells slots Z C Rt H locs lsA hv hP hS
  refine va_iast C.1.1 C.1.2.1 C.2.1.1 hP.1 (jws_D g S) hS k 1 (by rw [jmem_ws hP hn, jent_arr hk (by decide)]; rfl) rfl hin hdg (fun H1 locs1 hP1 _ hS1 => K g p l e R s m args below meth c cells slots Z C Rt H1 locs1 lsA hv ⟨?_, hP.2.1, fun z => absurd (hoff.symm.trans z) (by decide)⟩ hS1)
  rw [jad_eq hP hn, jws_set (g := g) (S := S) (k := k) (S' := jwI S k i.toNatClampNeg x) rfl ?_ (fun a ha => jwI_ent ha)] at hP1
  · exact hP1
  · rw [jent_arr (S := jwI S k i.toNatClampNeg x) hk (by decide)]
    unfold jar jwI
    dsimp only
    rw [jup_updI]
    rfl

theorem J_bast {b : jMI} {d kc ks : Nat} {Q : Option Value → jPS → Prop} {pc : Nat} {ls : List (Nat × Value)} {st : List Value} {S : jPS} {k n : Nat} {i : Int32} {x : Int32} (hoff : S.1.1 1000000 = (99, 0)) (hdg : decode b.2.2.1 pc = .ok (.bastore, 1)) (hk : S.1.1 k = (13, n)) (hn : k < S.1.2) (hin : vp_in i n) (K : J b d kc ks Q (pc + 1) ls st (jwI S k i.toNatClampNeg (vp_nar .byte x))) : J b d kc ks Q pc ls (.int x :: .int i :: .ref k :: st) S := by
  intro g p l e R s m args below meth c cells slots Z C Rt H locs lsA hv hP hS
  refine va_bast C.1.1 C.1.2.1 C.2.1.1 hP.1 (jws_D g S) hS k 0 (by rw [jmem_ws hP hn, jent_arr hk (by decide)]; rfl) rfl hin hdg (fun H1 locs1 hP1 _ hS1 => K g p l e R s m args below meth c cells slots Z C Rt H1 locs1 lsA hv ⟨?_, hP.2.1, fun z => absurd (hoff.symm.trans z) (by decide)⟩ hS1)
  rw [jad_eq hP hn, jws_set (g := g) (S := S) (k := k) (S' := jwI S k i.toNatClampNeg (vp_nar .byte x)) rfl ?_ (fun a ha => jwI_ent ha)] at hP1
  · exact hP1
  · rw [jent_arr (S := jwI S k i.toNatClampNeg (vp_nar .byte x)) hk (by decide)]
    unfold jar jwI
    dsimp only
    rw [jup_updI]
    rfl

theorem J_zast {b : jMI} {d kc ks : Nat} {Q : Option Value → jPS → Prop} {pc : Nat} {ls : List (Nat × Value)} {st : List Value} {S : jPS} {k n : Nat} {i : Int32} {x : Int32} (hoff : S.1.1 1000000 = (99, 0)) (hdg : decode b.2.2.1 pc = .ok (.bastore, 1)) (hk : S.1.1 k = (16, n)) (hn : k < S.1.2) (hin : vp_in i n) (K : J b d kc ks Q (pc + 1) ls st (jwI S k i.toNatClampNeg (vp_nar .boolean x))) : J b d kc ks Q pc ls (.int x :: .int i :: .ref k :: st) S := by
  intro g p l e R s m args below meth c cells slots Z C Rt H locs lsA hv hP hS
  refine va_zast C.1.1 C.1.2.1 C.2.1.1 hP.1 (jws_D g S) hS k 3 (by rw [jmem_ws hP hn, jent_arr hk (by decide)]; rfl) rfl hin hdg (fun H1 locs1 hP1 _ hS1 => K g p l e R s m args below meth c cells slots Z C Rt H1 locs1 lsA hv ⟨?_, hP.2.1, fun z => absurd (hoff.symm.trans z) (by decide)⟩ hS1)
  rw [jad_eq hP hn, jws_set (g := g) (S := S) (k := k) (S' := jwI S k i.toNatClampNeg (vp_nar .boolean x)) rfl ?_ (fun a ha => jwI_ent ha)] at hP1
  · exact hP1
  · rw [jent_arr (S := jwI S k i.toNatClampNeg (vp_nar .boolean x)) hk (by decide)]
    unfold jar jwI
    dsimp only
    rw [jup_updI]
    rfl

theorem J_last {b : jMI} {d kc ks : Nat} {Q : Option Value → jPS → Prop} {pc : Nat} {ls : List (Nat × Value)} {st : List Value} {S : jPS} {k n : Nat} {i : Int32} {x : Int64} (hoff : S.1.1 1000000 = (99, 0)) (hdg : decode b.2.2.1 pc = .ok (.lastore, 1)) (hk : S.1.1 k = (15, n)) (hn : k < S.1.2) (hin : vp_in i n) (K : J b d kc ks Q (pc + 1) ls st (jwL S k i.toNatClampNeg x)) : J b d kc ks Q pc ls (.long x :: .int i :: .ref k :: st) S := by
  intro g p l e R s m args below meth c cells slots Z C Rt H locs lsA hv hP hS
  refine va_last C.1.1 C.1.2.1 C.2.1.1 hP.1 (jws_D g S) hS k 2 (by rw [jmem_ws hP hn, jent_arr hk (by decide)]; rfl) rfl hin hdg (fun H1 locs1 hP1 _ hS1 => K g p l e R s m args below meth c cells slots Z C Rt H1 locs1 lsA hv ⟨?_, hP.2.1, fun z => absurd (hoff.symm.trans z) (by decide)⟩ hS1)
  rw [jad_eq hP hn, jws_set (g := g) (S := S) (k := k) (S' := jwL S k i.toNatClampNeg x) rfl ?_ (fun a ha => jwL_ent ha)] at hP1
  · exact hP1
  · rw [jent_arr (S := jwL S k i.toNatClampNeg x) hk (by decide)]
    unfold jar jwL
    dsimp only
    rw [jup_updL]
    rfl

theorem J_aald {b : jMI} {d kc ks : Nat} {Q : Option Value → jPS → Prop} {pc : Nat} {ls : List (Nat × Value)} {st : List Value} {S : jPS} {k n kd q : Nat} {i : Int32} (hdg : decode b.2.2.1 pc = .ok (.aaload, 1)) (hk : S.1.1 k = (kd, n)) (hkd : 17 ≤ kd ∧ kd ≤ 22) (hn : k < S.1.2) (hin : vp_in i n) (hq : S.2.2.2 k i.toNatClampNeg = some q) (K : J b d kc ks Q (pc + 1) ls (.ref q :: st) S) : J b d kc ks Q pc ls (.int i :: .ref k :: st) S := by
  intro g p l e R s m args below meth c cells slots Z C Rt H locs lsA hv hP hS
  have hlt : i.toNatClampNeg < n := Nat.not_le.mp fun q => hin (Or.inr q)
  have he : (jws g S)[k]? = some (jad g k, .inl (g.2.2.1 kd, n, .inr (.inr (.inr (.inr (fun j => (S.2.2.2 k j).map (jad g))))))) := by
    rw [jmem_ws hP hn, jent_arr hk (by omega)]
    unfold jar
    rw [if_neg (by omega), if_neg (by omega)]
  obtain ⟨t0, ty, ht, hty⟩ : ∃ (t0 : Nat) (ty : FieldType), (jtys g)[t0]? = some (g.2.2.1 kd, ty) ∧ ty.isReference = true := by
    rcases (by omega : kd = 17 ∨ kd = 18 ∨ kd = 19 ∨ kd = 20 ∨ kd = 21 ∨ kd = 22) with rfl | rfl | rfl | rfl | rfl | rfl
    · exact ⟨4, _, rfl, rfl⟩
    · exact ⟨5, _, rfl, rfl⟩
    · exact ⟨6, _, rfl, rfl⟩
    · exact ⟨7, _, rfl, rfl⟩
    · exact ⟨8, _, rfl, rfl⟩
    · exact ⟨9, _, rfl, rfl⟩
  exact W.aald (v := .ref (jad g q)) (ty := ty) C.1.1 C.1.2.1 (hP.1 k _ he) ((C.2.1.1.2 t0 _ ht).1 n (fun j => va_rf ((S.2.2.2 k j).map (jad g)))) hty (fun q => by cases q) (by show ¬ (i < 0 ∨ (arrV _ _ _).slots.size ≤ _); rw [arrV_size]; exact hin) (by show (arrV _ _ _).slots[_]? = _; rw [arrV_read _ _ hlt]; show some (va_rf (Option.map (jad g) (S.2.2.2 k i.toNatClampNeg))) = _; rw [hq]; rfl) rfl rfl hdg (K g p l e R s m args below meth c cells slots Z C Rt H locs lsA hv hP hS)
theorem J_alen {b : jMI} {d kc ks : Nat} {Q : Option Value → jPS → Prop} {pc : Nat} {ls : List (Nat × Value)} {st : List Value} {S : jPS} {k n kd : Nat} (hdg : decode b.2.2.1 pc = .ok (.arraylength, 1)) (hk : S.1.1 k = (kd, n)) (hkd : 13 ≤ kd ∧ kd ≤ 22) (hn : k < S.1.2) (K : J b d kc ks Q (pc + 1) ls (.int (Int32.ofNat n) :: st) S) : J b d kc ks Q pc ls (.ref k :: st) S := by
  intro g p l e R s m args below meth c cells slots Z C Rt H locs lsA hv hP hS
  obtain ⟨t0, ty, ht⟩ : ∃ (t0 : Nat) (ty : FieldType), (jtys g)[t0]? = some (g.2.2.1 kd, ty) := by
    rcases (by omega : kd = 13 ∨ kd = 14 ∨ kd = 15 ∨ kd = 16 ∨ kd = 17 ∨ kd = 18 ∨ kd = 19 ∨ kd = 20 ∨ kd = 21 ∨ kd = 22) with rfl | rfl | rfl | rfl | rfl | rfl | rfl | rfl | rfl | rfl
    · exact ⟨0, _, rfl⟩
    · exact ⟨1, _, rfl⟩
    · exact ⟨2, _, rfl⟩
    · exact ⟨3, _, rfl⟩
    · exact ⟨4, _, rfl⟩
    · exact ⟨5, _, rfl⟩
    · exact ⟨6, _, rfl⟩
    · exact ⟨7, _, rfl⟩
    · exact ⟨8, _, rfl⟩
    · exact ⟨9, _, rfl⟩
  exact va_alen (x := (n, jar g S.2 kd k)) (v := Int32.ofNat n) C.1.1 C.1.2.1 C.2.1.1 hP.1 k t0 (by rw [jmem_ws hP hn, jent_arr hk (by omega)]) ht rfl hdg (K g p l e R s m args below meth c cells slots Z C Rt H locs lsA hv hP hS)
