/-! THE MAKING OF THE CELLS. While they are made, the state is a list of cells: kind and length, numbers (0 behind the list), references (none behind it). -/
abbrev C0 : Type := (Nat × Nat) × List Int32 × List (Option Nat)
def dC : C0 := ((99, 0), [], [])
def bs (L : List C0) : jPS := ((fun k => if k = 1000000 then (1, 1) else (L.getD k dC).1, L.length), (fun k j => (L.getD k dC).2.1.getD j 0, fun _ _ => 0, fun k j => (L.getD k dC).2.2.getD j none))
def szC (c : C0) : Nat := if c.1.1 < 13 then jnf c.1.1 else c.1.2
def szL (L : List C0) : Nat := (L.map szC).sum
def setD {α : Type} (d : α) (l : List α) (j : Nat) (x : α) : List α := if j < l.length then l.set j x else l ++ List.replicate (j - l.length) d ++ [x]
theorem setD_at {α : Type} (d : α) (l : List α) (j : Nat) (x : α) (i : Nat) : (setD d l j x).getD i d = if i = j then x else l.getD i d := by
  unfold setD
  by_cases h : j < l.length
  · rw [if_pos h]
    by_cases e : i = j
    · subst e
      rw [if_pos rfl, List.getD_eq_getElem?_getD, List.getElem?_set_self h]
      rfl
    · rw [if_neg e, List.getD_eq_getElem?_getD, List.getElem?_set_ne (fun q => e q.symm), ← List.getD_eq_getElem?_getD]
  · rw [if_neg h]
    simp only [List.getD_eq_getElem?_getD]
    by_cases e : i = j
    · subst e
      rw [if_pos rfl, List.getElem?_append_right (by simp; omega)]
      simp
      rw [show i - (l.length + (i - l.length)) = 0 by omega]
      rfl
    · rw [if_neg e]
      by_cases h1 : i < l.length
      · rw [List.getElem?_append_left (by simp; omega), List.getElem?_append_left h1]
      · rw [List.getElem?_eq_none (Nat.le_of_not_lt h1)]
        by_cases h2 : i < j
        · rw [List.getElem?_append_left (by simp; omega), List.getElem?_append_right (by omega), List.getElem?_replicate, if_pos (by omega)]
          rfl
        · rw [List.getElem?_eq_none (by simp; omega)]
def ptI (L : List C0) (k j : Nat) (x : Int32) : List C0 := L.set k ((L.getD k dC).1, setD 0 (L.getD k dC).2.1 j x, (L.getD k dC).2.2)
def ptR (L : List C0) (k j : Nat) (x : Option Nat) : List C0 := L.set k ((L.getD k dC).1, (L.getD k dC).2.1, setD none (L.getD k dC).2.2 j x)
theorem set_at {L : List C0} {k : Nat} (c : C0) (hk : k < L.length) (i : Nat) : (L.set k c).getD i dC = if i = k then c else L.getD i dC := by
  by_cases e : i = k
  · subst e
    rw [if_pos rfl, List.getD_eq_getElem?_getD, List.getElem?_set_self hk]
    rfl
  · rw [if_neg e, List.getD_eq_getElem?_getD, List.getElem?_set_ne (fun q => e q.symm), ← List.getD_eq_getElem?_getD]
theorem bs_ptI {L : List C0} {k j : Nat} {x : Int32} (hk : k < L.length) : bs (ptI L k j x) = jwI (bs L) k j x := by
  unfold bs jwI ptI
  refine Prod.ext (Prod.ext (funext fun i => ?_) (by simp)) (Prod.ext (funext fun i => funext fun q => ?_) (Prod.ext rfl (funext fun i => funext fun q => ?_)))
  · show (if i = 1000000 then _ else ((L.set k _).getD i dC).1) = (if i = 1000000 then _ else (L.getD i dC).1)
    rw [set_at _ hk]
    by_cases e : i = k
    · rw [if_pos e, e]
    · rw [if_neg e]
  · show ((L.set k _).getD i dC).2.1.getD q 0 = (if i = k ∧ q = j then x else (L.getD i dC).2.1.getD q 0)
    rw [set_at _ hk]
    by_cases e : i = k
    · rw [if_pos e, setD_at, e]
      by_cases e2 : q = j
      · rw [if_pos e2, if_pos ⟨rfl, e2⟩]
      · rw [if_neg e2, if_neg (fun z => e2 z.2)]
    · rw [if_neg e, if_neg (fun z => e z.1)]
  · show ((L.set k _).getD i dC).2.2.getD q none = (L.getD i dC).2.2.getD q none
    rw [set_at _ hk]
    by_cases e : i = k
    · rw [if_pos e, e]
    · rw [if_neg e]
theorem bs_ptR {L : List C0} {k j : Nat} {x : Option Nat} (hk : k < L.length) : bs (ptR L k j x) = jwR (bs L) k j x := by
  unfold bs jwR ptR
  refine Prod.ext (Prod.ext (funext fun i => ?_) (by simp)) (Prod.ext (funext fun i => funext fun q => ?_) (Prod.ext rfl (funext fun i => funext fun q => ?_)))
  · show (if i = 1000000 then _ else ((L.set k _).getD i dC).1) = (if i = 1000000 then _ else (L.getD i dC).1)
    rw [set_at _ hk]
    by_cases e : i = k
    · rw [if_pos e, e]
    · rw [if_neg e]
  · show ((L.set k _).getD i dC).2.1.getD q 0 = (L.getD i dC).2.1.getD q 0
    rw [set_at _ hk]
    by_cases e : i = k
    · rw [if_pos e, e]
    · rw [if_neg e]
  · show ((L.set k _).getD i dC).2.2.getD q none = (if i = k ∧ q = j then x else (L.getD i dC).2.2.getD q none)
    rw [set_at _ hk]
    by_cases e : i = k
    · rw [if_pos e, setD_at, e]
      by_cases e2 : q = j
      · rw [if_pos e2, if_pos ⟨rfl, e2⟩]
      · rw [if_neg e2, if_neg (fun z => e2 z.2)]
    · rw [if_neg e, if_neg (fun z => e z.1)]
theorem szL_set {L : List C0} {k : Nat} {c : C0} (hk : k < L.length) (hc : szC c = szC (L.getD k dC)) : szL (L.set k c) = szL L := by
  unfold szL
  congr 1
  apply List.ext_getElem?
  intro i
  rw [List.getElem?_map, List.getElem?_map]
  by_cases e : k = i
  · subst e
    rw [List.getElem?_set_self hk, List.getElem?_eq_getElem hk]
    show some (szC c) = some (szC L[k])
    rw [hc, List.getD_eq_getElem?_getD, List.getElem?_eq_getElem hk]
    rfl
  · rw [List.getElem?_set_ne e]
theorem szL_ptI {L : List C0} {k j : Nat} {x : Int32} (hk : k < L.length) : szL (ptI L k j x) = szL L := szL_set hk rfl
theorem szL_ptR {L : List C0} {k j : Nat} {x : Option Nat} (hk : k < L.length) : szL (ptR L k j x) = szL L := szL_set hk rfl
theorem szL_app (L M : List C0) : szL (L ++ M) = szL L + szL M := by
  unfold szL
  rw [List.map_append, List.sum_append]
/-- at the cells L, on the way to the cells M -/
def JA (b : jMI) (d : Nat) (Q : Option Value → jPS → Prop) (pc : Nat) (ls : List (Nat × Value)) (st : List Value) (L M : List C0) : Prop :=
  L.length ≤ M.length ∧ szL L ≤ szL M ∧ (M.length ≤ 1000000 → J b d (M.length - L.length) (szL M - szL L) Q pc ls st (bs L))
section
variable {b : jMI} {d : Nat} {Q : Option Value → jPS → Prop} {pc pc' : Nat} {ls ls' : List (Nat × Value)} {st st' : List Value} {L M : List C0}
theorem K_lift (f : ∀ kc ks, J b d kc ks Q pc' ls' st' (bs L) → J b d kc ks Q pc ls st (bs L)) (h : JA b d Q pc' ls' st' L M) : JA b d Q pc ls st L M := ⟨h.1, h.2.1, fun hM => f _ _ (h.2.2 hM)⟩
theorem K_br {A B : Prop} {pc2 : Nat} {ls2 : List (Nat × Value)} {st2 : List Value} (hA : A ∨ B) (f : ∀ kc ks, (A → J b d kc ks Q pc' ls' st' (bs L)) → (B → J b d kc ks Q pc2 ls2 st2 (bs L)) → J b d kc ks Q pc ls st (bs L)) (h1 : A → JA b d Q pc' ls' st' L M) (h2 : B → JA b d Q pc2 ls2 st2 L M) : JA b d Q pc ls st L M := by
  have h0 : L.length ≤ M.length ∧ szL L ≤ szL M := hA.elim (fun q => ⟨(h1 q).1, (h1 q).2.1⟩) (fun q => ⟨(h2 q).1, (h2 q).2.1⟩)
  exact ⟨h0.1, h0.2, fun hM => f _ _ (fun q => (h1 q).2.2 hM) (fun q => (h2 q).2.2 hM)⟩
end
theorem jR_set {g : jG} {S S' : jPS} {H H' : Heap} {k : Nat} (hP : jR g S H) (hS : S'.1 = S.1) (hent : ∀ i, i ≠ k → jent g S' i = jent g S i) (hz : H'.size = H.size) (ho : ∀ q, q ≠ g.1 + k → H'[q]? = H[q]?) (hk : va_at g.2.1 vwCl (g.1 + k, jent g S' k) H') : jR g S' H' := by
  refine ⟨fun i q hq => ?_, by rw [hS]; exact hP.2.1, by rw [hS, hz]; exact hP.2.2⟩
  obtain ⟨rfl, hi⟩ := jws_inv hq
  by_cases e : i = k
  · subst e
    exact hk
  · rw [hent i e]
    have h0 := hP.1 i _ (jws_get (by rw [← hS]; exact hi))
    exact h0.kept (ho _ (fun z => e (Nat.add_left_cancel z)))
theorem jR_push {g : jG} {S S' : jPS} {H H' : Heap} (hP : jR g S H) (hm : S.1.1 1000000 = (1, 1)) (hn : S'.1.2 = S.1.2 + 1) (hn2 : S'.1.2 ≤ 1000000) (hent : ∀ i, i < S.1.2 → jent g S' i = jent g S i) (hz : H'.size = H.size + 1) (ho : ∀ q, q < H.size → H'[q]? = H[q]?) (hk : va_at g.2.1 vwCl (g.1 + S.1.2, jent g S' S.1.2) H') : jR g S' H' := by
  have hsz := hP.2.2 hm
  refine ⟨fun i q hq => ?_, hn2, fun _ => by rw [hz, hn, hsz, Nat.add_assoc]⟩
  obtain ⟨rfl, hi⟩ := jws_inv hq
  by_cases e : i < S.1.2
  · rw [hent i e]
    have h0 := hP.1 i _ (jws_get e)
    exact h0.kept (ho _ (by show g.1 + i < H.size; rw [hsz]; omega))
  · have : i = S.1.2 := by omega
    subst this
    exact hk
theorem bs_app_ent {g : jG} {L : List C0} {M : List C0} {i : Nat} (hi : i < L.length) (h6 : L.length ≤ 1000000) : jent g (bs (L ++ M)) i = jent g (bs L) i := by
  have e : (L ++ M).getD i dC = L.getD i dC := by
    rw [List.getD_eq_getElem?_getD, List.getElem?_append_left hi, ← List.getD_eq_getElem?_getD]
  have e1 : (bs (L ++ M)).1.1 i = (bs L).1.1 i := by
    show (if i = 1000000 then _ else ((L ++ M).getD i dC).1) = (if i = 1000000 then _ else (L.getD i dC).1)
    rw [e]
  have e2 : ∀ j, (bs (L ++ M)).2.1 i j = (bs L).2.1 i j := fun j => by
    show ((L ++ M).getD i dC).2.1.getD j 0 = (L.getD i dC).2.1.getD j 0
    rw [e]
  have e3 : ∀ j, (bs (L ++ M)).2.2.2 i j = (bs L).2.2.2 i j := fun j => by
    show ((L ++ M).getD i dC).2.2.getD j none = (L.getD i dC).2.2.getD j none
    rw [e]
  have ef : ∀ t j, jfv g (bs (L ++ M)).2 t i j = jfv g (bs L).2 t i j := fun t j => by
    unfold jfv
    rw [e2, e3]
    rfl
  have ea : ∀ kd, jar g (bs (L ++ M)).2 kd i = jar g (bs L).2 kd i := fun kd => by
    unfold jar
    rw [show (bs (L ++ M)).2.1 i = (bs L).2.1 i from funext e2, show (fun j => Option.map (jad g) ((bs (L ++ M)).2.2.2 i j)) = (fun j => Option.map (jad g) ((bs L).2.2.2 i j)) from funext fun j => by rw [e3]]
    rfl
  unfold jent
  rw [e1]
  by_cases h13 : ((bs L).1.1 i).1 < 13
  · rw [if_pos h13, if_pos h13]
    congr 2
    exact List.map_congr_left (fun j _ => ef _ j)
  · rw [if_neg h13, if_neg h13]
    exact congrArg _ (congrArg _ (congrArg _ (ea _)))
theorem bs_last (L : List C0) (c : C0) : (L ++ [c]).getD L.length dC = c := by
  rw [List.getD_eq_getElem?_getD, List.getElem?_append_right (Nat.le_refl _), Nat.sub_self]
  rfl
theorem bs_sh {L : List C0} {k : Nat} (h6 : k < 1000000) : (bs L).1.1 k = (L.getD k dC).1 := if_neg (by omega)
theorem bs_mark (L : List C0) : (bs L).1.1 1000000 = (1, 1) := by
  unfold bs
  simp only [if_true]
