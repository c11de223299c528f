/-! THE DATA THAT BOTH HOLD, as whole numbers read off the reference's cells; and what the document makes of them -/
abbrev dD : Type := Nat → Nat → Nat
/-- which of the reference's cells hold what was told (the day, the tape and OUT aside) -/
abbrev pers (k j : Nat) : Prop := (k = 324 ∧ (j = 2 ∨ j = 8 ∨ j = 25 ∨ j = 32 ∨ j = 55)) ∨ ((k = 325 ∨ k = 326 ∨ k = 327) ∧ j < 24) ∨ (k = 328 ∧ j < 192) ∨ (k = 329 ∧ j < 1152) ∨ ((k = 330 ∨ k = 331) ∧ j < 10) ∨ ((332 ≤ k ∧ k ≤ 335) ∧ j < 120) ∨ (k = 337 ∧ j < 4) ∨ ((338 ≤ k ∧ k ≤ 342) ∧ j < 200) ∨ ((344 ≤ k ∧ k ≤ 349) ∧ j < 60) ∨ ((k = 359 ∨ (361 ≤ k ∧ k ≤ 363)) ∧ j < 6) ∨ (k = 360 ∧ j < 48)
/-- a place: a sign, or 99 for one that can't be read -/
def pz (x : Nat) : Int32 := if x = 99 then -1 else nI x
theorem pz_99 : pz 99 = -1 := rfl
theorem pz_n {x : Nat} (h : x ≠ 99) : pz x = nI x := if_neg h
theorem pz_m1 {x : Nat} (h : x < 2147483648) : pz x = -1 ↔ x = 99 := by
  by_cases e : x = 99
  · subst e; exact ⟨fun _ => rfl, fun _ => rfl⟩
  · rw [pz_n e]; exact ⟨fun z => ((nI_m1 h).mp z).elim, fun z => absurd z e⟩
def dm (σ : jM) (k j : Nat) : Nat := if pers k j then (if k = 329 ∧ rI σ k j = -1 then 99 else (rI σ k j).toNatClampNeg) else 0
/-- where the reference lays what it is just reading -/
abbrev scx (k j : Nat) : Prop := (k = 328 ∧ 192 ≤ j ∧ j < 200) ∨ (k = 329 ∧ 1152 ≤ j ∧ j < 1200) ∨ (332 ≤ k ∧ k ≤ 335 ∧ 120 ≤ j ∧ j < 132)
abbrev pex (k j : Nat) : Prop := pers k j ∨ scx k j
/-- the reference's cells are such -/
def MI (σ : jM) : Prop := ∀ k j, pex k j → (k ≠ 329 → 0 ≤ rI σ k j) ∧ (k = 329 → rI σ k j = -1 ∨ inb (rI σ k j) 40)
theorem md {σ : jM} (h : MI σ) {k j : Nat} (hp : pers k j) (h9 : k ≠ 329) : rI σ k j = nI (dm σ k j) ∧ dm σ k j < 2147483648 := by
  obtain ⟨n, hn, e⟩ := i_of ((h k j (Or.inl hp)).1 h9)
  have e2 : dm σ k j = n := by
    unfold dm
    rw [if_pos hp, if_neg (fun z => h9 z.1), e, nI_ix hn]
  rw [e2]
  exact ⟨e, hn⟩
theorem md_val {σ : jM} {k j n : Nat} (hp : pers k j) (h9 : k ≠ 329) (hn : n < 2147483648) (e : rI σ k j = nI n) : dm σ k j = n := by
  unfold dm
  rw [if_pos hp, if_neg (fun z => h9 z.1), e, nI_ix hn]
theorem md9 {σ : jM} (h : MI σ) {j : Nat} (hj : j < 1152) : rI σ 329 j = pz (dm σ 329 j) ∧ (dm σ 329 j = 99 ∨ dm σ 329 j < 40) := by
  have hp : pers 329 j := by omega
  rcases (h 329 j (Or.inl hp)).2 rfl with h0 | h0
  · have e2 : dm σ 329 j = 99 := by
      unfold dm
      rw [if_pos hp, if_pos ⟨rfl, h0⟩]
    rw [e2]
    exact ⟨h0, Or.inl rfl⟩
  · obtain ⟨n, hn, e⟩ := inb_of h0
    have hne : ¬ rI σ 329 j = -1 := by rw [e]; exact fun z => (nI_m1 (by omega)).mp z
    have e2 : dm σ 329 j = n := by
      unfold dm
      rw [if_pos hp, if_neg (fun z => hne z.2), e, nI_ix (by omega)]
    rw [e2, pz_n (by omega)]
    exact ⟨e, Or.inr hn⟩
theorem dm_eq {σ τ : jM} (h : ∀ k j, pers k j → rI τ k j = rI σ k j) : dm τ = dm σ := by
  funext k j
  unfold dm
  by_cases hp : pers k j
  · rw [if_pos hp, if_pos hp, h k j hp]
  · rw [if_neg hp, if_neg hp]
theorem MI_eq {σ τ : jM} (h : ∀ k j, pex k j → rI τ k j = rI σ k j) (hM : MI σ) : MI τ := by
  intro k j hp
  rw [h k j hp]
  exact hM k j hp
/-! reach over a relation -/
def Rn (L : Nat → Nat → Prop) : Nat → Nat → Nat → Prop := Nat.rec (fun a b => a = b) (fun _ r a b => ∃ c, r a c ∧ L c b)
theorem Rn_0 {L : Nat → Nat → Prop} {a b : Nat} : Rn L 0 a b ↔ a = b := Iff.rfl
theorem Rn_s {L : Nat → Nat → Prop} {n a b : Nat} : Rn L (n + 1) a b ↔ ∃ c, Rn L n a c ∧ L c b := Iff.rfl
def Rc (L : Nat → Nat → Prop) (a b : Nat) : Prop := ∃ n, Rn L n a b
theorem Rc_refl {L : Nat → Nat → Prop} (a : Nat) : Rc L a a := ⟨0, rfl⟩
theorem Rc_step {L : Nat → Nat → Prop} {a b c : Nat} (h : Rc L a b) (hl : L b c) : Rc L a c := by
  obtain ⟨n, hn⟩ := h
  exact ⟨n + 1, b, hn, hl⟩
theorem Rc_one {L : Nat → Nat → Prop} {a b : Nat} (h : L a b) : Rc L a b := Rc_step (Rc_refl a) h
theorem Rn_add {L : Nat → Nat → Prop} {n m a b c : Nat} (h : Rn L n a b) (g : Rn L m b c) : Rn L (n + m) a c := by
  induction m generalizing c with
  | zero => have e : b = c := g; subst e; exact h
  | succ m ih =>
    obtain ⟨d, g1, g2⟩ := g
    exact ⟨d, ih g1, g2⟩
theorem Rc_trans {L : Nat → Nat → Prop} {a b c : Nat} (h : Rc L a b) (g : Rc L b c) : Rc L a c := by
  obtain ⟨n, hn⟩ := h
  obtain ⟨m, hm⟩ := g
  exact ⟨n + m, Rn_add hn hm⟩
theorem Rn_head {L : Nat → Nat → Prop} {n a b c : Nat} (hl : L a b) (h : Rn L n b c) : Rn L (n + 1) a c := by
  have h1 : Rn L 1 a b := ⟨a, rfl, hl⟩
  have h2 := Rn_add h1 h
  rw [Nat.add_comm] at h2
  exact h2
theorem Rn_symm {L : Nat → Nat → Prop} (hs : ∀ a b, L a b → L b a) {n a b : Nat} (h : Rn L n a b) : Rn L n b a := by
  induction n generalizing b with
  | zero => have e : a = b := h; subst e; rfl
  | succ n ih =>
    obtain ⟨c, h1, h2⟩ := h
    exact Rn_head (hs _ _ h2) (ih h1)
theorem Rc_symm {L : Nat → Nat → Prop} (hs : ∀ a b, L a b → L b a) {a b : Nat} (h : Rc L a b) : Rc L b a := by
  obtain ⟨n, hn⟩ := h
  exact ⟨n, Rn_symm hs hn⟩
theorem Rc_ind {L : Nat → Nat → Prop} {P : Nat → Prop} {a b : Nat} (h : Rc L a b) (h0 : P a) (hs : ∀ x y, Rc L a x → P x → L x y → P y) : P b := by
  obtain ⟨n, hn⟩ := h
  induction n generalizing b with
  | zero => have e : a = b := hn; subst e; exact h0
  | succ n ih =>
    obtain ⟨c, h1, h2⟩ := hn
    exact hs c b ⟨n, h1⟩ (ih h1) h2
theorem Rc_mono {L M : Nat → Nat → Prop} (h : ∀ a b, L a b → M a b) {a b : Nat} (hr : Rc L a b) : Rc M a b :=
  Rc_ind hr (Rc_refl a) (fun _ _ _ hp hl => Rc_step hp (h _ _ hl))
noncomputable def lst (p : Nat → Prop) : Nat := @dite _ (∃ n, p n) (Classical.propDecidable _) (fun h => Classical.choose (ex_least h)) (fun _ => 0)
theorem lst_spec {p : Nat → Prop} (h : ∃ n, p n) : p (lst p) ∧ ∀ m, p m → lst p ≤ m := by
  unfold lst
  rw [dif_pos h]
  exact Classical.choose_spec (ex_least h)
theorem lst_eq {p : Nat → Prop} {n : Nat} (h : p n) (hl : ∀ m, p m → n ≤ m) : lst p = n := by
  have hs := lst_spec ⟨n, h⟩
  have h1 := hs.2 n h
  have h2 := hl _ hs.1
  omega
/-- a labelling that is constant along a relation, at most its sign, and within reach of it, gives the least sign within reach -/
theorem lst_label {L : Nat → Nat → Prop} (hs : ∀ a b, L a b → L b a) {f : Nat → Nat} {N : Nat} (hN : ∀ a b, L a b → a < N ∧ b < N) (h1 : ∀ s, s < N → f s ≤ s) (h2 : ∀ s, s < N → Rc L s (f s)) (h3 : ∀ a b, L a b → f a = f b) {s : Nat} (hsN : s < N) : lst (fun t => Rc L s t) = f s := by
  refine lst_eq (h2 s hsN) (fun t ht => ?_)
  have e : f t = f s := Rc_ind (P := fun x => f x = f s) ht rfl (fun x y _ hp hl => (h3 x y hl).symm.trans hp)
  have htN : t < N := Rc_ind (P := fun x => x < N) ht hsN (fun x y _ _ hl => (hN x y hl).2)
  rw [← e]
  exact h1 t htN
/-! rules as known, and what counts -/
def ri (D : dD) (v : Nat) : Nat → Nat := Nat.rec 10 (fun k r => if D 330 k ≤ v then k else r)
theorem ri_s (D : dD) (v k : Nat) : ri D v (k + 1) = if D 330 k ≤ v then k else ri D v k := rfl
def rIx (D : dD) (v : Nat) : Nat := ri D v (D 324 8)
theorem ri_lt (D : dD) (v n : Nat) : ri D v n = 10 ∨ ri D v n < n := by
  induction n with
  | zero => exact Or.inl rfl
  | succ n ih =>
    rw [ri_s]
    split
    · exact Or.inr (by omega)
    · rcases ih with h | h
      · exact Or.inl h
      · exact Or.inr (by omega)
def ncl (D : dD) (v : Nat) : Nat := if rIx D v = 10 then 0 else D 331 (rIx D v)
def cl (D : dD) (v k c : Nat) : Nat := D k (12 * rIx D v + c)
abbrev tC (D : dD) (v t : Nat) : Prop := D 325 t ≤ v ∧ v < D 326 t
abbrev nC (D : dD) (v n : Nat) : Prop := (D 362 n ≤ v ∧ v < D 363 n) ∧ tC D v (D 361 n)
abbrev sC (D : dD) (v k : Nat) : Prop := D 348 k ≤ v ∧ v < D 349 k
/-! as which sign each stands: lw: what a hand told last of two signs, of d records from i on -/
abbrev mat (D : dD) (v h a b k : Nat) : Prop := D 338 k = h ∧ D 339 k = a ∧ D 340 k = b ∧ D 342 k ≤ v
def lw (D : dD) (v h a b i : Nat) : Nat → Nat := Nat.rec 2 (fun d r => if mat D v h a b (i + d) then D 341 (i + d) else r)
theorem lw_s (D : dD) (v h a b i d : Nat) : lw D v h a b i (d + 1) = if mat D v h a b (i + d) then D 341 (i + d) else lw D v h a b i d := rfl
def wgt (D : dD) (h x : Nat) : Int := if x = 1 then (D 337 h : Int) else if x = 0 then -(D 337 h : Int) else 0
def tws (D : dD) (v a b i d : Nat) : Nat → Int := Nat.rec 0 (fun h s => s + wgt D h (lw D v h a b i d))
theorem tws_s (D : dD) (v a b i d h : Nat) : tws D v a b i d (h + 1) = tws D v a b i d h + wgt D h (lw D v h a b i d) := rfl
def tw (D : dD) (v a b : Nat) : Int := tws D v a b 0 (D 324 25) 4
def one (D : dD) (v a b : Nat) : Prop := ∃ k, k < D 324 25 ∧ ((D 339 k = a ∧ D 340 k = b) ∨ (D 339 k = b ∧ D 340 k = a)) ∧ 0 < tw D v (D 339 k) (D 340 k)
theorem one_symm (D : dD) (v a b : Nat) (h : one D v a b) : one D v b a := by
  obtain ⟨k, h1, h2, h3⟩ := h
  exact ⟨k, h1, h2.symm, h3⟩
noncomputable def std (D : dD) (v s : Nat) : Nat := lst (fun t => Rc (one D v) s t)
/-! the data's bounds -/
def DWt (D : dD) : Prop := D 324 2 ≤ 24 ∧ (∀ t, t < D 324 2 → D 325 t ≤ 100000 ∧ (D 326 t = 1000000 ∨ D 326 t ≤ 100000) ∧ 1 ≤ D 327 t ∧ D 327 t ≤ 8 ∧ ∀ w, w < D 327 t → 1 ≤ D 328 (8 * t + w) ∧ D 328 (8 * t + w) ≤ 6) ∧ (∀ p, p < 1152 → D 329 p = 99 ∨ D 329 p < 40)
def DWr (D : dD) : Prop := D 324 8 ≤ 10 ∧ (∀ k, k < D 324 8 → D 330 k ≤ 100000 ∧ D 331 k ≤ 12 ∧ ∀ c, c < D 331 k → D 332 (12 * k + c) ≤ 3 ∧ (D 332 (12 * k + c) < 2 → D 333 (12 * k + c) ≤ 7 ∧ 2 ≤ D 334 (12 * k + c) ∧ D 334 (12 * k + c) ≤ 6 ∧ 1 ≤ D 335 (12 * k + c) ∧ D 335 (12 * k + c) ≤ 99) ∧ (2 ≤ D 332 (12 * k + c) → 97 ≤ D 333 (12 * k + c) ∧ D 333 (12 * k + c) ≤ 122) ∧ (D 332 (12 * k + c) = 2 → 97 ≤ D 334 (12 * k + c) ∧ D 334 (12 * k + c) ≤ 122))
def DWh (D : dD) : Prop := D 324 25 ≤ 200 ∧ (∀ h, h < 4 → D 337 h ≤ 99) ∧ (∀ k, k < D 324 25 → D 338 k < 4 ∧ D 339 k < D 340 k ∧ D 340 k < 40 ∧ D 341 k ≤ 2 ∧ D 342 k ≤ 100000)
def DWs (D : dD) : Prop := D 324 32 ≤ 60 ∧ (∀ k, k < D 324 32 → D 344 k < 2 ∧ D 345 k < 40 ∧ D 346 k < 40 ∧ D 345 k ≠ D 346 k ∧ D 347 k < 2 ∧ D 348 k ≤ 100000 ∧ (D 349 k = 1000000 ∨ D 349 k ≤ 100000))
def DWn (D : dD) : Prop := D 324 55 ≤ 6 ∧ (∀ n, n < D 324 55 → 1 ≤ D 359 n ∧ D 359 n ≤ 8 ∧ D 361 n < D 324 2 ∧ D 362 n ≤ 100000 ∧ (D 363 n = 1000000 ∨ D 363 n ≤ 100000) ∧ ∀ i, i < D 359 n → 97 ≤ D 360 (8 * n + i) ∧ D 360 (8 * n + i) ≤ 122)
def DW (D : dD) : Prop := DWt D ∧ DWr D ∧ DWh D ∧ DWs D ∧ DWn D
theorem one_lt {D : dD} (h : DWh D) {v a b : Nat} (ho : one D v a b) : a < 40 ∧ b < 40 := by
  obtain ⟨k, h1, h2, -⟩ := ho
  have := h.2.2 k h1
  omega
theorem std_le (D : dD) (v s : Nat) : std D v s ≤ s := (lst_spec (p := fun t => Rc (one D v) s t) ⟨s, Rc_refl s⟩).2 s (Rc_refl s)
/-! the class holds the data -/
abbrev gone (g : Int32) (w : Nat) : Prop := (w = 1000000 ∧ g = -1) ∨ (w ≤ 100000 ∧ g = nI w)
/-- a clause's WHERE: the reference's, as the class has it -/
def whc (w : Nat) : Nat := if w = 0 then 1 else if w = 7 then 0 else w
def CDt (D : dD) (σ : jM) : Prop := rI σ 3 2 = nI (D 324 2) ∧ (∀ t, t < D 324 2 → rI σ (tabX t) 0 = nI (D 325 t) ∧ gone (rI σ (tabX t) 1) (D 326 t) ∧ rI σ (tabX t) 2 = nI (D 327 t) ∧ ∀ w, w < D 327 t → rI σ (tabX t + 1) w = nI (D 328 (8 * t + w)) ∧ ∀ i, i < D 328 (8 * t + w) → rI σ (tabX t + 2) (6 * w + i) = pz (D 329 (6 * (8 * t + w) + i))) ∧ (∀ t, t < 24 → D 324 2 ≤ t → rI σ (tabX t) 1 = -1)
def CDr (D : dD) (σ : jM) : Prop := rI σ 3 4 = nI (D 324 8) ∧ rI σ 19 1 = 0 ∧ (∀ k, k < D 324 8 → rI σ (rulX k) 0 = nI (D 330 k) ∧ rI σ (rulX k) 1 = nI (D 331 k) ∧ ∀ c, c < D 331 k → rI σ (rulX k + 1) c = nI (D 332 (12 * k + c)) ∧ (D 332 (12 * k + c) < 2 → rI σ (rulX k + 2) c = nI (whc (D 333 (12 * k + c))) ∧ rI σ (rulX k + 3) c = nI (D 334 (12 * k + c)) ∧ rI σ (rulX k + 4) c = nI (D 335 (12 * k + c))) ∧ (2 ≤ D 332 (12 * k + c) → rI σ (rulX k + 5) c = nI (D 333 (12 * k + c))) ∧ (D 332 (12 * k + c) = 2 → rI σ (rulX k + 6) c = nI (D 334 (12 * k + c))))
def CDh (D : dD) (σ : jM) : Prop := rI σ 8 1 = nI (D 324 25) ∧ (∀ h, h < 4 → rI σ 9 h = nI (D 337 h)) ∧ (∀ k, k < D 324 25 → rI σ 11 k = nI (D 338 k) ∧ rI σ 12 k = nI (D 339 k) ∧ rI σ 13 k = nI (D 340 k) ∧ rI σ 14 k = nI (D 341 k) ∧ rI σ 10 k = nI (D 342 k))
def CDs (D : dD) (σ : jM) : Prop := rI σ 3 6 = nI (D 324 32) ∧ (∀ k, k < D 324 32 → rI σ (shaX k) 2 = nI (D 344 k) ∧ rI σ (shaX k) 3 = nI (D 345 k) ∧ rI σ (shaX k) 4 = nI (D 346 k) ∧ rI σ (shaX k) 5 = nI (D 347 k) ∧ rI σ (shaX k) 0 = nI (D 348 k) ∧ gone (rI σ (shaX k) 1) (D 349 k)) ∧ (∀ k, k < 60 → D 324 32 ≤ k → rI σ (shaX k) 1 = -1)
def CDn (D : dD) (σ : jM) : Prop := rI σ 3 8 = nI (D 324 55) ∧ (∀ n, n < D 324 55 → rI σ (namX n) 3 = nI (D 359 n) ∧ rI σ (namX n) 4 = nI (D 361 n) ∧ rI σ (namX n) 0 = nI (D 362 n) ∧ gone (rI σ (namX n) 1) (D 363 n) ∧ ∀ i, i < D 359 n → rI σ (namX n + 1) i = nI (D 360 (8 * n + i))) ∧ (∀ n, n < 6 → D 324 55 ≤ n → rI σ (namX n) 1 = -1)
def CD (D : dD) (σ : jM) : Prop := CDt D σ ∧ CDr D σ ∧ CDh D σ ∧ CDs D σ ∧ CDn D σ
/-! what stays when cells stay -/
theorem dm_cell {σ τ : jM} {k : Nat} (h : ∀ j, rI τ k j = rI σ k j) : dm τ k = dm σ k := by
  funext j
  unfold dm
  rw [h j]
theorem dm_pt {σ τ : jM} {k j : Nat} (h : rI τ k j = rI σ k j) : dm τ k j = dm σ k j := by
  unfold dm
  rw [h]
theorem DWt_eq {D E : dD} (h0 : E 324 2 = D 324 2) (h5 : E 325 = D 325) (h6 : E 326 = D 326) (h7 : E 327 = D 327) (h8 : E 328 = D 328) (h9 : E 329 = D 329) (h : DWt D) : DWt E := by
  unfold DWt at h ⊢
  rw [h0, h5, h6, h7, h8, h9]
  exact h
theorem DWr_eq {D E : dD} (h0 : E 324 8 = D 324 8) (h1 : E 330 = D 330) (h2 : E 331 = D 331) (h3 : E 332 = D 332) (h4 : E 333 = D 333) (h5 : E 334 = D 334) (h6 : E 335 = D 335) (h : DWr D) : DWr E := by
  unfold DWr at h ⊢
  rw [h0, h1, h2, h3, h4, h5, h6]
  exact h
theorem DWh_eq {D E : dD} (h0 : E 324 25 = D 324 25) (h7 : E 337 = D 337) (h1 : E 338 = D 338) (h2 : E 339 = D 339) (h3 : E 340 = D 340) (h4 : E 341 = D 341) (h5 : E 342 = D 342) (h : DWh D) : DWh E := by
  unfold DWh at h ⊢
  rw [h0, h7, h1, h2, h3, h4, h5]
  exact h
theorem DWs_eq {D E : dD} (h0 : E 324 32 = D 324 32) (h1 : E 344 = D 344) (h2 : E 345 = D 345) (h3 : E 346 = D 346) (h4 : E 347 = D 347) (h5 : E 348 = D 348) (h6 : E 349 = D 349) (h : DWs D) : DWs E := by
  unfold DWs at h ⊢
  rw [h0, h1, h2, h3, h4, h5, h6]
  exact h
theorem DWn_eq {D E : dD} (h0 : E 324 55 = D 324 55) (h2 : D 324 2 ≤ E 324 2) (h1 : E 359 = D 359) (h3 : E 360 = D 360) (h4 : E 361 = D 361) (h5 : E 362 = D 362) (h6 : E 363 = D 363) (h : DWn D) : DWn E := by
  unfold DWn at h ⊢
  rw [h0, h1, h3, h4, h5, h6]
  exact ⟨h.1, fun n hn => ⟨(h.2 n hn).1, (h.2 n hn).2.1, Nat.lt_of_lt_of_le (h.2 n hn).2.2.1 h2, (h.2 n hn).2.2.2⟩⟩
theorem CDt_eq {D E : dD} {σ τ : jM} (hw : DWt D) (h0 : E 324 2 = D 324 2) (h5 : E 325 = D 325) (h6 : E 326 = D 326) (h7 : E 327 = D 327) (h8 : E 328 = D 328) (h9 : E 329 = D 329) (hs : rI τ 3 2 = rI σ 3 2) (hc : ∀ k j, 28 ≤ k → k ≤ 99 → rI τ k j = rI σ k j) (h : CDt D σ) : CDt E τ := by
  unfold CDt at h ⊢
  rw [h0, h5, h6, h7, h8, h9, hs]
  have hT := hw.1
  refine ⟨h.1, fun t ht => ?_, fun t h1 h2 => ?_⟩
  · have a : 28 ≤ tabX t ∧ tabX t + 2 ≤ 99 := by unfold tabX; omega
    rw [hc _ 0 (by omega) (by omega), hc _ 1 (by omega) (by omega), hc _ 2 (by omega) (by omega)]
    obtain ⟨b1, b2, b3, b4⟩ := h.2.1 t ht
    refine ⟨b1, b2, b3, fun w hw => ?_⟩
    rw [hc _ w (by omega) (by omega)]
    refine ⟨(b4 w hw).1, fun i hi => ?_⟩
    rw [hc _ _ (by omega) (by omega)]
    exact (b4 w hw).2 i hi
  · have a : 28 ≤ tabX t ∧ tabX t + 2 ≤ 99 := by unfold tabX; omega
    rw [hc _ 1 (by omega) (by omega)]
    exact h.2.2 t h1 h2
theorem rulX_lt {k : Nat} (h : k < 10) : rulX k = 100 + 9 * k := if_pos h
theorem CDr_eq {D E : dD} {σ τ : jM} (hw : DWr D) (h0 : E 324 8 = D 324 8) (h1 : E 330 = D 330) (h2 : E 331 = D 331) (h3 : E 332 = D 332) (h4 : E 333 = D 333) (h5 : E 334 = D 334) (h6 : E 335 = D 335) (hs : rI τ 3 4 = rI σ 3 4) (h19 : rI τ 19 1 = rI σ 19 1) (hc : ∀ k j, k < 10 → j ≤ 6 → ∀ i, rI τ (100 + 9 * k + j) i = rI σ (100 + 9 * k + j) i) (h : CDr D σ) : CDr E τ := by
  unfold CDr at h ⊢
  rw [h0, h1, h2, h3, h4, h5, h6, hs, h19]
  have hT := hw.1
  refine ⟨h.1, h.2.1, fun k hk => ?_⟩
  have e := rulX_lt (k := k) (by omega)
  have h := h.2.2 k hk
  rw [e] at h ⊢
  have g := hc k 0 (by omega) (by omega)
  rw [Nat.add_zero] at g
  rw [g, g]
  refine ⟨h.1, h.2.1, fun c hcl => ?_⟩
  have h := h.2.2 c hcl
  rw [hc k 1 (by omega) (by omega), hc k 2 (by omega) (by omega), hc k 3 (by omega) (by omega), hc k 4 (by omega) (by omega), hc k 5 (by omega) (by omega), hc k 6 (by omega) (by omega)]
  exact h
theorem CDh_eq {D E : dD} {σ τ : jM} (h0 : E 324 25 = D 324 25) (h7 : E 337 = D 337) (h1 : E 338 = D 338) (h2 : E 339 = D 339) (h3 : E 340 = D 340) (h4 : E 341 = D 341) (h5 : E 342 = D 342) (hs : rI τ 8 1 = rI σ 8 1) (hc : ∀ k j, 9 ≤ k → k ≤ 14 → rI τ k j = rI σ k j) (h : CDh D σ) : CDh E τ := by
  unfold CDh at h ⊢
  rw [h0, h7, h1, h2, h3, h4, h5, hs]
  refine ⟨h.1, fun a ha => ?_, fun k hk => ?_⟩
  · rw [hc _ _ (by omega) (by omega)]; exact h.2.1 a ha
  · rw [hc 10 _ (by omega) (by omega), hc 11 _ (by omega) (by omega), hc 12 _ (by omega) (by omega), hc 13 _ (by omega) (by omega), hc 14 _ (by omega) (by omega)]; exact h.2.2 k hk
theorem CDs_eq {D E : dD} {σ τ : jM} (hw : DWs D) (h0 : E 324 32 = D 324 32) (h1 : E 344 = D 344) (h2 : E 345 = D 345) (h3 : E 346 = D 346) (h4 : E 347 = D 347) (h5 : E 348 = D 348) (h6 : E 349 = D 349) (hs : rI τ 3 6 = rI σ 3 6) (hc : ∀ k j, 190 ≤ k → k ≤ 249 → rI τ k j = rI σ k j) (h : CDs D σ) : CDs E τ := by
  unfold CDs at h ⊢
  rw [h0, h1, h2, h3, h4, h5, h6, hs]
  have hT := hw.1
  refine ⟨h.1, fun k hk => ?_, fun k hk h2 => ?_⟩
  · have a : 190 ≤ shaX k ∧ shaX k ≤ 249 := by unfold shaX; omega
    rw [hc _ _ a.1 a.2, hc _ _ a.1 a.2, hc _ _ a.1 a.2, hc _ _ a.1 a.2, hc _ _ a.1 a.2, hc _ _ a.1 a.2]
    exact h.2.1 k hk
  · have a : 190 ≤ shaX k ∧ shaX k ≤ 249 := by unfold shaX; omega
    rw [hc _ _ a.1 a.2]
    exact h.2.2 k hk h2
theorem CDn_eq {D E : dD} {σ τ : jM} (hw : DWn D) (h0 : E 324 55 = D 324 55) (h1 : E 359 = D 359) (h3 : E 360 = D 360) (h4 : E 361 = D 361) (h5 : E 362 = D 362) (h6 : E 363 = D 363) (hs : rI τ 3 8 = rI σ 3 8) (hc : ∀ k j, 250 ≤ k → k ≤ 261 → rI τ k j = rI σ k j) (h : CDn D σ) : CDn E τ := by
  unfold CDn at h ⊢
  rw [h0, h1, h3, h4, h5, h6, hs]
  have hT := hw.1
  refine ⟨h.1, fun n hn => ?_, fun n hn h2 => ?_⟩
  · have a : 250 ≤ namX n ∧ namX n + 1 ≤ 261 := by unfold namX; omega
    rw [hc _ 0 (by omega) (by omega), hc _ 1 (by omega) (by omega), hc _ 3 (by omega) (by omega), hc _ 4 (by omega) (by omega)]
    obtain ⟨b1, b2, b3, b4, b5⟩ := h.2.1 n hn
    refine ⟨b1, b2, b3, b4, fun i hi => ?_⟩
    rw [hc _ _ (by omega) (by omega)]
    exact b5 i hi
  · have a : 250 ≤ namX n ∧ namX n + 1 ≤ 261 := by unfold namX; omega
    rw [hc _ _ (by omega) (by omega)]
    exact h.2.2 n hn h2
/-- the class's cells of what was told: what CD reads -/
abbrev cdc (k j : Nat) : Prop := (k = 3 ∧ (j = 2 ∨ j = 4 ∨ j = 6 ∨ j = 8)) ∨ (k = 8 ∧ j = 1) ∨ (9 ≤ k ∧ k ≤ 14) ∨ (k = 19 ∧ j = 1) ∨ (28 ≤ k ∧ k ≤ 99) ∨ (100 ≤ k ∧ k ≤ 189 ∧ (k - 100) % 9 ≠ 7 ∧ (k - 100) % 9 ≠ 8) ∨ (190 ≤ k ∧ k ≤ 261)
theorem CD_eq {D : dD} {σ τ : jM} (hw : DW D) (hc : ∀ k j, cdc k j → rI τ k j = rI σ k j) (h : CD D σ) : CD D τ :=
  ⟨CDt_eq hw.1 rfl rfl rfl rfl rfl rfl (hc _ _ (by omega)) (fun k j a b => hc k j (by omega)) h.1,
   CDr_eq hw.2.1 rfl rfl rfl rfl rfl rfl rfl (hc _ _ (by omega)) (hc _ _ (by omega)) (fun k j a b i => hc _ _ (by omega)) h.2.1,
   CDh_eq rfl rfl rfl rfl rfl rfl rfl (hc _ _ (by omega)) (fun k j a b => hc k j (by omega)) h.2.2.1,
   CDs_eq hw.2.2.2.1 rfl rfl rfl rfl rfl rfl rfl (hc _ _ (by omega)) (fun k j a b => hc k j (by omega)) h.2.2.2.1,
   CDn_eq hw.2.2.2.2 rfl rfl rfl rfl rfl rfl (hc _ _ (by omega)) (fun k j a b => hc k j (by omega)) h.2.2.2.2⟩
/-! what stays true between two calls -/
def TD (σ : jM) : Prop :=
  (∃ d, d ≤ 100000 ∧ rI σ 324 1 = nI d ∧ rI σ 3 0 = nI d)
  ∧ (∃ n, n ≤ 300 ∧ rI σ 324 16 = nI n ∧ rI σ 262 1 = nI n ∧ ∀ j, j < n → ∃ b, b < 256 ∧ rI σ 263 j = nI b ∧ rI σ 336 j = (nI b).toInt8.toInt32)
  ∧ rI σ 262 3 = rI σ 324 23
  ∧ (∃ n, n ≤ 12 ∧ rI σ 324 75 = nI n ∧ rI σ 0 7 = nI n ∧ ∀ j, j < n → rI σ 1 j = rI σ 374 j)
def VF (D : dD) (v : Nat) (σ : jM) : Prop := σ.2.2 = rIx D v ∧ ∀ s, s < 40 → rI σ 18 s = nI (std D v s)
def VV (K : dD → Nat → jM → Prop) (D : dD) (σ : jM) : Prop := rI σ 3 10 = -1 ∨ ∃ v d, v ≤ d ∧ d ≤ 100000 ∧ rI σ 3 0 = nI d ∧ rI σ 3 10 = nI v ∧ VF D v σ ∧ K D v σ
def KX (K : dD → Nat → jM → Prop) : Prop := ∀ (D : dD) (v : Nat) (σ τ : jM), (∀ k j, 264 ≤ k → k ≤ 323 → rI τ k j = rI σ k j ∧ rL τ k j = rL σ k j) → K D v σ → K D v τ
def Inv (K : dD → Nat → jM → Prop) (σ : jM) : Prop := MI σ ∧ DW (dm σ) ∧ CD (dm σ) σ ∧ TD σ ∧ VV K (dm σ) σ
/-- cells that Inv reads, the day, the tape, the last fault and OUT aside -/
abbrev ivc (k j : Nat) : Prop := pex k j ∨ cdc k j
theorem Inv_keep {K : dD → Nat → jM → Prop} (hK : KX K) {σ τ : jM} (h : Inv K σ) (h1 : ∀ k j, ivc k j → rI τ k j = rI σ k j) (h2 : ∀ k j, 264 ≤ k → k ≤ 323 → rI τ k j = rI σ k j ∧ rL τ k j = rL σ k j) (h3 : ∀ j, rI τ 18 j = rI σ 18 j) (h4 : τ.2.2 = σ.2.2) (h5 : rI τ 3 10 = rI σ 3 10) (hT : TD τ) (hd : rI σ 3 0 ≤ rI τ 3 0) : Inv K τ := by
  obtain ⟨a, b, c, d, e⟩ := h
  have hD : dm τ = dm σ := dm_eq (fun k j hp => h1 k j (Or.inl (Or.inl hp)))
  refine ⟨MI_eq (fun k j hp => h1 k j (Or.inl hp)) a, by rw [hD]; exact b, by rw [hD]; exact CD_eq b (fun k j hp => h1 k j (Or.inr hp)) c, hT, ?_⟩
  rw [hD]
  rcases e with e | ⟨v, x, e1, e2, e3, e4, e5, e6⟩
  · exact Or.inl (h5.trans e)
  · obtain ⟨d', hd1, -, hd2⟩ := hT.1
    refine Or.inr ⟨v, d', ?_, hd1, hd2, h5.trans e4, ⟨h4.trans e5.1, fun s hs => (h3 s).trans (e5.2 s hs)⟩, hK _ _ _ _ h2 e6⟩
    rw [e3, hd2, nI_le2 (by omega) (by omega)] at hd
    omega
