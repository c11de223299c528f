/-! THE RULE OF EACH LOOP: an index that grows up to N, an invariant; what the loop passes on unchanged is fixed. Written by wip/whole/loops.py. -/
theorem L_X12_countingToday_4_5  {l2 : Int32} {Q : Int32 → jM → Prop} (N : Nat) (I : Nat → Int32 → Int32 → jM → Prop) (hN : N < 1000000000) (h : ∀ (k : Nat) (q : Int32 → Int32 → Int32 → jM → Option (Int32 × jM)) (l3 : Int32) (l4 : Int32) (τ : jM), k ≤ N → I k l3 l4 τ → (∀ (k' : Nat) (l3' : Int32) (l4' : Int32) (τ' : jM), k < k' → k' ≤ N → I k' l3' l4' τ' → ok (q l2 l3' l4' τ') Q) → ok (s_X12_countingToday_4_5  q l2 l3 l4 τ) Q) {k : Nat} {l3 : Int32} {l4 : Int32} {σ : jM} (hk : k ≤ N) (hI : I k l3 l4 σ) : ok (f_X12_countingToday_4_5  Fu l2 l3 l4 σ) Q := by
  have H : ∀ (n k : Nat) (l3 : Int32) (l4 : Int32) (σ : jM), k ≤ N → I k l3 l4 σ → N < k + n → ok (f_X12_countingToday_4_5  n l2 l3 l4 σ) Q := by
    intro n
    induction n with
    | zero => intro k l3 l4 σ hk hI hm; omega
    | succ n ih => intro k l3 l4 σ hk hI hm; exact h k (f_X12_countingToday_4_5  n) l3 l4 σ hk hI (fun k' l3' l4' τ' h1 h2 h3 => ih k' l3' l4' τ' h2 h3 (by omega))
  exact H Fu k l3 l4 σ hk hI (by unfold Fu; omega)
theorem L_X12_countingToday_7_5  {l2 : Int32} {Q : Int32 → jM → Prop} (N : Nat) (I : Nat → Int32 → Int32 → jM → Prop) (hN : N < 1000000000) (h : ∀ (k : Nat) (q : Int32 → Int32 → Int32 → jM → Option (Int32 × jM)) (l3 : Int32) (l4 : Int32) (τ : jM), k ≤ N → I k l3 l4 τ → (∀ (k' : Nat) (l3' : Int32) (l4' : Int32) (τ' : jM), k < k' → k' ≤ N → I k' l3' l4' τ' → ok (q l2 l3' l4' τ') Q) → ok (s_X12_countingToday_7_5  q l2 l3 l4 τ) Q) {k : Nat} {l3 : Int32} {l4 : Int32} {σ : jM} (hk : k ≤ N) (hI : I k l3 l4 σ) : ok (f_X12_countingToday_7_5  Fu l2 l3 l4 σ) Q := by
  have H : ∀ (n k : Nat) (l3 : Int32) (l4 : Int32) (σ : jM), k ≤ N → I k l3 l4 σ → N < k + n → ok (f_X12_countingToday_7_5  n l2 l3 l4 σ) Q := by
    intro n
    induction n with
    | zero => intro k l3 l4 σ hk hI hm; omega
    | succ n ih => intro k l3 l4 σ hk hI hm; exact h k (f_X12_countingToday_7_5  n) l3 l4 σ hk hI (fun k' l3' l4' τ' h1 h2 h3 => ih k' l3' l4' τ' h2 h3 (by omega))
  exact H Fu k l3 l4 σ hk hI (by unfold Fu; omega)
theorem L_X1_holderOf_2  {l1 : Int32} {Q : Int32 → jM → Prop} (N : Nat) (I : Nat → Int32 → jM → Prop) (hN : N < 1000000000) (h : ∀ (k : Nat) (q : Int32 → Int32 → jM → Option (Int32 × jM)) (l2 : Int32) (τ : jM), k ≤ N → I k l2 τ → (∀ (k' : Nat) (l2' : Int32) (τ' : jM), k < k' → k' ≤ N → I k' l2' τ' → ok (q l1 l2' τ') Q) → ok (s_X1_holderOf_2  q l1 l2 τ) Q) {k : Nat} {l2 : Int32} {σ : jM} (hk : k ≤ N) (hI : I k l2 σ) : ok (f_X1_holderOf_2  Fu l1 l2 σ) Q := by
  have H : ∀ (n k : Nat) (l2 : Int32) (σ : jM), k ≤ N → I k l2 σ → N < k + n → ok (f_X1_holderOf_2  n l1 l2 σ) Q := by
    intro n
    induction n with
    | zero => intro k l2 σ hk hI hm; omega
    | succ n ih => intro k l2 σ hk hI hm; exact h k (f_X1_holderOf_2  n) l2 σ hk hI (fun k' l2' τ' h1 h2 h3 => ih k' l2' τ' h2 h3 (by omega))
  exact H Fu k l2 σ hk hI (by unfold Fu; omega)
theorem L_X4_isThere_2  {l1 : Int64} {Q : Int32 → jM → Prop} (N : Nat) (I : Nat → Int32 → jM → Prop) (hN : N < 1000000000) (h : ∀ (k : Nat) (q : Int64 → Int32 → jM → Option (Int32 × jM)) (l3 : Int32) (τ : jM), k ≤ N → I k l3 τ → (∀ (k' : Nat) (l3' : Int32) (τ' : jM), k < k' → k' ≤ N → I k' l3' τ' → ok (q l1 l3' τ') Q) → ok (s_X4_isThere_2  q l1 l3 τ) Q) {k : Nat} {l3 : Int32} {σ : jM} (hk : k ≤ N) (hI : I k l3 σ) : ok (f_X4_isThere_2  Fu l1 l3 σ) Q := by
  have H : ∀ (n k : Nat) (l3 : Int32) (σ : jM), k ≤ N → I k l3 σ → N < k + n → ok (f_X4_isThere_2  n l1 l3 σ) Q := by
    intro n
    induction n with
    | zero => intro k l3 σ hk hI hm; omega
    | succ n ih => intro k l3 σ hk hI hm; exact h k (f_X4_isThere_2  n) l3 σ hk hI (fun k' l3' τ' h1 h2 h3 => ih k' l3' τ' h2 h3 (by omega))
  exact H Fu k l3 σ hk hI (by unfold Fu; omega)
theorem L_X7_vowelFor_36  {l0 : Nat} {Q : Int32 → jM → Prop} (N : Nat) (I : Nat → Int32 → jM → Prop) (hN : N < 1000000000) (h : ∀ (k : Nat) (q : Nat → Int32 → jM → Option (Int32 × jM)) (l3 : Int32) (τ : jM), k ≤ N → I k l3 τ → (∀ (k' : Nat) (l3' : Int32) (τ' : jM), k < k' → k' ≤ N → I k' l3' τ' → ok (q l0 l3' τ') Q) → ok (s_X7_vowelFor_36  q l0 l3 τ) Q) {k : Nat} {l3 : Int32} {σ : jM} (hk : k ≤ N) (hI : I k l3 σ) : ok (f_X7_vowelFor_36  Fu l0 l3 σ) Q := by
  have H : ∀ (n k : Nat) (l3 : Int32) (σ : jM), k ≤ N → I k l3 σ → N < k + n → ok (f_X7_vowelFor_36  n l0 l3 σ) Q := by
    intro n
    induction n with
    | zero => intro k l3 σ hk hI hm; omega
    | succ n ih => intro k l3 σ hk hI hm; exact h k (f_X7_vowelFor_36  n) l3 σ hk hI (fun k' l3' τ' h1 h2 h3 => ih k' l3' τ' h2 h3 (by omega))
  exact H Fu k l3 σ hk hI (by unfold Fu; omega)
theorem L_X7_vowelFor_4  {l0 : Nat} {l1 : Int32} {l2 : Int32} {Q : Int32 → jM → Prop} (N : Nat) (I : Nat → Int32 → jM → Prop) (hN : N < 1000000000) (h : ∀ (k : Nat) (q : Nat → Int32 → Int32 → Int32 → jM → Option (Int32 × jM)) (l3 : Int32) (τ : jM), k ≤ N → I k l3 τ → (∀ (k' : Nat) (l3' : Int32) (τ' : jM), k < k' → k' ≤ N → I k' l3' τ' → ok (q l0 l1 l2 l3' τ') Q) → ok (s_X7_vowelFor_4  q l0 l1 l2 l3 τ) Q) {k : Nat} {l3 : Int32} {σ : jM} (hk : k ≤ N) (hI : I k l3 σ) : ok (f_X7_vowelFor_4  Fu l0 l1 l2 l3 σ) Q := by
  have H : ∀ (n k : Nat) (l3 : Int32) (σ : jM), k ≤ N → I k l3 σ → N < k + n → ok (f_X7_vowelFor_4  n l0 l1 l2 l3 σ) Q := by
    intro n
    induction n with
    | zero => intro k l3 σ hk hI hm; omega
    | succ n ih => intro k l3 σ hk hI hm; exact h k (f_X7_vowelFor_4  n) l3 σ hk hI (fun k' l3' τ' h1 h2 h3 => ih k' l3' τ' h2 h3 (by omega))
  exact H Fu k l3 σ hk hI (by unfold Fu; omega)
theorem L_X7_writtenFor_7  {l0 : Nat} {l1 : Int32} {Q : Int32 → jM → Prop} (N : Nat) (I : Nat → Int32 → jM → Prop) (hN : N < 1000000000) (h : ∀ (k : Nat) (q : Nat → Int32 → Int32 → jM → Option (Int32 × jM)) (l2 : Int32) (τ : jM), k ≤ N → I k l2 τ → (∀ (k' : Nat) (l2' : Int32) (τ' : jM), k < k' → k' ≤ N → I k' l2' τ' → ok (q l0 l1 l2' τ') Q) → ok (s_X7_writtenFor_7  q l0 l1 l2 τ) Q) {k : Nat} {l2 : Int32} {σ : jM} (hk : k ≤ N) (hI : I k l2 σ) : ok (f_X7_writtenFor_7  Fu l0 l1 l2 σ) Q := by
  have H : ∀ (n k : Nat) (l2 : Int32) (σ : jM), k ≤ N → I k l2 σ → N < k + n → ok (f_X7_writtenFor_7  n l0 l1 l2 σ) Q := by
    intro n
    induction n with
    | zero => intro k l2 σ hk hI hm; omega
    | succ n ih => intro k l2 σ hk hI hm; exact h k (f_X7_writtenFor_7  n) l2 σ hk hI (fun k' l2' τ' h1 h2 h3 => ih k' l2' τ' h2 h3 (by omega))
  exact H Fu k l2 σ hk hI (by unfold Fu; omega)
theorem L_X7_drops_2  {l0 : Nat} {l1 : Int32} {Q : Int32 → jM → Prop} (N : Nat) (I : Nat → Int32 → jM → Prop) (hN : N < 1000000000) (h : ∀ (k : Nat) (q : Nat → Int32 → Int32 → jM → Option (Int32 × jM)) (l2 : Int32) (τ : jM), k ≤ N → I k l2 τ → (∀ (k' : Nat) (l2' : Int32) (τ' : jM), k < k' → k' ≤ N → I k' l2' τ' → ok (q l0 l1 l2' τ') Q) → ok (s_X7_drops_2  q l0 l1 l2 τ) Q) {k : Nat} {l2 : Int32} {σ : jM} (hk : k ≤ N) (hI : I k l2 σ) : ok (f_X7_drops_2  Fu l0 l1 l2 σ) Q := by
  have H : ∀ (n k : Nat) (l2 : Int32) (σ : jM), k ≤ N → I k l2 σ → N < k + n → ok (f_X7_drops_2  n l0 l1 l2 σ) Q := by
    intro n
    induction n with
    | zero => intro k l2 σ hk hI hm; omega
    | succ n ih => intro k l2 σ hk hI hm; exact h k (f_X7_drops_2  n) l2 σ hk hI (fun k' l2' τ' h1 h2 h3 => ih k' l2' τ' h2 h3 (by omega))
  exact H Fu k l2 σ hk hI (by unfold Fu; omega)
theorem L_X8_rowOfName_2  {l1 : Int32} {Q : Int32 → jM → Prop} (N : Nat) (I : Nat → Int32 → jM → Prop) (hN : N < 1000000000) (h : ∀ (k : Nat) (q : Int32 → Int32 → jM → Option (Int32 × jM)) (l2 : Int32) (τ : jM), k ≤ N → I k l2 τ → (∀ (k' : Nat) (l2' : Int32) (τ' : jM), k < k' → k' ≤ N → I k' l2' τ' → ok (q l1 l2' τ') Q) → ok (s_X8_rowOfName_2  q l1 l2 τ) Q) {k : Nat} {l2 : Int32} {σ : jM} (hk : k ≤ N) (hI : I k l2 σ) : ok (f_X8_rowOfName_2  Fu l1 l2 σ) Q := by
  have H : ∀ (n k : Nat) (l2 : Int32) (σ : jM), k ≤ N → I k l2 σ → N < k + n → ok (f_X8_rowOfName_2  n l1 l2 σ) Q := by
    intro n
    induction n with
    | zero => intro k l2 σ hk hI hm; omega
    | succ n ih => intro k l2 σ hk hI hm; exact h k (f_X8_rowOfName_2  n) l2 σ hk hI (fun k' l2' τ' h1 h2 h3 => ih k' l2' τ' h2 h3 (by omega))
  exact H Fu k l2 σ hk hI (by unfold Fu; omega)
theorem L_X8_everySeatHasRows_30 {rec2 : Int32 → jM → Option (Int32 × jM)} {l1 : Int32} {l2 : Nat} {Q : Int32 → jM → Prop} (N : Nat) (I : Nat → Int32 → Int32 → jM → Prop) (hN : N < 1000000000) (h : ∀ (k : Nat) (q : Int32 → Nat → Int32 → Int32 → jM → Option (Int32 × jM)) (l3 : Int32) (l4 : Int32) (τ : jM), k ≤ N → I k l3 l4 τ → (∀ (k' : Nat) (l3' : Int32) (l4' : Int32) (τ' : jM), k < k' → k' ≤ N → I k' l3' l4' τ' → ok (q l1 l2 l3' l4' τ') Q) → ok (s_X8_everySeatHasRows_30 rec2 q l1 l2 l3 l4 τ) Q) {k : Nat} {l3 : Int32} {l4 : Int32} {σ : jM} (hk : k ≤ N) (hI : I k l3 l4 σ) : ok (f_X8_everySeatHasRows_30 rec2 Fu l1 l2 l3 l4 σ) Q := by
  have H : ∀ (n k : Nat) (l3 : Int32) (l4 : Int32) (σ : jM), k ≤ N → I k l3 l4 σ → N < k + n → ok (f_X8_everySeatHasRows_30 rec2 n l1 l2 l3 l4 σ) Q := by
    intro n
    induction n with
    | zero => intro k l3 l4 σ hk hI hm; omega
    | succ n ih => intro k l3 l4 σ hk hI hm; exact h k (f_X8_everySeatHasRows_30 rec2 n) l3 l4 σ hk hI (fun k' l3' l4' τ' h1 h2 h3 => ih k' l3' l4' τ' h2 h3 (by omega))
  exact H Fu k l3 l4 σ hk hI (by unfold Fu; omega)
theorem L_X8_everySeatHasRows_2   {Q : Int32 → jM → Prop} (N : Nat) (I : Nat → Int32 → jM → Prop) (hN : N < 1000000000) (h : ∀ (k : Nat) (q : Int32 → jM → Option (Int32 × jM)) (l1 : Int32) (τ : jM), k ≤ N → I k l1 τ → (∀ (k' : Nat) (l1' : Int32) (τ' : jM), k < k' → k' ≤ N → I k' l1' τ' → ok (q l1' τ') Q) → ok (s_X8_everySeatHasRows_2  q l1 τ) Q) {k : Nat} {l1 : Int32} {σ : jM} (hk : k ≤ N) (hI : I k l1 σ) : ok (f_X8_everySeatHasRows_2  Fu l1 σ) Q := by
  have H : ∀ (n k : Nat) (l1 : Int32) (σ : jM), k ≤ N → I k l1 σ → N < k + n → ok (f_X8_everySeatHasRows_2  n l1 σ) Q := by
    intro n
    induction n with
    | zero => intro k l1 σ hk hI hm; omega
    | succ n ih => intro k l1 σ hk hI hm; exact h k (f_X8_everySeatHasRows_2  n) l1 σ hk hI (fun k' l1' τ' h1 h2 h3 => ih k' l1' τ' h2 h3 (by omega))
  exact H Fu k l1 σ hk hI (by unfold Fu; omega)
theorem L_X8_isOpen_35  {l2 : Int32} {l3 : Int32} {Q : Int32 → jM → Prop} (N : Nat) (I : Nat → Int32 → jM → Prop) (hN : N < 1000000000) (h : ∀ (k : Nat) (q : Int32 → Int32 → Int32 → jM → Option (Int32 × jM)) (l4 : Int32) (τ : jM), k ≤ N → I k l4 τ → (∀ (k' : Nat) (l4' : Int32) (τ' : jM), k < k' → k' ≤ N → I k' l4' τ' → ok (q l2 l3 l4' τ') Q) → ok (s_X8_isOpen_35  q l2 l3 l4 τ) Q) {k : Nat} {l4 : Int32} {σ : jM} (hk : k ≤ N) (hI : I k l4 σ) : ok (f_X8_isOpen_35  Fu l2 l3 l4 σ) Q := by
  have H : ∀ (n k : Nat) (l4 : Int32) (σ : jM), k ≤ N → I k l4 σ → N < k + n → ok (f_X8_isOpen_35  n l2 l3 l4 σ) Q := by
    intro n
    induction n with
    | zero => intro k l4 σ hk hI hm; omega
    | succ n ih => intro k l4 σ hk hI hm; exact h k (f_X8_isOpen_35  n) l4 σ hk hI (fun k' l4' τ' h1 h2 h3 => ih k' l4' τ' h2 h3 (by omega))
  exact H Fu k l4 σ hk hI (by unfold Fu; omega)
theorem L_X8_note_2  {l1 : Int32} {l2 : Int32} {Q : Unit → jM → Prop} (N : Nat) (I : Nat → Int32 → jM → Prop) (hN : N < 1000000000) (h : ∀ (k : Nat) (q : Int32 → Int32 → Int32 → jM → Option (Unit × jM)) (l3 : Int32) (τ : jM), k ≤ N → I k l3 τ → (∀ (k' : Nat) (l3' : Int32) (τ' : jM), k < k' → k' ≤ N → I k' l3' τ' → ok (q l1 l2 l3' τ') Q) → ok (s_X8_note_2  q l1 l2 l3 τ) Q) {k : Nat} {l3 : Int32} {σ : jM} (hk : k ≤ N) (hI : I k l3 σ) : ok (f_X8_note_2  Fu l1 l2 l3 σ) Q := by
  have H : ∀ (n k : Nat) (l3 : Int32) (σ : jM), k ≤ N → I k l3 σ → N < k + n → ok (f_X8_note_2  n l1 l2 l3 σ) Q := by
    intro n
    induction n with
    | zero => intro k l3 σ hk hI hm; omega
    | succ n ih => intro k l3 σ hk hI hm; exact h k (f_X8_note_2  n) l3 σ hk hI (fun k' l3' τ' h1 h2 h3 => ih k' l3' τ' h2 h3 (by omega))
  exact H Fu k l3 σ hk hI (by unfold Fu; omega)
theorem L_X11_takeBytes_3  {l1 : Int32} {Q : Unit → jM → Prop} (N : Nat) (I : Nat → Int32 → jM → Prop) (hN : N < 1000000000) (h : ∀ (k : Nat) (q : Int32 → Int32 → jM → Option (Unit × jM)) (l2 : Int32) (τ : jM), k ≤ N → I k l2 τ → (∀ (k' : Nat) (l2' : Int32) (τ' : jM), k < k' → k' ≤ N → I k' l2' τ' → ok (q l1 l2' τ') Q) → ok (s_X11_takeBytes_3  q l1 l2 τ) Q) {k : Nat} {l2 : Int32} {σ : jM} (hk : k ≤ N) (hI : I k l2 σ) : ok (f_X11_takeBytes_3  Fu l1 l2 σ) Q := by
  have H : ∀ (n k : Nat) (l2 : Int32) (σ : jM), k ≤ N → I k l2 σ → N < k + n → ok (f_X11_takeBytes_3  n l1 l2 σ) Q := by
    intro n
    induction n with
    | zero => intro k l2 σ hk hI hm; omega
    | succ n ih => intro k l2 σ hk hI hm; exact h k (f_X11_takeBytes_3  n) l2 σ hk hI (fun k' l2' τ' h1 h2 h3 => ih k' l2' τ' h2 h3 (by omega))
  exact H Fu k l2 σ hk hI (by unfold Fu; omega)
theorem L_X11_isWord_28  {l1 : Nat} {Q : Int32 → jM → Prop} (N : Nat) (I : Nat → Int32 → jM → Prop) (hN : N < 1000000000) (h : ∀ (k : Nat) (q : Nat → Int32 → jM → Option (Int32 × jM)) (l2 : Int32) (τ : jM), k ≤ N → I k l2 τ → (∀ (k' : Nat) (l2' : Int32) (τ' : jM), k < k' → k' ≤ N → I k' l2' τ' → ok (q l1 l2' τ') Q) → ok (s_X11_isWord_28  q l1 l2 τ) Q) {k : Nat} {l2 : Int32} {σ : jM} (hk : k ≤ N) (hI : I k l2 σ) : ok (f_X11_isWord_28  Fu l1 l2 σ) Q := by
  have H : ∀ (n k : Nat) (l2 : Int32) (σ : jM), k ≤ N → I k l2 σ → N < k + n → ok (f_X11_isWord_28  n l1 l2 σ) Q := by
    intro n
    induction n with
    | zero => intro k l2 σ hk hI hm; omega
    | succ n ih => intro k l2 σ hk hI hm; exact h k (f_X11_isWord_28  n) l2 σ hk hI (fun k' l2' τ' h1 h2 h3 => ih k' l2' τ' h2 h3 (by omega))
  exact H Fu k l2 σ hk hI (by unfold Fu; omega)
theorem L_X12_around_5  {l0 : Nat} {l1 : Int64} {Q : Int64 → jM → Prop} (N : Nat) (I : Nat → Int64 → Int32 → jM → Prop) (hN : N < 1000000000) (h : ∀ (k : Nat) (q : Nat → Int64 → Int64 → Int32 → jM → Option (Int64 × jM)) (l3 : Int64) (l5 : Int32) (τ : jM), k ≤ N → I k l3 l5 τ → (∀ (k' : Nat) (l3' : Int64) (l5' : Int32) (τ' : jM), k < k' → k' ≤ N → I k' l3' l5' τ' → ok (q l0 l1 l3' l5' τ') Q) → ok (s_X12_around_5  q l0 l1 l3 l5 τ) Q) {k : Nat} {l3 : Int64} {l5 : Int32} {σ : jM} (hk : k ≤ N) (hI : I k l3 l5 σ) : ok (f_X12_around_5  Fu l0 l1 l3 l5 σ) Q := by
  have H : ∀ (n k : Nat) (l3 : Int64) (l5 : Int32) (σ : jM), k ≤ N → I k l3 l5 σ → N < k + n → ok (f_X12_around_5  n l0 l1 l3 l5 σ) Q := by
    intro n
    induction n with
    | zero => intro k l3 l5 σ hk hI hm; omega
    | succ n ih => intro k l3 l5 σ hk hI hm; exact h k (f_X12_around_5  n) l3 l5 σ hk hI (fun k' l3' l5' τ' h1 h2 h3 => ih k' l3' l5' τ' h2 h3 (by omega))
  exact H Fu k l3 l5 σ hk hI (by unfold Fu; omega)
theorem L_X12_reachOf_22  {l0 : Nat} {Q : Int64 → jM → Prop} (N : Nat) (I : Nat → Int64 → Int64 → Int32 → jM → Prop) (hN : N < 1000000000) (h : ∀ (k : Nat) (q : Nat → Int64 → Int64 → Int32 → jM → Option (Int64 × jM)) (l2 : Int64) (l4 : Int64) (l6 : Int32) (τ : jM), k ≤ N → I k l2 l4 l6 τ → (∀ (k' : Nat) (l2' : Int64) (l4' : Int64) (l6' : Int32) (τ' : jM), k < k' → k' ≤ N → I k' l2' l4' l6' τ' → ok (q l0 l2' l4' l6' τ') Q) → ok (s_X12_reachOf_22  q l0 l2 l4 l6 τ) Q) {k : Nat} {l2 : Int64} {l4 : Int64} {l6 : Int32} {σ : jM} (hk : k ≤ N) (hI : I k l2 l4 l6 σ) : ok (f_X12_reachOf_22  Fu l0 l2 l4 l6 σ) Q := by
  have H : ∀ (n k : Nat) (l2 : Int64) (l4 : Int64) (l6 : Int32) (σ : jM), k ≤ N → I k l2 l4 l6 σ → N < k + n → ok (f_X12_reachOf_22  n l0 l2 l4 l6 σ) Q := by
    intro n
    induction n with
    | zero => intro k l2 l4 l6 σ hk hI hm; omega
    | succ n ih => intro k l2 l4 l6 σ hk hI hm; exact h k (f_X12_reachOf_22  n) l2 l4 l6 σ hk hI (fun k' l2' l4' l6' τ' h1 h2 h3 => ih k' l2' l4' l6' τ' h2 h3 (by omega))
  exact H Fu k l2 l4 l6 σ hk hI (by unfold Fu; omega)
theorem L_X13_feed_23  {l1 : Int32} {l2 : Int32} {l3 : Int32} {l4 : Int32} {l5 : Int32} {Q : Int32 → jM → Prop} (N : Nat) (I : Nat → Int32 → jM → Prop) (hN : N < 1000000000) (h : ∀ (k : Nat) (q : Int32 → Int32 → Int32 → Int32 → Int32 → Int32 → jM → Option (Int32 × jM)) (l6 : Int32) (τ : jM), k ≤ N → I k l6 τ → (∀ (k' : Nat) (l6' : Int32) (τ' : jM), k < k' → k' ≤ N → I k' l6' τ' → ok (q l1 l2 l3 l4 l5 l6' τ') Q) → ok (s_X13_feed_23  q l1 l2 l3 l4 l5 l6 τ) Q) {k : Nat} {l6 : Int32} {σ : jM} (hk : k ≤ N) (hI : I k l6 σ) : ok (f_X13_feed_23  Fu l1 l2 l3 l4 l5 l6 σ) Q := by
  have H : ∀ (n k : Nat) (l6 : Int32) (σ : jM), k ≤ N → I k l6 σ → N < k + n → ok (f_X13_feed_23  n l1 l2 l3 l4 l5 l6 σ) Q := by
    intro n
    induction n with
    | zero => intro k l6 σ hk hI hm; omega
    | succ n ih => intro k l6 σ hk hI hm; exact h k (f_X13_feed_23  n) l6 σ hk hI (fun k' l6' τ' h1 h2 h3 => ih k' l6' τ' h2 h3 (by omega))
  exact H Fu k l6 σ hk hI (by unfold Fu; omega)
theorem L_X13_next_159   {Q : Unit → jM → Prop} (N : Nat) (I : Nat → jM → Prop) (hN : N < 1000000000) (h : ∀ (k : Nat) (q : jM → Option (Unit × jM))  (τ : jM), k ≤ N → I k  τ → (∀ (k' : Nat)  (τ' : jM), k < k' → k' ≤ N → I k'  τ' → ok (q  τ') Q) → ok (s_X13_next_159  q  τ) Q) {k : Nat}  {σ : jM} (hk : k ≤ N) (hI : I k  σ) : ok (f_X13_next_159  Fu  σ) Q := by
  have H : ∀ (n k : Nat)  (σ : jM), k ≤ N → I k  σ → N < k + n → ok (f_X13_next_159  n  σ) Q := by
    intro n
    induction n with
    | zero => intro k  σ hk hI hm; omega
    | succ n ih => intro k  σ hk hI hm; exact h k (f_X13_next_159  n)  σ hk hI (fun k'  τ' h1 h2 h3 => ih k'  τ' h2 h3 (by omega))
  exact H Fu k  σ hk hI (by unfold Fu; omega)
theorem L_X13_next_109   {Q : Unit → jM → Prop} (N : Nat) (I : Nat → jM → Prop) (hN : N < 1000000000) (h : ∀ (k : Nat) (q : jM → Option (Unit × jM))  (τ : jM), k ≤ N → I k  τ → (∀ (k' : Nat)  (τ' : jM), k < k' → k' ≤ N → I k'  τ' → ok (q  τ') Q) → ok (s_X13_next_109  q  τ) Q) {k : Nat}  {σ : jM} (hk : k ≤ N) (hI : I k  σ) : ok (f_X13_next_109  Fu  σ) Q := by
  have H : ∀ (n k : Nat)  (σ : jM), k ≤ N → I k  σ → N < k + n → ok (f_X13_next_109  n  σ) Q := by
    intro n
    induction n with
    | zero => intro k  σ hk hI hm; omega
    | succ n ih => intro k  σ hk hI hm; exact h k (f_X13_next_109  n)  σ hk hI (fun k'  τ' h1 h2 h3 => ih k'  τ' h2 h3 (by omega))
  exact H Fu k  σ hk hI (by unfold Fu; omega)
theorem L_X13_next_0   {Q : Unit → jM → Prop} (N : Nat) (I : Nat → jM → Prop) (hN : N < 1000000000) (h : ∀ (k : Nat) (q : jM → Option (Unit × jM))  (τ : jM), k ≤ N → I k  τ → (∀ (k' : Nat)  (τ' : jM), k < k' → k' ≤ N → I k'  τ' → ok (q  τ') Q) → ok (s_X13_next_0  q  τ) Q) {k : Nat}  {σ : jM} (hk : k ≤ N) (hI : I k  σ) : ok (f_X13_next_0  Fu  σ) Q := by
  have H : ∀ (n k : Nat)  (σ : jM), k ≤ N → I k  σ → N < k + n → ok (f_X13_next_0  n  σ) Q := by
    intro n
    induction n with
    | zero => intro k  σ hk hI hm; omega
    | succ n ih => intro k  σ hk hI hm; exact h k (f_X13_next_0  n)  σ hk hI (fun k'  τ' h1 h2 h3 => ih k'  τ' h2 h3 (by omega))
  exact H Fu k  σ hk hI (by unfold Fu; omega)
theorem L_X13_isWord_28  {l1 : Nat} {Q : Int32 → jM → Prop} (N : Nat) (I : Nat → Int32 → jM → Prop) (hN : N < 1000000000) (h : ∀ (k : Nat) (q : Nat → Int32 → jM → Option (Int32 × jM)) (l2 : Int32) (τ : jM), k ≤ N → I k l2 τ → (∀ (k' : Nat) (l2' : Int32) (τ' : jM), k < k' → k' ≤ N → I k' l2' τ' → ok (q l1 l2' τ') Q) → ok (s_X13_isWord_28  q l1 l2 τ) Q) {k : Nat} {l2 : Int32} {σ : jM} (hk : k ≤ N) (hI : I k l2 σ) : ok (f_X13_isWord_28  Fu l1 l2 σ) Q := by
  have H : ∀ (n k : Nat) (l2 : Int32) (σ : jM), k ≤ N → I k l2 σ → N < k + n → ok (f_X13_isWord_28  n l1 l2 σ) Q := by
    intro n
    induction n with
    | zero => intro k l2 σ hk hI hm; omega
    | succ n ih => intro k l2 σ hk hI hm; exact h k (f_X13_isWord_28  n) l2 σ hk hI (fun k' l2' τ' h1 h2 h3 => ih k' l2' τ' h2 h3 (by omega))
  exact H Fu k l2 σ hk hI (by unfold Fu; omega)
theorem L_X13_readRow_80  {l1 : Int32} {Q : Unit → jM → Prop} (N : Nat) (I : Nat → jM → Prop) (hN : N < 1000000000) (h : ∀ (k : Nat) (q : Int32 → jM → Option (Unit × jM))  (τ : jM), k ≤ N → I k  τ → (∀ (k' : Nat)  (τ' : jM), k < k' → k' ≤ N → I k'  τ' → ok (q l1 τ') Q) → ok (s_X13_readRow_80  q l1 τ) Q) {k : Nat}  {σ : jM} (hk : k ≤ N) (hI : I k  σ) : ok (f_X13_readRow_80  Fu l1 σ) Q := by
  have H : ∀ (n k : Nat)  (σ : jM), k ≤ N → I k  σ → N < k + n → ok (f_X13_readRow_80  n l1 σ) Q := by
    intro n
    induction n with
    | zero => intro k  σ hk hI hm; omega
    | succ n ih => intro k  σ hk hI hm; exact h k (f_X13_readRow_80  n)  σ hk hI (fun k'  τ' h1 h2 h3 => ih k'  τ' h2 h3 (by omega))
  exact H Fu k  σ hk hI (by unfold Fu; omega)
theorem L_X13_tablet_114 {rec84 : Int32 → Int32 → jM → Option (Int32 × jM)} {l2 : Int32} {l3 : Int32} {Q : Int32 → jM → Prop} (N : Nat) (I : Nat → Int32 → jM → Prop) (hN : N < 1000000000) (h : ∀ (k : Nat) (q : Int32 → Int32 → Int32 → jM → Option (Int32 × jM)) (l4 : Int32) (τ : jM), k ≤ N → I k l4 τ → (∀ (k' : Nat) (l4' : Int32) (τ' : jM), k < k' → k' ≤ N → I k' l4' τ' → ok (q l2 l3 l4' τ') Q) → ok (s_X13_tablet_114 rec84 q l2 l3 l4 τ) Q) {k : Nat} {l4 : Int32} {σ : jM} (hk : k ≤ N) (hI : I k l4 σ) : ok (f_X13_tablet_114 rec84 Fu l2 l3 l4 σ) Q := by
  have H : ∀ (n k : Nat) (l4 : Int32) (σ : jM), k ≤ N → I k l4 σ → N < k + n → ok (f_X13_tablet_114 rec84 n l2 l3 l4 σ) Q := by
    intro n
    induction n with
    | zero => intro k l4 σ hk hI hm; omega
    | succ n ih => intro k l4 σ hk hI hm; exact h k (f_X13_tablet_114 rec84 n) l4 σ hk hI (fun k' l4' τ' h1 h2 h3 => ih k' l4' τ' h2 h3 (by omega))
  exact H Fu k l4 σ hk hI (by unfold Fu; omega)
theorem L_X13_tablet_84  {l2 : Int32} {Q : Int32 → jM → Prop} (N : Nat) (I : Nat → Int32 → jM → Prop) (hN : N < 1000000000) (h : ∀ (k : Nat) (q : Int32 → Int32 → jM → Option (Int32 × jM)) (l3 : Int32) (τ : jM), k ≤ N → I k l3 τ → (∀ (k' : Nat) (l3' : Int32) (τ' : jM), k < k' → k' ≤ N → I k' l3' τ' → ok (q l2 l3' τ') Q) → ok (s_X13_tablet_84  q l2 l3 τ) Q) {k : Nat} {l3 : Int32} {σ : jM} (hk : k ≤ N) (hI : I k l3 σ) : ok (f_X13_tablet_84  Fu l2 l3 σ) Q := by
  have H : ∀ (n k : Nat) (l3 : Int32) (σ : jM), k ≤ N → I k l3 σ → N < k + n → ok (f_X13_tablet_84  n l2 l3 σ) Q := by
    intro n
    induction n with
    | zero => intro k l3 σ hk hI hm; omega
    | succ n ih => intro k l3 σ hk hI hm; exact h k (f_X13_tablet_84  n) l3 σ hk hI (fun k' l3' τ' h1 h2 h3 => ih k' l3' τ' h2 h3 (by omega))
  exact H Fu k l3 σ hk hI (by unfold Fu; omega)
theorem L_X13_tablet_32   {Q : Int32 → jM → Prop} (N : Nat) (I : Nat → jM → Prop) (hN : N < 1000000000) (h : ∀ (k : Nat) (q : jM → Option (Int32 × jM))  (τ : jM), k ≤ N → I k  τ → (∀ (k' : Nat)  (τ' : jM), k < k' → k' ≤ N → I k'  τ' → ok (q  τ') Q) → ok (s_X13_tablet_32  q  τ) Q) {k : Nat}  {σ : jM} (hk : k ≤ N) (hI : I k  σ) : ok (f_X13_tablet_32  Fu  σ) Q := by
  have H : ∀ (n k : Nat)  (σ : jM), k ≤ N → I k  σ → N < k + n → ok (f_X13_tablet_32  n  σ) Q := by
    intro n
    induction n with
    | zero => intro k  σ hk hI hm; omega
    | succ n ih => intro k  σ hk hI hm; exact h k (f_X13_tablet_32  n)  σ hk hI (fun k'  τ' h1 h2 h3 => ih k'  τ' h2 h3 (by omega))
  exact H Fu k  σ hk hI (by unfold Fu; omega)
theorem L_X13_rules_78   {Q : Int32 → jM → Prop} (N : Nat) (I : Nat → Int32 → jM → Prop) (hN : N < 1000000000) (h : ∀ (k : Nat) (q : Int32 → jM → Option (Int32 × jM)) (l2 : Int32) (τ : jM), k ≤ N → I k l2 τ → (∀ (k' : Nat) (l2' : Int32) (τ' : jM), k < k' → k' ≤ N → I k' l2' τ' → ok (q l2' τ') Q) → ok (s_X13_rules_78  q l2 τ) Q) {k : Nat} {l2 : Int32} {σ : jM} (hk : k ≤ N) (hI : I k l2 σ) : ok (f_X13_rules_78  Fu l2 σ) Q := by
  have H : ∀ (n k : Nat) (l2 : Int32) (σ : jM), k ≤ N → I k l2 σ → N < k + n → ok (f_X13_rules_78  n l2 σ) Q := by
    intro n
    induction n with
    | zero => intro k l2 σ hk hI hm; omega
    | succ n ih => intro k l2 σ hk hI hm; exact h k (f_X13_rules_78  n) l2 σ hk hI (fun k' l2' τ' h1 h2 h3 => ih k' l2' τ' h2 h3 (by omega))
  exact H Fu k l2 σ hk hI (by unfold Fu; omega)
theorem L_X13_rules_28   {Q : Int32 → jM → Prop} (N : Nat) (I : Nat → jM → Prop) (hN : N < 1000000000) (h : ∀ (k : Nat) (q : jM → Option (Int32 × jM))  (τ : jM), k ≤ N → I k  τ → (∀ (k' : Nat)  (τ' : jM), k < k' → k' ≤ N → I k'  τ' → ok (q  τ') Q) → ok (s_X13_rules_28  q  τ) Q) {k : Nat}  {σ : jM} (hk : k ≤ N) (hI : I k  σ) : ok (f_X13_rules_28  Fu  σ) Q := by
  have H : ∀ (n k : Nat)  (σ : jM), k ≤ N → I k  σ → N < k + n → ok (f_X13_rules_28  n  σ) Q := by
    intro n
    induction n with
    | zero => intro k  σ hk hI hm; omega
    | succ n ih => intro k  σ hk hI hm; exact h k (f_X13_rules_28  n)  σ hk hI (fun k'  τ' h1 h2 h3 => ih k'  τ' h2 h3 (by omega))
  exact H Fu k  σ hk hI (by unfold Fu; omega)
theorem L_X13_rulesBy_4  {l1 : Int32} {Q : Int32 → jM → Prop} (N : Nat) (I : Nat → Int32 → Int32 → jM → Prop) (hN : N < 1000000000) (h : ∀ (k : Nat) (q : Int32 → Int32 → Int32 → jM → Option (Int32 × jM)) (l2 : Int32) (l3 : Int32) (τ : jM), k ≤ N → I k l2 l3 τ → (∀ (k' : Nat) (l2' : Int32) (l3' : Int32) (τ' : jM), k < k' → k' ≤ N → I k' l2' l3' τ' → ok (q l1 l2' l3' τ') Q) → ok (s_X13_rulesBy_4  q l1 l2 l3 τ) Q) {k : Nat} {l2 : Int32} {l3 : Int32} {σ : jM} (hk : k ≤ N) (hI : I k l2 l3 σ) : ok (f_X13_rulesBy_4  Fu l1 l2 l3 σ) Q := by
  have H : ∀ (n k : Nat) (l2 : Int32) (l3 : Int32) (σ : jM), k ≤ N → I k l2 l3 σ → N < k + n → ok (f_X13_rulesBy_4  n l1 l2 l3 σ) Q := by
    intro n
    induction n with
    | zero => intro k l2 l3 σ hk hI hm; omega
    | succ n ih => intro k l2 l3 σ hk hI hm; exact h k (f_X13_rulesBy_4  n) l2 l3 σ hk hI (fun k' l2' l3' τ' h1 h2 h3 => ih k' l2' l3' τ' h2 h3 (by omega))
  exact H Fu k l2 l3 σ hk hI (by unfold Fu; omega)
theorem L_X13_moreTrust_18 {rec6 : Int32 → Int32 → Int32 → Int32 → Int32 → jM → Option (Int32 × jM)} {l1 : Int32} {l2 : Int32} {l3 : Int32} {l4 : Int32} {l5 : Int32} {Q : Int32 → jM → Prop} (N : Nat) (I : Nat → Int32 → Int32 → jM → Prop) (hN : N < 1000000000) (h : ∀ (k : Nat) (q : Int32 → Int32 → Int32 → Int32 → Int32 → Int32 → Int32 → jM → Option (Int32 × jM)) (l6 : Int32) (l7 : Int32) (τ : jM), k ≤ N → I k l6 l7 τ → (∀ (k' : Nat) (l6' : Int32) (l7' : Int32) (τ' : jM), k < k' → k' ≤ N → I k' l6' l7' τ' → ok (q l1 l2 l3 l4 l5 l6' l7' τ') Q) → ok (s_X13_moreTrust_18 rec6 q l1 l2 l3 l4 l5 l6 l7 τ) Q) {k : Nat} {l6 : Int32} {l7 : Int32} {σ : jM} (hk : k ≤ N) (hI : I k l6 l7 σ) : ok (f_X13_moreTrust_18 rec6 Fu l1 l2 l3 l4 l5 l6 l7 σ) Q := by
  have H : ∀ (n k : Nat) (l6 : Int32) (l7 : Int32) (σ : jM), k ≤ N → I k l6 l7 σ → N < k + n → ok (f_X13_moreTrust_18 rec6 n l1 l2 l3 l4 l5 l6 l7 σ) Q := by
    intro n
    induction n with
    | zero => intro k l6 l7 σ hk hI hm; omega
    | succ n ih => intro k l6 l7 σ hk hI hm; exact h k (f_X13_moreTrust_18 rec6 n) l6 l7 σ hk hI (fun k' l6' l7' τ' h1 h2 h3 => ih k' l6' l7' τ' h2 h3 (by omega))
  exact H Fu k l6 l7 σ hk hI (by unfold Fu; omega)
theorem L_X13_moreTrust_6  {l1 : Int32} {l2 : Int32} {l3 : Int32} {Q : Int32 → jM → Prop} (N : Nat) (I : Nat → Int32 → Int32 → jM → Prop) (hN : N < 1000000000) (h : ∀ (k : Nat) (q : Int32 → Int32 → Int32 → Int32 → Int32 → jM → Option (Int32 × jM)) (l4 : Int32) (l5 : Int32) (τ : jM), k ≤ N → I k l4 l5 τ → (∀ (k' : Nat) (l4' : Int32) (l5' : Int32) (τ' : jM), k < k' → k' ≤ N → I k' l4' l5' τ' → ok (q l1 l2 l3 l4' l5' τ') Q) → ok (s_X13_moreTrust_6  q l1 l2 l3 l4 l5 τ) Q) {k : Nat} {l4 : Int32} {l5 : Int32} {σ : jM} (hk : k ≤ N) (hI : I k l4 l5 σ) : ok (f_X13_moreTrust_6  Fu l1 l2 l3 l4 l5 σ) Q := by
  have H : ∀ (n k : Nat) (l4 : Int32) (l5 : Int32) (σ : jM), k ≤ N → I k l4 l5 σ → N < k + n → ok (f_X13_moreTrust_6  n l1 l2 l3 l4 l5 σ) Q := by
    intro n
    induction n with
    | zero => intro k l4 l5 σ hk hI hm; omega
    | succ n ih => intro k l4 l5 σ hk hI hm; exact h k (f_X13_moreTrust_6  n) l4 l5 σ hk hI (fun k' l4' l5' τ' h1 h2 h3 => ih k' l4' l5' τ' h2 h3 (by omega))
  exact H Fu k l4 l5 σ hk hI (by unfold Fu; omega)
theorem L_X13_findStands_88 {rec23 : Int32 → Int32 → jM → Option (Unit × jM)} {l1 : Int32} {l2 : Int32} {l3 : Int32} {l4 : Int32} {Q : Unit → jM → Prop} (N : Nat) (I : Nat → Int32 → jM → Prop) (hN : N < 1000000000) (h : ∀ (k : Nat) (q : Int32 → Int32 → Int32 → Int32 → Int32 → jM → Option (Unit × jM)) (l5 : Int32) (τ : jM), k ≤ N → I k l5 τ → (∀ (k' : Nat) (l5' : Int32) (τ' : jM), k < k' → k' ≤ N → I k' l5' τ' → ok (q l1 l2 l3 l4 l5' τ') Q) → ok (s_X13_findStands_88 rec23 q l1 l2 l3 l4 l5 τ) Q) {k : Nat} {l5 : Int32} {σ : jM} (hk : k ≤ N) (hI : I k l5 σ) : ok (f_X13_findStands_88 rec23 Fu l1 l2 l3 l4 l5 σ) Q := by
  have H : ∀ (n k : Nat) (l5 : Int32) (σ : jM), k ≤ N → I k l5 σ → N < k + n → ok (f_X13_findStands_88 rec23 n l1 l2 l3 l4 l5 σ) Q := by
    intro n
    induction n with
    | zero => intro k l5 σ hk hI hm; omega
    | succ n ih => intro k l5 σ hk hI hm; exact h k (f_X13_findStands_88 rec23 n) l5 σ hk hI (fun k' l5' τ' h1 h2 h3 => ih k' l5' τ' h2 h3 (by omega))
  exact H Fu k l5 σ hk hI (by unfold Fu; omega)
theorem L_X13_findStands_23  {l1 : Int32} {Q : Unit → jM → Prop} (N : Nat) (I : Nat → Int32 → jM → Prop) (hN : N < 1000000000) (h : ∀ (k : Nat) (q : Int32 → Int32 → jM → Option (Unit × jM)) (l2 : Int32) (τ : jM), k ≤ N → I k l2 τ → (∀ (k' : Nat) (l2' : Int32) (τ' : jM), k < k' → k' ≤ N → I k' l2' τ' → ok (q l1 l2' τ') Q) → ok (s_X13_findStands_23  q l1 l2 τ) Q) {k : Nat} {l2 : Int32} {σ : jM} (hk : k ≤ N) (hI : I k l2 σ) : ok (f_X13_findStands_23  Fu l1 l2 σ) Q := by
  have H : ∀ (n k : Nat) (l2 : Int32) (σ : jM), k ≤ N → I k l2 σ → N < k + n → ok (f_X13_findStands_23  n l1 l2 σ) Q := by
    intro n
    induction n with
    | zero => intro k l2 σ hk hI hm; omega
    | succ n ih => intro k l2 σ hk hI hm; exact h k (f_X13_findStands_23  n) l2 σ hk hI (fun k' l2' τ' h1 h2 h3 => ih k' l2' τ' h2 h3 (by omega))
  exact H Fu k l2 σ hk hI (by unfold Fu; omega)
theorem L_X13_findStands_2  {l1 : Int32} {Q : Unit → jM → Prop} (N : Nat) (I : Nat → Int32 → jM → Prop) (hN : N < 1000000000) (h : ∀ (k : Nat) (q : Int32 → Int32 → jM → Option (Unit × jM)) (l2 : Int32) (τ : jM), k ≤ N → I k l2 τ → (∀ (k' : Nat) (l2' : Int32) (τ' : jM), k < k' → k' ≤ N → I k' l2' τ' → ok (q l1 l2' τ') Q) → ok (s_X13_findStands_2  q l1 l2 τ) Q) {k : Nat} {l2 : Int32} {σ : jM} (hk : k ≤ N) (hI : I k l2 σ) : ok (f_X13_findStands_2  Fu l1 l2 σ) Q := by
  have H : ∀ (n k : Nat) (l2 : Int32) (σ : jM), k ≤ N → I k l2 σ → N < k + n → ok (f_X13_findStands_2  n l1 l2 σ) Q := by
    intro n
    induction n with
    | zero => intro k l2 σ hk hI hm; omega
    | succ n ih => intro k l2 σ hk hI hm; exact h k (f_X13_findStands_2  n) l2 σ hk hI (fun k' l2' τ' h1 h2 h3 => ih k' l2' τ' h2 h3 (by omega))
  exact H Fu k l2 σ hk hI (by unfold Fu; omega)
theorem L_X13_isAlike_24  {l1 : Int32} {l2 : Int32} {Q : Int32 → jM → Prop} (N : Nat) (I : Nat → Int32 → Int32 → jM → Prop) (hN : N < 1000000000) (h : ∀ (k : Nat) (q : Int32 → Int32 → Int32 → Int32 → jM → Option (Int32 × jM)) (l3 : Int32) (l4 : Int32) (τ : jM), k ≤ N → I k l3 l4 τ → (∀ (k' : Nat) (l3' : Int32) (l4' : Int32) (τ' : jM), k < k' → k' ≤ N → I k' l3' l4' τ' → ok (q l1 l2 l3' l4' τ') Q) → ok (s_X13_isAlike_24  q l1 l2 l3 l4 τ) Q) {k : Nat} {l3 : Int32} {l4 : Int32} {σ : jM} (hk : k ≤ N) (hI : I k l3 l4 σ) : ok (f_X13_isAlike_24  Fu l1 l2 l3 l4 σ) Q := by
  have H : ∀ (n k : Nat) (l3 : Int32) (l4 : Int32) (σ : jM), k ≤ N → I k l3 l4 σ → N < k + n → ok (f_X13_isAlike_24  n l1 l2 l3 l4 σ) Q := by
    intro n
    induction n with
    | zero => intro k l3 l4 σ hk hI hm; omega
    | succ n ih => intro k l3 l4 σ hk hI hm; exact h k (f_X13_isAlike_24  n) l3 l4 σ hk hI (fun k' l3' l4' τ' h1 h2 h3 => ih k' l3' l4' τ' h2 h3 (by omega))
  exact H Fu k l3 l4 σ hk hI (by unfold Fu; omega)
theorem L_X13_addWhole_73   {Q : Unit → jM → Prop} (N : Nat) (I : Nat → Int32 → jM → Prop) (hN : N < 1000000000) (h : ∀ (k : Nat) (q : Int32 → jM → Option (Unit × jM)) (l2 : Int32) (τ : jM), k ≤ N → I k l2 τ → (∀ (k' : Nat) (l2' : Int32) (τ' : jM), k < k' → k' ≤ N → I k' l2' τ' → ok (q l2' τ') Q) → ok (s_X13_addWhole_73  q l2 τ) Q) {k : Nat} {l2 : Int32} {σ : jM} (hk : k ≤ N) (hI : I k l2 σ) : ok (f_X13_addWhole_73  Fu l2 σ) Q := by
  have H : ∀ (n k : Nat) (l2 : Int32) (σ : jM), k ≤ N → I k l2 σ → N < k + n → ok (f_X13_addWhole_73  n l2 σ) Q := by
    intro n
    induction n with
    | zero => intro k l2 σ hk hI hm; omega
    | succ n ih => intro k l2 σ hk hI hm; exact h k (f_X13_addWhole_73  n) l2 σ hk hI (fun k' l2' τ' h1 h2 h3 => ih k' l2' τ' h2 h3 (by omega))
  exact H Fu k l2 σ hk hI (by unfold Fu; omega)
theorem L_X13_addWhole_17  {l1 : Int32} {Q : Unit → jM → Prop} (N : Nat) (I : Nat → Int32 → jM → Prop) (hN : N < 1000000000) (h : ∀ (k : Nat) (q : Int32 → Int32 → jM → Option (Unit × jM)) (l2 : Int32) (τ : jM), k ≤ N → I k l2 τ → (∀ (k' : Nat) (l2' : Int32) (τ' : jM), k < k' → k' ≤ N → I k' l2' τ' → ok (q l1 l2' τ') Q) → ok (s_X13_addWhole_17  q l1 l2 τ) Q) {k : Nat} {l2 : Int32} {σ : jM} (hk : k ≤ N) (hI : I k l2 σ) : ok (f_X13_addWhole_17  Fu l1 l2 σ) Q := by
  have H : ∀ (n k : Nat) (l2 : Int32) (σ : jM), k ≤ N → I k l2 σ → N < k + n → ok (f_X13_addWhole_17  n l1 l2 σ) Q := by
    intro n
    induction n with
    | zero => intro k l2 σ hk hI hm; omega
    | succ n ih => intro k l2 σ hk hI hm; exact h k (f_X13_addWhole_17  n) l2 σ hk hI (fun k' l2' τ' h1 h2 h3 => ih k' l2' τ' h2 h3 (by omega))
  exact H Fu k l2 σ hk hI (by unfold Fu; omega)
theorem L_X13_findWholes_17 {rec7 : Int32 → Int32 → jM → Option (Unit × jM)} {l1 : Int32} {l2 : Int32} {Q : Unit → jM → Prop} (N : Nat) (I : Nat → Int32 → jM → Prop) (hN : N < 1000000000) (h : ∀ (k : Nat) (q : Int32 → Int32 → Int32 → jM → Option (Unit × jM)) (l3 : Int32) (τ : jM), k ≤ N → I k l3 τ → (∀ (k' : Nat) (l3' : Int32) (τ' : jM), k < k' → k' ≤ N → I k' l3' τ' → ok (q l1 l2 l3' τ') Q) → ok (s_X13_findWholes_17 rec7 q l1 l2 l3 τ) Q) {k : Nat} {l3 : Int32} {σ : jM} (hk : k ≤ N) (hI : I k l3 σ) : ok (f_X13_findWholes_17 rec7 Fu l1 l2 l3 σ) Q := by
  have H : ∀ (n k : Nat) (l3 : Int32) (σ : jM), k ≤ N → I k l3 σ → N < k + n → ok (f_X13_findWholes_17 rec7 n l1 l2 l3 σ) Q := by
    intro n
    induction n with
    | zero => intro k l3 σ hk hI hm; omega
    | succ n ih => intro k l3 σ hk hI hm; exact h k (f_X13_findWholes_17 rec7 n) l3 σ hk hI (fun k' l3' τ' h1 h2 h3 => ih k' l3' τ' h2 h3 (by omega))
  exact H Fu k l3 σ hk hI (by unfold Fu; omega)
theorem L_X13_findWholes_7  {l1 : Int32} {Q : Unit → jM → Prop} (N : Nat) (I : Nat → Int32 → jM → Prop) (hN : N < 1000000000) (h : ∀ (k : Nat) (q : Int32 → Int32 → jM → Option (Unit × jM)) (l2 : Int32) (τ : jM), k ≤ N → I k l2 τ → (∀ (k' : Nat) (l2' : Int32) (τ' : jM), k < k' → k' ≤ N → I k' l2' τ' → ok (q l1 l2' τ') Q) → ok (s_X13_findWholes_7  q l1 l2 τ) Q) {k : Nat} {l2 : Int32} {σ : jM} (hk : k ≤ N) (hI : I k l2 σ) : ok (f_X13_findWholes_7  Fu l1 l2 σ) Q := by
  have H : ∀ (n k : Nat) (l2 : Int32) (σ : jM), k ≤ N → I k l2 σ → N < k + n → ok (f_X13_findWholes_7  n l1 l2 σ) Q := by
    intro n
    induction n with
    | zero => intro k l2 σ hk hI hm; omega
    | succ n ih => intro k l2 σ hk hI hm; exact h k (f_X13_findWholes_7  n) l2 σ hk hI (fun k' l2' τ' h1 h2 h3 => ih k' l2' τ' h2 h3 (by omega))
  exact H Fu k l2 σ hk hI (by unfold Fu; omega)
theorem L_X13_unlikeAt_22  {l1 : Int32} {l2 : Int32} {Q : Int32 → jM → Prop} (N : Nat) (I : Nat → Int32 → Int32 → jM → Prop) (hN : N < 1000000000) (h : ∀ (k : Nat) (q : Int32 → Int32 → Int32 → Int32 → jM → Option (Int32 × jM)) (l3 : Int32) (l4 : Int32) (τ : jM), k ≤ N → I k l3 l4 τ → (∀ (k' : Nat) (l3' : Int32) (l4' : Int32) (τ' : jM), k < k' → k' ≤ N → I k' l3' l4' τ' → ok (q l1 l2 l3' l4' τ') Q) → ok (s_X13_unlikeAt_22  q l1 l2 l3 l4 τ) Q) {k : Nat} {l3 : Int32} {l4 : Int32} {σ : jM} (hk : k ≤ N) (hI : I k l3 l4 σ) : ok (f_X13_unlikeAt_22  Fu l1 l2 l3 l4 σ) Q := by
  have H : ∀ (n k : Nat) (l3 : Int32) (l4 : Int32) (σ : jM), k ≤ N → I k l3 l4 σ → N < k + n → ok (f_X13_unlikeAt_22  n l1 l2 l3 l4 σ) Q := by
    intro n
    induction n with
    | zero => intro k l3 l4 σ hk hI hm; omega
    | succ n ih => intro k l3 l4 σ hk hI hm; exact h k (f_X13_unlikeAt_22  n) l3 l4 σ hk hI (fun k' l3' l4' τ' h1 h2 h3 => ih k' l3' l4' τ' h2 h3 (by omega))
  exact H Fu k l3 l4 σ hk hI (by unfold Fu; omega)
theorem L_X13_pairsOf_21 {rec6 : Int32 → Int32 → Int32 → Int32 → Int32 → jM → Option (Int32 × jM)} {l1 : Int32} {l2 : Int32} {l3 : Int32} {l5 : Int32} {Q : Int32 → jM → Prop} (N : Nat) (I : Nat → Int32 → Int32 → jM → Prop) (hN : N < 1000000000) (h : ∀ (k : Nat) (q : Int32 → Int32 → Int32 → Int32 → Int32 → Int32 → jM → Option (Int32 × jM)) (l4 : Int32) (l6 : Int32) (τ : jM), k ≤ N → I k l4 l6 τ → (∀ (k' : Nat) (l4' : Int32) (l6' : Int32) (τ' : jM), k < k' → k' ≤ N → I k' l4' l6' τ' → ok (q l1 l2 l3 l4' l5 l6' τ') Q) → ok (s_X13_pairsOf_21 rec6 q l1 l2 l3 l4 l5 l6 τ) Q) {k : Nat} {l4 : Int32} {l6 : Int32} {σ : jM} (hk : k ≤ N) (hI : I k l4 l6 σ) : ok (f_X13_pairsOf_21 rec6 Fu l1 l2 l3 l4 l5 l6 σ) Q := by
  have H : ∀ (n k : Nat) (l4 : Int32) (l6 : Int32) (σ : jM), k ≤ N → I k l4 l6 σ → N < k + n → ok (f_X13_pairsOf_21 rec6 n l1 l2 l3 l4 l5 l6 σ) Q := by
    intro n
    induction n with
    | zero => intro k l4 l6 σ hk hI hm; omega
    | succ n ih => intro k l4 l6 σ hk hI hm; exact h k (f_X13_pairsOf_21 rec6 n) l4 l6 σ hk hI (fun k' l4' l6' τ' h1 h2 h3 => ih k' l4' l6' τ' h2 h3 (by omega))
  exact H Fu k l4 l6 σ hk hI (by unfold Fu; omega)
theorem L_X13_pairsOf_6  {l1 : Int32} {l2 : Int32} {l3 : Int32} {Q : Int32 → jM → Prop} (N : Nat) (I : Nat → Int32 → Int32 → jM → Prop) (hN : N < 1000000000) (h : ∀ (k : Nat) (q : Int32 → Int32 → Int32 → Int32 → Int32 → jM → Option (Int32 × jM)) (l4 : Int32) (l5 : Int32) (τ : jM), k ≤ N → I k l4 l5 τ → (∀ (k' : Nat) (l4' : Int32) (l5' : Int32) (τ' : jM), k < k' → k' ≤ N → I k' l4' l5' τ' → ok (q l1 l2 l3 l4' l5' τ') Q) → ok (s_X13_pairsOf_6  q l1 l2 l3 l4 l5 τ) Q) {k : Nat} {l4 : Int32} {l5 : Int32} {σ : jM} (hk : k ≤ N) (hI : I k l4 l5 σ) : ok (f_X13_pairsOf_6  Fu l1 l2 l3 l4 l5 σ) Q := by
  have H : ∀ (n k : Nat) (l4 : Int32) (l5 : Int32) (σ : jM), k ≤ N → I k l4 l5 σ → N < k + n → ok (f_X13_pairsOf_6  n l1 l2 l3 l4 l5 σ) Q := by
    intro n
    induction n with
    | zero => intro k l4 l5 σ hk hI hm; omega
    | succ n ih => intro k l4 l5 σ hk hI hm; exact h k (f_X13_pairsOf_6  n) l4 l5 σ hk hI (fun k' l4' l5' τ' h1 h2 h3 => ih k' l4' l5' τ' h2 h3 (by omega))
  exact H Fu k l4 l5 σ hk hI (by unfold Fu; omega)
theorem L_X13_linksBy_142  {l1 : Int32} {Q : Unit → jM → Prop} (N : Nat) (I : Nat → Int32 → jM → Prop) (hN : N < 1000000000) (h : ∀ (k : Nat) (q : Int32 → Int32 → jM → Option (Unit × jM)) (l2 : Int32) (τ : jM), k ≤ N → I k l2 τ → (∀ (k' : Nat) (l2' : Int32) (τ' : jM), k < k' → k' ≤ N → I k' l2' τ' → ok (q l1 l2' τ') Q) → ok (s_X13_linksBy_142  q l1 l2 τ) Q) {k : Nat} {l2 : Int32} {σ : jM} (hk : k ≤ N) (hI : I k l2 σ) : ok (f_X13_linksBy_142  Fu l1 l2 σ) Q := by
  have H : ∀ (n k : Nat) (l2 : Int32) (σ : jM), k ≤ N → I k l2 σ → N < k + n → ok (f_X13_linksBy_142  n l1 l2 σ) Q := by
    intro n
    induction n with
    | zero => intro k l2 σ hk hI hm; omega
    | succ n ih => intro k l2 σ hk hI hm; exact h k (f_X13_linksBy_142  n) l2 σ hk hI (fun k' l2' τ' h1 h2 h3 => ih k' l2' τ' h2 h3 (by omega))
  exact H Fu k l2 σ hk hI (by unfold Fu; omega)
theorem L_X13_linksBy_36 {rec24 : Int32 → Int32 → jM → Option (Unit × jM)} {l1 : Int32} {l2 : Int32} {Q : Unit → jM → Prop} (N : Nat) (I : Nat → Int32 → jM → Prop) (hN : N < 1000000000) (h : ∀ (k : Nat) (q : Int32 → Int32 → Int32 → jM → Option (Unit × jM)) (l3 : Int32) (τ : jM), k ≤ N → I k l3 τ → (∀ (k' : Nat) (l3' : Int32) (τ' : jM), k < k' → k' ≤ N → I k' l3' τ' → ok (q l1 l2 l3' τ') Q) → ok (s_X13_linksBy_36 rec24 q l1 l2 l3 τ) Q) {k : Nat} {l3 : Int32} {σ : jM} (hk : k ≤ N) (hI : I k l3 σ) : ok (f_X13_linksBy_36 rec24 Fu l1 l2 l3 σ) Q := by
  have H : ∀ (n k : Nat) (l3 : Int32) (σ : jM), k ≤ N → I k l3 σ → N < k + n → ok (f_X13_linksBy_36 rec24 n l1 l2 l3 σ) Q := by
    intro n
    induction n with
    | zero => intro k l3 σ hk hI hm; omega
    | succ n ih => intro k l3 σ hk hI hm; exact h k (f_X13_linksBy_36 rec24 n) l3 σ hk hI (fun k' l3' τ' h1 h2 h3 => ih k' l3' τ' h2 h3 (by omega))
  exact H Fu k l3 σ hk hI (by unfold Fu; omega)
theorem L_X13_linksBy_24  {l1 : Int32} {Q : Unit → jM → Prop} (N : Nat) (I : Nat → Int32 → jM → Prop) (hN : N < 1000000000) (h : ∀ (k : Nat) (q : Int32 → Int32 → jM → Option (Unit × jM)) (l2 : Int32) (τ : jM), k ≤ N → I k l2 τ → (∀ (k' : Nat) (l2' : Int32) (τ' : jM), k < k' → k' ≤ N → I k' l2' τ' → ok (q l1 l2' τ') Q) → ok (s_X13_linksBy_24  q l1 l2 τ) Q) {k : Nat} {l2 : Int32} {σ : jM} (hk : k ≤ N) (hI : I k l2 σ) : ok (f_X13_linksBy_24  Fu l1 l2 σ) Q := by
  have H : ∀ (n k : Nat) (l2 : Int32) (σ : jM), k ≤ N → I k l2 σ → N < k + n → ok (f_X13_linksBy_24  n l1 l2 σ) Q := by
    intro n
    induction n with
    | zero => intro k l2 σ hk hI hm; omega
    | succ n ih => intro k l2 σ hk hI hm; exact h k (f_X13_linksBy_24  n) l2 σ hk hI (fun k' l2' τ' h1 h2 h3 => ih k' l2' τ' h2 h3 (by omega))
  exact H Fu k l2 σ hk hI (by unfold Fu; omega)
theorem L_X13_linksBy_2  {l1 : Int32} {Q : Unit → jM → Prop} (N : Nat) (I : Nat → Int32 → jM → Prop) (hN : N < 1000000000) (h : ∀ (k : Nat) (q : Int32 → Int32 → jM → Option (Unit × jM)) (l2 : Int32) (τ : jM), k ≤ N → I k l2 τ → (∀ (k' : Nat) (l2' : Int32) (τ' : jM), k < k' → k' ≤ N → I k' l2' τ' → ok (q l1 l2' τ') Q) → ok (s_X13_linksBy_2  q l1 l2 τ) Q) {k : Nat} {l2 : Int32} {σ : jM} (hk : k ≤ N) (hI : I k l2 σ) : ok (f_X13_linksBy_2  Fu l1 l2 σ) Q := by
  have H : ∀ (n k : Nat) (l2 : Int32) (σ : jM), k ≤ N → I k l2 σ → N < k + n → ok (f_X13_linksBy_2  n l1 l2 σ) Q := by
    intro n
    induction n with
    | zero => intro k l2 σ hk hI hm; omega
    | succ n ih => intro k l2 σ hk hI hm; exact h k (f_X13_linksBy_2  n) l2 σ hk hI (fun k' l2' τ' h1 h2 h3 => ih k' l2' τ' h2 h3 (by omega))
  exact H Fu k l2 σ hk hI (by unfold Fu; omega)
theorem L_X13_findClasses_43 {rec2 : Int32 → jM → Option (Unit × jM)} {rec35 : Int32 → Int32 → jM → Option (Unit × jM)} {l1 : Int32} {Q : Unit → jM → Prop} (N : Nat) (I : Nat → Int32 → Int32 → jM → Prop) (hN : N < 1000000000) (h : ∀ (k : Nat) (q : Int32 → Int32 → Int32 → jM → Option (Unit × jM)) (l2 : Int32) (l3 : Int32) (τ : jM), k ≤ N → I k l2 l3 τ → (∀ (k' : Nat) (l2' : Int32) (l3' : Int32) (τ' : jM), k < k' → k' ≤ N → I k' l2' l3' τ' → ok (q l1 l2' l3' τ') Q) → ok (s_X13_findClasses_43 rec2 rec35 q l1 l2 l3 τ) Q) {k : Nat} {l2 : Int32} {l3 : Int32} {σ : jM} (hk : k ≤ N) (hI : I k l2 l3 σ) : ok (f_X13_findClasses_43 rec2 rec35 Fu l1 l2 l3 σ) Q := by
  have H : ∀ (n k : Nat) (l2 : Int32) (l3 : Int32) (σ : jM), k ≤ N → I k l2 l3 σ → N < k + n → ok (f_X13_findClasses_43 rec2 rec35 n l1 l2 l3 σ) Q := by
    intro n
    induction n with
    | zero => intro k l2 l3 σ hk hI hm; omega
    | succ n ih => intro k l2 l3 σ hk hI hm; exact h k (f_X13_findClasses_43 rec2 rec35 n) l2 l3 σ hk hI (fun k' l2' l3' τ' h1 h2 h3 => ih k' l2' l3' τ' h2 h3 (by omega))
  exact H Fu k l2 l3 σ hk hI (by unfold Fu; omega)
theorem L_X13_findClasses_35 {rec2 : Int32 → jM → Option (Unit × jM)} {l1 : Int32} {Q : Unit → jM → Prop} (N : Nat) (I : Nat → Int32 → jM → Prop) (hN : N < 1000000000) (h : ∀ (k : Nat) (q : Int32 → Int32 → jM → Option (Unit × jM)) (l2 : Int32) (τ : jM), k ≤ N → I k l2 τ → (∀ (k' : Nat) (l2' : Int32) (τ' : jM), k < k' → k' ≤ N → I k' l2' τ' → ok (q l1 l2' τ') Q) → ok (s_X13_findClasses_35 rec2 q l1 l2 τ) Q) {k : Nat} {l2 : Int32} {σ : jM} (hk : k ≤ N) (hI : I k l2 σ) : ok (f_X13_findClasses_35 rec2 Fu l1 l2 σ) Q := by
  have H : ∀ (n k : Nat) (l2 : Int32) (σ : jM), k ≤ N → I k l2 σ → N < k + n → ok (f_X13_findClasses_35 rec2 n l1 l2 σ) Q := by
    intro n
    induction n with
    | zero => intro k l2 σ hk hI hm; omega
    | succ n ih => intro k l2 σ hk hI hm; exact h k (f_X13_findClasses_35 rec2 n) l2 σ hk hI (fun k' l2' τ' h1 h2 h3 => ih k' l2' τ' h2 h3 (by omega))
  exact H Fu k l2 σ hk hI (by unfold Fu; omega)
theorem L_X13_findClasses_9 {rec2 : Int32 → jM → Option (Unit × jM)} {l1 : Int32} {Q : Unit → jM → Prop} (N : Nat) (I : Nat → Int32 → jM → Prop) (hN : N < 1000000000) (h : ∀ (k : Nat) (q : Int32 → Int32 → jM → Option (Unit × jM)) (l2 : Int32) (τ : jM), k ≤ N → I k l2 τ → (∀ (k' : Nat) (l2' : Int32) (τ' : jM), k < k' → k' ≤ N → I k' l2' τ' → ok (q l1 l2' τ') Q) → ok (s_X13_findClasses_9 rec2 q l1 l2 τ) Q) {k : Nat} {l2 : Int32} {σ : jM} (hk : k ≤ N) (hI : I k l2 σ) : ok (f_X13_findClasses_9 rec2 Fu l1 l2 σ) Q := by
  have H : ∀ (n k : Nat) (l2 : Int32) (σ : jM), k ≤ N → I k l2 σ → N < k + n → ok (f_X13_findClasses_9 rec2 n l1 l2 σ) Q := by
    intro n
    induction n with
    | zero => intro k l2 σ hk hI hm; omega
    | succ n ih => intro k l2 σ hk hI hm; exact h k (f_X13_findClasses_9 rec2 n) l2 σ hk hI (fun k' l2' τ' h1 h2 h3 => ih k' l2' τ' h2 h3 (by omega))
  exact H Fu k l2 σ hk hI (by unfold Fu; omega)
theorem L_X13_findClasses_2   {Q : Unit → jM → Prop} (N : Nat) (I : Nat → Int32 → jM → Prop) (hN : N < 1000000000) (h : ∀ (k : Nat) (q : Int32 → jM → Option (Unit × jM)) (l1 : Int32) (τ : jM), k ≤ N → I k l1 τ → (∀ (k' : Nat) (l1' : Int32) (τ' : jM), k < k' → k' ≤ N → I k' l1' τ' → ok (q l1' τ') Q) → ok (s_X13_findClasses_2  q l1 τ) Q) {k : Nat} {l1 : Int32} {σ : jM} (hk : k ≤ N) (hI : I k l1 σ) : ok (f_X13_findClasses_2  Fu l1 σ) Q := by
  have H : ∀ (n k : Nat) (l1 : Int32) (σ : jM), k ≤ N → I k l1 σ → N < k + n → ok (f_X13_findClasses_2  n l1 σ) Q := by
    intro n
    induction n with
    | zero => intro k l1 σ hk hI hm; omega
    | succ n ih => intro k l1 σ hk hI hm; exact h k (f_X13_findClasses_2  n) l1 σ hk hI (fun k' l1' τ' h1 h2 h3 => ih k' l1' τ' h2 h3 (by omega))
  exact H Fu k l1 σ hk hI (by unfold Fu; omega)
theorem L_X13_findFar_42 {rec33 : Int32 → Int32 → jM → Option (Unit × jM)} {l1 : Int32} {Q : Unit → jM → Prop} (N : Nat) (I : Nat → Int32 → Int32 → jM → Prop) (hN : N < 1000000000) (h : ∀ (k : Nat) (q : Int32 → Int32 → Int32 → jM → Option (Unit × jM)) (l3 : Int32) (l4 : Int32) (τ : jM), k ≤ N → I k l3 l4 τ → (∀ (k' : Nat) (l3' : Int32) (l4' : Int32) (τ' : jM), k < k' → k' ≤ N → I k' l3' l4' τ' → ok (q l1 l3' l4' τ') Q) → ok (s_X13_findFar_42 rec33 q l1 l3 l4 τ) Q) {k : Nat} {l3 : Int32} {l4 : Int32} {σ : jM} (hk : k ≤ N) (hI : I k l3 l4 σ) : ok (f_X13_findFar_42 rec33 Fu l1 l3 l4 σ) Q := by
  have H : ∀ (n k : Nat) (l3 : Int32) (l4 : Int32) (σ : jM), k ≤ N → I k l3 l4 σ → N < k + n → ok (f_X13_findFar_42 rec33 n l1 l3 l4 σ) Q := by
    intro n
    induction n with
    | zero => intro k l3 l4 σ hk hI hm; omega
    | succ n ih => intro k l3 l4 σ hk hI hm; exact h k (f_X13_findFar_42 rec33 n) l3 l4 σ hk hI (fun k' l3' l4' τ' h1 h2 h3 => ih k' l3' l4' τ' h2 h3 (by omega))
  exact H Fu k l3 l4 σ hk hI (by unfold Fu; omega)
theorem L_X13_findFar_33  {l1 : Int32} {Q : Unit → jM → Prop} (N : Nat) (I : Nat → Int32 → jM → Prop) (hN : N < 1000000000) (h : ∀ (k : Nat) (q : Int32 → Int32 → jM → Option (Unit × jM)) (l3 : Int32) (τ : jM), k ≤ N → I k l3 τ → (∀ (k' : Nat) (l3' : Int32) (τ' : jM), k < k' → k' ≤ N → I k' l3' τ' → ok (q l1 l3' τ') Q) → ok (s_X13_findFar_33  q l1 l3 τ) Q) {k : Nat} {l3 : Int32} {σ : jM} (hk : k ≤ N) (hI : I k l3 σ) : ok (f_X13_findFar_33  Fu l1 l3 σ) Q := by
  have H : ∀ (n k : Nat) (l3 : Int32) (σ : jM), k ≤ N → I k l3 σ → N < k + n → ok (f_X13_findFar_33  n l1 l3 σ) Q := by
    intro n
    induction n with
    | zero => intro k l3 σ hk hI hm; omega
    | succ n ih => intro k l3 σ hk hI hm; exact h k (f_X13_findFar_33  n) l3 σ hk hI (fun k' l3' τ' h1 h2 h3 => ih k' l3' τ' h2 h3 (by omega))
  exact H Fu k l3 σ hk hI (by unfold Fu; omega)
theorem L_X13_findFar_2  {l1 : Int32} {l2 : Int32} {Q : Unit → jM → Prop} (N : Nat) (I : Nat → Int32 → jM → Prop) (hN : N < 1000000000) (h : ∀ (k : Nat) (q : Int32 → Int32 → Int32 → jM → Option (Unit × jM)) (l3 : Int32) (τ : jM), k ≤ N → I k l3 τ → (∀ (k' : Nat) (l3' : Int32) (τ' : jM), k < k' → k' ≤ N → I k' l3' τ' → ok (q l1 l2 l3' τ') Q) → ok (s_X13_findFar_2  q l1 l2 l3 τ) Q) {k : Nat} {l3 : Int32} {σ : jM} (hk : k ≤ N) (hI : I k l3 σ) : ok (f_X13_findFar_2  Fu l1 l2 l3 σ) Q := by
  have H : ∀ (n k : Nat) (l3 : Int32) (σ : jM), k ≤ N → I k l3 σ → N < k + n → ok (f_X13_findFar_2  n l1 l2 l3 σ) Q := by
    intro n
    induction n with
    | zero => intro k l3 σ hk hI hm; omega
    | succ n ih => intro k l3 σ hk hI hm; exact h k (f_X13_findFar_2  n) l3 σ hk hI (fun k' l3' τ' h1 h2 h3 => ih k' l3' τ' h2 h3 (by omega))
  exact H Fu k l3 σ hk hI (by unfold Fu; omega)
theorem L_X13_walks_18 {rec9 : Int32 → Int32 → Int32 → jM → Option (Unit × jM)} {l1 : Int32} {l3 : Int32} {l4 : Int32} {Q : Unit → jM → Prop} (N : Nat) (I : Nat → Int32 → jM → Prop) (hN : N < 1000000000) (h : ∀ (k : Nat) (q : Int32 → Int32 → Int32 → Int32 → jM → Option (Unit × jM)) (l5 : Int32) (τ : jM), k ≤ N → I k l5 τ → (∀ (k' : Nat) (l5' : Int32) (τ' : jM), k < k' → k' ≤ N → I k' l5' τ' → ok (q l1 l3 l4 l5' τ') Q) → ok (s_X13_walks_18 rec9 q l1 l3 l4 l5 τ) Q) {k : Nat} {l5 : Int32} {σ : jM} (hk : k ≤ N) (hI : I k l5 σ) : ok (f_X13_walks_18 rec9 Fu l1 l3 l4 l5 σ) Q := by
  have H : ∀ (n k : Nat) (l5 : Int32) (σ : jM), k ≤ N → I k l5 σ → N < k + n → ok (f_X13_walks_18 rec9 n l1 l3 l4 l5 σ) Q := by
    intro n
    induction n with
    | zero => intro k l5 σ hk hI hm; omega
    | succ n ih => intro k l5 σ hk hI hm; exact h k (f_X13_walks_18 rec9 n) l5 σ hk hI (fun k' l5' τ' h1 h2 h3 => ih k' l5' τ' h2 h3 (by omega))
  exact H Fu k l5 σ hk hI (by unfold Fu; omega)
theorem L_X13_walks_9  {l1 : Int32} {l3 : Int32} {Q : Unit → jM → Prop} (N : Nat) (I : Nat → Int32 → jM → Prop) (hN : N < 1000000000) (h : ∀ (k : Nat) (q : Int32 → Int32 → Int32 → jM → Option (Unit × jM)) (l4 : Int32) (τ : jM), k ≤ N → I k l4 τ → (∀ (k' : Nat) (l4' : Int32) (τ' : jM), k < k' → k' ≤ N → I k' l4' τ' → ok (q l1 l3 l4' τ') Q) → ok (s_X13_walks_9  q l1 l3 l4 τ) Q) {k : Nat} {l4 : Int32} {σ : jM} (hk : k ≤ N) (hI : I k l4 σ) : ok (f_X13_walks_9  Fu l1 l3 l4 σ) Q := by
  have H : ∀ (n k : Nat) (l4 : Int32) (σ : jM), k ≤ N → I k l4 σ → N < k + n → ok (f_X13_walks_9  n l1 l3 l4 σ) Q := by
    intro n
    induction n with
    | zero => intro k l4 σ hk hI hm; omega
    | succ n ih => intro k l4 σ hk hI hm; exact h k (f_X13_walks_9  n) l4 σ hk hI (fun k' l4' τ' h1 h2 h3 => ih k' l4' τ' h2 h3 (by omega))
  exact H Fu k l4 σ hk hI (by unfold Fu; omega)
theorem L_X13_isName_25   {Q : Int32 → jM → Prop} (N : Nat) (I : Nat → Int32 → Int32 → jM → Prop) (hN : N < 1000000000) (h : ∀ (k : Nat) (q : Int32 → Int32 → jM → Option (Int32 × jM)) (l1 : Int32) (l2 : Int32) (τ : jM), k ≤ N → I k l1 l2 τ → (∀ (k' : Nat) (l1' : Int32) (l2' : Int32) (τ' : jM), k < k' → k' ≤ N → I k' l1' l2' τ' → ok (q l1' l2' τ') Q) → ok (s_X13_isName_25  q l1 l2 τ) Q) {k : Nat} {l1 : Int32} {l2 : Int32} {σ : jM} (hk : k ≤ N) (hI : I k l1 l2 σ) : ok (f_X13_isName_25  Fu l1 l2 σ) Q := by
  have H : ∀ (n k : Nat) (l1 : Int32) (l2 : Int32) (σ : jM), k ≤ N → I k l1 l2 σ → N < k + n → ok (f_X13_isName_25  n l1 l2 σ) Q := by
    intro n
    induction n with
    | zero => intro k l1 l2 σ hk hI hm; omega
    | succ n ih => intro k l1 l2 σ hk hI hm; exact h k (f_X13_isName_25  n) l1 l2 σ hk hI (fun k' l1' l2' τ' h1 h2 h3 => ih k' l1' l2' τ' h2 h3 (by omega))
  exact H Fu k l1 l2 σ hk hI (by unfold Fu; omega)
theorem L_X13_takesName_12  {l1 : Int32} {l2 : Int32} {Q : Unit → jM → Prop} (N : Nat) (I : Nat → Int32 → jM → Prop) (hN : N < 1000000000) (h : ∀ (k : Nat) (q : Int32 → Int32 → Int32 → jM → Option (Unit × jM)) (l3 : Int32) (τ : jM), k ≤ N → I k l3 τ → (∀ (k' : Nat) (l3' : Int32) (τ' : jM), k < k' → k' ≤ N → I k' l3' τ' → ok (q l1 l2 l3' τ') Q) → ok (s_X13_takesName_12  q l1 l2 l3 τ) Q) {k : Nat} {l3 : Int32} {σ : jM} (hk : k ≤ N) (hI : I k l3 σ) : ok (f_X13_takesName_12  Fu l1 l2 l3 σ) Q := by
  have H : ∀ (n k : Nat) (l3 : Int32) (σ : jM), k ≤ N → I k l3 σ → N < k + n → ok (f_X13_takesName_12  n l1 l2 l3 σ) Q := by
    intro n
    induction n with
    | zero => intro k l3 σ hk hI hm; omega
    | succ n ih => intro k l3 σ hk hI hm; exact h k (f_X13_takesName_12  n) l3 σ hk hI (fun k' l3' τ' h1 h2 h3 => ih k' l3' τ' h2 h3 (by omega))
  exact H Fu k l3 σ hk hI (by unfold Fu; omega)
theorem L_X13_writes_5  {l1 : Int32} {l2 : Int32} {Q : Int32 → jM → Prop} (N : Nat) (I : Nat → Int32 → Int32 → jM → Prop) (hN : N < 1000000000) (h : ∀ (k : Nat) (q : Int32 → Int32 → Int32 → Int32 → jM → Option (Int32 × jM)) (l3 : Int32) (l4 : Int32) (τ : jM), k ≤ N → I k l3 l4 τ → (∀ (k' : Nat) (l3' : Int32) (l4' : Int32) (τ' : jM), k < k' → k' ≤ N → I k' l3' l4' τ' → ok (q l1 l2 l3' l4' τ') Q) → ok (s_X13_writes_5  q l1 l2 l3 l4 τ) Q) {k : Nat} {l3 : Int32} {l4 : Int32} {σ : jM} (hk : k ≤ N) (hI : I k l3 l4 σ) : ok (f_X13_writes_5  Fu l1 l2 l3 l4 σ) Q := by
  have H : ∀ (n k : Nat) (l3 : Int32) (l4 : Int32) (σ : jM), k ≤ N → I k l3 l4 σ → N < k + n → ok (f_X13_writes_5  n l1 l2 l3 l4 σ) Q := by
    intro n
    induction n with
    | zero => intro k l3 l4 σ hk hI hm; omega
    | succ n ih => intro k l3 l4 σ hk hI hm; exact h k (f_X13_writes_5  n) l3 l4 σ hk hI (fun k' l3' l4' τ' h1 h2 h3 => ih k' l3' l4' τ' h2 h3 (by omega))
  exact H Fu k l3 l4 σ hk hI (by unfold Fu; omega)
theorem L_X13_drops_5  {l1 : Int32} {l2 : Int32} {Q : Int32 → jM → Prop} (N : Nat) (I : Nat → Int32 → Int32 → jM → Prop) (hN : N < 1000000000) (h : ∀ (k : Nat) (q : Int32 → Int32 → Int32 → Int32 → jM → Option (Int32 × jM)) (l3 : Int32) (l4 : Int32) (τ : jM), k ≤ N → I k l3 l4 τ → (∀ (k' : Nat) (l3' : Int32) (l4' : Int32) (τ' : jM), k < k' → k' ≤ N → I k' l3' l4' τ' → ok (q l1 l2 l3' l4' τ') Q) → ok (s_X13_drops_5  q l1 l2 l3 l4 τ) Q) {k : Nat} {l3 : Int32} {l4 : Int32} {σ : jM} (hk : k ≤ N) (hI : I k l3 l4 σ) : ok (f_X13_drops_5  Fu l1 l2 l3 l4 σ) Q := by
  have H : ∀ (n k : Nat) (l3 : Int32) (l4 : Int32) (σ : jM), k ≤ N → I k l3 l4 σ → N < k + n → ok (f_X13_drops_5  n l1 l2 l3 l4 σ) Q := by
    intro n
    induction n with
    | zero => intro k l3 l4 σ hk hI hm; omega
    | succ n ih => intro k l3 l4 σ hk hI hm; exact h k (f_X13_drops_5  n) l3 l4 σ hk hI (fun k' l3' l4' τ' h1 h2 h3 => ih k' l3' l4' τ' h2 h3 (by omega))
  exact H Fu k l3 l4 σ hk hI (by unfold Fu; omega)
theorem L_X13_vowelFor_42   {Q : Int32 → jM → Prop} (N : Nat) (I : Nat → Int32 → jM → Prop) (hN : N < 1000000000) (h : ∀ (k : Nat) (q : Int32 → jM → Option (Int32 × jM)) (l3 : Int32) (τ : jM), k ≤ N → I k l3 τ → (∀ (k' : Nat) (l3' : Int32) (τ' : jM), k < k' → k' ≤ N → I k' l3' τ' → ok (q l3' τ') Q) → ok (s_X13_vowelFor_42  q l3 τ) Q) {k : Nat} {l3 : Int32} {σ : jM} (hk : k ≤ N) (hI : I k l3 σ) : ok (f_X13_vowelFor_42  Fu l3 σ) Q := by
  have H : ∀ (n k : Nat) (l3 : Int32) (σ : jM), k ≤ N → I k l3 σ → N < k + n → ok (f_X13_vowelFor_42  n l3 σ) Q := by
    intro n
    induction n with
    | zero => intro k l3 σ hk hI hm; omega
    | succ n ih => intro k l3 σ hk hI hm; exact h k (f_X13_vowelFor_42  n) l3 σ hk hI (fun k' l3' τ' h1 h2 h3 => ih k' l3' τ' h2 h3 (by omega))
  exact H Fu k l3 σ hk hI (by unfold Fu; omega)
theorem L_X13_vowelFor_4  {l1 : Int32} {l2 : Int32} {Q : Int32 → jM → Prop} (N : Nat) (I : Nat → Int32 → jM → Prop) (hN : N < 1000000000) (h : ∀ (k : Nat) (q : Int32 → Int32 → Int32 → jM → Option (Int32 × jM)) (l3 : Int32) (τ : jM), k ≤ N → I k l3 τ → (∀ (k' : Nat) (l3' : Int32) (τ' : jM), k < k' → k' ≤ N → I k' l3' τ' → ok (q l1 l2 l3' τ') Q) → ok (s_X13_vowelFor_4  q l1 l2 l3 τ) Q) {k : Nat} {l3 : Int32} {σ : jM} (hk : k ≤ N) (hI : I k l3 σ) : ok (f_X13_vowelFor_4  Fu l1 l2 l3 σ) Q := by
  have H : ∀ (n k : Nat) (l3 : Int32) (σ : jM), k ≤ N → I k l3 σ → N < k + n → ok (f_X13_vowelFor_4  n l1 l2 l3 σ) Q := by
    intro n
    induction n with
    | zero => intro k l3 σ hk hI hm; omega
    | succ n ih => intro k l3 σ hk hI hm; exact h k (f_X13_vowelFor_4  n) l3 σ hk hI (fun k' l3' τ' h1 h2 h3 => ih k' l3' τ' h2 h3 (by omega))
  exact H Fu k l3 σ hk hI (by unfold Fu; omega)
theorem L_X13_spells_60  {l1 : Int32} {l3 : Int32} {Q : Unit → jM → Prop} (N : Nat) (I : Nat → Int32 → jM → Prop) (hN : N < 1000000000) (h : ∀ (k : Nat) (q : Int32 → Int32 → Int32 → jM → Option (Unit × jM)) (l4 : Int32) (τ : jM), k ≤ N → I k l4 τ → (∀ (k' : Nat) (l4' : Int32) (τ' : jM), k < k' → k' ≤ N → I k' l4' τ' → ok (q l1 l3 l4' τ') Q) → ok (s_X13_spells_60  q l1 l3 l4 τ) Q) {k : Nat} {l4 : Int32} {σ : jM} (hk : k ≤ N) (hI : I k l4 σ) : ok (f_X13_spells_60  Fu l1 l3 l4 σ) Q := by
  have H : ∀ (n k : Nat) (l4 : Int32) (σ : jM), k ≤ N → I k l4 σ → N < k + n → ok (f_X13_spells_60  n l1 l3 l4 σ) Q := by
    intro n
    induction n with
    | zero => intro k l4 σ hk hI hm; omega
    | succ n ih => intro k l4 σ hk hI hm; exact h k (f_X13_spells_60  n) l4 σ hk hI (fun k' l4' τ' h1 h2 h3 => ih k' l4' τ' h2 h3 (by omega))
  exact H Fu k l4 σ hk hI (by unfold Fu; omega)
theorem L_X13_spells_16  {l1 : Int32} {l3 : Int32} {Q : Unit → jM → Prop} (N : Nat) (I : Nat → Int32 → jM → Prop) (hN : N < 1000000000) (h : ∀ (k : Nat) (q : Int32 → Int32 → Int32 → jM → Option (Unit × jM)) (l4 : Int32) (τ : jM), k ≤ N → I k l4 τ → (∀ (k' : Nat) (l4' : Int32) (τ' : jM), k < k' → k' ≤ N → I k' l4' τ' → ok (q l1 l3 l4' τ') Q) → ok (s_X13_spells_16  q l1 l3 l4 τ) Q) {k : Nat} {l4 : Int32} {σ : jM} (hk : k ≤ N) (hI : I k l4 σ) : ok (f_X13_spells_16  Fu l1 l3 l4 σ) Q := by
  have H : ∀ (n k : Nat) (l4 : Int32) (σ : jM), k ≤ N → I k l4 σ → N < k + n → ok (f_X13_spells_16  n l1 l3 l4 σ) Q := by
    intro n
    induction n with
    | zero => intro k l4 σ hk hI hm; omega
    | succ n ih => intro k l4 σ hk hI hm; exact h k (f_X13_spells_16  n) l4 σ hk hI (fun k' l4' τ' h1 h2 h3 => ih k' l4' τ' h2 h3 (by omega))
  exact H Fu k l4 σ hk hI (by unfold Fu; omega)
theorem L_X13_forcedOf_4  {l1 : Int32} {Q : Int32 → jM → Prop} (N : Nat) (I : Nat → Int32 → Int32 → jM → Prop) (hN : N < 1000000000) (h : ∀ (k : Nat) (q : Int32 → Int32 → Int32 → jM → Option (Int32 × jM)) (l2 : Int32) (l3 : Int32) (τ : jM), k ≤ N → I k l2 l3 τ → (∀ (k' : Nat) (l2' : Int32) (l3' : Int32) (τ' : jM), k < k' → k' ≤ N → I k' l2' l3' τ' → ok (q l1 l2' l3' τ') Q) → ok (s_X13_forcedOf_4  q l1 l2 l3 τ) Q) {k : Nat} {l2 : Int32} {l3 : Int32} {σ : jM} (hk : k ≤ N) (hI : I k l2 l3 σ) : ok (f_X13_forcedOf_4  Fu l1 l2 l3 σ) Q := by
  have H : ∀ (n k : Nat) (l2 : Int32) (l3 : Int32) (σ : jM), k ≤ N → I k l2 l3 σ → N < k + n → ok (f_X13_forcedOf_4  n l1 l2 l3 σ) Q := by
    intro n
    induction n with
    | zero => intro k l2 l3 σ hk hI hm; omega
    | succ n ih => intro k l2 l3 σ hk hI hm; exact h k (f_X13_forcedOf_4  n) l2 l3 σ hk hI (fun k' l2' l3' τ' h1 h2 h3 => ih k' l2' l3' τ' h2 h3 (by omega))
  exact H Fu k l2 l3 σ hk hI (by unfold Fu; omega)
theorem L_X13_bits_4  {l0 : Int32} {Q : Int32 → jM → Prop} (N : Nat) (I : Nat → Int32 → Int32 → jM → Prop) (hN : N < 1000000000) (h : ∀ (k : Nat) (q : Int32 → Int32 → Int32 → jM → Option (Int32 × jM)) (l1 : Int32) (l2 : Int32) (τ : jM), k ≤ N → I k l1 l2 τ → (∀ (k' : Nat) (l1' : Int32) (l2' : Int32) (τ' : jM), k < k' → k' ≤ N → I k' l1' l2' τ' → ok (q l0 l1' l2' τ') Q) → ok (s_X13_bits_4  q l0 l1 l2 τ) Q) {k : Nat} {l1 : Int32} {l2 : Int32} {σ : jM} (hk : k ≤ N) (hI : I k l1 l2 σ) : ok (f_X13_bits_4  Fu l0 l1 l2 σ) Q := by
  have H : ∀ (n k : Nat) (l1 : Int32) (l2 : Int32) (σ : jM), k ≤ N → I k l1 l2 σ → N < k + n → ok (f_X13_bits_4  n l0 l1 l2 σ) Q := by
    intro n
    induction n with
    | zero => intro k l1 l2 σ hk hI hm; omega
    | succ n ih => intro k l1 l2 σ hk hI hm; exact h k (f_X13_bits_4  n) l1 l2 σ hk hI (fun k' l1' l2' τ' h1 h2 h3 => ih k' l1' l2' τ' h2 h3 (by omega))
  exact H Fu k l1 l2 σ hk hI (by unfold Fu; omega)
theorem L_X13_oftenOf_55 {rec6 : Int32 → Int32 → Int32 → Int32 → Int32 → jM → Option (Int32 × jM)} {l1 : Int32} {l2 : Int32} {l3 : Int32} {l5 : Int32} {Q : Int32 → jM → Prop} (N : Nat) (I : Nat → Int32 → Int32 → jM → Prop) (hN : N < 1000000000) (h : ∀ (k : Nat) (q : Int32 → Int32 → Int32 → Int32 → Int32 → Int32 → jM → Option (Int32 × jM)) (l4 : Int32) (l6 : Int32) (τ : jM), k ≤ N → I k l4 l6 τ → (∀ (k' : Nat) (l4' : Int32) (l6' : Int32) (τ' : jM), k < k' → k' ≤ N → I k' l4' l6' τ' → ok (q l1 l2 l3 l4' l5 l6' τ') Q) → ok (s_X13_oftenOf_55 rec6 q l1 l2 l3 l4 l5 l6 τ) Q) {k : Nat} {l4 : Int32} {l6 : Int32} {σ : jM} (hk : k ≤ N) (hI : I k l4 l6 σ) : ok (f_X13_oftenOf_55 rec6 Fu l1 l2 l3 l4 l5 l6 σ) Q := by
  have H : ∀ (n k : Nat) (l4 : Int32) (l6 : Int32) (σ : jM), k ≤ N → I k l4 l6 σ → N < k + n → ok (f_X13_oftenOf_55 rec6 n l1 l2 l3 l4 l5 l6 σ) Q := by
    intro n
    induction n with
    | zero => intro k l4 l6 σ hk hI hm; omega
    | succ n ih => intro k l4 l6 σ hk hI hm; exact h k (f_X13_oftenOf_55 rec6 n) l4 l6 σ hk hI (fun k' l4' l6' τ' h1 h2 h3 => ih k' l4' l6' τ' h2 h3 (by omega))
  exact H Fu k l4 l6 σ hk hI (by unfold Fu; omega)
theorem L_X13_oftenOf_6  {l1 : Int32} {l2 : Int32} {l3 : Int32} {Q : Int32 → jM → Prop} (N : Nat) (I : Nat → Int32 → Int32 → jM → Prop) (hN : N < 1000000000) (h : ∀ (k : Nat) (q : Int32 → Int32 → Int32 → Int32 → Int32 → jM → Option (Int32 × jM)) (l4 : Int32) (l5 : Int32) (τ : jM), k ≤ N → I k l4 l5 τ → (∀ (k' : Nat) (l4' : Int32) (l5' : Int32) (τ' : jM), k < k' → k' ≤ N → I k' l4' l5' τ' → ok (q l1 l2 l3 l4' l5' τ') Q) → ok (s_X13_oftenOf_6  q l1 l2 l3 l4 l5 τ) Q) {k : Nat} {l4 : Int32} {l5 : Int32} {σ : jM} (hk : k ≤ N) (hI : I k l4 l5 σ) : ok (f_X13_oftenOf_6  Fu l1 l2 l3 l4 l5 σ) Q := by
  have H : ∀ (n k : Nat) (l4 : Int32) (l5 : Int32) (σ : jM), k ≤ N → I k l4 l5 σ → N < k + n → ok (f_X13_oftenOf_6  n l1 l2 l3 l4 l5 σ) Q := by
    intro n
    induction n with
    | zero => intro k l4 l5 σ hk hI hm; omega
    | succ n ih => intro k l4 l5 σ hk hI hm; exact h k (f_X13_oftenOf_6  n) l4 l5 σ hk hI (fun k' l4' l5' τ' h1 h2 h3 => ih k' l4' l5' τ' h2 h3 (by omega))
  exact H Fu k l4 l5 σ hk hI (by unfold Fu; omega)
theorem L_X13_rank_64 {rec26 : Int32 → Int32 → Int32 → jM → Option (Int32 × jM)} {l1 : Int32} {l2 : Int32} {l3 : Int32} {l4 : Int32} {l5 : Int32} {Q : Int32 → jM → Prop} (N : Nat) (I : Nat → Int32 → Int32 → jM → Prop) (hN : N < 1000000000) (h : ∀ (k : Nat) (q : Int32 → Int32 → Int32 → Int32 → Int32 → Int32 → Int32 → jM → Option (Int32 × jM)) (l6 : Int32) (l7 : Int32) (τ : jM), k ≤ N → I k l6 l7 τ → (∀ (k' : Nat) (l6' : Int32) (l7' : Int32) (τ' : jM), k < k' → k' ≤ N → I k' l6' l7' τ' → ok (q l1 l2 l3 l4 l5 l6' l7' τ') Q) → ok (s_X13_rank_64 rec26 q l1 l2 l3 l4 l5 l6 l7 τ) Q) {k : Nat} {l6 : Int32} {l7 : Int32} {σ : jM} (hk : k ≤ N) (hI : I k l6 l7 σ) : ok (f_X13_rank_64 rec26 Fu l1 l2 l3 l4 l5 l6 l7 σ) Q := by
  have H : ∀ (n k : Nat) (l6 : Int32) (l7 : Int32) (σ : jM), k ≤ N → I k l6 l7 σ → N < k + n → ok (f_X13_rank_64 rec26 n l1 l2 l3 l4 l5 l6 l7 σ) Q := by
    intro n
    induction n with
    | zero => intro k l6 l7 σ hk hI hm; omega
    | succ n ih => intro k l6 l7 σ hk hI hm; exact h k (f_X13_rank_64 rec26 n) l6 l7 σ hk hI (fun k' l6' l7' τ' h1 h2 h3 => ih k' l6' l7' τ' h2 h3 (by omega))
  exact H Fu k l6 l7 σ hk hI (by unfold Fu; omega)
theorem L_X13_rank_26  {l1 : Int32} {l2 : Int32} {Q : Int32 → jM → Prop} (N : Nat) (I : Nat → Int32 → jM → Prop) (hN : N < 1000000000) (h : ∀ (k : Nat) (q : Int32 → Int32 → Int32 → jM → Option (Int32 × jM)) (l3 : Int32) (τ : jM), k ≤ N → I k l3 τ → (∀ (k' : Nat) (l3' : Int32) (τ' : jM), k < k' → k' ≤ N → I k' l3' τ' → ok (q l1 l2 l3' τ') Q) → ok (s_X13_rank_26  q l1 l2 l3 τ) Q) {k : Nat} {l3 : Int32} {σ : jM} (hk : k ≤ N) (hI : I k l3 σ) : ok (f_X13_rank_26  Fu l1 l2 l3 σ) Q := by
  have H : ∀ (n k : Nat) (l3 : Int32) (σ : jM), k ≤ N → I k l3 σ → N < k + n → ok (f_X13_rank_26  n l1 l2 l3 σ) Q := by
    intro n
    induction n with
    | zero => intro k l3 σ hk hI hm; omega
    | succ n ih => intro k l3 σ hk hI hm; exact h k (f_X13_rank_26  n) l3 σ hk hI (fun k' l3' τ' h1 h2 h3 => ih k' l3' τ' h2 h3 (by omega))
  exact H Fu k l3 σ hk hI (by unfold Fu; omega)
theorem L_X13_count_106   {Q : Int32 → jM → Prop} (N : Nat) (I : Nat → Int32 → Int32 → jM → Prop) (hN : N < 1000000000) (h : ∀ (k : Nat) (q : Int32 → Int32 → jM → Option (Int32 × jM)) (l2 : Int32) (l3 : Int32) (τ : jM), k ≤ N → I k l2 l3 τ → (∀ (k' : Nat) (l2' : Int32) (l3' : Int32) (τ' : jM), k < k' → k' ≤ N → I k' l2' l3' τ' → ok (q l2' l3' τ') Q) → ok (s_X13_count_106  q l2 l3 τ) Q) {k : Nat} {l2 : Int32} {l3 : Int32} {σ : jM} (hk : k ≤ N) (hI : I k l2 l3 σ) : ok (f_X13_count_106  Fu l2 l3 σ) Q := by
  have H : ∀ (n k : Nat) (l2 : Int32) (l3 : Int32) (σ : jM), k ≤ N → I k l2 l3 σ → N < k + n → ok (f_X13_count_106  n l2 l3 σ) Q := by
    intro n
    induction n with
    | zero => intro k l2 l3 σ hk hI hm; omega
    | succ n ih => intro k l2 l3 σ hk hI hm; exact h k (f_X13_count_106  n) l2 l3 σ hk hI (fun k' l2' l3' τ' h1 h2 h3 => ih k' l2' l3' τ' h2 h3 (by omega))
  exact H Fu k l2 l3 σ hk hI (by unfold Fu; omega)
theorem L_X13_count_139   {Q : Int32 → jM → Prop} (N : Nat) (I : Nat → Int32 → Int32 → jM → Prop) (hN : N < 1000000000) (h : ∀ (k : Nat) (q : Int32 → Int32 → jM → Option (Int32 × jM)) (l2 : Int32) (l3 : Int32) (τ : jM), k ≤ N → I k l2 l3 τ → (∀ (k' : Nat) (l2' : Int32) (l3' : Int32) (τ' : jM), k < k' → k' ≤ N → I k' l2' l3' τ' → ok (q l2' l3' τ') Q) → ok (s_X13_count_139  q l2 l3 τ) Q) {k : Nat} {l2 : Int32} {l3 : Int32} {σ : jM} (hk : k ≤ N) (hI : I k l2 l3 σ) : ok (f_X13_count_139  Fu l2 l3 σ) Q := by
  have H : ∀ (n k : Nat) (l2 : Int32) (l3 : Int32) (σ : jM), k ≤ N → I k l2 l3 σ → N < k + n → ok (f_X13_count_139  n l2 l3 σ) Q := by
    intro n
    induction n with
    | zero => intro k l2 l3 σ hk hI hm; omega
    | succ n ih => intro k l2 l3 σ hk hI hm; exact h k (f_X13_count_139  n) l2 l3 σ hk hI (fun k' l2' l3' τ' h1 h2 h3 => ih k' l2' l3' τ' h2 h3 (by omega))
  exact H Fu k l2 l3 σ hk hI (by unfold Fu; omega)
theorem L_J7_fill_53178_5  {l0 : Nat} {l1 : Int32} {l3 : Int32} {Q : Unit → jM → Prop} (N : Nat) (I : Nat → Int32 → jM → Prop) (hN : N < 1000000000) (h : ∀ (k : Nat) (q : Nat → Int32 → Int32 → Int32 → jM → Option (Unit × jM)) (l2 : Int32) (τ : jM), k ≤ N → I k l2 τ → (∀ (k' : Nat) (l2' : Int32) (τ' : jM), k < k' → k' ≤ N → I k' l2' τ' → ok (q l0 l1 l2' l3 τ') Q) → ok (s_J7_fill_53178_5  q l0 l1 l2 l3 τ) Q) {k : Nat} {l2 : Int32} {σ : jM} (hk : k ≤ N) (hI : I k l2 σ) : ok (f_J7_fill_53178_5  Fu l0 l1 l2 l3 σ) Q := by
  have H : ∀ (n k : Nat) (l2 : Int32) (σ : jM), k ≤ N → I k l2 σ → N < k + n → ok (f_J7_fill_53178_5  n l0 l1 l2 l3 σ) Q := by
    intro n
    induction n with
    | zero => intro k l2 σ hk hI hm; omega
    | succ n ih => intro k l2 σ hk hI hm; exact h k (f_J7_fill_53178_5  n) l2 σ hk hI (fun k' l2' τ' h1 h2 h3 => ih k' l2' τ' h2 h3 (by omega))
  exact H Fu k l2 σ hk hI (by unfold Fu; omega)
theorem L_J7_fill_d0a16_6  {l0 : Nat} {l1 : Int64} {l4 : Int32} {Q : Unit → jM → Prop} (N : Nat) (I : Nat → Int32 → jM → Prop) (hN : N < 1000000000) (h : ∀ (k : Nat) (q : Nat → Int64 → Int32 → Int32 → jM → Option (Unit × jM)) (l3 : Int32) (τ : jM), k ≤ N → I k l3 τ → (∀ (k' : Nat) (l3' : Int32) (τ' : jM), k < k' → k' ≤ N → I k' l3' τ' → ok (q l0 l1 l3' l4 τ') Q) → ok (s_J7_fill_d0a16_6  q l0 l1 l3 l4 τ) Q) {k : Nat} {l3 : Int32} {σ : jM} (hk : k ≤ N) (hI : I k l3 σ) : ok (f_J7_fill_d0a16_6  Fu l0 l1 l3 l4 σ) Q := by
  have H : ∀ (n k : Nat) (l3 : Int32) (σ : jM), k ≤ N → I k l3 σ → N < k + n → ok (f_J7_fill_d0a16_6  n l0 l1 l3 l4 σ) Q := by
    intro n
    induction n with
    | zero => intro k l3 σ hk hI hm; omega
    | succ n ih => intro k l3 σ hk hI hm; exact h k (f_J7_fill_d0a16_6  n) l3 σ hk hI (fun k' l3' τ' h1 h2 h3 => ih k' l3' τ' h2 h3 (by omega))
  exact H Fu k l3 σ hk hI (by unfold Fu; omega)
theorem L_X1_possibleCell_5  {l1 : Int32} {Q : Int32 → jM → Prop} (N : Nat) (I : Nat → Int32 → Int32 → jM → Prop) (hN : N < 1000000000) (h : ∀ (k : Nat) (q : Int32 → Int32 → Int32 → jM → Option (Int32 × jM)) (l3 : Int32) (l4 : Int32) (τ : jM), k ≤ N → I k l3 l4 τ → (∀ (k' : Nat) (l3' : Int32) (l4' : Int32) (τ' : jM), k < k' → k' ≤ N → I k' l3' l4' τ' → ok (q l1 l3' l4' τ') Q) → ok (s_X1_possibleCell_5  q l1 l3 l4 τ) Q) {k : Nat} {l3 : Int32} {l4 : Int32} {σ : jM} (hk : k ≤ N) (hI : I k l3 l4 σ) : ok (f_X1_possibleCell_5  Fu l1 l3 l4 σ) Q := by
  have H : ∀ (n k : Nat) (l3 : Int32) (l4 : Int32) (σ : jM), k ≤ N → I k l3 l4 σ → N < k + n → ok (f_X1_possibleCell_5  n l1 l3 l4 σ) Q := by
    intro n
    induction n with
    | zero => intro k l3 l4 σ hk hI hm; omega
    | succ n ih => intro k l3 l4 σ hk hI hm; exact h k (f_X1_possibleCell_5  n) l3 l4 σ hk hI (fun k' l3' l4' τ' h1 h2 h3 => ih k' l3' l4' τ' h2 h3 (by omega))
  exact H Fu k l3 l4 σ hk hI (by unfold Fu; omega)
theorem L_X1_mostAgreeing_10  {l1 : Int32} {Q : Int32 → jM → Prop} (N : Nat) (I : Nat → Int32 → Int32 → Int32 → jM → Prop) (hN : N < 1000000000) (h : ∀ (k : Nat) (q : Int32 → Int32 → Int32 → Int32 → jM → Option (Int32 × jM)) (l2 : Int32) (l3 : Int32) (l4 : Int32) (τ : jM), k ≤ N → I k l2 l3 l4 τ → (∀ (k' : Nat) (l2' : Int32) (l3' : Int32) (l4' : Int32) (τ' : jM), k < k' → k' ≤ N → I k' l2' l3' l4' τ' → ok (q l1 l2' l3' l4' τ') Q) → ok (s_X1_mostAgreeing_10  q l1 l2 l3 l4 τ) Q) {k : Nat} {l2 : Int32} {l3 : Int32} {l4 : Int32} {σ : jM} (hk : k ≤ N) (hI : I k l2 l3 l4 σ) : ok (f_X1_mostAgreeing_10  Fu l1 l2 l3 l4 σ) Q := by
  have H : ∀ (n k : Nat) (l2 : Int32) (l3 : Int32) (l4 : Int32) (σ : jM), k ≤ N → I k l2 l3 l4 σ → N < k + n → ok (f_X1_mostAgreeing_10  n l1 l2 l3 l4 σ) Q := by
    intro n
    induction n with
    | zero => intro k l2 l3 l4 σ hk hI hm; omega
    | succ n ih => intro k l2 l3 l4 σ hk hI hm; exact h k (f_X1_mostAgreeing_10  n) l2 l3 l4 σ hk hI (fun k' l2' l3' l4' τ' h1 h2 h3 => ih k' l2' l3' l4' τ' h2 h3 (by omega))
  exact H Fu k l2 l3 l4 σ hk hI (by unfold Fu; omega)
theorem L_X1_countPlacesOf_12 {rec2 : Nat → Int32 → jM → Option (Unit × jM)} {l1 : Nat} {l2 : Int32} {Q : Unit → jM → Prop} (N : Nat) (I : Nat → Int32 → jM → Prop) (hN : N < 1000000000) (h : ∀ (k : Nat) (q : Nat → Int32 → Int32 → jM → Option (Unit × jM)) (l3 : Int32) (τ : jM), k ≤ N → I k l3 τ → (∀ (k' : Nat) (l3' : Int32) (τ' : jM), k < k' → k' ≤ N → I k' l3' τ' → ok (q l1 l2 l3' τ') Q) → ok (s_X1_countPlacesOf_12 rec2 q l1 l2 l3 τ) Q) {k : Nat} {l3 : Int32} {σ : jM} (hk : k ≤ N) (hI : I k l3 σ) : ok (f_X1_countPlacesOf_12 rec2 Fu l1 l2 l3 σ) Q := by
  have H : ∀ (n k : Nat) (l3 : Int32) (σ : jM), k ≤ N → I k l3 σ → N < k + n → ok (f_X1_countPlacesOf_12 rec2 n l1 l2 l3 σ) Q := by
    intro n
    induction n with
    | zero => intro k l3 σ hk hI hm; omega
    | succ n ih => intro k l3 σ hk hI hm; exact h k (f_X1_countPlacesOf_12 rec2 n) l3 σ hk hI (fun k' l3' τ' h1 h2 h3 => ih k' l3' τ' h2 h3 (by omega))
  exact H Fu k l3 σ hk hI (by unfold Fu; omega)
theorem L_X1_countPlacesOf_2  {l1 : Nat} {Q : Unit → jM → Prop} (N : Nat) (I : Nat → Int32 → jM → Prop) (hN : N < 1000000000) (h : ∀ (k : Nat) (q : Nat → Int32 → jM → Option (Unit × jM)) (l2 : Int32) (τ : jM), k ≤ N → I k l2 τ → (∀ (k' : Nat) (l2' : Int32) (τ' : jM), k < k' → k' ≤ N → I k' l2' τ' → ok (q l1 l2' τ') Q) → ok (s_X1_countPlacesOf_2  q l1 l2 τ) Q) {k : Nat} {l2 : Int32} {σ : jM} (hk : k ≤ N) (hI : I k l2 σ) : ok (f_X1_countPlacesOf_2  Fu l1 l2 σ) Q := by
  have H : ∀ (n k : Nat) (l2 : Int32) (σ : jM), k ≤ N → I k l2 σ → N < k + n → ok (f_X1_countPlacesOf_2  n l1 l2 σ) Q := by
    intro n
    induction n with
    | zero => intro k l2 σ hk hI hm; omega
    | succ n ih => intro k l2 σ hk hI hm; exact h k (f_X1_countPlacesOf_2  n) l2 σ hk hI (fun k' l2' τ' h1 h2 h3 => ih k' l2' τ' h2 h3 (by omega))
  exact H Fu k l2 σ hk hI (by unfold Fu; omega)
theorem L_X1_countAhead_4  {l1 : Int32} {Q : Int32 → jM → Prop} (N : Nat) (I : Nat → Int32 → Int32 → jM → Prop) (hN : N < 1000000000) (h : ∀ (k : Nat) (q : Int32 → Int32 → Int32 → jM → Option (Int32 × jM)) (l2 : Int32) (l3 : Int32) (τ : jM), k ≤ N → I k l2 l3 τ → (∀ (k' : Nat) (l2' : Int32) (l3' : Int32) (τ' : jM), k < k' → k' ≤ N → I k' l2' l3' τ' → ok (q l1 l2' l3' τ') Q) → ok (s_X1_countAhead_4  q l1 l2 l3 τ) Q) {k : Nat} {l2 : Int32} {l3 : Int32} {σ : jM} (hk : k ≤ N) (hI : I k l2 l3 σ) : ok (f_X1_countAhead_4  Fu l1 l2 l3 σ) Q := by
  have H : ∀ (n k : Nat) (l2 : Int32) (l3 : Int32) (σ : jM), k ≤ N → I k l2 l3 σ → N < k + n → ok (f_X1_countAhead_4  n l1 l2 l3 σ) Q := by
    intro n
    induction n with
    | zero => intro k l2 l3 σ hk hI hm; omega
    | succ n ih => intro k l2 l3 σ hk hI hm; exact h k (f_X1_countAhead_4  n) l2 l3 σ hk hI (fun k' l2' l3' τ' h1 h2 h3 => ih k' l2' l3' τ' h2 h3 (by omega))
  exact H Fu k l2 l3 σ hk hI (by unfold Fu; omega)
theorem L_X2_measure_75 {rec28 : Int32 → Nat → Int64 → Int64 → Int32 → jM → Option (Unit × jM)} {l1 : Int32} {l3 : Nat} {l4 : Int64} {l6 : Int64} {l8 : Int32} {Q : Unit → jM → Prop} (N : Nat) (I : Nat → Int32 → jM → Prop) (hN : N < 1000000000) (h : ∀ (k : Nat) (q : Int32 → Nat → Int64 → Int64 → Int32 → Int32 → jM → Option (Unit × jM)) (l9 : Int32) (τ : jM), k ≤ N → I k l9 τ → (∀ (k' : Nat) (l9' : Int32) (τ' : jM), k < k' → k' ≤ N → I k' l9' τ' → ok (q l1 l3 l4 l6 l8 l9' τ') Q) → ok (s_X2_measure_75 rec28 q l1 l3 l4 l6 l8 l9 τ) Q) {k : Nat} {l9 : Int32} {σ : jM} (hk : k ≤ N) (hI : I k l9 σ) : ok (f_X2_measure_75 rec28 Fu l1 l3 l4 l6 l8 l9 σ) Q := by
  have H : ∀ (n k : Nat) (l9 : Int32) (σ : jM), k ≤ N → I k l9 σ → N < k + n → ok (f_X2_measure_75 rec28 n l1 l3 l4 l6 l8 l9 σ) Q := by
    intro n
    induction n with
    | zero => intro k l9 σ hk hI hm; omega
    | succ n ih => intro k l9 σ hk hI hm; exact h k (f_X2_measure_75 rec28 n) l9 σ hk hI (fun k' l9' τ' h1 h2 h3 => ih k' l9' τ' h2 h3 (by omega))
  exact H Fu k l9 σ hk hI (by unfold Fu; omega)
theorem L_X2_measure_28  {l1 : Int32} {l3 : Nat} {Q : Unit → jM → Prop} (N : Nat) (I : Nat → Int64 → Int64 → Int32 → jM → Prop) (hN : N < 1000000000) (h : ∀ (k : Nat) (q : Int32 → Nat → Int64 → Int64 → Int32 → jM → Option (Unit × jM)) (l4 : Int64) (l6 : Int64) (l8 : Int32) (τ : jM), k ≤ N → I k l4 l6 l8 τ → (∀ (k' : Nat) (l4' : Int64) (l6' : Int64) (l8' : Int32) (τ' : jM), k < k' → k' ≤ N → I k' l4' l6' l8' τ' → ok (q l1 l3 l4' l6' l8' τ') Q) → ok (s_X2_measure_28  q l1 l3 l4 l6 l8 τ) Q) {k : Nat} {l4 : Int64} {l6 : Int64} {l8 : Int32} {σ : jM} (hk : k ≤ N) (hI : I k l4 l6 l8 σ) : ok (f_X2_measure_28  Fu l1 l3 l4 l6 l8 σ) Q := by
  have H : ∀ (n k : Nat) (l4 : Int64) (l6 : Int64) (l8 : Int32) (σ : jM), k ≤ N → I k l4 l6 l8 σ → N < k + n → ok (f_X2_measure_28  n l1 l3 l4 l6 l8 σ) Q := by
    intro n
    induction n with
    | zero => intro k l4 l6 l8 σ hk hI hm; omega
    | succ n ih => intro k l4 l6 l8 σ hk hI hm; exact h k (f_X2_measure_28  n) l4 l6 l8 σ hk hI (fun k' l4' l6' l8' τ' h1 h2 h3 => ih k' l4' l6' l8' τ' h2 h3 (by omega))
  exact H Fu k l4 l6 l8 σ hk hI (by unfold Fu; omega)
theorem L_X2_nearer_3  {l1 : Int32} {l2 : Int32} {l3 : Int32} {Q : Int32 → jM → Prop} (N : Nat) (I : Nat → Int32 → jM → Prop) (hN : N < 1000000000) (h : ∀ (k : Nat) (q : Int32 → Int32 → Int32 → Int32 → jM → Option (Int32 × jM)) (l4 : Int32) (τ : jM), k ≤ N → I k l4 τ → (∀ (k' : Nat) (l4' : Int32) (τ' : jM), k < k' → k' ≤ N → I k' l4' τ' → ok (q l1 l2 l3 l4' τ') Q) → ok (s_X2_nearer_3  q l1 l2 l3 l4 τ) Q) {k : Nat} {l4 : Int32} {σ : jM} (hk : k ≤ N) (hI : I k l4 σ) : ok (f_X2_nearer_3  Fu l1 l2 l3 l4 σ) Q := by
  have H : ∀ (n k : Nat) (l4 : Int32) (σ : jM), k ≤ N → I k l4 σ → N < k + n → ok (f_X2_nearer_3  n l1 l2 l3 l4 σ) Q := by
    intro n
    induction n with
    | zero => intro k l4 σ hk hI hm; omega
    | succ n ih => intro k l4 σ hk hI hm; exact h k (f_X2_nearer_3  n) l4 σ hk hI (fun k' l4' τ' h1 h2 h3 => ih k' l4' τ' h2 h3 (by omega))
  exact H Fu k l4 σ hk hI (by unfold Fu; omega)
theorem L_X4_linkCount_4  {l1 : Int32} {Q : Int32 → jM → Prop} (N : Nat) (I : Nat → Int32 → Int32 → jM → Prop) (hN : N < 1000000000) (h : ∀ (k : Nat) (q : Int32 → Int32 → Int32 → jM → Option (Int32 × jM)) (l2 : Int32) (l3 : Int32) (τ : jM), k ≤ N → I k l2 l3 τ → (∀ (k' : Nat) (l2' : Int32) (l3' : Int32) (τ' : jM), k < k' → k' ≤ N → I k' l2' l3' τ' → ok (q l1 l2' l3' τ') Q) → ok (s_X4_linkCount_4  q l1 l2 l3 τ) Q) {k : Nat} {l2 : Int32} {l3 : Int32} {σ : jM} (hk : k ≤ N) (hI : I k l2 l3 σ) : ok (f_X4_linkCount_4  Fu l1 l2 l3 σ) Q := by
  have H : ∀ (n k : Nat) (l2 : Int32) (l3 : Int32) (σ : jM), k ≤ N → I k l2 l3 σ → N < k + n → ok (f_X4_linkCount_4  n l1 l2 l3 σ) Q := by
    intro n
    induction n with
    | zero => intro k l2 l3 σ hk hI hm; omega
    | succ n ih => intro k l2 l3 σ hk hI hm; exact h k (f_X4_linkCount_4  n) l2 l3 σ hk hI (fun k' l2' l3' τ' h1 h2 h3 => ih k' l2' l3' τ' h2 h3 (by omega))
  exact H Fu k l2 l3 σ hk hI (by unfold Fu; omega)
theorem L_X4_keyOf_5  {l1 : Nat} {l2 : Int32} {Q : Int64 → jM → Prop} (N : Nat) (I : Nat → Int64 → Int32 → jM → Prop) (hN : N < 1000000000) (h : ∀ (k : Nat) (q : Nat → Int32 → Int64 → Int32 → jM → Option (Int64 × jM)) (l3 : Int64) (l5 : Int32) (τ : jM), k ≤ N → I k l3 l5 τ → (∀ (k' : Nat) (l3' : Int64) (l5' : Int32) (τ' : jM), k < k' → k' ≤ N → I k' l3' l5' τ' → ok (q l1 l2 l3' l5' τ') Q) → ok (s_X4_keyOf_5  q l1 l2 l3 l5 τ) Q) {k : Nat} {l3 : Int64} {l5 : Int32} {σ : jM} (hk : k ≤ N) (hI : I k l3 l5 σ) : ok (f_X4_keyOf_5  Fu l1 l2 l3 l5 σ) Q := by
  have H : ∀ (n k : Nat) (l3 : Int64) (l5 : Int32) (σ : jM), k ≤ N → I k l3 l5 σ → N < k + n → ok (f_X4_keyOf_5  n l1 l2 l3 l5 σ) Q := by
    intro n
    induction n with
    | zero => intro k l3 l5 σ hk hI hm; omega
    | succ n ih => intro k l3 l5 σ hk hI hm; exact h k (f_X4_keyOf_5  n) l3 l5 σ hk hI (fun k' l3' l5' τ' h1 h2 h3 => ih k' l3' l5' τ' h2 h3 (by omega))
  exact H Fu k l3 l5 σ hk hI (by unfold Fu; omega)
theorem L_X4_linkByShares_2   {Q : Unit → jM → Prop} (N : Nat) (I : Nat → Int32 → jM → Prop) (hN : N < 1000000000) (h : ∀ (k : Nat) (q : Int32 → jM → Option (Unit × jM)) (l1 : Int32) (τ : jM), k ≤ N → I k l1 τ → (∀ (k' : Nat) (l1' : Int32) (τ' : jM), k < k' → k' ≤ N → I k' l1' τ' → ok (q l1' τ') Q) → ok (s_X4_linkByShares_2  q l1 τ) Q) {k : Nat} {l1 : Int32} {σ : jM} (hk : k ≤ N) (hI : I k l1 σ) : ok (f_X4_linkByShares_2  Fu l1 σ) Q := by
  have H : ∀ (n k : Nat) (l1 : Int32) (σ : jM), k ≤ N → I k l1 σ → N < k + n → ok (f_X4_linkByShares_2  n l1 σ) Q := by
    intro n
    induction n with
    | zero => intro k l1 σ hk hI hm; omega
    | succ n ih => intro k l1 σ hk hI hm; exact h k (f_X4_linkByShares_2  n) l1 σ hk hI (fun k' l1' τ' h1 h2 h3 => ih k' l1' τ' h2 h3 (by omega))
  exact H Fu k l1 σ hk hI (by unfold Fu; omega)
theorem L_X8_lift_9  {l1 : Int32} {Q : Unit → jM → Prop} (N : Nat) (I : Nat → Int32 → jM → Prop) (hN : N < 1000000000) (h : ∀ (k : Nat) (q : Int32 → Int32 → jM → Option (Unit × jM)) (l2 : Int32) (τ : jM), k ≤ N → I k l2 τ → (∀ (k' : Nat) (l2' : Int32) (τ' : jM), k < k' → k' ≤ N → I k' l2' τ' → ok (q l1 l2' τ') Q) → ok (s_X8_lift_9  q l1 l2 τ) Q) {k : Nat} {l2 : Int32} {σ : jM} (hk : k ≤ N) (hI : I k l2 σ) : ok (f_X8_lift_9  Fu l1 l2 σ) Q := by
  have H : ∀ (n k : Nat) (l2 : Int32) (σ : jM), k ≤ N → I k l2 σ → N < k + n → ok (f_X8_lift_9  n l1 l2 σ) Q := by
    intro n
    induction n with
    | zero => intro k l2 σ hk hI hm; omega
    | succ n ih => intro k l2 σ hk hI hm; exact h k (f_X8_lift_9  n) l2 σ hk hI (fun k' l2' τ' h1 h2 h3 => ih k' l2' τ' h2 h3 (by omega))
  exact H Fu k l2 σ hk hI (by unfold Fu; omega)
theorem L_X11_isName_21   {Q : Int32 → jM → Prop} (N : Nat) (I : Nat → Int32 → jM → Prop) (hN : N < 1000000000) (h : ∀ (k : Nat) (q : Int32 → jM → Option (Int32 × jM)) (l1 : Int32) (τ : jM), k ≤ N → I k l1 τ → (∀ (k' : Nat) (l1' : Int32) (τ' : jM), k < k' → k' ≤ N → I k' l1' τ' → ok (q l1' τ') Q) → ok (s_X11_isName_21  q l1 τ) Q) {k : Nat} {l1 : Int32} {σ : jM} (hk : k ≤ N) (hI : I k l1 σ) : ok (f_X11_isName_21  Fu l1 σ) Q := by
  have H : ∀ (n k : Nat) (l1 : Int32) (σ : jM), k ≤ N → I k l1 σ → N < k + n → ok (f_X11_isName_21  n l1 σ) Q := by
    intro n
    induction n with
    | zero => intro k l1 σ hk hI hm; omega
    | succ n ih => intro k l1 σ hk hI hm; exact h k (f_X11_isName_21  n) l1 σ hk hI (fun k' l1' τ' h1 h2 h3 => ih k' l1' τ' h2 h3 (by omega))
  exact H Fu k l1 σ hk hI (by unfold Fu; omega)
theorem L_X11_takeWord_5   {Q : Unit → jM → Prop} (N : Nat) (I : Nat → jM → Prop) (hN : N < 1000000000) (h : ∀ (k : Nat) (q : jM → Option (Unit × jM))  (τ : jM), k ≤ N → I k  τ → (∀ (k' : Nat)  (τ' : jM), k < k' → k' ≤ N → I k'  τ' → ok (q  τ') Q) → ok (s_X11_takeWord_5  q  τ) Q) {k : Nat}  {σ : jM} (hk : k ≤ N) (hI : I k  σ) : ok (f_X11_takeWord_5  Fu  σ) Q := by
  have H : ∀ (n k : Nat)  (σ : jM), k ≤ N → I k  σ → N < k + n → ok (f_X11_takeWord_5  n  σ) Q := by
    intro n
    induction n with
    | zero => intro k  σ hk hI hm; omega
    | succ n ih => intro k  σ hk hI hm; exact h k (f_X11_takeWord_5  n)  σ hk hI (fun k'  τ' h1 h2 h3 => ih k'  τ' h2 h3 (by omega))
  exact H Fu k  σ hk hI (by unfold Fu; omega)
theorem L_X11_takeNumber_5   {Q : Unit → jM → Prop} (N : Nat) (I : Nat → jM → Prop) (hN : N < 1000000000) (h : ∀ (k : Nat) (q : jM → Option (Unit × jM))  (τ : jM), k ≤ N → I k  τ → (∀ (k' : Nat)  (τ' : jM), k < k' → k' ≤ N → I k'  τ' → ok (q  τ') Q) → ok (s_X11_takeNumber_5  q  τ) Q) {k : Nat}  {σ : jM} (hk : k ≤ N) (hI : I k  σ) : ok (f_X11_takeNumber_5  Fu  σ) Q := by
  have H : ∀ (n k : Nat)  (σ : jM), k ≤ N → I k  σ → N < k + n → ok (f_X11_takeNumber_5  n  σ) Q := by
    intro n
    induction n with
    | zero => intro k  σ hk hI hm; omega
    | succ n ih => intro k  σ hk hI hm; exact h k (f_X11_takeNumber_5  n)  σ hk hI (fun k'  τ' h1 h2 h3 => ih k'  τ' h2 h3 (by omega))
  exact H Fu k  σ hk hI (by unfold Fu; omega)
theorem L_X13_findLinks_95  {l1 : Int32} {Q : Unit → jM → Prop} (N : Nat) (I : Nat → Int32 → jM → Prop) (hN : N < 1000000000) (h : ∀ (k : Nat) (q : Int32 → Int32 → jM → Option (Unit × jM)) (l3 : Int32) (τ : jM), k ≤ N → I k l3 τ → (∀ (k' : Nat) (l3' : Int32) (τ' : jM), k < k' → k' ≤ N → I k' l3' τ' → ok (q l1 l3' τ') Q) → ok (s_X13_findLinks_95  q l1 l3 τ) Q) {k : Nat} {l3 : Int32} {σ : jM} (hk : k ≤ N) (hI : I k l3 σ) : ok (f_X13_findLinks_95  Fu l1 l3 σ) Q := by
  have H : ∀ (n k : Nat) (l3 : Int32) (σ : jM), k ≤ N → I k l3 σ → N < k + n → ok (f_X13_findLinks_95  n l1 l3 σ) Q := by
    intro n
    induction n with
    | zero => intro k l3 σ hk hI hm; omega
    | succ n ih => intro k l3 σ hk hI hm; exact h k (f_X13_findLinks_95  n) l3 σ hk hI (fun k' l3' τ' h1 h2 h3 => ih k' l3' τ' h2 h3 (by omega))
  exact H Fu k l3 σ hk hI (by unfold Fu; omega)
theorem L_X13_findLinks_47  {l1 : Int32} {l2 : Int32} {Q : Unit → jM → Prop} (N : Nat) (I : Nat → Int32 → jM → Prop) (hN : N < 1000000000) (h : ∀ (k : Nat) (q : Int32 → Int32 → Int32 → jM → Option (Unit × jM)) (l3 : Int32) (τ : jM), k ≤ N → I k l3 τ → (∀ (k' : Nat) (l3' : Int32) (τ' : jM), k < k' → k' ≤ N → I k' l3' τ' → ok (q l1 l2 l3' τ') Q) → ok (s_X13_findLinks_47  q l1 l2 l3 τ) Q) {k : Nat} {l3 : Int32} {σ : jM} (hk : k ≤ N) (hI : I k l3 σ) : ok (f_X13_findLinks_47  Fu l1 l2 l3 σ) Q := by
  have H : ∀ (n k : Nat) (l3 : Int32) (σ : jM), k ≤ N → I k l3 σ → N < k + n → ok (f_X13_findLinks_47  n l1 l2 l3 σ) Q := by
    intro n
    induction n with
    | zero => intro k l3 σ hk hI hm; omega
    | succ n ih => intro k l3 σ hk hI hm; exact h k (f_X13_findLinks_47  n) l3 σ hk hI (fun k' l3' τ' h1 h2 h3 => ih k' l3' τ' h2 h3 (by omega))
  exact H Fu k l3 σ hk hI (by unfold Fu; omega)
theorem L_X13_findLinks_12  {l1 : Int32} {Q : Unit → jM → Prop} (N : Nat) (I : Nat → Int32 → jM → Prop) (hN : N < 1000000000) (h : ∀ (k : Nat) (q : Int32 → Int32 → jM → Option (Unit × jM)) (l2 : Int32) (τ : jM), k ≤ N → I k l2 τ → (∀ (k' : Nat) (l2' : Int32) (τ' : jM), k < k' → k' ≤ N → I k' l2' τ' → ok (q l1 l2' τ') Q) → ok (s_X13_findLinks_12  q l1 l2 τ) Q) {k : Nat} {l2 : Int32} {σ : jM} (hk : k ≤ N) (hI : I k l2 σ) : ok (f_X13_findLinks_12  Fu l1 l2 σ) Q := by
  have H : ∀ (n k : Nat) (l2 : Int32) (σ : jM), k ≤ N → I k l2 σ → N < k + n → ok (f_X13_findLinks_12  n l1 l2 σ) Q := by
    intro n
    induction n with
    | zero => intro k l2 σ hk hI hm; omega
    | succ n ih => intro k l2 σ hk hI hm; exact h k (f_X13_findLinks_12  n) l2 σ hk hI (fun k' l2' τ' h1 h2 h3 => ih k' l2' τ' h2 h3 (by omega))
  exact H Fu k l2 σ hk hI (by unfold Fu; omega)
theorem L_X13_links__34  {l1 : Int32} {Q : Int32 → jM → Prop} (N : Nat) (I : Nat → Int32 → Int32 → jM → Prop) (hN : N < 1000000000) (h : ∀ (k : Nat) (q : Int32 → Int32 → Int32 → jM → Option (Int32 × jM)) (l3 : Int32) (l4 : Int32) (τ : jM), k ≤ N → I k l3 l4 τ → (∀ (k' : Nat) (l3' : Int32) (l4' : Int32) (τ' : jM), k < k' → k' ≤ N → I k' l3' l4' τ' → ok (q l1 l3' l4' τ') Q) → ok (s_X13_links__34  q l1 l3 l4 τ) Q) {k : Nat} {l3 : Int32} {l4 : Int32} {σ : jM} (hk : k ≤ N) (hI : I k l3 l4 σ) : ok (f_X13_links__34  Fu l1 l3 l4 σ) Q := by
  have H : ∀ (n k : Nat) (l3 : Int32) (l4 : Int32) (σ : jM), k ≤ N → I k l3 l4 σ → N < k + n → ok (f_X13_links__34  n l1 l3 l4 σ) Q := by
    intro n
    induction n with
    | zero => intro k l3 l4 σ hk hI hm; omega
    | succ n ih => intro k l3 l4 σ hk hI hm; exact h k (f_X13_links__34  n) l3 l4 σ hk hI (fun k' l3' l4' τ' h1 h2 h3 => ih k' l3' l4' τ' h2 h3 (by omega))
  exact H Fu k l3 l4 σ hk hI (by unfold Fu; omega)
theorem L_X13_findClash_97 {rec87 : Int32 → jM → Option (Int32 × jM)} {l2 : Int32} {Q : Int32 → jM → Prop} (N : Nat) (I : Nat → Int32 → jM → Prop) (hN : N < 1000000000) (h : ∀ (k : Nat) (q : Int32 → Int32 → jM → Option (Int32 × jM)) (l3 : Int32) (τ : jM), k ≤ N → I k l3 τ → (∀ (k' : Nat) (l3' : Int32) (τ' : jM), k < k' → k' ≤ N → I k' l3' τ' → ok (q l2 l3' τ') Q) → ok (s_X13_findClash_97 rec87 q l2 l3 τ) Q) {k : Nat} {l3 : Int32} {σ : jM} (hk : k ≤ N) (hI : I k l3 σ) : ok (f_X13_findClash_97 rec87 Fu l2 l3 σ) Q := by
  have H : ∀ (n k : Nat) (l3 : Int32) (σ : jM), k ≤ N → I k l3 σ → N < k + n → ok (f_X13_findClash_97 rec87 n l2 l3 σ) Q := by
    intro n
    induction n with
    | zero => intro k l3 σ hk hI hm; omega
    | succ n ih => intro k l3 σ hk hI hm; exact h k (f_X13_findClash_97 rec87 n) l3 σ hk hI (fun k' l3' τ' h1 h2 h3 => ih k' l3' τ' h2 h3 (by omega))
  exact H Fu k l3 σ hk hI (by unfold Fu; omega)
theorem L_X13_findClash_87   {Q : Int32 → jM → Prop} (N : Nat) (I : Nat → Int32 → jM → Prop) (hN : N < 1000000000) (h : ∀ (k : Nat) (q : Int32 → jM → Option (Int32 × jM)) (l2 : Int32) (τ : jM), k ≤ N → I k l2 τ → (∀ (k' : Nat) (l2' : Int32) (τ' : jM), k < k' → k' ≤ N → I k' l2' τ' → ok (q l2' τ') Q) → ok (s_X13_findClash_87  q l2 τ) Q) {k : Nat} {l2 : Int32} {σ : jM} (hk : k ≤ N) (hI : I k l2 σ) : ok (f_X13_findClash_87  Fu l2 σ) Q := by
  have H : ∀ (n k : Nat) (l2 : Int32) (σ : jM), k ≤ N → I k l2 σ → N < k + n → ok (f_X13_findClash_87  n l2 σ) Q := by
    intro n
    induction n with
    | zero => intro k l2 σ hk hI hm; omega
    | succ n ih => intro k l2 σ hk hI hm; exact h k (f_X13_findClash_87  n) l2 σ hk hI (fun k' l2' τ' h1 h2 h3 => ih k' l2' τ' h2 h3 (by omega))
  exact H Fu k l2 σ hk hI (by unfold Fu; omega)
theorem L_X13_findClash_29 {rec7 : Int32 → jM → Option (Int32 × jM)} {rec14 : Int32 → Int32 → jM → Option (Int32 × jM)} {l2 : Int32} {l3 : Int32} {Q : Int32 → jM → Prop} (N : Nat) (I : Nat → Int32 → jM → Prop) (hN : N < 1000000000) (h : ∀ (k : Nat) (q : Int32 → Int32 → Int32 → jM → Option (Int32 × jM)) (l4 : Int32) (τ : jM), k ≤ N → I k l4 τ → (∀ (k' : Nat) (l4' : Int32) (τ' : jM), k < k' → k' ≤ N → I k' l4' τ' → ok (q l2 l3 l4' τ') Q) → ok (s_X13_findClash_29 rec7 rec14 q l2 l3 l4 τ) Q) {k : Nat} {l4 : Int32} {σ : jM} (hk : k ≤ N) (hI : I k l4 σ) : ok (f_X13_findClash_29 rec7 rec14 Fu l2 l3 l4 σ) Q := by
  have H : ∀ (n k : Nat) (l4 : Int32) (σ : jM), k ≤ N → I k l4 σ → N < k + n → ok (f_X13_findClash_29 rec7 rec14 n l2 l3 l4 σ) Q := by
    intro n
    induction n with
    | zero => intro k l4 σ hk hI hm; omega
    | succ n ih => intro k l4 σ hk hI hm; exact h k (f_X13_findClash_29 rec7 rec14 n) l4 σ hk hI (fun k' l4' τ' h1 h2 h3 => ih k' l4' τ' h2 h3 (by omega))
  exact H Fu k l4 σ hk hI (by unfold Fu; omega)
theorem L_X13_findClash_14 {rec7 : Int32 → jM → Option (Int32 × jM)} {l2 : Int32} {Q : Int32 → jM → Prop} (N : Nat) (I : Nat → Int32 → jM → Prop) (hN : N < 1000000000) (h : ∀ (k : Nat) (q : Int32 → Int32 → jM → Option (Int32 × jM)) (l3 : Int32) (τ : jM), k ≤ N → I k l3 τ → (∀ (k' : Nat) (l3' : Int32) (τ' : jM), k < k' → k' ≤ N → I k' l3' τ' → ok (q l2 l3' τ') Q) → ok (s_X13_findClash_14 rec7 q l2 l3 τ) Q) {k : Nat} {l3 : Int32} {σ : jM} (hk : k ≤ N) (hI : I k l3 σ) : ok (f_X13_findClash_14 rec7 Fu l2 l3 σ) Q := by
  have H : ∀ (n k : Nat) (l3 : Int32) (σ : jM), k ≤ N → I k l3 σ → N < k + n → ok (f_X13_findClash_14 rec7 n l2 l3 σ) Q := by
    intro n
    induction n with
    | zero => intro k l3 σ hk hI hm; omega
    | succ n ih => intro k l3 σ hk hI hm; exact h k (f_X13_findClash_14 rec7 n) l3 σ hk hI (fun k' l3' τ' h1 h2 h3 => ih k' l3' τ' h2 h3 (by omega))
  exact H Fu k l3 σ hk hI (by unfold Fu; omega)
theorem L_X13_findClash_7   {Q : Int32 → jM → Prop} (N : Nat) (I : Nat → Int32 → jM → Prop) (hN : N < 1000000000) (h : ∀ (k : Nat) (q : Int32 → jM → Option (Int32 × jM)) (l2 : Int32) (τ : jM), k ≤ N → I k l2 τ → (∀ (k' : Nat) (l2' : Int32) (τ' : jM), k < k' → k' ≤ N → I k' l2' τ' → ok (q l2' τ') Q) → ok (s_X13_findClash_7  q l2 τ) Q) {k : Nat} {l2 : Int32} {σ : jM} (hk : k ≤ N) (hI : I k l2 σ) : ok (f_X13_findClash_7  Fu l2 σ) Q := by
  have H : ∀ (n k : Nat) (l2 : Int32) (σ : jM), k ≤ N → I k l2 σ → N < k + n → ok (f_X13_findClash_7  n l2 σ) Q := by
    intro n
    induction n with
    | zero => intro k l2 σ hk hI hm; omega
    | succ n ih => intro k l2 σ hk hI hm; exact h k (f_X13_findClash_7  n) l2 σ hk hI (fun k' l2' τ' h1 h2 h3 => ih k' l2' τ' h2 h3 (by omega))
  exact H Fu k l2 σ hk hI (by unfold Fu; omega)
theorem L_X13_agrees_144 {rec35 : Int32 → Int32 → Int32 → Int32 → jM → Option (Int32 × jM)} {l2 : Int32} {l3 : Int32} {l4 : Int32} {l5 : Int32} {l7 : Int32} {l8 : Int32} {Q : Int32 → jM → Prop} (N : Nat) (I : Nat → Int32 → jM → Prop) (hN : N < 1000000000) (h : ∀ (k : Nat) (q : Int32 → Int32 → Int32 → Int32 → Int32 → Int32 → Int32 → jM → Option (Int32 × jM)) (l9 : Int32) (τ : jM), k ≤ N → I k l9 τ → (∀ (k' : Nat) (l9' : Int32) (τ' : jM), k < k' → k' ≤ N → I k' l9' τ' → ok (q l2 l3 l4 l5 l7 l8 l9' τ') Q) → ok (s_X13_agrees_144 rec35 q l2 l3 l4 l5 l7 l8 l9 τ) Q) {k : Nat} {l9 : Int32} {σ : jM} (hk : k ≤ N) (hI : I k l9 σ) : ok (f_X13_agrees_144 rec35 Fu l2 l3 l4 l5 l7 l8 l9 σ) Q := by
  have H : ∀ (n k : Nat) (l9 : Int32) (σ : jM), k ≤ N → I k l9 σ → N < k + n → ok (f_X13_agrees_144 rec35 n l2 l3 l4 l5 l7 l8 l9 σ) Q := by
    intro n
    induction n with
    | zero => intro k l9 σ hk hI hm; omega
    | succ n ih => intro k l9 σ hk hI hm; exact h k (f_X13_agrees_144 rec35 n) l9 σ hk hI (fun k' l9' τ' h1 h2 h3 => ih k' l9' τ' h2 h3 (by omega))
  exact H Fu k l9 σ hk hI (by unfold Fu; omega)
theorem L_X13_agrees_35  {l2 : Int32} {l3 : Int32} {l4 : Int32} {Q : Int32 → jM → Prop} (N : Nat) (I : Nat → Int32 → jM → Prop) (hN : N < 1000000000) (h : ∀ (k : Nat) (q : Int32 → Int32 → Int32 → Int32 → jM → Option (Int32 × jM)) (l5 : Int32) (τ : jM), k ≤ N → I k l5 τ → (∀ (k' : Nat) (l5' : Int32) (τ' : jM), k < k' → k' ≤ N → I k' l5' τ' → ok (q l2 l3 l4 l5' τ') Q) → ok (s_X13_agrees_35  q l2 l3 l4 l5 τ) Q) {k : Nat} {l5 : Int32} {σ : jM} (hk : k ≤ N) (hI : I k l5 σ) : ok (f_X13_agrees_35  Fu l2 l3 l4 l5 σ) Q := by
  have H : ∀ (n k : Nat) (l5 : Int32) (σ : jM), k ≤ N → I k l5 σ → N < k + n → ok (f_X13_agrees_35  n l2 l3 l4 l5 σ) Q := by
    intro n
    induction n with
    | zero => intro k l5 σ hk hI hm; omega
    | succ n ih => intro k l5 σ hk hI hm; exact h k (f_X13_agrees_35  n) l5 σ hk hI (fun k' l5' τ' h1 h2 h3 => ih k' l5' τ' h2 h3 (by omega))
  exact H Fu k l5 σ hk hI (by unfold Fu; omega)
theorem L_X13_tries_59  {l1 : Int32} {l2 : Int32} {Q : Int32 → jM → Prop} (N : Nat) (I : Nat → Int32 → jM → Prop) (hN : N < 1000000000) (h : ∀ (k : Nat) (q : Int32 → Int32 → Int32 → jM → Option (Int32 × jM)) (l3 : Int32) (τ : jM), k ≤ N → I k l3 τ → (∀ (k' : Nat) (l3' : Int32) (τ' : jM), k < k' → k' ≤ N → I k' l3' τ' → ok (q l1 l2 l3' τ') Q) → ok (s_X13_tries_59  q l1 l2 l3 τ) Q) {k : Nat} {l3 : Int32} {σ : jM} (hk : k ≤ N) (hI : I k l3 σ) : ok (f_X13_tries_59  Fu l1 l2 l3 σ) Q := by
  have H : ∀ (n k : Nat) (l3 : Int32) (σ : jM), k ≤ N → I k l3 σ → N < k + n → ok (f_X13_tries_59  n l1 l2 l3 σ) Q := by
    intro n
    induction n with
    | zero => intro k l3 σ hk hI hm; omega
    | succ n ih => intro k l3 σ hk hI hm; exact h k (f_X13_tries_59  n) l3 σ hk hI (fun k' l3' τ' h1 h2 h3 => ih k' l3' τ' h2 h3 (by omega))
  exact H Fu k l3 σ hk hI (by unfold Fu; omega)
theorem L_X13_tries_9  {l1 : Int32} {l2 : Int32} {Q : Int32 → jM → Prop} (N : Nat) (I : Nat → Int32 → jM → Prop) (hN : N < 1000000000) (h : ∀ (k : Nat) (q : Int32 → Int32 → Int32 → jM → Option (Int32 × jM)) (l3 : Int32) (τ : jM), k ≤ N → I k l3 τ → (∀ (k' : Nat) (l3' : Int32) (τ' : jM), k < k' → k' ≤ N → I k' l3' τ' → ok (q l1 l2 l3' τ') Q) → ok (s_X13_tries_9  q l1 l2 l3 τ) Q) {k : Nat} {l3 : Int32} {σ : jM} (hk : k ≤ N) (hI : I k l3 σ) : ok (f_X13_tries_9  Fu l1 l2 l3 σ) Q := by
  have H : ∀ (n k : Nat) (l3 : Int32) (σ : jM), k ≤ N → I k l3 σ → N < k + n → ok (f_X13_tries_9  n l1 l2 l3 σ) Q := by
    intro n
    induction n with
    | zero => intro k l3 σ hk hI hm; omega
    | succ n ih => intro k l3 σ hk hI hm; exact h k (f_X13_tries_9  n) l3 σ hk hI (fun k' l3' τ' h1 h2 h3 => ih k' l3' τ' h2 h3 (by omega))
  exact H Fu k l3 σ hk hI (by unfold Fu; omega)
theorem L_X13_takes_12  {l1 : Int32} {l2 : Int32} {Q : Unit → jM → Prop} (N : Nat) (I : Nat → Int32 → jM → Prop) (hN : N < 1000000000) (h : ∀ (k : Nat) (q : Int32 → Int32 → Int32 → jM → Option (Unit × jM)) (l3 : Int32) (τ : jM), k ≤ N → I k l3 τ → (∀ (k' : Nat) (l3' : Int32) (τ' : jM), k < k' → k' ≤ N → I k' l3' τ' → ok (q l1 l2 l3' τ') Q) → ok (s_X13_takes_12  q l1 l2 l3 τ) Q) {k : Nat} {l3 : Int32} {σ : jM} (hk : k ≤ N) (hI : I k l3 σ) : ok (f_X13_takes_12  Fu l1 l2 l3 σ) Q := by
  have H : ∀ (n k : Nat) (l3 : Int32) (σ : jM), k ≤ N → I k l3 σ → N < k + n → ok (f_X13_takes_12  n l1 l2 l3 σ) Q := by
    intro n
    induction n with
    | zero => intro k l3 σ hk hI hm; omega
    | succ n ih => intro k l3 σ hk hI hm; exact h k (f_X13_takes_12  n) l3 σ hk hI (fun k' l3' τ' h1 h2 h3 => ih k' l3' τ' h2 h3 (by omega))
  exact H Fu k l3 σ hk hI (by unfold Fu; omega)
theorem L_X13_marksFits_126 {rec2 : Int32 → Int32 → jM → Option (Unit × jM)} {l1 : Int32} {l2 : Int32} {Q : Unit → jM → Prop} (N : Nat) (I : Nat → Int32 → jM → Prop) (hN : N < 1000000000) (h : ∀ (k : Nat) (q : Int32 → Int32 → Int32 → jM → Option (Unit × jM)) (l5 : Int32) (τ : jM), k ≤ N → I k l5 τ → (∀ (k' : Nat) (l5' : Int32) (τ' : jM), k < k' → k' ≤ N → I k' l5' τ' → ok (q l1 l2 l5' τ') Q) → ok (s_X13_marksFits_126 rec2 q l1 l2 l5 τ) Q) {k : Nat} {l5 : Int32} {σ : jM} (hk : k ≤ N) (hI : I k l5 σ) : ok (f_X13_marksFits_126 rec2 Fu l1 l2 l5 σ) Q := by
  have H : ∀ (n k : Nat) (l5 : Int32) (σ : jM), k ≤ N → I k l5 σ → N < k + n → ok (f_X13_marksFits_126 rec2 n l1 l2 l5 σ) Q := by
    intro n
    induction n with
    | zero => intro k l5 σ hk hI hm; omega
    | succ n ih => intro k l5 σ hk hI hm; exact h k (f_X13_marksFits_126 rec2 n) l5 σ hk hI (fun k' l5' τ' h1 h2 h3 => ih k' l5' τ' h2 h3 (by omega))
  exact H Fu k l5 σ hk hI (by unfold Fu; omega)
theorem L_X13_marksFits_58 {rec2 : Int32 → Int32 → jM → Option (Unit × jM)} {l1 : Int32} {l2 : Int32} {l3 : Int32} {Q : Unit → jM → Prop} (N : Nat) (I : Nat → Int32 → Int32 → jM → Prop) (hN : N < 1000000000) (h : ∀ (k : Nat) (q : Int32 → Int32 → Int32 → Int32 → Int32 → jM → Option (Unit × jM)) (l4 : Int32) (l5 : Int32) (τ : jM), k ≤ N → I k l4 l5 τ → (∀ (k' : Nat) (l4' : Int32) (l5' : Int32) (τ' : jM), k < k' → k' ≤ N → I k' l4' l5' τ' → ok (q l1 l2 l3 l4' l5' τ') Q) → ok (s_X13_marksFits_58 rec2 q l1 l2 l3 l4 l5 τ) Q) {k : Nat} {l4 : Int32} {l5 : Int32} {σ : jM} (hk : k ≤ N) (hI : I k l4 l5 σ) : ok (f_X13_marksFits_58 rec2 Fu l1 l2 l3 l4 l5 σ) Q := by
  have H : ∀ (n k : Nat) (l4 : Int32) (l5 : Int32) (σ : jM), k ≤ N → I k l4 l5 σ → N < k + n → ok (f_X13_marksFits_58 rec2 n l1 l2 l3 l4 l5 σ) Q := by
    intro n
    induction n with
    | zero => intro k l4 l5 σ hk hI hm; omega
    | succ n ih => intro k l4 l5 σ hk hI hm; exact h k (f_X13_marksFits_58 rec2 n) l4 l5 σ hk hI (fun k' l4' l5' τ' h1 h2 h3 => ih k' l4' l5' τ' h2 h3 (by omega))
  exact H Fu k l4 l5 σ hk hI (by unfold Fu; omega)
theorem L_X13_marksFits_2  {l1 : Int32} {Q : Unit → jM → Prop} (N : Nat) (I : Nat → Int32 → jM → Prop) (hN : N < 1000000000) (h : ∀ (k : Nat) (q : Int32 → Int32 → jM → Option (Unit × jM)) (l2 : Int32) (τ : jM), k ≤ N → I k l2 τ → (∀ (k' : Nat) (l2' : Int32) (τ' : jM), k < k' → k' ≤ N → I k' l2' τ' → ok (q l1 l2' τ') Q) → ok (s_X13_marksFits_2  q l1 l2 τ) Q) {k : Nat} {l2 : Int32} {σ : jM} (hk : k ≤ N) (hI : I k l2 σ) : ok (f_X13_marksFits_2  Fu l1 l2 σ) Q := by
  have H : ∀ (n k : Nat) (l2 : Int32) (σ : jM), k ≤ N → I k l2 σ → N < k + n → ok (f_X13_marksFits_2  n l1 l2 σ) Q := by
    intro n
    induction n with
    | zero => intro k l2 σ hk hI hm; omega
    | succ n ih => intro k l2 σ hk hI hm; exact h k (f_X13_marksFits_2  n) l2 σ hk hI (fun k' l2' τ' h1 h2 h3 => ih k' l2' τ' h2 h3 (by omega))
  exact H Fu k l2 σ hk hI (by unfold Fu; omega)
theorem L_X1_settlingSign_10   {Q : Int32 → jM → Prop} (N : Nat) (I : Nat → Int32 → Int32 → Int32 → jM → Prop) (hN : N < 1000000000) (h : ∀ (k : Nat) (q : Int32 → Int32 → Int32 → jM → Option (Int32 × jM)) (l1 : Int32) (l2 : Int32) (l3 : Int32) (τ : jM), k ≤ N → I k l1 l2 l3 τ → (∀ (k' : Nat) (l1' : Int32) (l2' : Int32) (l3' : Int32) (τ' : jM), k < k' → k' ≤ N → I k' l1' l2' l3' τ' → ok (q l1' l2' l3' τ') Q) → ok (s_X1_settlingSign_10  q l1 l2 l3 τ) Q) {k : Nat} {l1 : Int32} {l2 : Int32} {l3 : Int32} {σ : jM} (hk : k ≤ N) (hI : I k l1 l2 l3 σ) : ok (f_X1_settlingSign_10  Fu l1 l2 l3 σ) Q := by
  have H : ∀ (n k : Nat) (l1 : Int32) (l2 : Int32) (l3 : Int32) (σ : jM), k ≤ N → I k l1 l2 l3 σ → N < k + n → ok (f_X1_settlingSign_10  n l1 l2 l3 σ) Q := by
    intro n
    induction n with
    | zero => intro k l1 l2 l3 σ hk hI hm; omega
    | succ n ih => intro k l1 l2 l3 σ hk hI hm; exact h k (f_X1_settlingSign_10  n) l1 l2 l3 σ hk hI (fun k' l1' l2' l3' τ' h1 h2 h3 => ih k' l1' l2' l3' τ' h2 h3 (by omega))
  exact H Fu k l1 l2 l3 σ hk hI (by unfold Fu; omega)
theorem L_X1_countPlaces_23   {Q : Unit → jM → Prop} (N : Nat) (I : Nat → Int32 → jM → Prop) (hN : N < 1000000000) (h : ∀ (k : Nat) (q : Int32 → jM → Option (Unit × jM)) (l1 : Int32) (τ : jM), k ≤ N → I k l1 τ → (∀ (k' : Nat) (l1' : Int32) (τ' : jM), k < k' → k' ≤ N → I k' l1' τ' → ok (q l1' τ') Q) → ok (s_X1_countPlaces_23  q l1 τ) Q) {k : Nat} {l1 : Int32} {σ : jM} (hk : k ≤ N) (hI : I k l1 σ) : ok (f_X1_countPlaces_23  Fu l1 σ) Q := by
  have H : ∀ (n k : Nat) (l1 : Int32) (σ : jM), k ≤ N → I k l1 σ → N < k + n → ok (f_X1_countPlaces_23  n l1 σ) Q := by
    intro n
    induction n with
    | zero => intro k l1 σ hk hI hm; omega
    | succ n ih => intro k l1 σ hk hI hm; exact h k (f_X1_countPlaces_23  n) l1 σ hk hI (fun k' l1' τ' h1 h2 h3 => ih k' l1' τ' h2 h3 (by omega))
  exact H Fu k l1 σ hk hI (by unfold Fu; omega)
theorem L_X1_signRanked_2  {l1 : Int32} {Q : Int32 → jM → Prop} (N : Nat) (I : Nat → Int32 → jM → Prop) (hN : N < 1000000000) (h : ∀ (k : Nat) (q : Int32 → Int32 → jM → Option (Int32 × jM)) (l2 : Int32) (τ : jM), k ≤ N → I k l2 τ → (∀ (k' : Nat) (l2' : Int32) (τ' : jM), k < k' → k' ≤ N → I k' l2' τ' → ok (q l1 l2' τ') Q) → ok (s_X1_signRanked_2  q l1 l2 τ) Q) {k : Nat} {l2 : Int32} {σ : jM} (hk : k ≤ N) (hI : I k l2 σ) : ok (f_X1_signRanked_2  Fu l1 l2 σ) Q := by
  have H : ∀ (n k : Nat) (l2 : Int32) (σ : jM), k ≤ N → I k l2 σ → N < k + n → ok (f_X1_signRanked_2  n l1 l2 σ) Q := by
    intro n
    induction n with
    | zero => intro k l2 σ hk hI hm; omega
    | succ n ih => intro k l2 σ hk hI hm; exact h k (f_X1_signRanked_2  n) l2 σ hk hI (fun k' l2' τ' h1 h2 h3 => ih k' l2' τ' h2 h3 (by omega))
  exact H Fu k l2 σ hk hI (by unfold Fu; omega)
theorem L_X2_weighAll_24  {l1 : Int32} {l2 : Int64} {Q : Unit → jM → Prop} (N : Nat) (I : Nat → Int32 → jM → Prop) (hN : N < 1000000000) (h : ∀ (k : Nat) (q : Int32 → Int64 → Int32 → jM → Option (Unit × jM)) (l4 : Int32) (τ : jM), k ≤ N → I k l4 τ → (∀ (k' : Nat) (l4' : Int32) (τ' : jM), k < k' → k' ≤ N → I k' l4' τ' → ok (q l1 l2 l4' τ') Q) → ok (s_X2_weighAll_24  q l1 l2 l4 τ) Q) {k : Nat} {l4 : Int32} {σ : jM} (hk : k ≤ N) (hI : I k l4 σ) : ok (f_X2_weighAll_24  Fu l1 l2 l4 σ) Q := by
  have H : ∀ (n k : Nat) (l4 : Int32) (σ : jM), k ≤ N → I k l4 σ → N < k + n → ok (f_X2_weighAll_24  n l1 l2 l4 σ) Q := by
    intro n
    induction n with
    | zero => intro k l4 σ hk hI hm; omega
    | succ n ih => intro k l4 σ hk hI hm; exact h k (f_X2_weighAll_24  n) l4 σ hk hI (fun k' l4' τ' h1 h2 h3 => ih k' l4' τ' h2 h3 (by omega))
  exact H Fu k l4 σ hk hI (by unfold Fu; omega)
theorem L_X2_trace_28  {l1 : Int32} {Q : Unit → jM → Prop} (N : Nat) (I : Nat → Int32 → Int32 → jM → Prop) (hN : N < 1000000000) (h : ∀ (k : Nat) (q : Int32 → Int32 → Int32 → jM → Option (Unit × jM)) (l2 : Int32) (l3 : Int32) (τ : jM), k ≤ N → I k l2 l3 τ → (∀ (k' : Nat) (l2' : Int32) (l3' : Int32) (τ' : jM), k < k' → k' ≤ N → I k' l2' l3' τ' → ok (q l1 l2' l3' τ') Q) → ok (s_X2_trace_28  q l1 l2 l3 τ) Q) {k : Nat} {l2 : Int32} {l3 : Int32} {σ : jM} (hk : k ≤ N) (hI : I k l2 l3 σ) : ok (f_X2_trace_28  Fu l1 l2 l3 σ) Q := by
  have H : ∀ (n k : Nat) (l2 : Int32) (l3 : Int32) (σ : jM), k ≤ N → I k l2 l3 σ → N < k + n → ok (f_X2_trace_28  n l1 l2 l3 σ) Q := by
    intro n
    induction n with
    | zero => intro k l2 l3 σ hk hI hm; omega
    | succ n ih => intro k l2 l3 σ hk hI hm; exact h k (f_X2_trace_28  n) l2 l3 σ hk hI (fun k' l2' l3' τ' h1 h2 h3 => ih k' l2' l3' τ' h2 h3 (by omega))
  exact H Fu k l2 l3 σ hk hI (by unfold Fu; omega)
theorem L_X4_gatherRowsOf_2  {l1 : Nat} {Q : Unit → jM → Prop} (N : Nat) (I : Nat → Int32 → jM → Prop) (hN : N < 1000000000) (h : ∀ (k : Nat) (q : Nat → Int32 → jM → Option (Unit × jM)) (l2 : Int32) (τ : jM), k ≤ N → I k l2 τ → (∀ (k' : Nat) (l2' : Int32) (τ' : jM), k < k' → k' ≤ N → I k' l2' τ' → ok (q l1 l2' τ') Q) → ok (s_X4_gatherRowsOf_2  q l1 l2 τ) Q) {k : Nat} {l2 : Int32} {σ : jM} (hk : k ≤ N) (hI : I k l2 σ) : ok (f_X4_gatherRowsOf_2  Fu l1 l2 σ) Q := by
  have H : ∀ (n k : Nat) (l2 : Int32) (σ : jM), k ≤ N → I k l2 σ → N < k + n → ok (f_X4_gatherRowsOf_2  n l1 l2 σ) Q := by
    intro n
    induction n with
    | zero => intro k l2 σ hk hI hm; omega
    | succ n ih => intro k l2 σ hk hI hm; exact h k (f_X4_gatherRowsOf_2  n) l2 σ hk hI (fun k' l2' τ' h1 h2 h3 => ih k' l2' τ' h2 h3 (by omega))
  exact H Fu k l2 σ hk hI (by unfold Fu; omega)
theorem L_X4_compare_62  {l5 : Int32} {l7 : Int32} {l9 : Int32} {l10 : Int32} {Q : Unit → jM → Prop} (N : Nat) (I : Nat → Int32 → jM → Prop) (hN : N < 1000000000) (h : ∀ (k : Nat) (q : Int32 → Int32 → Int32 → Int32 → Int32 → jM → Option (Unit × jM)) (l11 : Int32) (τ : jM), k ≤ N → I k l11 τ → (∀ (k' : Nat) (l11' : Int32) (τ' : jM), k < k' → k' ≤ N → I k' l11' τ' → ok (q l5 l7 l9 l10 l11' τ') Q) → ok (s_X4_compare_62  q l5 l7 l9 l10 l11 τ) Q) {k : Nat} {l11 : Int32} {σ : jM} (hk : k ≤ N) (hI : I k l11 σ) : ok (f_X4_compare_62  Fu l5 l7 l9 l10 l11 σ) Q := by
  have H : ∀ (n k : Nat) (l11 : Int32) (σ : jM), k ≤ N → I k l11 σ → N < k + n → ok (f_X4_compare_62  n l5 l7 l9 l10 l11 σ) Q := by
    intro n
    induction n with
    | zero => intro k l11 σ hk hI hm; omega
    | succ n ih => intro k l11 σ hk hI hm; exact h k (f_X4_compare_62  n) l11 σ hk hI (fun k' l11' τ' h1 h2 h3 => ih k' l11' τ' h2 h3 (by omega))
  exact H Fu k l11 σ hk hI (by unfold Fu; omega)
theorem L_X5_stand_184  {l2 : Nat} {Q : Unit → jM → Prop} (N : Nat) (I : Nat → Int32 → jM → Prop) (hN : N < 1000000000) (h : ∀ (k : Nat) (q : Nat → Int32 → jM → Option (Unit × jM)) (l3 : Int32) (τ : jM), k ≤ N → I k l3 τ → (∀ (k' : Nat) (l3' : Int32) (τ' : jM), k < k' → k' ≤ N → I k' l3' τ' → ok (q l2 l3' τ') Q) → ok (s_X5_stand_184  q l2 l3 τ) Q) {k : Nat} {l3 : Int32} {σ : jM} (hk : k ≤ N) (hI : I k l3 σ) : ok (f_X5_stand_184  Fu l2 l3 σ) Q := by
  have H : ∀ (n k : Nat) (l3 : Int32) (σ : jM), k ≤ N → I k l3 σ → N < k + n → ok (f_X5_stand_184  n l2 l3 σ) Q := by
    intro n
    induction n with
    | zero => intro k l3 σ hk hI hm; omega
    | succ n ih => intro k l3 σ hk hI hm; exact h k (f_X5_stand_184  n) l3 σ hk hI (fun k' l3' τ' h1 h2 h3 => ih k' l3' τ' h2 h3 (by omega))
  exact H Fu k l3 σ hk hI (by unfold Fu; omega)
theorem L_X5_stand_126  {l2 : Nat} {Q : Unit → jM → Prop} (N : Nat) (I : Nat → Int32 → jM → Prop) (hN : N < 1000000000) (h : ∀ (k : Nat) (q : Nat → Int32 → jM → Option (Unit × jM)) (l3 : Int32) (τ : jM), k ≤ N → I k l3 τ → (∀ (k' : Nat) (l3' : Int32) (τ' : jM), k < k' → k' ≤ N → I k' l3' τ' → ok (q l2 l3' τ') Q) → ok (s_X5_stand_126  q l2 l3 τ) Q) {k : Nat} {l3 : Int32} {σ : jM} (hk : k ≤ N) (hI : I k l3 σ) : ok (f_X5_stand_126  Fu l2 l3 σ) Q := by
  have H : ∀ (n k : Nat) (l3 : Int32) (σ : jM), k ≤ N → I k l3 σ → N < k + n → ok (f_X5_stand_126  n l2 l3 σ) Q := by
    intro n
    induction n with
    | zero => intro k l3 σ hk hI hm; omega
    | succ n ih => intro k l3 σ hk hI hm; exact h k (f_X5_stand_126  n) l3 σ hk hI (fun k' l3' τ' h1 h2 h3 => ih k' l3' τ' h2 h3 (by omega))
  exact H Fu k l3 σ hk hI (by unfold Fu; omega)
theorem L_X5_stand_73  {l1 : Int32} {l2 : Nat} {Q : Unit → jM → Prop} (N : Nat) (I : Nat → Int32 → jM → Prop) (hN : N < 1000000000) (h : ∀ (k : Nat) (q : Int32 → Nat → Int32 → jM → Option (Unit × jM)) (l3 : Int32) (τ : jM), k ≤ N → I k l3 τ → (∀ (k' : Nat) (l3' : Int32) (τ' : jM), k < k' → k' ≤ N → I k' l3' τ' → ok (q l1 l2 l3' τ') Q) → ok (s_X5_stand_73  q l1 l2 l3 τ) Q) {k : Nat} {l3 : Int32} {σ : jM} (hk : k ≤ N) (hI : I k l3 σ) : ok (f_X5_stand_73  Fu l1 l2 l3 σ) Q := by
  have H : ∀ (n k : Nat) (l3 : Int32) (σ : jM), k ≤ N → I k l3 σ → N < k + n → ok (f_X5_stand_73  n l1 l2 l3 σ) Q := by
    intro n
    induction n with
    | zero => intro k l3 σ hk hI hm; omega
    | succ n ih => intro k l3 σ hk hI hm; exact h k (f_X5_stand_73  n) l3 σ hk hI (fun k' l3' τ' h1 h2 h3 => ih k' l3' τ' h2 h3 (by omega))
  exact H Fu k l3 σ hk hI (by unfold Fu; omega)
theorem L_X5_stand_10  {l1 : Int32} {l2 : Nat} {Q : Unit → jM → Prop} (N : Nat) (I : Nat → Int32 → jM → Prop) (hN : N < 1000000000) (h : ∀ (k : Nat) (q : Int32 → Nat → Int32 → jM → Option (Unit × jM)) (l3 : Int32) (τ : jM), k ≤ N → I k l3 τ → (∀ (k' : Nat) (l3' : Int32) (τ' : jM), k < k' → k' ≤ N → I k' l3' τ' → ok (q l1 l2 l3' τ') Q) → ok (s_X5_stand_10  q l1 l2 l3 τ) Q) {k : Nat} {l3 : Int32} {σ : jM} (hk : k ≤ N) (hI : I k l3 σ) : ok (f_X5_stand_10  Fu l1 l2 l3 σ) Q := by
  have H : ∀ (n k : Nat) (l3 : Int32) (σ : jM), k ≤ N → I k l3 σ → N < k + n → ok (f_X5_stand_10  n l1 l2 l3 σ) Q := by
    intro n
    induction n with
    | zero => intro k l3 σ hk hI hm; omega
    | succ n ih => intro k l3 σ hk hI hm; exact h k (f_X5_stand_10  n) l3 σ hk hI (fun k' l3' τ' h1 h2 h3 => ih k' l3' τ' h2 h3 (by omega))
  exact H Fu k l3 σ hk hI (by unfold Fu; omega)
theorem L_X7_spell_53  {l0 : Nat} {l2 : Int32} {l3 : Nat} {Q : Int32 → jM → Prop} (N : Nat) (I : Nat → Int32 → Int32 → jM → Prop) (hN : N < 1000000000) (h : ∀ (k : Nat) (q : Nat → Int32 → Nat → Int32 → Int32 → jM → Option (Int32 × jM)) (l4 : Int32) (l5 : Int32) (τ : jM), k ≤ N → I k l4 l5 τ → (∀ (k' : Nat) (l4' : Int32) (l5' : Int32) (τ' : jM), k < k' → k' ≤ N → I k' l4' l5' τ' → ok (q l0 l2 l3 l4' l5' τ') Q) → ok (s_X7_spell_53  q l0 l2 l3 l4 l5 τ) Q) {k : Nat} {l4 : Int32} {l5 : Int32} {σ : jM} (hk : k ≤ N) (hI : I k l4 l5 σ) : ok (f_X7_spell_53  Fu l0 l2 l3 l4 l5 σ) Q := by
  have H : ∀ (n k : Nat) (l4 : Int32) (l5 : Int32) (σ : jM), k ≤ N → I k l4 l5 σ → N < k + n → ok (f_X7_spell_53  n l0 l2 l3 l4 l5 σ) Q := by
    intro n
    induction n with
    | zero => intro k l4 l5 σ hk hI hm; omega
    | succ n ih => intro k l4 l5 σ hk hI hm; exact h k (f_X7_spell_53  n) l4 l5 σ hk hI (fun k' l4' l5' τ' h1 h2 h3 => ih k' l4' l5' τ' h2 h3 (by omega))
  exact H Fu k l4 l5 σ hk hI (by unfold Fu; omega)
theorem L_X7_spell_3  {l0 : Nat} {l1 : Nat} {l2 : Int32} {l3 : Nat} {Q : Int32 → jM → Prop} (N : Nat) (I : Nat → Int32 → jM → Prop) (hN : N < 1000000000) (h : ∀ (k : Nat) (q : Nat → Nat → Int32 → Nat → Int32 → jM → Option (Int32 × jM)) (l4 : Int32) (τ : jM), k ≤ N → I k l4 τ → (∀ (k' : Nat) (l4' : Int32) (τ' : jM), k < k' → k' ≤ N → I k' l4' τ' → ok (q l0 l1 l2 l3 l4' τ') Q) → ok (s_X7_spell_3  q l0 l1 l2 l3 l4 τ) Q) {k : Nat} {l4 : Int32} {σ : jM} (hk : k ≤ N) (hI : I k l4 σ) : ok (f_X7_spell_3  Fu l0 l1 l2 l3 l4 σ) Q := by
  have H : ∀ (n k : Nat) (l4 : Int32) (σ : jM), k ≤ N → I k l4 σ → N < k + n → ok (f_X7_spell_3  n l0 l1 l2 l3 l4 σ) Q := by
    intro n
    induction n with
    | zero => intro k l4 σ hk hI hm; omega
    | succ n ih => intro k l4 σ hk hI hm; exact h k (f_X7_spell_3  n) l4 σ hk hI (fun k' l4' τ' h1 h2 h3 => ih k' l4' τ' h2 h3 (by omega))
  exact H Fu k l4 σ hk hI (by unfold Fu; omega)
theorem L_X8_seatNames_7  {l1 : Int32} {Q : Unit → jM → Prop} (N : Nat) (I : Nat → Int32 → jM → Prop) (hN : N < 1000000000) (h : ∀ (k : Nat) (q : Int32 → Int32 → jM → Option (Unit × jM)) (l2 : Int32) (τ : jM), k ≤ N → I k l2 τ → (∀ (k' : Nat) (l2' : Int32) (τ' : jM), k < k' → k' ≤ N → I k' l2' τ' → ok (q l1 l2' τ') Q) → ok (s_X8_seatNames_7  q l1 l2 τ) Q) {k : Nat} {l2 : Int32} {σ : jM} (hk : k ≤ N) (hI : I k l2 σ) : ok (f_X8_seatNames_7  Fu l1 l2 σ) Q := by
  have H : ∀ (n k : Nat) (l2 : Int32) (σ : jM), k ≤ N → I k l2 σ → N < k + n → ok (f_X8_seatNames_7  n l1 l2 σ) Q := by
    intro n
    induction n with
    | zero => intro k l2 σ hk hI hm; omega
    | succ n ih => intro k l2 σ hk hI hm; exact h k (f_X8_seatNames_7  n) l2 σ hk hI (fun k' l2' τ' h1 h2 h3 => ih k' l2' τ' h2 h3 (by omega))
  exact H Fu k l2 σ hk hI (by unfold Fu; omega)
theorem L_X8_lay_32  {l1 : Int32} {l2 : Int32} {l3 : Nat} {Q : Int32 → jM → Prop} (N : Nat) (I : Nat → Int32 → jM → Prop) (hN : N < 1000000000) (h : ∀ (k : Nat) (q : Int32 → Int32 → Nat → Int32 → jM → Option (Int32 × jM)) (l4 : Int32) (τ : jM), k ≤ N → I k l4 τ → (∀ (k' : Nat) (l4' : Int32) (τ' : jM), k < k' → k' ≤ N → I k' l4' τ' → ok (q l1 l2 l3 l4' τ') Q) → ok (s_X8_lay_32  q l1 l2 l3 l4 τ) Q) {k : Nat} {l4 : Int32} {σ : jM} (hk : k ≤ N) (hI : I k l4 σ) : ok (f_X8_lay_32  Fu l1 l2 l3 l4 σ) Q := by
  have H : ∀ (n k : Nat) (l4 : Int32) (σ : jM), k ≤ N → I k l4 σ → N < k + n → ok (f_X8_lay_32  n l1 l2 l3 l4 σ) Q := by
    intro n
    induction n with
    | zero => intro k l4 σ hk hI hm; omega
    | succ n ih => intro k l4 σ hk hI hm; exact h k (f_X8_lay_32  n) l4 σ hk hI (fun k' l4' τ' h1 h2 h3 => ih k' l4' τ' h2 h3 (by omega))
  exact H Fu k l4 σ hk hI (by unfold Fu; omega)
theorem L_X11_advance_8   {Q : Unit → jM → Prop} (N : Nat) (I : Nat → jM → Prop) (hN : N < 1000000000) (h : ∀ (k : Nat) (q : jM → Option (Unit × jM))  (τ : jM), k ≤ N → I k  τ → (∀ (k' : Nat)  (τ' : jM), k < k' → k' ≤ N → I k'  τ' → ok (q  τ') Q) → ok (s_X11_advance_8  q  τ) Q) {k : Nat}  {σ : jM} (hk : k ≤ N) (hI : I k  σ) : ok (f_X11_advance_8  Fu  σ) Q := by
  have H : ∀ (n k : Nat)  (σ : jM), k ≤ N → I k  σ → N < k + n → ok (f_X11_advance_8  n  σ) Q := by
    intro n
    induction n with
    | zero => intro k  σ hk hI hm; omega
    | succ n ih => intro k  σ hk hI hm; exact h k (f_X11_advance_8  n)  σ hk hI (fun k'  τ' h1 h2 h3 => ih k'  τ' h2 h3 (by omega))
  exact H Fu k  σ hk hI (by unfold Fu; omega)
theorem L_X13_meets_138   {Q : Int32 → jM → Prop} (N : Nat) (I : Nat → Int32 → jM → Prop) (hN : N < 1000000000) (h : ∀ (k : Nat) (q : Int32 → jM → Option (Int32 × jM)) (l4 : Int32) (τ : jM), k ≤ N → I k l4 τ → (∀ (k' : Nat) (l4' : Int32) (τ' : jM), k < k' → k' ≤ N → I k' l4' τ' → ok (q l4' τ') Q) → ok (s_X13_meets_138  q l4 τ) Q) {k : Nat} {l4 : Int32} {σ : jM} (hk : k ≤ N) (hI : I k l4 σ) : ok (f_X13_meets_138  Fu l4 σ) Q := by
  have H : ∀ (n k : Nat) (l4 : Int32) (σ : jM), k ≤ N → I k l4 σ → N < k + n → ok (f_X13_meets_138  n l4 σ) Q := by
    intro n
    induction n with
    | zero => intro k l4 σ hk hI hm; omega
    | succ n ih => intro k l4 σ hk hI hm; exact h k (f_X13_meets_138  n) l4 σ hk hI (fun k' l4' τ' h1 h2 h3 => ih k' l4' τ' h2 h3 (by omega))
  exact H Fu k l4 σ hk hI (by unfold Fu; omega)
theorem L_X13_meets_106  {l3 : Int32} {Q : Int32 → jM → Prop} (N : Nat) (I : Nat → Int32 → jM → Prop) (hN : N < 1000000000) (h : ∀ (k : Nat) (q : Int32 → Int32 → jM → Option (Int32 × jM)) (l4 : Int32) (τ : jM), k ≤ N → I k l4 τ → (∀ (k' : Nat) (l4' : Int32) (τ' : jM), k < k' → k' ≤ N → I k' l4' τ' → ok (q l3 l4' τ') Q) → ok (s_X13_meets_106  q l3 l4 τ) Q) {k : Nat} {l4 : Int32} {σ : jM} (hk : k ≤ N) (hI : I k l4 σ) : ok (f_X13_meets_106  Fu l3 l4 σ) Q := by
  have H : ∀ (n k : Nat) (l4 : Int32) (σ : jM), k ≤ N → I k l4 σ → N < k + n → ok (f_X13_meets_106  n l3 l4 σ) Q := by
    intro n
    induction n with
    | zero => intro k l4 σ hk hI hm; omega
    | succ n ih => intro k l4 σ hk hI hm; exact h k (f_X13_meets_106  n) l4 σ hk hI (fun k' l4' τ' h1 h2 h3 => ih k' l4' τ' h2 h3 (by omega))
  exact H Fu k l4 σ hk hI (by unfold Fu; omega)
theorem L_X13_meets_25  {l1 : Int32} {l3 : Int32} {Q : Int32 → jM → Prop} (N : Nat) (I : Nat → Int32 → jM → Prop) (hN : N < 1000000000) (h : ∀ (k : Nat) (q : Int32 → Int32 → Int32 → jM → Option (Int32 × jM)) (l4 : Int32) (τ : jM), k ≤ N → I k l4 τ → (∀ (k' : Nat) (l4' : Int32) (τ' : jM), k < k' → k' ≤ N → I k' l4' τ' → ok (q l1 l3 l4' τ') Q) → ok (s_X13_meets_25  q l1 l3 l4 τ) Q) {k : Nat} {l4 : Int32} {σ : jM} (hk : k ≤ N) (hI : I k l4 σ) : ok (f_X13_meets_25  Fu l1 l3 l4 σ) Q := by
  have H : ∀ (n k : Nat) (l4 : Int32) (σ : jM), k ≤ N → I k l4 σ → N < k + n → ok (f_X13_meets_25  n l1 l3 l4 σ) Q := by
    intro n
    induction n with
    | zero => intro k l4 σ hk hI hm; omega
    | succ n ih => intro k l4 σ hk hI hm; exact h k (f_X13_meets_25  n) l4 σ hk hI (fun k' l4' τ' h1 h2 h3 => ih k' l4' τ' h2 h3 (by omega))
  exact H Fu k l4 σ hk hI (by unfold Fu; omega)
theorem L_X13_goesThrough_54  {l1 : Int32} {l2 : Int32} {Q : Unit → jM → Prop} (N : Nat) (I : Nat → Int32 → Int32 → jM → Prop) (hN : N < 1000000000) (h : ∀ (k : Nat) (q : Int32 → Int32 → Int32 → Int32 → jM → Option (Unit × jM)) (l3 : Int32) (l4 : Int32) (τ : jM), k ≤ N → I k l3 l4 τ → (∀ (k' : Nat) (l3' : Int32) (l4' : Int32) (τ' : jM), k < k' → k' ≤ N → I k' l3' l4' τ' → ok (q l1 l2 l3' l4' τ') Q) → ok (s_X13_goesThrough_54  q l1 l2 l3 l4 τ) Q) {k : Nat} {l3 : Int32} {l4 : Int32} {σ : jM} (hk : k ≤ N) (hI : I k l3 l4 σ) : ok (f_X13_goesThrough_54  Fu l1 l2 l3 l4 σ) Q := by
  have H : ∀ (n k : Nat) (l3 : Int32) (l4 : Int32) (σ : jM), k ≤ N → I k l3 l4 σ → N < k + n → ok (f_X13_goesThrough_54  n l1 l2 l3 l4 σ) Q := by
    intro n
    induction n with
    | zero => intro k l3 l4 σ hk hI hm; omega
    | succ n ih => intro k l3 l4 σ hk hI hm; exact h k (f_X13_goesThrough_54  n) l3 l4 σ hk hI (fun k' l3' l4' τ' h1 h2 h3 => ih k' l3' l4' τ' h2 h3 (by omega))
  exact H Fu k l3 l4 σ hk hI (by unfold Fu; omega)
theorem L_X13_goesThrough_7  {l1 : Int32} {l2 : Int32} {Q : Unit → jM → Prop} (N : Nat) (I : Nat → Int32 → jM → Prop) (hN : N < 1000000000) (h : ∀ (k : Nat) (q : Int32 → Int32 → Int32 → jM → Option (Unit × jM)) (l3 : Int32) (τ : jM), k ≤ N → I k l3 τ → (∀ (k' : Nat) (l3' : Int32) (τ' : jM), k < k' → k' ≤ N → I k' l3' τ' → ok (q l1 l2 l3' τ') Q) → ok (s_X13_goesThrough_7  q l1 l2 l3 τ) Q) {k : Nat} {l3 : Int32} {σ : jM} (hk : k ≤ N) (hI : I k l3 σ) : ok (f_X13_goesThrough_7  Fu l1 l2 l3 σ) Q := by
  have H : ∀ (n k : Nat) (l3 : Int32) (σ : jM), k ≤ N → I k l3 σ → N < k + n → ok (f_X13_goesThrough_7  n l1 l2 l3 σ) Q := by
    intro n
    induction n with
    | zero => intro k l3 σ hk hI hm; omega
    | succ n ih => intro k l3 σ hk hI hm; exact h k (f_X13_goesThrough_7  n) l3 σ hk hI (fun k' l3' τ' h1 h2 h3 => ih k' l3' τ' h2 h3 (by omega))
  exact H Fu k l3 σ hk hI (by unfold Fu; omega)
theorem L_X13_findAll_8  {l1 : Int32} {Q : Unit → jM → Prop} (N : Nat) (I : Nat → Int32 → jM → Prop) (hN : N < 1000000000) (h : ∀ (k : Nat) (q : Int32 → Int32 → jM → Option (Unit × jM)) (l2 : Int32) (τ : jM), k ≤ N → I k l2 τ → (∀ (k' : Nat) (l2' : Int32) (τ' : jM), k < k' → k' ≤ N → I k' l2' τ' → ok (q l1 l2' τ') Q) → ok (s_X13_findAll_8  q l1 l2 τ) Q) {k : Nat} {l2 : Int32} {σ : jM} (hk : k ≤ N) (hI : I k l2 σ) : ok (f_X13_findAll_8  Fu l1 l2 σ) Q := by
  have H : ∀ (n k : Nat) (l2 : Int32) (σ : jM), k ≤ N → I k l2 σ → N < k + n → ok (f_X13_findAll_8  n l1 l2 σ) Q := by
    intro n
    induction n with
    | zero => intro k l2 σ hk hI hm; omega
    | succ n ih => intro k l2 σ hk hI hm; exact h k (f_X13_findAll_8  n) l2 σ hk hI (fun k' l2' τ' h1 h2 h3 => ih k' l2' τ' h2 h3 (by omega))
  exact H Fu k l2 σ hk hI (by unfold Fu; omega)
theorem L_X13_way_45  {l3 : Int32} {Q : Int32 → jM → Prop} (N : Nat) (I : Nat → Int32 → jM → Prop) (hN : N < 1000000000) (h : ∀ (k : Nat) (q : Int32 → Int32 → jM → Option (Int32 × jM)) (l4 : Int32) (τ : jM), k ≤ N → I k l4 τ → (∀ (k' : Nat) (l4' : Int32) (τ' : jM), k < k' → k' ≤ N → I k' l4' τ' → ok (q l3 l4' τ') Q) → ok (s_X13_way_45  q l3 l4 τ) Q) {k : Nat} {l4 : Int32} {σ : jM} (hk : k ≤ N) (hI : I k l4 σ) : ok (f_X13_way_45  Fu l3 l4 σ) Q := by
  have H : ∀ (n k : Nat) (l4 : Int32) (σ : jM), k ≤ N → I k l4 σ → N < k + n → ok (f_X13_way_45  n l3 l4 σ) Q := by
    intro n
    induction n with
    | zero => intro k l4 σ hk hI hm; omega
    | succ n ih => intro k l4 σ hk hI hm; exact h k (f_X13_way_45  n) l4 σ hk hI (fun k' l4' τ' h1 h2 h3 => ih k' l4' τ' h2 h3 (by omega))
  exact H Fu k l4 σ hk hI (by unfold Fu; omega)
theorem L_X13_reads_66  {l4 : Int32} {Q : Int32 → jM → Prop} (N : Nat) (I : Nat → Int32 → jM → Prop) (hN : N < 1000000000) (h : ∀ (k : Nat) (q : Int32 → Int32 → jM → Option (Int32 × jM)) (l5 : Int32) (τ : jM), k ≤ N → I k l5 τ → (∀ (k' : Nat) (l5' : Int32) (τ' : jM), k < k' → k' ≤ N → I k' l5' τ' → ok (q l4 l5' τ') Q) → ok (s_X13_reads_66  q l4 l5 τ) Q) {k : Nat} {l5 : Int32} {σ : jM} (hk : k ≤ N) (hI : I k l5 σ) : ok (f_X13_reads_66  Fu l4 l5 σ) Q := by
  have H : ∀ (n k : Nat) (l5 : Int32) (σ : jM), k ≤ N → I k l5 σ → N < k + n → ok (f_X13_reads_66  n l4 l5 σ) Q := by
    intro n
    induction n with
    | zero => intro k l5 σ hk hI hm; omega
    | succ n ih => intro k l5 σ hk hI hm; exact h k (f_X13_reads_66  n) l5 σ hk hI (fun k' l5' τ' h1 h2 h3 => ih k' l5' τ' h2 h3 (by omega))
  exact H Fu k l5 σ hk hI (by unfold Fu; omega)
theorem L_X13_settles_74 {rec46 : Int32 → Int32 → Int32 → Int32 → jM → Option (Int32 × jM)} {l2 : Int32} {l3 : Int32} {l4 : Int32} {l5 : Int32} {Q : Int32 → jM → Prop} (N : Nat) (I : Nat → Int32 → Int32 → jM → Prop) (hN : N < 1000000000) (h : ∀ (k : Nat) (q : Int32 → Int32 → Int32 → Int32 → Int32 → Int32 → jM → Option (Int32 × jM)) (l6 : Int32) (l7 : Int32) (τ : jM), k ≤ N → I k l6 l7 τ → (∀ (k' : Nat) (l6' : Int32) (l7' : Int32) (τ' : jM), k < k' → k' ≤ N → I k' l6' l7' τ' → ok (q l2 l3 l4 l5 l6' l7' τ') Q) → ok (s_X13_settles_74 rec46 q l2 l3 l4 l5 l6 l7 τ) Q) {k : Nat} {l6 : Int32} {l7 : Int32} {σ : jM} (hk : k ≤ N) (hI : I k l6 l7 σ) : ok (f_X13_settles_74 rec46 Fu l2 l3 l4 l5 l6 l7 σ) Q := by
  have H : ∀ (n k : Nat) (l6 : Int32) (l7 : Int32) (σ : jM), k ≤ N → I k l6 l7 σ → N < k + n → ok (f_X13_settles_74 rec46 n l2 l3 l4 l5 l6 l7 σ) Q := by
    intro n
    induction n with
    | zero => intro k l6 l7 σ hk hI hm; omega
    | succ n ih => intro k l6 l7 σ hk hI hm; exact h k (f_X13_settles_74 rec46 n) l6 l7 σ hk hI (fun k' l6' l7' τ' h1 h2 h3 => ih k' l6' l7' τ' h2 h3 (by omega))
  exact H Fu k l6 l7 σ hk hI (by unfold Fu; omega)
theorem L_X13_settles_46  {l2 : Int32} {Q : Int32 → jM → Prop} (N : Nat) (I : Nat → Int32 → Int32 → Int32 → jM → Prop) (hN : N < 1000000000) (h : ∀ (k : Nat) (q : Int32 → Int32 → Int32 → Int32 → jM → Option (Int32 × jM)) (l3 : Int32) (l4 : Int32) (l5 : Int32) (τ : jM), k ≤ N → I k l3 l4 l5 τ → (∀ (k' : Nat) (l3' : Int32) (l4' : Int32) (l5' : Int32) (τ' : jM), k < k' → k' ≤ N → I k' l3' l4' l5' τ' → ok (q l2 l3' l4' l5' τ') Q) → ok (s_X13_settles_46  q l2 l3 l4 l5 τ) Q) {k : Nat} {l3 : Int32} {l4 : Int32} {l5 : Int32} {σ : jM} (hk : k ≤ N) (hI : I k l3 l4 l5 σ) : ok (f_X13_settles_46  Fu l2 l3 l4 l5 σ) Q := by
  have H : ∀ (n k : Nat) (l3 : Int32) (l4 : Int32) (l5 : Int32) (σ : jM), k ≤ N → I k l3 l4 l5 σ → N < k + n → ok (f_X13_settles_46  n l2 l3 l4 l5 σ) Q := by
    intro n
    induction n with
    | zero => intro k l3 l4 l5 σ hk hI hm; omega
    | succ n ih => intro k l3 l4 l5 σ hk hI hm; exact h k (f_X13_settles_46  n) l3 l4 l5 σ hk hI (fun k' l3' l4' l5' τ' h1 h2 h3 => ih k' l3' l4' l5' τ' h2 h3 (by omega))
  exact H Fu k l3 l4 l5 σ hk hI (by unfold Fu; omega)
theorem L_X13_fits_74   {Q : Int32 → jM → Prop} (N : Nat) (I : Nat → Int32 → Int32 → jM → Prop) (hN : N < 1000000000) (h : ∀ (k : Nat) (q : Int32 → Int32 → jM → Option (Int32 × jM)) (l2 : Int32) (l3 : Int32) (τ : jM), k ≤ N → I k l2 l3 τ → (∀ (k' : Nat) (l2' : Int32) (l3' : Int32) (τ' : jM), k < k' → k' ≤ N → I k' l2' l3' τ' → ok (q l2' l3' τ') Q) → ok (s_X13_fits_74  q l2 l3 τ) Q) {k : Nat} {l2 : Int32} {l3 : Int32} {σ : jM} (hk : k ≤ N) (hI : I k l2 l3 σ) : ok (f_X13_fits_74  Fu l2 l3 σ) Q := by
  have H : ∀ (n k : Nat) (l2 : Int32) (l3 : Int32) (σ : jM), k ≤ N → I k l2 l3 σ → N < k + n → ok (f_X13_fits_74  n l2 l3 σ) Q := by
    intro n
    induction n with
    | zero => intro k l2 l3 σ hk hI hm; omega
    | succ n ih => intro k l2 l3 σ hk hI hm; exact h k (f_X13_fits_74  n) l2 l3 σ hk hI (fun k' l2' l3' τ' h1 h2 h3 => ih k' l2' l3' τ' h2 h3 (by omega))
  exact H Fu k l2 l3 σ hk hI (by unfold Fu; omega)
theorem L_X13_fits_44  {l1 : Int32} {Q : Int32 → jM → Prop} (N : Nat) (I : Nat → Int32 → jM → Prop) (hN : N < 1000000000) (h : ∀ (k : Nat) (q : Int32 → Int32 → jM → Option (Int32 × jM)) (l2 : Int32) (τ : jM), k ≤ N → I k l2 τ → (∀ (k' : Nat) (l2' : Int32) (τ' : jM), k < k' → k' ≤ N → I k' l2' τ' → ok (q l1 l2' τ') Q) → ok (s_X13_fits_44  q l1 l2 τ) Q) {k : Nat} {l2 : Int32} {σ : jM} (hk : k ≤ N) (hI : I k l2 σ) : ok (f_X13_fits_44  Fu l1 l2 σ) Q := by
  have H : ∀ (n k : Nat) (l2 : Int32) (σ : jM), k ≤ N → I k l2 σ → N < k + n → ok (f_X13_fits_44  n l1 l2 σ) Q := by
    intro n
    induction n with
    | zero => intro k l2 σ hk hI hm; omega
    | succ n ih => intro k l2 σ hk hI hm; exact h k (f_X13_fits_44  n) l2 σ hk hI (fun k' l2' τ' h1 h2 h3 => ih k' l2' τ' h2 h3 (by omega))
  exact H Fu k l2 σ hk hI (by unfold Fu; omega)
theorem L_X13_doubt_74 {rec64 : Int32 → Int32 → Int32 → Int32 → jM → Option (Int32 × jM)} {l1 : Int32} {l2 : Int32} {l3 : Int32} {l4 : Int32} {Q : Int32 → jM → Prop} (N : Nat) (I : Nat → Int32 → jM → Prop) (hN : N < 1000000000) (h : ∀ (k : Nat) (q : Int32 → Int32 → Int32 → Int32 → Int32 → jM → Option (Int32 × jM)) (l5 : Int32) (τ : jM), k ≤ N → I k l5 τ → (∀ (k' : Nat) (l5' : Int32) (τ' : jM), k < k' → k' ≤ N → I k' l5' τ' → ok (q l1 l2 l3 l4 l5' τ') Q) → ok (s_X13_doubt_74 rec64 q l1 l2 l3 l4 l5 τ) Q) {k : Nat} {l5 : Int32} {σ : jM} (hk : k ≤ N) (hI : I k l5 σ) : ok (f_X13_doubt_74 rec64 Fu l1 l2 l3 l4 l5 σ) Q := by
  have H : ∀ (n k : Nat) (l5 : Int32) (σ : jM), k ≤ N → I k l5 σ → N < k + n → ok (f_X13_doubt_74 rec64 n l1 l2 l3 l4 l5 σ) Q := by
    intro n
    induction n with
    | zero => intro k l5 σ hk hI hm; omega
    | succ n ih => intro k l5 σ hk hI hm; exact h k (f_X13_doubt_74 rec64 n) l5 σ hk hI (fun k' l5' τ' h1 h2 h3 => ih k' l5' τ' h2 h3 (by omega))
  exact H Fu k l5 σ hk hI (by unfold Fu; omega)
theorem L_X13_doubt_64  {l1 : Int32} {l2 : Int32} {l3 : Int32} {Q : Int32 → jM → Prop} (N : Nat) (I : Nat → Int32 → jM → Prop) (hN : N < 1000000000) (h : ∀ (k : Nat) (q : Int32 → Int32 → Int32 → Int32 → jM → Option (Int32 × jM)) (l4 : Int32) (τ : jM), k ≤ N → I k l4 τ → (∀ (k' : Nat) (l4' : Int32) (τ' : jM), k < k' → k' ≤ N → I k' l4' τ' → ok (q l1 l2 l3 l4' τ') Q) → ok (s_X13_doubt_64  q l1 l2 l3 l4 τ) Q) {k : Nat} {l4 : Int32} {σ : jM} (hk : k ≤ N) (hI : I k l4 σ) : ok (f_X13_doubt_64  Fu l1 l2 l3 l4 σ) Q := by
  have H : ∀ (n k : Nat) (l4 : Int32) (σ : jM), k ≤ N → I k l4 σ → N < k + n → ok (f_X13_doubt_64  n l1 l2 l3 l4 σ) Q := by
    intro n
    induction n with
    | zero => intro k l4 σ hk hI hm; omega
    | succ n ih => intro k l4 σ hk hI hm; exact h k (f_X13_doubt_64  n) l4 σ hk hI (fun k' l4' τ' h1 h2 h3 => ih k' l4' τ' h2 h3 (by omega))
  exact H Fu k l4 σ hk hI (by unfold Fu; omega)
theorem L_X13_doubt_29  {l1 : Int32} {l2 : Int32} {Q : Int32 → jM → Prop} (N : Nat) (I : Nat → Int32 → Int32 → jM → Prop) (hN : N < 1000000000) (h : ∀ (k : Nat) (q : Int32 → Int32 → Int32 → Int32 → jM → Option (Int32 × jM)) (l3 : Int32) (l4 : Int32) (τ : jM), k ≤ N → I k l3 l4 τ → (∀ (k' : Nat) (l3' : Int32) (l4' : Int32) (τ' : jM), k < k' → k' ≤ N → I k' l3' l4' τ' → ok (q l1 l2 l3' l4' τ') Q) → ok (s_X13_doubt_29  q l1 l2 l3 l4 τ) Q) {k : Nat} {l3 : Int32} {l4 : Int32} {σ : jM} (hk : k ≤ N) (hI : I k l3 l4 σ) : ok (f_X13_doubt_29  Fu l1 l2 l3 l4 σ) Q := by
  have H : ∀ (n k : Nat) (l3 : Int32) (l4 : Int32) (σ : jM), k ≤ N → I k l3 l4 σ → N < k + n → ok (f_X13_doubt_29  n l1 l2 l3 l4 σ) Q := by
    intro n
    induction n with
    | zero => intro k l3 l4 σ hk hI hm; omega
    | succ n ih => intro k l3 l4 σ hk hI hm; exact h k (f_X13_doubt_29  n) l3 l4 σ hk hI (fun k' l3' l4' τ' h1 h2 h3 => ih k' l3' l4' τ' h2 h3 (by omega))
  exact H Fu k l3 l4 σ hk hI (by unfold Fu; omega)
theorem L_X13_could_47  {l2 : Int32} {l4 : Int32} {Q : Int32 → jM → Prop} (N : Nat) (I : Nat → Int32 → Int32 → jM → Prop) (hN : N < 1000000000) (h : ∀ (k : Nat) (q : Int32 → Int32 → Int32 → Int32 → jM → Option (Int32 × jM)) (l5 : Int32) (l6 : Int32) (τ : jM), k ≤ N → I k l5 l6 τ → (∀ (k' : Nat) (l5' : Int32) (l6' : Int32) (τ' : jM), k < k' → k' ≤ N → I k' l5' l6' τ' → ok (q l2 l4 l5' l6' τ') Q) → ok (s_X13_could_47  q l2 l4 l5 l6 τ) Q) {k : Nat} {l5 : Int32} {l6 : Int32} {σ : jM} (hk : k ≤ N) (hI : I k l5 l6 σ) : ok (f_X13_could_47  Fu l2 l4 l5 l6 σ) Q := by
  have H : ∀ (n k : Nat) (l5 : Int32) (l6 : Int32) (σ : jM), k ≤ N → I k l5 l6 σ → N < k + n → ok (f_X13_could_47  n l2 l4 l5 l6 σ) Q := by
    intro n
    induction n with
    | zero => intro k l5 l6 σ hk hI hm; omega
    | succ n ih => intro k l5 l6 σ hk hI hm; exact h k (f_X13_could_47  n) l5 l6 σ hk hI (fun k' l5' l6' τ' h1 h2 h3 => ih k' l5' l6' τ' h2 h3 (by omega))
  exact H Fu k l5 l6 σ hk hI (by unfold Fu; omega)
theorem L_X13_inGrid_33  {l2 : Int32} {Q : Int32 → jM → Prop} (N : Nat) (I : Nat → Int32 → jM → Prop) (hN : N < 1000000000) (h : ∀ (k : Nat) (q : Int32 → Int32 → jM → Option (Int32 × jM)) (l3 : Int32) (τ : jM), k ≤ N → I k l3 τ → (∀ (k' : Nat) (l3' : Int32) (τ' : jM), k < k' → k' ≤ N → I k' l3' τ' → ok (q l2 l3' τ') Q) → ok (s_X13_inGrid_33  q l2 l3 τ) Q) {k : Nat} {l3 : Int32} {σ : jM} (hk : k ≤ N) (hI : I k l3 σ) : ok (f_X13_inGrid_33  Fu l2 l3 σ) Q := by
  have H : ∀ (n k : Nat) (l3 : Int32) (σ : jM), k ≤ N → I k l3 σ → N < k + n → ok (f_X13_inGrid_33  n l2 l3 σ) Q := by
    intro n
    induction n with
    | zero => intro k l3 σ hk hI hm; omega
    | succ n ih => intro k l3 σ hk hI hm; exact h k (f_X13_inGrid_33  n) l3 σ hk hI (fun k' l3' τ' h1 h2 h3 => ih k' l3' τ' h2 h3 (by omega))
  exact H Fu k l3 σ hk hI (by unfold Fu; omega)
theorem L_X13_where_36  {l1 : Int32} {Q : Int32 → jM → Prop} (N : Nat) (I : Nat → Int32 → Int32 → Int32 → jM → Prop) (hN : N < 1000000000) (h : ∀ (k : Nat) (q : Int32 → Int32 → Int32 → Int32 → jM → Option (Int32 × jM)) (l2 : Int32) (l3 : Int32) (l4 : Int32) (τ : jM), k ≤ N → I k l2 l3 l4 τ → (∀ (k' : Nat) (l2' : Int32) (l3' : Int32) (l4' : Int32) (τ' : jM), k < k' → k' ≤ N → I k' l2' l3' l4' τ' → ok (q l1 l2' l3' l4' τ') Q) → ok (s_X13_where_36  q l1 l2 l3 l4 τ) Q) {k : Nat} {l2 : Int32} {l3 : Int32} {l4 : Int32} {σ : jM} (hk : k ≤ N) (hI : I k l2 l3 l4 σ) : ok (f_X13_where_36  Fu l1 l2 l3 l4 σ) Q := by
  have H : ∀ (n k : Nat) (l2 : Int32) (l3 : Int32) (l4 : Int32) (σ : jM), k ≤ N → I k l2 l3 l4 σ → N < k + n → ok (f_X13_where_36  n l1 l2 l3 l4 σ) Q := by
    intro n
    induction n with
    | zero => intro k l2 l3 l4 σ hk hI hm; omega
    | succ n ih => intro k l2 l3 l4 σ hk hI hm; exact h k (f_X13_where_36  n) l2 l3 l4 σ hk hI (fun k' l2' l3' l4' τ' h1 h2 h3 => ih k' l2' l3' l4' τ' h2 h3 (by omega))
  exact H Fu k l2 l3 l4 σ hk hI (by unfold Fu; omega)
theorem L_X0_look_15  {l1 : Int32} {Q : Unit → jM → Prop} (N : Nat) (I : Nat → Int32 → jM → Prop) (hN : N < 1000000000) (h : ∀ (k : Nat) (q : Int32 → Int32 → jM → Option (Unit × jM)) (l2 : Int32) (τ : jM), k ≤ N → I k l2 τ → (∀ (k' : Nat) (l2' : Int32) (τ' : jM), k < k' → k' ≤ N → I k' l2' τ' → ok (q l1 l2' τ') Q) → ok (s_X0_look_15  q l1 l2 τ) Q) {k : Nat} {l2 : Int32} {σ : jM} (hk : k ≤ N) (hI : I k l2 σ) : ok (f_X0_look_15  Fu l1 l2 σ) Q := by
  have H : ∀ (n k : Nat) (l2 : Int32) (σ : jM), k ≤ N → I k l2 σ → N < k + n → ok (f_X0_look_15  n l1 l2 σ) Q := by
    intro n
    induction n with
    | zero => intro k l2 σ hk hI hm; omega
    | succ n ih => intro k l2 σ hk hI hm; exact h k (f_X0_look_15  n) l2 σ hk hI (fun k' l2' τ' h1 h2 h3 => ih k' l2' τ' h2 h3 (by omega))
  exact H Fu k l2 σ hk hI (by unfold Fu; omega)
theorem L_X2_make_60   {Q : Unit → jM → Prop} (N : Nat) (I : Nat → Int32 → jM → Prop) (hN : N < 1000000000) (h : ∀ (k : Nat) (q : Int32 → jM → Option (Unit × jM)) (l1 : Int32) (τ : jM), k ≤ N → I k l1 τ → (∀ (k' : Nat) (l1' : Int32) (τ' : jM), k < k' → k' ≤ N → I k' l1' τ' → ok (q l1' τ') Q) → ok (s_X2_make_60  q l1 τ) Q) {k : Nat} {l1 : Int32} {σ : jM} (hk : k ≤ N) (hI : I k l1 σ) : ok (f_X2_make_60  Fu l1 σ) Q := by
  have H : ∀ (n k : Nat) (l1 : Int32) (σ : jM), k ≤ N → I k l1 σ → N < k + n → ok (f_X2_make_60  n l1 σ) Q := by
    intro n
    induction n with
    | zero => intro k l1 σ hk hI hm; omega
    | succ n ih => intro k l1 σ hk hI hm; exact h k (f_X2_make_60  n) l1 σ hk hI (fun k' l1' τ' h1 h2 h3 => ih k' l1' τ' h2 h3 (by omega))
  exact H Fu k l1 σ hk hI (by unfold Fu; omega)
theorem L_X2_make_25   {Q : Unit → jM → Prop} (N : Nat) (I : Nat → Int32 → jM → Prop) (hN : N < 1000000000) (h : ∀ (k : Nat) (q : Int32 → jM → Option (Unit × jM)) (l1 : Int32) (τ : jM), k ≤ N → I k l1 τ → (∀ (k' : Nat) (l1' : Int32) (τ' : jM), k < k' → k' ≤ N → I k' l1' τ' → ok (q l1' τ') Q) → ok (s_X2_make_25  q l1 τ) Q) {k : Nat} {l1 : Int32} {σ : jM} (hk : k ≤ N) (hI : I k l1 σ) : ok (f_X2_make_25  Fu l1 σ) Q := by
  have H : ∀ (n k : Nat) (l1 : Int32) (σ : jM), k ≤ N → I k l1 σ → N < k + n → ok (f_X2_make_25  n l1 σ) Q := by
    intro n
    induction n with
    | zero => intro k l1 σ hk hI hm; omega
    | succ n ih => intro k l1 σ hk hI hm; exact h k (f_X2_make_25  n) l1 σ hk hI (fun k' l1' τ' h1 h2 h3 => ih k' l1' τ' h2 h3 (by omega))
  exact H Fu k l1 σ hk hI (by unfold Fu; omega)
theorem L_X4_gatherRows_7   {Q : Unit → jM → Prop} (N : Nat) (I : Nat → Int32 → jM → Prop) (hN : N < 1000000000) (h : ∀ (k : Nat) (q : Int32 → jM → Option (Unit × jM)) (l1 : Int32) (τ : jM), k ≤ N → I k l1 τ → (∀ (k' : Nat) (l1' : Int32) (τ' : jM), k < k' → k' ≤ N → I k' l1' τ' → ok (q l1' τ') Q) → ok (s_X4_gatherRows_7  q l1 τ) Q) {k : Nat} {l1 : Int32} {σ : jM} (hk : k ≤ N) (hI : I k l1 σ) : ok (f_X4_gatherRows_7  Fu l1 σ) Q := by
  have H : ∀ (n k : Nat) (l1 : Int32) (σ : jM), k ≤ N → I k l1 σ → N < k + n → ok (f_X4_gatherRows_7  n l1 σ) Q := by
    intro n
    induction n with
    | zero => intro k l1 σ hk hI hm; omega
    | succ n ih => intro k l1 σ hk hI hm; exact h k (f_X4_gatherRows_7  n) l1 σ hk hI (fun k' l1' τ' h1 h2 h3 => ih k' l1' τ' h2 h3 (by omega))
  exact H Fu k l1 σ hk hI (by unfold Fu; omega)
theorem L_X4_linkByClauses_44 {rec34 : Int32 → jM → Option (Unit × jM)} {l1 : Int32} {Q : Unit → jM → Prop} (N : Nat) (I : Nat → Int32 → jM → Prop) (hN : N < 1000000000) (h : ∀ (k : Nat) (q : Int32 → Int32 → jM → Option (Unit × jM)) (l2 : Int32) (τ : jM), k ≤ N → I k l2 τ → (∀ (k' : Nat) (l2' : Int32) (τ' : jM), k < k' → k' ≤ N → I k' l2' τ' → ok (q l1 l2' τ') Q) → ok (s_X4_linkByClauses_44 rec34 q l1 l2 τ) Q) {k : Nat} {l2 : Int32} {σ : jM} (hk : k ≤ N) (hI : I k l2 σ) : ok (f_X4_linkByClauses_44 rec34 Fu l1 l2 σ) Q := by
  have H : ∀ (n k : Nat) (l2 : Int32) (σ : jM), k ≤ N → I k l2 σ → N < k + n → ok (f_X4_linkByClauses_44 rec34 n l1 l2 σ) Q := by
    intro n
    induction n with
    | zero => intro k l2 σ hk hI hm; omega
    | succ n ih => intro k l2 σ hk hI hm; exact h k (f_X4_linkByClauses_44 rec34 n) l2 σ hk hI (fun k' l2' τ' h1 h2 h3 => ih k' l2' τ' h2 h3 (by omega))
  exact H Fu k l2 σ hk hI (by unfold Fu; omega)
theorem L_X4_linkByClauses_34   {Q : Unit → jM → Prop} (N : Nat) (I : Nat → Int32 → jM → Prop) (hN : N < 1000000000) (h : ∀ (k : Nat) (q : Int32 → jM → Option (Unit × jM)) (l1 : Int32) (τ : jM), k ≤ N → I k l1 τ → (∀ (k' : Nat) (l1' : Int32) (τ' : jM), k < k' → k' ≤ N → I k' l1' τ' → ok (q l1' τ') Q) → ok (s_X4_linkByClauses_34  q l1 τ) Q) {k : Nat} {l1 : Int32} {σ : jM} (hk : k ≤ N) (hI : I k l1 σ) : ok (f_X4_linkByClauses_34  Fu l1 σ) Q := by
  have H : ∀ (n k : Nat) (l1 : Int32) (σ : jM), k ≤ N → I k l1 σ → N < k + n → ok (f_X4_linkByClauses_34  n l1 σ) Q := by
    intro n
    induction n with
    | zero => intro k l1 σ hk hI hm; omega
    | succ n ih => intro k l1 σ hk hI hm; exact h k (f_X4_linkByClauses_34  n) l1 σ hk hI (fun k' l1' τ' h1 h2 h3 => ih k' l1' τ' h2 h3 (by omega))
  exact H Fu k l1 σ hk hI (by unfold Fu; omega)
theorem L_X4_linkByClauses_2   {Q : Unit → jM → Prop} (N : Nat) (I : Nat → Int32 → jM → Prop) (hN : N < 1000000000) (h : ∀ (k : Nat) (q : Int32 → jM → Option (Unit × jM)) (l1 : Int32) (τ : jM), k ≤ N → I k l1 τ → (∀ (k' : Nat) (l1' : Int32) (τ' : jM), k < k' → k' ≤ N → I k' l1' τ' → ok (q l1' τ') Q) → ok (s_X4_linkByClauses_2  q l1 τ) Q) {k : Nat} {l1 : Int32} {σ : jM} (hk : k ≤ N) (hI : I k l1 σ) : ok (f_X4_linkByClauses_2  Fu l1 σ) Q := by
  have H : ∀ (n k : Nat) (l1 : Int32) (σ : jM), k ≤ N → I k l1 σ → N < k + n → ok (f_X4_linkByClauses_2  n l1 σ) Q := by
    intro n
    induction n with
    | zero => intro k l1 σ hk hI hm; omega
    | succ n ih => intro k l1 σ hk hI hm; exact h k (f_X4_linkByClauses_2  n) l1 σ hk hI (fun k' l1' τ' h1 h2 h3 => ih k' l1' τ' h2 h3 (by omega))
  exact H Fu k l1 σ hk hI (by unfold Fu; omega)
theorem L_X8_descend_55 {self : Int32 → jM → Option (Int32 × jM)} {l1 : Int32} {l2 : Int32} {Q : Int32 → jM → Prop} (N : Nat) (I : Nat → Int32 → jM → Prop) (hN : N < 1000000000) (h : ∀ (k : Nat) (q : Int32 → Int32 → Int32 → jM → Option (Int32 × jM)) (l3 : Int32) (τ : jM), k ≤ N → I k l3 τ → (∀ (k' : Nat) (l3' : Int32) (τ' : jM), k < k' → k' ≤ N → I k' l3' τ' → ok (q l1 l2 l3' τ') Q) → ok (s_X8_descend_55 self q l1 l2 l3 τ) Q) {k : Nat} {l3 : Int32} {σ : jM} (hk : k ≤ N) (hI : I k l3 σ) : ok (f_X8_descend_55 self Fu l1 l2 l3 σ) Q := by
  have H : ∀ (n k : Nat) (l3 : Int32) (σ : jM), k ≤ N → I k l3 σ → N < k + n → ok (f_X8_descend_55 self n l1 l2 l3 σ) Q := by
    intro n
    induction n with
    | zero => intro k l3 σ hk hI hm; omega
    | succ n ih => intro k l3 σ hk hI hm; exact h k (f_X8_descend_55 self n) l3 σ hk hI (fun k' l3' τ' h1 h2 h3 => ih k' l3' τ' h2 h3 (by omega))
  exact H Fu k l3 σ hk hI (by unfold Fu; omega)
theorem L_X11_readRow_2  {l1 : Nat} {l2 : Int32} {Q : Int32 → jM → Prop} (N : Nat) (I : Nat → Int32 → jM → Prop) (hN : N < 1000000000) (h : ∀ (k : Nat) (q : Nat → Int32 → Int32 → jM → Option (Int32 × jM)) (l3 : Int32) (τ : jM), k ≤ N → I k l3 τ → (∀ (k' : Nat) (l3' : Int32) (τ' : jM), k < k' → k' ≤ N → I k' l3' τ' → ok (q l1 l2 l3' τ') Q) → ok (s_X11_readRow_2  q l1 l2 l3 τ) Q) {k : Nat} {l3 : Int32} {σ : jM} (hk : k ≤ N) (hI : I k l3 σ) : ok (f_X11_readRow_2  Fu l1 l2 l3 σ) Q := by
  have H : ∀ (n k : Nat) (l3 : Int32) (σ : jM), k ≤ N → I k l3 σ → N < k + n → ok (f_X11_readRow_2  n l1 l2 l3 σ) Q := by
    intro n
    induction n with
    | zero => intro k l3 σ hk hI hm; omega
    | succ n ih => intro k l3 σ hk hI hm; exact h k (f_X11_readRow_2  n) l3 σ hk hI (fun k' l3' τ' h1 h2 h3 => ih k' l3' τ' h2 h3 (by omega))
  exact H Fu k l3 σ hk hI (by unfold Fu; omega)
theorem L_X4_make_67 {rec60 : Int32 → jM → Option (Unit × jM)} {l1 : Int32} {Q : Unit → jM → Prop} (N : Nat) (I : Nat → Int32 → jM → Prop) (hN : N < 1000000000) (h : ∀ (k : Nat) (q : Int32 → Int32 → jM → Option (Unit × jM)) (l2 : Int32) (τ : jM), k ≤ N → I k l2 τ → (∀ (k' : Nat) (l2' : Int32) (τ' : jM), k < k' → k' ≤ N → I k' l2' τ' → ok (q l1 l2' τ') Q) → ok (s_X4_make_67 rec60 q l1 l2 τ) Q) {k : Nat} {l2 : Int32} {σ : jM} (hk : k ≤ N) (hI : I k l2 σ) : ok (f_X4_make_67 rec60 Fu l1 l2 σ) Q := by
  have H : ∀ (n k : Nat) (l2 : Int32) (σ : jM), k ≤ N → I k l2 σ → N < k + n → ok (f_X4_make_67 rec60 n l1 l2 σ) Q := by
    intro n
    induction n with
    | zero => intro k l2 σ hk hI hm; omega
    | succ n ih => intro k l2 σ hk hI hm; exact h k (f_X4_make_67 rec60 n) l2 σ hk hI (fun k' l2' τ' h1 h2 h3 => ih k' l2' τ' h2 h3 (by omega))
  exact H Fu k l2 σ hk hI (by unfold Fu; omega)
theorem L_X4_make_60   {Q : Unit → jM → Prop} (N : Nat) (I : Nat → Int32 → jM → Prop) (hN : N < 1000000000) (h : ∀ (k : Nat) (q : Int32 → jM → Option (Unit × jM)) (l1 : Int32) (τ : jM), k ≤ N → I k l1 τ → (∀ (k' : Nat) (l1' : Int32) (τ' : jM), k < k' → k' ≤ N → I k' l1' τ' → ok (q l1' τ') Q) → ok (s_X4_make_60  q l1 τ) Q) {k : Nat} {l1 : Int32} {σ : jM} (hk : k ≤ N) (hI : I k l1 σ) : ok (f_X4_make_60  Fu l1 σ) Q := by
  have H : ∀ (n k : Nat) (l1 : Int32) (σ : jM), k ≤ N → I k l1 σ → N < k + n → ok (f_X4_make_60  n l1 σ) Q := by
    intro n
    induction n with
    | zero => intro k l1 σ hk hI hm; omega
    | succ n ih => intro k l1 σ hk hI hm; exact h k (f_X4_make_60  n) l1 σ hk hI (fun k' l1' τ' h1 h2 h3 => ih k' l1' τ' h2 h3 (by omega))
  exact H Fu k l1 σ hk hI (by unfold Fu; omega)
theorem L_X4_make_15   {Q : Unit → jM → Prop} (N : Nat) (I : Nat → Int32 → jM → Prop) (hN : N < 1000000000) (h : ∀ (k : Nat) (q : Int32 → jM → Option (Unit × jM)) (l1 : Int32) (τ : jM), k ≤ N → I k l1 τ → (∀ (k' : Nat) (l1' : Int32) (τ' : jM), k < k' → k' ≤ N → I k' l1' τ' → ok (q l1' τ') Q) → ok (s_X4_make_15  q l1 τ) Q) {k : Nat} {l1 : Int32} {σ : jM} (hk : k ≤ N) (hI : I k l1 σ) : ok (f_X4_make_15  Fu l1 σ) Q := by
  have H : ∀ (n k : Nat) (l1 : Int32) (σ : jM), k ≤ N → I k l1 σ → N < k + n → ok (f_X4_make_15  n l1 σ) Q := by
    intro n
    induction n with
    | zero => intro k l1 σ hk hI hm; omega
    | succ n ih => intro k l1 σ hk hI hm; exact h k (f_X4_make_15  n) l1 σ hk hI (fun k' l1' τ' h1 h2 h3 => ih k' l1' τ' h2 h3 (by omega))
  exact H Fu k l1 σ hk hI (by unfold Fu; omega)
theorem L_X11_readTablet_6  {l1 : Nat} {Q : Int32 → jM → Prop} (N : Nat) (I : Nat → Int32 → jM → Prop) (hN : N < 1000000000) (h : ∀ (k : Nat) (q : Nat → Int32 → jM → Option (Int32 × jM)) (l2 : Int32) (τ : jM), k ≤ N → I k l2 τ → (∀ (k' : Nat) (l2' : Int32) (τ' : jM), k < k' → k' ≤ N → I k' l2' τ' → ok (q l1 l2' τ') Q) → ok (s_X11_readTablet_6  q l1 l2 τ) Q) {k : Nat} {l2 : Int32} {σ : jM} (hk : k ≤ N) (hI : I k l2 σ) : ok (f_X11_readTablet_6  Fu l1 l2 σ) Q := by
  have H : ∀ (n k : Nat) (l2 : Int32) (σ : jM), k ≤ N → I k l2 σ → N < k + n → ok (f_X11_readTablet_6  n l1 l2 σ) Q := by
    intro n
    induction n with
    | zero => intro k l2 σ hk hI hm; omega
    | succ n ih => intro k l2 σ hk hI hm; exact h k (f_X11_readTablet_6  n) l2 σ hk hI (fun k' l2' τ' h1 h2 h3 => ih k' l2' τ' h2 h3 (by omega))
  exact H Fu k l2 σ hk hI (by unfold Fu; omega)
theorem L_X8_tabletTellingMost_7   {Q : Int32 → jM → Prop} (N : Nat) (I : Nat → Int32 → Int32 → Int32 → jM → Prop) (hN : N < 1000000000) (h : ∀ (k : Nat) (q : Int32 → Int32 → Int32 → jM → Option (Int32 × jM)) (l1 : Int32) (l2 : Int32) (l3 : Int32) (τ : jM), k ≤ N → I k l1 l2 l3 τ → (∀ (k' : Nat) (l1' : Int32) (l2' : Int32) (l3' : Int32) (τ' : jM), k < k' → k' ≤ N → I k' l1' l2' l3' τ' → ok (q l1' l2' l3' τ') Q) → ok (s_X8_tabletTellingMost_7  q l1 l2 l3 τ) Q) {k : Nat} {l1 : Int32} {l2 : Int32} {l3 : Int32} {σ : jM} (hk : k ≤ N) (hI : I k l1 l2 l3 σ) : ok (f_X8_tabletTellingMost_7  Fu l1 l2 l3 σ) Q := by
  have H : ∀ (n k : Nat) (l1 : Int32) (l2 : Int32) (l3 : Int32) (σ : jM), k ≤ N → I k l1 l2 l3 σ → N < k + n → ok (f_X8_tabletTellingMost_7  n l1 l2 l3 σ) Q := by
    intro n
    induction n with
    | zero => intro k l1 l2 l3 σ hk hI hm; omega
    | succ n ih => intro k l1 l2 l3 σ hk hI hm; exact h k (f_X8_tabletTellingMost_7  n) l1 l2 l3 σ hk hI (fun k' l1' l2' l3' τ' h1 h2 h3 => ih k' l1' l2' l3' τ' h2 h3 (by omega))
  exact H Fu k l1 l2 l3 σ hk hI (by unfold Fu; omega)
theorem L_X8_rowsForNewAt_14  {l1 : Int32} {Q : Int32 → jM → Prop} (N : Nat) (I : Nat → Int32 → Int32 → jM → Prop) (hN : N < 1000000000) (h : ∀ (k : Nat) (q : Int32 → Int32 → Int32 → jM → Option (Int32 × jM)) (l2 : Int32) (l3 : Int32) (τ : jM), k ≤ N → I k l2 l3 τ → (∀ (k' : Nat) (l2' : Int32) (l3' : Int32) (τ' : jM), k < k' → k' ≤ N → I k' l2' l3' τ' → ok (q l1 l2' l3' τ') Q) → ok (s_X8_rowsForNewAt_14  q l1 l2 l3 τ) Q) {k : Nat} {l2 : Int32} {l3 : Int32} {σ : jM} (hk : k ≤ N) (hI : I k l2 l3 σ) : ok (f_X8_rowsForNewAt_14  Fu l1 l2 l3 σ) Q := by
  have H : ∀ (n k : Nat) (l2 : Int32) (l3 : Int32) (σ : jM), k ≤ N → I k l2 l3 σ → N < k + n → ok (f_X8_rowsForNewAt_14  n l1 l2 l3 σ) Q := by
    intro n
    induction n with
    | zero => intro k l2 l3 σ hk hI hm; omega
    | succ n ih => intro k l2 l3 σ hk hI hm; exact h k (f_X8_rowsForNewAt_14  n) l2 l3 σ hk hI (fun k' l2' l3' τ' h1 h2 h3 => ih k' l2' l3' τ' h2 h3 (by omega))
  exact H Fu k l2 l3 σ hk hI (by unfold Fu; omega)
theorem L_X1_findDoubt_58  {l1 : Int32} {Q : Unit → jM → Prop} (N : Nat) (I : Nat → Int32 → jM → Prop) (hN : N < 1000000000) (h : ∀ (k : Nat) (q : Int32 → Int32 → jM → Option (Unit × jM)) (l2 : Int32) (τ : jM), k ≤ N → I k l2 τ → (∀ (k' : Nat) (l2' : Int32) (τ' : jM), k < k' → k' ≤ N → I k' l2' τ' → ok (q l1 l2' τ') Q) → ok (s_X1_findDoubt_58  q l1 l2 τ) Q) {k : Nat} {l2 : Int32} {σ : jM} (hk : k ≤ N) (hI : I k l2 σ) : ok (f_X1_findDoubt_58  Fu l1 l2 σ) Q := by
  have H : ∀ (n k : Nat) (l2 : Int32) (σ : jM), k ≤ N → I k l2 σ → N < k + n → ok (f_X1_findDoubt_58  n l1 l2 σ) Q := by
    intro n
    induction n with
    | zero => intro k l2 σ hk hI hm; omega
    | succ n ih => intro k l2 σ hk hI hm; exact h k (f_X1_findDoubt_58  n) l2 σ hk hI (fun k' l2' τ' h1 h2 h3 => ih k' l2' τ' h2 h3 (by omega))
  exact H Fu k l2 σ hk hI (by unfold Fu; omega)
theorem L_X1_findDoubt_17   {Q : Unit → jM → Prop} (N : Nat) (I : Nat → Int32 → Int32 → jM → Prop) (hN : N < 1000000000) (h : ∀ (k : Nat) (q : Int32 → Int32 → jM → Option (Unit × jM)) (l1 : Int32) (l2 : Int32) (τ : jM), k ≤ N → I k l1 l2 τ → (∀ (k' : Nat) (l1' : Int32) (l2' : Int32) (τ' : jM), k < k' → k' ≤ N → I k' l1' l2' τ' → ok (q l1' l2' τ') Q) → ok (s_X1_findDoubt_17  q l1 l2 τ) Q) {k : Nat} {l1 : Int32} {l2 : Int32} {σ : jM} (hk : k ≤ N) (hI : I k l1 l2 σ) : ok (f_X1_findDoubt_17  Fu l1 l2 σ) Q := by
  have H : ∀ (n k : Nat) (l1 : Int32) (l2 : Int32) (σ : jM), k ≤ N → I k l1 l2 σ → N < k + n → ok (f_X1_findDoubt_17  n l1 l2 σ) Q := by
    intro n
    induction n with
    | zero => intro k l1 l2 σ hk hI hm; omega
    | succ n ih => intro k l1 l2 σ hk hI hm; exact h k (f_X1_findDoubt_17  n) l1 l2 σ hk hI (fun k' l1' l2' τ' h1 h2 h3 => ih k' l1' l2' τ' h2 h3 (by omega))
  exact H Fu k l1 l2 σ hk hI (by unfold Fu; omega)
theorem L_X8_rowsForNew_4   {Q : Int32 → jM → Prop} (N : Nat) (I : Nat → Int32 → Int32 → jM → Prop) (hN : N < 1000000000) (h : ∀ (k : Nat) (q : Int32 → Int32 → jM → Option (Int32 × jM)) (l1 : Int32) (l2 : Int32) (τ : jM), k ≤ N → I k l1 l2 τ → (∀ (k' : Nat) (l1' : Int32) (l2' : Int32) (τ' : jM), k < k' → k' ≤ N → I k' l1' l2' τ' → ok (q l1' l2' τ') Q) → ok (s_X8_rowsForNew_4  q l1 l2 τ) Q) {k : Nat} {l1 : Int32} {l2 : Int32} {σ : jM} (hk : k ≤ N) (hI : I k l1 l2 σ) : ok (f_X8_rowsForNew_4  Fu l1 l2 σ) Q := by
  have H : ∀ (n k : Nat) (l1 : Int32) (l2 : Int32) (σ : jM), k ≤ N → I k l1 l2 σ → N < k + n → ok (f_X8_rowsForNew_4  n l1 l2 σ) Q := by
    intro n
    induction n with
    | zero => intro k l1 l2 σ hk hI hm; omega
    | succ n ih => intro k l1 l2 σ hk hI hm; exact h k (f_X8_rowsForNew_4  n) l1 l2 σ hk hI (fun k' l1' l2' τ' h1 h2 h3 => ih k' l1' l2' τ' h2 h3 (by omega))
  exact H Fu k l1 l2 σ hk hI (by unfold Fu; omega)
theorem L_X11_readRules_6  {l1 : Nat} {Q : Int32 → jM → Prop} (N : Nat) (I : Nat → Int32 → jM → Prop) (hN : N < 1000000000) (h : ∀ (k : Nat) (q : Nat → Int32 → jM → Option (Int32 × jM)) (l2 : Int32) (τ : jM), k ≤ N → I k l2 τ → (∀ (k' : Nat) (l2' : Int32) (τ' : jM), k < k' → k' ≤ N → I k' l2' τ' → ok (q l1 l2' τ') Q) → ok (s_X11_readRules_6  q l1 l2 τ) Q) {k : Nat} {l2 : Int32} {σ : jM} (hk : k ≤ N) (hI : I k l2 σ) : ok (f_X11_readRules_6  Fu l1 l2 σ) Q := by
  have H : ∀ (n k : Nat) (l2 : Int32) (σ : jM), k ≤ N → I k l2 σ → N < k + n → ok (f_X11_readRules_6  n l1 l2 σ) Q := by
    intro n
    induction n with
    | zero => intro k l2 σ hk hI hm; omega
    | succ n ih => intro k l2 σ hk hI hm; exact h k (f_X11_readRules_6  n) l2 σ hk hI (fun k' l2' τ' h1 h2 h3 => ih k' l2' τ' h2 h3 (by omega))
  exact H Fu k l2 σ hk hI (by unfold Fu; omega)
theorem L_X12_reads_48  {l3 : Int32} {l4 : Nat} {Q : Int32 → jM → Prop} (N : Nat) (I : Nat → Int32 → jM → Prop) (hN : N < 1000000000) (h : ∀ (k : Nat) (q : Int32 → Nat → Int32 → jM → Option (Int32 × jM)) (l5 : Int32) (τ : jM), k ≤ N → I k l5 τ → (∀ (k' : Nat) (l5' : Int32) (τ' : jM), k < k' → k' ≤ N → I k' l5' τ' → ok (q l3 l4 l5' τ') Q) → ok (s_X12_reads_48  q l3 l4 l5 τ) Q) {k : Nat} {l5 : Int32} {σ : jM} (hk : k ≤ N) (hI : I k l5 σ) : ok (f_X12_reads_48  Fu l3 l4 l5 σ) Q := by
  have H : ∀ (n k : Nat) (l5 : Int32) (σ : jM), k ≤ N → I k l5 σ → N < k + n → ok (f_X12_reads_48  n l3 l4 l5 σ) Q := by
    intro n
    induction n with
    | zero => intro k l5 σ hk hI hm; omega
    | succ n ih => intro k l5 σ hk hI hm; exact h k (f_X12_reads_48  n) l5 σ hk hI (fun k' l5' τ' h1 h2 h3 => ih k' l5' τ' h2 h3 (by omega))
  exact H Fu k l5 σ hk hI (by unfold Fu; omega)
