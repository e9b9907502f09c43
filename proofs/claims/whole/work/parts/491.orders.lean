/-! orders of men: the reference's next order -/
def nx7 (p : Nat → Nat) : Nat → Option Nat
  | 0 => none
  | i + 1 => if p i ≤ p (i + 1) then some i else nx7 p i
def nx47 (p : Nat → Nat) (i : Nat) : Nat → Nat
  | 0 => 0
  | j + 1 => if p i ≤ p j then j else nx47 p i j
def swp (p : Nat → Nat) (i j : Nat) : Nat → Nat := setf (setf p i (p j)) j (p i)
def rv : Nat → (Nat → Nat) → Nat → Nat → (Nat → Nat)
  | 0, p, _, _ => p
  | m + 1, p, a, b => if b ≤ a then p else rv m (swp p a b) (a + 1) (b - 1)
def nxO (n : Nat) (p : Nat → Nat) : Option (Nat → Nat) := match nx7 p (n - 1) with
  | none => none
  | some i => some (rv 6 (swp p i (nx47 p i n)) (i + 1) (n - 1))
theorem xq109 {α : Type} {i : Nat} {a : Option α} (h : i < 6) : (if nI i < 0 ∨ ln 109 ≤ i then none else a) = a := if_neg fun q => q.elim (fun q => absurd q (nI_pos (by omega))) fun q => by have : ln 109 = 6 := rfl; omega
def ordX (n : Nat) (p : Nat → Nat) (M : Mm) : Prop := ∀ j, j < n → p j < n ∧ M.1 109 j = nI (p j)
theorem ordX.swp {n : Nat} (hn : n ≤ 6) {p : Nat → Nat} {M : Mm} (h : ordX n p M) {i j : Nat} (hi : i < n) (hj : j < n) : ordX n (swp p i j) (pI (pI M 109 i (nI (p j))) 109 j (nI (p i))) := by
  intro k hk
  show (setf (setf p i (p j)) j (p i)) k < n ∧ _ = nI ((setf (setf p i (p j)) j (p i)) k)
  unfold setf
  by_cases h1 : k = j
  · subst h1
    rw [if_pos rfl, pI_s]
    exact ⟨(h i hi).1, rfl⟩
  · rw [if_neg h1, pI_n (Or.inr h1)]
    by_cases h2 : k = i
    · subst h2
      rw [if_pos rfl, pI_s]
      exact ⟨(h j hj).1, rfl⟩
    · rw [if_neg h2, pI_n (Or.inr h2)]
      exact h k hk
theorem next_X107 {fu : Nat} {n : Nat} (hn : n ≤ 6) : ∀ (m f : Nat) (p : Nat → Nat) (M : Mm) (a b : Nat), b < n → b < a + m → a + m ≤ 20 → m < f → ordX n p M → ∃ M', F_X7_nextOrder_107 fu f M (nI a) (nI b) = some (1, M') ∧ ordX n (rv m p a b) M' ∧ Out (fun x _ => x = 109) M M' := by
  intro m
  induction m with
  | zero =>
    intro f p M a b hb hab ha hf h
    obtain ⟨f, rfl⟩ : ∃ q, f = q + 1 := ⟨f - 1, by omega⟩
    refine ⟨M, ?_, h, Out.rf⟩
    unfold F_X7_nextOrder_107
    rw [if_pos (nI_le (by omega) (by omega))]
  | succ m ih =>
    intro f p M a b hb hab ha hf h
    obtain ⟨f, rfl⟩ : ∃ q, f = q + 1 := ⟨f - 1, by omega⟩
    by_cases hba : b ≤ a
    · refine ⟨M, ?_, ?_, Out.rf⟩
      · unfold F_X7_nextOrder_107
        rw [if_pos (nI_le (by omega) (by omega))]
      · unfold rv
        rw [if_pos hba]
        exact h
    · obtain ⟨b, rfl⟩ : ∃ q, b = q + 1 := ⟨b - 1, by omega⟩
      obtain ⟨M', a1, a2, a3⟩ := ih f (swp p a (b + 1)) (pI (pI M 109 a (nI (p (b + 1)))) 109 (b + 1) (nI (p a))) (a + 1) b (by omega) (by omega) (by omega) (by omega) (h.swp hn (by omega) hb)
      refine ⟨M', ?_, ?_, (Out.pI (P := fun x _ => x = 109) (Out.pI Out.rf rfl) rfl).trans a3⟩
      · unfold F_X7_nextOrder_107
        rw [if_neg (nI_ge (by omega) (by omega)), xr109 (i := a) (by omega), xr109 (i := b + 1) (by omega), xr109 (i := a) (by omega), clN (a := a) (by omega), clN (a := b + 1) (by omega), (h a (by omega)).2, (h (b + 1) hb).2, lt1_s, xq109 (i := b + 1) (by omega), lt1_s, nI_1, pk_m1]
        exact a1
      · unfold rv
        rw [if_neg hba]
        exact a2
theorem next_X47 {fu : Nat} (hf : 1000 ≤ fu) {n : Nat} (hn : n ≤ 6) {p : Nat → Nat} {M : Mm} (h86 : M.1 86 4 = nI n) (h : ordX n p M) {i : Nat} (hi : i + 1 < n) : ∀ (j f : Nat), i < j → j ≤ n → j < f → ∃ M', F_X7_nextOrder_47 fu f M (nI i) (nI j - 1) = some (1, M') ∧ ordX n (rv 6 (swp p i (nx47 p i j)) (i + 1) (n - 1)) M' ∧ Out (fun x _ => x = 109) M M' := by
  intro j
  induction j with
  | zero => intro f hij; omega
  | succ j ih =>
    intro f hij hjn hf'
    obtain ⟨f, rfl⟩ : ∃ q, f = q + 1 := ⟨f - 1, by omega⟩
    rw [nI_pred]
    unfold F_X7_nextOrder_47 nx47
    rw [xr109 (i := j) (by omega), xr109 (i := i) (by omega), clN (a := j) (by omega), clN (a := i) (by omega), (h i (by omega)).2, (h j (by omega)).2]
    have b1 := (h i (by omega)).1
    have b2 := (h j (by omega)).1
    by_cases hle : p i ≤ p j
    · obtain ⟨M', a1, a2, a3⟩ := next_X107 (fu := fu) hn 6 fu (swp p i j) (pI (pI M 109 i (nI (p j))) 109 j (nI (p i))) (i + 1) (n - 1) (by omega) (by omega) (by omega) (by omega) (h.swp hn (by omega) (by omega))
      have hn1 : nI n - 1 = nI (n - 1) := by
        obtain ⟨q, rfl⟩ : ∃ q, n = q + 1 := ⟨n - 1, by omega⟩
        rw [nI_pred]
        rfl
      rw [if_pos (nI_le hle (by omega)), if_pos hle, xq109 (i := i) (by omega), xq109 (i := j) (by omega), xq109 (i := i) (by omega), lt1_s, xq109 (i := j) (by omega), lt1_s, pI_n (y := 86) (by omega), pI_n (y := 86) (by omega), h86, hn1, nI_1]
      exact ⟨M', a1, a2, (Out.pI (P := fun x _ => x = 109) (Out.pI Out.rf rfl) rfl).trans a3⟩
    · have hji : j ≠ i := fun q => hle (by rw [q]; exact Nat.le_refl _)
      have ih1 := ih f (by omega) (by omega) (by omega)
      have e : nI j + (-1 : Int32) = nI j - 1 := by
        obtain ⟨q, rfl⟩ : ∃ q, j = q + 1 := ⟨j - 1, by omega⟩
        rw [nI_pred, pk_m1]
      rw [if_neg (nI_ge (by omega) (by omega)), if_neg hle, e]
      exact ih1
theorem next_X7 {fu : Nat} (hf : 1000 ≤ fu) {n : Nat} (hn : n ≤ 6) {p : Nat → Nat} {M : Mm} (h86 : M.1 86 4 = nI n) (h : ordX n p M) : ∀ (i f : Nat), i < n → i < f → (nx7 p i = none ∧ F_X7_nextOrder_7 fu f M (nI i - 1) = some (0, M)) ∨ ∃ k M', nx7 p i = some k ∧ F_X7_nextOrder_7 fu f M (nI i - 1) = some (1, M') ∧ ordX n (rv 6 (swp p k (nx47 p k n)) (k + 1) (n - 1)) M' ∧ Out (fun x _ => x = 109) M M' := by
  intro i
  induction i with
  | zero =>
    intro f hi hf'
    obtain ⟨f, rfl⟩ : ∃ q, f = q + 1 := ⟨f - 1, by omega⟩
    refine Or.inl ⟨rfl, ?_⟩
    unfold F_X7_nextOrder_7 F_X7_nextOrder_34
    rw [if_pos (show nI 0 - 1 < 0 by decide), if_neg (show ¬ 0 ≤ nI 0 - 1 by decide)]
  | succ i ih =>
    intro f hi hf'
    obtain ⟨f, rfl⟩ : ∃ q, f = q + 1 := ⟨f - 1, by omega⟩
    rw [nI_pred]
    unfold F_X7_nextOrder_7 F_X7_nextOrder_34 nx7
    rw [if_neg (nI_pos (by omega)), nI_1, xr109 (i := i) (by omega), xr109 (i := i + 1) (by omega), clN (a := i) (by omega), clN (a := i + 1) (by omega), (h i (by omega)).2, (h (i + 1) (by omega)).2]
    have b1 := (h i (by omega)).1
    have b2 := (h (i + 1) (by omega)).1
    by_cases hle : p i ≤ p (i + 1)
    · obtain ⟨M', a1, a2, a3⟩ := next_X47 hf hn h86 h (i := i) hi n fu (by omega) (by omega) (by omega)
      rw [if_pos (nI_le hle (by omega)), if_pos hle, if_pos (nI_pos' (by omega)), h86]
      exact Or.inr ⟨i, M', rfl, a1, a2, a3⟩
    · have e : nI i + (-1 : Int32) = nI i - 1 := by rw [Int32.sub_eq_add_neg]
      rw [if_neg (nI_ge (by omega) (by omega)), if_neg hle, e]
      exact ih f (by omega) (by omega)
theorem next_X {fu : Nat} (hf : 1000 ≤ fu) {n : Nat} (hn : n ≤ 6) (h0 : 0 < n) {p : Nat → Nat} {M : Mm} (h86 : M.1 86 4 = nI n) (h : ordX n p M) : (nxO n p = none ∧ F_X7_nextOrder fu M = some (0, M)) ∨ ∃ q M', nxO n p = some q ∧ F_X7_nextOrder fu M = some (1, M') ∧ ordX n q M' ∧ Out (fun x _ => x = 109) M M' := by
  have e : nI n - (2 : Int32) = nI (n - 1) - 1 := by
    obtain ⟨q, rfl⟩ : ∃ q, n = q + 1 := ⟨n - 1, by omega⟩
    show nI (q + 1) - 2 = nI q - 1
    rw [show nI q = nI (q + 1) - 1 from (nI_pred (n := q)).symm, Int32.sub_sub]
    rfl
  unfold F_X7_nextOrder nxO
  rw [h86, e]
  rcases next_X7 hf hn h86 h (n - 1) fu (by omega) (by omega) with ⟨e1, e2⟩ | ⟨k, M', e1, e2, e3, e4⟩
  · rw [e1]
    exact Or.inl ⟨rfl, e2⟩
  · rw [e1]
    exact Or.inr ⟨_, M', rfl, e2, e3, e4⟩
def lex (n : Nat) : Nat → Nat → List (List Nat)
  | 0, _ => [[]]
  | m + 1, s => (List.range' 0 n).flatMap (fun a => if s.testBit a then [] else (lex n m (st1 s a)).map (fun l => a :: l))
def lf (l : List Nat) (j : Nat) : Nat := l.getD j 0
def okL (n : Nat) (l : List Nat) : Bool := l.length == n
def isL (n : Nat) : Option (Nat → Nat) → Option (List Nat) → Bool
  | none, none => true
  | some q, some l => (List.range n).all fun j => q j == lf l j
  | _, _ => false
def chain (n : Nat) : List (List Nat) → Bool
  | [] => true
  | p :: r => isL n (nxO n (lf p)) r.head? && (p.length == n) && chain n r
set_option maxRecDepth 100000 in
theorem chain_all : ∀ n, n < 7 → 0 < n → ((lex n n 0).head? = some (List.range n) ∧ chain n (lex n n 0) = true ∧ (lex n n 0).length ≤ 720) := by decide +kernel
