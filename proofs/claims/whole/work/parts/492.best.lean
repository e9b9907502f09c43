/-! census: the first best of all orders, and the greedy one -/
def bs (v : NV) (i k : Nat) : Nat := if onP v i k then 1 else 0
def wv (v : NV) : Nat → List Nat → Nat
  | _, [] => 0
  | k, a :: t => bs v a k + wv v (k + 1) t
def cmb : Option (Nat × List Nat) → Option (Nat × List Nat) → Option (Nat × List Nat)
  | none, b => b
  | some x, none => some x
  | some x, some y => if x.1 < y.1 then some y else some x
theorem cmb_n (a : Option (Nat × List Nat)) : cmb a none = a := by cases a <;> rfl
theorem cmb_a (a b c : Option (Nat × List Nat)) : cmb (cmb a b) c = cmb a (cmb b c) := by
  cases a with
  | none => rfl
  | some x =>
    cases b with
    | none => rfl
    | some y =>
      cases c with
      | none => rw [cmb_n, cmb_n]
      | some z =>
        show cmb (if x.1 < y.1 then some y else some x) (some z) = cmb (some x) (if y.1 < z.1 then some z else some y)
        by_cases h1 : x.1 < y.1
        · by_cases h2 : y.1 < z.1
          · rw [if_pos h1, if_pos h2]
            show (if y.1 < z.1 then some z else some y) = if x.1 < z.1 then some z else some x
            rw [if_pos h2, if_pos (by omega)]
          · rw [if_pos h1, if_neg h2]
            show (if y.1 < z.1 then some z else some y) = if x.1 < y.1 then some y else some x
            rw [if_pos h1, if_neg h2]
        · by_cases h2 : y.1 < z.1
          · rw [if_neg h1, if_pos h2]
          · rw [if_neg h1, if_neg h2]
            show (if x.1 < z.1 then some z else some x) = if x.1 < y.1 then some y else some x
            rw [if_neg h1, if_neg (by omega)]
def fa (v : NV) (k : Nat) : Option (Nat × List Nat) → List (List Nat) → Option (Nat × List Nat)
  | b, [] => b
  | b, p :: t => fa v k (cmb b (some (wv v k p, p))) t
theorem fa_cmb (v : NV) (k : Nat) : ∀ l b, fa v k b l = cmb b (fa v k none l) := by
  intro l
  induction l with
  | nil => intro b; exact (cmb_n b).symm
  | cons p t ih =>
    intro b
    rw [fa, fa, ih, ih (cmb none _), ← cmb_a]
    rfl
theorem fa_app (v : NV) (k : Nat) : ∀ l1 l2 b, fa v k b (l1 ++ l2) = fa v k (fa v k b l1) l2 := by
  intro l1
  induction l1 with
  | nil => intro l2 b; rfl
  | cons p t ih => intro l2 b; exact ih _ _
def shf (v : NV) (a k : Nat) (x : Nat × List Nat) : Nat × List Nat := (bs v a k + x.1, a :: x.2)
theorem fa_map (v : NV) (a k : Nat) : ∀ l b, fa v k (b.map (shf v a k)) (l.map (fun p => a :: p)) = (fa v (k + 1) b l).map (shf v a k) := by
  intro l
  induction l with
  | nil => intro b; rfl
  | cons p t ih =>
    intro b
    rw [List.map_cons, fa, fa, ← ih]
    congr 1
    cases b with
    | none => rfl
    | some x =>
      show (if bs v a k + x.1 < bs v a k + wv v (k + 1) p then some (shf v a k (wv v (k + 1) p, p)) else some (shf v a k x)) = Option.map (shf v a k) (if x.1 < wv v (k + 1) p then some (wv v (k + 1) p, p) else some x)
      by_cases h : x.1 < wv v (k + 1) p
      · rw [if_pos h, if_pos (by omega)]; rfl
      · rw [if_neg h, if_neg (by omega)]; rfl
def mxF (c : Nat → Option Nat) : Nat → Nat → Nat
  | 0, _ => 0
  | m + 1, i => max ((c i).getD 0) (mxF c m (i + 1))
def fsF (c : Nat → Option Nat) (g : Nat) : Nat → Nat → Nat
  | 0, _ => 0
  | m + 1, i => if c i = some g then i else fsF c g m (i + 1)
def ff (c : Nat → Option Nat) (h : Nat → List Nat) : Nat → Nat → Option (Nat × List Nat)
  | 0, _ => none
  | m + 1, i => cmb ((c i).map fun x => (x, h i)) (ff c h m (i + 1))
theorem ff_e (c : Nat → Option Nat) (h : Nat → List Nat) : ∀ m i, (ff c h m i = none ∧ mxF c m i = 0 ∧ ∀ j, i ≤ j → j < i + m → c j = none) ∨ (ff c h m i = some (mxF c m i, h (fsF c (mxF c m i) m i)) ∧ i ≤ fsF c (mxF c m i) m i ∧ fsF c (mxF c m i) m i < i + m ∧ c (fsF c (mxF c m i) m i) = some (mxF c m i)) := by
  intro m
  induction m with
  | zero => intro i; exact Or.inl ⟨rfl, rfl, fun j h1 h2 => by omega⟩
  | succ m ih =>
    intro i
    unfold ff mxF fsF
    rcases hc : c i with _ | x
    · rw [show (none : Option Nat).getD 0 = 0 from rfl, Nat.zero_max]
      rcases ih (i + 1) with ⟨a1, a2, a3⟩ | ⟨a1, a2, a3, a4⟩
      · refine Or.inl ⟨a1, a2, fun j h1 h2 => ?_⟩
        by_cases hj : j = i
        · rw [hj]; exact hc
        · exact a3 j (by omega) (by omega)
      · refine Or.inr ?_
        rw [if_neg (by simp)]
        exact ⟨a1, by omega, by omega, a4⟩
    · rw [show (some x : Option Nat).getD 0 = x from rfl]
      rcases ih (i + 1) with ⟨a1, a2, a3⟩ | ⟨a1, a2, a3, a4⟩
      · refine Or.inr ?_
        rw [a1, a2, Nat.max_zero, if_pos rfl]
        exact ⟨rfl, by omega, by omega, hc⟩
      · refine Or.inr ?_
        rw [a1]
        by_cases hlt : x < mxF c m (i + 1)
        · have e : max x (mxF c m (i + 1)) = mxF c m (i + 1) := Nat.max_eq_right (by omega)
          rw [e, if_neg (by intro q; injection q with q; omega)]
          refine ⟨?_, by omega, by omega, a4⟩
          show (if x < mxF c m (i + 1) then _ else _) = _
          rw [if_pos hlt]
        · have e : max x (mxF c m (i + 1)) = x := Nat.max_eq_left (by omega)
          rw [e, if_pos rfl]
          refine ⟨?_, by omega, by omega, hc⟩
          show (if x < mxF c m (i + 1) then _ else _) = _
          rw [if_neg hlt]
def dp (v : NV) (n : Nat) : Nat → Nat → Nat → Nat
  | 0, _, _ => 0
  | m + 1, k, s => mxF (fun i => if s.testBit i then none else some (bs v i k + dp v n m (k + 1) (st1 s i))) n 0
def cand (v : NV) (n m k s : Nat) : Nat → Option Nat := fun i => if s.testBit i then none else some (bs v i k + dp v n m (k + 1) (st1 s i))
def gd (v : NV) (n : Nat) : Nat → Nat → Nat → List Nat
  | 0, _, _ => []
  | m + 1, k, s => fsF (cand v n m k s) (dp v n (m + 1) k s) n 0 :: gd v n m (k + 1) (st1 s (fsF (cand v n m k s) (dp v n (m + 1) k s) n 0))
set_option maxRecDepth 100000 in
theorem sets7a : ∀ n, n < 7 → ∀ s, s < 2 ^ n → ((!decide (pc s < n) || (List.range n).any (fun i => !s.testBit i)) && (!decide (n ≤ pc s) || (List.range n).all (fun i => s.testBit i)) && decide (pc s ≤ n) && (List.range n).all (fun i => s.testBit i || (decide (pc (st1 s i) = pc s + 1) && decide (st1 s i < 2 ^ n) && decide (s < st1 s i)))) = true := by decide +kernel
theorem sets7 (n : Nat) (hn : n < 7) (s : Nat) (hs : s < 2 ^ n) : ((pc s < n → (List.range n).any (fun i => !s.testBit i) = true) ∧ (n ≤ pc s → (List.range n).all (fun i => s.testBit i) = true)) ∧ pc s ≤ n ∧ ∀ i, i < n → s.testBit i = false → (pc (st1 s i) = pc s + 1 ∧ st1 s i < 2 ^ n ∧ s < st1 s i) := by
  have h := sets7a n hn s hs
  rw [Bool.and_eq_true, Bool.and_eq_true, Bool.and_eq_true] at h
  obtain ⟨⟨⟨h1, h2⟩, h3⟩, h4⟩ := h
  refine ⟨⟨fun q => ?_, fun q => ?_⟩, of_decide_eq_true h3, fun i hi hb => ?_⟩
  · rw [decide_eq_true q] at h1
    exact h1
  · rw [decide_eq_true q] at h2
    exact h2
  · have h5 := List.all_eq_true.mp h4 i (List.mem_range.mpr hi)
    rw [hb, Bool.false_or, Bool.and_eq_true, Bool.and_eq_true] at h5
    exact ⟨of_decide_eq_true h5.1.1, of_decide_eq_true h5.1.2, of_decide_eq_true h5.2⟩
theorem set_free {n s : Nat} (hn : n ≤ 6) (hs : s < 2 ^ n) (h : pc s < n) : ∃ i, i < n ∧ s.testBit i = false := by
  have h1 := (sets7 n (by omega) s hs).1.1 h
  rw [List.any_eq_true] at h1
  obtain ⟨i, h2, h3⟩ := h1
  exact ⟨i, List.mem_range.mp h2, by simpa using h3⟩
theorem set_full {n s : Nat} (hn : n ≤ 6) (hs : s < 2 ^ n) (h : n ≤ pc s) {i : Nat} (hi : i < n) : s.testBit i = true := by
  have h1 := (sets7 n (by omega) s hs).1.2 h
  rw [List.all_eq_true] at h1
  exact h1 i (List.mem_range.mpr hi)
theorem lex_ff {v : NV} {n m k s : Nat} (ih : ∀ i, i < n → s.testBit i = false → fa v (k + 1) none (lex n m (st1 s i)) = some (dp v n m (k + 1) (st1 s i), gd v n m (k + 1) (st1 s i))) : ∀ q i, i + q ≤ n → fa v k none ((List.range' i q).flatMap (fun a => if s.testBit a then [] else (lex n m (st1 s a)).map (fun l => a :: l))) = ff (cand v n m k s) (fun a => a :: gd v n m (k + 1) (st1 s a)) q i := by
  intro q
  induction q with
  | zero => intro i _; rfl
  | succ q ihq =>
    intro i hi
    rw [List.range'_succ, List.flatMap_cons, fa_app, fa_cmb, ihq (i + 1) (by omega), ff]
    congr 1
    unfold cand
    by_cases hb : s.testBit i = true
    · rw [if_pos hb, if_pos hb]; rfl
    · rw [if_neg hb, if_neg hb]
      have h1 := fa_map v i k (lex n m (st1 s i)) none
      rw [ih i (by omega) (Bool.eq_false_iff.mpr hb)] at h1
      exact h1
theorem fa_lex {v : NV} {n : Nat} (hn : n ≤ 6) : ∀ m k s, m + k = n → s < 2 ^ n → pc s = k → fa v k none (lex n m s) = some (dp v n m k s, gd v n m k s) := by
  intro m
  induction m with
  | zero => intro k s _ _ _; rfl
  | succ m ih =>
    intro k s hk hs hp
    have h := lex_ff (v := v) (n := n) (m := m) (k := k) (s := s) (fun i hi hb => by
      obtain ⟨a1, a2, a3⟩ := (sets7 n (by omega) s hs).2.2 i hi hb
      exact ih (k + 1) (st1 s i) (by omega) a2 (by omega)) n 0 (by omega)
    rw [lex, h]
    rcases ff_e (cand v n m k s) (fun a => a :: gd v n m (k + 1) (st1 s a)) n 0 with ⟨_, _, a3⟩ | ⟨a1, _⟩
    · obtain ⟨i, hi, hb⟩ := set_free hn hs (by omega)
      have := a3 i (by omega) (by omega)
      unfold cand at this
      rw [hb] at this
      cases this
    · rw [a1]
      rfl
theorem mxF_le {c : Nat → Option Nat} {B : Nat} (h : ∀ i, (c i).getD 0 ≤ B) : ∀ m i, mxF c m i ≤ B := by
  intro m
  induction m with
  | zero => intro i; exact Nat.zero_le _
  | succ m ih => intro i; exact Nat.max_le.mpr ⟨h i, ih _⟩
theorem bs_le (v : NV) (i k : Nat) : bs v i k ≤ 1 := by unfold bs; split <;> omega
theorem cand_le {v : NV} {n m k s : Nat} (h : ∀ t, dp v n m (k + 1) t ≤ m) (i : Nat) : ((cand v n m k s) i).getD 0 ≤ m + 1 := by
  unfold cand
  split
  · exact Nat.zero_le _
  · have := bs_le v i k
    have := h (st1 s i)
    show bs v i k + dp v n m (k + 1) (st1 s i) ≤ m + 1
    omega
theorem dp_le (v : NV) (n : Nat) : ∀ m k s, dp v n m k s ≤ m := by
  intro m
  induction m with
  | zero => intro k s; exact Nat.le_refl _
  | succ m ih =>
    intro k s
    show mxF (cand v n m k s) n 0 ≤ m + 1
    exact mxF_le (cand_le (ih (k + 1))) _ _
theorem mxF_0 {c : Nat → Option Nat} : ∀ m i, (∀ j, i ≤ j → j < i + m → c j = none) → mxF c m i = 0 := by
  intro m
  induction m with
  | zero => intro i _; rfl
  | succ m ih =>
    intro i h
    rw [mxF, h i (by omega) (by omega), ih (i + 1) fun j h1 h2 => h j (by omega) (by omega)]
    rfl
theorem dp_c {v : NV} {n s : Nat} (hn : n ≤ 6) (hs : s < 2 ^ n) : mxF (cand v n (n - pc s - 1) (pc s) s) n 0 = dp v n (n - pc s) (pc s) s := by
  by_cases h : n ≤ pc s
  · rw [show n - pc s = 0 by omega, mxF_0]
    · rfl
    · intro j _ h2
      unfold cand
      rw [set_full hn hs h (by omega)]
      rfl
  · obtain ⟨m, hm⟩ : ∃ m, n - pc s = m + 1 := ⟨n - pc s - 1, by omega⟩
    rw [hm]
    rfl
theorem cs_wv {v : NV} {p : Nat → Nat} : ∀ m j (l : List Nat), l.length = m → (∀ i, i < m → p (j + i) = lf l i) → cs v p m j = wv v j l := by
  intro m
  induction m with
  | zero =>
    intro j l hl _
    cases l with
    | nil => rfl
    | cons a t => cases hl
  | succ m ih =>
    intro j l hl h
    cases l with
    | nil => cases hl
    | cons a t =>
      have h0 : p j = a := h 0 (by omega)
      rw [cs, wv, h0, ih (j + 1) t (by simpa using hl) fun i hi => by
        have := h (i + 1) (by omega)
        rw [show j + 1 + i = j + (i + 1) by omega]
        exact this]
      rfl
theorem wv_le (v : NV) : ∀ (l : List Nat) k, wv v k l ≤ l.length := by
  intro l
  induction l with
  | nil => intro k; exact Nat.le_refl _
  | cons a t ih =>
    intro k
    have := bs_le v a k
    have := ih (k + 1)
    show bs v a k + wv v (k + 1) t ≤ t.length + 1
    omega
