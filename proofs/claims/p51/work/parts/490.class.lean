/-! counted -/
def gN (v : NV) (i : Nat) : Nat := match srO (goneP v i) 61 0 with | none => 1000000 | some d => d
def onP (v : NV) (i k : Nat) : Bool := decide (k < gN v i)
theorem srO_n {p : Nat → Bool} : ∀ m d, srO p m d = none → ∀ j, d ≤ j → j < d + m → p j = false := by
  intro m
  induction m with
  | zero => intro d _ j h1 h2; omega
  | succ m ih =>
    intro d h j h1 h2
    unfold srO at h
    by_cases hp : p d = true
    · rw [if_pos hp] at h; cases h
    · rw [if_neg hp] at h
      by_cases hj : j = d
      · rw [hj]; exact Bool.eq_false_iff.mpr hp
      · exact ih _ h j (by omega) (by omega)
theorem srO_m {p : Nat → Bool} {e : Nat} : ∀ m d, srO p m d = some e → ∀ j, d ≤ j → j < e → p j = false := by
  intro m
  induction m with
  | zero => intro d h; cases h
  | succ m ih =>
    intro d h j h1 h2
    unfold srO at h
    by_cases hp : p d = true
    · rw [if_pos hp] at h
      injection h with h
      omega
    · rw [if_neg hp] at h
      by_cases hj : j = d
      · rw [hj]; exact Bool.eq_false_iff.mpr hp
      · exact ih _ h j (by omega) h2
theorem goneP_up (v : NV) (i : Nat) {d : Nat} (h : goneP v i d = true) : ∀ k, goneP v i (d + k) = true := by
  intro k
  induction k with
  | zero => exact h
  | succ k ih =>
    unfold goneP at ih ⊢
    have a := of_decide_eq_true ih
    have b := melF_s v (vKind v i) (vShade v i) (d + k) 0
    rw [Nat.zero_add] at b
    refine decide_eq_true ?_
    rw [← Nat.add_assoc, b]
    omega
theorem gN_le (v : NV) (i : Nat) : gN v i ≤ 1000000 := by
  unfold gN
  cases h : srO (goneP v i) 61 0 with
  | none => exact Nat.le_refl _
  | some d => exact Nat.le_of_lt (by have := srO_r _ _ h; show d < 1000000; omega)
theorem onP_e {v : NV} (hv : okV v) {i k : Nat} (hi : i < vMen v) (hk : k < 61) : (whoN v 1 k).testBit i = onP v i k := by
  have e : (whoN v 1 k).testBit i = !goneP v i k := by
    unfold whoN
    rw [bset_bit, decide_eq_true hi, Bool.true_and]
    unfold whoF goneP
    rw [hasR_1, ← decide_not]
    exact decide_eq_decide.mpr (by omega)
  rw [e]
  unfold onP gN
  cases h : srO (goneP v i) 61 0 with
  | none => rw [srO_n _ _ h k (by omega) (by omega), decide_eq_true (show k < 1000000 by omega)]; rfl
  | some d =>
    have hr := srO_r _ _ h
    show _ = decide (k < d)
    by_cases hkd : k < d
    · rw [srO_m _ _ h k (by omega) hkd, decide_eq_true hkd]; rfl
    · have := goneP_up v i hr.2.2 (k - d)
      rw [show d + (k - d) = k by omega] at this
      rw [this, decide_eq_false hkd]; rfl
/-- how many are counted, men by a list of places -/
def cs (v : NV) (p : Nat → Nat) : Nat → Nat → Nat
  | 0, _ => 0
  | m + 1, j => (if onP v (p j) j then 1 else 0) + cs v p m (j + 1)
def st1 (s i : Nat) : Nat := bset (fun j => j == i || s.testBit j) 6
/-- every number a man, none twice -/
def ck (n : Nat) (y : Nat → Int32) : Nat → Nat → Nat → Bool
  | 0, _, _ => true
  | m + 1, j, s => if y j < 0 ∨ nI n ≤ y j then false else if s.testBit (y j).toNatClampNeg = true then false else ck n y m (j + 1) (st1 s (y j).toNatClampNeg)
def yN (y : Nat → Int32) (j : Nat) : Nat := (y j).toNatClampNeg
theorem setb_allC : ∀ i, i < 6 → ∀ s, s < 64 → nI s ||| ((1 : Int32) <<< (nI i &&& 31)) = nI (st1 s i) := by decide +kernel
theorem st1_or {s i : Nat} (hs : s < 64) (hi : i < 6) : nI s ||| ((1 : Int32) <<< (nI i &&& 31)) = nI (st1 s i) := setb_allC i hi s hs
theorem st1_lt (s i : Nat) : st1 s i < 64 := bset_lt _ 6
theorem countedOn_C {fu : Nat} {M : Mm} {v : NV} (hv : okV v) (h81 : ∀ j, j < 61 → M.1 81 j = nI (whoN v 1 j)) {i k : Nat} (hi : i < vMen v) (hk : k < 61) : F_X6_countedOn fu M (nI i) (nI k) = some (bI (onP v i k)) := by
  have hm := hv.1
  have hw : whoN v 1 k < 64 := set_lt hv _ (Nat.le_refl _)
  unfold F_X6_countedOn F_X6_isIn
  rw [rd81 (by omega), ob1_s, h81 k hk, isInE hw (by omega), onP_e hv hi hk]
  cases onP v i k <;> rfl
theorem counted_C77 {fu : Nat} {M : Mm} {v : NV} (hv : okV v) (hc : CV v M) (h81 : ∀ j, j < 61 → M.1 81 j = nI (whoN v 1 j)) {r : Nat} (hr : r < 6) : ∀ (m n j s a : Nat), j + m = vMen v → m < n → s < 64 → F_X6_counted_77 fu n M (1 + r) (nI s) (nI a) (nI j) = (if ck (vMen v) (M.1 (1 + r + 6)) m j s = true then some (nI (a + cs v (yN (M.1 (1 + r + 6))) m j), M) else some (-3, fC 3 M)) := by
  intro m
  have hm := hv.1
  induction m with
  | zero =>
    intro n j s a hj hn hs
    obtain ⟨n, rfl⟩ : ∃ q, n = q + 1 := ⟨n - 1, by omega⟩
    unfold F_X6_counted_77
    rw [hc.1, if_pos (nI_le (by omega) (by omega))]
    rfl
  | succ m ih =>
    intro n j s a hj hn hs
    obtain ⟨n, rfl⟩ : ∃ q, n = q + 1 := ⟨n - 1, by omega⟩
    unfold F_X6_counted_77 ck F_X6_counted_121
    rw [hc.1, if_neg (nI_ge (by omega) (by omega)), rdR hr (by omega), ob1_s, fnd3_C, ob2_s]
    rcases rng3 (M.1 (1 + r + 6) j) (n := vMen v) (by omega) with hi | ⟨i, hi, hy⟩
    · rw [if_pos hi, isMan_C0 hc hi, ob1_s, if_pos rfl, if_neg (by decide)]
    · have hyN : yN (M.1 (1 + r + 6)) j = i := by unfold yN; rw [hy, clN (by omega)]
      have ih1 := ih n (j + 1) (st1 s i) (a + if onP v i j then 1 else 0) (by omega) (by omega) (st1_lt s i)
      have hno : ¬ (nI i < 0 ∨ nI (vMen v) ≤ nI i) := fun q => q.elim (nI_pos (by omega)) (nI_ge hi (by omega))
      rw [hy, if_neg hno, isMan_C1 hv hc hi, ob1_s, if_neg one_ne, isIn_C hs (by omega), ob1_s, clN (by omega)]
      by_cases hb : s.testBit i = true
      · rw [hb, if_neg (show ¬ bI true = 0 by decide), if_pos (show true = true from rfl), if_neg (show ¬ false = true by decide)]
      · rw [Bool.eq_false_iff.mpr hb, if_pos (show bI false = 0 by decide), if_neg (show ¬ false = true by decide), countedOn_C hv h81 hi (by omega), ob1_s, st1_or hs (by omega), nI_1, show nI a + bI (onP v i j) = nI (a + if onP v i j then 1 else 0) by cases onP v i j; exact ad_z .. ; exact nI_1 .., ih1, cs, hyN, Nat.add_assoc a]
theorem ck_p {n : Nat} {y : Nat → Int32} (hn : n ≤ 6) : ∀ m j s, ck n y m j s = true → ∀ k, j ≤ k → k < j + m → yN y k < n ∧ y k = nI (yN y k) := by
  intro m
  induction m with
  | zero => intro j s _ k h1 h2; omega
  | succ m ih =>
    intro j s h k h1 h2
    unfold ck at h
    rcases rng3 (y j) (n := n) (by omega) with hi | ⟨i, hi, hy⟩
    · rw [if_pos hi] at h; cases h
    · rw [if_neg (by rw [hy]; exact fun q => q.elim (nI_pos (by omega)) (nI_ge hi (by omega)))] at h
      by_cases hb : s.testBit (y j).toNatClampNeg = true
      · rw [if_pos hb] at h; cases h
      · rw [if_neg hb] at h
        by_cases hkj : k = j
        · subst hkj
          have e : yN y k = i := by unfold yN; rw [hy, clN (by omega)]
          rw [e]
          exact ⟨hi, hy⟩
        · exact ih _ _ h k (by omega) (by omega)
theorem sc1089 {x j : Nat} (h : x = 108 ∨ x = 109) : scr x j := by unfold scr sT sR sX sN; omega
theorem ck_cg {n : Nat} {y z : Nat → Int32} : ∀ m j s, (∀ k, j ≤ k → k < j + m → y k = z k) → ck n y m j s = ck n z m j s := by
  intro m
  induction m with
  | zero => intro j s _; rfl
  | succ m ih =>
    intro j s h
    rw [ck, ck, h j (by omega) (by omega), ih _ _ fun k h1 h2 => h k (by omega) (by omega)]
/-! orders of men: the reference's next order -/
def nx7 (p : Nat → Nat) : Nat → Option Nat
  | 0 => none
  | i + 1 => if p i ≤ p (i + 1) then some i else nx7 p i
def nx47 (p : Nat → Nat) (i : Nat) : Nat → Nat
  | 0 => 0
  | j + 1 => if p i ≤ p j then j else nx47 p i j
def swp (p : Nat → Nat) (i j : Nat) : Nat → Nat := setf (setf p i (p j)) j (p i)
def rv : Nat → (Nat → Nat) → Nat → Nat → (Nat → Nat)
  | 0, p, _, _ => p
  | m + 1, p, a, b => if b ≤ a then p else rv m (swp p a b) (a + 1) (b - 1)
def nxO (n : Nat) (p : Nat → Nat) : Option (Nat → Nat) := match nx7 p (n - 1) with
  | none => none
  | some i => some (rv 6 (swp p i (nx47 p i n)) (i + 1) (n - 1))
def lex (n : Nat) : Nat → Nat → List (List Nat)
  | 0, _ => [[]]
  | m + 1, s => (List.range' 0 n).flatMap (fun a => if s.testBit a then [] else (lex n m (st1 s a)).map (fun l => a :: l))
def lf (l : List Nat) (j : Nat) : Nat := l.getD j 0
def okL (n : Nat) (l : List Nat) : Bool := l.length == n
def isL (n : Nat) : Option (Nat → Nat) → Option (List Nat) → Bool
  | none, none => true
  | some q, some l => (List.range n).all fun j => q j == lf l j
  | _, _ => false
def chain (n : Nat) : List (List Nat) → Bool
  | [] => true
  | p :: r => isL n (nxO n (lf p)) r.head? && (p.length == n) && chain n r
set_option maxRecDepth 100000 in
theorem chain_all : ∀ n, n < 7 → 0 < n → ((lex n n 0).head? = some (List.range n) ∧ chain n (lex n n 0) = true ∧ (lex n n 0).length ≤ 720) := by decide +kernel

/-! census: the first best of all orders, and the greedy one -/
def bs (v : NV) (i k : Nat) : Nat := if onP v i k then 1 else 0
def wv (v : NV) : Nat → List Nat → Nat
  | _, [] => 0
  | k, a :: t => bs v a k + wv v (k + 1) t
def cmb : Option (Nat × List Nat) → Option (Nat × List Nat) → Option (Nat × List Nat)
  | none, b => b
  | some x, none => some x
  | some x, some y => if x.1 < y.1 then some y else some x
theorem cmb_n (a : Option (Nat × List Nat)) : cmb a none = a := by cases a <;> rfl
theorem cmb_a (a b c : Option (Nat × List Nat)) : cmb (cmb a b) c = cmb a (cmb b c) := by
  cases a with
  | none => rfl
  | some x =>
    cases b with
    | none => rfl
    | some y =>
      cases c with
      | none => rw [cmb_n, cmb_n]
      | some z =>
        show cmb (if x.1 < y.1 then some y else some x) (some z) = cmb (some x) (if y.1 < z.1 then some z else some y)
        by_cases h1 : x.1 < y.1
        · by_cases h2 : y.1 < z.1
          · rw [if_pos h1, if_pos h2]
            show (if y.1 < z.1 then some z else some y) = if x.1 < z.1 then some z else some x
            rw [if_pos h2, if_pos (by omega)]
          · rw [if_pos h1, if_neg h2]
            show (if y.1 < z.1 then some z else some y) = if x.1 < y.1 then some y else some x
            rw [if_pos h1, if_neg h2]
        · by_cases h2 : y.1 < z.1
          · rw [if_neg h1, if_pos h2]
          · rw [if_neg h1, if_neg h2]
            show (if x.1 < z.1 then some z else some x) = if x.1 < y.1 then some y else some x
            rw [if_neg h1, if_neg (by omega)]
def fa (v : NV) (k : Nat) : Option (Nat × List Nat) → List (List Nat) → Option (Nat × List Nat)
  | b, [] => b
  | b, p :: t => fa v k (cmb b (some (wv v k p, p))) t
theorem fa_cmb (v : NV) (k : Nat) : ∀ l b, fa v k b l = cmb b (fa v k none l) := by
  intro l
  induction l with
  | nil => intro b; exact (cmb_n b).symm
  | cons p t ih =>
    intro b
    rw [fa, fa, ih, ih (cmb none _), ← cmb_a]
    rfl
theorem fa_app (v : NV) (k : Nat) : ∀ l1 l2 b, fa v k b (l1 ++ l2) = fa v k (fa v k b l1) l2 := by
  intro l1
  induction l1 with
  | nil => intro l2 b; rfl
  | cons p t ih => intro l2 b; exact ih _ _
def shf (v : NV) (a k : Nat) (x : Nat × List Nat) : Nat × List Nat := (bs v a k + x.1, a :: x.2)
theorem fa_map (v : NV) (a k : Nat) : ∀ l b, fa v k (b.map (shf v a k)) (l.map (fun p => a :: p)) = (fa v (k + 1) b l).map (shf v a k) := by
  intro l
  induction l with
  | nil => intro b; rfl
  | cons p t ih =>
    intro b
    rw [List.map_cons, fa, fa, ← ih]
    congr 1
    cases b with
    | none => rfl
    | some x =>
      show (if bs v a k + x.1 < bs v a k + wv v (k + 1) p then some (shf v a k (wv v (k + 1) p, p)) else some (shf v a k x)) = Option.map (shf v a k) (if x.1 < wv v (k + 1) p then some (wv v (k + 1) p, p) else some x)
      by_cases h : x.1 < wv v (k + 1) p
      · rw [if_pos h, if_pos (by omega)]; rfl
      · rw [if_neg h, if_neg (by omega)]; rfl
def mxF (c : Nat → Option Nat) : Nat → Nat → Nat
  | 0, _ => 0
  | m + 1, i => max ((c i).getD 0) (mxF c m (i + 1))
def fsF (c : Nat → Option Nat) (g : Nat) : Nat → Nat → Nat
  | 0, _ => 0
  | m + 1, i => if c i = some g then i else fsF c g m (i + 1)
def ff (c : Nat → Option Nat) (h : Nat → List Nat) : Nat → Nat → Option (Nat × List Nat)
  | 0, _ => none
  | m + 1, i => cmb ((c i).map fun x => (x, h i)) (ff c h m (i + 1))
theorem ff_e (c : Nat → Option Nat) (h : Nat → List Nat) : ∀ m i, (ff c h m i = none ∧ mxF c m i = 0 ∧ ∀ j, i ≤ j → j < i + m → c j = none) ∨ (ff c h m i = some (mxF c m i, h (fsF c (mxF c m i) m i)) ∧ i ≤ fsF c (mxF c m i) m i ∧ fsF c (mxF c m i) m i < i + m ∧ c (fsF c (mxF c m i) m i) = some (mxF c m i)) := by
  intro m
  induction m with
  | zero => intro i; exact Or.inl ⟨rfl, rfl, fun j h1 h2 => by omega⟩
  | succ m ih =>
    intro i
    unfold ff mxF fsF
    rcases hc : c i with _ | x
    · rw [show (none : Option Nat).getD 0 = 0 from rfl, Nat.zero_max]
      rcases ih (i + 1) with ⟨a1, a2, a3⟩ | ⟨a1, a2, a3, a4⟩
      · refine Or.inl ⟨a1, a2, fun j h1 h2 => ?_⟩
        by_cases hj : j = i
        · rw [hj]; exact hc
        · exact a3 j (by omega) (by omega)
      · refine Or.inr ?_
        rw [if_neg (by simp)]
        exact ⟨a1, by omega, by omega, a4⟩
    · rw [show (some x : Option Nat).getD 0 = x from rfl]
      rcases ih (i + 1) with ⟨a1, a2, a3⟩ | ⟨a1, a2, a3, a4⟩
      · refine Or.inr ?_
        rw [a1, a2, Nat.max_zero, if_pos rfl]
        exact ⟨rfl, by omega, by omega, hc⟩
      · refine Or.inr ?_
        rw [a1]
        by_cases hlt : x < mxF c m (i + 1)
        · have e : max x (mxF c m (i + 1)) = mxF c m (i + 1) := Nat.max_eq_right (by omega)
          rw [e, if_neg (by intro q; injection q with q; omega)]
          refine ⟨?_, by omega, by omega, a4⟩
          show (if x < mxF c m (i + 1) then _ else _) = _
          rw [if_pos hlt]
        · have e : max x (mxF c m (i + 1)) = x := Nat.max_eq_left (by omega)
          rw [e, if_pos rfl]
          refine ⟨?_, by omega, by omega, hc⟩
          show (if x < mxF c m (i + 1) then _ else _) = _
          rw [if_neg hlt]
def dp (v : NV) (n : Nat) : Nat → Nat → Nat → Nat
  | 0, _, _ => 0
  | m + 1, k, s => mxF (fun i => if s.testBit i then none else some (bs v i k + dp v n m (k + 1) (st1 s i))) n 0
def cand (v : NV) (n m k s : Nat) : Nat → Option Nat := fun i => if s.testBit i then none else some (bs v i k + dp v n m (k + 1) (st1 s i))
def gd (v : NV) (n : Nat) : Nat → Nat → Nat → List Nat
  | 0, _, _ => []
  | m + 1, k, s => fsF (cand v n m k s) (dp v n (m + 1) k s) n 0 :: gd v n m (k + 1) (st1 s (fsF (cand v n m k s) (dp v n (m + 1) k s) n 0))
set_option maxRecDepth 100000 in
theorem sets7a : ∀ n, n < 7 → ∀ s, s < 2 ^ n → ((!decide (pc s < n) || (List.range n).any (fun i => !s.testBit i)) && (!decide (n ≤ pc s) || (List.range n).all (fun i => s.testBit i)) && decide (pc s ≤ n) && (List.range n).all (fun i => s.testBit i || (decide (pc (st1 s i) = pc s + 1) && decide (st1 s i < 2 ^ n) && decide (s < st1 s i)))) = true := by decide +kernel
theorem sets7 (n : Nat) (hn : n < 7) (s : Nat) (hs : s < 2 ^ n) : ((pc s < n → (List.range n).any (fun i => !s.testBit i) = true) ∧ (n ≤ pc s → (List.range n).all (fun i => s.testBit i) = true)) ∧ pc s ≤ n ∧ ∀ i, i < n → s.testBit i = false → (pc (st1 s i) = pc s + 1 ∧ st1 s i < 2 ^ n ∧ s < st1 s i) := by
  have h := sets7a n hn s hs
  rw [Bool.and_eq_true, Bool.and_eq_true, Bool.and_eq_true] at h
  obtain ⟨⟨⟨h1, h2⟩, h3⟩, h4⟩ := h
  refine ⟨⟨fun q => ?_, fun q => ?_⟩, of_decide_eq_true h3, fun i hi hb => ?_⟩
  · rw [decide_eq_true q] at h1
    exact h1
  · rw [decide_eq_true q] at h2
    exact h2
  · have h5 := List.all_eq_true.mp h4 i (List.mem_range.mpr hi)
    rw [hb, Bool.false_or, Bool.and_eq_true, Bool.and_eq_true] at h5
    exact ⟨of_decide_eq_true h5.1.1, of_decide_eq_true h5.1.2, of_decide_eq_true h5.2⟩
theorem set_free {n s : Nat} (hn : n ≤ 6) (hs : s < 2 ^ n) (h : pc s < n) : ∃ i, i < n ∧ s.testBit i = false := by
  have h1 := (sets7 n (by omega) s hs).1.1 h
  rw [List.any_eq_true] at h1
  obtain ⟨i, h2, h3⟩ := h1
  exact ⟨i, List.mem_range.mp h2, by simpa using h3⟩
theorem set_full {n s : Nat} (hn : n ≤ 6) (hs : s < 2 ^ n) (h : n ≤ pc s) {i : Nat} (hi : i < n) : s.testBit i = true := by
  have h1 := (sets7 n (by omega) s hs).1.2 h
  rw [List.all_eq_true] at h1
  exact h1 i (List.mem_range.mpr hi)
theorem lex_ff {v : NV} {n m k s : Nat} (ih : ∀ i, i < n → s.testBit i = false → fa v (k + 1) none (lex n m (st1 s i)) = some (dp v n m (k + 1) (st1 s i), gd v n m (k + 1) (st1 s i))) : ∀ q i, i + q ≤ n → fa v k none ((List.range' i q).flatMap (fun a => if s.testBit a then [] else (lex n m (st1 s a)).map (fun l => a :: l))) = ff (cand v n m k s) (fun a => a :: gd v n m (k + 1) (st1 s a)) q i := by
  intro q
  induction q with
  | zero => intro i _; rfl
  | succ q ihq =>
    intro i hi
    rw [List.range'_succ, List.flatMap_cons, fa_app, fa_cmb, ihq (i + 1) (by omega), ff]
    congr 1
    unfold cand
    by_cases hb : s.testBit i = true
    · rw [if_pos hb, if_pos hb]; rfl
    · rw [if_neg hb, if_neg hb]
      have h1 := fa_map v i k (lex n m (st1 s i)) none
      rw [ih i (by omega) (Bool.eq_false_iff.mpr hb)] at h1
      exact h1
theorem fa_lex {v : NV} {n : Nat} (hn : n ≤ 6) : ∀ m k s, m + k = n → s < 2 ^ n → pc s = k → fa v k none (lex n m s) = some (dp v n m k s, gd v n m k s) := by
  intro m
  induction m with
  | zero => intro k s _ _ _; rfl
  | succ m ih =>
    intro k s hk hs hp
    have h := lex_ff (v := v) (n := n) (m := m) (k := k) (s := s) (fun i hi hb => by
      obtain ⟨a1, a2, a3⟩ := (sets7 n (by omega) s hs).2.2 i hi hb
      exact ih (k + 1) (st1 s i) (by omega) a2 (by omega)) n 0 (by omega)
    rw [lex, h]
    rcases ff_e (cand v n m k s) (fun a => a :: gd v n m (k + 1) (st1 s a)) n 0 with ⟨_, _, a3⟩ | ⟨a1, _⟩
    · obtain ⟨i, hi, hb⟩ := set_free hn hs (by omega)
      have := a3 i (by omega) (by omega)
      unfold cand at this
      rw [hb] at this
      cases this
    · rw [a1]
      rfl
theorem mxF_le {c : Nat → Option Nat} {B : Nat} (h : ∀ i, (c i).getD 0 ≤ B) : ∀ m i, mxF c m i ≤ B := by
  intro m
  induction m with
  | zero => intro i; exact Nat.zero_le _
  | succ m ih => intro i; exact Nat.max_le.mpr ⟨h i, ih _⟩
theorem bs_le (v : NV) (i k : Nat) : bs v i k ≤ 1 := by unfold bs; split <;> omega
theorem cand_le {v : NV} {n m k s : Nat} (h : ∀ t, dp v n m (k + 1) t ≤ m) (i : Nat) : ((cand v n m k s) i).getD 0 ≤ m + 1 := by
  unfold cand
  split
  · exact Nat.zero_le _
  · have := bs_le v i k
    have := h (st1 s i)
    show bs v i k + dp v n m (k + 1) (st1 s i) ≤ m + 1
    omega
theorem dp_le (v : NV) (n : Nat) : ∀ m k s, dp v n m k s ≤ m := by
  intro m
  induction m with
  | zero => intro k s; exact Nat.le_refl _
  | succ m ih =>
    intro k s
    show mxF (cand v n m k s) n 0 ≤ m + 1
    exact mxF_le (cand_le (ih (k + 1))) _ _
theorem mxF_0 {c : Nat → Option Nat} : ∀ m i, (∀ j, i ≤ j → j < i + m → c j = none) → mxF c m i = 0 := by
  intro m
  induction m with
  | zero => intro i _; rfl
  | succ m ih =>
    intro i h
    rw [mxF, h i (by omega) (by omega), ih (i + 1) fun j h1 h2 => h j (by omega) (by omega)]
    rfl
theorem dp_c {v : NV} {n s : Nat} (hn : n ≤ 6) (hs : s < 2 ^ n) : mxF (cand v n (n - pc s - 1) (pc s) s) n 0 = dp v n (n - pc s) (pc s) s := by
  by_cases h : n ≤ pc s
  · rw [show n - pc s = 0 by omega, mxF_0]
    · rfl
    · intro j _ h2
      unfold cand
      rw [set_full hn hs h (by omega)]
      rfl
  · obtain ⟨m, hm⟩ : ∃ m, n - pc s = m + 1 := ⟨n - pc s - 1, by omega⟩
    rw [hm]
    rfl
theorem cs_wv {v : NV} {p : Nat → Nat} : ∀ m j (l : List Nat), l.length = m → (∀ i, i < m → p (j + i) = lf l i) → cs v p m j = wv v j l := by
  intro m
  induction m with
  | zero =>
    intro j l hl _
    cases l with
    | nil => rfl
    | cons a t => cases hl
  | succ m ih =>
    intro j l hl h
    cases l with
    | nil => cases hl
    | cons a t =>
      have h0 : p j = a := h 0 (by omega)
      rw [cs, wv, h0, ih (j + 1) t (by simpa using hl) fun i hi => by
        have := h (i + 1) (by omega)
        rw [show j + 1 + i = j + (i + 1) by omega]
        exact this]
      rfl
theorem wv_le (v : NV) : ∀ (l : List Nat) k, wv v k l ≤ l.length := by
  intro l
  induction l with
  | nil => intro k; exact Nat.le_refl _
  | cons a t ih =>
    intro k
    have := bs_le v a k
    have := ih (k + 1)
    show bs v a k + wv v (k + 1) t ≤ t.length + 1
    omega

/-! census -/
theorem zmx_e {a b : Nat} (ha : a < 2147483648) (hb : b < 2147483648) : zmx (nI a) (nI b) = nI (max a b) := by
  unfold zmx
  by_cases h : a < b
  · rw [if_pos (nI_lt h hb), Nat.max_eq_right (by omega)]
  · rw [if_neg (nI_nlt (by omega) ha), Nat.max_eq_left (by omega)]
def d81 (v : NV) (M : Mm) : Prop := ∀ j, j < 61 → M.1 81 j = nI (whoN v 1 j)
theorem countedFrom_C {fu : Nat} {M : Mm} {v : NV} (hv : okV v) (h81 : d81 v M) {s i g : Nat} (hs : s < 64) (hi : i < vMen v) (hg : M.1 85 (st1 s i) = nI g) : F_X6_countedFrom fu M (nI s) (nI i) = some (nI (bs v i (pc s) + g)) := by
  have hm := hv.1
  have hp := pc_le s
  have hl := st1_lt s i
  have hb : bI (onP v i (pc s)) = nI (bs v i (pc s)) := by
    unfold bs
    cases onP v i (pc s) <;> rfl
  unfold F_X6_countedFrom
  rw [bc_C hs, ob1_s, countedOn_C hv h81 hi (by omega), ob1_s, st1_or hs (by omega), rd85 hl, ob1_s, hg, hb, nI_add]
theorem fill_C20 {fu : Nat} {M : Mm} {v : NV} (hv : okV v) (hc : CV v M) (h81 : d81 v M) (k12 : Mm → Int32 → Option Mm) {s : Nat} (hs : s < 2 ^ vMen v) (h85 : ∀ i, i < vMen v → s.testBit i = false → M.1 85 (st1 s i) = nI (dp v (vMen v) (vMen v - pc s - 1) (pc s + 1) (st1 s i))) : ∀ (q f i a : Nat), i + q = vMen v → q < f → a ≤ 20 → F_X6_fillMostCounted_20 fu k12 f M (nI s) (nI a) (nI i) = k12 (pI M 85 s (nI (max a (mxF (cand v (vMen v) (vMen v - pc s - 1) (pc s) s) q i)))) (nI s + (-1 : Int32)) := by
  intro q
  have hm := hv.1
  have h64 := p2le hv
  induction q with
  | zero =>
    intro f i a hi hf ha
    obtain ⟨f, rfl⟩ : ∃ q, f = q + 1 := ⟨f - 1, by omega⟩
    unfold F_X6_fillMostCounted_20 mxF
    rw [hc.1, if_pos (nI_le (by omega) (by omega)), wr85 (by omega), ob1_s, Nat.max_zero]
  | succ q ih =>
    intro f i a hi hf ha
    obtain ⟨f, rfl⟩ : ∃ q, f = q + 1 := ⟨f - 1, by omega⟩
    unfold F_X6_fillMostCounted_20 mxF
    rw [hc.1, if_neg (nI_ge (by omega) (by omega)), isIn_C (by omega) (by omega), ob1_s, nI_1]
    by_cases hb : s.testBit i = true
    · have e : (cand v (vMen v) (vMen v - pc s - 1) (pc s) s i) = none := by unfold cand; rw [if_pos hb]
      rw [hb, if_neg (show ¬ bI true = 0 by decide), ih f (i + 1) a (by omega) (by omega) ha, e, show (none : Option Nat).getD 0 = 0 from rfl, Nat.zero_max]
    · have hb' := Bool.eq_false_iff.mpr hb
      have e : (cand v (vMen v) (vMen v - pc s - 1) (pc s) s i) = some (bs v i (pc s) + dp v (vMen v) (vMen v - pc s - 1) (pc s + 1) (st1 s i)) := by unfold cand; rw [if_neg hb]
      have b1 := bs_le v i (pc s)
      have b2 := dp_le v (vMen v) (vMen v - pc s - 1) (pc s + 1) (st1 s i)
      rw [hb', if_pos (show bI false = 0 by decide), countedFrom_C hv h81 (by omega) (by omega) (h85 i (by omega) hb'), ob1_s, zmx_e (by omega) (by omega), ih f (i + 1) _ (by omega) (by omega) (Nat.max_le.mpr ⟨ha, by omega⟩), e, show ∀ x : Nat, (some x).getD 0 = x from fun _ => rfl, Nat.max_assoc]
def d85 (v : NV) (M : Mm) (q : Nat) : Prop := ∀ t, q ≤ t → t < 2 ^ vMen v → M.1 85 t = nI (dp v (vMen v) (vMen v - pc t) (pc t) t)
theorem fill_C12 {fu : Nat} (hf : 1000 ≤ fu) {v : NV} (hv : okV v) : ∀ (q f : Nat) (M : Mm), q ≤ 2 ^ vMen v → q < f → CV v M → d81 v M → d85 v M q → ∃ M', F_X6_fillMostCounted_12 fu f M (nI q - 1) = some M' ∧ d85 v M' 0 ∧ Out (fun x _ => x = 85) M M' := by
  intro q
  have hm := hv.1
  have h64 := p2le hv
  induction q with
  | zero =>
    intro f M hq hf' hc h81 h85
    obtain ⟨f, rfl⟩ : ∃ q, f = q + 1 := ⟨f - 1, by omega⟩
    refine ⟨M, ?_, h85, Out.rf⟩
    unfold F_X6_fillMostCounted_12
    rw [if_pos (show nI 0 - 1 < 0 by decide)]
  | succ q ih =>
    intro f M hq hf' hc h81 h85
    obtain ⟨f, rfl⟩ : ∃ q, f = q + 1 := ⟨f - 1, by omega⟩
    have h7 := sets7 (vMen v) (by omega) q (by omega)
    have h20 := fill_C20 (fu := fu) hv hc h81 (F_X6_fillMostCounted_12 fu f) (s := q) (by omega) (fun i hi hb => by
      obtain ⟨b1, b2, b3⟩ := h7.2.2 i hi hb
      have h := h85 (st1 q i) (by omega) b2
      rw [b1, show vMen v - (pc q + 1) = vMen v - pc q - 1 by omega] at h
      exact h) (vMen v) fu 0 0 (by omega) (by omega) (by omega)
    rw [Nat.zero_max, dp_c hm (by omega)] at h20
    obtain ⟨M', a1, a2, a3⟩ := ih f (pI M 85 q (nI (dp v (vMen v) (vMen v - pc q) (pc q) q))) (by omega) (by omega) (hc.p (by omega)) (fun j hj => by rw [pI_n (by omega)]; exact h81 j hj) (fun t h1 h2 => by
      by_cases ht : t = q
      · rw [ht, pI_s]
      · rw [pI_n (by omega)]
        exact h85 t (by omega) h2)
    have e : nI q + (-1 : Int32) = nI q - 1 := by rw [Int32.sub_eq_add_neg]
    refine ⟨M', ?_, a2, (Out.pI (P := fun x _ => x = 85) Out.rf rfl).trans a3⟩
    rw [nI_pred]
    unfold F_X6_fillMostCounted_12
    rw [if_neg (nI_pos (by omega))]
    refine h20.trans ?_
    rw [e]
    exact a1
theorem fill_C {fu : Nat} (hf : 1000 ≤ fu) {M : Mm} {v : NV} (hv : okV v) (hc : CV v M) (h81 : d81 v M) : ∃ M', F_X6_fillMostCounted fu M = some M' ∧ d85 v M' 0 ∧ Out (fun x _ => x = 85) M M' := by
  have h64 := p2le hv
  obtain ⟨M', a1, a2, a3⟩ := fill_C12 hf hv (2 ^ vMen v) fu M (by omega) (by omega) hc h81 (fun t h1 h2 => by omega)
  refine ⟨M', ?_, a2, a3⟩
  unfold F_X6_fillMostCounted
  rw [hc.1, shlm hv, lt1_s]
  exact a1
theorem next_C {fu : Nat} {M : Mm} {v : NV} (hv : okV v) (hc : CV v M) (h81 : d81 v M) (h85 : d85 v M 0) {s g : Nat} (hs : s < 2 ^ vMen v) (hg : g ≤ 20) : ∀ (q f i : Nat), i + q = vMen v → q < f → F_X6_nextCounted_11 fu M f (nI s) (nI g) (nI i) = some (nI (fsF (cand v (vMen v) (vMen v - pc s - 1) (pc s) s) g q i)) := by
  intro q
  have hm := hv.1
  have h64 := p2le hv
  have h7 := sets7 (vMen v) (by omega) s hs
  induction q with
  | zero =>
    intro f i hi hf
    obtain ⟨f, rfl⟩ : ∃ q, f = q + 1 := ⟨f - 1, by omega⟩
    unfold F_X6_nextCounted_11
    rw [hc.1, if_pos (nI_le (by omega) (by omega))]
    rfl
  | succ q ih =>
    intro f i hi hf
    obtain ⟨f, rfl⟩ : ∃ q, f = q + 1 := ⟨f - 1, by omega⟩
    have ih1 := ih f (i + 1) (by omega) (by omega)
    unfold F_X6_nextCounted_11 fsF
    rw [hc.1, if_neg (nI_ge (by omega) (by omega)), isIn_C (by omega) (by omega), ob1_s, nI_1]
    by_cases hb : s.testBit i = true
    · have e : (cand v (vMen v) (vMen v - pc s - 1) (pc s) s i) = none := by unfold cand; rw [if_pos hb]
      rw [hb, if_neg (show ¬ bI true = 0 by decide), ih1, e, if_neg (by intro h; cases h)]
    · have hb' := Bool.eq_false_iff.mpr hb
      obtain ⟨b1, b2, b3⟩ := h7.2.2 i (by omega) hb'
      have e : (cand v (vMen v) (vMen v - pc s - 1) (pc s) s i) = some (bs v i (pc s) + dp v (vMen v) (vMen v - pc s - 1) (pc s + 1) (st1 s i)) := by unfold cand; rw [if_neg hb]
      have h := h85 (st1 s i) (by omega) b2
      rw [b1, show vMen v - (pc s + 1) = vMen v - pc s - 1 by omega] at h
      have c1 := bs_le v i (pc s)
      have c2 := dp_le v (vMen v) (vMen v - pc s - 1) (pc s + 1) (st1 s i)
      rw [hb', if_pos (show bI false = 0 by decide), countedFrom_C hv h81 (by omega) (by omega) h, ob1_s, ih1, e]
      by_cases hq : bs v i (pc s) + dp v (vMen v) (vMen v - pc s - 1) (pc s + 1) (st1 s i) = g
      · rw [hq, if_pos rfl, if_pos rfl]
      · rw [if_neg (by rw [eqN (by omega) (by omega)]; exact hq), if_neg (by intro h; injection h with h; exact hq h)]
theorem census_C45 {fu : Nat} (hf : 1000 ≤ fu) {v : NV} (hv : okV v) {c : Nat} : ∀ (m f k s : Nat) (M : Mm), m + k = vMen v → m < f → s < 2 ^ vMen v → pc s = k → CV v M → d81 v M → d85 v M 0 → ∃ M1, F_X6_census_45 fu f M c (nI s) (nI k) = ob1 (F_X4_take fu M1 c 82 (nI (vMen v))) (fun M3 => ob1 (F_X6_read fu M3 85 (0 : Int32)) (fun r5 => some (r5, M3))) ∧ (∀ j, j < m → M1.1 82 (k + j) = nI (lf (gd v (vMen v) m k s) j)) ∧ (∀ j, j < k → M1.1 82 j = M.1 82 j) ∧ Out (fun x _ => x = 82) M M1 := by
  intro m
  have hm := hv.1
  have h64 := p2le hv
  induction m with
  | zero =>
    intro f k s M hk hf' hs hp hc h81 h85
    obtain ⟨f, rfl⟩ : ∃ q, f = q + 1 := ⟨f - 1, by omega⟩
    refine ⟨M, ?_, fun j hj => by omega, fun j hj => rfl, Out.rf⟩
    unfold F_X6_census_45
    rw [hc.1, if_pos (nI_le (by omega) (by omega))]
  | succ m ih =>
    intro f k s M hk hf' hs hp hc h81 h85
    obtain ⟨f, rfl⟩ : ∃ q, f = q + 1 := ⟨f - 1, by omega⟩
    have h7 := sets7 (vMen v) (by omega) s hs
    have hg := h85 s (by omega) hs
    have hdl := dp_le v (vMen v) (vMen v - pc s) (pc s) s
    have hn := next_C (fu := fu) hv hc h81 h85 hs (g := dp v (vMen v) (vMen v - pc s) (pc s) s) (by omega) (vMen v) fu 0 (by omega) (by omega)
    rw [hp, show vMen v - k - 1 = m by omega, show vMen v - k = m + 1 by omega] at hn
    rw [hp, show vMen v - k = m + 1 by omega] at hg
    have ha : fsF (cand v (vMen v) m k s) (dp v (vMen v) (m + 1) k s) (vMen v) 0 < vMen v ∧ s.testBit (fsF (cand v (vMen v) m k s) (dp v (vMen v) (m + 1) k s) (vMen v) 0) = false := by
      rcases ff_e (cand v (vMen v) m k s) (fun _ => []) (vMen v) 0 with ⟨_, _, a3⟩ | ⟨_, _, a3, a4⟩
      · obtain ⟨i, hi, hb⟩ := set_free hm hs (by omega)
        have := a3 i (by omega) (by omega)
        unfold cand at this
        rw [hb] at this
        cases this
      · have e : mxF (cand v (vMen v) m k s) (vMen v) 0 = dp v (vMen v) (m + 1) k s := rfl
        rw [e] at a3 a4
        refine ⟨by omega, ?_⟩
        by_cases hb : s.testBit (fsF (cand v (vMen v) m k s) (dp v (vMen v) (m + 1) k s) (vMen v) 0) = true
        · rw [show ∀ j, cand v (vMen v) m k s j = if s.testBit j then none else some (bs v j k + dp v (vMen v) m (k + 1) (st1 s j)) from fun _ => rfl, if_pos hb] at a4
          cases a4
        · exact Bool.eq_false_iff.mpr hb
    have hgd : gd v (vMen v) (m + 1) k s = fsF (cand v (vMen v) m k s) (dp v (vMen v) (m + 1) k s) (vMen v) 0 :: gd v (vMen v) m (k + 1) (st1 s (fsF (cand v (vMen v) m k s) (dp v (vMen v) (m + 1) k s) (vMen v) 0)) := rfl
    rw [hgd]
    generalize hA : fsF (cand v (vMen v) m k s) (dp v (vMen v) (m + 1) k s) (vMen v) 0 = A at hn ha ⊢
    obtain ⟨b1, b2, b3⟩ := h7.2.2 A ha.1 ha.2
    obtain ⟨M1, a1, a2, a3, a4⟩ := ih f (k + 1) (st1 s A) (pI M 82 k (nI A)) (by omega) (by omega) b2 (by omega) (hc.p (by omega)) (fun j hj => by rw [pI_n (by omega)]; exact h81 j hj) (fun t h1 h2 => by rw [pI_n (by omega)]; exact h85 t h1 h2)
    refine ⟨M1, ?_, fun j hj => ?_, fun j hj => ?_, (Out.pI (P := fun x _ => x = 82) Out.rf rfl).trans a4⟩
    · unfold F_X6_census_45 F_X6_nextCounted
      rw [hc.1, if_neg (nI_ge (by omega) (by omega)), rd85 (by omega), ob1_s, hg]
      have hn' : F_X6_nextCounted_11 fu M fu (nI s) (nI (dp v (vMen v) (m + 1) k s)) 0 = some (nI A) := hn
      rw [hn', ob1_s, wr82 (by omega), ob1_s, st1_or (by omega) (by omega), nI_1]
      exact a1
    · cases j with
      | zero =>
        rw [Nat.add_zero, a3 k (by omega), pI_s]
        rfl
      | succ j =>
        have := a2 j (by omega)
        rw [show k + 1 + j = k + (j + 1) by omega] at this
        exact this
    · rw [a3 j (by omega), pI_n (by omega)]
theorem m9a : ∀ w, w < 7 → ¬ nI w ≤ (-9 : Int32) := by decide
theorem m9b : ∀ w, w < 7 → (-9 : Int32) ≤ nI w := by decide
theorem scC3 {x j : Nat} (h : x = 81 ∨ x = 82 ∨ x = 85) : scr x j := by unfold scr sT sR sX sN; omega
theorem scX3 {x j : Nat} (h : x = 108 ∨ x = 109 ∨ x = 110) : scr x j := by unfold scr sT sR sX sN; omega
