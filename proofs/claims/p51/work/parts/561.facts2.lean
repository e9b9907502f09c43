/-! bribe: none is wanted just where it is so already; the census' order -/
theorem nsO_p {p : Nat → Bool} {s d : Nat} : ∀ m f, nsO p s m f = some d → p d = true := by
  intro m
  induction m with
  | zero => intro f h; cases h
  | succ m ih =>
    intro f h
    unfold nsO at h
    by_cases h1 : f ≤ s ∧ p (s - f) = true
    · rw [if_pos h1] at h
      injection h with h
      rw [← h]
      exact h1.2
    · rw [if_neg h1] at h
      by_cases h2 : s + f ≤ 9 ∧ p (s + f) = true
      · rw [if_pos h2] at h
        injection h with h
        rw [← h]
        exact h2.2
      · rw [if_neg h2] at h
        exact ih (f + 1) h
theorem nr_p {v : NV} {N i d : Nat} {b : Bool} (h : nr v N i b = some d) : rgtP v i N d = b := by
  have := nsO_p _ _ h
  simpa using this
theorem nr_own {v : NV} {N i : Nat} {b : Bool} (h : rgtP v i N (vShade v i) = b) : nr v N i b = some (vShade v i) := by
  unfold nr nsO
  rw [if_pos ⟨Nat.zero_le _, by rw [Nat.sub_zero, h]; simp⟩, Nat.sub_zero]
/-- who has the RIGHT then, as things are -/
def wN (v : NV) (N : Nat) : Nat := whoN v (vRight v) N
theorem wN_bit {v : NV} {N i : Nat} (hi : i < vMen v) : (wN v N).testBit i = rgtP v i N (vShade v i) := who_bit _ _ hi
theorem ap_0 (a : Nat) : ap a a = 0 := by unfold ap; split <;> omega
theorem cO_own {v : NV} {N : Nat} : ∀ m i a, i + m = vMen v → cO v N (wN v N) m i a = some a := by
  intro m
  induction m with
  | zero => intro i a _; rfl
  | succ m ih =>
    intro i a hi
    unfold cO
    rw [nr_own (wN_bit (by omega)).symm]
    show cO v N (wN v N) m (i + 1) (a + ap (vShade v i) (vShade v i)) = some a
    rw [ap_0]
    exact ih (i + 1) a (by omega)
theorem cO_ge {v : NV} {N s : Nat} : ∀ m i a c, cO v N s m i a = some c → a ≤ c := by
  intro m
  induction m with
  | zero => intro i a c h; injection h with h; omega
  | succ m ih =>
    intro i a c h
    unfold cO at h
    cases hn : nr v N i (s.testBit i) with
    | none => rw [hn] at h; cases h
    | some d =>
      rw [hn] at h
      have := ih (i + 1) _ c h
      omega
theorem cO_some {v : NV} {N s : Nat} : ∀ m i a c, cO v N s m i a = some c → ∀ j, i ≤ j → j < i + m → ∃ d, nr v N j (s.testBit j) = some d ∧ (c = a → d = vShade v j) := by
  intro m
  induction m with
  | zero => intro i a c _ j h1 h2; omega
  | succ m ih =>
    intro i a c h j h1 h2
    unfold cO at h
    cases hn : nr v N i (s.testBit i) with
    | none => rw [hn] at h; cases h
    | some d =>
      rw [hn] at h
      have hg := cO_ge _ _ _ _ h
      by_cases hj : j = i
      · subst hj
        refine ⟨d, hn, fun e => ?_⟩
        have : ap d (vShade v j) = 0 := by omega
        unfold ap at this
        split at this <;> omega
      · obtain ⟨d', q1, q2⟩ := ih (i + 1) _ c h j (by omega) (by omega)
        exact ⟨d', q1, fun e => q2 (by omega)⟩
theorem bits_eq {s t n : Nat} (hs : s < 2 ^ n) (ht : t < 2 ^ n) (h : ∀ j, j < n → s.testBit j = t.testBit j) : s = t := by
  apply Nat.eq_of_testBit_eq
  intro j
  by_cases hj : j < n
  · exact h j hj
  · rw [Nat.testBit_lt_two_pow (Nat.lt_of_lt_of_le hs (Nat.pow_le_pow_right (n := 2) (by decide) (by omega))), Nat.testBit_lt_two_pow (Nat.lt_of_lt_of_le ht (Nat.pow_le_pow_right (n := 2) (by decide) (by omega)))]
theorem bribe_none {v : NV} {N : Nat} {b : Bool} (h : bst v N b (2 ^ vMen v) 0 none = none) : ¬ (carr v (wN v N) == b) = true := by
  intro hq
  obtain ⟨-, -, i3⟩ := bst_spec (v := v) (N := N) (b := b) (2 ^ vMen v) 0 none
  obtain ⟨c', t', e, -⟩ := i3 0 (wN v N) (Nat.zero_le _) (by rw [Nat.zero_add]; exact whoN_lt2 _ _ _) (cO_own (vMen v) 0 0 (by omega)) hq
  rw [h] at e
  cases e
theorem bribe_some {v : NV} {N : Nat} {b : Bool} {c s : Nat} (h : bst v N b (2 ^ vMen v) 0 none = some (c, s)) : s < 2 ^ vMen v ∧ (carr v s == b) = true ∧ ((c = 0) = ((carr v (wN v N) == b) = true)) ∧ ∀ j, j < vMen v → ∃ d, nr v N j (s.testBit j) = some d := by
  obtain ⟨i1, -, i3⟩ := bst_spec (v := v) (N := N) (b := b) (2 ^ vMen v) 0 none
  rcases i1 c s h with q | ⟨-, q2, q3, q4⟩
  · cases q
  · rw [Nat.zero_add] at q2
    have hd := cO_some _ _ _ _ q3
    refine ⟨q2, q4, propext ⟨fun e => ?_, fun e => ?_⟩, fun j hj => ?_⟩
    · have : s = wN v N := bits_eq q2 (whoN_lt2 _ _ _) fun j hj => by
        obtain ⟨d, e1, e2⟩ := hd j (Nat.zero_le _) (by omega)
        have e3 := nr_p e1
        rw [e2 e] at e3
        rw [wN_bit hj]
        exact e3.symm
      rw [← this]
      exact q4
    · obtain ⟨c', t', e1, e2⟩ := i3 0 (wN v N) (Nat.zero_le _) (by rw [Nat.zero_add]; exact whoN_lt2 _ _ _) (cO_own (vMen v) 0 0 (by omega)) e
      rw [h] at e1
      injection e1 with e1
      injection e1 with e1 e3
      omega
    · obtain ⟨d, e1, -⟩ := hd j (Nat.zero_le _) (by omega)
      exact ⟨d, e1⟩
theorem who_sh {v : NV} {N s : Nat} {D : Nat → Nat} (hs : s < 2 ^ vMen v) (h : ∀ j, j < vMen v → nr v N j (s.testBit j) = some (D j)) : wN (shV v D) N = s := by
  refine bits_eq (n := vMen v) (whoN_lt2 (shV v D) _ _) hs fun j hj => ?_
  have e : (wN (shV v D) N).testBit j = rgtP (shV v D) j N (vShade (shV v D) j) := wN_bit (v := shV v D) hj
  rw [e]
  show hasR (vKind v j) (vBulk v j - melF (shV v D) (vKind v j) (D j) 0 N) (vRight v) = _
  rw [melF_sh]
  exact nr_p (h j hj)
theorem carr_sh (v : NV) (D : Nat → Nat) (s : Nat) : carr (shV v D) s = carr v s := carr_alk (v := shV v D) (w := v) ⟨rfl, rfl, rfl⟩ s
theorem nI_rng2 {i n : Nat} (h : i < n) (hn : n < 2147483648) : ¬ (nI i < 0 ∨ nI n ≤ nI i) := fun q => q.elim (fun q => nI_pos (by omega) q) (fun q => nI_ge h hn q)
/-- the order that the class takes: all once; as many are there as it tells -/
theorem gd_ok {v : NV} {n : Nat} (hn : n ≤ 6) : ∀ m k s, m + k = n → s < 2 ^ n → pc s = k → (gd v n m k s).length = m ∧ wv v k (gd v n m k s) = dp v n m k s ∧ (∀ i, i < m → lf (gd v n m k s) i < n) ∧ ∀ (y : Nat → Int32) j, (∀ i, i < m → y (j + i) = nI (lf (gd v n m k s) i)) → ck n y m j s = true := by
  intro m
  induction m with
  | zero => intro k s _ _ _; exact ⟨rfl, rfl, fun i hi => absurd hi (Nat.not_lt_zero i), fun y j _ => rfl⟩
  | succ m ih =>
    intro k s hk hs hp
    have hff := ff_e (cand v n m k s) (fun _ => []) n 0
    have hmx : mxF (cand v n m k s) n 0 = dp v n (m + 1) k s := rfl
    have hfree : ∃ i, i < n ∧ s.testBit i = false := set_free hn hs (by omega)
    rcases hff with ⟨-, -, h0⟩ | ⟨-, h1, h2, h3⟩
    · obtain ⟨i, hi, hb⟩ := hfree
      have := h0 i (Nat.zero_le _) (by omega)
      unfold cand at this
      rw [hb] at this
      cases this
    · rw [hmx] at h1 h2 h3
      have hg : gd v n (m + 1) k s = fsF (cand v n m k s) (dp v n (m + 1) k s) n 0 :: gd v n m (k + 1) (st1 s (fsF (cand v n m k s) (dp v n (m + 1) k s) n 0)) := rfl
      rw [hg]
      generalize fsF (cand v n m k s) (dp v n (m + 1) k s) n 0 = i0 at h1 h2 h3 ⊢
      have hi0 : i0 < n := by omega
      have hb : s.testBit i0 = false := by
        unfold cand at h3
        cases hb : s.testBit i0
        · rfl
        · rw [hb, if_pos rfl] at h3
          cases h3
      obtain ⟨-, -, h7⟩ := sets7 n (by omega) s hs
      obtain ⟨p1, p2⟩ := h7 i0 hi0 hb
      obtain ⟨r1, r2, r3, r4⟩ := ih (k + 1) (st1 s i0) (by omega) (by first | exact p2 | exact p2.1) (by omega)
      refine ⟨by rw [List.length_cons, r1], ?_, fun i hi => ?_, fun y j hy => ?_⟩
      · show bs v i0 k + wv v (k + 1) (gd v n m (k + 1) (st1 s i0)) = _
        rw [r2]
        unfold cand at h3
        rw [hb, if_neg (by decide)] at h3
        injection h3
      · cases i with
        | zero => exact hi0
        | succ i => exact r3 i (by omega)
      · have y0 := hy 0 (by omega)
        rw [Nat.add_zero] at y0
        have y0 : y j = nI i0 := y0
        unfold ck
        rw [y0, if_neg (nI_rng2 hi0 (by omega)), clN (by omega), hb, if_neg (by decide)]
        exact r4 y (j + 1) fun i hi => by
          have := hy (i + 1) (by omega)
          rwa [show j + (i + 1) = j + 1 + i by omega] at this
