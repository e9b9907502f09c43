/-! by turns: the mask, and what is laid -/
theorem sl64 : ∀ n, n < 64 → (((nI n).toInt64 &&& 63).toBitVec.smod 64).toNat = n := by decide +kernel
theorem su64 : ∀ n, n < 64 → (((nI n).toInt64.toUInt64 &&& Int64.toUInt64 63).toBitVec % 64).toNat = n := by decide +kernel
theorem one64 (k : Nat) : (1 : Int64).toBitVec.getLsbD k = decide (k = 0) := by
  show (1#64).getLsbD k = _
  rw [BitVec.getLsbD_one]
  simp
theorem mB_b {x : Int64} {s : Nat} (hs : s < 64) : mB x s = x.toBitVec.getLsbD s := by
  have e : ((x.toUInt64 >>> ((nI s).toInt64.toUInt64 &&& Int64.toUInt64 63)).toInt64).toBitVec = x.toBitVec >>> s := by
    show x.toBitVec >>> (((nI s).toInt64.toUInt64 &&& Int64.toUInt64 63).toBitVec % 64) = x.toBitVec >>> s
    rw [BitVec.ushiftRight_eq', su64 s hs]
  unfold mB
  cases hb : x.toBitVec.getLsbD s
  · refine decide_eq_false fun q => ?_
    rw [lg_cmp_eq, ← Int64.toBitVec_inj, Int64.toBitVec_and, e] at q
    have q2 := congrArg (fun b : BitVec 64 => b.getLsbD 0) q
    rw [BitVec.getLsbD_and, BitVec.getLsbD_ushiftRight, Nat.add_zero, hb, one64] at q2
    exact absurd q2 (by decide)
  · refine decide_eq_true ?_
    rw [lg_cmp_eq, ← Int64.toBitVec_inj, Int64.toBitVec_and, e]
    refine BitVec.eq_of_getLsbD_eq fun i hi => ?_
    rw [BitVec.getLsbD_and, BitVec.getLsbD_ushiftRight, one64]
    by_cases h0 : i = 0
    · rw [h0, Nat.add_zero, hb]; rfl
    · rw [decide_eq_false h0, Bool.and_false]
theorem mB_or {x : Int64} {s t : Nat} (hs : s < 64) (ht : t < 64) : mB (x ||| ((1 : Int64) <<< ((nI s).toInt64 &&& 63))) t = (mB x t || decide (t = s)) := by
  rw [mB_b ht, mB_b ht, Int64.toBitVec_or, BitVec.getLsbD_or, Int64.toBitVec_shiftLeft]
  show (_ || ((1 : Int64).toBitVec <<< ((nI s).toInt64 &&& 63).toBitVec.smod 64).getLsbD t) = _
  rw [BitVec.shiftLeft_eq', sl64 s hs, BitVec.getLsbD_shiftLeft, one64]
  by_cases h : t < s
  · rw [decide_eq_true h, decide_eq_false (show ¬ t = s by omega)]
    simp
  · rw [decide_eq_false h, decide_eq_true ht]
    by_cases h2 : t = s
    · simp [h2]
    · rw [decide_eq_false h2, decide_eq_false (show ¬ t - s = 0 by omega)]
      simp
theorem mB_0 {t : Nat} (ht : t < 64) : mB 0 t = false := by
  rw [mB_b ht]
  exact BitVec.getLsbD_zero
theorem prepare_C94 {fu : Nat} (hf : 1000 ≤ fu) {v : NV} (hv : okV v) : ∀ (m n : Nat) (M : Mm) (s : Nat), s + m = 2 ^ vMen v → m < n → CV v M → M.1 74 0 = nI (vMen v) → (∀ t, t < 64 → mB (M.2 74 2) t = (decide (t < s) && carr v t)) → ∃ M', F_X1_prepare_94 fu n M 24 (nI s) = some M' ∧ M'.1 = M.1 ∧ Out (fun x _ => x = 74) M M' ∧ ∀ t, t < 2 ^ vMen v → mB (M'.2 74 2) t = carr v t := by
  intro m
  have h64 := p2le hv
  induction m with
  | zero =>
    intro n M s hs hn hc h0 hm
    obtain ⟨n, rfl⟩ : ∃ q, n = q + 1 := ⟨n - 1, by omega⟩
    refine ⟨M, ?_, rfl, Out.rf, fun t ht => by rw [hm t (by omega), decide_eq_true (by omega), Bool.true_and]⟩
    unfold F_X1_prepare_94
    rw [h0, shlm hv, if_pos (nI_le (by omega) (by omega))]
  | succ m ih =>
    intro n M s hs hn hc h0 hm
    obtain ⟨n, rfl⟩ : ∃ q, n = q + 1 := ⟨n - 1, by omega⟩
    unfold F_X1_prepare_94
    rw [h0, shlm hv, if_neg (nI_ge (by omega) (by omega)), isCarriedBy_C hf hv hc (by omega), ob1_s, nI_1]
    by_cases hb : carr v s = true
    · rw [hb, if_neg (by decide), lt1_s]
      obtain ⟨M', a1, a2, a3, a4⟩ := ih n (pL M 74 2 ((M.2 74 2) ||| ((1 : Int64) <<< ((nI s).toInt64 &&& 63)))) (s + 1) (by omega) (by omega) hc h0 (fun t ht => by
        rw [pL_s, mB_or (by omega) ht, hm t ht]
        by_cases hts : t = s
        · rw [hts, hb, decide_eq_true (rfl : s = s), decide_eq_true (show s < s + 1 by omega), Bool.or_true]
          rfl
        · rw [decide_eq_false hts, Bool.or_false]
          by_cases hlt : t < s
          · rw [decide_eq_true hlt, decide_eq_true (show t < s + 1 by omega)]
          · rw [decide_eq_false hlt, decide_eq_false (show ¬ t < s + 1 by omega)])
      exact ⟨M', a1, a2, Out.trans (Out.pL (P := fun x _ => x = 74) Out.rf rfl) a3, a4⟩
    · rw [Bool.eq_false_iff.mpr hb, if_pos (by decide)]
      refine ih n M (s + 1) (by omega) (by omega) hc h0 fun t ht => ?_
      rw [hm t ht]
      by_cases hts : t = s
      · rw [hts, Bool.eq_false_iff.mpr hb, Bool.and_false, Bool.and_false]
      · by_cases hlt : t < s
        · rw [decide_eq_true hlt, decide_eq_true (show t < s + 1 by omega)]
        · rw [decide_eq_false hlt, decide_eq_false (show ¬ t < s + 1 by omega)]
theorem prepare_C28 {fu : Nat} (hf : 1000 ≤ fu) {v : NV} (hv : okV v) {M : Mm} (hc : CV v M) (k15 : Mm → Nat → Int32 → Option Mm) {i : Nat} (hi : i < vMen v) : ∀ (m n b : Nat), b + m = 10 → m < n → F_X1_prepare_28 fu k15 n M 24 (nI i) (nI (bset (rgtP v i 3) b)) (nI b) = ob1 (F_X1_place fu (pI M 76 i (nI (bset (rgtP v i 3) 10))) (nI i) (nI (vShade v i))) (fun M7 => k15 M7 24 (nI (i + 1))) := by
  intro m
  have hm := hv.1
  induction m with
  | zero =>
    intro n b hb hn
    obtain ⟨n, rfl⟩ : ∃ q, n = q + 1 := ⟨n - 1, by omega⟩
    have hb10 : b = 10 := by omega
    subst hb10
    unfold F_X1_prepare_28
    rw [L9, if_pos (nI_lt (by omega) (by omega)), wr76 (by omega), ob1_s, show 24 + 5 = 29 from rfl, rd29 (by omega), ob1_s, pI_n (x := 76) (y := 29) (by omega), (hc.2.2.2.2 i hi).2.2.2, nI_1]
  | succ m ih =>
    intro n b hb hn
    obtain ⟨n, rfl⟩ : ∃ q, n = q + 1 := ⟨n - 1, by omega⟩
    have ih1 := ih n (b + 1) (by omega) (by omega)
    have hset := bset_lt (rgtP v i 3) b
    unfold F_X1_prepare_28
    rw [L9, if_neg (nI_nlt (by omega) (by omega)), L3, rgt_C hf hv hc hi (by omega) (by omega), ob1_s, nI_1, ← ih1]
    rw [show bset (rgtP v i 3) (b + 1) = bset (rgtP v i 3) b + (if rgtP v i 3 b then 2 ^ b else 0) from rfl]
    by_cases hq : rgtP v i 3 b = true
    · rw [hq, if_neg (by decide), or_bit b (by omega) _ hset, if_pos rfl]
    · rw [Bool.eq_false_iff.mpr hq, if_pos (by decide), if_neg (by decide)]
      rfl
theorem un_bit : ∀ i, i < 6 → ∀ s, s < 2 ^ i → nI s &&& (((1 : Int32) <<< (nI i &&& 31)) ^^^ (-1 : Int32)) = nI s := by decide +kernel
def gSh (v : NV) : Nat → Bool := fun j => rgtP v j 3 (vShade v j)
theorem place_C1 {fu : Nat} {M : Mm} {v : NV} (hv : okV v) {i : Nat} (hi : i < vMen v) (h1 : M.1 74 1 = nI (bset (gSh v) i)) (h6 : M.1 76 i = nI (bset (rgtP v i 3) 10)) : F_X1_place fu M (nI i) (nI (vShade v i)) = some (pI (pI M 75 i (nI (vShade v i))) 74 1 (nI (bset (gSh v) (i + 1)))) := by
  have hm := hv.1
  obtain ⟨b1, b2, b3, hx⟩ := hv.2.2.2.2.2 i hi
  have hset := bset_lt (gSh v) i
  have hb : (bset (rgtP v i 3) 10).testBit (vShade v i) = gSh v i := by rw [bset_bit, decide_eq_true (show vShade v i < 10 by omega), Bool.true_and]; rfl
  unfold F_X1_place F_X6_isIn
  rw [wr75 (by omega), ob1_s, rd76 (by omega), ob1_s, pI_n (x := 75) (y := 76) (by omega), h6, isIn10 _ (by omega) _ (bset_lt _ _), hb, pI_n (x := 75) (y := 74) (by omega), h1, show bset (gSh v) (i + 1) = bset (gSh v) i + (if gSh v i then 2 ^ i else 0) from rfl, un_bit i (by omega) _ hset, or_bit i (by omega) _ hset]
  cases gSh v i <;> rfl
theorem prepare_C15 {fu : Nat} (hf : 1000 ≤ fu) {v : NV} (hv : okV v) : ∀ (m n : Nat) (M : Mm) (i : Nat), i + m = vMen v → m < n → CV v M → M.1 74 0 = nI (vMen v) → M.1 74 1 = nI (bset (gSh v) i) → (∀ j, j < i → M.1 75 j = nI (vShade v j) ∧ M.1 76 j = nI (bset (rgtP v j 3) 10)) → ∃ M', F_X1_prepare_15 fu n M 24 (nI i) = some M' ∧ GQ v (vShade v) M' ∧ Out (fun x _ => x = 74 ∨ x = 75 ∨ x = 76) M M' := by
  intro m
  have hm := hv.1
  have h64 := p2le hv
  induction m with
  | zero =>
    intro n M i hi hn hc h0 h1 h2
    obtain ⟨n, rfl⟩ : ∃ q, n = q + 1 := ⟨n - 1, by omega⟩
    obtain ⟨M', a1, a2, a3, a4⟩ := prepare_C94 hf hv (2 ^ vMen v) fu (pL M 74 2 0) 0 (by omega) (by omega) (hc.cg fun c _ _ => rfl) h0 (fun t ht => by rw [pL_s, mB_0 ht]; rfl)
    refine ⟨M', ?_, ⟨?_, ?_, fun j hj => ?_, a4⟩, ?_⟩
    · unfold F_X1_prepare_15
      rw [h0, if_pos (nI_le (by omega) (by omega)), lt1_s]
      exact a1
    · rw [a2]; exact h0
    · rw [a2, show gv v (vShade v) = bset (gSh v) (vMen v) from rfl, ← show i = vMen v by omega]; exact h1
    · rw [a2]; exact h2 j (by omega)
    · exact Out.trans (Out.pL Out.rf (Or.inl rfl)) (a3.wk fun x j q => Or.inl q)
  | succ m ih =>
    intro n M i hi hn hc h0 h1 h2
    obtain ⟨n, rfl⟩ : ∃ q, n = q + 1 := ⟨n - 1, by omega⟩
    have hb1 := prepare_C28 hf hv hc (F_X1_prepare_15 fu n) (i := i) (by omega) 10 fu 0 (by omega) (by omega)
    have hp := place_C1 (fu := fu) (M := pI M 76 i (nI (bset (rgtP v i 3) 10))) hv (i := i) (by omega) (by rw [pI_n (by omega)]; exact h1) pI_s
    obtain ⟨M', a1, a2, a3⟩ := ih n (pI (pI (pI M 76 i (nI (bset (rgtP v i 3) 10))) 75 i (nI (vShade v i))) 74 1 (nI (bset (gSh v) (i + 1)))) (i + 1) (by omega) (by omega) (((hc.p (by omega)).p (by omega)).p (by omega)) (by rw [pI_n (by omega), pI_n (by omega), pI_n (by omega)]; exact h0) pI_s (fun j hj => by
      by_cases hji : j = i
      · subst hji
        exact ⟨by rw [pI_n (by omega), pI_s], by rw [pI_n (by omega), pI_n (by omega), pI_s]⟩
      · exact ⟨by rw [pI_n (by omega), pI_n (by omega), pI_n (by omega)]; exact (h2 j (by omega)).1, by rw [pI_n (by omega), pI_n (by omega), pI_n (by omega)]; exact (h2 j (by omega)).2⟩)
    refine ⟨M', ?_, a2, Out.trans (Out.pI (Out.pI (Out.pI Out.rf (Or.inr (Or.inr rfl))) (Or.inr (Or.inl rfl))) (Or.inl rfl)) a3⟩
    unfold F_X1_prepare_15
    rw [h0, if_neg (nI_ge (by omega) (by omega))]
    refine hb1.trans ?_
    rw [hp, ob1_s]
    exact a1
theorem prepare_C {fu : Nat} (hf : 1000 ≤ fu) {M : Mm} {v : NV} (hv : okV v) (hc : CV v M) : ∃ M', F_X1_prepare fu M 24 = some M' ∧ GQ v (vShade v) M' ∧ Out (fun x _ => x = 74 ∨ x = 75 ∨ x = 76) M M' := by
  have hm := hv.1
  obtain ⟨M', a1, a2, a3⟩ := prepare_C15 hf hv (vMen v) fu (pI (pI M 74 0 (M.1 24 0)) 74 1 0) 0 (by omega) (by omega) ((hc.p (by omega)).p (by omega)) (by rw [pI_n (by omega), pI_s]; exact hc.1) pI_s (fun j hj => by omega)
  refine ⟨M', ?_, a2, Out.trans (Out.pI (Out.pI Out.rf (Or.inl rfl)) (Or.inl rfl)) a3⟩
  unfold F_X1_prepare
  rw [lt1_s, lt1_s]
  exact a1
