/-! counted -/
def gN (v : NV) (i : Nat) : Nat := match srO (goneP v i) 61 0 with | none => 1000000 | some d => d
def onP (v : NV) (i k : Nat) : Bool := decide (k < gN v i)
theorem srO_n {p : Nat → Bool} : ∀ m d, srO p m d = none → ∀ j, d ≤ j → j < d + m → p j = false := by
  intro m
  induction m with
  | zero => intro d _ j h1 h2; omega
  | succ m ih =>
    intro d h j h1 h2
    unfold srO at h
    by_cases hp : p d = true
    · rw [if_pos hp] at h; cases h
    · rw [if_neg hp] at h
      by_cases hj : j = d
      · rw [hj]; exact Bool.eq_false_iff.mpr hp
      · exact ih _ h j (by omega) (by omega)
theorem srO_m {p : Nat → Bool} {e : Nat} : ∀ m d, srO p m d = some e → ∀ j, d ≤ j → j < e → p j = false := by
  intro m
  induction m with
  | zero => intro d h; cases h
  | succ m ih =>
    intro d h j h1 h2
    unfold srO at h
    by_cases hp : p d = true
    · rw [if_pos hp] at h
      injection h with h
      omega
    · rw [if_neg hp] at h
      by_cases hj : j = d
      · rw [hj]; exact Bool.eq_false_iff.mpr hp
      · exact ih _ h j (by omega) h2
theorem goneP_up (v : NV) (i : Nat) {d : Nat} (h : goneP v i d = true) : ∀ k, goneP v i (d + k) = true := by
  intro k
  induction k with
  | zero => exact h
  | succ k ih =>
    unfold goneP at ih ⊢
    have a := of_decide_eq_true ih
    have b := melF_s v (vKind v i) (vShade v i) (d + k) 0
    rw [Nat.zero_add] at b
    refine decide_eq_true ?_
    rw [← Nat.add_assoc, b]
    omega
theorem gN_le (v : NV) (i : Nat) : gN v i ≤ 1000000 := by
  unfold gN
  cases h : srO (goneP v i) 61 0 with
  | none => exact Nat.le_refl _
  | some d => exact Nat.le_of_lt (by have := srO_r _ _ h; show d < 1000000; omega)
theorem onP_e {v : NV} (hv : okV v) {i k : Nat} (hi : i < vMen v) (hk : k < 61) : (whoN v 1 k).testBit i = onP v i k := by
  have e : (whoN v 1 k).testBit i = !goneP v i k := by
    unfold whoN
    rw [bset_bit, decide_eq_true hi, Bool.true_and]
    unfold whoF goneP
    rw [hasR_1, ← decide_not]
    exact decide_eq_decide.mpr (by omega)
  rw [e]
  unfold onP gN
  cases h : srO (goneP v i) 61 0 with
  | none => rw [srO_n _ _ h k (by omega) (by omega), decide_eq_true (show k < 1000000 by omega)]; rfl
  | some d =>
    have hr := srO_r _ _ h
    show _ = decide (k < d)
    by_cases hkd : k < d
    · rw [srO_m _ _ h k (by omega) hkd, decide_eq_true hkd]; rfl
    · have := goneP_up v i hr.2.2 (k - d)
      rw [show d + (k - d) = k by omega] at this
      rw [this, decide_eq_false hkd]; rfl
/-- how many are counted, men by a list of places -/
def cs (v : NV) (p : Nat → Nat) : Nat → Nat → Nat
  | 0, _ => 0
  | m + 1, j => (if onP v (p j) j then 1 else 0) + cs v p m (j + 1)
def st1 (s i : Nat) : Nat := bset (fun j => j == i || s.testBit j) 6
/-- every number a man, none twice -/
def ck (n : Nat) (y : Nat → Int32) : Nat → Nat → Nat → Bool
  | 0, _, _ => true
  | m + 1, j, s => if y j < 0 ∨ nI n ≤ y j then false else if s.testBit (y j).toNatClampNeg = true then false else ck n y m (j + 1) (st1 s (y j).toNatClampNeg)
def yN (y : Nat → Int32) (j : Nat) : Nat := (y j).toNatClampNeg
theorem st1_or {s i : Nat} (hs : s < 64) (hi : i < 6) : nI s ||| ((1 : Int32) <<< (nI i &&& 31)) = nI (st1 s i) := (setb_all i hi s hs).1
theorem st1_lt (s i : Nat) : st1 s i < 64 := bset_lt _ 6
theorem countedOn_C {fu : Nat} {M : Mm} {v : NV} (hv : okV v) (h81 : ∀ j, j < 61 → M.1 81 j = nI (whoN v 1 j)) {i k : Nat} (hi : i < vMen v) (hk : k < 61) : F_X6_countedOn fu M (nI i) (nI k) = some (bI (onP v i k)) := by
  have hm := hv.1
  have hw : whoN v 1 k < 64 := set_lt hv _ (Nat.le_refl _)
  unfold F_X6_countedOn F_X6_isIn
  rw [rd81 (by omega), ob1_s, h81 k hk, isInE hw (by omega), onP_e hv hi hk]
  cases onP v i k <;> rfl
theorem counted_C77 {fu : Nat} {M : Mm} {v : NV} (hv : okV v) (hc : CV v M) (h81 : ∀ j, j < 61 → M.1 81 j = nI (whoN v 1 j)) {r : Nat} (hr : r < 6) : ∀ (m n j s a : Nat), j + m = vMen v → m < n → s < 64 → F_X6_counted_77 fu n M (1 + r) (nI s) (nI a) (nI j) = (if ck (vMen v) (M.1 (1 + r + 6)) m j s = true then some (nI (a + cs v (yN (M.1 (1 + r + 6))) m j), M) else some (-3, fC 3 M)) := by
  intro m
  have hm := hv.1
  induction m with
  | zero =>
    intro n j s a hj hn hs
    obtain ⟨n, rfl⟩ : ∃ q, n = q + 1 := ⟨n - 1, by omega⟩
    unfold F_X6_counted_77
    rw [hc.1, if_pos (nI_le (by omega) (by omega))]
    rfl
  | succ m ih =>
    intro n j s a hj hn hs
    obtain ⟨n, rfl⟩ : ∃ q, n = q + 1 := ⟨n - 1, by omega⟩
    unfold F_X6_counted_77 ck F_X6_counted_121
    rw [hc.1, if_neg (nI_ge (by omega) (by omega)), rdR hr (by omega), ob1_s, fnd3_C, ob2_s]
    rcases rng3 (M.1 (1 + r + 6) j) (n := vMen v) (by omega) with hi | ⟨i, hi, hy⟩
    · rw [if_pos hi, isMan_C0 hc hi, ob1_s, if_pos rfl, if_neg (by decide)]
    · have hyN : yN (M.1 (1 + r + 6)) j = i := by unfold yN; rw [hy, clN (by omega)]
      have ih1 := ih n (j + 1) (st1 s i) (a + if onP v i j then 1 else 0) (by omega) (by omega) (st1_lt s i)
      have hno : ¬ (nI i < 0 ∨ nI (vMen v) ≤ nI i) := fun q => q.elim (nI_pos (by omega)) (nI_ge hi (by omega))
      rw [hy, if_neg hno, isMan_C1 hv hc hi, ob1_s, if_neg one_ne, isIn_C hs (by omega), ob1_s, clN (by omega)]
      by_cases hb : s.testBit i = true
      · rw [hb, if_neg (show ¬ bI true = 0 by decide), if_pos (show true = true from rfl), if_neg (show ¬ false = true by decide)]
      · rw [Bool.eq_false_iff.mpr hb, if_pos (show bI false = 0 by decide), if_neg (show ¬ false = true by decide), countedOn_C hv h81 hi (by omega), ob1_s, st1_or hs (by omega), nI_1, show nI a + bI (onP v i j) = nI (a + if onP v i j then 1 else 0) by cases onP v i j; exact ad_z .. ; exact nI_1 .., ih1, cs, hyN, Nat.add_assoc a]
theorem layGone_X2 {fu : Nat} (hf : 1000 ≤ fu) {v : NV} (hv : okV v) : ∀ (m n : Nat) (M : Mm) (i : Nat), i + m = vMen v → m < n → XV v M → (∀ j, j < i → M.1 108 j = nI (gN v j) ∧ M.1 109 j = nI j) → ∃ M', F_X7_layGone_2 fu n M (nI i) = some M' ∧ (∀ j, j < vMen v → M'.1 108 j = nI (gN v j) ∧ M'.1 109 j = nI j) ∧ Out (fun x _ => x = 108 ∨ x = 109) M M' := by
  intro m
  have hm := hv.1
  induction m with
  | zero =>
    intro n M i hi hn hx h
    obtain ⟨n, rfl⟩ : ∃ q, n = q + 1 := ⟨n - 1, by omega⟩
    refine ⟨M, ?_, fun j hj => h j (by omega), Out.rf⟩
    unfold F_X7_layGone_2
    rw [hx.1, if_pos (nI_le (by omega) (by omega))]
  | succ m ih =>
    intro n M i hi hn hx h
    obtain ⟨n, rfl⟩ : ∃ q, n = q + 1 := ⟨n - 1, by omega⟩
    obtain ⟨M', a1, a2, a3⟩ := ih n (pI (pI M 108 i (nI (gN v i))) 109 i (nI i)) (i + 1) (by omega) (by omega) (hx.cg (fun c h1 h2 => by rw [(pI_off c (by omega)).1, (pI_off c (by omega)).1]) (by rw [pI_n (by omega), pI_n (by omega)]) (by rw [pI_n (by omega), pI_n (by omega)]) (by rw [pI_n (by omega), pI_n (by omega)])) (fun j hj => by
      by_cases hji : j = i
      · subst hji
        exact ⟨by rw [pI_n (by omega), pI_s], pI_s⟩
      · exact ⟨by rw [pI_n (by omega), pI_n (by omega)]; exact (h j (by omega)).1, by rw [pI_n (by omega), pI_n (by omega)]; exact (h j (by omega)).2⟩)
    refine ⟨M', ?_, a2, ((Out.pI (Out.pI Out.rf (Or.inl rfl)) (Or.inr rfl))).trans a3⟩
    unfold F_X7_layGone_2
    rw [hx.1, if_neg (nI_ge (by omega) (by omega)), goneIn_X hf hv hx (by omega), ob1_s, srch_o, xr108 (by omega), xr108 (by omega), lt1_s, xr109 (by omega), lt1_s, lt1_s, xr109 (by omega), lt1_s, clN (by omega), nI_1]
    unfold gN at a1
    cases hq : srO (goneP v i) 61 0 with
    | none =>
      rw [hq] at a1
      rw [show oI none = -9 from rfl, if_pos rfl]
      exact a1
    | some d =>
      have hr := srO_r _ _ hq
      rw [hq] at a1
      rw [show oI (some d) = nI d from rfl, if_neg (no9 (by omega))]
      exact a1
theorem layGone_X {fu : Nat} (hf : 1000 ≤ fu) {v : NV} (hv : okV v) {M : Mm} (hx : XV v M) : ∃ M', F_X7_layGone fu M = some M' ∧ (∀ j, j < vMen v → M'.1 108 j = nI (gN v j) ∧ M'.1 109 j = nI j) ∧ Out (fun x _ => x = 108 ∨ x = 109) M M' :=
  layGone_X2 hf hv (vMen v) fu M 0 (by omega) (by have := hv.1; omega) hx (fun j hj => by omega)
theorem countedBy_X4 {fu : Nat} {v : NV} (hv : okV v) {M : Mm} (h86 : M.1 86 4 = nI (vMen v)) (h108 : ∀ j, j < vMen v → M.1 108 j = nI (gN v j)) {p : Nat → Nat} (hp : ∀ j, j < vMen v → p j < vMen v ∧ M.1 109 j = nI (p j)) : ∀ (m n j a : Nat), j + m = vMen v → m < n → F_X7_countedBy_4 fu M n (nI a) (nI j) = some (nI (a + cs v p m j)) := by
  intro m
  have hm := hv.1
  induction m with
  | zero =>
    intro n j a hj hn
    obtain ⟨n, rfl⟩ : ∃ q, n = q + 1 := ⟨n - 1, by omega⟩
    unfold F_X7_countedBy_4
    rw [h86, if_pos (nI_le (by omega) (by omega))]
    rfl
  | succ m ih =>
    intro n j a hj hn
    obtain ⟨n, rfl⟩ : ∃ q, n = q + 1 := ⟨n - 1, by omega⟩
    obtain ⟨q1, q2⟩ := hp j (by omega)
    have ih1 := ih n (j + 1) (a + if onP v (p j) j then 1 else 0) (by omega) (by omega)
    have hg := gN_le v (p j)
    unfold F_X7_countedBy_4
    rw [h86, if_neg (nI_ge (by omega) (by omega)), xr109 (by omega), clN (by omega), q2, xr108 (by omega), clN (by omega), h108 _ q1, nI_1, cs, ← Nat.add_assoc]
    unfold onP at ih1 ⊢
    by_cases hb : j < gN v (p j)
    · rw [if_neg (nI_ge hb (by omega)), nI_1]
      rw [decide_eq_true hb] at ih1 ⊢
      exact ih1
    · rw [if_pos (nI_le (by omega) (by omega)), L0, ad_z]
      rw [decide_eq_false hb] at ih1 ⊢
      exact ih1
theorem countedBy_X {fu : Nat} (hf : 1000 ≤ fu) {v : NV} (hv : okV v) {M : Mm} (h86 : M.1 86 4 = nI (vMen v)) (h108 : ∀ j, j < vMen v → M.1 108 j = nI (gN v j)) {p : Nat → Nat} (hp : ∀ j, j < vMen v → p j < vMen v ∧ M.1 109 j = nI (p j)) : F_X7_countedBy fu M = some (nI (cs v p (vMen v) 0)) := by
  have h := countedBy_X4 (fu := fu) hv h86 h108 hp (vMen v) fu 0 0 (by omega) (by have := hv.1; omega)
  rw [Nat.zero_add] at h
  exact h
theorem counted_X124 {fu : Nat} (hf : 1000 ≤ fu) {v : NV} (hv : okV v) {r : Nat} (hr : r < 6) {p : Nat → Nat} (hp : ∀ j, j < vMen v → p j < vMen v) : ∀ (m n : Nat) (M : Mm) (k : Nat), k + m = vMen v → m < n → M.1 86 4 = nI (vMen v) → (∀ j, j < vMen v → M.1 108 j = nI (gN v j)) → (∀ j, j < vMen v → M.1 87 (40 * r + j) = nI (p j)) → (∀ j, j < k → M.1 109 j = nI (p j)) → ∃ M', F_X7_counted_124 fu n M (nI r) (nI k) = some (nI (cs v p (vMen v) 0), M') ∧ Out (fun x _ => x = 109) M M' := by
  intro m
  have hm := hv.1
  induction m with
  | zero =>
    intro n M k hk hn h86 h108 h87 h109
    obtain ⟨n, rfl⟩ : ∃ q, n = q + 1 := ⟨n - 1, by omega⟩
    refine ⟨M, ?_, Out.rf⟩
    unfold F_X7_counted_124
    rw [h86, if_pos (nI_le (by omega) (by omega)), countedBy_X hf hv h86 h108 (fun j hj => ⟨hp j hj, h109 j (by omega)⟩), ob1_s]
  | succ m ih =>
    intro n M k hk hn h86 h108 h87 h109
    obtain ⟨n, rfl⟩ : ∃ q, n = q + 1 := ⟨n - 1, by omega⟩
    obtain ⟨M', a1, a2⟩ := ih n (pI M 109 k (nI (p k))) (k + 1) (by omega) (by omega) (by rw [pI_n (by omega)]; exact h86) (fun j hj => by rw [pI_n (by omega)]; exact h108 j hj) (fun j hj => by rw [pI_n (by omega)]; exact h87 j hj) (fun j hj => by
      by_cases hjk : j = k
      · rw [hjk, pI_s]
      · rw [pI_n (by omega)]
        exact h109 j (by omega))
    refine ⟨M', ?_, (Out.pI (P := fun x _ => x = 109) Out.rf rfl).trans a2⟩
    unfold F_X7_counted_124
    rw [h86, if_neg (nI_ge (by omega) (by omega)), L40, pk_mul, nI_add, xr87 (by omega), xr109 (by omega), clN (by omega), clN (by omega), h87 k (by omega), lt1_s, nI_1]
    exact a1
theorem counted_X59 {fu : Nat} {M : Mm} {v : NV} (hv : okV v) (hx : XV v M) {r : Nat} (hr : r < 6) {y : Nat → Int32} (hy87 : ∀ j, j < vMen v → M.1 87 (40 * r + j) = y j) : ∀ (m n j s : Nat), j + m = vMen v → m < n → s < 64 → F_X7_counted_59 fu n M (nI r) (nI s) (nI j) = (if ck (vMen v) y m j s = true then ob1 (F_X7_layGone fu M) (fun M3 => F_X7_counted_124 fu fu M3 (nI r) 0) else some (-3, fX 3 M)) := by
  intro m
  have hm := hv.1
  induction m with
  | zero =>
    intro n j s hj hn hs
    obtain ⟨n, rfl⟩ : ∃ q, n = q + 1 := ⟨n - 1, by omega⟩
    unfold F_X7_counted_59
    rw [hx.1, if_pos (nI_le (by omega) (by omega))]
    rfl
  | succ m ih =>
    intro n j s hj hn hs
    obtain ⟨n, rfl⟩ : ∃ q, n = q + 1 := ⟨n - 1, by omega⟩
    unfold F_X7_counted_59 ck F_X7_counted_99
    rw [hx.1, if_neg (nI_ge (by omega) (by omega)), L40, pk_mul, nI_add, xr87 (by omega), clN (by omega), hy87 j (by omega), lt1_s, fnd3_X, ob2_s]
    rcases rng3 (y j) (n := vMen v) (by omega) with hi | ⟨i, hi, hy⟩
    · rw [if_pos hi, isMan_X0 hv hx hi, ob1_s, if_pos rfl, if_neg (by decide)]
    · have ih1 := ih n (j + 1) (st1 s i) (by omega) (by omega) (st1_lt s i)
      have hno : ¬ (nI i < 0 ∨ nI (vMen v) ≤ nI i) := fun q => q.elim (nI_pos (by omega)) (nI_ge hi (by omega))
      rw [hy, if_neg hno, isMan_X1 hv hx hi, ob1_s, if_neg one_ne, isInE hs (by omega), clN (by omega)]
      by_cases hb : s.testBit i = true
      · rw [hb, if_pos (show bI true = 1 by decide), if_pos (show true = true from rfl), if_neg (show ¬ false = true by decide)]
      · rw [Bool.eq_false_iff.mpr hb, if_neg (show ¬ bI false = 1 by decide), if_neg (show ¬ false = true by decide), st1_or hs (by omega), nI_1, ih1]
theorem ck_p {n : Nat} {y : Nat → Int32} (hn : n ≤ 6) : ∀ m j s, ck n y m j s = true → ∀ k, j ≤ k → k < j + m → yN y k < n ∧ y k = nI (yN y k) := by
  intro m
  induction m with
  | zero => intro j s _ k h1 h2; omega
  | succ m ih =>
    intro j s h k h1 h2
    unfold ck at h
    rcases rng3 (y j) (n := n) (by omega) with hi | ⟨i, hi, hy⟩
    · rw [if_pos hi] at h; cases h
    · rw [if_neg (by rw [hy]; exact fun q => q.elim (nI_pos (by omega)) (nI_ge hi (by omega)))] at h
      by_cases hb : s.testBit (y j).toNatClampNeg = true
      · rw [if_pos hb] at h; cases h
      · rw [if_neg hb] at h
        by_cases hkj : k = j
        · subst hkj
          have e : yN y k = i := by unfold yN; rw [hy, clN (by omega)]
          rw [e]
          exact ⟨hi, hy⟩
        · exact ih _ _ h k (by omega) (by omega)
theorem sc1089 {x j : Nat} (h : x = 108 ∨ x = 109) : scr x j := by unfold scr sT sR sX sN; omega
theorem ck_cg {n : Nat} {y z : Nat → Int32} : ∀ m j s, (∀ k, j ≤ k → k < j + m → y k = z k) → ck n y m j s = ck n z m j s := by
  intro m
  induction m with
  | zero => intro j s _; rfl
  | succ m ih =>
    intro j s h
    rw [ck, ck, h j (by omega) (by omega), ih _ _ fun k h1 h2 => h k (by omega) (by omega)]
theorem call_counted {fu : Nat} (hf : 1000 ≤ fu) {M : Mm} (h : Rel M) (x : Int32) : Two2 (F_X6_counted fu M x) (fun M1 => F_X7_counted fu M1 x) := by
  obtain ⟨v, hv, hc, hx⟩ := h.v
  have hm := hv.1
  unfold F_X6_counted F_X7_counted
  rcases rng3 x (n := 6) (by omega) with hi | ⟨r, hr, rfl⟩
  · exact Two2.same h (by rw [rowOf_C0 hi]; rfl) (by rw [isRow_X0 hi]; rfl)
  · by_cases h0 : vMen v = 0
    · refine Two2.same h (r := -4) ?_ ?_
      · rw [rowOf_C1 hr, ob1_s, op1_s, kd_R hr, if_neg (by decide), hc.1, h0, if_pos (show nI 0 = 0 from rfl)]
      · rw [isRow_X1 hr, ob1_s, if_neg (by decide), hx.1, h0, if_pos (show nI 0 = 0 from rfl)]
    · have n0 : ¬ nI (vMen v) = 0 := nI_ne0 (by omega) (by omega)
      rcases h.2.1 r hr with ⟨c1, c2⟩ | ⟨c1, n, hn, c2, c3, c4⟩
      · refine two_f h (f := 1) (by decide) ?_ ?_
        · rw [rowOf_C1 hr, ob1_s, op1_s, kd_R hr, if_neg (by decide), hc.1, if_neg n0, if_pos c1, fnd1_C]
          rfl
        · rw [isRow_X1 hr, ob1_s, if_neg (by decide), (hx.lo (fC_lo 1 M)).1, if_neg n0, xr88 hr, clN (by omega), (fC_lo 1 M 88 r (by decide)).1, if_pos c2, fnd1_X]
          rfl
      · by_cases hnm : n = vMen v
        · subst hnm
          obtain ⟨M1, a1, a2, a3⟩ := foreseeVoters_C hf hv hc (r := 1) (by omega) (by omega)
          have a4 : F_X2_foreseeLiving fu M 24 81 = some M1 := by
            unfold F_X2_foreseeLiving
            rw [L1, a3, ob1_s]
          have o : Out (fun x _ => x = 81) M M1 := fr_X2_foreseeLiving a4
          have hrel : Rel M1 := h.out o fun x j q => sc81 q
          have lo : Lo M M1 := Lo.of o fun x j q => by omega
          have e6 : M1.1 (1 + r + 6) = M.1 (1 + r + 6) := o.f fun j => by omega
          have hC := counted_C77 (fu := fu) hv a1 a2 hr (vMen v) fu 0 0 0 (by omega) (by omega) (by omega)
          have hCC : F_X6_counted fu M (nI r) = F_X6_counted_77 fu fu M1 (1 + r) 0 0 0 := by
            unfold F_X6_counted
            rw [rowOf_C1 hr, ob1_s, op1_s, kd_R hr, if_neg (by decide), hc.1, if_neg n0, c1, if_neg one_ne, c2, if_pos rfl, a4, ob1_s]
          have hXX : ∀ M2, Lo M M2 → F_X7_counted fu M2 (nI r) = F_X7_counted_59 fu fu M2 (nI r) 0 0 := by
            intro M2 l2
            unfold F_X7_counted
            rw [isRow_X1 hr, ob1_s, if_neg (by decide), (hx.lo l2).1, if_neg n0, xr88 hr, xr88 hr, clN (by omega), (l2 88 r (by decide)).1, c3, if_neg (no9 (by omega)), if_pos rfl]
          have h59 : ∀ M2, Lo M M2 → F_X7_counted_59 fu fu M2 (nI r) 0 0 = _ := fun M2 l2 => counted_X59 (fu := fu) (y := M.1 (1 + r + 6)) hv (hx.lo l2) hr (fun j hj => by rw [(l2 87 _ (by decide)).1, ← c4 j hj]) (vMen v) fu 0 0 (by omega) (by omega) (by omega)
          rw [e6] at hC
          by_cases hk : ck (vMen v) (M.1 (1 + r + 6)) (vMen v) 0 0 = true
          · have hp := ck_p hm _ _ _ hk
            obtain ⟨M2, b1, b2, b3⟩ := layGone_X hf hv (hx.lo lo)
            obtain ⟨M3, d1, d2⟩ := counted_X124 hf hv hr (p := yN (M.1 (1 + r + 6))) (fun j hj => (hp j (by omega) (by omega)).1) (vMen v) fu M2 0 (by omega) (by omega) (by rw [(b3 86 4 (by omega)).1]; exact (hx.lo lo).1) (fun j hj => (b2 j hj).1) (fun j hj => by rw [(b3 87 _ (by omega)).1, (lo 87 _ (by decide)).1, ← c4 j hj]; exact (hp j (by omega) (by omega)).2) (fun j hj => by omega)
            refine ⟨nI (cs v (yN (M.1 (1 + r + 6))) (vMen v) 0), M1, M3, ?_, ?_, hrel.out (b3.trans (d2.wk fun x j q => Or.inr q)) fun x j q => sc1089 q⟩
            · refine hCC.trans (hC.trans ?_)
              rw [if_pos hk, Nat.zero_add]
            · refine (hXX M1 lo).trans ((h59 M1 lo).trans ?_)
              rw [if_pos hk, b1, ob1_s]
              exact d1
          · refine two_f hrel (f := 3) (by decide) ?_ ?_
            · refine hCC.trans (hC.trans ?_)
              rw [if_neg hk]
            · have l3 : Lo M (fC 3 M1) := fun x j q => ⟨(fC_lo 3 M1 x j q).1.trans (lo x j q).1, (fC_lo 3 M1 x j q).2.trans (lo x j q).2⟩
              refine (hXX _ l3).trans ((h59 _ l3).trans ?_)
              rw [if_neg hk]
        · have nm : ¬ nI n = nI (vMen v) := by rw [eqN (by omega) (by omega)]; exact hnm
          refine two_f h (f := 5) (by decide) ?_ ?_
          · rw [rowOf_C1 hr, ob1_s, op1_s, kd_R hr, if_neg (by decide), hc.1, if_neg n0, c1, if_neg one_ne, c2, if_neg nm, fnd5_C]
            rfl
          · rw [isRow_X1 hr, ob1_s, if_neg (by decide), (hx.lo (fC_lo 5 M)).1, if_neg n0, xr88 hr, xr88 hr, clN (by omega), (fC_lo 5 M 88 r (by decide)).1, c3, if_neg (no9 (by omega)), if_neg nm, fnd5_X]
            rfl
