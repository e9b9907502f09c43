/-! rows and texts -/
theorem rowOf_C0 {fu : Nat} {M : Mm} {x : Int32} (h : x < 0 ∨ nI 6 ≤ x) : F_X6_rowOf fu M x = some none := by
  unfold F_X6_rowOf
  rcases h with h | h
  · rw [if_pos h]
  · rw [L6, if_pos h, ite_self]
theorem rowOf_C1 {fu : Nat} {M : Mm} {r : Nat} (h : r < 6) : F_X6_rowOf fu M (nI r) = some (some (1 + r)) := by
  unfold F_X6_rowOf
  rw [if_neg (nI_pos (by omega)), L6, if_neg (nI_ge (by omega) (by omega)), if_neg (nI_in h (by decide)), clN (by omega)]
theorem isRow_X0 {fu : Nat} {M : Mm} {x : Int32} (h : x < 0 ∨ nI 6 ≤ x) : F_X7_isRow fu M x = some 0 := by
  unfold F_X7_isRow
  rw [in_no h I5 (by decide), ob1_s]
  rfl
theorem isRow_X1 {fu : Nat} {M : Mm} {r : Nat} (h : r < 6) : F_X7_isRow fu M (nI r) = some 1 := by
  unfold F_X7_isRow
  rw [in_ok (k := 0) (n := 5) (by omega) (by omega) I0 I5 (by decide), ob1_s]
  rfl
theorem textOf_C0 {fu : Nat} {M : Mm} {x : Int32} (h : x < 0 ∨ nI 4 ≤ x) : F_X6_textOf fu M x = some none := by
  unfold F_X6_textOf
  rcases h with h | h
  · rw [if_pos h]
  · rw [L4, if_pos h, ite_self]
theorem textOf_C1 {fu : Nat} {M : Mm} {r : Nat} (h : r < 4) : F_X6_textOf fu M (nI r) = some (some (13 + r)) := by
  unfold F_X6_textOf
  rw [if_neg (nI_pos (by omega)), L4, if_neg (nI_ge (by omega) (by omega)), if_neg (nI_in h (by decide)), clN (by omega)]
theorem isText_X0 {fu : Nat} {M : Mm} {x : Int32} (h : x < 0 ∨ nI 4 ≤ x) : F_X7_isText fu M x = some 0 := by
  unfold F_X7_isText
  rw [in_no h I3 (by decide), ob1_s]
  rfl
theorem isText_X1 {fu : Nat} {M : Mm} {r : Nat} (h : r < 4) : F_X7_isText fu M (nI r) = some 1 := by
  unfold F_X7_isText
  rw [in_ok (k := 0) (n := 3) (by omega) (by omega) I0 I3 (by decide), ob1_s]
  rfl
theorem kd_R {r : Nat} (h : r < 6) : kd (1 + r) = 12 := by
  have : ∀ r, r < 6 → kd (1 + r) = 12 := by decide
  exact this r h
theorem ln_R {r : Nat} (h : r < 6) : ln (1 + r + 6) = 40 := by
  have : ∀ r, r < 6 → ln (1 + r + 6) = 40 := by decide
  exact this r h
theorem kd_T {r : Nat} (h : r < 4) : kd (13 + r) = 13 := by
  have : ∀ r, r < 4 → kd (13 + r) = 13 := by decide
  exact this r h
theorem ln_T {r : Nat} (h : r < 4) : ln (13 + r + 4) = 60 := by
  have : ∀ r, r < 4 → ln (13 + r + 4) = 60 := by decide
  exact this r h
theorem rdR {fu : Nat} {M : Mm} {r i : Nat} (h : r < 6) (hi : i < 40) : F_X6_read fu M (1 + r + 6) (nI i) = some (M.1 (1 + r + 6) i) := rd_eq (by rw [ln_R h]; exact hi)
theorem wrR {fu : Nat} {M : Mm} {r i : Nat} {x : Int32} (h : r < 6) (hi : i < 40) : F_X6_write fu M (1 + r + 6) (nI i) x = some (pI M (1 + r + 6) i x) := wr_eq (by rw [ln_R h]; exact hi)
/-- what a row's change may touch -/
def pR (r x j : Nat) : Prop := x = 1 + r ∨ x = 1 + r + 6 ∨ (x = 88 ∧ j = r) ∨ (x = 87 ∧ 40 * r ≤ j ∧ j < 40 * r + 40)
def pT (r x j : Nat) : Prop := x = 13 + r ∨ x = 13 + r + 4 ∨ (x = 90 ∧ j = r) ∨ (x = 89 ∧ 60 * r ≤ j ∧ j < 60 * r + 60)
def scr (x j : Nat) : Prop := ¬ (sT x j ∨ sR x ∨ sX x ∨ sN x j)
theorem Rel.row {P : Nat → Nat → Prop} {M M' : Mm} {r : Nat} (hr : r < 6) (h : Rel M) (o : Out P M M') (hp : ∀ x j, P x j → pR r x j ∨ scr x j) (hi : RRi M' r) : Rel M' := by
  refine ⟨h.1.out o fun x j q => ?_, fun r' hr' => ?_, h.2.2.1.out o fun x j q => ?_, h.2.2.2.out o fun x j q => ?_⟩
  · have := hp x j q
    unfold pR scr at this
    unfold sT at this ⊢
    omega
  · by_cases hrr : r' = r
    · rw [hrr]; exact hi
    · refine (h.2.1 r' hr').out hr' o fun x j q => ?_
      have := hp x j q
      unfold pR scr sR at this
      omega
  · have := hp x j q
    unfold pR scr at this
    unfold sX at this ⊢
    omega
  · have := hp x j q
    unfold pR scr at this
    unfold sN at this ⊢
    omega
theorem Rel.text {P : Nat → Nat → Prop} {M M' : Mm} {r : Nat} (hr : r < 4) (h : Rel M) (o : Out P M M') (hp : ∀ x j, P x j → pT r x j ∨ scr x j) (hi : RXi M' r) : Rel M' := by
  refine ⟨h.1.out o fun x j q => ?_, h.2.1.out o fun x j q => ?_, fun r' hr' => ?_, h.2.2.2.out o fun x j q => ?_⟩
  · have := hp x j q
    unfold pT scr at this
    unfold sT at this ⊢
    omega
  · have := hp x j q
    unfold pT scr at this
    unfold sR at this ⊢
    omega
  · by_cases hrr : r' = r
    · rw [hrr]; exact hi
    · refine (h.2.2.1 r' hr').out hr' o fun x j q => ?_
      have := hp x j q
      unfold pT scr sX at this
      omega
  · have := hp x j q
    unfold pT scr at this
    unfold sN at this ⊢
    omega
theorem renew_C12 {fu : Nat} {r : Nat} (hr : r < 6) : ∀ (m n : Nat) (M : Mm) (k : Nat), k + m = 40 → m < n → (∀ j, j < k → M.1 (1 + r + 6) j = 0) → ∃ M', F_X4_renew_12 fu n M (1 + r) (nI k) = some M' ∧ (∀ j, j < 40 → M'.1 (1 + r + 6) j = 0) ∧ Out (fun x _ => x = 1 + r + 6) M M' := by
  intro m
  induction m with
  | zero =>
    intro n M k hk hn h
    obtain ⟨n, rfl⟩ : ∃ q, n = q + 1 := ⟨n - 1, by omega⟩
    refine ⟨M, ?_, fun j hj => h j (by omega), Out.rf⟩
    unfold F_X4_renew_12
    rw [ln_R hr, if_pos (nI_le (by omega) (by omega))]
  | succ m ih =>
    intro n M k hk hn h
    obtain ⟨n, rfl⟩ : ∃ q, n = q + 1 := ⟨n - 1, by omega⟩
    obtain ⟨M', a1, a2, a3⟩ := ih n (pI M (1 + r + 6) k 0) (k + 1) (by omega) (by omega) (fun j hj => by
      by_cases hjk : j = k
      · rw [hjk, pI_s]
      · rw [pI_n (Or.inr hjk)]
        exact h j (by omega))
    refine ⟨M', ?_, a2, (Out.pI (P := fun x _ => x = 1 + r + 6) Out.rf rfl).trans a3⟩
    unfold F_X4_renew_12
    rw [ln_R hr, if_neg (nI_ge (by omega) (by omega)), if_neg (nI_in (by omega) (by decide)), clN (by omega), lt1_s, nI_1]
    exact a1
theorem renew_C {fu : Nat} (hf : 1000 ≤ fu) {M : Mm} {r : Nat} (hr : r < 6) (x : Int32) : ∃ M', F_X4_renew fu M (1 + r) x = some M' ∧ M'.1 (1 + r) 0 = 1 ∧ M'.1 (1 + r) 1 = x ∧ (∀ j, j < 40 → M'.1 (1 + r + 6) j = 0) ∧ Out (fun x _ => x = 1 + r ∨ x = 1 + r + 6) M M' := by
  obtain ⟨M', a1, a2, a3⟩ := renew_C12 (fu := fu) hr 40 fu (pI (pI M (1 + r) 0 1) (1 + r) 1 x) 0 (by omega) (by omega) (fun j hj => by omega)
  refine ⟨M', ?_, ?_, ?_, a2, (((Out.rf).pI (by omega)).pI (by omega)).trans (a3.wk fun x j q => by omega)⟩
  · unfold F_X4_renew
    rw [lt1_s, lt1_s]
    exact a1
  · rw [(a3 _ _ (by omega)).1, pI_n (by omega), pI_s]
  · rw [(a3 _ _ (by omega)).1, pI_s]
theorem layRow_X9 {fu : Nat} {r : Nat} (hr : r < 6) : ∀ (m n : Nat) (M : Mm) (k : Nat), k + m = 40 → m < n → (∀ j, j < k → M.1 87 (40 * r + j) = 0) → ∃ M', F_X7_layRow_9 fu n M (nI r) (nI k) = some M' ∧ (∀ j, j < 40 → M'.1 87 (40 * r + j) = 0) ∧ Out (fun x j => x = 87 ∧ 40 * r ≤ j ∧ j < 40 * r + 40) M M' := by
  intro m
  induction m with
  | zero =>
    intro n M k hk hn h
    obtain ⟨n, rfl⟩ : ∃ q, n = q + 1 := ⟨n - 1, by omega⟩
    refine ⟨M, ?_, fun j hj => h j (by omega), Out.rf⟩
    unfold F_X7_layRow_9
    rw [L40, if_pos (nI_le (by omega) (by omega))]
  | succ m ih =>
    intro n M k hk hn h
    obtain ⟨n, rfl⟩ : ∃ q, n = q + 1 := ⟨n - 1, by omega⟩
    obtain ⟨M', a1, a2, a3⟩ := ih n (pI M 87 (40 * r + k) 0) (k + 1) (by omega) (by omega) (fun j hj => by
      by_cases hjk : j = k
      · rw [hjk, pI_s]
      · rw [pI_n (by omega)]
        exact h j (by omega))
    refine ⟨M', ?_, a2, ((Out.rf).pI (by omega)).trans a3⟩
    unfold F_X7_layRow_9
    rw [L40, if_neg (nI_ge (by omega) (by omega)), pk_mul, nI_add, xr87 (by omega), clN (by omega), lt1_s, nI_1]
    exact a1
theorem layRow_X {fu : Nat} (hf : 1000 ≤ fu) {M : Mm} {r : Nat} (hr : r < 6) (x : Int32) : ∃ M', F_X7_layRow fu M (nI r) x = some M' ∧ M'.1 88 r = x ∧ (∀ j, j < 40 → M'.1 87 (40 * r + j) = 0) ∧ Out (fun x j => (x = 88 ∧ j = r) ∨ (x = 87 ∧ 40 * r ≤ j ∧ j < 40 * r + 40)) M M' := by
  obtain ⟨M', a1, a2, a3⟩ := layRow_X9 (fu := fu) hr 40 fu (pI M 88 r x) 0 (by omega) (by omega) (fun j hj => by omega)
  refine ⟨M', ?_, ?_, a2, ((Out.rf).pI (by omega)).trans (a3.wk fun x j q => by omega)⟩
  · unfold F_X7_layRow
    rw [xr88 (by omega), clN (by omega), lt1_s]
    exact a1
  · rw [(a3 _ _ (by omega)).1, pI_s]
/-- both systems' finding -/
theorem two_f {M : Mm} (h : Rel M) {f : Nat} (hf : f < 6) {F : Option (Int32 × Mm)} {g : Mm → Option (Int32 × Mm)} (e1 : F = some (-3, fC f M)) (e2 : g (fC f M) = some (-3, fX f (fC f M))) : Two2 F g := ⟨-3, _, _, e1, e2, h.f hf⟩
theorem two_t {M : Mm} (h : Rel M) {x : Int32} {F : Option (Int32 × Mm)} {g : Mm → Option (Int32 × Mm)} (e1 : F = some (1, tC x M)) (e2 : g (tC x M) = some (1, tX x (tC x M))) : Two2 F g := ⟨1, _, _, e1, e2, h.t x⟩
theorem fnd1_C {fu : Nat} {M : Mm} : F_X6_found fu M (1 : Int32) = some (-3, fC 1 M) := found_C (f := 1) (by decide)
theorem fnd2_C {fu : Nat} {M : Mm} : F_X6_found fu M (2 : Int32) = some (-3, fC 2 M) := found_C (f := 2) (by decide)
theorem fnd3_C {fu : Nat} {M : Mm} : F_X6_found fu M (3 : Int32) = some (-3, fC 3 M) := found_C (f := 3) (by decide)
theorem fnd4_C {fu : Nat} {M : Mm} : F_X6_found fu M (4 : Int32) = some (-3, fC 4 M) := found_C (f := 4) (by decide)
theorem fnd5_C {fu : Nat} {M : Mm} : F_X6_found fu M (5 : Int32) = some (-3, fC 5 M) := found_C (f := 5) (by decide)
theorem fnd1_X {fu : Nat} {M : Mm} : F_X7_finds fu M (1 : Int32) = some (-3, fX 1 M) := finds_X (f := 1) (by decide)
theorem fnd2_X {fu : Nat} {M : Mm} : F_X7_finds fu M (2 : Int32) = some (-3, fX 2 M) := finds_X (f := 2) (by decide)
theorem fnd3_X {fu : Nat} {M : Mm} : F_X7_finds fu M (3 : Int32) = some (-3, fX 3 M) := finds_X (f := 3) (by decide)
theorem fnd4_X {fu : Nat} {M : Mm} : F_X7_finds fu M (4 : Int32) = some (-3, fX 4 M) := finds_X (f := 4) (by decide)
theorem fnd5_X {fu : Nat} {M : Mm} : F_X7_finds fu M (5 : Int32) = some (-3, fX 5 M) := finds_X (f := 5) (by decide)
theorem gt_hi {x : Int32} {n : Nat} (h : nI (n + 1) ≤ x) (hn : n < 2147483647) : ¬ x ≤ nI n := fun q => by
  have h1 := Int32.le_iff_toInt_le.mp h
  have h2 := Int32.le_iff_toInt_le.mp q
  rw [nI_toInt (by omega)] at h1 h2
  omega
theorem nn_lt {x : Int32} (h : x < 0) : ¬ (0 : Int32) ≤ x := fun q => by
  have h1 := Int32.lt_iff_toInt_lt.mp h
  have h2 := Int32.le_iff_toInt_le.mp q
  omega
theorem lt_hi {x : Int32} (h : x < 0) {n : Nat} (hn : n < 2147483648) : x ≤ nI n := by
  have h1 := Int32.lt_iff_toInt_lt.mp h
  rw [Int32.le_iff_toInt_le, nI_toInt hn]
  rw [show (0 : Int32).toInt = 0 from rfl] at h1
  omega
theorem call_row {fu : Nat} (hf : 1000 ≤ fu) {M : Mm} (h : Rel M) (x y : Int32) : Two2 (F_X6_row fu M x y) (fun M1 => F_X7_row fu M1 x y) := by
  unfold F_X6_row F_X7_row
  rcases rng3 x (n := 6) (by omega) with hi | ⟨r, hr, rfl⟩
  · exact Two2.same h (by rw [rowOf_C0 hi]; rfl) (by rw [isRow_X0 hi]; rfl)
  · rcases rng3 y (n := 41) (by omega) with (hy | hy) | ⟨n, hn, rfl⟩
    · refine two_f h (f := 5) (by decide) ?_ ?_
      · rw [rowOf_C1 hr, ob1_s, op1_s, kd_R hr, if_neg (by decide), L40, if_pos (lt_hi hy (by decide)), if_neg (nn_lt hy), fnd5_C]
        rfl
      · rw [isRow_X1 hr, ob1_s, if_neg (by decide), L40, if_pos (lt_hi hy (by decide)), if_neg (nn_lt hy), fnd5_X]
        rfl
    · exact Two2.same h (by rw [rowOf_C1 hr, ob1_s, op1_s, kd_R hr, if_neg (by decide), L40, if_neg (gt_hi hy (by decide))]) (by rw [isRow_X1 hr, ob1_s, if_neg (by decide), L40, if_neg (gt_hi hy (by decide))])
    · obtain ⟨M1, a1, a2, a3, a4, a5⟩ := renew_C hf (M := M) hr (nI n)
      obtain ⟨M2, b1, b2, b3, b4⟩ := layRow_X hf (M := M1) hr (nI n)
      refine ⟨nI n, M1, M2, ?_, ?_, h.row hr ((a5.wk (P := pR r) fun x j q => by unfold pR; omega).trans (b4.wk fun x j q => by unfold pR; omega)) (fun x j q => Or.inl q) (Or.inr ⟨?_, n, by omega, ?_, b2, fun j hj => ?_⟩)⟩
      · rw [rowOf_C1 hr, ob1_s, op1_s, kd_R hr, if_neg (by decide), L40, if_pos (nI_le (by omega) (by omega)), if_pos (nI_pos' (by omega)), a1, ob1_s]
      · show ob1 (F_X7_isRow fu M1 (nI r)) _ = _
        rw [isRow_X1 hr, ob1_s, if_neg (by decide), L40, if_pos (nI_le (by omega) (by omega)), if_pos (nI_pos' (by omega)), b1, ob1_s]
      · rw [(b4 _ _ (by omega)).1, a2]
      · rw [(b4 _ _ (by omega)).1, a3]
      · rw [(b4 _ _ (by omega)).1, a4 j (by omega), b3 j (by omega)]
theorem in_siz {fu : Nat} {M : Mm} {y : Int32} {n : Nat} (hn : n ≤ 60) : F_X7_in fu M y.toInt64 (0 : Int64) (nI n - 1).toInt64 = some (bI (decide (0 ≤ y.toInt ∧ y.toInt < n))) := by
  have e : (nI n - 1 : Int32).toInt = (n : Int) - 1 := by
    rw [L1, pk_sub_toInt (by omega) (by decide)]
    rfl
  unfold F_X7_in
  by_cases h1 : y.toInt < 0
  · rw [if_pos ((lg_cmp_lt _ _).mpr (by rw [Int64.lt_iff_toInt_lt, Int32.toInt_toInt64]; exact h1)), decide_eq_false (by omega)]
    rfl
  · rw [if_neg (fun q => h1 (by have := (lg_cmp_lt _ _).mp q; rw [Int64.lt_iff_toInt_lt, Int32.toInt_toInt64] at this; exact this))]
    by_cases h2 : y.toInt < n
    · rw [if_neg (fun q => by have := (lg_cmp_gt _ _).mp q; rw [Int64.lt_iff_toInt_lt, Int32.toInt_toInt64, Int32.toInt_toInt64, e] at this; omega), decide_eq_true ⟨by omega, h2⟩]
      rfl
    · rw [if_pos ((lg_cmp_gt _ _).mpr (by rw [Int64.lt_iff_toInt_lt, Int32.toInt_toInt64, Int32.toInt_toInt64, e]; omega)), decide_eq_false (by omega)]
      rfl
/-- is a number a place of n -/
theorem plc (y : Int32) {n : Nat} (hn : n ≤ 60) : (¬ (0 ≤ y.toInt ∧ y.toInt < n) ∧ (y < 0 ∨ (¬ y < 0 ∧ ¬ y < nI n))) ∨ ∃ i, i < n ∧ y = nI i := by
  rcases pk_ix y (n := n) (by omega) with h | h | h
  · refine Or.inl ⟨fun q => ?_, Or.inl h⟩
    have h1 := Int32.lt_iff_toInt_lt.mp h
    rw [show (0 : Int32).toInt = 0 from rfl] at h1
    omega
  · have h1 := Int32.le_iff_toInt_le.mp h
    rw [nI_toInt (by omega)] at h1
    exact Or.inl ⟨fun q => by omega, Or.inr ⟨fun q => by have := Int32.lt_iff_toInt_lt.mp q; rw [show (0 : Int32).toInt = 0 from rfl] at this; omega, fun q => by have := Int32.lt_iff_toInt_lt.mp q; rw [nI_toInt (by omega)] at this; omega⟩⟩
  · exact Or.inr h
theorem in_no2 {fu : Nat} {M : Mm} {y : Int32} {n : Nat} (hn : n ≤ 60) (h : ¬ (0 ≤ y.toInt ∧ y.toInt < n)) : F_X7_in fu M y.toInt64 (0 : Int64) (nI n - 1).toInt64 = some 0 := by
  rw [in_siz hn, decide_eq_false h]
  rfl
theorem in_ok2 {fu : Nat} {M : Mm} {i n : Nat} (hn : n ≤ 60) (h : i < n) : F_X7_in fu M (nI i).toInt64 (0 : Int64) (nI n - 1).toInt64 = some 1 := by
  rw [in_siz hn, decide_eq_true (by rw [nI_toInt (by omega)]; omega)]
  rfl
theorem no9 {n : Nat} (hn : n ≤ 60) : ¬ nI n = (-9 : Int32) := neg9' (by omega)
theorem one_ne : ¬ (1 : Int32) = 0 := by decide
theorem plc_if {α : Type} {a b : α} {y : Int32} {n : Nat} (h : y < 0 ∨ (¬ y < 0 ∧ ¬ y < nI n)) : (if y < 0 then a else if y < nI n then b else a) = a := by
  rcases h with h | ⟨h1, h2⟩
  · rw [if_pos h]
  · rw [if_neg h1, if_neg h2]
theorem call_at {fu : Nat} {M : Mm} (h : Rel M) (x y : Int32) : Two2 (F_X6_at fu M x y) (fun M1 => F_X7_at fu M1 x y) := by
  unfold F_X6_at F_X7_at
  rcases rng3 x (n := 6) (by omega) with hi | ⟨r, hr, rfl⟩
  · exact Two2.same h (by rw [rowOf_C0 hi]; rfl) (by rw [isRow_X0 hi]; rfl)
  · rcases h.2.1 r hr with ⟨c1, c2⟩ | ⟨c1, n, hn, c2, c3, c4⟩
    · refine two_f h (f := 1) (by decide) ?_ ?_
      · rw [rowOf_C1 hr, ob1_s, op1_s, kd_R hr, if_neg (by decide), if_pos c1, fnd1_C]
        rfl
      · rw [isRow_X1 hr, ob1_s, if_neg (by decide), xr88 hr, clN (by omega), (fC_lo 1 M 88 r (by decide)).1, if_pos c2, fnd1_X]
        rfl
    · rcases plc y (n := n) (by omega) with ⟨p1, p2⟩ | ⟨i, hi, rfl⟩
      · refine two_f h (f := 2) (by decide) ?_ ?_
        · unfold F_X6_at_37
          rw [rowOf_C1 hr, ob1_s, op1_s, kd_R hr, if_neg (by decide), c1, if_neg one_ne, c2, plc_if p2, fnd2_C]
          rfl
        · rw [isRow_X1 hr, ob1_s, if_neg (by decide), xr88 hr, xr88 hr, clN (by omega), (fC_lo 2 M 88 r (by decide)).1, c3, if_neg (no9 (by omega)), in_no2 (by omega) p1, ob1_s, if_pos rfl, fnd2_X]
          rfl
      · refine two_t h (x := M.1 (1 + r + 6) i) ?_ ?_
        · rw [rowOf_C1 hr, ob1_s, op1_s, kd_R hr, if_neg (by decide), c1, if_neg one_ne, c2, if_neg (nI_pos (by omega)), if_pos (nI_lt hi (by omega)), rdR hr (by omega), ob1_s]
          rfl
        · rw [isRow_X1 hr, ob1_s, if_neg (by decide), xr88 hr, xr88 hr, clN (by omega), (tC_lo _ M 88 r (by decide)).1, c3, if_neg (no9 (by omega)), in_ok2 (by omega) hi, ob1_s, if_neg one_ne, L40, pk_mul, nI_add, xr87 (by omega), clN (by omega), (tC_lo _ M 87 (40 * r + i) (by decide)).1, ← c4 i hi]
          rfl
theorem call_lay {fu : Nat} {M : Mm} (h : Rel M) (x y z : Int32) : Two2 (F_X6_lay fu M x y z) (fun M1 => F_X7_lay fu M1 x y z) := by
  unfold F_X6_lay F_X7_lay
  rcases rng3 x (n := 6) (by omega) with hi | ⟨r, hr, rfl⟩
  · exact Two2.same h (by rw [rowOf_C0 hi]; rfl) (by rw [isRow_X0 hi]; rfl)
  · rcases h.2.1 r hr with ⟨c1, c2⟩ | ⟨c1, n, hn, c2, c3, c4⟩
    · refine two_f h (f := 1) (by decide) ?_ ?_
      · rw [rowOf_C1 hr, ob1_s, op1_s, kd_R hr, if_neg (by decide), if_pos c1, fnd1_C]
        rfl
      · rw [isRow_X1 hr, ob1_s, if_neg (by decide), xr88 hr, clN (by omega), (fC_lo 1 M 88 r (by decide)).1, if_pos c2, fnd1_X]
        rfl
    · rcases plc y (n := n) (by omega) with ⟨p1, p2⟩ | ⟨i, hi, rfl⟩
      · refine two_f h (f := 2) (by decide) ?_ ?_
        · unfold F_X6_lay_41
          rw [rowOf_C1 hr, ob1_s, op1_s, kd_R hr, if_neg (by decide), c1, if_neg one_ne, c2, plc_if p2, fnd2_C]
          rfl
        · rw [isRow_X1 hr, ob1_s, if_neg (by decide), xr88 hr, xr88 hr, clN (by omega), (fC_lo 2 M 88 r (by decide)).1, c3, if_neg (no9 (by omega)), in_no2 (by omega) p1, ob1_s, if_pos rfl, fnd2_X]
          rfl
      · have lo : Lo M (tC (M.1 (1 + r + 6) i) (pI M (1 + r + 6) i z)) := Lo.of (P := fun x j => x = 1 + r + 6 ∨ (x = 0 ∧ j = 9)) (((Out.rf).pI (by omega)).trans ((tC_out _ _).wk fun x j q => by omega)) fun x j q => by omega
        have hrow : Rel (pI (pI M (1 + r + 6) i z) 87 (40 * r + i) z) := by
          refine h.row hr (P := pR r) (((Out.rf).pI (by unfold pR; omega)).pI (by unfold pR; omega)) (fun x j q => Or.inl q) (Or.inr ⟨?_, n, hn, ?_, ?_, fun j hj => ?_⟩)
          · rw [pI_n (by omega), pI_n (by omega), c1]
          · rw [pI_n (by omega), pI_n (by omega), c2]
          · rw [pI_n (by omega), pI_n (by omega), c3]
          · by_cases hji : j = i
            · rw [hji, pI_s, pI_n (by omega), pI_s]
            · rw [pI_n (by omega), pI_n (by omega), pI_n (by omega), pI_n (by omega), c4 j hj]
        have hfin := hrow.t (M.1 (1 + r + 6) i)
        refine ⟨1, tC (M.1 (1 + r + 6) i) (pI M (1 + r + 6) i z), tX (M.1 (1 + r + 6) i) (pI (tC (M.1 (1 + r + 6) i) (pI M (1 + r + 6) i z)) 87 (40 * r + i) z), ?_, ?_, ?_⟩
        · rw [rowOf_C1 hr, ob1_s, op1_s, kd_R hr, if_neg (by decide), c1, if_neg one_ne, c2, if_neg (nI_pos (by omega)), if_pos (nI_lt hi (by omega)), rdR hr (by omega), ob1_s, wrR hr (by omega), ob1_s]
          rfl
        · show ob1 (F_X7_isRow fu (tC (M.1 (1 + r + 6) i) (pI M (1 + r + 6) i z)) (nI r)) _ = _
          rw [isRow_X1 hr, ob1_s, if_neg (by decide), xr88 hr, xr88 hr, clN (by omega), (lo 88 r (by decide)).1, c3, if_neg (no9 (by omega)), in_ok2 (by omega) hi, ob1_s, if_neg one_ne, L40, pk_mul, nI_add, xr87 (by omega), lt1_s, xr87 (by omega), clN (by omega), (lo 87 (40 * r + i) (by decide)).1, ← c4 i hi]
          rfl
        · have e : tX (M.1 (1 + r + 6) i) (pI (tC (M.1 (1 + r + 6) i) (pI M (1 + r + 6) i z)) 87 (40 * r + i) z) = tX (M.1 (1 + r + 6) i) (tC (M.1 (1 + r + 6) i) (pI (pI M (1 + r + 6) i z) 87 (40 * r + i) z)) := by
            unfold tC
            congr 1
            unfold pI
            refine Prod.ext (funext fun a => ?_) rfl
            by_cases h0 : a = 0
            · subst h0; simp
            · by_cases h87 : a = 87
              · subst h87; simp
              · simp [h0, h87]
          rw [e]
          exact hfin
theorem call_tear {fu : Nat} {M : Mm} (h : Rel M) (x : Int32) : Two2 (F_X6_tear fu M x) (fun M1 => F_X7_tear fu M1 x) := by
  unfold F_X6_tear F_X7_tear
  rcases rng3 x (n := 6) (by omega) with hi | ⟨r, hr, rfl⟩
  · exact Two2.same h (by rw [rowOf_C0 hi]; rfl) (by rw [isRow_X0 hi]; rfl)
  · rcases h.2.1 r hr with ⟨c1, c2⟩ | ⟨c1, n, hn, c2, c3, c4⟩
    · refine two_f h (f := 1) (by decide) ?_ ?_
      · rw [rowOf_C1 hr, ob1_s, op1_s, kd_R hr, if_neg (by decide), if_pos c1, fnd1_C]
        rfl
      · rw [isRow_X1 hr, ob1_s, if_neg (by decide), xr88 hr, clN (by omega), (fC_lo 1 M 88 r (by decide)).1, if_pos c2, fnd1_X]
        rfl
    · refine ⟨1, pI M (1 + r) 0 0, pI (pI M (1 + r) 0 0) 88 r (-9), ?_, ?_, ?_⟩
      · rw [rowOf_C1 hr, ob1_s, op1_s, kd_R hr, if_neg (by decide), c1, if_neg one_ne]
        rfl
      · show ob1 (F_X7_isRow fu (pI M (1 + r) 0 0) (nI r)) _ = _
        rw [isRow_X1 hr, ob1_s, if_neg (by decide), xr88 hr, xr88 hr, clN (by omega), pI_n (by omega), c3, if_neg (no9 (by omega))]
        rfl
      · exact h.row hr (P := pR r) (((Out.rf).pI (by unfold pR; omega)).pI (by unfold pR; omega)) (fun x j q => Or.inl q) (Or.inl ⟨by rw [pI_n (by omega), pI_s], by rw [pI_s]⟩)
def smF (f : Nat → Int32) : Nat → Nat → Int64 → Int64
  | 0, _, a => a
  | m + 1, k, a => smF f m (k + 1) (a + (f k).toInt64)
theorem smF_cg {f g : Nat → Int32} : ∀ m k a, (∀ j, k ≤ j → j < k + m → f j = g j) → smF f m k a = smF g m k a := by
  intro m
  induction m with
  | zero => intro k a _; rfl
  | succ m ih =>
    intro k a h
    unfold smF
    rw [h k (by omega) (by omega), ih (k + 1) _ (fun j h1 h2 => h j (by omega) (by omega))]
theorem sum_C4 {fu : Nat} {M : Mm} {r N : Nat} (hr : r < 6) (hN : N ≤ 40) (hs : M.1 (1 + r) 1 = nI N) : ∀ (m n k : Nat) (a : Int64), k + m = N → m < n → F_X4_sum_4 fu M n (1 + r) a (nI k) = some (smF (M.1 (1 + r + 6)) m k a) := by
  intro m
  induction m with
  | zero =>
    intro n k a hk hn
    obtain ⟨n, rfl⟩ : ∃ q, n = q + 1 := ⟨n - 1, by omega⟩
    unfold F_X4_sum_4
    rw [hs, if_pos (nI_le (by omega) (by omega))]
    rfl
  | succ m ih =>
    intro n k a hk hn
    obtain ⟨n, rfl⟩ : ∃ q, n = q + 1 := ⟨n - 1, by omega⟩
    unfold F_X4_sum_4 smF
    rw [hs, if_neg (nI_ge (by omega) (by omega)), rdR hr (by omega), ob1_s, nI_1, ih n (k + 1) _ (by omega) (by omega)]
theorem mean_X46 {fu : Nat} {M : Mm} {r N : Nat} (hr : r < 6) (hN : N ≤ 40) (h0 : 0 < N) (hs : M.1 88 r = nI N) : ∀ (m n k : Nat) (a : Int64), k + m = N → m < n → F_X7_mean_46 fu n M (nI r) a (nI k) = some (1, tX (smF (fun j => M.1 87 (40 * r + j)) m k a / (nI N).toInt64).toInt32 M) := by
  intro m
  induction m with
  | zero =>
    intro n k a hk hn
    obtain ⟨n, rfl⟩ : ∃ q, n = q + 1 := ⟨n - 1, by omega⟩
    have e0 : ¬ (nI N).toInt64 = 0 := by
      rw [nI_l (by omega), I0, pk_lEQ (by omega) (by omega)]
      omega
    unfold F_X7_mean_46
    rw [xr88 hr, xr88 hr, clN (by omega), hs, if_pos (nI_le (by omega) (by omega)), if_neg e0]
    rfl
  | succ m ih =>
    intro n k a hk hn
    obtain ⟨n, rfl⟩ : ∃ q, n = q + 1 := ⟨n - 1, by omega⟩
    unfold F_X7_mean_46 smF
    rw [xr88 hr, clN (by omega), hs, if_neg (nI_ge (by omega) (by omega)), L40, pk_mul, nI_add, xr87 (by omega), clN (by omega), lt1_s, nI_1, ih n (k + 1) _ (by omega) (by omega)]
theorem call_mean {fu : Nat} (hf : 1000 ≤ fu) {M : Mm} (h : Rel M) (x : Int32) : Two2 (F_X6_mean fu M x) (fun M1 => F_X7_mean fu M1 x) := by
  unfold F_X6_mean F_X7_mean
  rcases rng3 x (n := 6) (by omega) with hi | ⟨r, hr, rfl⟩
  · exact Two2.same h (by rw [rowOf_C0 hi]; rfl) (by rw [isRow_X0 hi]; rfl)
  · rcases h.2.1 r hr with ⟨c1, c2⟩ | ⟨c1, n, hn, c2, c3, c4⟩
    · refine two_f h (f := 1) (by decide) ?_ ?_
      · rw [rowOf_C1 hr, ob1_s, op1_s, kd_R hr, if_neg (by decide), if_pos c1, fnd1_C]
        rfl
      · rw [isRow_X1 hr, ob1_s, if_neg (by decide), xr88 hr, clN (by omega), (fC_lo 1 M 88 r (by decide)).1, if_pos c2, fnd1_X]
        rfl
    · by_cases hn0 : n = 0
      · subst hn0
        refine two_f h (f := 4) (by decide) ?_ ?_
        · rw [rowOf_C1 hr, ob1_s, op1_s, kd_R hr, if_neg (by decide), c1, if_neg one_ne, c2, if_pos (by decide), fnd4_C]
          rfl
        · rw [isRow_X1 hr, ob1_s, if_neg (by decide), xr88 hr, xr88 hr, clN (by omega), (fC_lo 4 M 88 r (by decide)).1, c3, if_neg (no9 (by omega)), if_pos (by decide), fnd4_X]
          rfl
      · have e0 : ¬ (nI n).toInt64 = 0 := by
          rw [nI_l (by omega), I0, pk_lEQ (by omega) (by omega)]
          omega
        have n0 : ¬ nI n = 0 := by rw [L0, eqN (by omega) (by omega)]; exact hn0
        have es := sum_C4 (fu := fu) hr hn c2 n fu 0 0 (by omega) (by omega)
        refine two_t h (x := (smF (M.1 (1 + r + 6)) n 0 0 / (nI n).toInt64).toInt32) ?_ ?_
        · unfold F_X4_sum
          rw [rowOf_C1 hr, ob1_s, op1_s, kd_R hr, if_neg (by decide), c1, if_neg one_ne, c2, if_neg n0, L0, es, ob1_s, if_neg e0]
          rfl
        · have lo := tC_lo (smF (M.1 (1 + r + 6)) n 0 0 / (nI n).toInt64).toInt32 M
          rw [isRow_X1 hr, ob1_s, if_neg (by decide), xr88 hr, xr88 hr, clN (by omega), (lo 88 r (by decide)).1, c3, if_neg (no9 (by omega)), if_neg n0, L0, mean_X46 hr hn (by omega) ((lo 88 r (by decide)).1.trans c3) n fu 0 0 (by omega) (by omega), smF_cg (f := fun j => (tC (smF (M.1 (1 + r + 6)) n 0 0 / (nI n).toInt64).toInt32 M).1 87 (40 * r + j)) (g := M.1 (1 + r + 6)) n 0 0 (fun j h1 h2 => by rw [(lo 87 _ (by decide)).1, ← c4 j (by omega)])]
