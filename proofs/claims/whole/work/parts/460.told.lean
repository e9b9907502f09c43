/-! man, mark, counts, the digest -/
theorem who_bit {v : NV} (r n : Nat) {i : Nat} (hi : i < vMen v) : (whoN v r n).testBit i = whoF v r n i := by
  unfold whoN
  rw [bset_bit, decide_eq_true hi, Bool.true_and]
theorem man_X {fu : Nat} (hf : 1000 ≤ fu) {M : Mm} {v : NV} (hv : okV v) (hx : XV v M) {i w : Nat} (hi : i < vMen v) (hw : w < 6) : F_X7_man fu M (nI i) (nI w) = some (1, tX (tlF v i w) M) := by
  have hm := hv.1
  obtain ⟨g1, g2, g3, g4⟩ := hv.2.2.2.2.2 i hi
  obtain ⟨c1, c2, c3, c4⟩ := hx.2.2.2.2 i hi
  have hwh := whoThen_X hf hv hx (N := 0) (by omega)
  have hwb := who_bit (v := v) (vRight v) 0 hi
  have hwf : whoF v (vRight v) 0 i = hasR (vKind v i) (vBulk v i) (vRight v) := rfl
  unfold F_X7_man tlF
  rw [isMan_X1 hv hx hi, ob1_s, if_neg one_ne, in_ok (k := 0) (n := 5) (by omega) (by omega) I0 I5 (by decide), ob1_s, if_neg one_ne, xr91 (by omega), xr94 (by omega), xr95 (by omega), xr92 (by omega), xr94 (by omega), clN (by omega), c1, c2, c3, c4, mayVote_X hv hx hi (by omega), ob1_s]
  have hcase : w = 0 ∨ w = 1 ∨ w = 2 ∨ w = 3 ∨ w = 4 ∨ w = 5 := by omega
  rcases hcase with rfl | rfl | rfl | rfl | rfl | rfl
  · rfl
  · rfl
  · rfl
  · rfl
  · show (if bI (hasR (vKind v i) (vBulk v i) (vRight v)) = 0 then F_X7_man_120 fu M 0 else F_X7_man_120 fu M 1) = some (1, tX (bI ((whoN v (vRight v) 0).testBit i)) M)
    rw [hwb, hwf]
    cases hasR (vKind v i) (vBulk v i) (vRight v) <;> rfl
  · rw [if_neg (by decide), if_neg (by decide), if_neg (by decide), if_neg (by decide), if_neg (by decide), if_neg (by decide), if_neg (by decide), if_neg (by decide), if_neg (by decide), if_neg (by decide), L0, hwh, ob1_s, votesBy_X hf hv hx (whoN_lt hv _ _) hi]
    rfl
theorem call_man {fu : Nat} (hf : 1000 ≤ fu) {M : Mm} (h : Rel M) (x y : Int32) : Two2 (F_X6_man fu M x y) (fun M1 => F_X7_man fu M1 x y) := by
  obtain ⟨v, hv, hc, hx⟩ := h.v
  have hm := hv.1
  rcases rng3 x (n := vMen v) (by omega) with hi | ⟨i, hi, rfl⟩
  · exact Two2.same h (r := -1) (by unfold F_X6_man; rw [isMan_C0 hc hi]; rfl) (by unfold F_X7_man; rw [isMan_X0 hv hx hi]; rfl)
  · rcases rng3 y (n := 6) (by omega) with hy | ⟨w, hw, rfl⟩
    · refine Two2.same h (r := -1) ?_ (by unfold F_X7_man; rw [isMan_X1 hv hx hi, ob1_s, if_neg one_ne, in_no (n := 5) hy I5 (by decide)]; rfl)
      unfold F_X6_man
      rw [isMan_C1 hv hc hi, ob1_s, if_neg one_ne]
      rcases hy with hy | hy
      · rw [if_pos hy]
      · rw [L6, if_neg (Int32.not_lt.mpr hy), ite_self]
    · refine two_t h (x := tlF v i w) ?_ (man_X hf hv (hx.lo (tC_lo _ M)) hi hw)
      unfold F_X6_man
      rw [isMan_C1 hv hc hi, ob1_s, if_neg one_ne, if_neg (nI_pos (by omega)), L6, if_pos (nI_lt hw (by omega)), tellsOf_C hf hv hc hi hw, ob1_s]
      rfl
theorem blk1 {v : NV} (i : Nat) : blk v i 1 = vBulk v i - melD v (vKind v i) (vShade v i) 0 := by
  show vBulk v i - (melD v (vKind v i) (vShade v i) 0 + 0) = _
  rw [Nat.add_zero]
theorem call_mark {fu : Nat} (hf : 1000 ≤ fu) {M : Mm} (h : Rel M) (x y : Int32) : Two2 (F_X6_mark fu M x y) (fun M1 => F_X7_mark fu M1 x y) := by
  obtain ⟨v, hv, hc, hx⟩ := h.v
  have hm := hv.1
  rcases rng3 x (n := vMen v) (by omega) with hi | ⟨i, hi, rfl⟩
  · exact Two2.same h (r := -1) (by unfold F_X6_mark; rw [isMan_C0 hc hi]; rfl) (by unfold F_X7_mark; rw [isMan_X0 hv hx hi]; rfl)
  · rcases rng3 y (n := 6) (by omega) with hy | ⟨w, hw, rfl⟩
    · refine Two2.same h (r := -1) ?_ ?_
      · unfold F_X6_mark
        rw [isMan_C1 hv hc hi, ob1_s, if_neg one_ne]
        rcases hy with hy | hy
        · rw [if_pos (Int32.le_of_lt hy)]
        · rw [L6, if_neg (c := y < nI 6) (Int32.not_lt.mpr hy), ite_self]
      · unfold F_X7_mark
        rw [isMan_X1 hv hx hi, ob1_s, if_neg one_ne]
        rcases hy with hy | hy
        · rw [in_lo (k := 1) (by rw [lt0i] at hy; rw [Int32.lt_iff_toInt_lt, nI_toInt (by decide)]; omega) I1 (by decide)]
          rfl
        · rw [in_hi (n := 5) hy I5 (by decide)]
          rfl
    · by_cases w0 : w = 0
      · subst w0
        refine Two2.same h (r := -1) ?_ ?_
        · unfold F_X6_mark
          rw [isMan_C1 hv hc hi, ob1_s, if_neg one_ne, if_pos (by decide)]
        · unfold F_X7_mark
          rw [isMan_X1 hv hx hi, ob1_s, if_neg one_ne, in_lo (k := 1) (by decide) I1 (by decide)]
          rfl
      · obtain ⟨g1, g2, g3, g4⟩ := hv.2.2.2.2.2 i hi
        obtain ⟨c1, c2, c3, c4⟩ := hc.2.2.2.2 i hi
        have hmd := melD_le hv (vKind v i) (vShade v i) 0
        have hC : F_X6_mark fu M (nI i) (nI w) = (if (vKind v i == w || (w == 1 && hatB (vKind v i))) = true then (if w = 1 then some (nI (min (vBulk v i) (melD v (vKind v i) (vShade v i) 0)), M) else if w = 2 then some (asF (whoN v (vRight v) 0) i, M) else if w = 3 then some (srch (goneP v i) 61 0, M) else if w = 4 then some (nI (cntF (smallP v i) 60 0), M) else some (nI (cntF (melP v i) 8 0), M)) else some (-3, fC 3 M)) := by
          unfold F_X6_mark
          rw [isMan_C1 hv hc hi, ob1_s, if_neg one_ne, if_neg (nI_nle (by omega) (by omega)), L6, if_pos (nI_lt hw (by omega)), rd26 (by omega), ob1_s, c1, isOfKind_C g1 (by omega), ob1_s, rd28 (by omega), ob1_s, c3, show (0 : Int32) = nI 0 from rfl, meltingIn_C hv hc hi (by omega), ob1_s, votesAs_C hf hv hc hi, ob1_s, goneIn_C hf hv hc hi, ob1_s, daysByLaw_C hf hv hc hi, ob1_s, meltingDays_C hf hv hc hi, ob1_s, nI_min (by omega) (by omega), fnd3_C, ob2_s]
          cases hq : (vKind v i == w || (w == 1 && hatB (vKind v i)))
          · rw [if_pos (by decide), if_neg (by decide)]
          · rw [if_neg (by decide), if_pos rfl]
            have hcase : w = 1 ∨ w = 2 ∨ w = 3 ∨ w = 4 ∨ w = 5 := by omega
            rcases hcase with rfl | rfl | rfl | rfl | rfl <;> rfl
        have hX : ∀ M1, XV v M1 → F_X7_mark fu M1 (nI i) (nI w) = (if (vKind v i == w || (w == 1 && hatB (vKind v i))) = true then (if w = 1 then some (nI (min (vBulk v i) (melD v (vKind v i) (vShade v i) 0)), M1) else if w = 2 then some (asF (whoN v (vRight v) 0) i, M1) else if w = 3 then some (srch (goneP v i) 61 0, M1) else if w = 4 then some (nI (cntF (smallP v i) 60 0), M1) else some (nI (cntF (melP v i) 8 0), M1)) else some (-3, fX 3 M1)) := by
          intro M1 hx1
          obtain ⟨d1, d2, d3, d4⟩ := hx1.2.2.2.2 i hi
          have e55 : F_X7_mark_55 fu M1 (nI i) (nI w) = (if w = 1 then some (nI (min (vBulk v i) (melD v (vKind v i) (vShade v i) 0)), M1) else if w = 2 then some (asF (whoN v (vRight v) 0) i, M1) else if w = 3 then some (srch (goneP v i) 61 0, M1) else if w = 4 then some (nI (cntF (smallP v i) 60 0), M1) else some (nI (cntF (melP v i) 8 0), M1)) := by
            have ebt := bulkThen_X hf hv hx1 hi (N := 1) (by omega)
            rw [blk1] at ebt
            unfold F_X7_mark_55
            rw [xr94 (by omega), clN (by omega), d3, show (1 : Int32) = nI 1 from rfl, ebt, ob1_s, pk_sub (Nat.sub_le _ _), votesAs_X hf hv hx1 hi, ob1_s, goneIn_X hf hv hx1 hi, ob1_s, smallDays_X hf hv hx1 hi, ob1_s, meltDays_X hf hv hx1 hi, ob1_s, show vBulk v i - (vBulk v i - melD v (vKind v i) (vShade v i) 0) = min (vBulk v i) (melD v (vKind v i) (vShade v i) 0) by omega]
            have hcase : w = 1 ∨ w = 2 ∨ w = 3 ∨ w = 4 ∨ w = 5 := by omega
            rcases hcase with rfl | rfl | rfl | rfl | rfl <;> rfl
          have e49 : F_X7_mark_49 fu M1 = some (-3, fX 3 M1) := by unfold F_X7_mark_49; rw [fnd3_X]; rfl
          unfold F_X7_mark
          rw [isMan_X1 hv hx1 hi, ob1_s, if_neg one_ne, in_ok (k := 1) (n := 5) (by omega) (by omega) I1 I5 (by decide), ob1_s, if_neg one_ne, xr91 (by omega), xr91 (by omega), clN (by omega), d1, isHatted_X g1, ob1_s, e55, e49]
          by_cases hk : vKind v i = w
          · rw [if_pos (show nI (vKind v i) = nI w by rw [hk]), if_pos (show (vKind v i == w || (w == 1 && hatB (vKind v i))) = true by rw [hk]; simp)]
          · rw [if_neg (by rw [eqN (by omega) (by omega)]; exact hk)]
            by_cases w1 : w = 1
            · subst w1
              rw [if_pos (by decide)]
              have hk' : (vKind v i == 1) = false := by simpa using hk
              rw [hk', Bool.false_or]
              cases hatB (vKind v i) <;> rfl
            · rw [if_neg (by rw [L1, eqN (by omega) (by omega)]; exact w1), if_neg]
              intro q
              rw [Bool.or_eq_true, Bool.and_eq_true] at q
              rcases q with q | q
              · exact hk (by simpa using q)
              · exact w1 (by simpa using q.1)
        rw [hC]
        cases hq : (vKind v i == w || (w == 1 && hatB (vKind v i)))
        · exact two_f h (f := 3) (by decide) (by rw [if_neg (by decide)]) (by rw [hX _ (hx.lo (fC_lo 3 M)), hq, if_neg (by decide)])
        · have hXM := hX M hx
          rw [hq, if_pos rfl] at hXM
          rw [if_pos rfl]
          have hcase : w = 1 ∨ w = 2 ∨ w = 3 ∨ w = 4 ∨ w = 5 := by omega
          rcases hcase with rfl | rfl | rfl | rfl | rfl
          · exact Two2.same h rfl hXM
          · exact Two2.same h rfl hXM
          · exact Two2.same h rfl hXM
          · exact Two2.same h rfl hXM
          · exact Two2.same h rfl hXM
theorem call_asked {fu : Nat} {M : Mm} (h : Rel M) : Two (F_X6_asked fu M) (F_X7_asked fu M) := ⟨_, rfl, by unfold F_X7_asked; rw [h.1.2.1]⟩
theorem call_finding {fu : Nat} {M : Mm} (h : Rel M) : Two (F_X6_finding fu M) (F_X7_finding fu M) := ⟨_, rfl, by unfold F_X7_finding; rw [h.1.1]⟩
theorem call_findings {fu : Nat} {M : Mm} (h : Rel M) (x : Int32) : Two (F_X6_findings fu M x) (F_X7_findings fu M x) := by
  unfold F_X6_findings F_X7_findings
  rcases rng3 x (n := 6) (by omega) with hy | ⟨w, hw, rfl⟩
  · refine ⟨-1, ?_, ?_⟩
    · rcases hy with hy | hy
      · rw [if_pos (by rw [lt0i] at hy; rw [Int32.lt_iff_toInt_lt, show (1 : Int32).toInt = 1 from rfl]; omega)]
      · rw [L5, if_neg (gt_hi hy (by decide)), ite_self]
    · rcases hy with hy | hy
      · rw [in_lo (k := 1) (by rw [lt0i] at hy; rw [Int32.lt_iff_toInt_lt, nI_toInt (by decide)]; omega) I1 (by decide)]
        rfl
      · rw [in_hi (n := 5) hy I5 (by decide)]
        rfl
  · by_cases w0 : w = 0
    · subst w0
      refine ⟨-1, by rw [if_pos (by decide)], ?_⟩
      rw [in_lo (k := 1) (by decide) I1 (by decide)]
      rfl
    · refine ⟨M.1 80 w, ?_, ?_⟩
      · rw [L1, if_neg (nI_nlt (by omega) (by omega)), L5, if_pos (nI_le (by omega) (by omega)), rd80 hw, ob1_s]
      · rw [in_ok (k := 1) (n := 5) (by omega) (by omega) I1 I5 (by decide), ob1_s, if_neg one_ne, xr99 hw, clN (by omega), h.1.2.2.2.2 w hw]
theorem rowsThere_C4 {fu : Nat} {M : Mm} {p : Nat → Bool} (hp : ∀ r, r < 6 → (M.1 (1 + r) 0 = 0 ↔ p r = false)) : ∀ (m n i a : Nat), i + m = 6 → m < n → F_X6_rowsThere_4 fu M n (nI a) (nI i) = some (nI (a + cntF p m i)) := by
  intro m
  induction m with
  | zero =>
    intro n i a hi hn
    obtain ⟨n, rfl⟩ : ∃ q, n = q + 1 := ⟨n - 1, by omega⟩
    unfold F_X6_rowsThere_4
    rw [L6, if_pos (nI_le (by omega) (by omega))]
    rfl
  | succ m ih =>
    intro n i a hi hn
    obtain ⟨n, rfl⟩ : ∃ q, n = q + 1 := ⟨n - 1, by omega⟩
    have hpi := hp i (by omega)
    unfold F_X6_rowsThere_4 cntF
    rw [L6, if_neg (nI_ge (by omega) (by omega)), rowOf_C1 (by omega), ob1_s, op1_s, kd_R (by omega), if_neg (by decide), nI_1, nI_1, ih n (i + 1) _ (by omega) (by omega), ih n (i + 1) _ (by omega) (by omega)]
    cases hq : p i
    · rw [if_pos (hpi.mpr hq), if_neg (by decide), Nat.zero_add]
    · rw [if_neg (fun z => by have := hpi.mp z; rw [hq] at this; cases this), if_pos rfl, Nat.add_assoc]
theorem textsThere_C4 {fu : Nat} {M : Mm} {p : Nat → Bool} (hp : ∀ r, r < 4 → (M.1 (13 + r) 0 = 0 ↔ p r = false)) : ∀ (m n i a : Nat), i + m = 4 → m < n → F_X6_textsThere_4 fu M n (nI a) (nI i) = some (nI (a + cntF p m i)) := by
  intro m
  induction m with
  | zero =>
    intro n i a hi hn
    obtain ⟨n, rfl⟩ : ∃ q, n = q + 1 := ⟨n - 1, by omega⟩
    unfold F_X6_textsThere_4
    rw [L4, if_pos (nI_le (by omega) (by omega))]
    rfl
  | succ m ih =>
    intro n i a hi hn
    obtain ⟨n, rfl⟩ : ∃ q, n = q + 1 := ⟨n - 1, by omega⟩
    have hpi := hp i (by omega)
    unfold F_X6_textsThere_4 cntF
    rw [L4, if_neg (nI_ge (by omega) (by omega)), textOf_C1 (by omega), ob1_s, op1_s, kd_T (by omega), if_neg (by decide), nI_1, nI_1, ih n (i + 1) _ (by omega) (by omega), ih n (i + 1) _ (by omega) (by omega)]
    cases hq : p i
    · rw [if_pos (hpi.mpr hq), if_neg (by decide), Nat.zero_add]
    · rw [if_neg (fun z => by have := hpi.mp z; rw [hq] at this; cases this), if_pos rfl, Nat.add_assoc]
theorem keptThere_C4 {fu : Nat} {M : Mm} {p : Nat → Bool} (hp : ∀ r, r < 3 → (M.1 (35 + 11 * r) 0 ≤ 0 ↔ p r = false)) : ∀ (m n i a : Nat), i + m = 3 → m < n → F_X6_keptThere_4 fu M n (nI a) (nI i) = some (nI (a + cntF p m i)) := by
  intro m
  induction m with
  | zero =>
    intro n i a hi hn
    obtain ⟨n, rfl⟩ : ∃ q, n = q + 1 := ⟨n - 1, by omega⟩
    unfold F_X6_keptThere_4
    rw [L3, if_pos (nI_le (by omega) (by omega))]
    rfl
  | succ m ih =>
    intro n i a hi hn
    obtain ⟨n, rfl⟩ : ∃ q, n = q + 1 := ⟨n - 1, by omega⟩
    have hpi := hp i (by omega)
    unfold F_X6_keptThere_4 cntF
    rw [L3, if_neg (nI_ge (by omega) (by omega)), keptOf_C1 (by omega), ob1_s, op1_s, kd_K (by omega), if_neg (by decide), nI_1, nI_1, ih n (i + 1) _ (by omega) (by omega), ih n (i + 1) _ (by omega) (by omega)]
    cases hq : p i
    · rw [if_pos (hpi.mpr hq), if_neg (by decide), Nat.zero_add]
    · rw [if_neg (fun z => by have := hpi.mp z; rw [hq] at this; cases this), if_pos rfl, Nat.add_assoc]
theorem there_X4 {fu : Nat} {M : Mm} {c N : Nat} (hN : N = ln c) (hN6 : N ≤ 6) {p : Nat → Bool} (hp : ∀ r, r < N → (M.1 c r = -9 ↔ p r = false)) : ∀ (m n i a : Nat), i + m = N → m < n → F_X7_there_4 fu M n c (nI N) (nI a) (nI i) = some (nI (a + cntF p m i)) := by
  intro m
  induction m with
  | zero =>
    intro n i a hi hn
    obtain ⟨n, rfl⟩ : ∃ q, n = q + 1 := ⟨n - 1, by omega⟩
    unfold F_X7_there_4
    rw [if_pos (nI_le (by omega) (by omega))]
    rfl
  | succ m ih =>
    intro n i a hi hn
    obtain ⟨n, rfl⟩ : ∃ q, n = q + 1 := ⟨n - 1, by omega⟩
    have hpi := hp i (by omega)
    unfold F_X7_there_4 cntF
    rw [if_neg (nI_ge (by omega) (by omega)), ← hN, if_neg (nI_in (by omega) (by omega)), clN (by omega), L0, ad_z, nI_1, nI_1, ih n (i + 1) _ (by omega) (by omega), ih n (i + 1) _ (by omega) (by omega)]
    cases hq : p i
    · rw [if_pos (hpi.mpr hq), if_neg (by decide), Nat.zero_add]
    · rw [if_neg (fun z => by have := hpi.mp z; rw [hq] at this; cases this), if_pos rfl, Nat.add_assoc]
theorem norths_X4 {fu : Nat} {M : Mm} {p : Nat → Bool} (hp : ∀ r, r < 3 → (M.1 98 r = 0 ↔ p r = false)) : ∀ (m n i a : Nat), i + m = 3 → m < n → F_X7_norths_4 fu M n (nI a) (nI i) = some (nI (a + cntF p m i)) := by
  intro m
  induction m with
  | zero =>
    intro n i a hi hn
    obtain ⟨n, rfl⟩ : ∃ q, n = q + 1 := ⟨n - 1, by omega⟩
    unfold F_X7_norths_4
    rw [L3, if_pos (nI_le (by omega) (by omega))]
    rfl
  | succ m ih =>
    intro n i a hi hn
    obtain ⟨n, rfl⟩ : ∃ q, n = q + 1 := ⟨n - 1, by omega⟩
    have hpi := hp i (by omega)
    unfold F_X7_norths_4 cntF
    rw [L3, if_neg (nI_ge (by omega) (by omega)), xr98 (by omega), clN (by omega), nI_1, nI_1, ih n (i + 1) _ (by omega) (by omega), show (nI a + 0 : Int32) = nI a from Int32.add_zero _, ih n (i + 1) _ (by omega) (by omega)]
    cases hq : p i
    · rw [if_pos (hpi.mpr hq), if_neg (by decide), Nat.zero_add]
    · rw [if_neg (fun z => by have := hpi.mp z; rw [hq] at this; cases this), if_pos rfl, Nat.add_assoc]
theorem RRi.b {M : Mm} {r : Nat} (h : RRi M r) : (M.1 (1 + r) 0 = 0 ↔ decide (¬ M.1 88 r = -9) = false) ∧ (M.1 88 r = -9 ↔ decide (¬ M.1 88 r = -9) = false) := by
  rcases h with ⟨a, b⟩ | ⟨a, n, hn, b, c, d⟩
  · rw [a, b]; decide
  · rw [a, c]
    have := no9 (n := n) (by omega)
    simp [this]
theorem RXi.b {M : Mm} {r : Nat} (h : RXi M r) : (M.1 (13 + r) 0 = 0 ↔ decide (¬ M.1 90 r = -9) = false) ∧ (M.1 90 r = -9 ↔ decide (¬ M.1 90 r = -9) = false) := by
  rcases h with ⟨a, b⟩ | ⟨a, n, hn, b, c, d⟩
  · rw [a, b]; decide
  · rw [a, c]
    have := no9 (n := n) (by omega)
    simp [this]
theorem KP.b {s : Ns} {M : Mm} {k : Nat} (h : KP s M k) : (M.1 (35 + 11 * k) 0 ≤ 0 ↔ decide (¬ M.1 98 k = 0) = false) ∧ (M.1 98 k = 0 ↔ decide (¬ M.1 98 k = 0) = false) := by
  rcases h with ⟨a, b⟩ | ⟨a, q, s', c1, c2, c3, c4⟩
  · rw [a, b]; decide
  · have hm := c1.1.1
    rw [a, c3.1]
    have : ¬ nI (vMen s'.1) ≤ 0 := nI_nle (by have := c2.1; omega) (by omega)
    simp [this]
theorem two_count {fu : Nat} (hf : 1000 ≤ fu) {M : Mm} (h : Rel M) {w : Nat} (hw : w < 9) : Two (F_X6_countOf fu M (nI w)) (F_X7_count fu M (nI w)) := by
  obtain ⟨s, hs, hc, hx, hk⟩ := h.2.2.2
  have hv := hs.v
  have bb := cur_sb s
  have m0 := cur0 s
  unfold F_X6_countOf F_X7_count
  have hcase : w = 0 ∨ w = 1 ∨ w = 2 ∨ w = 3 ∨ w = 4 ∨ w = 5 ∨ w = 6 ∨ w = 7 ∨ w = 8 := by omega
  rcases hcase with rfl | rfl | rfl | rfl | rfl | rfl | rfl | rfl | rfl
  · exact ⟨M.1 24 0, rfl, by rw [hc.1, ← bb.1, ← hx.1.1]; rfl⟩
  · exact ⟨M.1 24 2, rfl, by rw [hc.2.2.1, ← hx.1.2.2.1]; rfl⟩
  · refine ⟨M.1 24 1, rfl, ?_⟩
    rw [if_neg (by decide), if_neg (by decide), if_pos (by decide), hc.2.1]
    by_cases h0 : vMen s.1 = 0
    · rw [if_pos (by rw [men0_X hv hx.1, m0]; exact h0), hs.2.2.2.2.2.2 h0]
      rfl
    · rw [if_neg (by rw [men0_X hv hx.1, m0]; exact h0), hx.1.2.1]
      rfl
  · exact ⟨M.1 24 3, rfl, by rw [hc.2.2.2.1, ← hx.2.1]; rfl⟩
  · exact ⟨nI (sumB (cur s) (vMen (cur s))), by rw [bulkOfAll_C hf hv hc.cv]; rfl, by rw [allBulks_X hf hv hx.1]; rfl⟩
  · exact ⟨nI (cnt (hatP (cur s)) (vMen (cur s))), by rw [hattedOnes_C hf hv hc.cv]; rfl, by rw [hatted_X hf hv hx.1]; rfl⟩
  · have e1 := rowsThere_C4 (fu := fu) (M := M) (p := fun r => decide (¬ M.1 88 r = -9)) (fun r hr => (h.2.1 r hr).b.1) 6 fu 0 0 (by omega) (by omega)
    have e2 := there_X4 (fu := fu) (M := M) (c := 88) (N := 6) (by decide) (by decide) (p := fun r => decide (¬ M.1 88 r = -9)) (fun r hr => (h.2.1 r hr).b.2) 6 fu 0 0 (by omega) (by omega)
    exact ⟨_, by unfold F_X6_rowsThere; rw [L0, e1]; rfl, by unfold F_X7_there; rw [L0, show (6 : Int32) = nI 6 from rfl, e2]; rfl⟩
  · have e1 := textsThere_C4 (fu := fu) (M := M) (p := fun r => decide (¬ M.1 90 r = -9)) (fun r hr => (h.2.2.1 r hr).b.1) 4 fu 0 0 (by omega) (by omega)
    have e2 := there_X4 (fu := fu) (M := M) (c := 90) (N := 4) (by decide) (by decide) (p := fun r => decide (¬ M.1 90 r = -9)) (fun r hr => (h.2.2.1 r hr).b.2) 4 fu 0 0 (by omega) (by omega)
    exact ⟨_, by unfold F_X6_textsThere; rw [L0, e1]; rfl, by unfold F_X7_there; rw [L0, show (4 : Int32) = nI 4 from rfl, e2]; rfl⟩
  · have e1 := keptThere_C4 (fu := fu) (M := M) (p := fun r => decide (¬ M.1 98 r = 0)) (fun r hr => (hk r hr).b.1) 3 fu 0 0 (by omega) (by omega)
    have e2 := norths_X4 (fu := fu) (M := M) (p := fun r => decide (¬ M.1 98 r = 0)) (fun r hr => (hk r hr).b.2) 3 fu 0 0 (by omega) (by omega)
    exact ⟨_, by unfold F_X6_keptThere; rw [L0, e1]; rfl, by unfold F_X7_norths; rw [L0, e2]; rfl⟩
theorem call_count {fu : Nat} (hf : 1000 ≤ fu) {M : Mm} (h : Rel M) (x : Int32) : Two (F_X6_count fu M x) (F_X7_count fu M x) := by
  rcases rng3 x (n := 9) (by omega) with hy | ⟨w, hw, rfl⟩
  · refine ⟨-1, ?_, ?_⟩
    · unfold F_X6_count
      rcases hy with hy | hy
      · rw [if_pos hy]
      · rw [L9, if_neg (c := x < nI 9) (Int32.not_lt.mpr hy), ite_self]
    · have hne : ∀ k, k < 9 → ¬ x = nI k := by
        intro k hk e
        subst e
        rcases hy with hy | hy
        · exact nI_pos (by omega) hy
        · exact nI_ge hk (by omega) hy
      unfold F_X7_count
      rw [if_neg (show ¬ x = 0 from hne 0 (by decide)), if_neg (show ¬ x = 1 from hne 1 (by decide)), if_neg (show ¬ x = 2 from hne 2 (by decide)), if_neg (show ¬ x = 3 from hne 3 (by decide)), if_neg (show ¬ x = 4 from hne 4 (by decide)), if_neg (show ¬ x = 5 from hne 5 (by decide)), if_neg (show ¬ x = 6 from hne 6 (by decide)), if_neg (show ¬ x = 7 from hne 7 (by decide)), if_neg (show ¬ x = 8 from hne 8 (by decide))]
  · obtain ⟨r, e1, e2⟩ := two_count hf h hw
    refine ⟨r, ?_, e2⟩
    unfold F_X6_count
    rw [if_neg (nI_pos (by omega)), L9, if_pos (nI_lt hw (by omega)), e1, ob1_s]
