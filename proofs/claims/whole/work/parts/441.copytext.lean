/-! copy, text, put -/
theorem Out.pC {P : Nat → Nat → Prop} {M M1 : Mm} {x y a b n : Nat} (h : Out P M M1) (hp : ∀ j, P y j) : Out P M (pC M1 x y a b n) := h.trans fun c i hn => by
  have hc : c ≠ y := fun q => hn (q ▸ hp i)
  have := pC_off (M := M1) (x := x) (a := a) (b := b) (n := n) c hc
  exact ⟨by rw [this.1], by rw [this.2]⟩
theorem sub40 {s n : Nat} (hs : s ≤ 40) (hn : n < 2147483648) : (nI s - nI n).toInt = (s : Int) - n := by
  rw [Int32.toInt_sub, nI_toInt (by omega), nI_toInt (by omega)]
  exact Int.bmod_eq_of_le (by omega) (by omega)
theorem lt0i {x : Int32} : x < 0 ↔ x.toInt < 0 := by
  rw [Int32.lt_iff_toInt_lt, show (0 : Int32).toInt = 0 from rfl]
theorem reaches_C {fu : Nat} {M : Mm} {r s n : Nat} (hr : r < 6) (hs : s ≤ 40) (hn : n < 2147483648) (h : M.1 (1 + r) 1 = nI s) (x : Int32) : F_X4_reaches fu M (1 + r) x (nI n) = some (bI (decide (0 ≤ x.toInt ∧ x.toInt + n ≤ s))) := by
  unfold F_X4_reaches
  rw [h, ln_R hr, if_neg (nI_pos hn), if_neg (nI_nlt (by omega) (by omega))]
  by_cases h1 : x < 0
  · rw [if_pos h1, decide_eq_false (by rw [lt0i] at h1; omega)]
    rfl
  · rw [if_neg h1]
    rw [lt0i] at h1
    by_cases h2 : (nI s - nI n) < x
    · rw [if_pos h2, decide_eq_false]
      · rfl
      · rw [Int32.lt_iff_toInt_lt, sub40 hs hn] at h2
        omega
    · rw [if_neg h2, decide_eq_true]
      · rfl
      · rw [Int32.lt_iff_toInt_lt, sub40 hs hn] at h2
        omega
theorem cmp_s {x : Int32} {n s : Nat} (hn : n < 2147483648) (hs : s ≤ 60) : (lg_cmp (x.toInt64 + (nI n).toInt64) (nI s).toInt64 ≤ 0) ↔ x.toInt + n ≤ s := by
  rw [lg_cmp_le, Int64.le_iff_toInt_le, lg_i2l_add, Int32.toInt_toInt64, nI_toInt hn, nI_toInt (by omega)]
theorem cmp_s' {x : Int32} {n s : Nat} (hn : n < 2147483648) (hs : s ≤ 60) : (0 < lg_cmp (x.toInt64 + (nI n).toInt64) (nI s).toInt64) ↔ (s : Int) < x.toInt + n := by
  rw [lg_cmp_gt, Int64.lt_iff_toInt_lt, lg_i2l_add, Int32.toInt_toInt64, nI_toInt hn, nI_toInt (by omega)]
theorem copy_X145 {fu : Nat} {t j N : Nat} {f : Nat → Int32} (ht : t < 6) (hj : j + N ≤ 40) : ∀ (m n : Nat) (M : Mm) (k : Nat), k + m = N → m < n → (∀ q, q < N → M.1 100 q = f q) → (∀ q, q < k → M.1 87 (40 * t + j + q) = f q) → ∃ M', F_X7_copy_145 fu n M (nI t) (nI j) (nI N) (nI k) = some (1, M') ∧ (∀ q, q < N → M'.1 87 (40 * t + j + q) = f q) ∧ Out (fun x p => x = 87 ∧ 40 * t + j ≤ p ∧ p < 40 * t + j + N) M M' := by
  intro m
  induction m with
  | zero =>
    intro n M k hk hn h1 h2
    obtain ⟨n, rfl⟩ : ∃ q, n = q + 1 := ⟨n - 1, by omega⟩
    refine ⟨M, ?_, fun q hq => h2 q (by omega), Out.rf⟩
    unfold F_X7_copy_145
    rw [if_pos (nI_le (by omega) (by omega))]
  | succ m ih =>
    intro n M k hk hn h1 h2
    obtain ⟨n, rfl⟩ : ∃ q, n = q + 1 := ⟨n - 1, by omega⟩
    obtain ⟨M', a1, a2, a3⟩ := ih n (pI M 87 (40 * t + j + k) (M.1 100 k)) (k + 1) (by omega) (by omega) (fun q hq => by rw [pI_n (by omega)]; exact h1 q hq) (fun q hq => by
      by_cases hqk : q = k
      · rw [hqk, pI_s, h1 k (by omega)]
      · rw [pI_n (by omega)]
        exact h2 q (by omega))
    refine ⟨M', ?_, a2, ((Out.rf).pI (by omega)).trans a3⟩
    unfold F_X7_copy_145
    rw [if_neg (nI_ge (by omega) (by omega)), xr100 (by omega), L40, pk_mul, nI_add, nI_add, xr87 (by omega), clN (by omega), clN (by omega), lt1_s, nI_1]
    exact a1
theorem copy_X108 {fu : Nat} (hf : 1000 ≤ fu) {r i t j N : Nat} {f : Nat → Int32} (hr : r < 6) (hi : i + N ≤ 40) (ht : t < 6) (hj : j + N ≤ 40) : ∀ (m n : Nat) (M : Mm) (k : Nat), k + m = N → m < n → (∀ q, q < N → M.1 87 (40 * r + i + q) = f q) → (∀ q, q < k → M.1 100 q = f q) → ∃ M', F_X7_copy_108 fu n M (nI r) (nI i) (nI t) (nI j) (nI N) (nI k) = some (1, M') ∧ (∀ q, q < N → M'.1 87 (40 * t + j + q) = f q) ∧ Out (fun x p => x = 100 ∨ (x = 87 ∧ 40 * t + j ≤ p ∧ p < 40 * t + j + N)) M M' := by
  intro m
  induction m with
  | zero =>
    intro n M k hk hn h1 h2
    obtain ⟨n, rfl⟩ : ∃ q, n = q + 1 := ⟨n - 1, by omega⟩
    obtain ⟨M', a1, a2, a3⟩ := copy_X145 (fu := fu) (f := f) ht hj N fu M 0 (by omega) (by omega) (fun q hq => h2 q (by omega)) (fun q hq => by omega)
    refine ⟨M', ?_, a2, a3.wk fun x p q => Or.inr q⟩
    unfold F_X7_copy_108
    rw [if_pos (nI_le (by omega) (by omega))]
    exact a1
  | succ m ih =>
    intro n M k hk hn h1 h2
    obtain ⟨n, rfl⟩ : ∃ q, n = q + 1 := ⟨n - 1, by omega⟩
    obtain ⟨M', a1, a2, a3⟩ := ih n (pI M 100 k (M.1 87 (40 * r + i + k))) (k + 1) (by omega) (by omega) (fun q hq => by rw [pI_n (by omega)]; exact h1 q hq) (fun q hq => by
      by_cases hqk : q = k
      · rw [hqk, pI_s, h1 k (by omega)]
      · rw [pI_n (by omega)]
        exact h2 q (by omega))
    refine ⟨M', ?_, a2, ((Out.rf).pI (by omega)).trans a3⟩
    unfold F_X7_copy_108
    rw [if_neg (nI_ge (by omega) (by omega)), L40, pk_mul, nI_add, nI_add, xr87 (by omega), xr100 (by omega), clN (by omega), clN (by omega), lt1_s, nI_1]
    exact a1
theorem call_copy {fu : Nat} (hf : 1000 ≤ fu) {M : Mm} (h : Rel M) (x y w z u : Int32) : Two2 (F_X6_copy fu M x y w z u) (fun M1 => F_X7_copy fu M1 x y w z u) := by
  unfold F_X6_copy F_X7_copy
  rcases rng3 x (n := 6) (by omega) with hi | ⟨r, hr, rfl⟩
  · refine Two2.same h ?_ (by rw [isRow_X0 hi]; rfl)
    rw [rowOf_C0 hi, ob1_s, op1_n]
    rcases rng3 w (n := 6) (by omega) with hw | ⟨t, ht, rfl⟩
    · rw [rowOf_C0 hw]; rfl
    · rw [rowOf_C1 ht, ob1_s, op1_s, kd_R ht, if_neg (by decide)]
  · rcases rng3 w (n := 6) (by omega) with hw | ⟨t, ht, rfl⟩
    · refine Two2.same h (r := -1) ?_ ?_
      · rw [rowOf_C1 hr, ob1_s, op1_s, kd_R hr, if_neg (by decide), rowOf_C0 hw]; rfl
      · rw [isRow_X1 hr, ob1_s, if_neg (by decide), isRow_X0 hw]; rfl
    · by_cases hu : u < 0
      · refine two_f h (f := 5) (by decide) ?_ ?_
        · rw [rowOf_C1 hr, ob1_s, op1_s, kd_R hr, if_neg (by decide), rowOf_C1 ht, ob1_s, op1_s, kd_R ht, if_neg (by decide), if_neg (nn_lt hu), fnd5_C]
          rfl
        · rw [isRow_X1 hr, ob1_s, if_neg (by decide), isRow_X1 ht, ob1_s, if_neg (by decide), if_neg (nn_lt hu), fnd5_X]
          rfl
      · obtain ⟨N, hN, rfl⟩ := nI_of hu
        have hC : (ob1 (F_X6_rowOf fu M (nI r)) fun r2 => op1 r2 (ob1 (F_X6_rowOf fu M (nI t)) fun r6 => op1 r6 (some ((-1 : Int32), M)) fun c7 => if ¬kd c7 = 12 then none else some ((-1 : Int32), M)) fun c3 => if ¬kd c3 = 12 then none else ob1 (F_X6_rowOf fu M (nI t)) fun r10 => op1 r10 (some ((-1 : Int32), M)) fun c11 => if ¬kd c11 = 12 then none else if 0 ≤ nI N then if M.1 c3 0 = 0 then F_X6_copy_53 fu M else if M.1 c11 0 = 0 then F_X6_copy_53 fu M else ob1 (F_X4_reaches fu M c3 y (nI N)) fun r17 => if r17 = 0 then F_X6_copy_82 fu M else ob1 (F_X4_reaches fu M c11 z (nI N)) fun r20 => if r20 = 0 then F_X6_copy_82 fu M else if y < 0 then none else if z < 0 then none else if nI N < 0 then none else if ln (c3 + 6) < y.toNatClampNeg + (nI N).toNatClampNeg then none else if ln (c11 + 6) < z.toNatClampNeg + (nI N).toNatClampNeg then none else lt1 (pC M (c3 + 6) (c11 + 6) y.toNatClampNeg z.toNatClampNeg (nI N).toNatClampNeg) (fun M22 => some ((1 : Int32), M22)) else ob2 (F_X6_found fu M (5 : Int32)) (fun r29 M30 => some (r29, M30))) = (if M.1 (1 + r) 0 = 0 then F_X6_copy_53 fu M else if M.1 (1 + t) 0 = 0 then F_X6_copy_53 fu M else ob1 (F_X4_reaches fu M (1 + r) y (nI N)) fun r17 => if r17 = 0 then F_X6_copy_82 fu M else ob1 (F_X4_reaches fu M (1 + t) z (nI N)) fun r20 => if r20 = 0 then F_X6_copy_82 fu M else if y < 0 then none else if z < 0 then none else if nI N < 0 then none else if ln (1 + r + 6) < y.toNatClampNeg + (nI N).toNatClampNeg then none else if ln (1 + t + 6) < z.toNatClampNeg + (nI N).toNatClampNeg then none else lt1 (pC M (1 + r + 6) (1 + t + 6) y.toNatClampNeg z.toNatClampNeg (nI N).toNatClampNeg) (fun M22 => some ((1 : Int32), M22))) := by
          rw [rowOf_C1 hr, ob1_s, op1_s, kd_R hr, if_neg (by decide), rowOf_C1 ht, ob1_s, op1_s, kd_R ht, if_neg (by decide), if_pos (nI_pos' hN)]
        rw [hC]
        have hX : ∀ M1 : Mm, F_X7_copy fu M1 (nI r) y (nI t) z (nI N) = (if M1.1 88 r = (-9 : Int32) then F_X7_copy_49 fu M1 else if M1.1 88 t = (-9 : Int32) then F_X7_copy_49 fu M1 else if y < 0 then F_X7_copy_99 fu M1 else if z < 0 then F_X7_copy_99 fu M1 else if 0 < lg_cmp (y.toInt64 + (nI N).toInt64) (M1.1 88 r).toInt64 then F_X7_copy_99 fu M1 else if lg_cmp (z.toInt64 + (nI N).toInt64) (M1.1 88 t).toInt64 ≤ 0 then F_X7_copy_108 fu fu M1 (nI r) y (nI t) z (nI N) (0 : Int32) else F_X7_copy_99 fu M1) := fun M1 => by
          unfold F_X7_copy
          rw [isRow_X1 hr, ob1_s, if_neg (by decide), isRow_X1 ht, ob1_s, if_neg (by decide), if_pos (nI_pos' hN), xr88 hr, xr88 ht, xr88 hr, xr88 ht, clN (by omega), clN (by omega)]
        change Two2 _ (fun M1 => F_X7_copy fu M1 (nI r) y (nI t) z (nI N))
        have q49 : ∀ M1 : Mm, F_X7_copy_49 fu M1 = some (-3, fX 1 M1) := fun M1 => by unfold F_X7_copy_49; rw [fnd1_X]; rfl
        have q99 : ∀ M1 : Mm, F_X7_copy_99 fu M1 = some (-3, fX 2 M1) := fun M1 => by unfold F_X7_copy_99; rw [fnd2_X]; rfl
        have q53 : F_X6_copy_53 fu M = some (-3, fC 1 M) := by unfold F_X6_copy_53; rw [fnd1_C]; rfl
        have q82 : F_X6_copy_82 fu M = some (-3, fC 2 M) := by unfold F_X6_copy_82; rw [fnd2_C]; rfl
        rw [q53, q82]
        rcases h.2.1 r hr with ⟨c1, c2⟩ | ⟨c1, n, hn, c2, c3, c4⟩
        · exact two_f h (f := 1) (by decide) (by rw [if_pos c1]) (by rw [hX, (fC_lo 1 M 88 r (by decide)).1, if_pos c2, q49])
        · rw [c1, if_neg one_ne]
          rcases h.2.1 t ht with ⟨d1, d2⟩ | ⟨d1, k, hk, d2, d3, d4⟩
          · exact two_f h (f := 1) (by decide) (by rw [if_pos d1]) (by rw [hX, (fC_lo 1 M 88 r (by decide)).1, c3, if_neg (no9 (by omega)), (fC_lo 1 M 88 t (by decide)).1, if_pos d2, q49])
          · rw [d1, if_neg one_ne, reaches_C hr hn hN c2, ob1_s, reaches_C ht hk hN d2, ob1_s]
            by_cases hA : 0 ≤ y.toInt ∧ y.toInt + N ≤ n
            · by_cases hB : 0 ≤ z.toInt ∧ z.toInt + N ≤ k
              · have hy : ¬ y < 0 := by rw [lt0i]; omega
                have hz : ¬ z < 0 := by rw [lt0i]; omega
                obtain ⟨i, hi, rfl⟩ := nI_of hy
                obtain ⟨j, hj, rfl⟩ := nI_of hz
                rw [nI_toInt hi] at hA
                rw [nI_toInt hj] at hB
                have oC : Out (fun x _ => x = 1 + t + 6) M (pC M (1 + r + 6) (1 + t + 6) i j N) := Out.pC Out.rf fun _ => rfl
                have lo : Lo M (pC M (1 + r + 6) (1 + t + 6) i j N) := Lo.of oC fun x j q => by omega
                obtain ⟨M2, b1, b2, b3⟩ := copy_X108 (fu := fu) hf (r := r) (i := i) (t := t) (j := j) (N := N) (f := fun q => M.1 87 (40 * r + i + q)) hr (by omega) ht (by omega) N fu (pC M (1 + r + 6) (1 + t + 6) i j N) 0 (by omega) (by omega) (fun q hq => (lo 87 _ (by decide)).1) (fun q hq => by omega)
                refine ⟨1, pC M (1 + r + 6) (1 + t + 6) i j N, M2, ?_, ?_, ?_⟩
                · rw [decide_eq_true (by rw [nI_toInt hi]; omega), decide_eq_true (by rw [nI_toInt hj]; omega), if_neg (by decide), if_neg (by decide), if_neg hy, if_neg hz, if_neg (nI_pos hN), ln_R hr, ln_R ht, clN hi, clN hj, clN hN, if_neg (by omega), if_neg (by omega)]
                  rfl
                · show F_X7_copy fu _ _ _ _ _ _ = _
                  rw [hX, (lo 88 r (by decide)).1, c3, if_neg (no9 (by omega)), (lo 88 t (by decide)).1, d3, if_neg (no9 (by omega)), if_neg hy, if_neg hz, if_neg (by rw [cmp_s' hN (by omega), nI_toInt hi]; omega), if_pos (by rw [cmp_s hN (by omega), nI_toInt hj]; omega)]
                  exact b1
                · refine h.row ht ((oC.wk (P := fun x p => pR t x p ∨ scr x p) fun x p q => Or.inl (by unfold pR; omega)).trans (b3.wk fun x p q => ?_)) (fun x p q => q) (Or.inr ⟨?_, k, hk, ?_, ?_, fun q hq => ?_⟩)
                  · by_cases hx : x = 100
                    · exact Or.inr (by unfold scr sT sR sX sN; omega)
                    · exact Or.inl (by unfold pR; omega)
                  · rw [(b3 _ _ (by omega)).1, (oC _ _ (by omega)).1, d1]
                  · rw [(b3 _ _ (by omega)).1, (oC _ _ (by omega)).1, d2]
                  · rw [(b3 _ _ (by omega)).1, (oC _ _ (by omega)).1, d3]
                  · rw [(b3 (1 + t + 6) _ (by omega)).1, pC_at]
                    by_cases hq2 : j ≤ q ∧ q < j + N
                    · have e := b2 (q - j) (by omega)
                      rw [show 40 * t + j + (q - j) = 40 * t + q by omega] at e
                      rw [pk_cpy_in hq2.1 hq2.2, e, c4 _ (by omega)]
                      exact congrArg _ (by omega)
                    · rw [pk_cpy_out (by omega), (b3 _ _ (by omega)).1, (oC _ _ (by omega)).1, d4 q hq]
              · refine two_f h (f := 2) (by decide) ?_ ?_
                · rw [decide_eq_true hA, decide_eq_false hB, if_neg (by decide), if_pos (by decide)]
                · rw [hX, (fC_lo 2 M 88 r (by decide)).1, c3, if_neg (no9 (by omega)), (fC_lo 2 M 88 t (by decide)).1, d3, if_neg (no9 (by omega)), if_neg (by rw [lt0i]; omega), q99]
                  by_cases hz : z < 0
                  · rw [if_pos hz]
                  · rw [if_neg hz, if_neg (by rw [cmp_s' hN (by omega)]; omega), if_neg]
                    rw [lt0i] at hz
                    rw [cmp_s hN (by omega)]
                    omega
            · refine two_f h (f := 2) (by decide) ?_ ?_
              · rw [decide_eq_false hA, if_pos (by decide)]
              · rw [hX, (fC_lo 2 M 88 r (by decide)).1, c3, if_neg (no9 (by omega)), (fC_lo 2 M 88 t (by decide)).1, d3, if_neg (no9 (by omega)), q99]
                by_cases hy : y < 0
                · rw [if_pos hy]
                · rw [if_neg hy, if_pos (c := 0 < _), ite_self]
                  rw [lt0i] at hy
                  rw [cmp_s' hN (by omega)]
                  omega
theorem vnar32 : vp_nar .byte (32 : Int32) = 32 := pk_vb 32
theorem renewT_C12 {fu : Nat} {r : Nat} (hr : r < 4) : ∀ (m n : Nat) (M : Mm) (k : Nat), k + m = 60 → m < n → (∀ j, j < k → M.1 (13 + r + 4) j = 32) → ∃ M', F_X5_renew_12 fu n M (13 + r) (nI k) = some M' ∧ (∀ j, j < 60 → M'.1 (13 + r + 4) j = 32) ∧ Out (fun x _ => x = 13 + r + 4) M M' := by
  intro m
  induction m with
  | zero =>
    intro n M k hk hn h
    obtain ⟨n, rfl⟩ : ∃ q, n = q + 1 := ⟨n - 1, by omega⟩
    refine ⟨M, ?_, fun j hj => h j (by omega), Out.rf⟩
    unfold F_X5_renew_12
    rw [ln_T hr, if_pos (nI_le (by omega) (by omega))]
  | succ m ih =>
    intro n M k hk hn h
    obtain ⟨n, rfl⟩ : ∃ q, n = q + 1 := ⟨n - 1, by omega⟩
    obtain ⟨M', a1, a2, a3⟩ := ih n (pI M (13 + r + 4) k 32) (k + 1) (by omega) (by omega) (fun j hj => by
      by_cases hjk : j = k
      · rw [hjk, pI_s]
      · rw [pI_n (Or.inr hjk)]
        exact h j (by omega))
    refine ⟨M', ?_, a2, (Out.pI (P := fun x _ => x = 13 + r + 4) Out.rf rfl).trans a3⟩
    unfold F_X5_renew_12
    rw [ln_T hr, if_neg (nI_ge (by omega) (by omega)), if_neg (nI_in (by omega) (by decide)), clN (by omega), lt1_s, nI_1, vnar32]
    exact a1
theorem renewT_C {fu : Nat} (hf : 1000 ≤ fu) {M : Mm} {r : Nat} (hr : r < 4) (x : Int32) : ∃ M', F_X5_renew fu M (13 + r) x = some M' ∧ M'.1 (13 + r) 0 = 1 ∧ M'.1 (13 + r) 1 = x ∧ (∀ j, j < 60 → M'.1 (13 + r + 4) j = 32) ∧ Out (fun x _ => x = 13 + r ∨ x = 13 + r + 4) M M' := by
  obtain ⟨M', a1, a2, a3⟩ := renewT_C12 (fu := fu) hr 60 fu (pI (pI M (13 + r) 0 1) (13 + r) 1 x) 0 (by omega) (by omega) (fun j hj => by omega)
  refine ⟨M', ?_, ?_, ?_, a2, (((Out.rf).pI (by omega)).pI (by omega)).trans (a3.wk fun x j q => by omega)⟩
  · unfold F_X5_renew
    rw [lt1_s, lt1_s]
    exact a1
  · rw [(a3 _ _ (by omega)).1, pI_n (by omega), pI_s]
  · rw [(a3 _ _ (by omega)).1, pI_s]
theorem text_X34 {fu : Nat} {r : Nat} (hr : r < 4) {x : Int32} : ∀ (m n : Nat) (M : Mm) (k : Nat), k + m = 60 → m < n → (∀ j, j < k → M.1 89 (60 * r + j) = 32) → ∃ M', F_X7_text_34 fu n M (nI r) x (nI k) = some (x, M') ∧ (∀ j, j < 60 → M'.1 89 (60 * r + j) = 32) ∧ Out (fun x j => x = 89 ∧ 60 * r ≤ j ∧ j < 60 * r + 60) M M' := by
  intro m
  induction m with
  | zero =>
    intro n M k hk hn h
    obtain ⟨n, rfl⟩ : ∃ q, n = q + 1 := ⟨n - 1, by omega⟩
    refine ⟨M, ?_, fun j hj => h j (by omega), Out.rf⟩
    unfold F_X7_text_34
    rw [L60, if_pos (nI_le (by omega) (by omega))]
  | succ m ih =>
    intro n M k hk hn h
    obtain ⟨n, rfl⟩ : ∃ q, n = q + 1 := ⟨n - 1, by omega⟩
    obtain ⟨M', a1, a2, a3⟩ := ih n (pI M 89 (60 * r + k) 32) (k + 1) (by omega) (by omega) (fun j hj => by
      by_cases hjk : j = k
      · rw [hjk, pI_s]
      · rw [pI_n (by omega)]
        exact h j (by omega))
    refine ⟨M', ?_, a2, ((Out.rf).pI (by omega)).trans a3⟩
    unfold F_X7_text_34
    rw [L60, if_neg (nI_ge (by omega) (by omega)), pk_mul, nI_add, xr89 (by omega), clN (by omega), lt1_s, nI_1]
    exact a1
theorem call_text {fu : Nat} (hf : 1000 ≤ fu) {M : Mm} (h : Rel M) (x y : Int32) : Two2 (F_X6_text fu M x y) (fun M1 => F_X7_text fu M1 x y) := by
  unfold F_X6_text F_X7_text
  rcases rng3 x (n := 4) (by omega) with hi | ⟨r, hr, rfl⟩
  · exact Two2.same h (by rw [textOf_C0 hi]; rfl) (by rw [isText_X0 hi]; rfl)
  · rcases rng3 y (n := 61) (by omega) with (hy | hy) | ⟨n, hn, rfl⟩
    · refine two_f h (f := 5) (by decide) ?_ ?_
      · rw [textOf_C1 hr, ob1_s, op1_s, kd_T hr, if_neg (by decide), L60, if_pos (lt_hi hy (by decide)), if_neg (nn_lt hy), fnd5_C]
        rfl
      · rw [isText_X1 hr, ob1_s, if_neg (by decide), L60, if_pos (lt_hi hy (by decide)), if_neg (nn_lt hy), fnd5_X]
        rfl
    · exact Two2.same h (by rw [textOf_C1 hr, ob1_s, op1_s, kd_T hr, if_neg (by decide), L60, if_neg (gt_hi hy (by decide))]) (by rw [isText_X1 hr, ob1_s, if_neg (by decide), L60, if_neg (gt_hi hy (by decide))])
    · obtain ⟨M1, a1, a2, a3, a4, a5⟩ := renewT_C hf (M := M) hr (nI n)
      obtain ⟨M2, b1, b3, b4⟩ := text_X34 (fu := fu) hr (x := nI n) 60 fu (pI M1 90 r (nI n)) 0 (by omega) (by omega) (fun j hj => by omega)
      have b5 : Out (fun x j => (x = 90 ∧ j = r) ∨ (x = 89 ∧ 60 * r ≤ j ∧ j < 60 * r + 60)) M1 M2 := ((Out.rf).pI (by omega)).trans (b4.wk fun x j q => by omega)
      refine ⟨nI n, M1, M2, ?_, ?_, h.text hr ((a5.wk (P := pT r) fun x j q => by unfold pT; omega).trans (b5.wk fun x j q => by unfold pT; omega)) (fun x j q => Or.inl q) (Or.inr ⟨?_, n, by omega, ?_, ?_, fun j hj => ?_⟩)⟩
      · rw [textOf_C1 hr, ob1_s, op1_s, kd_T hr, if_neg (by decide), L60, if_pos (nI_le (by omega) (by omega)), if_pos (nI_pos' (by omega)), a1, ob1_s]
      · show ob1 (F_X7_isText fu M1 (nI r)) _ = _
        rw [isText_X1 hr, ob1_s, if_neg (by decide), L60, if_pos (nI_le (by omega) (by omega)), if_pos (nI_pos' (by omega)), xr90 hr, clN (by omega), lt1_s]
        exact b1
      · rw [(b5 _ _ (by omega)).1, a2]
      · rw [(b5 _ _ (by omega)).1, a3]
      · rw [(b4 _ _ (by omega)).1, pI_s]
      · rw [(b5 _ _ (by omega)).1, a4 j (by omega), b3 j (by omega)]
theorem sign_C {fu : Nat} {M : Mm} {r i : Nat} (hr : r < 4) (hi : i < 60) : F_X5_sign fu M (13 + r) (nI i) = some (M.1 (13 + r + 4) i) := by
  unfold F_X5_sign
  rw [ln_T hr, if_neg (nI_pos (by omega)), if_neg (nI_ge (by omega) (by omega)), if_neg (nI_in hi (by decide)), clN (by omega)]
theorem change_C {fu : Nat} {M : Mm} {r i : Nat} (hr : r < 4) (hi : i < 60) (z : Int32) : F_X5_change fu M (13 + r) (nI i) z.toInt8.toInt32 = some (pI M (13 + r + 4) i z.toInt8.toInt32) := by
  unfold F_X5_change
  rw [ln_T hr, if_neg (nI_pos (by omega)), if_neg (nI_ge (by omega) (by omega)), if_neg (nI_in hi (by decide)), clN (by omega), pk_vb]
  rfl
theorem call_put {fu : Nat} {M : Mm} (h : Rel M) (x y z : Int32) : Two2 (F_X6_put fu M x y z) (fun M1 => F_X7_put fu M1 x y z) := by
  unfold F_X6_put F_X7_put
  rcases rng3 x (n := 4) (by omega) with hi | ⟨r, hr, rfl⟩
  · exact Two2.same h (by rw [textOf_C0 hi]; rfl) (by rw [isText_X0 hi]; rfl)
  · rcases h.2.2.1 r hr with ⟨c1, c2⟩ | ⟨c1, n, hn, c2, c3, c4⟩
    · refine two_f h (f := 1) (by decide) ?_ ?_
      · rw [textOf_C1 hr, ob1_s, op1_s, kd_T hr, if_neg (by decide), if_pos c1, fnd1_C]
        rfl
      · rw [isText_X1 hr, ob1_s, if_neg (by decide), xr90 hr, clN (by omega), (fC_lo 1 M 90 r (by decide)).1, if_pos c2, fnd1_X]
        rfl
    · rcases plc y (n := n) (by omega) with ⟨p1, p2⟩ | ⟨i, hi, rfl⟩
      · refine two_f h (f := 2) (by decide) ?_ ?_
        · unfold F_X6_put_41
          rw [textOf_C1 hr, ob1_s, op1_s, kd_T hr, if_neg (by decide), c1, if_neg one_ne, c2, plc_if p2, fnd2_C]
          rfl
        · rw [isText_X1 hr, ob1_s, if_neg (by decide), xr90 hr, xr90 hr, clN (by omega), (fC_lo 2 M 90 r (by decide)).1, c3, if_neg (no9 (by omega)), in_no2 (by omega) p1, ob1_s, if_pos rfl, fnd2_X]
          rfl
      · have lo : Lo M (pI M (13 + r + 4) i z.toInt8.toInt32) := Lo.of (P := fun x j => x = 13 + r + 4) ((Out.rf).pI rfl) fun x j q => by omega
        refine ⟨M.1 (13 + r + 4) i + 1000, pI M (13 + r + 4) i z.toInt8.toInt32, pI (pI M (13 + r + 4) i z.toInt8.toInt32) 89 (60 * r + i) z.toInt8.toInt32, ?_, ?_, ?_⟩
        · rw [textOf_C1 hr, ob1_s, op1_s, kd_T hr, if_neg (by decide), c1, if_neg one_ne, c2, if_neg (nI_pos (by omega)), if_pos (nI_lt hi (by omega)), sign_C hr (by omega), ob1_s, change_C hr (by omega), ob1_s]
        · show ob1 (F_X7_isText fu (pI M (13 + r + 4) i z.toInt8.toInt32) (nI r)) _ = _
          rw [isText_X1 hr, ob1_s, if_neg (by decide), xr90 hr, xr90 hr, clN (by omega), (lo 90 r (by decide)).1, c3, if_neg (no9 (by omega)), in_ok2 (by omega) hi, ob1_s, if_neg one_ne, L60, pk_mul, nI_add, xr89 (by omega), lt1_s, xr89 (by omega), clN (by omega), lt1_s, (lo 89 (60 * r + i) (by decide)).1, ← c4 i hi]
        · refine h.text hr (P := pT r) (((Out.rf).pI (by unfold pT; omega)).pI (by unfold pT; omega)) (fun x j q => Or.inl q) (Or.inr ⟨?_, n, hn, ?_, ?_, fun j hj => ?_⟩)
          · rw [pI_n (by omega), pI_n (by omega), c1]
          · rw [pI_n (by omega), pI_n (by omega), c2]
          · rw [pI_n (by omega), pI_n (by omega), c3]
          · by_cases hji : j = i
            · rw [hji, pI_s, pI_n (by omega), pI_s]
            · rw [pI_n (by omega), pI_n (by omega), pI_n (by omega), pI_n (by omega), c4 j hj]
