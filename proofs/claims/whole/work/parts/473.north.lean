/-! fault, north -/
theorem pS_s {x j : Nat} (h : pS x j) : scr x j := by unfold pS at h; unfold scr sT sR sX sN; omega
theorem pQ_s {x j : Nat} (h : pQ x j) : scr x j := by unfold pQ at h; unfold scr sT sR sX sN; omega
theorem call_fault {fu : Nat} (hf : 1000 ≤ fu) {M : Mm} (h : Rel M) (x : Int32) : Two2 (F_X6_fault fu M x) (fun M1 => F_X7_fault fu M1 x) := by
  unfold F_X6_fault F_X7_fault
  rcases rng3 x (n := 4) (by omega) with hi | ⟨t, ht, rfl⟩
  · exact Two2.same h (by rw [textOf_C0 hi]; rfl) (by rw [isText_X0 hi]; rfl)
  · rcases h.2.2.1 t ht with ⟨c1, c2⟩ | ⟨c1, n, hn, c2, c3, c4⟩
    · refine two_f h (f := 1) (by decide) ?_ ?_
      · rw [textOf_C1 ht, ob1_s, op1_s, kd_T ht, if_neg (by decide), if_pos c1, fnd1_C]
        rfl
      · rw [isText_X1 ht, ob1_s, if_neg (by decide), xr90 ht, clN (by omega), (fC_lo 1 M 90 t (by decide)).1, if_pos c2, fnd1_X]
        rfl
    · obtain ⟨M1, a1, a2, a3⟩ := faultIn_C hf ht hn c2 (f := fun j => M.1 89 (60 * t + j)) (fun j hj => c4 j hj)
      have lo : Lo M M1 := Lo.of a2 fun x j q => by unfold pS at q; omega
      have tx : TX t n (fun j => M.1 89 (60 * t + j)) M1 := ⟨by rw [(lo _ _ (by decide)).1]; exact c3, fun j hj => (lo _ _ (by decide)).1⟩
      obtain ⟨M2, b1, b2, b3⟩ := reads_X hf ht hn tx
      refine ⟨rdI (rdF (fun j => M.1 89 (60 * t + j)) n 0 q0), M1, M2, ?_, ?_, h.out ((a2.wk (P := fun x j => pS x j ∨ pQ x j) fun x j q => Or.inl q).trans (b2.wk fun x j q => Or.inr q)) fun x j q => by
        rcases q with q | q
        · exact pS_s q
        · exact pQ_s q⟩
      · rw [textOf_C1 ht, ob1_s, op1_s, kd_T ht, if_neg (by decide), c1, if_neg one_ne, a1]
        rfl
      · show ob1 (F_X7_isText fu M1 (nI t)) _ = _
        rw [isText_X1 ht, ob1_s, if_neg (by decide), xr90 ht, clN (by omega), (lo 90 t (by decide)).1, c3, if_neg (no9 (by omega)), b1]
        rfl
/-- the north that was read -/
def newV (q : RS) : NV := (rM q, rR q, 0, rSu q, rK q, rV q, rB q, rSh q)
def newN (q : RS) : Ns := (newV q, (fun _ => (0, 0, 0)), 0, rR q)
theorem newN_ok {q : RS} (h : okR q) (h10 : rS q = 10) (h0 : 0 < rM q) : okN (newN q) := by
  obtain ⟨o1, o2, o3, o4, o5, o6, -⟩ := h
  exact ⟨⟨o2, o5, fun i hi => ⟨(o6 i hi).1, (o6 i hi).2.2.2, (o6 i hi).2.1, (o6 i hi).2.2.1⟩⟩, rfl, Nat.zero_le _, fun k hk => absurd hk (Nat.not_lt_zero k), o3, fun _ => o4 (by omega), fun e => absurd e (by show ¬ rM q = 0; omega)⟩
theorem settle_C {fu : Nat} (hf : 1000 ≤ fu) {M : Mm} {q : RS} (ho : okR q) (h10 : rS q = 10) (hc : CS q M) : ∃ M', F_X2_settle fu M 24 = some M' ∧ CN 24 (newN q) M' ∧ Out (fun x _ => 24 ≤ x ∧ x ≤ 31) M M' := by
  obtain ⟨o1, o2, o3, o4, o5, o6, -⟩ := ho
  obtain ⟨c1, c2, c3, c4, c5, -⟩ := hc
  have oA : Out (fun x _ => 24 ≤ x ∧ x ≤ 31) M (pI (pI M 24 0 (M.1 68 1)) 24 1 (M.1 68 2)) := ((Out.rf).pI (by omega)).pI (by omega)
  obtain ⟨M1, a1, a2, a3⟩ := writeAll_C (a := 25) (b := 69) (N := 8) hf (by decide) (by decide) (by decide) (by decide) (pI (pI M 24 0 (M.1 68 1)) 24 1 (M.1 68 2))
  obtain ⟨M2, b1, b2, b3⟩ := writeAll_C (a := 26) (b := 70) (N := 6) hf (by decide) (by decide) (by decide) (by decide) M1
  obtain ⟨M3, d1, d2, d3⟩ := writeAll_C (a := 27) (b := 73) (N := 6) hf (by decide) (by decide) (by decide) (by decide) M2
  obtain ⟨M4, e1, e2, e3⟩ := writeAll_C (a := 30) (b := 71) (N := 6) hf (by decide) (by decide) (by decide) (by decide) M3
  obtain ⟨M5, f1, f2, f3⟩ := writeAll_C (a := 31) (b := 72) (N := 6) hf (by decide) (by decide) (by decide) (by decide) M4
  obtain ⟨M6, g1, g2, g3⟩ := writeAll_C (a := 28) (b := 30) (N := 6) hf (by decide) (by decide) (by decide) (by decide) (pI (pI M5 24 3 0) 24 2 0)
  obtain ⟨M7, k1, k2, k3⟩ := writeAll_C (a := 29) (b := 31) (N := 6) hf (by decide) (by decide) (by decide) (by decide) M6
  have o5' : Out (fun x _ => 24 ≤ x ∧ x ≤ 31) M M5 := ((((oA.trans (a3.wk fun x j q => by omega)).trans (b3.wk fun x j q => by omega)).trans (d3.wk fun x j q => by omega)).trans (e3.wk fun x j q => by omega)).trans (f3.wk fun x j q => by omega)
  have oP : Out (fun x j => x = 24 ∧ (j = 2 ∨ j = 3)) M5 (pI (pI M5 24 3 0) 24 2 0) := ((Out.rf).pI (by omega)).pI (by omega)
  have oR : Out (fun x j => (x = 24 ∧ (j = 2 ∨ j = 3)) ∨ x = 28 ∨ x = 29) M5 M7 := ((oP.wk fun x j q => by omega).trans (g3.wk fun x j q => by omega)).trans (k3.wk fun x j q => by omega)
  have v24 : ∀ j, M5.1 24 j = (pI (pI M 24 0 (M.1 68 1)) 24 1 (M.1 68 2)).1 24 j := fun j => by rw [(f3 _ _ (by omega)).1, (e3 _ _ (by omega)).1, (d3 _ _ (by omega)).1, (b3 _ _ (by omega)).1, (a3 _ _ (by omega)).1]
  have v25 : ∀ j, j < 8 → M5.1 25 j = M.1 69 j := fun j hj => by rw [(f3 _ _ (by omega)).1, (e3 _ _ (by omega)).1, (d3 _ _ (by omega)).1, (b3 _ _ (by omega)).1, a2 j hj, (oA _ _ (by omega)).1]
  have v26 : ∀ j, j < 6 → M5.1 26 j = M.1 70 j := fun j hj => by rw [(f3 _ _ (by omega)).1, (e3 _ _ (by omega)).1, (d3 _ _ (by omega)).1, b2 j hj, (a3 _ _ (by omega)).1, (oA _ _ (by omega)).1]
  have v27 : ∀ j, j < 6 → M5.1 27 j = M.1 73 j := fun j hj => by rw [(f3 _ _ (by omega)).1, (e3 _ _ (by omega)).1, d2 j hj, (b3 _ _ (by omega)).1, (a3 _ _ (by omega)).1, (oA _ _ (by omega)).1]
  have v30 : ∀ j, j < 6 → M5.1 30 j = M.1 71 j := fun j hj => by rw [(f3 _ _ (by omega)).1, e2 j hj, (d3 _ _ (by omega)).1, (b3 _ _ (by omega)).1, (a3 _ _ (by omega)).1, (oA _ _ (by omega)).1]
  have v31 : ∀ j, j < 6 → M5.1 31 j = M.1 72 j := fun j hj => by rw [f2 j hj, (e3 _ _ (by omega)).1, (d3 _ _ (by omega)).1, (b3 _ _ (by omega)).1, (a3 _ _ (by omega)).1, (oA _ _ (by omega)).1]
  refine ⟨M7, ?_, ?_, o5'.trans (oR.wk fun x j q => by omega)⟩
  · unfold F_X2_settle F_X2_restart
    rw [lt1_s, pI_n (x := 24) (y := 68) (by omega), lt1_s, show 24 + 1 = 25 from rfl, show 24 + 2 = 26 from rfl, show 24 + 3 = 27 from rfl, show 24 + 4 = 28 from rfl, show 24 + 5 = 29 from rfl, show 24 + 6 = 30 from rfl, show 24 + 7 = 31 from rfl, a1, ob1_s, b1, ob1_s, d1, ob1_s, e1, ob1_s, f1, ob1_s, lt1_s, lt1_s, g1, ob1_s, k1, ob1_s, ob1_s]
  · refine ⟨?_, ?_, ?_, ?_, fun j hj => ?_, fun i hi => ?_, fun k hk => absurd hk (Nat.not_lt_zero k)⟩
    · rw [(oR _ _ (by omega)).1, v24, pI_n (by omega), pI_s, c2]
      rfl
    · rw [(oR _ _ (by omega)).1, v24, pI_s, c3 (by omega)]
      rfl
    · rw [(k3 _ _ (by omega)).1, (g3 _ _ (by omega)).1, pI_s]
      rfl
    · rw [(k3 _ _ (by omega)).1, (g3 _ _ (by omega)).1, pI_n (by omega), pI_s]
      rfl
    · rw [(oR _ _ (by omega)).1, v25 j hj, c4 j hj (by omega)]
      rfl
    · have hi : i < rM q := hi
      have e := c5 i hi
      refine ⟨?_, ?_, ?_, ?_, ?_, ?_⟩
      · rw [(oR _ _ (by omega)).1, v26 i (by omega), e.1]
        rfl
      · rw [(oR _ _ (by omega)).1, v27 i (by omega), e.2.2.2]
        rfl
      · rw [(k3 _ _ (by omega)).1, g2 i (by omega), (oP _ _ (by omega)).1, v30 i (by omega), e.2.1]
        rfl
      · rw [k2 i (by omega), (g3 _ _ (by omega)).1, (oP _ _ (by omega)).1, v31 i (by omega), e.2.2.1]
        rfl
      · rw [(oR _ _ (by omega)).1, v30 i (by omega), e.2.1]
        rfl
      · rw [(oR _ _ (by omega)).1, v31 i (by omega), e.2.2.1]
        rfl
theorem north_C54 {fu : Nat} : ∀ (m n : Nat) (M : Mm) (k : Nat), k + m = 3 → m < n → (∀ j, j < k → M.1 (35 + 11 * j) 0 = 0) → ∃ M', F_X6_north_54 fu n M (nI k) = some (M.1 24 0, M') ∧ (∀ j, j < 3 → M'.1 (35 + 11 * j) 0 = 0) ∧ Out (fun x j => (x = 35 ∨ x = 46 ∨ x = 57) ∧ j = 0) M M' := by
  intro m
  induction m with
  | zero =>
    intro n M k hk hn h
    obtain ⟨n, rfl⟩ : ∃ q, n = q + 1 := ⟨n - 1, by omega⟩
    refine ⟨M, ?_, fun j hj => h j (by omega), Out.rf⟩
    unfold F_X6_north_54
    rw [L3, if_pos (nI_le (by omega) (by omega))]
  | succ m ih =>
    intro n M k hk hn h
    obtain ⟨n, rfl⟩ : ∃ q, n = q + 1 := ⟨n - 1, by omega⟩
    obtain ⟨M', a1, a2, a3⟩ := ih n (pI M (35 + 11 * k) 0 0) (k + 1) (by omega) (by omega) (fun j hj => by
      by_cases hjk : j = k
      · rw [hjk, pI_s]
      · rw [pI_n (by omega)]
        exact h j (by omega))
    rw [pI_n (by omega)] at a1
    refine ⟨M', ?_, a2, ((Out.rf).pI (by omega)).trans a3⟩
    unfold F_X6_north_54
    rw [L3, if_neg (nI_ge (by omega) (by omega)), keptOf_C1 (by omega), ob1_s, op1_s, kd_K (by omega), if_neg (by decide), lt1_s, nI_1]
    exact a1
theorem north_X157 {fu : Nat} : ∀ (m n : Nat) (M : Mm) (k : Nat), k + m = 3 → m < n → (∀ j, j < k → M.1 98 j = 0) → ∃ M', F_X7_north_157 fu n M (nI k) = some (M.1 86 4, M') ∧ (∀ j, j < 3 → M'.1 98 j = 0) ∧ Out (fun x _ => x = 98) M M' := by
  intro m
  induction m with
  | zero =>
    intro n M k hk hn h
    obtain ⟨n, rfl⟩ : ∃ q, n = q + 1 := ⟨n - 1, by omega⟩
    refine ⟨M, ?_, fun j hj => h j (by omega), Out.rf⟩
    unfold F_X7_north_157
    rw [L3, if_pos (nI_le (by omega) (by omega))]
  | succ m ih =>
    intro n M k hk hn h
    obtain ⟨n, rfl⟩ : ∃ q, n = q + 1 := ⟨n - 1, by omega⟩
    obtain ⟨M', a1, a2, a3⟩ := ih n (pI M 98 k 0) (k + 1) (by omega) (by omega) (fun j hj => by
      by_cases hjk : j = k
      · rw [hjk, pI_s]
      · rw [pI_n (by omega)]
        exact h j (by omega))
    rw [pI_n (by omega)] at a1
    refine ⟨M', ?_, a2, (Out.pI (P := fun x _ => x = 98) Out.rf rfl).trans a3⟩
    unfold F_X7_north_157
    rw [L3, if_neg (nI_ge (by omega) (by omega)), xr98 (by omega), clN (by omega), vnar0, lt1_s, nI_1]
    exact a1
theorem north_X113 {fu : Nat} (hf : 1000 ≤ fu) : ∀ (m n : Nat) (M : Mm) (k : Nat), k + m = 8 → m < n → (∀ j, j < k → M.1 93 j = M.1 105 j) → ∃ M', F_X7_north_113 fu n M (nI k) = some (M.1 86 4, M') ∧ (∀ j, j < 8 → M'.1 93 j = M.1 105 j) ∧ M'.1 86 10 = M.1 86 28 ∧ M'.1 86 11 = 0 ∧ M'.1 86 12 = 0 ∧ (∀ j, j < 3 → M'.1 98 j = 0) ∧ Out (fun x j => (x = 86 ∧ (j = 10 ∨ j = 11 ∨ j = 12)) ∨ x = 93 ∨ x = 98) M M' := by
  intro m
  induction m with
  | zero =>
    intro n M k hk hn h
    obtain ⟨n, rfl⟩ : ∃ q, n = q + 1 := ⟨n - 1, by omega⟩
    have o1 : Out (fun x j => (x = 86 ∧ (j = 10 ∨ j = 11 ∨ j = 12)) ∨ x = 93 ∨ x = 98) M (pI (pI (pI M 86 10 (M.1 86 28)) 86 11 0) 86 12 0) := (((Out.rf).pI (by omega)).pI (by omega)).pI (by omega)
    obtain ⟨M', a1, a2, a3⟩ := north_X157 (fu := fu) 3 fu (pI (pI (pI M 86 10 (M.1 86 28)) 86 11 0) 86 12 0) 0 (by omega) (by omega) (fun j hj => by omega)
    rw [(o1 86 4 (by omega)).1] at a1
    refine ⟨M', ?_, fun j hj => ?_, ?_, ?_, ?_, a2, o1.trans (a3.wk fun x j q => by omega)⟩
    · unfold F_X7_north_113
      rw [L8, if_pos (nI_le (by omega) (by omega)), lt1_s, lt1_s, lt1_s]
      exact a1
    · rw [(a3 _ _ (by omega)).1, pI_n (by omega), pI_n (by omega), pI_n (by omega)]
      exact h j (by omega)
    · rw [(a3 _ _ (by omega)).1, pI_n (by omega), pI_n (by omega), pI_s]
    · rw [(a3 _ _ (by omega)).1, pI_n (by omega), pI_s]
    · rw [(a3 _ _ (by omega)).1, pI_s]
  | succ m ih =>
    intro n M k hk hn h
    obtain ⟨n, rfl⟩ : ∃ q, n = q + 1 := ⟨n - 1, by omega⟩
    obtain ⟨M', a1, a2, a3, a4, a5, a6, a7⟩ := ih n (pI M 93 k (M.1 105 k)) (k + 1) (by omega) (by omega) (fun j hj => by
      rw [pI_n (y := 105) (by omega)]
      by_cases hjk : j = k
      · rw [hjk, pI_s]
      · rw [pI_n (by omega)]
        exact h j (by omega))
    rw [pI_n (by omega)] at a1 a3
    refine ⟨M', ?_, fun j hj => by rw [a2 j hj, pI_n (by omega)], a3, a4, a5, a6, ((Out.rf).pI (by omega)).trans a7⟩
    unfold F_X7_north_113
    rw [L8, if_neg (nI_ge (by omega) (by omega)), xr105 (by omega), xr93 (by omega), clN (by omega), lt1_s, nI_1]
    exact a1
theorem north_X49 {fu : Nat} (hf : 1000 ≤ fu) {N : Nat} (hN : N ≤ 6) : ∀ (m n : Nat) (M : Mm) (k : Nat), k + m = N → m < n → M.1 86 4 = nI N → (∀ j, j < k → M.1 91 j = M.1 101 j ∧ M.1 94 j = M.1 102 j ∧ M.1 95 j = M.1 103 j ∧ M.1 92 j = M.1 104 j) → ∃ M', F_X7_north_49 fu n M (nI k) = some (nI N, M') ∧ (∀ j, j < N → M'.1 91 j = M.1 101 j ∧ M'.1 94 j = M.1 102 j ∧ M'.1 95 j = M.1 103 j ∧ M'.1 92 j = M.1 104 j) ∧ (∀ j, j < 8 → M'.1 93 j = M.1 105 j) ∧ M'.1 86 10 = M.1 86 28 ∧ M'.1 86 11 = 0 ∧ M'.1 86 12 = 0 ∧ (∀ j, j < 3 → M'.1 98 j = 0) ∧ Out (fun x j => (x = 86 ∧ (j = 10 ∨ j = 11 ∨ j = 12)) ∨ (91 ≤ x ∧ x ≤ 95) ∨ x = 98) M M' := by
  intro m
  induction m with
  | zero =>
    intro n M k hk hn h4 h
    obtain ⟨n, rfl⟩ : ∃ q, n = q + 1 := ⟨n - 1, by omega⟩
    obtain ⟨M', a1, a2, a3, a4, a5, a6, a7⟩ := north_X113 hf 8 fu M 0 (by omega) (by omega) (fun j hj => by omega)
    refine ⟨M', ?_, fun j hj => ?_, a2, a3, a4, a5, a6, a7.wk fun x j q => by omega⟩
    · unfold F_X7_north_49
      rw [h4, if_pos (nI_le (by omega) (by omega))]
      rw [h4] at a1
      exact a1
    · rw [(a7 _ _ (by omega)).1, (a7 _ _ (by omega)).1, (a7 _ _ (by omega)).1, (a7 _ _ (by omega)).1]
      exact h j (by omega)
  | succ m ih =>
    intro n M k hk hn h4 h
    obtain ⟨n, rfl⟩ : ∃ q, n = q + 1 := ⟨n - 1, by omega⟩
    have o1 : Out (fun x j => (x = 91 ∨ x = 92 ∨ x = 94 ∨ x = 95) ∧ j = k) M (pI (pI (pI (pI M 91 k (M.1 101 k)) 94 k (M.1 102 k)) 95 k (M.1 103 k)) 92 k (M.1 104 k)) := ((((Out.rf).pI (by omega)).pI (by omega)).pI (by omega)).pI (by omega)
    obtain ⟨M', a1, a2, a3, a4, a5, a6, a7, a8⟩ := ih n _ (k + 1) (by omega) (by omega) (by rw [(o1 86 4 (by omega)).1]; exact h4) (fun j hj => by
      rw [(o1 101 j (by omega)).1, (o1 102 j (by omega)).1, (o1 103 j (by omega)).1, (o1 104 j (by omega)).1]
      by_cases hjk : j = k
      · subst hjk
        refine ⟨?_, ?_, ?_, ?_⟩
        · rw [pI_n (by omega), pI_n (by omega), pI_n (by omega), pI_s]
        · rw [pI_n (by omega), pI_n (by omega), pI_s]
        · rw [pI_n (by omega), pI_s]
        · rw [pI_s]
      · rw [(o1 _ _ (by omega)).1, (o1 _ _ (by omega)).1, (o1 _ _ (by omega)).1, (o1 _ _ (by omega)).1]
        exact h j (by omega))
    refine ⟨M', ?_, fun j hj => ?_, fun j hj => ?_, ?_, a5, a6, a7, (o1.wk fun x j q => by omega).trans a8⟩
    · unfold F_X7_north_49
      rw [h4, if_neg (nI_ge (by omega) (by omega)), xr101 (by omega), xr91 (by omega), lt1_s, xr102 (by omega), xr94 (by omega), lt1_s, xr103 (by omega), xr95 (by omega), lt1_s, xr104 (by omega), xr92 (by omega), lt1_s, clN (by omega), pI_n (x := 91) (y := 102) (by omega), pI_n (x := 94) (y := 103) (by omega), pI_n (x := 91) (y := 103) (by omega), pI_n (x := 95) (y := 104) (by omega), pI_n (x := 94) (y := 104) (by omega), pI_n (x := 91) (y := 104) (by omega), nI_1]
      exact a1
    · have := a2 j hj
      rwa [(o1 101 j (by omega)).1, (o1 102 j (by omega)).1, (o1 103 j (by omega)).1, (o1 104 j (by omega)).1] at this
    · rw [a3 j hj, (o1 _ _ (by omega)).1]
    · rw [a4, (o1 _ _ (by omega)).1]
theorem call_north {fu : Nat} (hf : 1000 ≤ fu) {M : Mm} (h : Rel M) (x : Int32) : Two2 (F_X6_north fu M x) (fun M1 => F_X7_north fu M1 x) := by
  unfold F_X6_north F_X7_north
  rcases rng3 x (n := 4) (by omega) with hi | ⟨t, ht, rfl⟩
  · exact Two2.same h (by rw [textOf_C0 hi]; rfl) (by rw [isText_X0 hi]; rfl)
  · rcases h.2.2.1 t ht with ⟨c1, c2⟩ | ⟨c1, n, hn, c2, c3, c4⟩
    · refine two_f h (f := 1) (by decide) ?_ ?_
      · rw [textOf_C1 ht, ob1_s, op1_s, kd_T ht, if_neg (by decide), if_pos c1, fnd1_C]
        rfl
      · rw [isText_X1 ht, ob1_s, if_neg (by decide), xr90 ht, clN (by omega), (fC_lo 1 M 90 t (by decide)).1, if_pos c2, fnd1_X]
        rfl
    · obtain ⟨M1, a1, a2, a3⟩ := faultIn_C hf ht hn c2 (f := fun j => M.1 89 (60 * t + j)) (fun j hj => c4 j hj)
      have rdX : ∀ MX : Mm, Lo M MX → ∃ M2, F_X7_reads fu MX (nI t) = some (rdI (rdF (fun j => M.1 89 (60 * t + j)) n 0 q0), M2) ∧ Out pQ MX M2 ∧ ∀ q', rdF (fun j => M.1 89 (60 * t + j)) n 0 q0 = .inr q' → ∃ k', XS q' k' M2 := fun MX lo => reads_X hf ht hn ⟨by rw [(lo _ _ (by decide)).1]; exact c3, fun j hj => (lo _ _ (by decide)).1⟩
      have lo1 : Lo M M1 := Lo.of a2 fun x j q => by unfold pS at q; omega
      cases hr : rdF (fun j => M.1 89 (60 * t + j)) n 0 q0 with
      | inl k =>
        have hk : ¬ rdI (.inl k) = (-9 : Int32) := by
          show ¬ nI k = -9
          have hkn : ∀ (m k : Nat) (q : RS) (k' : Nat), rdF (fun j => M.1 89 (60 * t + j)) m k q = .inl k' → k' ≤ k + m := by
            intro m
            induction m with
            | zero =>
              intro k q k' e
              unfold rdF at e
              split at e
              · cases e
              · injection e with e; omega
            | succ m ih =>
              intro k q k' e
              unfold rdF at e
              split at e
              · injection e with e; omega
              · have := ih _ _ _ e; omega
          have := hkn n 0 q0 k hr
          exact neg9' (by omega)
        rw [hr] at a1 rdX
        obtain ⟨M2, b1, b2, b3⟩ := rdX M1 lo1
        refine ⟨-4, M1, M2, ?_, ?_, h.out ((a2.wk (P := fun x j => pS x j ∨ pQ x j) fun x j q => Or.inl q).trans (b2.wk fun x j q => Or.inr q)) fun x j q => by
          rcases q with q | q
          · exact pS_s q
          · exact pQ_s q⟩
        · rw [textOf_C1 ht, ob1_s, op1_s, kd_T ht, if_neg (by decide), c1, if_neg one_ne, a1, ob2_s, if_neg hk]
        · show ob1 (F_X7_isText fu M1 (nI t)) _ = _
          rw [isText_X1 ht, ob1_s, if_neg (by decide), xr90 ht, clN (by omega), (lo1 90 t (by decide)).1, c3, if_neg (no9 (by omega)), b1, ob2_s, if_neg hk]
      | inr q =>
        obtain ⟨p1, p2, p3, p4⟩ := a3 q hr
        rw [hr] at a1
        obtain ⟨M2, d1, d2, d3⟩ := settle_C hf p2 p3 p1
        obtain ⟨M3, e1, e2, e3⟩ := north_C54 (fu := fu) 3 fu M2 0 (by omega) (by omega) (fun j hj => by omega)
        have hs' := newN_ok p2 p3 p4
        have oC : Out (fun x j => pS x j ∨ (24 ≤ x ∧ x ≤ 31) ∨ x = 35 ∨ x = 46 ∨ x = 57) M M3 := ((a2.wk fun x j q => Or.inl q).trans (d3.wk fun x j q => Or.inr (Or.inl q))).trans (e3.wk fun x j q => Or.inr (Or.inr (by omega)))
        have lo3 : Lo M M3 := Lo.of oC fun x j q => by unfold pS at q; omega
        obtain ⟨M4, b1, b2, b3⟩ := rdX M3 lo3
        rw [hr] at b1
        obtain ⟨kk, xs⟩ := b3 q hr
        obtain ⟨x0, x1, x2, x3, x4, x5⟩ := xs
        have hm6 : rM q ≤ 6 := p2.2.1
        have o4 : Out (fun x j => x = 86 ∧ j = 4) M4 (pI M4 86 4 (M4.1 86 22)) := (Out.rf).pI (by omega)
        obtain ⟨M5, g1, g2, g3, g4, g5, g6, g7, g8⟩ := north_X49 hf hm6 (rM q) fu (pI M4 86 4 (M4.1 86 22)) 0 (by omega) (by omega) (by rw [pI_s, x2]) (fun j hj => by omega)
        have oX : Out (fun x j => pQ x j ∨ (x = 86 ∧ (j = 4 ∨ j = 10 ∨ j = 11 ∨ j = 12)) ∨ (91 ≤ x ∧ x ≤ 95) ∨ x = 98) M3 M5 := ((b2.wk fun x j q => Or.inl q).trans (o4.wk fun x j q => Or.inr (Or.inl (by omega)))).trans (g8.wk fun x j q => Or.inr (by omega))
        have hiX : Hi M3 M5 := Hi.of oX fun x j q => by unfold pQ at q; omega
        have hcn : CN 24 (newN q) M5 := (d2.cg fun x h1 h2 => e3.f fun j q => by omega).hi (by omega) hiX
        have hxn : XN (newN q) M5 := by
          refine ⟨⟨?_, ?_, ?_, fun j hj => ?_, fun i hi => ?_⟩, ?_, fun k hk => absurd hk (Nat.not_lt_zero k)⟩
          · rw [(g8 _ _ (by omega)).1, pI_s, x2]
            rfl
          · rw [g4, (o4 _ _ (by omega)).1, x3]
            rfl
          · rw [g5]
            rfl
          · rw [g3 j hj, (o4 _ _ (by omega)).1, x4 j hj]
            rfl
          · have hi : i < rM q := hi
            have e := x5 i hi
            have g := g2 i hi
            rw [(o4 _ _ (by omega)).1, (o4 _ _ (by omega)).1, (o4 _ _ (by omega)).1, (o4 _ _ (by omega)).1] at g
            refine ⟨?_, ?_, ?_, ?_⟩
            · rw [g.1, e.1]
              rfl
            · rw [g.2.2.2, e.2.2.2]
              rfl
            · rw [g.2.1, e.2.1]
              rfl
            · rw [g.2.2.1, e.2.2.1]
              rfl
          · rw [g6]
            rfl
        have hrn : RN M5 := ⟨newN q, hs', hcn, hxn, fun k hk => Or.inl ⟨by rw [(hiX _ _ (by omega)).1]; exact e2 k hk, g7 k hk⟩⟩
        have oA : Out (fun x j => (pS x j ∨ (24 ≤ x ∧ x ≤ 31) ∨ x = 35 ∨ x = 46 ∨ x = 57) ∨ pQ x j ∨ (x = 86 ∧ (j = 4 ∨ j = 10 ∨ j = 11 ∨ j = 12)) ∨ (91 ≤ x ∧ x ≤ 95) ∨ x = 98) M M5 := (oC.wk fun x j q => Or.inl q).trans (oX.wk fun x j q => Or.inr q)
        refine ⟨nI (rM q), M3, M5, ?_, ?_, h.north oA (fun x j q => ?_) hrn⟩
        · rw [textOf_C1 ht, ob1_s, op1_s, kd_T ht, if_neg (by decide), c1, if_neg one_ne, a1, ob2_s, if_pos (show rdI (.inr q) = (-9 : Int32) from rfl), d1, ob1_s, show (0 : Int32) = nI 0 from rfl, e1, d2.1]
          rfl
        · show ob1 (F_X7_isText fu M3 (nI t)) _ = _
          rw [isText_X1 ht, ob1_s, if_neg (by decide), xr90 ht, clN (by omega), (lo3 90 t (by decide)).1, c3, if_neg (no9 (by omega)), b1, ob2_s, if_pos (show rdI (.inr q) = (-9 : Int32) from rfl), lt1_s]
          exact g1
        · rcases q with (q | q) | q | q
          · exact Or.inr (pS_s q)
          · exact Or.inl (by unfold sN; omega)
          · exact Or.inr (pQ_s q)
          · exact Or.inl (by unfold sN; omega)
