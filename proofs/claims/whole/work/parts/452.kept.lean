/-! kept norths, undone, lots; man, mark -/
theorem keptOf_C0 {fu : Nat} {M : Mm} {x : Int32} (h : x < 0 ∨ nI 3 ≤ x) : F_X6_keptOf fu M x = some none := by
  unfold F_X6_keptOf
  rcases h with h | h
  · rw [if_pos h]
  · rw [L3, if_pos h, ite_self]
theorem keptOf_C1 {fu : Nat} {M : Mm} {r : Nat} (h : r < 3) : F_X6_keptOf fu M (nI r) = some (some (35 + 11 * r)) := by
  unfold F_X6_keptOf
  rw [if_neg (nI_pos (by omega)), L3, if_neg (nI_ge (by omega) (by omega)), if_neg (nI_in h (by decide)), clN (by omega)]
theorem kd_K {r : Nat} (h : r < 3) : kd (35 + 11 * r) = 11 := by
  have : ∀ r, r < 3 → kd (35 + 11 * r) = 11 := by decide
  exact this r h
theorem vnar1 : vp_nar .boolean (1 : Int32) = 1 := by decide
theorem vnar0 : vp_nar .boolean (0 : Int32) = 0 := by decide
theorem keep_X113 {fu : Nat} {k : Nat} (hk : k < 3) {x : Int32} : ∀ (m n : Nat) (M : Mm) (j : Nat), j + m = 780 → m < n → (∀ i, i < j → M.1 97 (795 * k + 15 + i) = M.1 96 i) → ∃ M', F_X7_keep_113 fu n M (nI k) (nI (795 * k)) (nI j) = some (M.1 86 12, M') ∧ (∀ i, i < 780 → M'.1 97 (795 * k + 15 + i) = M.1 96 i) ∧ M'.1 98 k = 1 ∧ Out (fun x p => (x = 97 ∧ 795 * k + 15 ≤ p ∧ p < 795 * k + 795) ∨ (x = 98 ∧ p = k)) M M' := by
  intro m
  induction m with
  | zero =>
    intro n M j hj hn h
    obtain ⟨n, rfl⟩ : ∃ q, n = q + 1 := ⟨n - 1, by omega⟩
    refine ⟨pI M 98 k 1, ?_, fun i hi => by rw [pI_n (by omega)]; exact h i (by omega), pI_s, (Out.rf).pI (by omega)⟩
    unfold F_X7_keep_113
    rw [L780, if_pos (nI_le (by omega) (by omega)), xr98 hk, clN (by omega), vnar1, lt1_s, pI_n (by omega)]
  | succ m ih =>
    intro n M j hj hn h
    obtain ⟨n, rfl⟩ : ∃ q, n = q + 1 := ⟨n - 1, by omega⟩
    obtain ⟨M', a1, a2, a3, a4⟩ := ih n (pI M 97 (795 * k + 15 + j) (M.1 96 j)) (j + 1) (by omega) (by omega) (fun i hi => by
      rw [pI_n (y := 96) (by omega)]
      by_cases hij : i = j
      · rw [hij, pI_s]
      · rw [pI_n (by omega)]
        exact h i (by omega))
    refine ⟨M', ?_, fun i hi => by rw [a2 i hi, pI_n (by omega)], a3, ((Out.rf).pI (by omega)).trans a4⟩
    rw [pI_n (by omega)] at a1
    unfold F_X7_keep_113
    rw [L780, if_neg (nI_ge (by omega) (by omega)), L15, nI_add, nI_add, xr96 (by omega), xr97 (by omega), clN (by omega), clN (by omega), lt1_s, nI_1]
    exact a1
theorem keep_X66 {fu : Nat} (hf : 1000 ≤ fu) {k : Nat} (hk : k < 3) : ∀ (m n : Nat) (M : Mm) (j : Nat), j + m = 6 → m < n → (∀ i, i < j → M.1 97 (795 * k + 3 + i) = M.1 94 i ∧ M.1 97 (795 * k + 9 + i) = M.1 95 i) → ∃ M', F_X7_keep_66 fu n M (nI k) (nI (795 * k)) (nI j) = some (M.1 86 12, M') ∧ (∀ i, i < 6 → M'.1 97 (795 * k + 3 + i) = M.1 94 i ∧ M'.1 97 (795 * k + 9 + i) = M.1 95 i) ∧ (∀ i, i < 780 → M'.1 97 (795 * k + 15 + i) = M.1 96 i) ∧ M'.1 98 k = 1 ∧ Out (fun x p => (x = 97 ∧ 795 * k + 3 ≤ p ∧ p < 795 * k + 795) ∨ (x = 98 ∧ p = k)) M M' := by
  intro m
  induction m with
  | zero =>
    intro n M j hj hn h
    obtain ⟨n, rfl⟩ : ∃ q, n = q + 1 := ⟨n - 1, by omega⟩
    obtain ⟨M', a1, a2, a3, a4⟩ := keep_X113 (fu := fu) hk (x := 0) 780 fu M 0 (by omega) (by omega) (fun i hi => by omega)
    refine ⟨M', ?_, fun i hi => ?_, a2, a3, a4.wk fun x p q => by omega⟩
    · unfold F_X7_keep_66
      rw [L6, if_pos (nI_le (by omega) (by omega))]
      exact a1
    · rw [(a4 _ _ (by omega)).1, (a4 _ _ (by omega)).1]
      exact h i (by omega)
  | succ m ih =>
    intro n M j hj hn h
    obtain ⟨n, rfl⟩ : ∃ q, n = q + 1 := ⟨n - 1, by omega⟩
    obtain ⟨M', a1, a2, a3, a4, a5⟩ := ih n (pI (pI M 97 (795 * k + 3 + j) (M.1 94 j)) 97 (795 * k + 9 + j) (M.1 95 j)) (j + 1) (by omega) (by omega) (fun i hi => by
      rw [pI_n (y := 94) (by omega), pI_n (y := 94) (by omega), pI_n (y := 95) (by omega), pI_n (y := 95) (by omega)]
      by_cases hij : i = j
      · subst hij
        rw [pI_n (by omega), pI_s, pI_s]
        exact ⟨rfl, rfl⟩
      · rw [pI_n (by omega), pI_n (by omega), pI_n (by omega), pI_n (by omega)]
        exact h i (by omega))
    refine ⟨M', ?_, fun i hi => ?_, fun i hi => by rw [a3 i hi, pI_n (by omega), pI_n (by omega)], a4, (((Out.rf).pI (by omega)).pI (by omega)).trans a5⟩
    · rw [pI_n (by omega), pI_n (by omega)] at a1
      unfold F_X7_keep_66
      rw [L6, if_neg (nI_ge (by omega) (by omega)), L3, L9, nI_add, nI_add, nI_add, nI_add, xr94 (by omega), xr97 (by omega), lt1_s, xr95 (by omega), xr97 (by omega), clN (by omega), clN (by omega), clN (by omega), lt1_s, pI_n (y := 95) (by omega), nI_1]
      exact a1
    · have := a2 i hi
      rwa [pI_n (by omega), pI_n (by omega), pI_n (by omega), pI_n (by omega)] at this
theorem call_keep {fu : Nat} (hf : 1000 ≤ fu) {M : Mm} (h : Rel M) (x : Int32) : Two2 (F_X6_keep fu M x) (fun M1 => F_X7_keep fu M1 x) := by
  obtain ⟨s, hs, hc, hx, hk⟩ := h.2.2.2
  have hv := hs.v
  have hm := hv.1
  have hm1 := hs.1.1
  have hD := hs.2.2.1
  have bb := cur_sb s
  have m0 := cur0 s
  unfold F_X6_keep F_X7_keep
  rcases rng3 x (n := 3) (by omega) with hi | ⟨k, hi, rfl⟩
  · exact Two2.same h (by rw [keptOf_C0 hi]; rfl) (by rw [in_no (n := 2) hi I2 (by decide)]; rfl)
  · by_cases h0 : vMen s.1 = 0
    · exact Two2.same h (by rw [keptOf_C1 hi, ob1_s, op1_s, kd_K hi, if_neg (by decide), if_pos (by rw [men0_C hv hc.cv, m0]; exact h0)]) (by rw [in_ok (k := 0) (n := 2) (by omega) (by omega) I0 I2 (by decide), ob1_s, if_neg one_ne, if_pos (by rw [men0_X hv hx.1, m0]; exact h0)])
    · obtain ⟨M1, a1, a2, a3⟩ := become_C hf (kd_K hi) (show kd 24 = 11 by decide) (by omega) hs hc
      have lo : Lo M M1 := Lo.of a3 fun x j q => by omega
      have hx1 := hx.lo lo
      have oB : Out (fun x p => x = 97 ∧ 795 * k ≤ p ∧ p < 795 * k + 3) M1 (pI (pI (pI M1 97 (795 * k) (M1.1 86 10)) 97 (795 * k + 1) (M1.1 86 11)) 97 (795 * k + 2) (M1.1 86 12)) := (((Out.rf).pI (by omega)).pI (by omega)).pI (by omega)
      obtain ⟨M2, b1, b2, b3, b4, b5⟩ := keep_X66 hf hi 6 fu (pI (pI (pI M1 97 (795 * k) (M1.1 86 10)) 97 (795 * k + 1) (M1.1 86 11)) 97 (795 * k + 2) (M1.1 86 12)) 0 (by omega) (by omega) (fun i hi => by omega)
      have oX : Out (fun x p => (x = 97 ∧ 795 * k ≤ p ∧ p < 795 * k + 795) ∨ (x = 98 ∧ p = k)) M1 M2 := (oB.wk fun x j q => by omega).trans (b5.wk fun x j q => by omega)
      have hiX : Hi M1 M2 := Hi.of oX fun x j q => by omega
      have o : Out (fun x p => (35 + 11 * k ≤ x ∧ x ≤ 35 + 11 * k + 10) ∨ (x = 97 ∧ 795 * k ≤ p ∧ p < 795 * k + 795) ∨ (x = 98 ∧ p = k)) M M2 := (a3.wk fun x j q => Or.inl q).trans (oX.wk fun x j q => Or.inr q)
      have kx : XK k s M2 := by
        obtain ⟨h1, h2, h3⟩ := hx1
        refine ⟨?_, ?_, ?_, fun i hi => ?_, fun d hd => ?_⟩
        · rw [(b5 _ _ (by omega)).1, pI_n (by omega), pI_n (by omega), pI_s, h1.2.1]
          rfl
        · rw [(b5 _ _ (by omega)).1, pI_n (by omega), pI_s, h1.2.2.1]
        · rw [(b5 _ _ (by omega)).1, pI_s, h2]
        · have e := h1.2.2.2.2 i (by rw [bb.1]; exact hi)
          rw [(b2 i (by omega)).1, (b2 i (by omega)).2, (oB _ _ (by omega)).1, (oB _ _ (by omega)).1]
          exact ⟨e.2.2.1, e.2.2.2⟩
        · have e := h3 d hd
          refine ⟨?_, fun i hi => ⟨?_, ?_⟩⟩
          · rw [show 795 * k + 15 + 13 * d + 12 = 795 * k + 15 + (13 * d + 12) by omega, b3 _ (by omega), (oB _ _ (by omega)).1, ← e.1, Nat.zero_add]
          · rw [show 795 * k + 15 + 13 * d + i = 795 * k + 15 + (13 * d + i) by omega, b3 _ (by omega), (oB _ _ (by omega)).1, ← (e.2 i hi).1, Nat.zero_add]
          · rw [show 795 * k + 15 + 13 * d + 6 + i = 795 * k + 15 + (13 * d + 6 + i) by omega, b3 _ (by omega), (oB _ _ (by omega)).1, ← (e.2 i hi).2, Nat.zero_add]
      have hrn : RN M2 := by
        refine ⟨s, hs, hc.cg fun x h1 h2 => o.f fun j q => by omega, hx.cg (fun c h1 h2 => o.f fun j q => by omega) (o _ _ (by omega)).1 (o _ _ (by omega)).1 (o _ _ (by omega)).1 (o _ _ (by omega)).1, fun j hj => ?_⟩
        by_cases hjk : j = k
        · subst hjk
          exact Or.inr ⟨b4, by omega, s, hs, sb.rf _, a2.hi (by omega) hiX, kx⟩
        · rcases hk j hj with ⟨p, q⟩ | ⟨p, q, s', c1, c2, c3, c4⟩
          · exact Or.inl ⟨by rw [(o _ _ (by omega)).1]; exact p, by rw [(o _ _ (by omega)).1]; exact q⟩
          · have hD' := c1.2.2.1
            have hm' := c1.1.1
            refine Or.inr ⟨by rw [(o _ _ (by omega)).1]; exact p, q, s', c1, c2, c3.cg fun x h1 h2 => o.f fun j' q => by omega, ?_⟩
            obtain ⟨d1, d2, d3, d4, d5⟩ := c4
            exact ⟨by rw [(o _ _ (by omega)).1]; exact d1, by rw [(o _ _ (by omega)).1]; exact d2, by rw [(o _ _ (by omega)).1]; exact d3, fun i hi => by rw [(o _ _ (by omega)).1, (o _ _ (by omega)).1]; exact d4 i hi, fun d hd => ⟨by rw [(o _ _ (by omega)).1]; exact (d5 d hd).1, fun i hi => by rw [(o _ _ (by omega)).1, (o _ _ (by omega)).1]; exact (d5 d hd).2 i hi⟩⟩
      refine ⟨nI s.2.2.1, M1, M2, ?_, ?_, h.north o (fun x j q => Or.inl (by unfold sN; omega)) hrn⟩
      · rw [keptOf_C1 hi, ob1_s, op1_s, kd_K hi, if_neg (by decide), if_neg (by rw [men0_C hv hc.cv, m0]; exact h0), a1, ob1_s, a2.2.2.2.1]
      · show ob1 _ _ = _
        rw [in_ok (k := 0) (n := 2) (by omega) (by omega) I0 I2 (by decide), ob1_s, if_neg one_ne, if_neg (by rw [men0_X hv hx1.1, m0]; exact h0), L795, L1, L2, pk_mul, nI_add, nI_add, xr97 (by omega), lt1_s, xr97 (by omega), lt1_s, xr97 (by omega), lt1_s, clN (by omega), clN (by omega), clN (by omega), pI_n (x := 97) (y := 86) (by omega), pI_n (x := 97) (y := 86) (by omega), pI_n (x := 97) (y := 86) (by omega)]
        have e : (pI (pI (pI M1 97 (795 * k) (M1.1 86 10)) 97 (795 * k + 1) (M1.1 86 11)) 97 (795 * k + 2) (M1.1 86 12)).1 86 12 = nI s.2.2.1 := by
          rw [(oB _ _ (by omega)).1, hx1.2.1]
        rw [e] at b1
        exact b1
theorem on_X118 {fu : Nat} {k : Nat} (hk : k < 3) : ∀ (m n : Nat) (M : Mm) (j : Nat), j + m = 780 → m < n → (∀ i, i < j → M.1 96 i = M.1 97 (795 * k + 15 + i)) → ∃ M', F_X7_on_118 fu n M (nI (795 * k)) (nI j) = some (M.1 86 12, M') ∧ (∀ i, i < 780 → M'.1 96 i = M.1 97 (795 * k + 15 + i)) ∧ Out (fun x _ => x = 96) M M' := by
  intro m
  induction m with
  | zero =>
    intro n M j hj hn h
    obtain ⟨n, rfl⟩ : ∃ q, n = q + 1 := ⟨n - 1, by omega⟩
    refine ⟨M, ?_, fun i hi => h i (by omega), Out.rf⟩
    unfold F_X7_on_118
    rw [L780, if_pos (nI_le (by omega) (by omega))]
  | succ m ih =>
    intro n M j hj hn h
    obtain ⟨n, rfl⟩ : ∃ q, n = q + 1 := ⟨n - 1, by omega⟩
    obtain ⟨M', a1, a2, a4⟩ := ih n (pI M 96 j (M.1 97 (795 * k + 15 + j))) (j + 1) (by omega) (by omega) (fun i hi => by
      rw [pI_n (y := 97) (by omega)]
      by_cases hij : i = j
      · rw [hij, pI_s]
      · rw [pI_n (by omega)]
        exact h i (by omega))
    refine ⟨M', ?_, fun i hi => by rw [a2 i hi, pI_n (by omega)], (Out.pI (P := fun x _ => x = 96) Out.rf rfl).trans a4⟩
    rw [pI_n (by omega)] at a1
    unfold F_X7_on_118
    rw [L780, if_neg (nI_ge (by omega) (by omega)), L15, nI_add, nI_add, xr97 (by omega), xr96 (by omega), clN (by omega), clN (by omega), lt1_s, nI_1]
    exact a1
theorem on_X71 {fu : Nat} (hf : 1000 ≤ fu) {k : Nat} (hk : k < 3) : ∀ (m n : Nat) (M : Mm) (j : Nat), j + m = 6 → m < n → (∀ i, i < j → M.1 94 i = M.1 97 (795 * k + 3 + i) ∧ M.1 95 i = M.1 97 (795 * k + 9 + i)) → ∃ M', F_X7_on_71 fu n M (nI (795 * k)) (nI j) = some (M.1 86 12, M') ∧ (∀ i, i < 6 → M'.1 94 i = M.1 97 (795 * k + 3 + i) ∧ M'.1 95 i = M.1 97 (795 * k + 9 + i)) ∧ (∀ i, i < 780 → M'.1 96 i = M.1 97 (795 * k + 15 + i)) ∧ Out (fun x _ => x = 94 ∨ x = 95 ∨ x = 96) M M' := by
  intro m
  induction m with
  | zero =>
    intro n M j hj hn h
    obtain ⟨n, rfl⟩ : ∃ q, n = q + 1 := ⟨n - 1, by omega⟩
    obtain ⟨M', a1, a2, a4⟩ := on_X118 (fu := fu) hk 780 fu M 0 (by omega) (by omega) (fun i hi => by omega)
    refine ⟨M', ?_, fun i hi => ?_, a2, a4.wk fun x p q => by omega⟩
    · unfold F_X7_on_71
      rw [L6, if_pos (nI_le (by omega) (by omega))]
      exact a1
    · rw [(a4 _ _ (by omega)).1, (a4 _ _ (by omega)).1]
      exact h i (by omega)
  | succ m ih =>
    intro n M j hj hn h
    obtain ⟨n, rfl⟩ : ∃ q, n = q + 1 := ⟨n - 1, by omega⟩
    obtain ⟨M', a1, a2, a3, a5⟩ := ih n (pI (pI M 94 j (M.1 97 (795 * k + 3 + j))) 95 j (M.1 97 (795 * k + 9 + j))) (j + 1) (by omega) (by omega) (fun i hi => by
      rw [pI_n (y := 97) (by omega), pI_n (y := 97) (by omega), pI_n (y := 97) (by omega), pI_n (y := 97) (by omega)]
      by_cases hij : i = j
      · subst hij
        rw [pI_n (by omega), pI_s, pI_s]
        exact ⟨rfl, rfl⟩
      · rw [pI_n (by omega), pI_n (by omega), pI_n (by omega), pI_n (by omega)]
        exact h i (by omega))
    refine ⟨M', ?_, fun i hi => ?_, fun i hi => by rw [a3 i hi, pI_n (by omega), pI_n (by omega)], (((Out.rf).pI (by omega)).pI (by omega)).trans a5⟩
    · rw [pI_n (by omega), pI_n (by omega)] at a1
      unfold F_X7_on_71
      rw [L6, if_neg (nI_ge (by omega) (by omega)), L3, L9, nI_add, nI_add, nI_add, nI_add, xr97 (by omega), xr94 (by omega), lt1_s, xr97 (by omega), xr95 (by omega), clN (by omega), clN (by omega), clN (by omega), lt1_s, pI_n (y := 97) (by omega), nI_1]
      exact a1
    · have := a2 i hi
      rwa [pI_n (by omega), pI_n (by omega), pI_n (by omega), pI_n (by omega)] at this
theorem call_on {fu : Nat} (hf : 1000 ≤ fu) {M : Mm} (h : Rel M) (x : Int32) : Two2 (F_X6_on fu M x) (fun M1 => F_X7_on fu M1 x) := by
  obtain ⟨s, hs, hc, hx, hk⟩ := h.2.2.2
  have hv := hs.v
  have bb := cur_sb s
  unfold F_X6_on F_X7_on
  rcases rng3 x (n := 3) (by omega) with hi | ⟨k, hi, rfl⟩
  · exact Two2.same h (by rw [keptOf_C0 hi]; rfl) (by rw [in_no (n := 2) hi I2 (by decide)]; rfl)
  · rcases hk k hi with ⟨p1, p2⟩ | ⟨p1, p2, t, ht, tsb, tc, tx⟩
    · refine two_f h (f := 1) (by decide) ?_ ?_
      · rw [keptOf_C1 hi, ob1_s, op1_s, kd_K hi, if_neg (by decide), if_pos p1, fnd1_C]
        rfl
      · rw [in_ok (k := 0) (n := 2) (by omega) (by omega) I0 I2 (by decide), ob1_s, if_neg one_ne, xr98 hi, clN (by omega), (fC_lo 1 M 98 k (by decide)).1, if_pos p2, fnd1_X]
        rfl
    · have hm := ht.1.1
      have hD := ht.2.2.1
      have tb := cur_sb t
      obtain ⟨M1, a1, a2, a3⟩ := become_C hf (show kd 24 = 11 by decide) (kd_K hi) (by omega) ht tc
      have lo : Lo M M1 := Lo.of a3 fun x j q => by omega
      have hx1 := hx.lo lo
      have oB : Out (fun x p => x = 86 ∧ (p = 10 ∨ p = 11 ∨ p = 12)) M1 (pI (pI (pI M1 86 10 (M1.1 97 (795 * k))) 86 11 (M1.1 97 (795 * k + 1))) 86 12 (M1.1 97 (795 * k + 2))) := (((Out.rf).pI (by omega)).pI (by omega)).pI (by omega)
      obtain ⟨M2, b1, b2, b3, b5⟩ := on_X71 hf hi 6 fu (pI (pI (pI M1 86 10 (M1.1 97 (795 * k))) 86 11 (M1.1 97 (795 * k + 1))) 86 12 (M1.1 97 (795 * k + 2))) 0 (by omega) (by omega) (fun i hi => by omega)
      have oX : Out (fun x p => (x = 86 ∧ (p = 10 ∨ p = 11 ∨ p = 12)) ∨ x = 94 ∨ x = 95 ∨ x = 96) M1 M2 := (oB.wk fun x j q => by omega).trans (b5.wk fun x j q => by omega)
      have hiX : Hi M1 M2 := Hi.of oX fun x j q => by omega
      have o : Out (fun x p => (24 ≤ x ∧ x ≤ 34) ∨ (x = 86 ∧ (p = 10 ∨ p = 11 ∨ p = 12)) ∨ x = 94 ∨ x = 95 ∨ x = 96) M M2 := (a3.wk fun x j q => Or.inl (by omega)).trans (oX.wk fun x j q => Or.inr q)
      have g97 : M1.1 97 = M.1 97 := lo.f (by decide)
      obtain ⟨k1, k2, k3, k4, k5⟩ := tx
      have e12 : M2.1 86 12 = nI t.2.2.1 := by
        rw [(b5 _ _ (by omega)).1, pI_s, g97, k3]
      have hxn : XN t M2 := by
        obtain ⟨⟨x1, x2, x3, x4, x5⟩, -, -⟩ := hx1
        have sc : sb (cur t) (cur s) := (tb.trans tsb).trans bb.symm
        refine ⟨⟨?_, ?_, ?_, fun j hj => ?_, fun i hi => ?_⟩, e12, fun d hd => ⟨?_, fun i hi => ⟨?_, ?_⟩⟩⟩
        · rw [(oX _ _ (by omega)).1, x1, sc.1]
        · rw [(b5 _ _ (by omega)).1, pI_n (by omega), pI_n (by omega), pI_s, g97, k1]
          rfl
        · rw [(b5 _ _ (by omega)).1, pI_n (by omega), pI_s, g97, k2]
        · rw [(oX _ _ (by omega)).1, x4 j hj, sc.2.1]
        · have e := x5 i (by rw [← sc.1]; exact hi)
          have e2 := k4 i (by rw [← tb.1]; exact hi)
          have hi6 : i < 6 := by have := tb.1; omega
          refine ⟨?_, ?_, ?_, ?_⟩
          · rw [(oX _ _ (by omega)).1, e.1, sc.2.2.1]
          · rw [(oX _ _ (by omega)).1, e.2.1, sc.2.2.2]
          · rw [(b2 i hi6).1, (oB _ _ (by omega)).1, g97, e2.1]
          · rw [(b2 i hi6).2, (oB _ _ (by omega)).1, g97, e2.2]
        · rw [Nat.zero_add, b3 _ (by omega), (oB _ _ (by omega)).1, g97, ← (k5 d hd).1]
          exact congrArg _ (by omega)
        · rw [Nat.zero_add, b3 _ (by omega), (oB _ _ (by omega)).1, g97, ← ((k5 d hd).2 i hi).1]
          exact congrArg _ (by omega)
        · rw [Nat.zero_add, b3 _ (by omega), (oB _ _ (by omega)).1, g97, ← ((k5 d hd).2 i hi).2]
          exact congrArg _ (by omega)
      have hrn : RN M2 := by
        refine ⟨t, ht, a2.hi (by omega) hiX, hxn, fun j hj => ?_⟩
        have kj := (hk j hj).cg hj (M' := M2) (fun c h1 h2 => o.f fun j q => by omega) (o.f fun j q => by omega) (o.f fun j q => by omega)
        rcases kj with q | ⟨q1, q2, s', c1, c2, c3, c4⟩
        · exact Or.inl q
        · exact Or.inr ⟨q1, by rw [tsb.1]; exact q2, s', c1, c2.trans tsb.symm, c3, c4⟩
      have m1 : ¬ M.1 (35 + 11 * k) 0 = 0 := by
        rw [tc.1, L0, eqN (by omega) (by omega), tsb.1]
        omega
      refine ⟨nI t.2.2.1, M1, M2, ?_, ?_, h.north o (fun x j q => Or.inl (by unfold sN; omega)) hrn⟩
      · rw [keptOf_C1 hi, ob1_s, op1_s, kd_K hi, if_neg (by decide), if_neg m1, a1, ob1_s, a2.2.2.2.1]
      · show ob1 _ _ = _
        rw [in_ok (k := 0) (n := 2) (by omega) (by omega) I0 I2 (by decide), ob1_s, if_neg one_ne, xr98 hi, clN (by omega), (lo 98 k (by decide)).1, p1, if_neg one_ne, L795, L1, L2, pk_mul, nI_add, nI_add, xr97 (by omega), lt1_s, xr97 (by omega), lt1_s, xr97 (by omega), lt1_s, clN (by omega), clN (by omega), clN (by omega), pI_n (x := 86) (y := 97) (by omega), pI_n (x := 86) (y := 97) (by omega), pI_n (x := 86) (y := 97) (by omega)]
        have e : (pI (pI (pI M1 86 10 (M1.1 97 (795 * k))) 86 11 (M1.1 97 (795 * k + 1))) 86 12 (M1.1 97 (795 * k + 2))).1 86 12 = nI t.2.2.1 := by
          rw [pI_s, g97, k3]
        rw [e] at b1
        exact b1
