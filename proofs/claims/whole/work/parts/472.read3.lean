/-! a text is read: the reference -/
theorem figT_9 {m r : Nat} {su k b sh v : Nat → Nat} {d : Nat} : figT (9, m, r, su, k, b, sh, v) d = if 0 < d then some (10, m, d, su, k, b, sh, v) else none := rfl
theorem figT_11 {m r : Nat} {su k b sh v : Nat → Nat} {d : Nat} : figT (11, m, r, su, k, b, sh, v) d = some (12, m, r, su, k, setf b m (10 * d), sh, v) := rfl
theorem figT_12 {m r : Nat} {su k b sh v : Nat → Nat} {d : Nat} : figT (12, m, r, su, k, b, sh, v) d = if 0 < b m + d then some (13, m, r, su, k, setf b m (b m + d), sh, v) else none := rfl
theorem figT_13 {m r : Nat} {su k b sh v : Nat → Nat} {d : Nat} : figT (13, m, r, su, k, b, sh, v) d = some (14, m, r, su, k, b, setf sh m d, v) := rfl
theorem figT_14 {m r : Nat} {su k b sh v : Nat → Nat} {d : Nat} : figT (14, m, r, su, k, b, sh, v) d = if d ≤ 1 then some (10, m + 1, r, su, k, b, sh, setf v m d) else none := rfl
theorem figT_j {j m r : Nat} {su k b sh v : Nat → Nat} {d : Nat} (hj : j < 8) : figT (j + 1, m, r, su, k, b, sh, v) d = some (j + 2, m, r, setf su j d, k, b, sh, v) := by
  show figU (j + 1) m r su k b sh v d = _
  unfold figU
  rw [if_neg (by omega), if_neg (by omega), if_neg (by omega), if_neg (by omega), if_neg (by omega)]
  rfl
/-- the text that is read -/
def TX (t N : Nat) (f : Nat → Int32) (M : Mm) : Prop := M.1 90 t = nI N ∧ ∀ j, j < N → M.1 89 (60 * t + j) = f j
def pQ (x j : Nat) : Prop := (x = 86 ∧ (j = 22 ∨ j = 28 ∨ j = 29)) ∨ (101 ≤ x ∧ x ≤ 105)
theorem TX.out {t N : Nat} {f : Nat → Int32} {M M' : Mm} (h : TX t N f M) (o : Out pQ M M') : TX t N f M' := ⟨by rw [(o _ _ (by unfold pQ; omega)).1]; exact h.1, fun j hj => by rw [(o _ _ (by unfold pQ; omega)).1]; exact h.2 j hj⟩
def chr (f : Nat → Int32) (N k : Nat) : Int32 := if k < N then f k else -9
theorem charAt_X {fu : Nat} {M : Mm} {t N k : Nat} {f : Nat → Int32} (ht : t < 4) (hN : N ≤ 60) (h : TX t N f M) (hp : M.1 86 29 = nI k) (hk : k ≤ N) : F_X7_charAt fu M (nI t) = some (chr f N k) := by
  unfold F_X7_charAt chr
  rw [xr90 ht, clN (by omega), h.1, hp]
  by_cases hkN : k < N
  · rw [if_neg (nI_ge hkN (by omega)), if_pos hkN, L60, pk_mul, nI_add, xr89 (by omega), clN (by omega), h.2 k hkN]
  · rw [if_pos (nI_le (by omega) (by omega)), if_neg hkN]
theorem rd_step {f : Nat → Int32} {N k : Nat} {q q' : RS} (hk : k < N) (h : takeF q (f k) = some q') : rdF f (N - k) k q = rdF f (N - (k + 1)) (k + 1) q' := by
  rw [show N - k = (N - (k + 1)) + 1 by omega, rdF, h]
theorem rd_stop {f : Nat → Int32} {N k : Nat} {q : RS} (hk : k < N) (h : takeF q (f k) = none) : rdF f (N - k) k q = .inl k := by
  rw [show N - k = (N - (k + 1)) + 1 by omega, rdF, h]
theorem rd_end {f : Nat → Int32} {N : Nat} {q : RS} (h : ¬ (rS q = 10 ∧ 0 < rM q)) : rdF f (N - N) N q = .inl N := by
  rw [Nat.sub_self, rdF, if_neg h]
theorem rd_fig {f : Nat → Int32} {N k d : Nat} {q q' : RS} (h0 : rS q ≠ 0) (h10 : rS q ≠ 10) (hk : k < N) (hd : d ≤ 9) (hc : f k = nI (48 + d)) (h : figT q d = some q') : rdF f (N - k) k q = rdF f (N - (k + 1)) (k + 1) q' := by
  refine rd_step hk ?_
  unfold takeF
  rw [if_neg h0, if_neg h10, hc, (dgF_d hd).1]
  exact h
theorem rd_nofig {f : Nat → Int32} {N k : Nat} {q : RS} (h0 : rS q ≠ 0) (h10 : rS q ≠ 10) (hk : k ≤ N) (h : ∀ d, d ≤ 9 → k < N → f k = nI (48 + d) → figT q d = none) : rdF f (N - k) k q = .inl k := by
  by_cases hkN : k < N
  · refine rd_stop hkN ?_
    unfold takeF
    rw [if_neg h0, if_neg h10]
    rcases dgF_c (f k) with ⟨d1, d2, d3⟩ | ⟨d, hd, e⟩
    · rw [d1]
    · rw [e, (dgF_d hd).1]
      exact h d hd hkN e
  · have : k = N := by omega
    subst this
    exact rd_end fun z => h10 z.1
theorem skip_X0 {fu : Nat} {t N : Nat} {f : Nat → Int32} (ht : t < 4) (hN : N ≤ 60) : ∀ (m n : Nat) (M : Mm) (k : Nat), k + m = N → m < n → TX t N f M → M.1 86 29 = nI k → ∃ k' M', k ≤ k' ∧ k' ≤ N ∧ F_X7_skip_0 fu n M (nI t) = some M' ∧ M'.1 86 29 = nI k' ∧ Out (fun x j => x = 86 ∧ j = 29) M M' ∧ (k' < N → f k' ≠ 32) ∧ ∀ q, (rS q = 0 ∨ rS q = 10) → rdF f (N - k) k q = rdF f (N - k') k' q := by
  intro m
  induction m with
  | zero =>
    intro n M k hk hn h hp
    obtain ⟨n, rfl⟩ : ∃ q, n = q + 1 := ⟨n - 1, by omega⟩
    refine ⟨k, M, Nat.le_refl _, by omega, ?_, hp, Out.rf, fun h => absurd h (by omega), fun q _ => rfl⟩
    unfold F_X7_skip_0
    rw [xr90 ht, clN (by omega), h.1, hp, if_pos (nI_le (by omega) (by omega))]
  | succ m ih =>
    intro n M k hk hn h hp
    obtain ⟨n, rfl⟩ : ∃ q, n = q + 1 := ⟨n - 1, by omega⟩
    unfold F_X7_skip_0
    rw [xr90 ht, charAt_X ht hN h hp (by omega), clN (by omega), h.1, hp, if_neg (nI_ge (by omega) (by omega)), ob1_s, show chr f N k = f k from if_pos (by omega)]
    by_cases h32 : f k = 32
    · have o1 : Out (fun x j => x = 86 ∧ j = 29) M (pI M 86 29 (nI (k + 1))) := (Out.rf).pI (by omega)
      obtain ⟨k', M', a1, a2, a3, a4, a5, a6, a7⟩ := ih n (pI M 86 29 (nI (k + 1))) (k + 1) (by omega) (by omega) (h.out (o1.wk fun x j q => by unfold pQ; omega)) pI_s
      refine ⟨k', M', by omega, a2, ?_, a4, o1.trans a5, a6, fun q hq => ?_⟩
      · rw [if_pos h32, lt1_s, nI_1]
        exact a3
      · rw [← a7 q hq]
        refine rd_step (by omega) ?_
        unfold takeF
        rcases hq with hq | hq
        · rw [if_pos hq, if_pos h32]
        · rw [if_neg (by omega), if_pos hq, if_pos h32]
    · rw [if_neg h32]
      exact ⟨k, M, Nat.le_refl _, by omega, rfl, hp, Out.rf, fun _ => h32, fun q _ => rfl⟩
theorem skip_X {fu : Nat} (hf : 1000 ≤ fu) {t N : Nat} {f : Nat → Int32} (ht : t < 4) (hN : N ≤ 60) {M : Mm} {k : Nat} (hk : k ≤ N) (h : TX t N f M) (hp : M.1 86 29 = nI k) : ∃ k' M', k ≤ k' ∧ k' ≤ N ∧ F_X7_skip fu M (nI t) = some M' ∧ M'.1 86 29 = nI k' ∧ Out (fun x j => x = 86 ∧ j = 29) M M' ∧ (k' < N → f k' ≠ 32) ∧ ∀ q, (rS q = 0 ∨ rS q = 10) → rdF f (N - k) k q = rdF f (N - k') k' q :=
  skip_X0 ht hN (N - k) fu M k (by omega) (by omega) h hp
theorem in_nod {fu : Nat} {M : Mm} {c : Int32} {lo hi : Nat} (hlo : lo ≤ 1) (hh : hi ≤ 9) (h : ∀ d, d ≤ 9 → ¬ c = nI (48 + d)) : F_X7_in fu M c.toInt64 (nI (48 + lo)).toInt64 (nI (48 + hi)).toInt64 = some 0 := by
  rcases pk_ix c (n := 58) (by decide) with h1 | h1 | ⟨j, hj, rfl⟩
  · exact in_lo (k := 48 + lo) (by
      rw [lt0i] at h1
      rw [Int32.lt_iff_toInt_lt, nI_toInt (by omega)]; omega) (nI_l (by omega)) (by omega)
  · exact in_hi (n := 48 + hi) (by
      rw [Int32.le_iff_toInt_le, nI_toInt (by omega)] at h1 ⊢
      omega) (nI_l (by omega)) (by omega)
  · exact in_lo (k := 48 + lo) (by
      have : ¬ 48 ≤ j := fun q => h (j - 48) (by omega) (congrArg nI (by omega))
      exact nI_lt (by omega) (by omega)) (nI_l (by omega)) (by omega)
theorem figure_X {fu : Nat} {M : Mm} {t N k lo hi : Nat} {f : Nat → Int32} (ht : t < 4) (hN : N ≤ 60) (h : TX t N f M) (hp : M.1 86 29 = nI k) (hk : k ≤ N) (hlo : lo ≤ 1) (hh : hi ≤ 9) : (∃ d, lo ≤ d ∧ d ≤ hi ∧ k < N ∧ f k = nI (48 + d) ∧ F_X7_figure fu M (nI t) (nI lo) (nI hi) = some (nI d, pI M 86 29 (nI (k + 1)))) ∨ ((∀ d, lo ≤ d → d ≤ hi → k < N → ¬ f k = nI (48 + d)) ∧ F_X7_figure fu M (nI t) (nI lo) (nI hi) = some (-9, M)) := by
  unfold F_X7_figure
  rw [charAt_X ht hN h hp hk, ob1_s, L48, nI_add, nI_add, hp, nI_1, lt1_s]
  by_cases hkN : k < N
  · rw [show chr f N k = f k from if_pos hkN]
    rcases dgF_c (f k) with ⟨d1, d2, d3⟩ | ⟨d, hd, e⟩
    · refine Or.inr ⟨fun d h1 h2 _ => d3 d (by omega), ?_⟩
      rw [in_nod hlo (by omega) d3, ob1_s, if_pos rfl]
    · by_cases hr : lo ≤ d ∧ d ≤ hi
      · refine Or.inl ⟨d, hr.1, hr.2, hkN, e, ?_⟩
        rw [e, in_ok (k := 48 + lo) (n := 48 + hi) (by omega) (by omega) (nI_l (by omega)) (nI_l (by omega)) (by omega), ob1_s, if_neg one_ne, ← L48, (dgF_d hd).2]
      · refine Or.inr ⟨fun d' h1 h2 _ e2 => ?_, ?_⟩
        · rw [e, eqN (by omega) (by omega)] at e2
          omega
        · rw [e]
          by_cases hl : d < lo
          · rw [in_lo (k := 48 + lo) (nI_lt (by omega) (by omega)) (nI_l (by omega)) (by omega), ob1_s, if_pos rfl]
          · rw [in_hi (n := 48 + hi) (nI_le (by omega) (by omega)) (nI_l (by omega)) (by omega), ob1_s, if_pos rfl]
  · refine Or.inr ⟨fun d h1 h2 h3 => absurd h3 hkN, ?_⟩
    rw [show chr f N k = -9 from if_neg hkN, in_nod hlo (by omega) (fun d hd e => neg9' (by omega) e.symm), ob1_s, if_pos rfl]
/-- a north's text, as far as it is read between men -/
def XS (q : RS) (k : Nat) (M : Mm) : Prop := rS q = 10 ∧ M.1 86 29 = nI k ∧ M.1 86 22 = nI (rM q) ∧ M.1 86 28 = nI (rR q) ∧ (∀ j, j < 8 → M.1 105 j = nI (rSu q j)) ∧ ∀ i, i < rM q → M.1 101 i = nI (rK q i) ∧ M.1 102 i = nI (rB q i) ∧ M.1 103 i = nI (rSh q i) ∧ M.1 104 i = nI (rV q i)
theorem sun_X24 {fu : Nat} {t N : Nat} {f : Nat → Int32} (ht : t < 4) (hN : N ≤ 60) {m0 : Nat} {kk b sh v : Nat → Nat} : ∀ (m n : Nat) (M : Mm) (j k r : Nat) (su : Nat → Nat), j + m = 8 → m < n → k ≤ N → TX t N f M → M.1 86 29 = nI k → (∀ i, i < j → M.1 105 i = nI (su i)) → (∃ k' M', rdF f (N - k) k (j + 1, m0, r, su, kk, b, sh, v) = .inl k' ∧ F_X7_readsSun_24 fu n M (nI t) (nI j) = some (0, M') ∧ M'.1 86 29 = nI k' ∧ Out pQ M M') ∨ (∃ k' r' su' M', k' ≤ N ∧ rdF f (N - k) k (j + 1, m0, r, su, kk, b, sh, v) = rdF f (N - k') k' (10, m0, r', su', kk, b, sh, v) ∧ F_X7_readsSun_24 fu n M (nI t) (nI j) = some (1, M') ∧ M'.1 86 29 = nI k' ∧ M'.1 86 28 = nI r' ∧ (∀ i, i < 8 → M'.1 105 i = nI (su' i)) ∧ Out (fun x j => (x = 86 ∧ (j = 28 ∨ j = 29)) ∨ x = 105) M M') := by
  intro m
  induction m with
  | zero =>
    intro n M j k r su hj hn hk h hp hs
    obtain ⟨n, rfl⟩ : ∃ q, n = q + 1 := ⟨n - 1, by omega⟩
    have hj8 : j = 8 := by omega
    subst hj8
    unfold F_X7_readsSun_24
    rw [if_pos (show (8 : Int32) ≤ nI 8 by decide), show (1 : Int32) = nI 1 from rfl, show (9 : Int32) = nI 9 from rfl]
    rcases figure_X (fu := fu) (lo := 1) (hi := 9) ht hN h hp hk (by omega) (by omega) with ⟨d, h1, h2, h3, h4, h5⟩ | ⟨h1, h2⟩
    · rw [h5, ob2_s, lt1_s, pI_s, if_neg (neg9 (by omega))]
      refine Or.inr ⟨k + 1, d, su, _, by omega, rd_fig (by show 9 ≠ 0; omega) (by show 9 ≠ 10; omega) h3 h2 h4 (by rw [figT_9, if_pos (show 0 < d from h1)]), rfl, by rw [pI_n (by omega), pI_s], pI_s, fun i hi => by rw [pI_n (by omega), pI_n (by omega)]; exact hs i hi, ((Out.rf).pI (by omega)).pI (by omega)⟩
    · rw [h2, ob2_s, lt1_s, pI_s, if_pos (show (-9 : Int32) = -nI 9 from rfl)]
      refine Or.inl ⟨k, _, rd_nofig (by show 9 ≠ 0; omega) (by show 9 ≠ 10; omega) hk (fun d hd hkN e => ?_), rfl, by rw [pI_n (by omega)]; exact hp, (Out.rf).pI (by unfold pQ; omega)⟩
      rw [figT_9, if_neg]
      intro hd0
      exact h1 d hd0 hd hkN e
  | succ m ih =>
    intro n M j k r su hj hn hk h hp hs
    obtain ⟨n, rfl⟩ : ∃ q, n = q + 1 := ⟨n - 1, by omega⟩
    have e24 : F_X7_readsSun_24 fu (n + 1) M (nI t) (nI j) = ob2 (F_X7_figure fu M (nI t) (nI 0) (nI 9)) (fun r8 M9 => if nI j < 0 ∨ ln 105 ≤ (nI j).toNatClampNeg then none else (lt1 (pI M9 105 (nI j).toNatClampNeg r8) (fun M11 => if nI j < 0 ∨ ln 105 ≤ (nI j).toNatClampNeg then none else (if (M11.1 105 (nI j).toNatClampNeg) = (-9 : Int32) then some ((0 : Int32), M11) else F_X7_readsSun_24 fu n M11 (nI t) (nI j + (1 : Int32)))))) := by
      rw [F_X7_readsSun_24, if_neg (show ¬ (8 : Int32) ≤ nI j by rw [L8]; exact nI_ge (by omega) (by omega))]
      rfl
    rw [e24]
    rcases figure_X (fu := fu) (lo := 0) (hi := 9) ht hN h hp hk (by omega) (by omega) with ⟨d, h1, h2, h3, h4, h5⟩ | ⟨h1, h2⟩
    · rw [h5, ob2_s, xr105 (by omega), lt1_s, xr105 (by omega), clN (by omega), pI_s, if_neg (neg9' (by omega)), nI_1]
      have o1 : Out (fun x j => (x = 86 ∧ (j = 28 ∨ j = 29)) ∨ x = 105) M (pI (pI M 86 29 (nI (k + 1))) 105 j (nI d)) := ((Out.rf).pI (by omega)).pI (by omega)
      have er := rd_fig (f := f) (N := N) (k := k) (q := (j + 1, m0, r, su, kk, b, sh, v)) (by show j + 1 ≠ 0; omega) (by show j + 1 ≠ 10; omega) h3 h2 h4 (figT_j (by omega))
      rcases ih n _ (j + 1) (k + 1) r (setf su j d) (by omega) (by omega) (by omega) (h.out (o1.wk fun x j q => by unfold pQ; omega)) (by rw [pI_n (by omega), pI_s]) (fun i hi => by
        by_cases hij : i = j
        · rw [hij, pI_s, setf_s]
        · rw [pI_n (by omega), pI_n (by omega), setf_n hij]
          exact hs i (by omega)) with ⟨k', M', a1, a2, a3, a4⟩ | ⟨k', r', su', M', a0, a1, a2, a3, a4, a5, a6⟩
      · exact Or.inl ⟨k', M', er.trans a1, a2, a3, (o1.wk fun x j q => by unfold pQ; omega).trans a4⟩
      · exact Or.inr ⟨k', r', su', M', a0, er.trans a1, a2, a3, a4, a5, o1.trans a6⟩
    · rw [h2, ob2_s, xr105 (by omega), lt1_s, xr105 (by omega), clN (by omega), pI_s, if_pos rfl]
      exact Or.inl ⟨k, _, rd_nofig (by show j + 1 ≠ 0; omega) (by show j + 1 ≠ 10; omega) hk (fun d hd hkN e => absurd e (h1 d (by omega) hd hkN)), rfl, by rw [pI_n (by omega)]; exact hp, (Out.rf).pI (by unfold pQ; omega)⟩
theorem man_X64 {fu : Nat} {t N k : Nat} {f : Nat → Int32} (ht : t < 4) (hN : N ≤ 60) {M : Mm} {m r ki d1 : Nat} {su kk b sh v : Nat → Nat} (hm : m < 6) (hki : ki ≤ 5) (hd1 : d1 ≤ 9) (hk : k ≤ N) (h : TX t N f M) (hp : M.1 86 29 = nI k) (h22 : M.1 86 22 = nI m) : (∃ k' M', rdF f (N - k) k (12, m, r, su, setf kk m ki, setf b m (10 * d1), sh, v) = .inl k' ∧ F_X7_readsMan_64 fu M (nI t) (nI ki) (nI d1) (nI t) (nI (if d1 = 0 then 1 else 0)) = some (0, M') ∧ M'.1 86 29 = nI k' ∧ Out pQ M M') ∨ (∃ k' d2 d3 d4 M', k' ≤ N ∧ k < k' ∧ rdF f (N - k) k (12, m, r, su, setf kk m ki, setf b m (10 * d1), sh, v) = rdF f (N - k') k' (10, m + 1, r, su, setf kk m ki, setf (setf b m (10 * d1)) m (10 * d1 + d2), setf sh m d3, setf v m d4) ∧ F_X7_readsMan_64 fu M (nI t) (nI ki) (nI d1) (nI t) (nI (if d1 = 0 then 1 else 0)) = some (1, M') ∧ M'.1 86 29 = nI k' ∧ M'.1 86 22 = nI (m + 1) ∧ M'.1 101 m = nI ki ∧ M'.1 102 m = nI (10 * d1 + d2) ∧ M'.1 103 m = nI d3 ∧ M'.1 104 m = nI d4 ∧ Out (fun x j => (x = 86 ∧ (j = 22 ∨ j = 29)) ∨ (101 ≤ x ∧ x ≤ 104 ∧ j = m)) M M') := by
  have hlo : (if d1 = 0 then 1 else 0) ≤ 1 := by split <;> omega
  have hbm : setf b m (10 * d1) m = 10 * d1 := setf_s
  unfold F_X7_readsMan_64
  rw [show (9 : Int32) = nI 9 from rfl, show (1 : Int32) = nI 1 from rfl, show (0 : Int32) = nI 0 from rfl, show (10 : Int32) = nI 10 from rfl]
  rcases figure_X (fu := fu) (lo := if d1 = 0 then 1 else 0) (hi := 9) ht hN h hp hk hlo (by omega) with ⟨d2, g1, g2, g3, g4, g5⟩ | ⟨g1, g2⟩
  · rw [g5, ob2_s, if_neg (neg9 (by omega))]
    have oA : Out (fun x j => x = 86 ∧ j = 29) M (pI M 86 29 (nI (k + 1))) := (Out.rf).pI (by omega)
    have hA := h.out (oA.wk fun x j q => by unfold pQ; omega)
    have e1 := rd_fig (f := f) (N := N) (k := k) (q := (12, m, r, su, setf kk m ki, setf b m (10 * d1), sh, v)) (by show 12 ≠ 0; omega) (by show 12 ≠ 10; omega) g3 g2 g4 (by rw [figT_12, hbm, if_pos (by split at g1 <;> omega)])
    rcases figure_X (fu := fu) (lo := 0) (hi := 9) ht hN hA pI_s (show k + 1 ≤ N by omega) (by omega) (by omega) with ⟨d3, p1, p2, p3, p4, p5⟩ | ⟨p1, p2⟩
    · rw [p5, ob2_s, if_neg (neg9 (by omega))]
      have oB : Out (fun x j => x = 86 ∧ j = 29) M (pI (pI M 86 29 (nI (k + 1))) 86 29 (nI (k + 1 + 1))) := oA.pI (by omega)
      have hB := h.out (oB.wk fun x j q => by unfold pQ; omega)
      have e2 := rd_fig (f := f) (N := N) (k := k + 1) (q := (13, m, r, su, setf kk m ki, setf (setf b m (10 * d1)) m (10 * d1 + d2), sh, v)) (by show 13 ≠ 0; omega) (by show 13 ≠ 10; omega) p3 p2 p4 figT_13
      rcases figure_X (fu := fu) (lo := 0) (hi := 1) ht hN hB pI_s (show k + 1 + 1 ≤ N by omega) (by omega) (by omega) with ⟨d4, q1, q2, q3, q4, q5⟩ | ⟨q1, q2⟩
      · have e3 := rd_fig (f := f) (N := N) (k := k + 1 + 1) (q := (14, m, r, su, setf kk m ki, setf (setf b m (10 * d1)) m (10 * d1 + d2), setf sh m d3, v)) (by show 14 ≠ 0; omega) (by show 14 ≠ 10; omega) q3 (by omega) q4 (by rw [figT_14, if_pos q2])
        have oC : Out (fun x j => x = 86 ∧ j = 29) M (pI (pI (pI M 86 29 (nI (k + 1))) 86 29 (nI (k + 1 + 1))) 86 29 (nI (k + 1 + 1 + 1))) := oB.pI (by omega)
        rw [q5, ob2_s, if_neg (neg9 (by omega)), (oC 86 22 (by omega)).1, h22, xs101 (by omega), lt1_s, pI_n (x := 101) (y := 86) (by omega), (oC 86 22 (by omega)).1, h22, xs102 (by omega), lt1_s, pI_n (x := 102) (y := 86) (by omega), pI_n (x := 101) (y := 86) (by omega), (oC 86 22 (by omega)).1, h22, xs103 (by omega), lt1_s, pI_n (x := 103) (y := 86) (by omega), pI_n (x := 102) (y := 86) (by omega), pI_n (x := 101) (y := 86) (by omega), (oC 86 22 (by omega)).1, h22, xs104 (by omega), lt1_s, pI_n (x := 104) (y := 86) (by omega), pI_n (x := 103) (y := 86) (by omega), pI_n (x := 102) (y := 86) (by omega), pI_n (x := 101) (y := 86) (by omega), (oC 86 22 (by omega)).1, h22, lt1_s, clN (by omega), pk_mul, nI_add, nI_add]
        refine Or.inr ⟨k + 1 + 1 + 1, d2, d3, d4, _, by omega, by omega, (e1.trans e2).trans e3, rfl, ?_, pI_s, ?_, ?_, ?_, ?_, ?_⟩
        · rw [pI_n (by omega), pI_n (by omega), pI_n (by omega), pI_n (by omega), pI_n (by omega), pI_s]
        · rw [pI_n (by omega), pI_n (by omega), pI_n (by omega), pI_n (by omega), pI_s]
        · rw [pI_n (by omega), pI_n (by omega), pI_n (by omega), pI_s]
        · rw [pI_n (by omega), pI_n (by omega), pI_s]
        · rw [pI_n (by omega), pI_s]
        · exact (((((oC.wk fun x j q => by omega).pI (by omega)).pI (by omega)).pI (by omega)).pI (by omega)).pI (by omega)
      · rw [q2, ob2_s, if_pos (show (-9 : Int32) = -nI 9 from rfl)]
        refine Or.inl ⟨k + 1 + 1, _, (e1.trans e2).trans (rd_nofig (by show 14 ≠ 0; omega) (by show 14 ≠ 10; omega) (by omega) (fun d hd hkN e => ?_)), rfl, pI_s, oB.wk fun x j q => by unfold pQ; omega⟩
        rw [figT_14, if_neg]
        intro hd1'
        exact q1 d (by omega) hd1' hkN e
    · rw [p2, ob2_s, if_pos (show (-9 : Int32) = -nI 9 from rfl)]
      exact Or.inl ⟨k + 1, _, e1.trans (rd_nofig (by show 13 ≠ 0; omega) (by show 13 ≠ 10; omega) (by omega) (fun d hd hkN e => absurd e (p1 d (by omega) hd hkN))), rfl, pI_s, oA.wk fun x j q => by unfold pQ; omega⟩
  · rw [g2, ob2_s, if_pos (show (-9 : Int32) = -nI 9 from rfl)]
    refine Or.inl ⟨k, M, rd_nofig (by show 12 ≠ 0; omega) (by show 12 ≠ 10; omega) hk (fun d hd hkN e => ?_), rfl, hp, Out.rf⟩
    rw [figT_12, hbm, if_neg]
    intro hp2
    refine g1 d ?_ hd hkN e
    split <;> omega
theorem man_X1 {fu : Nat} {t N k : Nat} {f : Nat → Int32} (ht : t < 4) (hN : N ≤ 60) {M : Mm} {q : RS} (ho : rM q ≤ 6) (hk : k ≤ N) (h : TX t N f M) (hx : XS q k M) (h32 : k < N → f k ≠ 32) (hor : k < N ∨ rM q = 0) : (∃ k' M', rdF f (N - k) k q = .inl k' ∧ F_X7_readsMan fu M (nI t) = some (0, M') ∧ M'.1 86 29 = nI k' ∧ Out pQ M M') ∨ (∃ k' q' M', k' ≤ N ∧ k < k' ∧ rdF f (N - k) k q = rdF f (N - k') k' q' ∧ F_X7_readsMan fu M (nI t) = some (1, M') ∧ XS q' k' M' ∧ rM q' ≤ 6 ∧ Out pQ M M') := by
  obtain ⟨s, m, r, su, kk, b, sh, v⟩ := q
  obtain ⟨x0, x1, x2, x3, x4, x5⟩ := hx
  simp only [rS, rM, rR, rSu, rK, rB, rSh, rV] at x0 x2 x3 x4 x5 ho hor
  subst x0
  unfold F_X7_readsMan
  rw [charAt_X ht hN h x1 hk, ob1_s, kindOf_X, ob1_s, x2]
  by_cases hkN : k < N
  · rw [show chr f N k = f k from if_pos hkN]
    have etk : takeF (10, m, r, su, kk, b, sh, v) (f k) = letT (10, m, r, su, kk, b, sh, v) (f k) := by
      unfold takeF
      rw [if_neg (by show ¬ 10 = 0; omega), if_pos (by rfl), if_neg (h32 hkN)]
    by_cases hm6 : m = 6
    · rw [if_pos (show nI m = (6 : Int32) by rw [hm6]; rfl)]
      refine Or.inl ⟨k, M, rd_stop hkN ?_, rfl, x1, Out.rf⟩
      rw [etk]
      unfold letT
      cases kindN (f k) with
      | none => rfl
      | some ki => exact if_neg (by show ¬ m < 6; omega)
    · rw [if_neg (show ¬ nI m = (6 : Int32) by rw [L6, eqN (by omega) (by omega)]; exact hm6)]
      cases hki : kindN (f k) with
      | none =>
        refine Or.inl ⟨k, M, rd_stop hkN ?_, rfl, x1, Out.rf⟩
        rw [etk]
        unfold letT
        rw [hki]
      | some ki =>
        have hk5 := kindN_le hki
        have e0 : rdF f (N - k) k (10, m, r, su, kk, b, sh, v) = rdF f (N - (k + 1)) (k + 1) (11, m, r, su, setf kk m ki, b, sh, v) := by
          refine rd_step hkN ?_
          rw [etk]
          unfold letT
          rw [hki]
          exact if_pos (by show m < 6; omega)
        show (∃ k' M', _ ∧ (if nI ki = (-9 : Int32) then _ else _) = _ ∧ _) ∨ (∃ k' q' M', _ ∧ _ ∧ _ ∧ (if nI ki = (-9 : Int32) then _ else _) = _ ∧ _)
        rw [if_neg (neg9' (by omega)), lt1_s, x1, nI_1, show (9 : Int32) = nI 9 from rfl, show (0 : Int32) = nI 0 from rfl]
        have oA : Out (fun x j => x = 86 ∧ j = 29) M (pI M 86 29 (nI (k + 1))) := (Out.rf).pI (by omega)
        have hA := h.out (oA.wk fun x j q => by unfold pQ; omega)
        rcases figure_X (fu := fu) (lo := 0) (hi := 9) ht hN hA pI_s (show k + 1 ≤ N by omega) (by omega) (by omega) with ⟨d1, g1, g2, g3, g4, g5⟩ | ⟨g1, g2⟩
        · have oB : Out (fun x j => x = 86 ∧ j = 29) M (pI (pI M 86 29 (nI (k + 1))) 86 29 (nI (k + 1 + 1))) := oA.pI (by omega)
          have hB := h.out (oB.wk fun x j q => by unfold pQ; omega)
          have e1 := rd_fig (f := f) (N := N) (k := k + 1) (q := (11, m, r, su, setf kk m ki, b, sh, v)) (by show 11 ≠ 0; omega) (by show 11 ≠ 10; omega) g3 g2 g4 figT_11
          have e64 : (if nI d1 = nI 0 then F_X7_readsMan_64 fu (pI (pI M 86 29 (nI (k + 1))) 86 29 (nI (k + 1 + 1))) (nI t) (nI ki) (nI d1) (nI t) (1 : Int32) else F_X7_readsMan_64 fu (pI (pI M 86 29 (nI (k + 1))) 86 29 (nI (k + 1 + 1))) (nI t) (nI ki) (nI d1) (nI t) (nI 0)) = F_X7_readsMan_64 fu (pI (pI M 86 29 (nI (k + 1))) 86 29 (nI (k + 1 + 1))) (nI t) (nI ki) (nI d1) (nI t) (nI (if d1 = 0 then 1 else 0)) := by
            by_cases hd0 : d1 = 0
            · rw [if_pos (by rw [hd0]), if_pos hd0]
              rfl
            · rw [if_neg (by rw [eqN (by omega) (by omega)]; exact hd0), if_neg hd0]
          rw [g5, ob2_s, if_neg (neg9 (by omega)), e64]
          rcases man_X64 (fu := fu) (f := f) (m := m) (r := r) (ki := ki) (d1 := d1) (su := su) (kk := kk) (b := b) (sh := sh) (v := v) ht hN (by omega) hk5 (by omega) (show k + 1 + 1 ≤ N by omega) hB pI_s (by rw [pI_n (by omega), pI_n (by omega)]; exact x2) with ⟨k', M', a1, a2, a3, a4⟩ | ⟨k', d2, d3, d4, M', b1, b2, b3, b4, b5, b6, b7, b8, b9, b10, b11⟩
          · exact Or.inl ⟨k', M', (e0.trans e1).trans a1, a2, a3, (oB.wk fun x j q => by unfold pQ; omega).trans a4⟩
          · have oT : Out (fun x j => (x = 86 ∧ (j = 22 ∨ j = 29)) ∨ (101 ≤ x ∧ x ≤ 104 ∧ j = m)) M M' := (oB.wk fun x j q => by omega).trans b11
            refine Or.inr ⟨k', _, M', b1, by omega, (e0.trans e1).trans b3, b4, ⟨rfl, b5, b6, ?_, fun j hj => ?_, fun i hi => ?_⟩, by show m + 1 ≤ 6; omega, oT.wk fun x j q => by unfold pQ; omega⟩
            · rw [(oT _ _ (by omega)).1]; exact x3
            · rw [(oT _ _ (by omega)).1]; exact x4 j hj
            · have hi : i < m + 1 := hi
              show M'.1 101 i = nI (setf kk m ki i) ∧ M'.1 102 i = nI (setf (setf b m (10 * d1)) m (10 * d1 + d2) i) ∧ M'.1 103 i = nI (setf sh m d3 i) ∧ M'.1 104 i = nI (setf v m d4 i)
              by_cases him : i = m
              · subst him
                rw [setf_s, setf_s, setf_s, setf_s]
                exact ⟨b7, b8, b9, b10⟩
              · rw [setf_n him, setf_n him, setf_n him, setf_n him, setf_n him, (oT 101 i (by omega)).1, (oT 102 i (by omega)).1, (oT 103 i (by omega)).1, (oT 104 i (by omega)).1]
                exact x5 i (by omega)
        · rw [g2, ob2_s, if_pos (show (-9 : Int32) = -nI 9 from rfl)]
          exact Or.inl ⟨k + 1, _, e0.trans (rd_nofig (by show 11 ≠ 0; omega) (by show 11 ≠ 10; omega) (by omega) (fun d hd hkN e => absurd e (g1 d (by omega) hd hkN))), rfl, pI_s, oA.wk fun x j q => by unfold pQ; omega⟩
  · have hkN2 : k = N := by omega
    subst hkN2
    have hm0 : m = 0 := by omega
    subst hm0
    rw [show chr f k k = -9 from if_neg hkN, if_neg (show ¬ nI 0 = (6 : Int32) by decide), show kindN (-9) = none by decide]
    exact Or.inl ⟨k, M, rd_end (by show ¬ (10 = 10 ∧ 0 < 0); omega), rfl, x1, Out.rf⟩
theorem reads_X33 {fu : Nat} (hf : 1000 ≤ fu) {t N : Nat} {f : Nat → Int32} (ht : t < 4) (hN : N ≤ 60) : ∀ (m n : Nat) (M : Mm) (k : Nat) (q : RS), N - k ≤ m → m < n → k ≤ N → rM q ≤ 6 → TX t N f M → XS q k M → (k < N → f k ≠ 32) → ∃ M', F_X7_reads_33 fu n M (nI t) = some (rdI (rdF f (N - k) k q), M') ∧ Out pQ M M' ∧ ∀ q', rdF f (N - k) k q = .inr q' → ∃ k', XS q' k' M' := by
  intro m
  induction m with
  | zero =>
    intro n M k q hm hn hk ho h hx h32
    obtain ⟨n, rfl⟩ : ∃ q, n = q + 1 := ⟨n - 1, by omega⟩
    have hkN : k = N := by omega
    subst hkN
    unfold F_X7_reads_33
    rw [xr90 ht, clN (by omega), h.1, hx.2.1, if_neg (nI_nlt (by omega) (by omega)), hx.2.2.1]
    by_cases h0 : rM q = 0
    · rw [if_pos (show nI (rM q) = 0 by rw [h0]; rfl)]
      unfold F_X7_reads_53
      rcases man_X1 (fu := fu) ht hN ho hk h hx h32 (Or.inr h0) with ⟨k', M', a1, a2, a3, a4⟩ | ⟨k', q', M', a0, a1, _⟩
      · rw [a1, a2, ob2_s, if_pos rfl, a3]
        exact ⟨M', rfl, a4, fun q' e => by cases e⟩
      · omega
    · rw [if_neg (by rw [L0, eqN (by omega) (by omega)]; exact h0)]
      have e : rdF f (k - k) k q = .inr q := by rw [Nat.sub_self, rdF, if_pos ⟨hx.1, by omega⟩]
      rw [e]
      exact ⟨M, rfl, Out.rf, fun q' e => by injection e with e; subst e; exact ⟨k, hx⟩⟩
  | succ m ih =>
    intro n M k q hm hn hk ho h hx h32
    obtain ⟨n, rfl⟩ : ∃ q, n = q + 1 := ⟨n - 1, by omega⟩
    have e53 : F_X7_reads_53 fu (F_X7_reads_33 fu n) M (nI t) = ob2 (F_X7_readsMan fu M (nI t)) (fun r2 M3 => if r2 = 0 then some ((M3.1 86 29), M3) else ob1 (F_X7_skip fu M3 (nI t)) (fun M6 => F_X7_reads_33 fu n M6 (nI t))) := rfl
    unfold F_X7_reads_33
    rw [xr90 ht, clN (by omega), h.1, hx.2.1, hx.2.2.1, e53]
    by_cases hor : k < N ∨ rM q = 0
    · have ei : (if nI k < nI N then ob2 (F_X7_readsMan fu M (nI t)) (fun r2 M3 => if r2 = 0 then some ((M3.1 86 29), M3) else ob1 (F_X7_skip fu M3 (nI t)) (fun M6 => F_X7_reads_33 fu n M6 (nI t))) else if nI (rM q) = 0 then ob2 (F_X7_readsMan fu M (nI t)) (fun r2 M3 => if r2 = 0 then some ((M3.1 86 29), M3) else ob1 (F_X7_skip fu M3 (nI t)) (fun M6 => F_X7_reads_33 fu n M6 (nI t))) else some (-9, M)) = ob2 (F_X7_readsMan fu M (nI t)) (fun r2 M3 => if r2 = 0 then some ((M3.1 86 29), M3) else ob1 (F_X7_skip fu M3 (nI t)) (fun M6 => F_X7_reads_33 fu n M6 (nI t))) := by
        rcases hor with h1 | h1
        · rw [if_pos (nI_lt h1 (by omega))]
        · rw [if_pos (c := nI (rM q) = 0) (by rw [h1]; rfl), ite_self]
      rw [ei]
      rcases man_X1 (fu := fu) ht hN ho hk h hx h32 hor with ⟨k', M', a1, a2, a3, a4⟩ | ⟨k', q', M', a0, a1, a2, a3, a4, a5, a6⟩
      · rw [a1, a2, ob2_s, if_pos rfl, a3]
        exact ⟨M', rfl, a4, fun q' e => by cases e⟩
      · obtain ⟨k2, M2, b1, b2, b3, b4, b5, b6, b7⟩ := skip_X hf ht hN a0 (h.out a6) a4.2.1
        have oS : Out pQ M' M2 := b5.wk fun x j q => by unfold pQ; omega
        have x2 : XS q' k2 M2 := by
          obtain ⟨y0, y1, y2, y3, y4, y5⟩ := a4
          exact ⟨y0, b4, by rw [(b5 _ _ (by omega)).1]; exact y2, by rw [(b5 _ _ (by omega)).1]; exact y3, fun j hj => by rw [(b5 _ _ (by omega)).1]; exact y4 j hj, fun i hi => by rw [(b5 _ _ (by omega)).1, (b5 _ _ (by omega)).1, (b5 _ _ (by omega)).1, (b5 _ _ (by omega)).1]; exact y5 i hi⟩
        obtain ⟨M3, c1, c2, c3⟩ := ih n M2 k2 q' (by omega) (by omega) b2 a5 ((h.out a6).out oS) x2 b6
        rw [a3, ob2_s, if_neg one_ne, b3, ob1_s, a2, b7 q' (Or.inr a4.1)]
        exact ⟨M3, c1, (a6.trans oS).trans c2, c3⟩
    · have hkN : k = N := by omega
      subst hkN
      rw [if_neg (nI_nlt (by omega) (by omega)), if_neg (by rw [L0, eqN (by omega) (by omega)]; omega)]
      have e : rdF f (k - k) k q = .inr q := by rw [Nat.sub_self, rdF, if_pos ⟨hx.1, by omega⟩]
      rw [e]
      exact ⟨M, rfl, Out.rf, fun q' e => by injection e with e; subst e; exact ⟨k, hx⟩⟩
theorem reads_X {fu : Nat} (hf : 1000 ≤ fu) {M : Mm} {t N : Nat} {f : Nat → Int32} (ht : t < 4) (hN : N ≤ 60) (h : TX t N f M) : ∃ M', F_X7_reads fu M (nI t) = some (rdI (rdF f N 0 q0), M') ∧ Out pQ M M' ∧ ∀ q', rdF f N 0 q0 = .inr q' → ∃ k', XS q' k' M' := by
  have o1 : Out (fun x j => x = 86 ∧ (j = 22 ∨ j = 29)) M (pI (pI M 86 29 0) 86 22 0) := ((Out.rf).pI (by omega)).pI (by omega)
  have h1 := h.out (o1.wk fun x j q => by unfold pQ; omega)
  obtain ⟨k1, M1, b1, b2, b3, b4, b5, b6, b7⟩ := skip_X hf ht hN (k := 0) (by omega) h1 (by rw [pI_n (by omega), pI_s]; rfl)
  have o2 : Out (fun x j => x = 86 ∧ (j = 22 ∨ j = 29)) M M1 := o1.trans (b5.wk fun x j q => by omega)
  have h2 := h.out (o2.wk fun x j q => by unfold pQ; omega)
  have e0 : rdF f N 0 q0 = rdF f (N - k1) k1 q0 := b7 q0 (Or.inl rfl)
  have m22 : M1.1 86 22 = nI 0 := by rw [(b5 _ _ (by omega)).1, pI_s]; rfl
  unfold F_X7_reads F_X7_readsSun
  rw [lt1_s, lt1_s, b3, ob1_s, charAt_X ht hN h2 b4 b2, ob1_s, e0]
  by_cases hz : chr f N k1 = 122
  · have hk1 : k1 < N := by
      refine Nat.lt_of_not_le fun hle => ?_
      rw [show chr f N k1 = -9 from if_neg (by omega)] at hz
      exact absurd hz (by decide)
    have hfk : f k1 = 122 := by rw [← hz]; exact (if_pos hk1).symm
    have e1 : rdF f (N - k1) k1 q0 = rdF f (N - (k1 + 1)) (k1 + 1) (1, 0, 0, fun _ => 0, fun _ => 0, fun _ => 0, fun _ => 0, fun _ => 0) := by
      refine rd_step hk1 ?_
      unfold takeF
      rw [if_pos (show rS q0 = 0 from rfl), if_neg (b6 hk1), if_pos hfk]
      rfl
    rw [if_pos hz, lt1_s, b4, nI_1]
    have o3 : Out (fun x j => x = 86 ∧ (j = 22 ∨ j = 29)) M (pI M1 86 29 (nI (k1 + 1))) := o2.pI (by omega)
    have h3 := h.out (o3.wk fun x j q => by unfold pQ; omega)
    rcases sun_X24 (fu := fu) (f := f) ht hN (m0 := 0) (kk := fun _ => 0) (b := fun _ => 0) (sh := fun _ => 0) (v := fun _ => 0) 8 fu (pI M1 86 29 (nI (k1 + 1))) 0 (k1 + 1) 0 (fun _ => 0) (by omega) (by omega) (by omega) h3 pI_s (fun i hi => by omega) with ⟨k', M', a1, a2, a3, a4⟩ | ⟨k', r', su', M', a0, a1, a2, a3, a4, a5, a6⟩
    · have a2' : F_X7_readsSun_24 fu fu (pI M1 86 29 (nI (k1 + 1))) (nI t) 0 = some (0, M') := a2
      rw [a2', ob2_s, if_pos rfl, a3, e1, a1]
      exact ⟨M', rfl, (o3.wk fun x j q => by unfold pQ; omega).trans a4, fun q' e => by cases e⟩
    · have a2' : F_X7_readsSun_24 fu fu (pI M1 86 29 (nI (k1 + 1))) (nI t) 0 = some (1, M') := a2
      have oM : Out pQ M M' := (o3.wk fun x j q => by unfold pQ; omega).trans (a6.wk fun x j q => by unfold pQ; omega)
      obtain ⟨k2, M2, d1, d2, d3, d4, d5, d6, d7⟩ := skip_X hf ht hN a0 (h.out oM) a3
      have xs : XS (10, 0, r', su', fun _ => 0, fun _ => 0, fun _ => 0, fun _ => 0) k2 M2 := by
        refine ⟨rfl, d4, ?_, ?_, fun j hj => ?_, fun i hi => absurd hi (Nat.not_lt_zero i)⟩
        · rw [(d5 _ _ (by omega)).1, (a6 _ _ (by omega)).1, pI_n (by omega)]
          exact m22
        · rw [(d5 _ _ (by omega)).1]; exact a4
        · rw [(d5 _ _ (by omega)).1]; exact a5 j hj
      have oS : Out pQ M' M2 := d5.wk fun x j q => by unfold pQ; omega
      obtain ⟨M3, c1, c2, c3⟩ := reads_X33 hf (f := f) ht hN (N - k2) fu M2 k2 (10, 0, r', su', fun _ => 0, fun _ => 0, fun _ => 0, fun _ => 0) (Nat.le_refl _) (by omega) d2 (Nat.zero_le _) ((h.out oM).out oS) xs d6
      rw [a2', ob2_s, if_neg one_ne, d3, ob1_s, e1, a1, d7 _ (Or.inr rfl)]
      exact ⟨M3, c1, (oM.trans oS).trans c2, c3⟩
  · rw [if_neg hz, ob2_s, if_pos rfl, b4]
    have e1 : rdF f (N - k1) k1 q0 = .inl k1 := by
      by_cases hk1 : k1 < N
      · refine rd_stop hk1 ?_
        unfold takeF
        rw [show chr f N k1 = f k1 from if_pos hk1] at hz
        rw [if_pos (show rS q0 = 0 from rfl), if_neg (b6 hk1), if_neg hz]
      · have : k1 = N := by omega
        subst this
        exact rd_end (by show ¬ (0 = 10 ∧ 0 < 0); omega)
    rw [e1]
    exact ⟨M1, rfl, o2.wk fun x j q => by unfold pQ; omega, fun q' e => by cases e⟩
