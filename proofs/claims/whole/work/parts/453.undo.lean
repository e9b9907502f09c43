/-! undone, lots, man, mark -/
theorem undo_C11 {fu : Nat} (hf : 1000 ≤ fu) {s : Ns} (hs : okN s) {N : Nat} (hN : N ≤ s.2.2.1) (h0 : 0 < vMen s.1) : ∀ (m n : Nat) (M : Mm) (k : Nat), k + m = N → m < n → CV (wr s.2.2.2 (rp s.1 s.2.1 k)) M → (∀ j, j < s.2.2.1 → M.1 32 j = nI (s.2.1 j).1 ∧ M.1 33 j = nI (s.2.1 j).2.1 ∧ M.1 34 j = nI (s.2.1 j).2.2) → ∃ M', F_X2_undoFrom_11 fu n M 24 (nI N) (nI k) = some M' ∧ CV (wr s.2.2.2 (rp s.1 s.2.1 N)) M' ∧ Out (fun x j => (x = 24 ∧ j = 2) ∨ x = 28 ∨ x = 29) M M' := by
  intro m
  have hD := hs.2.2.1
  induction m with
  | zero =>
    intro n M k hk hn hc hd
    obtain ⟨n, rfl⟩ : ∃ q, n = q + 1 := ⟨n - 1, by omega⟩
    refine ⟨M, ?_, by rw [show N = k by omega]; exact hc, Out.rf⟩
    unfold F_X2_undoFrom_11
    rw [if_pos (nI_le (by omega) (by omega))]
  | succ m ih =>
    intro n M k hk hn hc hd
    obtain ⟨n, rfl⟩ : ∃ q, n = q + 1 := ⟨n - 1, by omega⟩
    have hq : dOK (vMen (wr s.2.2.2 (rp s.1 s.2.1 k))) (s.2.1 k) := by
      rw [((wr_sb _ _).trans (rp_sb s.1 s.2.1 k)).1]
      exact hs.2.2.2.1 k (by omega)
    obtain ⟨M1, a1, a2, a3⟩ := perform_C hf (hs.k (k := k) (by omega)) hc hq
    rw [← perf_wr] at a2
    obtain ⟨M', b1, b2, b3⟩ := ih n M1 (k + 1) (by omega) (by omega) a2 (fun j hj => by
      rw [(a3 _ _ (by omega)).1, (a3 _ _ (by omega)).1, (a3 _ _ (by omega)).1]
      exact hd j hj)
    have hdk := hd k (by omega)
    refine ⟨M', ?_, b2, a3.trans b3⟩
    unfold F_X2_undoFrom_11
    rw [if_neg (nI_ge (by omega) (by omega)), show 24 + 8 = 32 from rfl, show 24 + 9 = 33 from rfl, show 24 + 10 = 34 from rfl, rd32 (by omega), rd33 (by omega), rd34 (by omega), ob1_s, ob1_s, ob1_s, hdk.1, hdk.2.1, hdk.2.2, a1, ob1_s, nI_1]
    exact b1
theorem undoFrom_C {fu : Nat} (hf : 1000 ≤ fu) {M : Mm} {s : Ns} (hs : okN s) (hc : CN 24 s M) {N : Nat} (hN : N ≤ s.2.2.1) (h0 : 0 < vMen s.1) : ∃ M', F_X2_undoFrom fu M 24 (nI N) = some M' ∧ CN 24 (s.1, s.2.1, N, s.2.2.2) M' ∧ Out (fun x j => (x = 24 ∧ (j = 2 ∨ j = 3)) ∨ x = 28 ∨ x = 29) M M' := by
  have hm := hs.1.1
  obtain ⟨M1, a1, a2, a3⟩ := writeAll_C (a := 28) (b := 30) (N := 6) hf (by decide) (by decide) (by decide) (by decide) (pI (pI M 24 3 (nI N)) 24 2 0)
  obtain ⟨M2, b1, b2, b3⟩ := writeAll_C (a := 29) (b := 31) (N := 6) hf (by decide) (by decide) (by decide) (by decide) M1
  have o0 : Out (fun x j => x = 24 ∧ (j = 2 ∨ j = 3)) M (pI (pI M 24 3 (nI N)) 24 2 0) := ((Out.rf).pI (by omega)).pI (by omega)
  have o2 : Out (fun x j => (x = 24 ∧ (j = 2 ∨ j = 3)) ∨ x = 28 ∨ x = 29) M M2 := ((o0.wk fun x j q => by omega).trans (a3.wk fun x j q => by omega)).trans (b3.wk fun x j q => by omega)
  obtain ⟨h1, h2, h3, h4, h5, h6, h7⟩ := hc
  have cv2 : CV (wr s.2.2.2 (rp s.1 s.2.1 0)) M2 := by
    refine ⟨?_, ?_, ?_, fun j hj => ?_, fun i hi => ?_⟩
    · rw [(o2 _ _ (by omega)).1]; exact h1
    · rw [(o2 _ _ (by omega)).1]; exact h2
    · rw [(b3 _ _ (by omega)).1, (a3 _ _ (by omega)).1, pI_s]
      show _ = nI (vDay s.1)
      rw [hs.2.1]
      rfl
    · rw [(o2 _ _ (by omega)).1]; exact h5 j hj
    · have hi : i < vMen s.1 := hi
      have e := h6 i hi
      refine ⟨?_, ?_, ?_, ?_⟩
      · rw [(o2 _ _ (by omega)).1]; exact e.1
      · rw [(o2 _ _ (by omega)).1]; exact e.2.1
      · rw [(b3 _ _ (by omega)).1, a2 i (by omega), (o0 _ _ (by omega)).1]; exact e.2.2.2.2.1
      · rw [b2 i (by omega), (a3 _ _ (by omega)).1, (o0 _ _ (by omega)).1]; exact e.2.2.2.2.2
  obtain ⟨M3, c1, c2, c3⟩ := undo_C11 hf hs hN h0 N fu M2 0 (by omega) (by have := hs.2.2.1; omega) cv2 (fun j hj => by
    rw [(o2 _ _ (by omega)).1, (o2 _ _ (by omega)).1, (o2 _ _ (by omega)).1]
    exact h7 j hj)
  refine ⟨M3, ?_, CN.mk2 c2 ?_ (fun i hi => ?_) (fun k hk => ?_), o2.trans (c3.wk fun x j q => by omega)⟩
  · unfold F_X2_undoFrom F_X2_restart
    rw [lt1_s, lt1_s, show 24 + 4 = 28 from rfl, show 24 + 6 = 30 from rfl, show 24 + 5 = 29 from rfl, show 24 + 7 = 31 from rfl, a1, ob1_s, b1, ob1_s, ob1_s]
    exact c1
  · rw [(c3 _ _ (by omega)).1, (b3 _ _ (by omega)).1, (a3 _ _ (by omega)).1, pI_n (by omega), pI_s]
  · have hi : i < vMen s.1 := hi
    rw [(c3 _ _ (by omega)).1, (c3 _ _ (by omega)).1, (o2 _ _ (by omega)).1, (o2 _ _ (by omega)).1]
    exact ⟨(h6 i hi).2.2.2.2.1, (h6 i hi).2.2.2.2.2⟩
  · have hk : k < N := hk
    rw [(c3 _ _ (by omega)).1, (c3 _ _ (by omega)).1, (c3 _ _ (by omega)).1, (o2 _ _ (by omega)).1, (o2 _ _ (by omega)).1, (o2 _ _ (by omega)).1]
    exact h7 k (by omega)
theorem undo_X35 {fu : Nat} {N : Nat} (hN : N < 60) {x : Int32} : ∀ (m n : Nat) (M : Mm) (i : Nat), i + m = 6 → m < n → (∀ j, j < i → M.1 94 j = M.1 96 (13 * N + j) ∧ M.1 95 j = M.1 96 (13 * N + 6 + j)) → ∃ M', F_X7_undo_35 fu n M (nI N) x (nI (13 * N)) (nI i) = some (x, M') ∧ (∀ j, j < 6 → M'.1 94 j = M.1 96 (13 * N + j) ∧ M'.1 95 j = M.1 96 (13 * N + 6 + j)) ∧ M'.1 86 11 = M.1 96 (13 * N + 12) ∧ M'.1 86 12 = nI N ∧ Out (fun x j => (x = 86 ∧ (j = 11 ∨ j = 12)) ∨ x = 94 ∨ x = 95) M M' := by
  intro m
  induction m with
  | zero =>
    intro n M i hi hn h
    obtain ⟨n, rfl⟩ : ∃ q, n = q + 1 := ⟨n - 1, by omega⟩
    refine ⟨pI (pI M 86 11 (M.1 96 (13 * N + 12))) 86 12 (nI N), ?_, fun j hj => ?_, by rw [pI_n (by omega), pI_s], by rw [pI_s], ((Out.rf).pI (by omega)).pI (by omega)⟩
    · unfold F_X7_undo_35
      rw [L6, if_pos (nI_le (by omega) (by omega)), L12, nI_add, xr96 (by omega), clN (by omega), lt1_s]
      rfl
    · rw [pI_n (by omega), pI_n (by omega), pI_n (by omega), pI_n (by omega)]
      exact h j (by omega)
  | succ m ih =>
    intro n M i hi hn h
    obtain ⟨n, rfl⟩ : ∃ q, n = q + 1 := ⟨n - 1, by omega⟩
    obtain ⟨M', a1, a2, a3, a4, a5⟩ := ih n (pI (pI M 94 i (M.1 96 (13 * N + i))) 95 i (M.1 96 (13 * N + 6 + i))) (i + 1) (by omega) (by omega) (fun j hj => by
      rw [pI_n (y := 96) (by omega), pI_n (y := 96) (by omega), pI_n (y := 96) (by omega), pI_n (y := 96) (by omega)]
      by_cases hji : j = i
      · subst hji
        rw [pI_n (by omega), pI_s, pI_s]
        exact ⟨rfl, rfl⟩
      · rw [pI_n (by omega), pI_n (by omega), pI_n (by omega), pI_n (by omega)]
        exact h j (by omega))
    rw [pI_n (by omega), pI_n (by omega)] at a3
    refine ⟨M', ?_, fun j hj => ?_, a3, a4, (((Out.rf).pI (by omega)).pI (by omega)).trans a5⟩
    · unfold F_X7_undo_35
      rw [L6, if_neg (nI_ge (by omega) (by omega)), nI_add, nI_add, nI_add, xr96 (by omega), xr94 (by omega), lt1_s, xr96 (by omega), xr95 (by omega), clN (by omega), clN (by omega), clN (by omega), lt1_s, pI_n (y := 96) (by omega), nI_1]
      exact a1
    · have := a2 j hj
      rwa [pI_n (by omega), pI_n (by omega), pI_n (by omega), pI_n (by omega)] at this
theorem okN.cut {s : Ns} (h : okN s) {N : Nat} (hN : N ≤ s.2.2.1) : okN (s.1, s.2.1, N, s.2.2.2) := ⟨h.1, h.2.1, Nat.le_trans hN h.2.2.1, fun k hk => h.2.2.2.1 k (Nat.lt_of_lt_of_le hk hN), h.2.2.2.2.1, h.2.2.2.2.2⟩
theorem call_undo {fu : Nat} (hf : 1000 ≤ fu) {M : Mm} (h : Rel M) (x : Int32) : Two2 (F_X6_undo fu M x) (fun M1 => F_X7_undo fu M1 x) := by
  obtain ⟨s, hs, hc, hx, hk⟩ := h.2.2.2
  have hD := hs.2.2.1
  have hm := hs.1.1
  have bb := cur_sb s
  unfold F_X6_undo F_X7_undo
  rcases rng3 x (n := s.2.2.1 + 1) (by omega) with hi | ⟨N, hN, rfl⟩
  · refine Two2.same h (r := -1) ?_ (by rw [hx.2.1, in_no (n := s.2.2.1) hi (nI_l (by omega)) (by omega)]; rfl)
    rcases hi with hi | hi
    · rw [if_pos hi]
    · rw [hc.2.2.2.1, if_neg (gt_hi hi (by omega)), ite_self]
  · have e1 : F_X6_undo fu M (nI N) = ob1 (F_X2_undoFrom fu M 24 (nI N)) (fun M4 => some (nI (s.2.2.1 - N), M4)) := by
      unfold F_X6_undo
      rw [if_neg (nI_pos (by omega)), hc.2.2.2.1, if_pos (nI_le (by omega) (by omega)), pk_sub (by omega)]
    have e2 : ∀ M1 : Mm, M1.1 86 12 = nI s.2.2.1 → F_X7_undo fu M1 (nI N) = (if nI (s.2.2.1 - N) ≤ 0 then some (nI (s.2.2.1 - N), M1) else F_X7_undo_35 fu fu M1 (nI N) (nI (s.2.2.1 - N)) (nI (13 * N)) (0 : Int32)) := fun M1 h1 => by
      unfold F_X7_undo
      rw [h1, in_ok (k := 0) (n := s.2.2.1) (by omega) (by omega) I0 (nI_l (by omega)) (by omega), ob1_s, if_neg one_ne, pk_sub (by omega), L13, pk_mul]
    have e1' := e1
    unfold F_X6_undo at e1
    rw [e1]
    change Two2 _ (fun M1 => F_X7_undo fu M1 (nI N))
    by_cases h0 : 0 < vMen s.1
    · obtain ⟨M1, a1, a2, a3⟩ := undoFrom_C hf hs hc (N := N) (by omega) h0
      have lo : Lo M M1 := Lo.of a3 fun x j q => by omega
      have hx1 := hx.lo lo
      by_cases hND : N = s.2.2.1
      · have hcs : (s.1, s.2.1, N, s.2.2.2) = s := by rw [hND]
        rw [hcs] at a2
        exact ⟨nI (s.2.2.1 - N), M1, M1, by rw [a1, ob1_s], by dsimp only; rw [e2 M1 hx1.2.1, if_pos (le00 (by omega))], h.north a3 (fun x j q => Or.inl (by unfold sN; omega)) (rn_next (s := s) (s' := s) rfl hs a2 hx1 hk a3 fun x j q => by omega)⟩
      · obtain ⟨M2, b1, b2, b3, b4, b5⟩ := undo_X35 (fu := fu) (N := N) (by omega) (x := nI (s.2.2.1 - N)) 6 fu M1 0 (by omega) (by omega) (fun j hj => by omega)
        have hiX : Hi M1 M2 := Hi.of b5 fun x j q => by omega
        have o : Out (fun x j => ((x = 24 ∧ (j = 2 ∨ j = 3)) ∨ x = 28 ∨ x = 29) ∨ (x = 86 ∧ (j = 11 ∨ j = 12)) ∨ x = 94 ∨ x = 95) M M2 := (a3.wk fun x j q => Or.inl q).trans (b5.wk fun x j q => Or.inr q)
        have hxn : XN (s.1, s.2.1, N, s.2.2.2) M2 := by
          obtain ⟨⟨x1, x2, x3, x4, x5⟩, h2, h3⟩ := hx1
          have pN := h3 N (by omega)
          have sc : sb (cur (s.1, s.2.1, N, s.2.2.2)) (cur s) := (cur_sb (s.1, s.2.1, N, s.2.2.2)).trans bb.symm
          have tb := cur_sb (s.1, s.2.1, N, s.2.2.2)
          refine ⟨⟨?_, ?_, ?_, fun j hj => ?_, fun i hi => ?_⟩, b4, fun d hd => ⟨?_, fun i hi => ⟨?_, ?_⟩⟩⟩
          · rw [(b5 _ _ (by omega)).1, x1, sc.1]
          · rw [(b5 _ _ (by omega)).1, x2]
            rfl
          · rw [b3, ← Nat.zero_add (13 * N), pN.1]
            rfl
          · rw [(b5 _ _ (by omega)).1, x4 j hj, sc.2.1]
          · have hi' : i < vMen s.1 := by rw [← tb.1]; exact hi
            have e := x5 i (by rw [← sc.1]; exact hi)
            have e2 := pN.2 i hi'
            rw [Nat.zero_add] at e2
            refine ⟨?_, ?_, ?_, ?_⟩
            · rw [(b5 _ _ (by omega)).1, e.1, sc.2.2.1]
            · rw [(b5 _ _ (by omega)).1, e.2.1, sc.2.2.2]
            · rw [(b2 i (by omega)).1, e2.1]
              rfl
            · rw [(b2 i (by omega)).2, e2.2]
              rfl
          · have hd : d < N := hd
            rw [(b5 _ _ (by omega)).1]
            exact (h3 d (by omega)).1
          · have hd : d < N := hd
            rw [(b5 _ _ (by omega)).1]
            exact ((h3 d (by omega)).2 i hi).1
          · have hd : d < N := hd
            rw [(b5 _ _ (by omega)).1]
            exact ((h3 d (by omega)).2 i hi).2
        exact ⟨nI (s.2.2.1 - N), M1, M2, by rw [a1, ob1_s], by dsimp only; rw [e2 M1 hx1.2.1, if_neg (nI_nle (by omega) (by omega))]; exact b1, h.north o (fun x j q => Or.inl (by unfold sN; omega)) (rn_next (s := s) (s' := (s.1, s.2.1, N, s.2.2.2)) rfl (hs.cut (by omega)) (a2.hi (by omega) hiX) hxn hk o fun x j q => by omega)⟩
    · have hD0 : s.2.2.1 = 0 := by
        refine Nat.eq_zero_of_not_pos fun hp => ?_
        exact h0 (hs.2.2.2.1 0 hp).2.2.2
      have hN0 : N = 0 := by omega
      have hm0 : vMen s.1 = 0 := by omega
      subst hN0
      obtain ⟨M1, a1, a2, a3⟩ := writeAll_C (a := 28) (b := 30) (N := 6) hf (by decide) (by decide) (by decide) (by decide) (pI (pI M 24 3 (nI 0)) 24 2 0)
      obtain ⟨M2, b1, b2, b3⟩ := writeAll_C (a := 29) (b := 31) (N := 6) hf (by decide) (by decide) (by decide) (by decide) M1
      have o0 : Out (fun x j => x = 24 ∧ (j = 2 ∨ j = 3)) M (pI (pI M 24 3 (nI 0)) 24 2 0) := ((Out.rf).pI (by omega)).pI (by omega)
      have o2 : Out (fun x j => (x = 24 ∧ (j = 2 ∨ j = 3)) ∨ x = 28 ∨ x = 29) M M2 := ((o0.wk fun x j q => by omega).trans (a3.wk fun x j q => by omega)).trans (b3.wk fun x j q => by omega)
      have lo : Lo M M2 := Lo.of o2 fun x j q => by omega
      have hx1 := hx.lo lo
      have ed : vDay (cur s) = 0 := by
        show vDay (rp s.1 s.2.1 s.2.2.1) = 0
        rw [hD0]
        exact hs.2.1
      have a2' : CN 24 s M2 := by
        obtain ⟨h1, h2, h3, h4, h5, h6, h7⟩ := hc
        refine ⟨?_, ?_, ?_, ?_, fun j hj => ?_, fun i hi => absurd hi (by omega), fun k hk => absurd hk (by omega)⟩
        · rw [(o2 _ _ (by omega)).1]; exact h1
        · rw [(o2 _ _ (by omega)).1]; exact h2
        · rw [(b3 _ _ (by omega)).1, (a3 _ _ (by omega)).1, pI_s, ed]; rfl
        · rw [(b3 _ _ (by omega)).1, (a3 _ _ (by omega)).1, pI_n (by omega), pI_s, hD0]
        · rw [(o2 _ _ (by omega)).1]; exact h5 j hj
      refine ⟨nI (s.2.2.1 - 0), M2, M2, ?_, by dsimp only; rw [e2 M2 hx1.2.1, if_pos (le00 (by omega))], h.north o2 (fun x j q => Or.inl (by unfold sN; omega)) (rn_next (s := s) (s' := s) rfl hs a2' hx1 hk o2 fun x j q => by omega)⟩
      unfold F_X2_undoFrom F_X2_restart
      rw [lt1_s, lt1_s, show 24 + 4 = 28 from rfl, show 24 + 6 = 30 from rfl, show 24 + 5 = 29 from rfl, show 24 + 7 = 31 from rfl, a1, ob1_s, b1, ob1_s, ob1_s]
      obtain ⟨n, hn⟩ : ∃ q, fu = q + 1 := ⟨fu - 1, by omega⟩
      rw [show F_X2_undoFrom_11 fu fu M2 24 (nI 0) 0 = F_X2_undoFrom_11 fu (n + 1) M2 24 (nI 0) 0 by rw [← hn]]
      unfold F_X2_undoFrom_11
      rw [if_pos (by decide), ob1_s]
/-- a lot's number, and whether it clouds -/
def lotN (y : Int64) : Int64 := (y * (48271 : Int64)) - (y * (48271 : Int64)) / (2147483647 : Int64) * (2147483647 : Int64)
def lotB (p : Int32) (y : Int64) : Bool := decide (0 ≤ lg_cmp (lotN y - lotN y / (12 : Int64) * (12 : Int64)) p.toInt64)
theorem lotN_e (y : Int64) : (y * (48271 : Int64)) - (y * (48271 : Int64)) / (2147483647 : Int64) * (2147483647 : Int64) = lotN y := by unfold lotN; exact Eq.refl _
theorem lotB_t {p : Int32} {y : Int64} (h : 0 ≤ lg_cmp (lotN y - lotN y / (12 : Int64) * (12 : Int64)) p.toInt64) : lotB p y = true := by unfold lotB; exact decide_eq_true h
theorem lotB_f {p : Int32} {y : Int64} (h : ¬ 0 ≤ lg_cmp (lotN y - lotN y / (12 : Int64) * (12 : Int64)) p.toInt64) : lotB p y = false := by unfold lotB; exact decide_eq_false h
def itr (g : Int64 → Bool) (f : Int64 → Int64) : Nat → Ns → Int64 → Ns
  | 0, s, _ => s
  | m + 1, s, y => itr g f m (nxt s (if g y then 0 else 1, 0, 0)) (f y)
theorem itr_s (g : Int64 → Bool) (f : Int64 → Int64) (m : Nat) (s : Ns) (y : Int64) : itr g f (m + 1) s y = itr g f m (nxt s (if g y then 0 else 1, 0, 0)) (f y) := rfl
theorem itr_1 (g : Int64 → Bool) (f : Int64 → Int64) : ∀ m s y, (itr g f m s y).1 = s.1 := by
  intro m
  induction m with
  | zero => intro s y; rfl
  | succ m ih =>
    intro s y
    rw [itr_s, ih]
    rfl
theorem dkb {s : Ns} (h : 0 < vMen s.1) (b : Bool) : dOK (vMen s.1) (if b then 0 else 1, 0, 0) := by
  cases b
  · exact ⟨by show 1 ≤ 3; omega, by show 0 < 6; omega, by show 0 ≤ 9; omega, h⟩
  · exact ⟨by show 0 ≤ 3; omega, by show 0 < 6; omega, by show 0 ≤ 9; omega, h⟩
theorem lots_C72 {fu : Nat} (hf : 1000 ≤ fu) {p : Int32} {N : Nat} (hN : N ≤ 20) : ∀ (m n : Nat) (M : Mm) (k : Nat) (s : Ns) (y : Int64), k + m = N → m < n → okN s → 0 < vMen s.1 → s.2.2.1 + m ≤ 60 → CN 24 s M → okN (itr (lotB p) lotN m s y) ∧ ∃ M', F_X6_lots_72 fu n M (nI N) p y (nI k) = some (nI (pc (whoN (cur (itr (lotB p) lotN m s y)) 1 0)), M') ∧ CN 24 (itr (lotB p) lotN m s y) M' ∧ Out pN M M' := by
  intro m
  induction m with
  | zero =>
    intro n M k s y hk hn hs h0 hD hc
    obtain ⟨n, rfl⟩ : ∃ q, n = q + 1 := ⟨n - 1, by omega⟩
    refine ⟨hs, M, ?_, hc, Out.rf⟩
    unfold F_X6_lots_72
    rw [if_pos (nI_le (by omega) (by omega)), living_C hf hs.v hc.cv, ob1_s, bc_who hs.v, ob1_s]
    rfl
  | succ m ih =>
    intro n M k s y hk hn hs h0 hD hc
    obtain ⟨n, rfl⟩ : ∃ q, n = q + 1 := ⟨n - 1, by omega⟩
    obtain ⟨M1, a1, a2, a3⟩ := act_C hf hs hc (dkb h0 (lotB p y)) (by omega)
    have hs' := nxt_ok hs (dkb h0 (lotB p y)) (by omega)
    obtain ⟨c1, M', c2, c3, c4⟩ := ih n M1 (k + 1) (nxt s (if lotB p y then 0 else 1, 0, 0)) (lotN y) (by omega) (by omega) hs' h0 (by show s.2.2.1 + 1 + m ≤ 60; omega) a2
    rw [itr_s]
    refine ⟨c1, M', ?_, c3, a3.trans c4⟩
    have e : ∀ b : Bool, F_X6_lots_111 fu (F_X6_lots_72 fu n) M (nI N) p (lotN y) (nI k) (nI (if b then 0 else 1)) = ob1 (F_X2_act fu M 24 (nI (if b then 0 else 1)) (nI 0) (nI 0)) (fun M2 => F_X6_lots_72 fu n M2 (nI N) p (lotN y) (nI (k + 1))) := fun b => by
      unfold F_X6_lots_111
      rw [nI_1]
      rfl
    unfold F_X6_lots_72
    rw [if_neg (nI_ge (by omega) (by omega)), lt1_s, lotN_e]
    have a1' : F_X2_act fu M 24 (nI (if lotB p y then 0 else 1)) (nI 0) (nI 0) = some M1 := a1
    by_cases hb : 0 ≤ lg_cmp (lotN y - lotN y / (12 : Int64) * (12 : Int64)) p.toInt64
    · rw [lotB_t hb] at a1' c2 ⊢
      rw [if_pos hb, show (0 : Int32) = nI (if true then 0 else 1) from rfl, e true, a1', ob1_s]
      exact c2
    · rw [lotB_f hb] at a1' c2 ⊢
      rw [if_neg hb, show (1 : Int32) = nI (if false then 0 else 1) from rfl, e false, a1', ob1_s]
      exact c2
theorem lots_X69 {fu : Nat} (hf : 1000 ≤ fu) {p : Int32} {N : Nat} (hN : N ≤ 20) : ∀ (m n : Nat) (M : Mm) (k : Nat) (s : Ns) (y : Int64), k + m = N → m < n → okN s → 0 < vMen s.1 → s.2.2.1 + m ≤ 60 → XN s M → ∃ M', F_X7_lots_69 fu n M (nI N) p y (nI k) = some (nI (pc (whoN (cur (itr (lotB p) lotN m s y)) 1 0)), M') ∧ XN (itr (lotB p) lotN m s y) M' ∧ Out (fun x j => (x = 86 ∧ (j = 11 ∨ j = 12)) ∨ x = 94 ∨ x = 96) M M' := by
  intro m
  induction m with
  | zero =>
    intro n M k s y hk hn hs h0 hD hc
    obtain ⟨n, rfl⟩ : ∃ q, n = q + 1 := ⟨n - 1, by omega⟩
    refine ⟨M, ?_, hc, Out.rf⟩
    unfold F_X7_lots_69
    rw [if_pos (nI_le (by omega) (by omega)), here_X hf hs.v hc.1, ob1_s, bits_X hf (whoN_lt hs.v _ _), ob1_s]
    rfl
  | succ m ih =>
    intro n M k s y hk hn hs h0 hD hc
    obtain ⟨n, rfl⟩ : ∃ q, n = q + 1 := ⟨n - 1, by omega⟩
    obtain ⟨M1, a1, a2, a3⟩ := pass_X hf hs hc (by omega) h0 (b := lotB p y)
    have hs' := nxt_ok hs (dkb h0 (lotB p y)) (by omega)
    obtain ⟨M', c2, c3, c4⟩ := ih n M1 (k + 1) (nxt s (if lotB p y then 0 else 1, 0, 0)) (lotN y) (by omega) (by omega) hs' h0 (by show s.2.2.1 + 1 + m ≤ 60; omega) a2
    rw [itr_s]
    refine ⟨M', ?_, c3, a3.trans c4⟩
    unfold F_X7_lots_69
    rw [if_neg (nI_ge (by omega) (by omega)), lt1_s, lotN_e]
    unfold F_X7_lots_105
    rw [nI_1]
    by_cases hb : 0 ≤ lg_cmp (lotN y - lotN y / (12 : Int64) * (12 : Int64)) p.toInt64
    · rw [lotB_t hb] at a1 c2 ⊢
      rw [if_neg (Int32.not_lt.mpr hb), show (1 : Int32) = bI true from rfl, a1, ob1_s]
      exact c2
    · rw [lotB_f hb] at a1 c2 ⊢
      rw [if_pos (Int32.not_le.mp hb), show (0 : Int32) = bI false from rfl, a1, ob1_s]
      exact c2
theorem call_lots {fu : Nat} (hf : 1000 ≤ fu) {M : Mm} (h : Rel M) (x y z : Int32) : Two2 (F_X6_lots fu M x y z) (fun M1 => F_X7_lots fu M1 x y z) := by
  obtain ⟨s, hs, hc, hx, hk⟩ := h.2.2.2
  have hv := hs.v
  have hD := hs.2.2.1
  have m0 := cur0 s
  unfold F_X6_lots F_X7_lots
  rcases rng3 x (n := 21) (by omega) with hx0 | ⟨N, hN, rfl⟩
  · refine Two2.same h (r := -1) ?_ ?_
    · rcases hx0 with hx0 | hx0
      · rw [if_pos (by rw [lt0i] at hx0; rw [Int32.lt_iff_toInt_lt, show (1 : Int32).toInt = 1 from rfl]; omega)]
      · rw [if_pos (c := (20 : Int32) < x) (by rw [Int32.le_iff_toInt_le, nI_toInt (by decide)] at hx0; rw [Int32.lt_iff_toInt_lt, show (20 : Int32).toInt = 20 from rfl]; omega), ite_self]
    · rcases hx0 with hx0 | hx0
      · rw [in_lo (k := 1) (by rw [lt0i] at hx0; rw [Int32.lt_iff_toInt_lt, nI_toInt (by decide)]; omega) I1 (by decide)]
        rfl
      · rw [in_hi (n := 20) hx0 I20 (by decide)]
        rfl
  · by_cases n0 : N = 0
    · subst n0
      refine Two2.same h (r := -1) (by rw [if_pos (by decide)]) ?_
      rw [in_lo (k := 1) (by decide) I1 (by decide)]
      rfl
    · have e1 : ¬ nI N < 1 := by rw [L1]; exact nI_nlt (by omega) (by omega)
      have e2 : ¬ (20 : Int32) < nI N := by rw [L20]; exact nI_nlt (by omega) (by omega)
      rw [if_neg e1, if_neg e2]
      have X1 : ∀ M1 : Mm, F_X7_in fu M1 (nI N).toInt64 (1 : Int64) (20 : Int64) = some 1 := fun M1 => in_ok (k := 1) (n := 20) (by omega) (by omega) I1 I20 (by decide)
      rcases rng3 y (n := 13) (by omega) with hy0 | ⟨p, hp, rfl⟩
      · refine Two2.same h (r := -1) ?_ ?_
        · rcases hy0 with hy0 | hy0
          · rw [if_pos hy0]
          · rw [if_pos (c := (12 : Int32) < y) (by rw [Int32.le_iff_toInt_le, nI_toInt (by decide)] at hy0; rw [Int32.lt_iff_toInt_lt, show (12 : Int32).toInt = 12 from rfl]; omega), ite_self]
        · rw [X1, ob1_s, if_neg one_ne, in_no (n := 12) hy0 I12 (by decide)]
          rfl
      · rw [if_neg (nI_pos (by omega)), L12, if_neg (nI_nlt (by omega) (by omega))]
        have X2 : ∀ M1 : Mm, F_X7_in fu M1 (nI p).toInt64 (0 : Int64) (12 : Int64) = some 1 := fun M1 => in_ok (k := 0) (n := 12) (by omega) (by omega) I0 I12 (by decide)
        rcases rng3 z (n := 2147483647) (by omega) with hz0 | ⟨w, hw, rfl⟩
        · refine Two2.same h (r := -1) ?_ ?_
          · rcases hz0 with hz0 | hz0
            · rw [if_pos (by rw [lt0i] at hz0; rw [Int32.lt_iff_toInt_lt, show (1 : Int32).toInt = 1 from rfl]; omega)]
            · rw [if_neg (c := z ≤ (2147483646 : Int32)) (by rw [Int32.le_iff_toInt_le, nI_toInt (by decide)] at hz0; rw [Int32.le_iff_toInt_le, show (2147483646 : Int32).toInt = 2147483646 from rfl]; omega), ite_self]
          · rcases hz0 with hz0 | hz0
            · rw [X1, ob1_s, if_neg one_ne, X2, ob1_s, if_neg one_ne, in_lo (k := 1) (by rw [lt0i] at hz0; rw [Int32.lt_iff_toInt_lt, nI_toInt (by decide)]; omega) I1 (by decide)]
              rfl
            · rw [X1, ob1_s, if_neg one_ne, X2, ob1_s, if_neg one_ne, in_hi (n := 2147483646) hz0 Ibig (by decide)]
              rfl
        · by_cases w0 : w = 0
          · subst w0
            refine Two2.same h (r := -1) (by rw [if_pos (by decide)]) ?_
            rw [X1, ob1_s, if_neg one_ne, X2, ob1_s, if_neg one_ne, in_lo (k := 1) (by decide) I1 (by decide)]
            rfl
          · have X3 : ∀ M1 : Mm, F_X7_in fu M1 (nI w).toInt64 (1 : Int64) (2147483646 : Int64) = some 1 := fun M1 => in_ok (k := 1) (n := 2147483646) (by omega) (by omega) I1 Ibig (by decide)
            rw [if_neg (by rw [L1]; exact nI_nlt (by omega) (by omega)), show (2147483646 : Int32) = nI 2147483646 from rfl, if_pos (nI_le (by omega) (by omega))]
            by_cases h0 : vMen s.1 = 0
            · exact Two2.same h (by rw [if_pos (by rw [men0_C hv hc.cv, m0]; exact h0)]) (by rw [X1, ob1_s, if_neg one_ne, X2, ob1_s, if_neg one_ne, X3, ob1_s, if_neg one_ne, if_pos (by rw [men0_X hv hx.1, m0]; exact h0)])
            · rw [if_neg (by rw [men0_C hv hc.cv, m0]; exact h0), hc.2.2.2.1, nI_add, L60]
              by_cases hD60 : s.2.2.1 + N ≤ 60
              · obtain ⟨c1, M1, c2, c3, c4⟩ := lots_C72 hf (p := nI p) (N := N) (by omega) N fu M 0 s (nI w).toInt64 (by omega) (by omega) hs (by omega) hD60 hc
                have lo : Lo M M1 := Lo.of c4 fun x j q => by unfold pN at q; omega
                have hx1 := hx.lo lo
                obtain ⟨M2, d2, d3, d4⟩ := lots_X69 hf (p := nI p) (N := N) (by omega) N fu M1 0 s (nI w).toInt64 (by omega) (by omega) hs (by omega) hD60 hx1
                have hiX : Hi M1 M2 := Hi.of d4 fun x j q => by omega
                have o : Out (fun x j => pN x j ∨ (x = 86 ∧ (j = 11 ∨ j = 12)) ∨ x = 94 ∨ x = 96) M M2 := (c4.wk fun x j q => Or.inl q).trans (d4.wk fun x j q => Or.inr q)
                refine ⟨nI (pc (whoN (cur (itr (lotB (nI p)) lotN N s (nI w).toInt64)) 1 0)), M1, M2, ?_, ?_, h.north o (fun x j q => Or.inl (by unfold pN at q; unfold sN; omega)) (rn_next (s := s) (itr_1 _ _ _ _ _) c1 (c3.hi (by omega) hiX) d3 hk o fun x j q => by unfold pN at q; omega)⟩
                · rw [if_pos (nI_le hD60 (by omega))]
                  exact c2
                · show ob1 _ _ = _
                  rw [X1, ob1_s, if_neg one_ne, X2, ob1_s, if_neg one_ne, X3, ob1_s, if_neg one_ne, if_neg (by rw [men0_X hv hx1.1, m0]; exact h0), hx1.2.1, nI_add, if_pos (nI_le hD60 (by omega))]
                  exact d2
              · exact Two2.same h (by rw [if_neg (nI_ge (by omega) (by omega))]) (by rw [X1, ob1_s, if_neg one_ne, X2, ob1_s, if_neg one_ne, X3, ob1_s, if_neg one_ne, if_neg (by rw [men0_X hv hx.1, m0]; exact h0), hx.2.1, nI_add, if_neg (nI_ge (by omega) (by omega))])
