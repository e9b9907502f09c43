/-! snow, the right, undone, lots; man, mark -/
theorem least_X {fu : Nat} {M : Mm} {z : Nat} (hz : z < 1000000) : F_X7_least fu M (99 : Int32) (nI z) = some (nI (min 99 z)) := by
  unfold F_X7_least
  by_cases h : z ≤ 99
  · rw [L99, if_pos (nI_le h (by omega)), Nat.min_eq_right h]
  · rw [L99, if_neg (nI_ge (by omega) (by omega)), Nat.min_eq_left (by omega)]
theorem call_snow {fu : Nat} (hf : 1000 ≤ fu) {M : Mm} (h : Rel M) (x y : Int32) : Two2 (F_X6_snow fu M x y) (fun M1 => F_X7_snow fu M1 x y) := by
  obtain ⟨s, hs, hc, hx, hk⟩ := h.2.2.2
  have hv := hs.v
  have hm := hv.1
  have hD := hs.2.2.1
  have bb := cur_sb s
  unfold F_X6_snow F_X7_snow
  rcases rng3 x (n := vMen (cur s)) (by omega) with hi | ⟨i, hi, rfl⟩
  · exact Two2.same h (by rw [isMan_C0 hc.cv hi]; rfl) (by rw [isMan_X0 hv hx.1 hi]; rfl)
  · obtain ⟨g1, g2, g3, g4⟩ := hv.2.2.2.2.2 i hi
    rcases rng3 y (n := 10) (by omega) with hy | ⟨c, hy, rfl⟩
    · refine Two2.same h (r := -1) ?_ ?_
      · rw [isMan_C1 hv hc.cv hi, ob1_s, if_neg one_ne]
        rcases hy with hy | hy
        · rw [if_pos (by rw [lt0i] at hy; rw [Int32.lt_iff_toInt_lt, show (1 : Int32).toInt = 1 from rfl]; omega)]
        · rw [L9, if_neg (gt_hi hy (by decide)), ite_self]
      · rw [isMan_X1 hv hx.1 hi, ob1_s, if_neg one_ne]
        rcases hy with hy | hy
        · rw [in_lo (k := 1) (by rw [lt0i] at hy; rw [Int32.lt_iff_toInt_lt, nI_toInt (by decide)]; omega) I1 (by decide)]
          rfl
        · rw [in_hi (n := 9) hy I9 (by decide)]
          rfl
    · by_cases c0 : c = 0
      · subst c0
        refine Two2.same h (r := -1) ?_ ?_
        · rw [isMan_C1 hv hc.cv hi, ob1_s, if_neg one_ne, if_pos (by decide)]
        · rw [isMan_X1 hv hx.1 hi, ob1_s, if_neg one_ne, in_lo (k := 1) (by decide) I1 (by decide)]
          rfl
      · have e1 : ¬ nI c < 1 := by rw [L1]; exact nI_nlt (by omega) (by omega)
        have e2 : nI c ≤ 9 := by rw [L9]; exact nI_le (by omega) (by omega)
        by_cases b0 : vBulk (cur s) i = 0
        · exact Two2.same h (by rw [isMan_C1 hv hc.cv hi, ob1_s, if_neg one_ne, if_neg e1, if_pos e2, rd28 (by omega), ob1_s, (hc.cv.2.2.2.2 i hi).2.2.1, b0, if_pos (by decide)]) (by rw [isMan_X1 hv hx.1 hi, ob1_s, if_neg one_ne, in_ok (k := 1) (n := 9) (by omega) (by omega) I1 I9 (by decide), ob1_s, if_neg one_ne, xr94 (by omega), clN (by omega), (hx.1.2.2.2.2 i hi).2.2.1, b0, if_pos (by decide)])
        · have e3 : ¬ nI (vBulk (cur s) i) = 0 := by rw [L0, eqN (by omega) (by omega)]; exact b0
          by_cases h60 : s.2.2.1 < 60
          · have hq : dOK (vMen s.1) (3, i, c) := ⟨by show 3 ≤ 3; omega, by show i < 6; omega, by show c ≤ 9; omega, by rw [← bb.1]; omega⟩
            obtain ⟨M1, a1, a2, a3⟩ := act_C hf hs hc hq h60
            have lo : Lo M M1 := Lo.of a3 fun x j q => by unfold pN at q; omega
            have hx1 := hx.lo lo
            obtain ⟨M2, b1, b2, b3, b4, b5⟩ := remember_X hf hs hx1 h60
            have hs' := nxt_ok hs hq h60
            have b6 : Out (fun x j => (x = 86 ∧ j = 12) ∨ x = 94 ∨ x = 96) M1 (pI M2 94 i (nI (min 99 (vBulk (cur s) i + c)))) := (b5.wk fun x j q => by omega).pI (by omega)
            have hc2 : CN 24 (nxt s (3, i, c)) (pI M2 94 i (nI (min 99 (vBulk (cur s) i + c)))) := a2.hi (by omega) (Hi.of b6 fun x j q => by omega)
            have hx2 : XN (nxt s (3, i, c)) (pI M2 94 i (nI (min 99 (vBulk (cur s) i + c)))) := by
              refine ⟨?_, by rw [pI_n (by omega)]; exact b3, (b4 _).cg (pI_off 96 (by omega)).1⟩
              rw [nxt_cur]
              obtain ⟨a1, b1, c1, d1, e1⟩ := b2
              refine ⟨by rw [pI_n (by omega)]; exact a1, by rw [pI_n (by omega)]; exact b1, by rw [pI_n (by omega)]; exact c1, fun j hj => by rw [pI_n (by omega)]; exact d1 j hj, fun j hj => ⟨by rw [pI_n (by omega)]; exact (e1 j hj).1, by rw [pI_n (by omega)]; exact (e1 j hj).2.1, ?_, by rw [pI_n (by omega)]; exact (e1 j hj).2.2.2⟩⟩
              show _ = nI (if j = i then min 99 (vBulk (cur s) j + c) else vBulk (cur s) j)
              by_cases hjb : j = i
              · rw [hjb, pI_s, if_pos rfl]
              · rw [pI_n (Or.inr hjb), if_neg hjb]
                exact (e1 j hj).2.2.1
            have o : Out (fun x j => pN x j ∨ (x = 86 ∧ j = 12) ∨ x = 94 ∨ x = 96) M (pI M2 94 i (nI (min 99 (vBulk (cur s) i + c)))) := (a3.wk fun x j q => Or.inl q).trans (b6.wk fun x j q => Or.inr q)
            have hi' : i < vMen (cur (nxt s (3, i, c))) := by rw [(cur_sb _).1]; show i < vMen s.1; rw [← bb.1]; exact hi
            have e28 : M1.1 28 i = nI (min 99 (vBulk (cur s) i + c)) := by
              rw [(a2.cv.2.2.2.2 i hi').2.2.1, nxt_cur]
              exact congrArg nI (if_pos rfl)
            refine ⟨nI (min 99 (vBulk (cur s) i + c)), M1, _, ?_, ?_, h.north o (fun x j q => Or.inl (by unfold pN at q; unfold sN; omega)) (rn_next rfl hs' hc2 hx2 hk o fun x j q => by unfold pN at q; omega)⟩
            · rw [isMan_C1 hv hc.cv hi, ob1_s, if_neg one_ne, if_neg e1, if_pos e2, rd28 (by omega), ob1_s, (hc.cv.2.2.2.2 i hi).2.2.1, if_neg e3, hc.2.2.2.1, L60, if_pos (nI_lt h60 (by omega)), show F_X2_act fu M 24 3 (nI i) (nI c) = some M1 from a1, ob1_s, rd28 (by omega), ob1_s, e28]
            · show ob1 (F_X7_isMan fu M1 (nI i)) _ = _
              rw [isMan_X1 hv hx1.1 hi, ob1_s, if_neg one_ne, in_ok (k := 1) (n := 9) (by omega) (by omega) I1 I9 (by decide), ob1_s, if_neg one_ne, xr94 (by omega), clN (by omega), (hx1.1.2.2.2.2 i hi).2.2.1, if_neg e3, hx1.2.1, L60, if_neg (by rw [eqN (by omega) (by omega)]; omega), b1, ob1_s]
              have q0 : ∀ {α : Type} {a : Option α}, (if nI i < 0 ∨ ln 94 ≤ i then none else a) = a := by
                intro α a
                have := xr94 (i := i) (a := a) (by omega)
                rwa [clN (by omega)] at this
              rw [q0, (b2.2.2.2.2 i hi).2.2.1, nI_add, least_X (by omega), ob1_s, q0, lt1_s, q0, pI_s]
          · exact Two2.same h (by rw [isMan_C1 hv hc.cv hi, ob1_s, if_neg one_ne, if_neg e1, if_pos e2, rd28 (by omega), ob1_s, (hc.cv.2.2.2.2 i hi).2.2.1, if_neg e3, hc.2.2.2.1, L60, if_neg (nI_nlt (by omega) (by omega))]) (by rw [isMan_X1 hv hx.1 hi, ob1_s, if_neg one_ne, in_ok (k := 1) (n := 9) (by omega) (by omega) I1 I9 (by decide), ob1_s, if_neg one_ne, xr94 (by omega), clN (by omega), (hx.1.2.2.2.2 i hi).2.2.1, if_neg e3, hx.2.1, L60, if_pos (by rw [eqN (by omega) (by omega)]; omega)])
theorem call_right {fu : Nat} {M : Mm} (h : Rel M) (y : Int32) : Two2 (F_X6_right fu M y) (fun M1 => F_X7_right fu M1 y) := by
  obtain ⟨s, hs, hc, hx, hk⟩ := h.2.2.2
  have hv := hs.v
  have hm := hv.1
  have bb := cur_sb s
  have m0 := cur0 s
  unfold F_X6_right F_X7_right
  rcases rng3 y (n := 10) (by omega) with hy | ⟨c, hy, rfl⟩
  · refine Two2.same h (r := -1) ?_ ?_
    · rcases hy with hy | hy
      · rw [if_pos (by rw [lt0i] at hy; rw [Int32.lt_iff_toInt_lt, show (1 : Int32).toInt = 1 from rfl]; omega)]
      · rw [L9, if_neg (gt_hi hy (by decide)), ite_self]
    · rcases hy with hy | hy
      · rw [in_lo (k := 1) (by rw [lt0i] at hy; rw [Int32.lt_iff_toInt_lt, nI_toInt (by decide)]; omega) I1 (by decide)]
        rfl
      · rw [in_hi (n := 9) hy I9 (by decide)]
        rfl
  · by_cases c0 : c = 0
    · subst c0
      refine Two2.same h (r := -1) ?_ ?_
      · rw [if_pos (by decide)]
      · rw [in_lo (k := 1) (by decide) I1 (by decide)]
        rfl
    · have e1 : ¬ nI c < 1 := by rw [L1]; exact nI_nlt (by omega) (by omega)
      have e2 : nI c ≤ 9 := by rw [L9]; exact nI_le (by omega) (by omega)
      rw [if_neg e1, if_pos e2]
      by_cases h0 : vMen s.1 = 0
      · exact Two2.same h (by rw [if_pos (by rw [men0_C hv hc.cv, m0]; exact h0)]) (by rw [in_ok (k := 1) (n := 9) (by omega) (by omega) I1 I9 (by decide), ob1_s, if_neg one_ne, if_pos (by rw [men0_X hv hx.1, m0]; exact h0)])
      · have o1 : Out (fun x j => x = 24 ∧ j = 1) M (pI M 24 1 (nI c)) := (Out.rf).pI (by omega)
        have hx1 := hx.lo (Lo.of o1 fun x j q => by omega)
        have o : Out (fun x j => (x = 24 ∧ j = 1) ∨ (x = 86 ∧ j = 10)) M (pI (pI M 24 1 (nI c)) 86 10 (nI c)) := (o1.wk fun x j q => by omega).pI (by omega)
        have hs' : okN (s.1, s.2.1, s.2.2.1, c) := ⟨hs.1, hs.2.1, hs.2.2.1, hs.2.2.2.1, by show c ≤ 9; omega, fun _ => (by show 1 ≤ c; omega), fun q => absurd q h0⟩
        have hc2 : CN 24 (s.1, s.2.1, s.2.2.1, c) (pI (pI M 24 1 (nI c)) 86 10 (nI c)) := by
          obtain ⟨h1, h2, h3, h4, h5, h6, h7⟩ := hc
          exact ⟨by rw [(o _ _ (by omega)).1]; exact h1, by rw [pI_n (by omega), pI_s], by rw [(o _ _ (by omega)).1]; exact h3, by rw [(o _ _ (by omega)).1]; exact h4, fun j hj => by rw [(o _ _ (by omega)).1]; exact h5 j hj, fun i hi => ⟨by rw [(o _ _ (by omega)).1]; exact (h6 i hi).1, by rw [(o _ _ (by omega)).1]; exact (h6 i hi).2.1, by rw [(o _ _ (by omega)).1]; exact (h6 i hi).2.2.1, by rw [(o _ _ (by omega)).1]; exact (h6 i hi).2.2.2.1, by rw [(o _ _ (by omega)).1]; exact (h6 i hi).2.2.2.2.1, by rw [(o _ _ (by omega)).1]; exact (h6 i hi).2.2.2.2.2⟩, fun k hk => ⟨by rw [(o _ _ (by omega)).1]; exact (h7 k hk).1, by rw [(o _ _ (by omega)).1]; exact (h7 k hk).2.1, by rw [(o _ _ (by omega)).1]; exact (h7 k hk).2.2⟩⟩
        have hx2 : XN (s.1, s.2.1, s.2.2.1, c) (pI (pI M 24 1 (nI c)) 86 10 (nI c)) := by
          obtain ⟨⟨a1, b1, c1, d1, e1⟩, h2, h3⟩ := hx
          refine ⟨⟨by rw [(o _ _ (by omega)).1]; exact a1, by rw [pI_s]; rfl, by rw [(o _ _ (by omega)).1]; exact c1, fun j hj => by rw [(o _ _ (by omega)).1]; exact d1 j hj, fun j hj => ⟨by rw [(o _ _ (by omega)).1]; exact (e1 j hj).1, by rw [(o _ _ (by omega)).1]; exact (e1 j hj).2.1, by rw [(o _ _ (by omega)).1]; exact (e1 j hj).2.2.1, by rw [(o _ _ (by omega)).1]; exact (e1 j hj).2.2.2⟩⟩, by rw [(o _ _ (by omega)).1]; exact h2, ?_⟩
          have : PA 96 0 s (pI (pI M 24 1 (nI c)) 86 10 (nI c)) := h3.cg (o.f fun j q => by omega)
          exact this
        refine ⟨nI s.2.2.2, pI M 24 1 (nI c), _, ?_, ?_, h.north o (fun x j q => Or.inl (by unfold sN; omega)) (rn_next (s := s) (s' := (s.1, s.2.1, s.2.2.1, c)) rfl hs' hc2 hx2 hk o fun x j q => by omega)⟩
        · rw [if_neg (by rw [men0_C hv hc.cv, m0]; exact h0), hc.2.1]
          rfl
        · show ob1 _ _ = _
          rw [in_ok (k := 1) (n := 9) (by omega) (by omega) I1 I9 (by decide), ob1_s, if_neg one_ne, if_neg (by rw [men0_X hv hx1.1, m0]; exact h0), hx1.1.2.1]
          rfl
/-- the row of one north comes to that of another -/
theorem writeAll_C2 {fu a b N : Nat} (hab : a ≠ b) (ha : N ≤ ln a) (hb : ln b = N) (hN : N ≤ 60) : ∀ (m n : Nat) (M : Mm) (k : Nat), k + m = N → m < n → (∀ j, j < k → M.1 a j = M.1 b j) → ∃ M', F_X6_writeAll_2 fu n M a b (nI k) = some M' ∧ (∀ j, j < N → M'.1 a j = M.1 b j) ∧ Out (fun x _ => x = a) M M' := by
  intro m
  have hl := ln_lt a
  induction m with
  | zero =>
    intro n M k hk hn h
    obtain ⟨n, rfl⟩ : ∃ q, n = q + 1 := ⟨n - 1, by omega⟩
    refine ⟨M, ?_, fun j hj => h j (by omega), Out.rf⟩
    unfold F_X6_writeAll_2
    rw [hb]
    by_cases hq : nI (ln a) ≤ nI k
    · rw [if_pos hq]
    · rw [if_neg hq, if_pos (nI_le (by omega) (by omega))]
  | succ m ih =>
    intro n M k hk hn h
    obtain ⟨n, rfl⟩ : ∃ q, n = q + 1 := ⟨n - 1, by omega⟩
    obtain ⟨M', a1, a2, a3⟩ := ih n (pI M a k (M.1 b k)) (k + 1) (by omega) (by omega) (fun j hj => by
      rw [pI_n (y := b) (Or.inl (Ne.symm hab))]
      by_cases hjk : j = k
      · rw [hjk, pI_s]
      · rw [pI_n (Or.inr hjk)]
        exact h j (by omega))
    refine ⟨M', ?_, fun j hj => by rw [a2 j hj, pI_n (Or.inl (Ne.symm hab))], (Out.pI (P := fun x _ => x = a) Out.rf rfl).trans a3⟩
    unfold F_X6_writeAll_2
    rw [hb, if_neg (nI_ge (by omega) (by omega)), if_neg (nI_ge (by omega) (by omega)), if_neg (nI_in (by omega) (by omega)), if_neg (nI_in (by omega) (by omega)), clN (by omega), lt1_s, nI_1]
    exact a1
theorem writeAll_C {fu a b N : Nat} (hf : 1000 ≤ fu) (hab : a ≠ b) (ha : N ≤ ln a) (hb : ln b = N) (hN : N ≤ 60) (M : Mm) : ∃ M', F_X6_writeAll fu M a b = some M' ∧ (∀ j, j < N → M'.1 a j = M.1 b j) ∧ Out (fun x _ => x = a) M M' :=
  writeAll_C2 hab ha hb hN N fu M 0 (by omega) (by omega) (fun j hj => by omega)
def nlN (i : Nat) : Nat := if i = 0 then 4 else if i = 1 then 8 else if i ≤ 7 then 6 else 60
theorem nl_N {c : Nat} (h : kd c = 11) : ∀ i, 1 ≤ i → i ≤ 10 → ln (c + i) = nlN i := by
  have : ∀ i, 1 ≤ i → i ≤ 10 → ln (24 + i) = nlN i ∧ ln (35 + i) = nlN i ∧ ln (46 + i) = nlN i ∧ ln (57 + i) = nlN i := by
    intro i h1 h2
    have : ∀ i, i < 11 → 1 ≤ i → ln (24 + i) = nlN i ∧ ln (35 + i) = nlN i ∧ ln (46 + i) = nlN i ∧ ln (57 + i) = nlN i := by decide
    exact this i (by omega) h1
  intro i h1 h2
  rcases kdN h with rfl | rfl | rfl | rfl
  · exact (this i h1 h2).1
  · exact (this i h1 h2).2.1
  · exact (this i h1 h2).2.2.1
  · exact (this i h1 h2).2.2.2
theorem nl_60 (i : Nat) : nlN i ≤ 60 := by unfold nlN; split <;> (try split) <;> (try split) <;> omega
def inB (c0 c1 k : Nat) (M M1 : Mm) : Prop := (∀ i j, i ≤ k → j < nlN i → M1.1 (c0 + i) j = M.1 (c1 + i) j) ∧ Out (fun x _ => c0 ≤ x ∧ x ≤ c0 + 10) M M1
theorem bstep {fu c0 c1 k : Nat} (hf : 1000 ≤ fu) (h0 : kd c0 = 11) (h1 : kd c1 = 11) (hne : c0 + 10 < c1 ∨ c1 + 10 < c0) (hk : k < 10) {M M1 : Mm} (h : inB c0 c1 k M M1) : ∃ M2, F_X6_writeAll fu M1 (c0 + (k + 1)) (c1 + (k + 1)) = some M2 ∧ inB c0 c1 (k + 1) M M2 := by
  obtain ⟨M2, a1, a2, a3⟩ := writeAll_C (a := c0 + (k + 1)) (b := c1 + (k + 1)) (N := nlN (k + 1)) hf (by omega) (by rw [nl_N h0 (k + 1) (by omega) (by omega)]; exact Nat.le_refl _) (nl_N h1 (k + 1) (by omega) (by omega)) (nl_60 _) M1
  refine ⟨M2, a1, fun i j hi hj => ?_, h.2.trans (a3.wk fun x j q => by omega)⟩
  by_cases hik : i = k + 1
  · rw [hik] at hj ⊢
    rw [a2 j hj, (h.2 _ _ (by omega)).1]
  · rw [(a3 _ _ (by omega)).1]
    exact h.1 i j (by omega) hj
theorem become_C {fu c0 c1 : Nat} (hf : 1000 ≤ fu) (h0 : kd c0 = 11) (h1 : kd c1 = 11) (hne : c0 + 10 < c1 ∨ c1 + 10 < c0) {M : Mm} {s : Ns} (hs : okN s) (hc : CN c1 s M) : ∃ M', F_X2_become fu M c0 c1 = some M' ∧ CN c0 s M' ∧ Out (fun x _ => c0 ≤ x ∧ x ≤ c0 + 10) M M' := by
  have i0 : inB c0 c1 0 M (pI (pI (pI (pI M c0 0 (M.1 c1 0)) c0 1 (M.1 c1 1)) c0 2 (M.1 c1 2)) c0 3 (M.1 c1 3)) := by
    refine ⟨fun i j hi hj => ?_, ((((Out.rf).pI (by omega)).pI (by omega)).pI (by omega)).pI (by omega)⟩
    have : i = 0 := by omega
    subst this
    have hj : j < 4 := hj
    rw [Nat.add_zero, Nat.add_zero]
    have hj4 : j = 0 ∨ j = 1 ∨ j = 2 ∨ j = 3 := by omega
    rcases hj4 with rfl | rfl | rfl | rfl
    · rw [pI_n (by omega), pI_n (by omega), pI_n (by omega), pI_s]
    · rw [pI_n (by omega), pI_n (by omega), pI_s]
    · rw [pI_n (by omega), pI_s]
    · rw [pI_s]
  obtain ⟨M1, e1, i1⟩ := bstep hf h0 h1 hne (by omega) i0
  obtain ⟨M2, e2, i2⟩ := bstep hf h0 h1 hne (by omega) i1
  obtain ⟨M3, e3, i3⟩ := bstep hf h0 h1 hne (by omega) i2
  obtain ⟨M4, e4, i4⟩ := bstep hf h0 h1 hne (by omega) i3
  obtain ⟨M5, e5, i5⟩ := bstep hf h0 h1 hne (by omega) i4
  obtain ⟨M6, e6, i6⟩ := bstep hf h0 h1 hne (by omega) i5
  obtain ⟨M7, e7, i7⟩ := bstep hf h0 h1 hne (by omega) i6
  obtain ⟨M8, e8, i8⟩ := bstep hf h0 h1 hne (by omega) i7
  obtain ⟨M9, e9, i9⟩ := bstep hf h0 h1 hne (by omega) i8
  obtain ⟨M10, e10, i10⟩ := bstep hf h0 h1 hne (by omega) i9
  refine ⟨M10, ?_, ?_, i10.2⟩
  · unfold F_X2_become
    rw [lt1_s, pI_n (by omega), lt1_s, pI_n (by omega), pI_n (by omega), lt1_s, pI_n (by omega), pI_n (by omega), pI_n (by omega), lt1_s]
    rw [e1, ob1_s, e2, ob1_s, e3, ob1_s, e4, ob1_s, e5, ob1_s, e6, ob1_s, e7, ob1_s, e8, ob1_s, e9, ob1_s, e10, ob1_s]
  · obtain ⟨g, -⟩ := i10
    have hm := hs.1.1
    have hD := hs.2.2.1
    obtain ⟨c1, c2, c3, c4, c5, c6, c7⟩ := hc
    refine ⟨(g 0 0 (by omega) (by decide)).trans c1, (g 0 1 (by omega) (by decide)).trans c2, (g 0 2 (by omega) (by decide)).trans c3, (g 0 3 (by omega) (by decide)).trans c4, fun j hj => (g 1 j (by omega) hj).trans (c5 j hj), fun i hi => ⟨(g 2 i (by omega) (by show i < 6; omega)).trans (c6 i hi).1, (g 3 i (by omega) (by show i < 6; omega)).trans (c6 i hi).2.1, (g 4 i (by omega) (by show i < 6; omega)).trans (c6 i hi).2.2.1, (g 5 i (by omega) (by show i < 6; omega)).trans (c6 i hi).2.2.2.1, (g 6 i (by omega) (by show i < 6; omega)).trans (c6 i hi).2.2.2.2.1, (g 7 i (by omega) (by show i < 6; omega)).trans (c6 i hi).2.2.2.2.2⟩, fun k hk => ⟨(g 8 k (by omega) (by show k < 60; omega)).trans (c7 k hk).1, (g 9 k (by omega) (by show k < 60; omega)).trans (c7 k hk).2.1, (g 10 k (by omega) (by show k < 60; omega)).trans (c7 k hk).2.2⟩⟩
