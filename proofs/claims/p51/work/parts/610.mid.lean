/-! the law: clouds, days foretold, the census counted -/
theorem lcmp0 {x y : Int64} (h : x = y) : lg_cmp x y = 0 := (lg_cmp_eq x y).mpr h
theorem lc1 : lg_cmp (lN 1) 1 = 0 := lcmp0 rfl
theorem T1053 {L : Nat} (hL : L ≤ 260) {xs : Nat → Int32} {fu : Nat} (hf : 1000 ≤ fu) {k : Ns} {M : Mm} (h : IV k k M) {i : Nat} (hi : i < vMen k.1) {t0 t1 : Int64} (ht : t0 = t1) : F_L_law_1053 L xs fu M (nI (vMen k.1)) (nI i) t0 t1 = some () := by
  obtain ⟨hv, hc, hm, h0, h6⟩ := h.v
  obtain ⟨e1, e2, e3, e4, e5⟩ := h.k0
  obtain ⟨s1, s2, s3, s4, s5⟩ := sv_b h hi
  have hi' : i < vMen (cur k) := by omega
  have h99 : blk (cur k) i 5 ≤ 99 := Nat.le_trans (Nat.sub_le _ _) (hv.2.2.2.2.2 i hi').2.2.1
  obtain ⟨-, M1, a1, a2, a3, a4⟩ := m_odds (fu := fu) hf hv hc hi' (n := 5) (p := 0) (c := blk (cur k) i 5) (by decide) (by decide) h99 (wk_0 hv hi' 5)
  have h1 : IV k k M1 := h.out a4 fun x j q => by omega
  obtain ⟨-, hc1, -⟩ := h1.v
  have hb := m_bulk (fu := fu) hf hv hc1 hi' (n := 5) (by decide)
  obtain ⟨-, M2, b1, b2, b3, b4⟩ := m_odds (fu := fu) hf hv hc1 hi' (n := 5) (p := 12) (c := vBulk (cur k) i) (by decide) (by decide) (hv.2.2.2.2.2 i hi').2.2.1 (wk_12 _ _ 5)
  have h2 : IV k k M2 := h1.out b4 fun x j q => by omega
  have a1' : F_X6_mid fu M (nI i) 5 0 = _ := a1
  have hb' : F_X6_bulk fu M1 (nI i) 5 = _ := hb
  have b1' : F_X6_mid fu M1 (nI i) 5 12 = _ := b1
  unfold F_L_law_1053
  rw [if_pos (lcmp0 ht), a1', ob2_s, if_pos rfl, m_upper, ob1_s, hb', ob1_s, a2, nI_l (by omega), if_pos (lcmp0 rfl), m_lower, ob1_s, a3, if_pos lc1, b1', ob2_s, if_pos rfl, m_upper, ob1_s, L6, nI_add, x86 (by omega), clN (by omega), (sv_b h2 hi).1, b2, nI_l (by omega), e2, if_pos (lcmp0 rfl), m_count2, ob1_s, h2.2.2.2.2.2.1]
  exact T1138 hL hf (vMen k.1) fu 0 M2 (by omega) (by omega) h2
theorem T970 {L : Nat} (hL : L ≤ 260) {xs : Nat → Int32} {fu : Nat} (hf : 1000 ≤ fu) {k s : Ns} {M : Mm} (h : IV k s M) {i : Nat} (hi : i < vMen k.1) {t0 t1 : Int32} (ht : t0 = t1) : F_L_law_970 L xs fu M (nI (vMen k.1)) (nI i) t0 t1 = some () := by
  obtain ⟨M1, o1, o2, o3⟩ := m_on (fu := fu) hf h
  obtain ⟨hv, hc, hm, h0, h6⟩ := o2.v
  obtain ⟨e1, e2, e3, e4, e5⟩ := o2.k0
  obtain ⟨s1, s2, s3, s4, s5⟩ := sv_b o2 hi
  have hi' : i < vMen (cur k) := by omega
  have hb99 := (hv.2.2.2.2.2 i hi').2.2.1
  have h99 : blk (cur k) i 5 ≤ 99 := Nat.le_trans (Nat.sub_le _ _) hb99
  obtain ⟨⟨M2, a1, a2, a3, a4⟩, -⟩ := m_odds (fu := fu) hf hv hc hi' (n := 5) (p := 12) (c := vBulk (cur k) i) (by decide) (by decide) hb99 (wk_12 _ _ 5)
  have h2 : IV k k M2 := o2.out a4 fun x j q => by omega
  obtain ⟨-, hc2, -⟩ := h2.v
  obtain ⟨⟨M3, b1, b2, b3, b4⟩, -⟩ := m_odds (fu := fu) hf hv hc2 hi' (n := 5) (p := 0) (c := blk (cur k) i 5) (by decide) (by decide) h99 (wk_0 hv hi' 5)
  have h3 : IV k k M3 := h2.out b4 fun x j q => by omega
  obtain ⟨-, hc3, -⟩ := h3.v
  have hb := m_bulk (fu := fu) hf hv hc3 hi' (n := 5) (by decide)
  have a1' : F_X6_odds fu M1 (nI i) 5 12 = _ := a1
  have b1' : F_X6_odds fu M2 (nI i) 5 0 = _ := b1
  have hb' : F_X6_bulk fu M3 (nI i) 5 = _ := hb
  have c1 : M1.1 24 2 = 0 := by rw [o2.2.2.2.2.2.2.1, e5]; rfl
  rw [if_pos (show 0 < vBulk (cur k) i by rw [e2]; omega)] at a2
  unfold F_L_law_970
  rw [if_pos ht, o1, ob2_s, if_pos rfl, m_count1, ob1_s, c1, if_pos rfl, a1', ob2_s, if_pos rfl, m_upper, ob1_s, a2, if_pos lc1, m_lower, ob1_s, a3, if_pos lc1, b1', ob2_s, if_pos rfl, m_upper, ob1_s, hb', ob1_s, b2]
  by_cases hc5 : 0 < blk (cur k) i 5
  · rw [if_neg (nI_nle hc5 (by omega)), if_pos hc5]
    exact T1053 hL hf h3 hi rfl
  · rw [if_pos (le00 (by omega)), if_neg hc5]
    exact T1053 hL hf h3 hi rfl
theorem nxt_day {k s : Ns} {t : Nat} (h : cur s = dayV (cur k) t) : cur (nxt s (0, 0, 0)) = dayV (cur k) (t + 1) := by
  rw [nxt_cur, h, dayV_s]
theorem T853 {L : Nat} (hL : L ≤ 260) {xs : Nat → Int32} {fu : Nat} (hf : 1000 ≤ fu) {k : Ns} {i far : Nat} (hi : i < vMen k.1) (hfar : far < 20) : ∀ (m n t : Nat) (s : Ns) (M : Mm), t + m = far → m < n → IV k s M → cur s = dayV (cur k) t → s.2.2.1 = t → F_L_law_853 L xs fu n M (nI (vMen k.1)) (nI i) (nI far) (nI (yes (cur k) far)) (nI (nay (cur k) far)) (nI (blk (cur k) i far)) (hrF (cur k) far i (vMen (cur k) - i) i) (srch (goneP (cur k) i) 61 0) (nI t) = some () := by
  intro m
  induction m with
  | zero =>
    intro n t s M ht hn h hcur hD
    obtain ⟨n, rfl⟩ : ∃ q, n = q + 1 := ⟨n - 1, by omega⟩
    have htt : t = far := by omega
    subst htt
    obtain ⟨hv, hc, hm, h0, h6⟩ := h.v
    obtain ⟨e1, e2, e3, e4, e5⟩ := h.k0
    have hvk := h.1.1.v
    have hi' : i < vMen (cur s) := by omega
    have hik : i < vMen (cur k) := by omega
    have h99 : blk (cur k) i t ≤ 99 := Nat.le_trans (Nat.sub_le _ _) (hvk.2.2.2.2.2 i hik).2.2.1
    have hvo := m_votes (fu := fu) hf hv hc h0 (n := 0) (by decide)
    obtain ⟨y1, y2⟩ := yes_day (cur k) t
    rw [hcur, y1, y2] at hvo
    have h' := tC_i h (nI (nay (cur k) t))
    obtain ⟨-, hc', -⟩ := h'.v
    have hb := m_bulk (fu := fu) hf hv hc' hi' (n := 0) (by decide)
    rw [hcur, blk_day, Nat.add_zero] at hb
    have hh := m_heir (fu := fu) hf hv hc' hi' (n := 0) (by decide)
    rw [hcur, hrF_cg (blkP_day (cur k) t)] at hh
    have hvo' : F_X6_votes fu M 0 = _ := hvo
    have hb' : F_X6_bulk fu (tC (nI (nay (cur k) t)) M) (nI i) 0 = _ := hb
    have hh' : F_X6_heir fu (tC (nI (nay (cur k) t)) M) (nI i) 0 = some (hrF (cur k) t i (vMen (cur k) - i) i) := hh
    have hhe := heir_i (v := cur k) hvk (N := t) hik
    unfold F_L_law_853
    rw [if_pos (nI_le (by omega) (by omega)), hvo', ob2_s, if_pos rfl, m_asked, ob1_s, tC_a, if_pos rfl, hb', ob1_s, if_pos rfl, hh', ob1_s, if_pos rfl]
    by_cases hp : 0 < blk (cur k) i t
    · rw [if_pos (hhe.mpr hp)]
      unfold F_L_law_960
      rw [if_neg (nI_nle hp (by omega))]
      exact T970 hL hf h' hi rfl
    · rw [if_neg (fun q => hp (hhe.mp q))]
      unfold F_L_law_960
      rw [if_pos (le00 (by omega))]
      exact T970 hL hf h' hi rfl
  | succ m ih =>
    intro n t s M ht hn h hcur hD
    obtain ⟨n, rfl⟩ : ∃ q, n = q + 1 := ⟨n - 1, by omega⟩
    obtain ⟨hv, hc, hm, h0, h6⟩ := h.v
    have hi' : i < vMen (cur s) := by omega
    obtain ⟨M1, d1, d2, d3⟩ := m_day (fu := fu) hf h (by omega)
    have hp := pc_le (whoN (cur (nxt s (0, 0, 0))) 1 0)
    have ih1 := ih n (t + 1) (nxt s (0, 0, 0)) M1 (by omega) (by omega) d2 (nxt_day hcur) (by rw [nxt_n, hD])
    have e890 : F_L_law_890 L xs fu (F_L_law_853 L xs fu n) M (nI (vMen k.1)) (nI i) (nI far) (nI (yes (cur k) far)) (nI (nay (cur k) far)) (nI (blk (cur k) i far)) (hrF (cur k) far i (vMen (cur k) - i) i) (srch (goneP (cur k) i) 61 0) (nI t) = some () := by
      unfold F_L_law_890
      rw [d1, ob2_s, if_pos (nI_pos' (by omega)), nI_1]
      exact ih1
    have hg := m_gone (fu := fu) hf hv hc hi'
    unfold F_L_law_853
    rw [if_neg (nI_ge (by omega) (by omega))]
    rcases srch_inv (p := goneP (cur k) i) (m := 61) (d := 0) (by decide) with q | ⟨j, q1, q2, q3, -, -⟩
    · rw [q] at e890 ⊢
      rw [if_pos (by decide)]
      exact e890
    · have hgd := gone_day (t := t) (by omega) q3
      rw [hcur, hgd] at hg
      rw [q3] at e890 ⊢
      rw [if_neg (nI_pos (by omega)), hg, ob1_s]
      have e887 : ∀ t1, nI (j - t) = t1 → F_L_law_887 L xs fu (F_L_law_853 L xs fu n) M (nI (vMen k.1)) (nI i) (nI far) (nI (yes (cur k) far)) (nI (nay (cur k) far)) (nI (blk (cur k) i far)) (hrF (cur k) far i (vMen (cur k) - i) i) (nI j) (nI t) (nI (j - t)) t1 = some () := fun t1 ht1 => by
        unfold F_L_law_887
        rw [if_pos ht1]
        exact e890
      by_cases hjt : j ≤ t
      · rw [if_pos (nI_le hjt (by omega))]
        exact e887 0 (by rw [show j - t = 0 by omega]; rfl)
      · rw [if_neg (nI_ge (by omega) (by omega))]
        exact e887 _ (pk_sub (by omega)).symm
theorem T832 {L : Nat} (hL : L ≤ 260) {xs : Nat → Int32} {fu : Nat} (hf : 1000 ≤ fu) {k s : Ns} {M : Mm} (h : IV k s M) (hcur : cur s = cur k) (hD : s.2.2.1 = 0) {i far : Nat} (hi : i < vMen k.1) (hfar : far < 20) {x15 x16 : Int32} (hw : x15 = -9 ∨ ∃ w, w < vMen k.1 ∧ x15 = nI w ∧ srch (goneP (cur k) w) 61 0 = x16) : F_L_law_832 L xs fu M (nI (vMen k.1)) (nI i) (nI far) (nI (yes (cur k) far)) (nI (nay (cur k) far)) x15 x16 (nI (blk (cur k) i far)) (hrF (cur k) far i (vMen (cur k) - i) i) (srch (goneP (cur k) i) 61 0) = some () := by
  obtain ⟨hv, hc, hm, h0, h6⟩ := h.v
  have e := T853 hL (xs := xs) hf hi hfar far fu 0 s M (by omega) (by omega) h (by rw [hcur, dayV_0]) hD
  unfold F_L_law_832
  rcases hw with rfl | ⟨w, hw, rfl, hg⟩
  · rw [if_pos (by decide)]
    exact e
  · have hgo := m_gone (fu := fu) hf hv hc (i := w) (by omega)
    rw [hcur, hg] at hgo
    rw [if_neg (nI_pos (by omega)), hgo, ob1_s, if_pos rfl]
    exact e
theorem onP_blk {v : NV} (hv : okV v) {i t : Nat} (hi : i < vMen v) (ht : t < 61) : onP v i t = decide (0 < blk v i t) := by
  rw [← onP_e hv hi ht, who_bit 1 t hi]
  show hasR (vKind v i) (blk v i t) 1 = _
  unfold hasR
  by_cases h4 : vKind v i = 4
  · rw [if_pos h4]
  · rw [if_neg h4]
    exact decide_eq_decide.mpr ⟨fun h => by omega, fun h => by omega⟩
/-- the order in row 3 -/
def R3 (k : Ns) (M : Mm) : Prop := M.1 4 0 = 1 ∧ M.1 4 1 = nI (vMen k.1) ∧ ∀ j, j < vMen k.1 → M.1 10 j = nI (lf (gd (cur k) (vMen k.1) (vMen k.1) 0 0) j)
theorem R3.cg {k : Ns} {M M' : Mm} (h : R3 k M) (g4 : M'.1 4 = M.1 4) (g10 : M'.1 10 = M.1 10) : R3 k M' := by
  unfold R3
  rw [g4, g10]
  exact h
theorem T666 {L : Nat} (hL : L ≤ 260) {xs : Nat → Int32} {fu : Nat} (hf : 1000 ≤ fu) {k : Ns} {i c : Nat} (hi : i < vMen k.1) (hG : ∀ j, j < vMen k.1 → lf (gd (cur k) (vMen k.1) (vMen k.1) 0 0) j < vMen k.1) : ∀ (m n t a : Nat) (s : Ns) (M : Mm), t + m = vMen k.1 → m < n → IV k s M → R3 k M → cur s = dayV (cur k) t → s.2.2.1 = t → a + cs (cur k) (lf (gd (cur k) (vMen k.1) (vMen k.1) 0 0)) m t = c → F_L_law_666 L xs fu n M (nI (vMen k.1)) (nI i) (nI c) (nI a) (nI t) = some () := by
  intro m
  induction m with
  | zero =>
    intro n t a s M ht hn h hr hcur hD ha
    obtain ⟨n, rfl⟩ : ∃ q, n = q + 1 := ⟨n - 1, by omega⟩
    obtain ⟨hv, hc, hm, h0, h6⟩ := h.v
    obtain ⟨e1, e2, e3, e4, e5⟩ := h.k0
    have hac : a = c := ha
    have htt : t = vMen k.1 := by omega
    obtain ⟨M1, u1, u2, u3⟩ := m_undo (fu := fu) hf h
    have hcur1 : cur (s.1, s.2.1, 0, s.2.2.2) = cur k := by
      rw [cur_0 h.1.2.2.1, ← h.2.2.1, ← h.2.2.2.1]
      rfl
    obtain ⟨hv1, hc1, hm1, h01, -⟩ := u2.v
    obtain ⟨d, ed⟩ := cell_e hL xs (j := 11) (by omega)
    obtain ⟨far, hfar, ef⟩ := up_e d (n := 20) (by decide) (by decide)
    have hvo := m_votes (fu := fu) hf hv1 hc1 h01 (n := far) (by omega)
    rw [hcur1] at hvo
    have h2 := tC_i u2 (nI (nay (cur k) far))
    obtain ⟨-, hc2, -⟩ := h2.v
    have hwi := m_widow (fu := fu) hf hv1 hc2 h01
    rw [hcur1] at hwi
    have hi1 : i < vMen (cur (s.1, s.2.1, 0, s.2.2.2)) := by omega
    have rest : ∀ M2, IV k (s.1, s.2.1, 0, s.2.2.2) M2 → F_X6_bulk fu M2 (nI i) (nI far) = some (nI (blk (cur k) i far)) ∧ F_X6_heir fu M2 (nI i) (nI far) = some (hrF (cur k) far i (vMen (cur k) - i) i) ∧ F_X6_gone fu M2 (nI i) = some (srch (goneP (cur k) i) 61 0) := fun M2 q => by
      obtain ⟨-, hq, -⟩ := q.v
      have b1 := m_bulk (fu := fu) hf hv1 hq hi1 (n := far) (by omega)
      have b2 := m_heir (fu := fu) hf hv1 hq hi1 (n := far) (by omega)
      have b3 := m_gone (fu := fu) hf hv1 hq hi1
      rw [hcur1] at b1 b2 b3
      exact ⟨b1, b2, b3⟩
    have ed' : F_L_cell L xs fu M1 11 = some d := ed fu M1
    have ef' : F_L_up fu M1 d 20 = some (nI far) := ef fu M1
    have c1 : M.1 24 2 = nI (vMen k.1) := by
      rw [h.2.2.2.2.2.2.1, hcur]
      show nI (vDay (cur k) + t) = _
      rw [e5, htt, Nat.zero_add]
    unfold F_L_law_666
    rw [if_pos (nI_le (by omega) (by omega)), hac, if_pos rfl, m_count1, ob1_s, c1, if_pos rfl, u1, ob2_s, hD, htt, if_pos rfl, ed', ob1_s, ef', ob1_s, hvo, ob2_s, m_asked, ob1_s, tC_a]
    rcases hwi with q | ⟨w, sw, q1, q2, q3, q4⟩
    · obtain ⟨b1, b2, b3⟩ := rest _ h2
      rw [q, ob2_s, m_asked, ob1_s, tC_a, b1, ob1_s, b2, ob1_s, b3, ob1_s, if_neg (by decide), if_pos rfl]
      exact T832 hL hf h2 hcur1 rfl hi hfar (Or.inl rfl)
    · have h3 := tC_i h2 (nI sw)
      obtain ⟨b1, b2, b3⟩ := rest _ h3
      rw [q4, ob2_s, m_asked, ob1_s, tC_a, b1, ob1_s, b2, ob1_s, b3, ob1_s, if_pos (nI_pos' (by omega))]
      exact T832 hL hf h3 hcur1 rfl hi hfar (Or.inr ⟨w, by omega, rfl, q3⟩)
  | succ m ih =>
    intro n t a s M ht hn h hr hcur hD ha
    obtain ⟨n, rfl⟩ : ∃ q, n = q + 1 := ⟨n - 1, by omega⟩
    have hvk := h.1.1.v
    obtain ⟨e1, e2, e3, e4, e5⟩ := h.k0
    have ht' : t < vMen k.1 := by omega
    have hg := hG t ht'
    obtain ⟨r1, r2, r3⟩ := hr
    have ha1 := m_at (fu := fu) (M := M) (r := 3) (i := t) (by decide) r1 r2 (by have := h.1.1.1.1; omega) ht'
    rw [show M.1 (1 + 3 + 6) t = _ from r3 t ht'] at ha1
    generalize hgl : lf (gd (cur k) (vMen k.1) (vMen k.1) 0 0) t = g at hg ha1
    have h' := tC_i h (nI g)
    have hr' : R3 k (tC (nI g) M) := R3.cg ⟨r1, r2, r3⟩ ((tC_out (nI g) M).f fun j => by omega) ((tC_out (nI g) M).f fun j => by omega)
    obtain ⟨hv, hc, hm, h0, h6⟩ := h'.v
    have hb := m_bulk (fu := fu) hf hv hc (i := g) (n := 0) (by omega) (by decide)
    rw [hcur, blk_day, Nat.add_zero] at hb
    have h99 : blk (cur k) g t ≤ 99 := Nat.le_trans (Nat.sub_le _ _) (hvk.2.2.2.2.2 g (by omega)).2.2.1
    obtain ⟨M1, d1, d2, d3⟩ := m_day (fu := fu) hf h' (by omega)
    have hp := pc_le (whoN (cur (nxt s (0, 0, 0))) 1 0)
    have hr1 : R3 k M1 := hr'.cg (d3.f fun j => by unfold pN; omega) (d3.f fun j => by unfold pN; omega)
    have hcs : a + ((if 0 < blk (cur k) g t then 1 else 0) + cs (cur k) (lf (gd (cur k) (vMen k.1) (vMen k.1) 0 0)) m (t + 1)) = c := by
      rw [← ha, show cs (cur k) (lf (gd (cur k) (vMen k.1) (vMen k.1) 0 0)) (m + 1) t = (if onP (cur k) (lf (gd (cur k) (vMen k.1) (vMen k.1) 0 0) t) t = true then 1 else 0) + cs (cur k) (lf (gd (cur k) (vMen k.1) (vMen k.1) 0 0)) m (t + 1) from rfl]
      rw [hgl, onP_blk hvk (by omega) (by omega)]
      by_cases hq : 0 < blk (cur k) g t
      · rw [if_pos hq, if_pos (decide_eq_true hq)]
      · rw [if_neg hq, if_neg (by simpa using hq)]
    have ih1 := fun a' (q : a' + cs (cur k) (lf (gd (cur k) (vMen k.1) (vMen k.1) 0 0)) m (t + 1) = c) => ih n (t + 1) a' (nxt s (0, 0, 0)) M1 (by omega) (by omega) d2 hr1 (nxt_day hcur) (by rw [nxt_n, hD]) q
    have ha1' : F_X6_at fu M 3 (nI t) = _ := ha1
    have hb' : F_X6_bulk fu (tC (nI g) M) (nI g) 0 = _ := hb
    unfold F_L_law_666
    rw [if_neg (nI_ge ht' (by omega)), ha1', ob2_s, if_pos rfl, m_asked, ob1_s, tC_a, hb', ob1_s]
    by_cases hq : 0 < blk (cur k) g t
    · rw [if_neg (nI_nle hq (by omega))]
      unfold F_L_law_708
      rw [d1, ob2_s, if_pos (nI_pos' (by omega)), nI_1, nI_1]
      rw [if_pos hq] at hcs
      exact ih1 (a + 1) (by omega)
    · rw [if_pos (le00 (by omega))]
      unfold F_L_law_708
      rw [d1, ob2_s, if_pos (nI_pos' (by omega)), show nI a + (0 : Int32) = nI a from by rw [L0, nI_add, Nat.add_zero], nI_1]
      rw [if_neg hq] at hcs
      exact ih1 a (by omega)
theorem T630 {L : Nat} (hL : L ≤ 260) {xs : Nat → Int32} {fu : Nat} (hf : 1000 ≤ fu) {k : Ns} {M : Mm} (h : IV k k M) {i : Nat} (hi : i < vMen k.1) : F_L_law_630 L xs fu M (nI (vMen k.1)) (nI i) = some () := by
  obtain ⟨hv, hc, hm, h0, h6⟩ := h.v
  obtain ⟨M1, a1, a2, a3, a4, a5⟩ := m_census (fu := fu) hf hv hc h0 (r := 3) (by decide)
  obtain ⟨g1, g2, g3, g4⟩ := gd_ok (v := cur k) (n := vMen (cur k)) hv.1 (vMen (cur k)) 0 0 (by omega) (Nat.two_pow_pos _) rfl
  have h1 : IV k k M1 := h.out a5 fun x j q => by omega
  obtain ⟨-, hc1, -⟩ := h1.v
  have hk := g4 (M1.1 (1 + 3 + 6)) 0 fun j hj => by rw [Nat.zero_add]; exact a4 j hj
  obtain ⟨M2, b1, b2⟩ := m_counted (fu := fu) hf hv hc1 h0 (r := 3) (by decide) a2 a3 hk
  have h2 : IV k k M2 := h1.out b2 fun x j q => by omega
  have ec : cs (cur k) (yN (M1.1 (1 + 3 + 6))) (vMen (cur k)) 0 = dp (cur k) (vMen (cur k)) (vMen (cur k)) 0 0 := by
    rw [cs_wv (vMen (cur k)) 0 _ g1 fun j hj => by
      unfold yN
      have := g3 j hj
      rw [Nat.zero_add, a4 j hj, clN (by omega)], g2]
  have ec2 : cs (cur k) (lf (gd (cur k) (vMen (cur k)) (vMen (cur k)) 0 0)) (vMen (cur k)) 0 = dp (cur k) (vMen (cur k)) (vMen (cur k)) 0 0 := by
    rw [cs_wv (vMen (cur k)) 0 _ g1 fun j hj => by rw [Nat.zero_add], g2]
  have hdp := dp_le (cur k) (vMen (cur k)) (vMen (cur k)) 0 0
  rw [ec] at b1
  have a1' : F_X6_census fu M 3 = _ := a1
  have b1' : F_X6_counted fu M1 3 = _ := b1
  have hr : R3 k M2 := by
    rw [hm] at a3 a4
    exact R3.cg ⟨a2, a3, a4⟩ (b2.f fun j => by omega) (b2.f fun j => by omega)
  rw [hm] at ec2 g3 hdp a1' b1'
  unfold F_L_law_630
  rw [a1', ob2_s, if_neg (nI_pos (by omega)), if_neg (nI_nlt hdp (by omega)), b1', ob2_s, if_pos rfl]
  exact T666 hL hf hi g3 (vMen k.1) fu 0 0 k M2 (by omega) (by omega) h2 hr (by rw [dayV_0]) h.1.2.2.1 (by rw [Nat.zero_add]; exact ec2)
