/-! guard, bribe, census, counted, lots, odds, mid: the class's answers -/
theorem m_guard {fu : Nat} (hf : 1000 ≤ fu) {M : Mm} {v : NV} (hv : okV v) (hc : CV v M) (h0 : 0 < vMen v) {s n r : Nat} (hs : s < 2 ^ vMen v) (hn : n < 61) (hr : r < 6) : (gS v s n (vMen v) 0 0 = none ∧ ∃ M', F_X6_guard fu M (nI s) (nI n) (nI r) = some (-9, M') ∧ Out (fun x _ => x = 82 ∨ x = 1 + r ∨ x = 1 + r + 6) M M') ∨ ∃ a M', gS v s n (vMen v) 0 0 = some a ∧ F_X6_guard fu M (nI s) (nI n) (nI r) = some (nI a, M') ∧ M'.1 (1 + r) 0 = 1 ∧ M'.1 (1 + r) 1 = nI (vMen v) ∧ (∀ j, j < vMen v → ∃ d, glO v s n j = some d ∧ M'.1 (1 + r + 6) j = nI d) ∧ Out (fun x _ => x = 82 ∨ x = 1 + r ∨ x = 1 + r + 6) M M' := by
  have hm := hv.1
  have h64 := p2le hv
  unfold F_X6_guard
  rw [rowOf_C1 hr, ob1_s, op1_s, kd_R hr, if_neg (by decide), isSet_C1 hv hc hs, ob1_s, if_neg one_ne, isAhead_C1 hn, ob1_s, if_neg one_ne, if_neg (by rw [men0_C hv hc]; omega)]
  rcases guard_C51 hf hv (c := 1 + r) (show s < 64 by omega) (show n ≤ 60 by omega) (vMen v) fu M 0 0 (by omega) (by omega) hc (fun j hj => by omega) with ⟨e, M1, a1, a2⟩ | ⟨a, M1, e, p1, a2, a1⟩
  · exact Or.inl ⟨e, M1, a1, a2.wk fun x j q => Or.inl q⟩
  · obtain ⟨M2, t1, t2, t3, t4, t5⟩ := take_C hf (M := M1) hr (nI (vMen v))
    refine Or.inr ⟨a, M2, e, ?_, t2, t3, fun j hj => ?_, (a2.wk fun x j q => Or.inl q).trans (t5.wk fun x j q => Or.inr q)⟩
    · have a1' : F_X6_guard_51 fu fu M (nI s) (nI n) (1 + r) 0 0 = _ := a1
      rw [a1', t1, ob1_s]
    · obtain ⟨d, q1, q2⟩ := p1 j hj
      exact ⟨d, q1, by rw [t4 j (by omega)]; exact q2⟩
theorem bst_ok {v : NV} (hv : okV v) {n : Nat} {b : Bool} : ∀ m s a, s + m ≤ 64 → okA a → okA (bst v n b m s a) := by
  intro m
  induction m with
  | zero => intro s a _ h; exact h
  | succ m ih => intro s a hs h; exact ih (s + 1) _ (by omega) (stp_ok hv (by omega) h)
theorem m_bribe {fu : Nat} (hf : 1000 ≤ fu) {M : Mm} {v : NV} (hv : okV v) (hc : CV v M) (h0 : 0 < vMen v) {n r : Nat} (b : Bool) (hn : n < 61) (hr : r < 6) : (bst v n b (2 ^ vMen v) 0 none = none ∧ ∃ M', F_X6_bribe fu M (bI b) (nI n) (nI r) = some (-9, M') ∧ Out (fun x _ => x = 82 ∨ x = 83 ∨ x = 84 ∨ x = 1 + r ∨ x = 1 + r + 6) M M') ∨ ∃ c0 s0 M', bst v n b (2 ^ vMen v) 0 none = some (c0, s0) ∧ c0 ≤ 54 ∧ s0 < 64 ∧ F_X6_bribe fu M (bI b) (nI n) (nI r) = some (nI c0, M') ∧ M'.1 (1 + r) 0 = 1 ∧ M'.1 (1 + r) 1 = nI (vMen v) ∧ (∀ j, j < vMen v → M'.1 (1 + r + 6) j = oI (nr v n j (s0.testBit j))) ∧ Out (fun x _ => x = 82 ∨ x = 83 ∨ x = 84 ∨ x = 1 + r ∨ x = 1 + r + 6) M M' := by
  have hm := hv.1
  have h64 := p2le hv
  have hC : F_X6_bribe fu M (bI b) (nI n) (nI r) = F_X6_bribe_21 fu M (bI b) (nI n) (1 + r) := by
    unfold F_X6_bribe
    rw [rowOf_C1 hr, ob1_s, op1_s, kd_R hr, if_neg (by decide)]
    cases b <;> rfl
  rw [hC]
  unfold F_X6_bribe_21
  rw [isAhead_C1 hn, ob1_s, if_neg one_ne, if_neg (by rw [men0_C hv hc]; omega)]
  have ha0 : okA none := fun c s e => by cases e
  have hpos := Nat.two_pow_pos (vMen v)
  obtain ⟨M1, a1, a2, a3, a4⟩ := bribe_C46 hf hv (N := n) (c := 1 + r) (x1 := bI b) (by omega) (vMen v) fu M 0 (by omega) (by omega) hc (fun j hj => by omega)
  have a5 := bribe_C114 hf hv a1 (c := 1 + r) b a2 (2 ^ vMen v) fu 0 none (by omega) (by omega) ha0
  have e1 : F_X6_bribe_46 fu fu M (bI b) (nI n) (1 + r) 0 = _ := a4.trans a5
  have hbst := bst_ok hv (n := n) (b := b) (2 ^ vMen v) 0 none (by omega) ha0
  cases hbs : bst v n b (2 ^ vMen v) 0 none with
  | none =>
    rw [hbs] at e1
    exact Or.inl ⟨rfl, M1, e1, a3.wk fun x j q => by omega⟩
  | some q =>
    obtain ⟨c0, s0⟩ := q
    rw [hbs] at e1 hbst
    have hq := hbst c0 s0 rfl
    obtain ⟨M2, p1, p2, p3⟩ := bribe_C206 (fu := fu) hv (N := n) (c := 1 + r) (x5 := nI c0) hq.2 (vMen v) fu M1 0 (by omega) (by omega) a1 a2 (fun j hj => by omega)
    obtain ⟨M3, t1, t2, t3, t4, t5⟩ := take_C hf (M := M2) hr (nI (vMen v))
    refine Or.inr ⟨c0, s0, M3, rfl, hq.1, hq.2, ?_, t2, t3, fun j hj => by rw [t4 j (by omega), p1 j hj], (((a3.wk fun x j q => by omega).trans (p2.wk fun x j q => by omega))).trans (t5.wk fun x j q => by omega)⟩
    have p3' : F_X6_bribe_206 fu fu M1 (1 + r) (nI c0) (nI s0) 0 = _ := p3
    rw [e1]
    show F_X6_bribe_206 fu fu M1 (1 + r) (nI c0) (nI s0) 0 = _
    rw [p3', t1, ob1_s]
theorem m_census {fu : Nat} (hf : 1000 ≤ fu) {M : Mm} {v : NV} (hv : okV v) (hc : CV v M) (h0 : 0 < vMen v) {r : Nat} (hr : r < 6) : ∃ M', F_X6_census fu M (nI r) = some (nI (dp v (vMen v) (vMen v) 0 0), M') ∧ M'.1 (1 + r) 0 = 1 ∧ M'.1 (1 + r) 1 = nI (vMen v) ∧ (∀ j, j < vMen v → M'.1 (1 + r + 6) j = nI (lf (gd v (vMen v) (vMen v) 0 0) j)) ∧ Out (fun x _ => x = 81 ∨ x = 82 ∨ x = 85 ∨ x = 1 + r ∨ x = 1 + r + 6) M M' := by
  have hm := hv.1
  have n0 : ¬ nI (vMen v) = 0 := nI_ne0 (by omega) (by omega)
  have hpow := Nat.two_pow_pos (vMen v)
  obtain ⟨M1, a1, a2, a3⟩ := foreseeVoters_C hf hv hc (r := 1) (by omega) (by omega)
  have a4 : F_X2_foreseeLiving fu M 24 81 = some M1 := by
    unfold F_X2_foreseeLiving
    rw [L1, a3, ob1_s]
  have o1 : Out (fun x _ => x = 81) M M1 := fr_X2_foreseeLiving a4
  obtain ⟨M2, b1, b2, b3⟩ := fill_C hf hv a1 a2
  have hc2 : CV v M2 := a1.cg fun c _ _ => b3.f fun j => by omega
  obtain ⟨M3, c1, c2, _, c4⟩ := census_C45 hf hv (c := 1 + r) (vMen v) fu 0 0 M2 (by omega) (by omega) hpow rfl hc2 (fun j hj => by rw [(b3 81 j (by omega)).1]; exact a2 j hj) b2
  obtain ⟨M4, d1, d2, d3, d4, d5⟩ := take_C hf (M := M3) hr (nI (vMen v))
  have e85 : M4.1 85 0 = nI (dp v (vMen v) (vMen v) 0 0) := by
    rw [(d5 85 0 (by omega)).1, (c4 85 0 (by omega)).1, b2 0 (by omega) hpow]
    rfl
  refine ⟨M4, ?_, d2, d3, fun j hj => ?_, ((o1.wk fun x j q => Or.inl q).trans ((b3.wk fun x j q => by omega).trans (c4.wk fun x j q => by omega))).trans (d5.wk fun x j q => by omega)⟩
  · unfold F_X6_census
    have c1' : F_X6_census_45 fu fu M2 (1 + r) 0 0 = _ := c1
    rw [rowOf_C1 hr, ob1_s, op1_s, kd_R hr, if_neg (by decide), hc.1, if_neg n0, a4, ob1_s, b1, ob1_s, c1', d1, ob1_s, L0, rd85 (by omega), ob1_s, e85]
  · have := c2 j hj
    rw [Nat.zero_add] at this
    rw [d4 j (by omega), this]
theorem m_counted {fu : Nat} (hf : 1000 ≤ fu) {M : Mm} {v : NV} (hv : okV v) (hc : CV v M) (h0 : 0 < vMen v) {r : Nat} (hr : r < 6) (c1 : M.1 (1 + r) 0 = 1) (c2 : M.1 (1 + r) 1 = nI (vMen v)) (hk : ck (vMen v) (M.1 (1 + r + 6)) (vMen v) 0 0 = true) : ∃ M', F_X6_counted fu M (nI r) = some (nI (cs v (yN (M.1 (1 + r + 6))) (vMen v) 0), M') ∧ Out (fun x _ => x = 81) M M' := by
  have hm := hv.1
  have n0 : ¬ nI (vMen v) = 0 := nI_ne0 (by omega) (by omega)
  obtain ⟨M1, a1, a2, a3⟩ := foreseeVoters_C hf hv hc (r := 1) (by omega) (by omega)
  have a4 : F_X2_foreseeLiving fu M 24 81 = some M1 := by
    unfold F_X2_foreseeLiving
    rw [L1, a3, ob1_s]
  have o : Out (fun x _ => x = 81) M M1 := fr_X2_foreseeLiving a4
  have e6 : M1.1 (1 + r + 6) = M.1 (1 + r + 6) := o.f fun j => by omega
  have hC := counted_C77 (fu := fu) hv a1 a2 hr (vMen v) fu 0 0 0 (by omega) (by omega) (by omega)
  rw [e6, if_pos hk, Nat.zero_add] at hC
  refine ⟨M1, ?_, o⟩
  unfold F_X6_counted
  rw [rowOf_C1 hr, ob1_s, op1_s, kd_R hr, if_neg (by decide), hc.1, if_neg n0, c1, if_neg one_ne, c2, if_pos rfl, a4, ob1_s]
  exact hC
theorem lotB_12 {a : Nat} (ha : a < 2147483647) : lotN (lN a) = lN (a * 48271 % 2147483647) ∧ a * 48271 % 2147483647 < 2147483647 ∧ lotB 12 (lN a) = false := by
  have hm := Nat.mod_lt (a * 48271) (show 0 < 2147483647 by decide)
  have e : lotN (lN a) = lN (a * 48271 % 2147483647) := by
    unfold lotN
    rw [show (48271 : Int64) = lN 48271 from rfl, show (2147483647 : Int64) = lN 2147483647 from rfl, lN_mul, pk_lRem (by omega) (by decide) (by decide)]
  refine ⟨e, hm, lotB_f ?_⟩
  have h12 := Nat.mod_lt (a * 48271 % 2147483647) (show 0 < 12 by decide)
  rw [e, I12, pk_lRem (by omega) (by decide) (by decide), lg_cmp_ge, show (12 : Int32).toInt64 = lN 12 from rfl, pk_lLE (by decide) (by omega)]
  omega
/-- n days of clouds, nothing melts -/
def cld : Nat → Ns → Ns
  | 0, s => s
  | m + 1, s => cld m (nxt s (1, 0, 0))
def lotP (y : Int64) : Prop := ∃ a, a < 2147483647 ∧ y = lN a
theorem lotP_s {y : Int64} (h : lotP y) : lotP (lotN y) ∧ lotB 12 y = false := by
  obtain ⟨a, ha, rfl⟩ := h
  obtain ⟨e1, e2, e3⟩ := lotB_12 ha
  exact ⟨⟨_, e2, e1⟩, e3⟩
theorem itr_cld : ∀ (m : Nat) (s : Ns) (y : Int64), lotP y → itr (lotB 12) lotN m s y = cld m s := by
  intro m
  induction m with
  | zero => intro s y _; rfl
  | succ m ih =>
    intro s y h
    obtain ⟨h1, h2⟩ := lotP_s h
    rw [itr_s, h2]
    exact ih (nxt s (1, 0, 0)) (lotN y) h1
theorem cld_1 : ∀ m s, (cld m s).1 = s.1 ∧ (cld m s).2.2.2 = s.2.2.2 ∧ vBulk (cur (cld m s)) = vBulk (cur s) := by
  intro m
  induction m with
  | zero => intro s; exact ⟨rfl, rfl, rfl⟩
  | succ m ih =>
    intro s
    obtain ⟨a, b, c⟩ := ih (nxt s (1, 0, 0))
    refine ⟨a, b, c.trans ?_⟩
    rw [nxt_cur]
    rfl
theorem m_lots {fu : Nat} (hf : 1000 ≤ fu) {k s : Ns} {M : Mm} (h : IV k s M) {N : Nat} (hN1 : 1 ≤ N) (hN : N ≤ 20) (hD : s.2.2.1 + N ≤ 60) : ∃ M', F_X6_lots fu M (nI N) 12 7 = some (nI (pc (whoN (cur (cld N s)) 1 0)), M') ∧ IV k (cld N s) M' ∧ Out pN M M' := by
  obtain ⟨hv, hcv, hm, h0, h6⟩ := h.v
  have hs := h.2.1
  have hc := h.2.2.2.2
  obtain ⟨c1, M', c2, c3, c4⟩ := lots_C72 (fu := fu) hf (p := 12) hN N fu M 0 s (lN 7) (by omega) (by omega) hs (by rw [h.2.2.1]; exact h.1.2.1) hD hc
  rw [itr_cld N s (lN 7) ⟨7, by decide, rfl⟩] at c1 c2 c3
  obtain ⟨d1, d2, d3⟩ := cld_1 N s
  refine ⟨M', ?_, h.north c4 (fun x j q => by unfold pN at q; omega) c1 (d1.trans h.2.2.1) (d2.trans h.2.2.2.1) c3, c4⟩
  have e1 : ¬ nI N < 1 := by rw [L1]; exact nI_nlt (by omega) (by omega)
  have e2 : ¬ (20 : Int32) < nI N := by rw [L20]; exact nI_nlt (by omega) (by omega)
  unfold F_X6_lots
  rw [if_neg e1, if_neg e2, if_neg (by decide), if_neg (by decide), if_neg (by decide), if_pos (by decide), if_neg (by rw [men0_C hv hcv]; omega), hc.2.2.2.1, nI_add, L60, if_pos (nI_le (by omega) (by omega))]
  exact c2
theorem sf_0 : ∀ m d, sf (fun _ => 0) m d = 0 := by
  intro m
  induction m with
  | zero => intro d; rfl
  | succ m ih => intro d; show 0 + sf _ m (d + 1) = 0; rw [ih]
theorem sf_pt {c x : Nat} (f : Nat → Nat) : ∀ m d, sf (fun t => f t * (if c = t then x else 0)) m d = if d ≤ c ∧ c < d + m then f c * x else 0 := by
  intro m
  induction m with
  | zero => intro d; rw [if_neg (by omega)]; rfl
  | succ m ih =>
    intro d
    show f d * (if c = d then x else 0) + sf _ m (d + 1) = _
    rw [ih]
    by_cases h : c = d
    · subst h
      rw [if_pos rfl, if_neg (by omega), if_pos (by omega), Nat.add_zero]
    · rw [if_neg h, Nat.mul_zero, Nat.zero_add]
      by_cases h2 : d + 1 ≤ c ∧ c < d + 1 + m
      · rw [if_pos h2, if_pos (by omega)]
      · rw [if_neg h2, if_neg (by omega)]
theorem wk_12 (v : NV) (i : Nat) : ∀ k, wk v i 12 k = fun t => if vBulk v i = t then 12 ^ k else 0 := by
  intro k
  induction k with
  | zero =>
    funext t
    show (if t = vBulk v i then 1 else 0) = _
    by_cases h : t = vBulk v i
    · rw [if_pos h, if_pos h.symm, Nat.pow_zero]
    · rw [if_neg h, if_neg (fun q => h q.symm)]
  | succ k ih =>
    funext t
    show 12 * wk v i 12 k t + sumS (fun b => if b - _ = t then (12 - 12) * wk v i 12 k b else 0) 100 = _
    have e : (fun b => if b - melD v (vKind v i) (vShade v i) k = t then (12 - 12) * wk v i 12 k b else 0) = (fun _ => 0) := by
      funext b
      rw [Nat.sub_self, Nat.zero_mul, ite_self]
    rw [e, sumS_0, ih]
    show 12 * (if vBulk v i = t then 12 ^ k else 0) + 0 = _
    by_cases h : vBulk v i = t
    · rw [if_pos h, if_pos h, Nat.pow_succ, Nat.add_zero, Nat.mul_comm]
    · rw [if_neg h, if_neg h, Nat.mul_zero]
theorem blk_s (v : NV) (i k : Nat) : blk v i (k + 1) = blk v i k - melD v (vKind v i) (vShade v i) k := by
  unfold blk
  rw [melF_s, Nat.zero_add, Nat.sub_sub]
theorem wk_0 {v : NV} (hv : okV v) {i : Nat} (hi : i < vMen v) : ∀ k, wk v i 0 k = fun t => if blk v i k = t then 12 ^ k else 0 := by
  intro k
  have hb := (hv.2.2.2.2.2 i hi).2.2.1
  induction k with
  | zero =>
    funext t
    show (if t = vBulk v i then 1 else 0) = (if vBulk v i - 0 = t then 12 ^ 0 else 0)
    by_cases h : t = vBulk v i
    · rw [if_pos h, if_pos (by omega), Nat.pow_zero]
    · rw [if_neg h, if_neg (by omega)]
  | succ k ih =>
    funext t
    show 0 * wk v i 0 k t + sumS (fun b => if b - melD v (vKind v i) (vShade v i) k = t then (12 - 0) * wk v i 0 k b else 0) 100 = _
    have hbk : blk v i k ≤ 99 := Nat.le_trans (Nat.sub_le _ _) hb
    have e : (fun b => if b - melD v (vKind v i) (vShade v i) k = t then (12 - 0) * wk v i 0 k b else 0) = (fun b => if blk v i k = b then (if blk v i (k + 1) = t then 12 ^ (k + 1) else 0) else 0) := by
      funext b
      rw [ih]
      show (if b - melD v (vKind v i) (vShade v i) k = t then (12 - 0) * (if blk v i k = b then 12 ^ k else 0) else 0) = _
      by_cases h : blk v i k = b
      · rw [if_pos h, if_pos h, blk_s, h]
        by_cases h2 : b - melD v (vKind v i) (vShade v i) k = t
        · rw [if_pos h2, if_pos h2, Nat.pow_succ, Nat.mul_comm]
        · rw [if_neg h2, if_neg h2]
      · rw [if_neg h, if_neg h, Nat.mul_zero, ite_self]
    rw [e, sumS_ite 100 (by omega), Nat.zero_mul, Nat.zero_add]
theorem frac_C {fu : Nat} (hf : 1000 ≤ fu) {M : Mm} {e N : Nat} (he : e ≤ 99) (hN : N ≤ 8) : F_X6_tellChance fu M (lN (e * 12 ^ N)) (lN (12 ^ N)) = some (pL (pL M 0 10 (lN e)) 0 11 (lN 1)) := by
  have hp := p12 hN
  have h0 : 0 < 12 ^ N := Nat.pow_pos (by decide)
  have hle : e * 12 ^ N ≤ 99 * 429981696 := Nat.mul_le_mul he hp
  rw [tellCh_C hf (by omega) hN, Nat.gcd_eq_right (Nat.dvd_mul_left _ _), pk_lDiv (by omega) h0 (by omega), pk_lDiv (by omega) h0 (by omega), Nat.mul_div_cancel _ h0, Nat.div_self h0]
/-- a chance for sure: c BULK in the end, or what is counted of it -/
theorem m_odds {fu : Nat} (hf : 1000 ≤ fu) {M : Mm} {v : NV} (hv : okV v) (hc : CV v M) {i n p c : Nat} (hi : i < vMen v) (hn : n ≤ 8) (hp : p ≤ 12) (hcb : c ≤ 99) (hw : wk v i p n = fun t => if c = t then 12 ^ n else 0) : (∃ M', F_X6_odds fu M (nI i) (nI n) (nI p) = some (1, M') ∧ M'.2 0 10 = lN (if 0 < c then 1 else 0) ∧ M'.2 0 11 = lN 1 ∧ Out (fun x _ => x = 0 ∨ x = 77 ∨ x = 78 ∨ x = 79) M M') ∧ ∃ M', F_X6_mid fu M (nI i) (nI n) (nI p) = some (1, M') ∧ M'.2 0 10 = lN c ∧ M'.2 0 11 = lN 1 ∧ Out (fun x _ => x = 0 ∨ x = 77 ∨ x = 78 ∨ x = 79) M M' := by
  obtain ⟨M1, a1, a2, a3, a4⟩ := weigh_C hf hv hc hi hn hp
  have e0 : ∀ G : Option (Int32 × Mm), ob1 (F_X2_isMan fu M 24 (nI i)) (fun r2 => if r2 = 0 then some ((-1 : Int32), M) else if nI n < 0 then some ((-1 : Int32), M) else if (8 : Int32) < nI n then some ((-1 : Int32), M) else if nI p < 0 then some ((-1 : Int32), M) else if nI p ≤ (12 : Int32) then G else some ((-1 : Int32), M)) = G := fun G => by
    rw [isMan_C1 hv hc hi, ob1_s, if_neg one_ne, if_neg (nI_pos (by omega)), L8, if_neg (nI_nlt (by omega) (by omega)), if_neg (nI_pos (by omega)), L12, if_pos (nI_le (by omega) (by omega))]
  have o : ∀ A B : Int64, Out (fun x _ => x = 0 ∨ x = 77 ∨ x = 78 ∨ x = 79) M (pL (pL M1 0 10 A) 0 11 B) := fun A B => ((a4.wk fun x j q => by omega).pL (by omega)).pL (by omega)
  refine ⟨⟨pL (pL M1 0 10 (lN (if 0 < c then 1 else 0))) 0 11 (lN 1), ?_, by rw [pL_n (by omega), pL_s], by rw [pL_s], o _ _⟩, ⟨pL (pL M1 0 10 (lN c)) 0 11 (lN 1), ?_, by rw [pL_n (by omega), pL_s], by rw [pL_s], o _ _⟩⟩
  · have hwy := ways_C4 (fu := fu) a2 99 fu 1 0 (by decide) (by omega)
    have es : sf (wk v i p n) 99 1 = (if 0 < c then 1 else 0) * 12 ^ n := by
      have e1 : wk v i p n = fun t => (fun _ => 1) t * (if c = t then 12 ^ n else 0) := by
        rw [hw]
        funext t
        rw [Nat.one_mul]
      rw [e1, sf_pt]
      by_cases h : 0 < c
      · rw [if_pos (by omega), if_pos h]
      · rw [if_neg (by omega), if_neg h, Nat.zero_mul]
    rw [Nat.zero_add, es] at hwy
    unfold F_X6_odds
    rw [e0, a1, ob1_s]
    unfold F_X0_waysToLast
    rw [J0, show (1 : Int32) = nI 1 from rfl, hwy, ob1_s, a3, frac_C hf (by split <;> omega) hn, ob1_s]
  · have hwy := bulkW_C4 (fu := fu) a2 99 fu 1 0 (by decide) (by omega)
    have es : sf (fun b => b * wk v i p n b) 99 1 = c * 12 ^ n := by
      rw [hw, sf_pt (fun b => b)]
      by_cases h : 0 < c
      · rw [if_pos (by omega)]
      · rw [if_neg (by omega), show c = 0 by omega, Nat.zero_mul]
    rw [Nat.zero_add, es] at hwy
    unfold F_X6_mid
    rw [e0, a1, ob1_s]
    unfold F_X0_bulkOfWays
    rw [J0, show (1 : Int32) = nI 1 from rfl, hwy, ob1_s, a3, frac_C hf hcb hn, ob1_s]
