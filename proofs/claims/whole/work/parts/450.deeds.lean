/-! deeds -/
theorem Rel.north {P : Nat → Nat → Prop} {M M' : Mm} (h : Rel M) (o : Out P M M') (hp : ∀ x j, P x j → sN x j ∨ scr x j) (hn : RN M') : Rel M' := by
  refine ⟨h.1.out o fun x j q => ?_, h.2.1.out o fun x j q => ?_, h.2.2.1.out o fun x j q => ?_, hn⟩
  · have := hp x j q
    unfold scr sN at this
    unfold sT at this ⊢
    omega
  · have := hp x j q
    unfold scr sN at this
    unfold sR at this ⊢
    omega
  · have := hp x j q
    unfold scr sN at this
    unfold sX at this ⊢
    omega
theorem KP.s {s s' : Ns} (e : s'.1 = s.1) {M : Mm} {k : Nat} (h : KP s M k) : KP s' M k := by
  unfold KP
  rw [e]
  exact h
def upds (ds : Nat → Nat × Nat × Nat) (D : Nat) (q : Nat × Nat × Nat) : Nat → Nat × Nat × Nat := fun k => if k = D then q else ds k
theorem rp_upd (v : NV) (ds : Nat → Nat × Nat × Nat) (D : Nat) (q : Nat × Nat × Nat) : ∀ k, k ≤ D → rp v (upds ds D q) k = rp v ds k := by
  intro k
  induction k with
  | zero => intro _; rfl
  | succ k ih =>
    intro hk
    unfold rp
    rw [ih (by omega), show upds ds D q k = ds k from if_neg (by omega)]
theorem rp_upd1 (v : NV) (ds : Nat → Nat × Nat × Nat) (D : Nat) (q : Nat × Nat × Nat) : rp v (upds ds D q) (D + 1) = perf (rp v ds D) q := by
  rw [show rp v (upds ds D q) (D + 1) = perf (rp v (upds ds D q) D) (upds ds D q D) from rfl, rp_upd _ _ _ _ D (Nat.le_refl _), show upds ds D q D = q from if_pos rfl]
/-- one deed more -/
def nxt (s : Ns) (q : Nat × Nat × Nat) : Ns := (s.1, upds s.2.1 s.2.2.1 q, s.2.2.1 + 1, s.2.2.2)
theorem nxt_cur (s : Ns) (q : Nat × Nat × Nat) : cur (nxt s q) = perf (cur s) q := by
  unfold cur nxt
  rw [rp_upd1, perf_wr]
theorem nxt_ok {s : Ns} (h : okN s) {q : Nat × Nat × Nat} (hq : dOK (vMen s.1) q) (hD : s.2.2.1 < 60) : okN (nxt s q) := by
  obtain ⟨a, b, c, d, e, f⟩ := h
  refine ⟨a, b, by show s.2.2.1 + 1 ≤ 60; omega, fun k hk => ?_, e, f⟩
  show dOK (vMen s.1) (if k = s.2.2.1 then q else s.2.1 k)
  have hk : k < s.2.2.1 + 1 := hk
  by_cases hkd : k = s.2.2.1
  · rw [if_pos hkd]; exact hq
  · rw [if_neg hkd]; exact d k (by omega)
/-- the melting, so far -/
def mixV (v : NV) (i : Nat) : NV := (vMen v, vRight v, vDay v, vSun v, vKind v, vVote v, (fun j => if j < i then vBulk v j - melD v (vKind v j) (vShade v j) 0 else vBulk v j), vShade v)
theorem mixV_ok {v : NV} (h : okV v) (i : Nat) : okV (mixV v i) := ⟨h.1, h.2.1, h.2.2.1, h.2.2.2.1, h.2.2.2.2.1, fun j hj => ⟨(h.2.2.2.2.2 j hj).1, (h.2.2.2.2.2 j hj).2.1, by
  show (if j < i then vBulk v j - melD v (vKind v j) (vShade v j) 0 else vBulk v j) ≤ 99
  have := (h.2.2.2.2.2 j hj).2.2.1
  split <;> omega, (h.2.2.2.2.2 j hj).2.2.2⟩⟩
theorem meltAll_C2 {fu : Nat} {v : NV} (hv : okV v) : ∀ (m n : Nat) (M : Mm) (i : Nat), i + m = vMen v → m < n → CV (mixV v i) M → ∃ M', F_X2_meltAll_2 fu n M 24 (nI i) = some M' ∧ CV (mixV v (vMen v)) M' ∧ Out (fun x _ => x = 28) M M' := by
  intro m
  have hm := hv.1
  induction m with
  | zero =>
    intro n M i hi hn hc
    obtain ⟨n, rfl⟩ : ∃ q, n = q + 1 := ⟨n - 1, by omega⟩
    refine ⟨M, ?_, by rw [show vMen v = i by omega]; exact hc, Out.rf⟩
    unfold F_X2_meltAll_2
    rw [hc.1, if_pos (nI_le (by show vMen v ≤ i; omega) (by omega))]
  | succ m ih =>
    intro n M i hi hn hc
    obtain ⟨n, rfl⟩ : ∃ q, n = q + 1 := ⟨n - 1, by omega⟩
    have hvi := mixV_ok hv i
    have hiv : i < vMen (mixV v i) := by show i < vMen v; omega
    have hb := (hv.2.2.2.2.2 i (by omega)).2.2.1
    have hmd := melD_le hv (vKind v i) (vShade v i) 0
    have e28 : M.1 28 i = nI (vBulk v i) := by
      rw [(hc.2.2.2.2 i hiv).2.2.1]
      exact congrArg nI (if_neg (Nat.lt_irrefl i))
    have hc1 : CV (mixV v (i + 1)) (pI M 28 i (nI (vBulk v i - melD v (vKind v i) (vShade v i) 0))) := by
      obtain ⟨a, b, c, d, e⟩ := hc
      refine ⟨by rw [pI_n (by omega)]; exact a, by rw [pI_n (by omega)]; exact b, by rw [pI_n (by omega)]; exact c, fun j hj => by rw [pI_n (by omega)]; exact d j hj, fun j hj => ⟨by rw [pI_n (by omega)]; exact (e j hj).1, by rw [pI_n (by omega)]; exact (e j hj).2.1, ?_, by rw [pI_n (by omega)]; exact (e j hj).2.2.2⟩⟩
      show _ = nI (if j < i + 1 then vBulk v j - melD v (vKind v j) (vShade v j) 0 else vBulk v j)
      by_cases hji : j = i
      · rw [hji, pI_s, if_pos (by omega)]
      · rw [pI_n (Or.inr hji), (e j hj).2.2.1]
        show nI (if j < i then vBulk v j - melD v (vKind v j) (vShade v j) 0 else vBulk v j) = _
        by_cases hlt : j < i
        · rw [if_pos hlt, if_pos (by omega)]
        · rw [if_neg hlt, if_neg (by omega)]
    obtain ⟨M', a1, a2, a3⟩ := ih n _ (i + 1) (by omega) (by omega) hc1
    refine ⟨M', ?_, a2, (Out.pI (P := fun x _ => x = 28) Out.rf rfl).trans a3⟩
    have hmi := meltingIn_C (fu := fu) hvi hc hiv (d := 0) (by omega)
    unfold F_X2_meltAll_2
    rw [hc.1, if_neg (nI_ge (show i < vMen (mixV v i) from hiv) (by show vMen v < _; omega)), show 24 + 4 = 28 from rfl, rd28 (by omega), ob1_s, e28, L0, hmi, ob1_s, show melD (mixV v i) (vKind (mixV v i) i) (vShade (mixV v i) i) 0 = melD v (vKind v i) (vShade v i) 0 from rfl, ← L0, nI_subT (by omega) (by omega), wr28 (by omega), ob1_s, nI_1]
    exact a1
theorem perform_C {fu : Nat} (hf : 1000 ≤ fu) {M : Mm} {v : NV} (hv : okV v) (hc : CV v M) {q : Nat × Nat × Nat} (hq : dOK (vMen v) q) : ∃ M', F_X2_perform fu M 24 (nI q.1) (nI q.2.1) (nI q.2.2) = some M' ∧ CV (perf v q) M' ∧ Out (fun x j => (x = 24 ∧ j = 2) ∨ x = 28 ∨ x = 29) M M' := by
  have hm := hv.1
  have hday := hv.2.2.2.1
  obtain ⟨q1, q2, q3, q4⟩ := hq
  obtain ⟨a, b, c⟩ := q
  simp only at q1 q2 q3
  show ∃ M', F_X2_perform fu M 24 (nI a) (nI b) (nI c) = some M' ∧ CV (perf v (a, b, c)) M' ∧ _
  unfold F_X2_perform
  have hcase : a = 0 ∨ a = 1 ∨ a = 2 ∨ a = 3 := by omega
  have day1 : ∀ (w : NV) (M1 : Mm), CV w M1 → CV (vMen w, vRight w, vDay w + 1, vSun w, vKind w, vVote w, vBulk w, vShade w) (pI M1 24 2 (M1.1 24 2 + 1)) := by
    intro w M1 h1
    obtain ⟨a1, b1, c1, d1, e1⟩ := h1
    exact ⟨by rw [pI_n (by omega)]; exact a1, by rw [pI_n (by omega)]; exact b1, by rw [pI_s, c1, nI_1]; rfl, fun j hj => by rw [pI_n (by omega)]; exact d1 j hj, fun j hj => ⟨by rw [pI_n (by omega)]; exact (e1 j hj).1, by rw [pI_n (by omega)]; exact (e1 j hj).2.1, by rw [pI_n (by omega)]; exact (e1 j hj).2.2.1, by rw [pI_n (by omega)]; exact (e1 j hj).2.2.2⟩⟩
  rcases hcase with rfl | rfl | rfl | rfl
  · obtain ⟨M1, a1, a2, a3⟩ := meltAll_C2 (fu := fu) hv (vMen v) fu M 0 (by omega) (by omega) (by
      obtain ⟨a, b, c, d, e⟩ := hc
      exact ⟨a, b, c, d, e⟩)
    refine ⟨pI M1 24 2 (M1.1 24 2 + 1), ?_, ?_, (a3.wk fun x j q => by omega).pI (by omega)⟩
    · rw [if_pos (by decide)]
      unfold F_X2_meltAll
      rw [L0, a1, ob1_s]
      rfl
    · obtain ⟨a, b, c, d, e⟩ := day1 _ _ a2
      refine ⟨a, b, c, d, fun j hj => ⟨(e j hj).1, (e j hj).2.1, ?_, (e j hj).2.2.2⟩⟩
      rw [(e j hj).2.2.1]
      exact congrArg nI (if_pos hj)
  · refine ⟨pI M 24 2 (M.1 24 2 + 1), ?_, day1 _ _ hc, (Out.rf).pI (by omega)⟩
    rw [if_neg (by decide), if_neg (by decide), if_neg (by decide)]
    rfl
  · refine ⟨pI M 29 b (nI c), ?_, ?_, (Out.rf).pI (by omega)⟩
    · rw [if_neg (by decide), if_pos (by decide), show 24 + 5 = 29 from rfl, wr29 q2, ob1_s]
    · obtain ⟨a1, b1, c1, d1, e1⟩ := hc
      refine ⟨by rw [pI_n (by omega)]; exact a1, by rw [pI_n (by omega)]; exact b1, by rw [pI_n (by omega)]; exact c1, fun j hj => by rw [pI_n (by omega)]; exact d1 j hj, fun j hj => ⟨by rw [pI_n (by omega)]; exact (e1 j hj).1, by rw [pI_n (by omega)]; exact (e1 j hj).2.1, by rw [pI_n (by omega)]; exact (e1 j hj).2.2.1, ?_⟩⟩
      show _ = nI (if j = b then c else vShade v j)
      by_cases hjb : j = b
      · rw [hjb, pI_s, if_pos rfl]
      · rw [pI_n (Or.inr hjb), if_neg hjb]
        exact (e1 j hj).2.2.2
  · refine ⟨pI M 28 b (zmn 99 (M.1 28 b + nI c)), ?_, ?_, (Out.rf).pI (by omega)⟩
    · rw [if_neg (by decide), if_neg (by decide), if_pos (by decide), show 24 + 4 = 28 from rfl, rd28 q2, ob1_s, wr28 q2, ob1_s]
    · obtain ⟨a1, b1, c1, d1, e1⟩ := hc
      refine ⟨by rw [pI_n (by omega)]; exact a1, by rw [pI_n (by omega)]; exact b1, by rw [pI_n (by omega)]; exact c1, fun j hj => by rw [pI_n (by omega)]; exact d1 j hj, fun j hj => ⟨by rw [pI_n (by omega)]; exact (e1 j hj).1, by rw [pI_n (by omega)]; exact (e1 j hj).2.1, ?_, by rw [pI_n (by omega)]; exact (e1 j hj).2.2.2⟩⟩
      show _ = nI (if j = b then min 99 (vBulk v j + c) else vBulk v j)
      have hbj := (hv.2.2.2.2.2 j hj).2.2.1
      by_cases hjb : j = b
      · rw [← hjb, pI_s, if_pos rfl, (e1 j hj).2.2.1, nI_add, L99, nI_min (by omega) (by omega)]
      · rw [pI_n (Or.inr hjb), if_neg hjb]
        exact (e1 j hj).2.2.1
theorem CN.mk2 {s : Ns} {M : Mm} (h : CV (cur s) M) (h3 : M.1 24 3 = nI s.2.2.1) (h0 : ∀ i, i < vMen s.1 → M.1 30 i = nI (vBulk s.1 i) ∧ M.1 31 i = nI (vShade s.1 i)) (hd : ∀ k, k < s.2.2.1 → M.1 32 k = nI (s.2.1 k).1 ∧ M.1 33 k = nI (s.2.1 k).2.1 ∧ M.1 34 k = nI (s.2.1 k).2.2) : CN 24 s M := by
  have b := cur_sb s
  obtain ⟨h1, h2, h4, h5, h6⟩ := h
  rw [b.1] at h1
  rw [b.2.1] at h5
  rw [b.1, b.2.2.1, b.2.2.2] at h6
  exact ⟨h1, h2, h4, h3, h5, fun i hi => ⟨(h6 i hi).1, (h6 i hi).2.1, (h6 i hi).2.2.1, (h6 i hi).2.2.2, (h0 i hi).1, (h0 i hi).2⟩, hd⟩
/-- where the class's north stands -/
def pN (x j : Nat) : Prop := (x = 24 ∧ (j = 2 ∨ j = 3)) ∨ x = 28 ∨ x = 29 ∨ x = 32 ∨ x = 33 ∨ x = 34
theorem act_C {fu : Nat} (hf : 1000 ≤ fu) {M : Mm} {s : Ns} (hs : okN s) (hc : CN 24 s M) {q : Nat × Nat × Nat} (hq : dOK (vMen s.1) q) (hD : s.2.2.1 < 60) : ∃ M', F_X2_act fu M 24 (nI q.1) (nI q.2.1) (nI q.2.2) = some M' ∧ CN 24 (nxt s q) M' ∧ Out pN M M' := by
  have hv := hs.v
  have hq' : dOK (vMen (cur s)) q := by rw [(cur_sb s).1]; exact hq
  have hD3 := hc.2.2.2.1
  have o1 : Out (fun x j => (x = 24 ∧ j = 3) ∨ x = 32 ∨ x = 33 ∨ x = 34) M (pI (pI (pI (pI M 32 s.2.2.1 (nI q.1)) 33 s.2.2.1 (nI q.2.1)) 34 s.2.2.1 (nI q.2.2)) 24 3 (nI (s.2.2.1 + 1))) := ((((Out.rf).pI (by omega)).pI (by omega)).pI (by omega)).pI (by omega)
  have hc1 : CV (cur s) (pI (pI (pI (pI M 32 s.2.2.1 (nI q.1)) 33 s.2.2.1 (nI q.2.1)) 34 s.2.2.1 (nI q.2.2)) 24 3 (nI (s.2.2.1 + 1))) := by
    obtain ⟨a, b, c, d, e⟩ := hc.cv
    exact ⟨by rw [(o1 _ _ (by omega)).1]; exact a, by rw [(o1 _ _ (by omega)).1]; exact b, by rw [(o1 _ _ (by omega)).1]; exact c, fun j hj => by rw [(o1 _ _ (by omega)).1]; exact d j hj, fun j hj => ⟨by rw [(o1 _ _ (by omega)).1]; exact (e j hj).1, by rw [(o1 _ _ (by omega)).1]; exact (e j hj).2.1, by rw [(o1 _ _ (by omega)).1]; exact (e j hj).2.2.1, by rw [(o1 _ _ (by omega)).1]; exact (e j hj).2.2.2⟩⟩
  obtain ⟨M', a1, a2, a3⟩ := perform_C hf hv hc1 hq'
  refine ⟨M', ?_, CN.mk2 (by rw [nxt_cur]; exact a2) ?_ (fun i hi => ?_) (fun k hk => ?_), (o1.wk fun x j q => by unfold pN; omega).trans (a3.wk fun x j q => by unfold pN; omega)⟩
  · unfold F_X2_act
    rw [show 24 + 8 = 32 from rfl, show 24 + 9 = 33 from rfl, show 24 + 10 = 34 from rfl, hD3, wr32 hD, ob1_s, pI_n (by omega), hD3, wr33 hD, ob1_s, pI_n (by omega), pI_n (by omega), hD3, wr34 hD, ob1_s, pI_n (by omega), pI_n (by omega), pI_n (by omega), hD3, nI_1, lt1_s, a1, ob1_s]
  · rw [(a3 _ _ (by omega)).1, pI_s]
    rfl
  · obtain ⟨-, -, -, -, -, h6, -⟩ := hc
    rw [(a3 _ _ (by omega)).1, (a3 _ _ (by omega)).1, (o1 _ _ (by omega)).1, (o1 _ _ (by omega)).1]
    exact ⟨(h6 i hi).2.2.2.2.1, (h6 i hi).2.2.2.2.2⟩
  · obtain ⟨-, -, -, -, -, -, h7⟩ := hc
    have hk : k < s.2.2.1 + 1 := hk
    rw [(a3 _ _ (by omega)).1, (a3 _ _ (by omega)).1, (a3 _ _ (by omega)).1]
    show _ = nI (if k = s.2.2.1 then q else s.2.1 k).1 ∧ _ = nI (if k = s.2.2.1 then q else s.2.1 k).2.1 ∧ _ = nI (if k = s.2.2.1 then q else s.2.1 k).2.2
    by_cases hkD : k = s.2.2.1
    · subst hkD
      rw [if_pos rfl]
      refine ⟨?_, ?_, ?_⟩
      · rw [pI_n (by omega), pI_n (by omega), pI_n (by omega), pI_s]
      · rw [pI_n (by omega), pI_n (by omega), pI_s]
      · rw [pI_n (by omega), pI_s]
    · rw [if_neg hkD]
      have := h7 k (by omega)
      refine ⟨?_, ?_, ?_⟩
      · rw [pI_n (by omega), pI_n (by omega), pI_n (by omega), pI_n (by omega)]; exact this.1
      · rw [pI_n (by omega), pI_n (by omega), pI_n (by omega), pI_n (by omega)]; exact this.2.1
      · rw [pI_n (by omega), pI_n (by omega), pI_n (by omega), pI_n (by omega)]; exact this.2.2
theorem remember_X10 {fu : Nat} {D : Nat} (hD : D < 60) : ∀ (m n : Nat) (M : Mm) (i : Nat), i + m = 6 → m < n → (∀ j, j < i → M.1 96 (13 * D + j) = M.1 94 j ∧ M.1 96 (13 * D + 6 + j) = M.1 95 j) → ∃ M', F_X7_remember_10 fu n M (nI (13 * D)) (nI i) = some M' ∧ (∀ j, j < 6 → M'.1 96 (13 * D + j) = M.1 94 j ∧ M'.1 96 (13 * D + 6 + j) = M.1 95 j) ∧ M'.1 96 (13 * D + 12) = M.1 86 11 ∧ M'.1 86 12 = M.1 86 12 + 1 ∧ Out (fun x j => (x = 86 ∧ j = 12) ∨ (x = 96 ∧ 13 * D ≤ j ∧ j < 13 * D + 13)) M M' := by
  intro m
  induction m with
  | zero =>
    intro n M i hi hn h
    obtain ⟨n, rfl⟩ : ∃ q, n = q + 1 := ⟨n - 1, by omega⟩
    refine ⟨pI (pI M 96 (13 * D + 12) (M.1 86 11)) 86 12 (M.1 86 12 + 1), ?_, fun j hj => ?_, ?_, ?_, ((Out.rf).pI (by omega)).pI (by omega)⟩
    · unfold F_X7_remember_10
      rw [L6, if_pos (nI_le (by omega) (by omega)), L12, nI_add, xr96 (by omega), clN (by omega), lt1_s, pI_n (by omega)]
      rfl
    · rw [pI_n (by omega), pI_n (by omega), pI_n (by omega), pI_n (by omega)]
      exact h j (by omega)
    · rw [pI_n (by omega), pI_s]
    · rw [pI_s]
  | succ m ih =>
    intro n M i hi hn h
    obtain ⟨n, rfl⟩ : ∃ q, n = q + 1 := ⟨n - 1, by omega⟩
    obtain ⟨M', a1, a2, a3, a4, a5⟩ := ih n (pI (pI M 96 (13 * D + i) (M.1 94 i)) 96 (13 * D + 6 + i) (M.1 95 i)) (i + 1) (by omega) (by omega) (fun j hj => by
      rw [pI_n (y := 94) (by omega), pI_n (y := 94) (by omega), pI_n (y := 95) (by omega), pI_n (y := 95) (by omega)]
      by_cases hji : j = i
      · subst hji
        rw [pI_n (by omega), pI_s, pI_s]
        exact ⟨rfl, rfl⟩
      · rw [pI_n (by omega), pI_n (by omega), pI_n (by omega), pI_n (by omega)]
        exact h j (by omega))
    rw [pI_n (by omega), pI_n (by omega)] at a3 a4
    refine ⟨M', ?_, fun j hj => ?_, a3, a4, (((Out.rf).pI (by omega)).pI (by omega)).trans a5⟩
    · unfold F_X7_remember_10
      rw [L6, if_neg (nI_ge (by omega) (by omega)), nI_add, nI_add, nI_add, xr94 (by omega), xr96 (by omega), lt1_s, xr95 (by omega), xr96 (by omega), clN (by omega), clN (by omega), clN (by omega), lt1_s, pI_n (y := 95) (by omega), nI_1]
      exact a1
    · have := a2 j hj
      rwa [pI_n (by omega), pI_n (by omega), pI_n (by omega), pI_n (by omega)] at this
theorem remember_X {fu : Nat} (hf : 1000 ≤ fu) {M : Mm} {s : Ns} (hs : okN s) (hx : XN s M) (hD : s.2.2.1 < 60) : ∃ M', F_X7_remember fu M = some M' ∧ XV (cur s) M' ∧ M'.1 86 12 = nI (s.2.2.1 + 1) ∧ (∀ q, PA 96 0 (nxt s q) M') ∧ Out (fun x j => (x = 86 ∧ j = 12) ∨ x = 96) M M' := by
  obtain ⟨h1, h2, h3⟩ := hx
  have b := cur_sb s
  have hm := hs.1.1
  obtain ⟨M', a1, a2, a3, a4, a5⟩ := remember_X10 (fu := fu) hD 6 fu M 0 (by omega) (by omega) (fun j hj => by omega)
  have a6 : Out (fun x j => (x = 86 ∧ j = 12) ∨ x = 96) M M' := a5.wk fun x j q => by omega
  refine ⟨M', ?_, h1.cg (fun c h1 h2 => a6.f fun j q => by omega) (a6 _ _ (by omega)).1 (a6 _ _ (by omega)).1 (a6 _ _ (by omega)).1, ?_, fun q k hk => ?_, a6⟩
  · unfold F_X7_remember
    rw [h2, L13, pk_mul]
    exact a1
  · rw [a4, h2, nI_1]
  · have hk : k < s.2.2.1 + 1 := hk
    show M'.1 96 (0 + 13 * k + 12) = nI (vDay (rp s.1 (upds s.2.1 s.2.2.1 q) k)) ∧ ∀ i, i < vMen s.1 → M'.1 96 (0 + 13 * k + i) = nI (vBulk (rp s.1 (upds s.2.1 s.2.2.1 q) k) i) ∧ M'.1 96 (0 + 13 * k + 6 + i) = nI (vShade (rp s.1 (upds s.2.1 s.2.2.1 q) k) i)
    rw [rp_upd _ _ _ _ k (by omega)]
    by_cases hkD : k = s.2.2.1
    · subst hkD
      rw [Nat.zero_add]
      refine ⟨by rw [a3, h1.2.2.1]; rfl, fun i hi => ?_⟩
      have hx := h1.2.2.2.2 i (by rw [b.1]; exact hi)
      rw [(a2 i (by omega)).1, (a2 i (by omega)).2]
      exact ⟨hx.2.2.1, hx.2.2.2⟩
    · have hp := h3 k (by omega)
      refine ⟨by rw [(a5 _ _ (by omega)).1]; exact hp.1, fun i hi => ?_⟩
      rw [(a5 _ _ (by omega)).1, (a5 _ _ (by omega)).1]
      exact hp.2 i hi
theorem XV.day {v : NV} {M : Mm} (h : XV v M) : XV (vMen v, vRight v, vDay v + 1, vSun v, vKind v, vVote v, vBulk v, vShade v) (pI M 86 11 (M.1 86 11 + 1)) := by
  obtain ⟨a1, b1, c1, d1, e1⟩ := h
  exact ⟨by rw [pI_n (by omega)]; exact a1, by rw [pI_n (by omega)]; exact b1, by rw [pI_s, c1, nI_1]; rfl, fun j hj => by rw [pI_n (by omega)]; exact d1 j hj, fun j hj => ⟨by rw [pI_n (by omega)]; exact (e1 j hj).1, by rw [pI_n (by omega)]; exact (e1 j hj).2.1, by rw [pI_n (by omega)]; exact (e1 j hj).2.2.1, by rw [pI_n (by omega)]; exact (e1 j hj).2.2.2⟩⟩
theorem pass_X6 {fu : Nat} (hf : 1000 ≤ fu) {v : NV} (hv : okV v) : ∀ (m n : Nat) (M : Mm) (i : Nat), i + m = vMen v → m < n → XV (mixV v i) M → ∃ M', F_X7_pass_6 fu n M (1 : Int32) (nI i) = some M' ∧ XV (perf v (0, 0, 0)) M' ∧ Out (fun x j => (x = 86 ∧ j = 11) ∨ x = 94) M M' := by
  intro m
  have hm := hv.1
  induction m with
  | zero =>
    intro n M i hi hn hc
    obtain ⟨n, rfl⟩ : ∃ q, n = q + 1 := ⟨n - 1, by omega⟩
    refine ⟨pI M 86 11 (M.1 86 11 + 1), ?_, ?_, (Out.rf).pI (by omega)⟩
    · unfold F_X7_pass_6
      rw [hc.1, if_pos (nI_le (by show vMen v ≤ i; omega) (by omega))]
      rfl
    · obtain ⟨a, b, c, d, e⟩ := hc.day
      refine ⟨a, b, c, d, fun j hj => ⟨(e j hj).1, (e j hj).2.1, ?_, (e j hj).2.2.2⟩⟩
      rw [(e j hj).2.2.1]
      have hj : j < vMen v := hj
      exact congrArg nI (if_pos (by omega))
  | succ m ih =>
    intro n M i hi hn hc
    obtain ⟨n, rfl⟩ : ∃ q, n = q + 1 := ⟨n - 1, by omega⟩
    have hvi := mixV_ok hv i
    have hiv : i < vMen (mixV v i) := by show i < vMen v; omega
    have hc1 : XV (mixV v (i + 1)) (pI M 94 i (nI (vBulk v i - melD v (vKind v i) (vShade v i) 0))) := by
      obtain ⟨a, b, c, d, e⟩ := hc
      refine ⟨by rw [pI_n (by omega)]; exact a, by rw [pI_n (by omega)]; exact b, by rw [pI_n (by omega)]; exact c, fun j hj => by rw [pI_n (by omega)]; exact d j hj, fun j hj => ⟨by rw [pI_n (by omega)]; exact (e j hj).1, by rw [pI_n (by omega)]; exact (e j hj).2.1, ?_, by rw [pI_n (by omega)]; exact (e j hj).2.2.2⟩⟩
      show _ = nI (if j < i + 1 then vBulk v j - melD v (vKind v j) (vShade v j) 0 else vBulk v j)
      by_cases hji : j = i
      · rw [hji, pI_s, if_pos (by omega)]
      · rw [pI_n (Or.inr hji), (e j hj).2.2.1]
        show nI (if j < i then vBulk v j - melD v (vKind v j) (vShade v j) 0 else vBulk v j) = _
        by_cases hlt : j < i
        · rw [if_pos hlt, if_pos (by omega)]
        · rw [if_neg hlt, if_neg (by omega)]
    obtain ⟨M', a1, a2, a3⟩ := ih n _ (i + 1) (by omega) (by omega) hc1
    refine ⟨M', ?_, a2, ((Out.rf).pI (by omega)).trans a3⟩
    have hbt := bulkThen_X hf hvi hc hiv (N := 1) (by omega)
    have e1 : blk (mixV v i) i 1 = vBulk v i - melD v (vKind v i) (vShade v i) 0 := by
      show (if i < i then vBulk v i - melD v (vKind v i) (vShade v i) 0 else vBulk v i) - (melD v (vKind v i) (vShade v i) 0 + 0) = _
      rw [if_neg (Nat.lt_irrefl i), Nat.add_zero]
    rw [e1] at hbt
    unfold F_X7_pass_6
    rw [hc.1, if_neg (nI_ge (show i < vMen (mixV v i) from hiv) (by show vMen v < _; omega)), if_neg (by decide), show (1 : Int32) = nI 1 from rfl, hbt, ob1_s, xr94 (by omega), clN (by omega), lt1_s, nI_add]
    exact a1
/-- the ref's melting day, the clouded one -/
theorem pass_X {fu : Nat} (hf : 1000 ≤ fu) {M : Mm} {s : Ns} (hs : okN s) (hx : XN s M) (hD : s.2.2.1 < 60) (h0 : 0 < vMen s.1) {b : Bool} : ∃ M', F_X7_pass fu M (bI b) = some M' ∧ XN (nxt s (if b then 0 else 1, 0, 0)) M' ∧ Out (fun x j => (x = 86 ∧ (j = 11 ∨ j = 12)) ∨ x = 94 ∨ x = 96) M M' := by
  have bb := cur_sb s
  have hv := hs.v
  obtain ⟨M1, a1, a2, a3, a4, a5⟩ := remember_X hf hs hx hD
  cases b
  · refine ⟨pI M1 86 11 (M1.1 86 11 + 1), ?_, ⟨by rw [nxt_cur]; exact a2.day, by rw [pI_n (by omega)]; exact a3, (a4 _).cg (pI_off 96 (by omega)).1⟩, (a5.wk fun x j q => by omega).pI (by omega)⟩
    unfold F_X7_pass
    rw [a1, ob1_s]
    obtain ⟨n, hn⟩ : ∃ q, fu = q + 1 := ⟨fu - 1, by omega⟩
    rw [show F_X7_pass_6 fu fu M1 (bI false) 0 = F_X7_pass_6 fu (n + 1) M1 (bI false) 0 by rw [← hn]]
    unfold F_X7_pass_6
    rw [if_pos (show bI false = 0 from rfl), ite_self]
    rfl
  · obtain ⟨M2, b1, b2, b3⟩ := pass_X6 hf hv (vMen (cur s)) fu M1 0 (by omega) (by have := hv.1; omega) (by
      obtain ⟨a, b, c, d, e⟩ := a2
      exact ⟨a, b, c, d, e⟩)
    refine ⟨M2, ?_, ⟨by rw [nxt_cur]; exact b2, by rw [(b3 _ _ (by omega)).1]; exact a3, (a4 _).cg (b3.f fun j q => by omega)⟩, (a5.wk fun x j q => by omega).trans (b3.wk fun x j q => by omega)⟩
    unfold F_X7_pass
    rw [a1, ob1_s]
    exact b1
theorem rn_next {M M' : Mm} {P : Nat → Nat → Prop} {s s' : Ns} (e : s'.1 = s.1) (hs' : okN s') (hc : CN 24 s' M') (hx : XN s' M') (hk : ∀ k, k < 3 → KP s M k) (o : Out P M M') (hp : ∀ x j, P x j → (x < 35 ∨ 67 < x) ∧ x ≠ 97 ∧ x ≠ 98) : RN M' :=
  ⟨s', hs', hc, hx, fun k h3 => ((hk k h3).cg h3 (fun c h1 h2 => o.f fun j q => by have := hp c j q; omega) (o.f fun j q => by have := hp _ j q; omega) (o.f fun j q => by have := hp _ j q; omega)).s e⟩
theorem cur0 (s : Ns) : (vMen (cur s) = 0) = (vMen s.1 = 0) := by rw [(cur_sb s).1]
theorem dk0 {s : Ns} (h : ¬ vMen s.1 = 0) {a : Nat} (ha : a ≤ 3) : dOK (vMen s.1) (a, 0, 0) := ⟨ha, by show 0 < 6; omega, by show 0 ≤ 9; omega, by omega⟩
theorem call_day {fu : Nat} (hf : 1000 ≤ fu) {M : Mm} (h : Rel M) : Two2 (F_X6_day fu M) (fun M1 => F_X7_day fu M1) := by
  obtain ⟨s, hs, hc, hx, hk⟩ := h.2.2.2
  have hv := hs.v
  have hD := hs.2.2.1
  have m0 := cur0 s
  unfold F_X6_day F_X7_day
  by_cases h0 : vMen s.1 = 0
  · exact Two2.same h (by rw [if_pos (by rw [men0_C hv hc.cv, m0]; exact h0)]) (by rw [if_pos (by rw [men0_X hv hx.1, m0]; exact h0)])
  · rw [if_neg (by rw [men0_C hv hc.cv, m0]; exact h0), hc.2.2.2.1]
    by_cases h60 : s.2.2.1 < 60
    · obtain ⟨M1, a1, a2, a3⟩ := act_C hf hs hc (q := (0, 0, 0)) (dk0 h0 (by omega)) h60
      have lo : Lo M M1 := Lo.of a3 fun x j q => by unfold pN at q; omega
      have hx1 := hx.lo lo
      obtain ⟨M2, b1, b2, b3⟩ := pass_X hf hs hx1 h60 (by omega) (b := true)
      have hs' := nxt_ok hs (dk0 h0 (a := 0) (by omega)) h60
      have hi : Hi M1 M2 := Hi.of b3 fun x j q => by omega
      have hc2 : CN 24 (nxt s (0, 0, 0)) M2 := a2.hi (by omega) hi
      have o : Out (fun x j => pN x j ∨ (x = 86 ∧ (j = 11 ∨ j = 12)) ∨ x = 94 ∨ x = 96) M M2 := (a3.wk fun x j q => Or.inl q).trans (b3.wk fun x j q => Or.inr q)
      refine ⟨nI (pc (whoN (cur (nxt s (0, 0, 0))) 1 0)), M1, M2, ?_, ?_, h.north o (fun x j q => Or.inl (by unfold pN at q; unfold sN; omega)) (rn_next rfl hs' hc2 b2 hk o fun x j q => by unfold pN at q; omega)⟩
      · rw [L60, if_pos (nI_lt h60 (by omega)), L0]
        rw [show F_X2_act fu M 24 (nI 0) (nI 0) (nI 0) = some M1 from a1, ob1_s, living_C hf hs'.v a2.cv, ob1_s, bc_who hs'.v, ob1_s]
      · show (if M1.1 86 4 = 0 then _ else _) = _
        rw [if_neg (by rw [men0_X hv hx1.1, m0]; exact h0), hx1.2.1, L60, if_neg (by rw [eqN (by omega) (by omega)]; omega), show F_X7_pass fu M1 1 = some M2 from b1, ob1_s, here_X hf hs'.v b2.1, ob1_s, bits_X hf (whoN_lt hs'.v _ _), ob1_s]
    · exact Two2.same h (by rw [L60, if_neg (nI_nlt (by omega) (by omega))]) (by rw [if_neg (by rw [men0_X hv hx.1, m0]; exact h0), hx.2.1, L60, if_pos (by rw [eqN (by omega) (by omega)]; omega)])
theorem call_shade {fu : Nat} (hf : 1000 ≤ fu) {M : Mm} (h : Rel M) (x y : Int32) : Two2 (F_X6_shade fu M x y) (fun M1 => F_X7_shade fu M1 x y) := by
  obtain ⟨s, hs, hc, hx, hk⟩ := h.2.2.2
  have hv := hs.v
  have hm := hv.1
  have hD := hs.2.2.1
  have bb := cur_sb s
  unfold F_X6_shade F_X7_shade
  rcases rng3 x (n := vMen (cur s)) (by omega) with hi | ⟨i, hi, rfl⟩
  · exact Two2.same h (by rw [isMan_C0 hc.cv hi]; rfl) (by rw [isMan_X0 hv hx.1 hi]; rfl)
  · rcases rng3 y (n := 10) (by omega) with hy | ⟨c, hy, rfl⟩
    · refine Two2.same h (r := -1) ?_ (by rw [isMan_X1 hv hx.1 hi, ob1_s, if_neg one_ne, in_no (n := 9) hy I9 (by decide)]; rfl)
      rw [isMan_C1 hv hc.cv hi, ob1_s, if_neg one_ne]
      rcases hy with hy | hy
      · rw [if_pos hy]
      · rw [L9, if_neg (gt_hi hy (by decide)), ite_self]
    · by_cases h60 : s.2.2.1 < 60
      · have hq : dOK (vMen s.1) (2, i, c) := ⟨by show 2 ≤ 3; omega, by show i < 6; omega, by show c ≤ 9; omega, by rw [← bb.1]; omega⟩
        obtain ⟨M1, a1, a2, a3⟩ := act_C hf hs hc hq h60
        have lo : Lo M M1 := Lo.of a3 fun x j q => by unfold pN at q; omega
        have hx1 := hx.lo lo
        obtain ⟨M2, b1, b2, b3, b4, b5⟩ := remember_X hf hs hx1 h60
        have hs' := nxt_ok hs hq h60
        have b6 : Out (fun x j => (x = 86 ∧ j = 12) ∨ x = 95 ∨ x = 96) M1 (pI M2 95 i (nI c)) := (b5.wk fun x j q => by omega).pI (by omega)
        have hc2 : CN 24 (nxt s (2, i, c)) (pI M2 95 i (nI c)) := a2.hi (by omega) (Hi.of b6 fun x j q => by omega)
        have hx2 : XN (nxt s (2, i, c)) (pI M2 95 i (nI c)) := by
          refine ⟨?_, by rw [pI_n (by omega)]; exact b3, (b4 _).cg (pI_off 96 (by omega)).1⟩
          rw [nxt_cur]
          obtain ⟨a1, b1, c1, d1, e1⟩ := b2
          refine ⟨by rw [pI_n (by omega)]; exact a1, by rw [pI_n (by omega)]; exact b1, by rw [pI_n (by omega)]; exact c1, fun j hj => by rw [pI_n (by omega)]; exact d1 j hj, fun j hj => ⟨by rw [pI_n (by omega)]; exact (e1 j hj).1, by rw [pI_n (by omega)]; exact (e1 j hj).2.1, by rw [pI_n (by omega)]; exact (e1 j hj).2.2.1, ?_⟩⟩
          show _ = nI (if j = i then c else vShade (cur s) j)
          by_cases hjb : j = i
          · rw [hjb, pI_s, if_pos rfl]
          · rw [pI_n (Or.inr hjb), if_neg hjb]
            exact (e1 j hj).2.2.2
        have o : Out (fun x j => pN x j ∨ (x = 86 ∧ j = 12) ∨ x = 95 ∨ x = 96) M (pI M2 95 i (nI c)) := (a3.wk fun x j q => Or.inl q).trans (b6.wk fun x j q => Or.inr q)
        refine ⟨nI (vShade (cur s) i), M1, pI M2 95 i (nI c), ?_, ?_, h.north o (fun x j q => Or.inl (by unfold pN at q; unfold sN; omega)) (rn_next rfl hs' hc2 hx2 hk o fun x j q => by unfold pN at q; omega)⟩
        · rw [isMan_C1 hv hc.cv hi, ob1_s, if_neg one_ne, if_neg (nI_pos (by omega)), L9, if_pos (nI_le (by omega) (by omega)), hc.2.2.2.1, L60, if_pos (nI_lt h60 (by omega)), rd29 (by omega), ob1_s, (hc.cv.2.2.2.2 i hi).2.2.2, show F_X2_act fu M 24 2 (nI i) (nI c) = some M1 from a1, ob1_s]
        · show ob1 (F_X7_isMan fu M1 (nI i)) _ = _
          rw [isMan_X1 hv hx1.1 hi, ob1_s, if_neg one_ne, in_ok (k := 0) (n := 9) (by omega) (by omega) I0 I9 (by decide), ob1_s, if_neg one_ne, hx1.2.1, L60, if_neg (by rw [eqN (by omega) (by omega)]; omega), xr95 (by omega), b1, ob1_s, xr95 (by omega), clN (by omega), (hx1.1.2.2.2.2 i hi).2.2.2]
          rfl
      · exact Two2.same h (by rw [isMan_C1 hv hc.cv hi, ob1_s, if_neg one_ne, if_neg (nI_pos (by omega)), L9, if_pos (nI_le (by omega) (by omega)), hc.2.2.2.1, L60, if_neg (nI_nlt (by omega) (by omega))]) (by rw [isMan_X1 hv hx.1 hi, ob1_s, if_neg one_ne, in_ok (k := 0) (n := 9) (by omega) (by omega) I0 I9 (by decide), ob1_s, if_neg one_ne, hx.2.1, L60, if_pos (by rw [eqN (by omega) (by omega)]; omega)])
