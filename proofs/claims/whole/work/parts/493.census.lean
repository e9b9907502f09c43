/-! census -/
theorem zmx_e {a b : Nat} (ha : a < 2147483648) (hb : b < 2147483648) : zmx (nI a) (nI b) = nI (max a b) := by
  unfold zmx
  by_cases h : a < b
  · rw [if_pos (nI_lt h hb), Nat.max_eq_right (by omega)]
  · rw [if_neg (nI_nlt (by omega) ha), Nat.max_eq_left (by omega)]
def d81 (v : NV) (M : Mm) : Prop := ∀ j, j < 61 → M.1 81 j = nI (whoN v 1 j)
theorem countedFrom_C {fu : Nat} {M : Mm} {v : NV} (hv : okV v) (h81 : d81 v M) {s i g : Nat} (hs : s < 64) (hi : i < vMen v) (hg : M.1 85 (st1 s i) = nI g) : F_X6_countedFrom fu M (nI s) (nI i) = some (nI (bs v i (pc s) + g)) := by
  have hm := hv.1
  have hp := pc_le s
  have hl := st1_lt s i
  have hb : bI (onP v i (pc s)) = nI (bs v i (pc s)) := by
    unfold bs
    cases onP v i (pc s) <;> rfl
  unfold F_X6_countedFrom
  rw [bc_C hs, ob1_s, countedOn_C hv h81 hi (by omega), ob1_s, st1_or hs (by omega), rd85 hl, ob1_s, hg, hb, nI_add]
theorem fill_C20 {fu : Nat} {M : Mm} {v : NV} (hv : okV v) (hc : CV v M) (h81 : d81 v M) (k12 : Mm → Int32 → Option Mm) {s : Nat} (hs : s < 2 ^ vMen v) (h85 : ∀ i, i < vMen v → s.testBit i = false → M.1 85 (st1 s i) = nI (dp v (vMen v) (vMen v - pc s - 1) (pc s + 1) (st1 s i))) : ∀ (q f i a : Nat), i + q = vMen v → q < f → a ≤ 20 → F_X6_fillMostCounted_20 fu k12 f M (nI s) (nI a) (nI i) = k12 (pI M 85 s (nI (max a (mxF (cand v (vMen v) (vMen v - pc s - 1) (pc s) s) q i)))) (nI s + (-1 : Int32)) := by
  intro q
  have hm := hv.1
  have h64 := p2le hv
  induction q with
  | zero =>
    intro f i a hi hf ha
    obtain ⟨f, rfl⟩ : ∃ q, f = q + 1 := ⟨f - 1, by omega⟩
    unfold F_X6_fillMostCounted_20 mxF
    rw [hc.1, if_pos (nI_le (by omega) (by omega)), wr85 (by omega), ob1_s, Nat.max_zero]
  | succ q ih =>
    intro f i a hi hf ha
    obtain ⟨f, rfl⟩ : ∃ q, f = q + 1 := ⟨f - 1, by omega⟩
    unfold F_X6_fillMostCounted_20 mxF
    rw [hc.1, if_neg (nI_ge (by omega) (by omega)), isIn_C (by omega) (by omega), ob1_s, nI_1]
    by_cases hb : s.testBit i = true
    · have e : (cand v (vMen v) (vMen v - pc s - 1) (pc s) s i) = none := by unfold cand; rw [if_pos hb]
      rw [hb, if_neg (show ¬ bI true = 0 by decide), ih f (i + 1) a (by omega) (by omega) ha, e, show (none : Option Nat).getD 0 = 0 from rfl, Nat.zero_max]
    · have hb' := Bool.eq_false_iff.mpr hb
      have e : (cand v (vMen v) (vMen v - pc s - 1) (pc s) s i) = some (bs v i (pc s) + dp v (vMen v) (vMen v - pc s - 1) (pc s + 1) (st1 s i)) := by unfold cand; rw [if_neg hb]
      have b1 := bs_le v i (pc s)
      have b2 := dp_le v (vMen v) (vMen v - pc s - 1) (pc s + 1) (st1 s i)
      rw [hb', if_pos (show bI false = 0 by decide), countedFrom_C hv h81 (by omega) (by omega) (h85 i (by omega) hb'), ob1_s, zmx_e (by omega) (by omega), ih f (i + 1) _ (by omega) (by omega) (Nat.max_le.mpr ⟨ha, by omega⟩), e, show ∀ x : Nat, (some x).getD 0 = x from fun _ => rfl, Nat.max_assoc]
def d85 (v : NV) (M : Mm) (q : Nat) : Prop := ∀ t, q ≤ t → t < 2 ^ vMen v → M.1 85 t = nI (dp v (vMen v) (vMen v - pc t) (pc t) t)
theorem fill_C12 {fu : Nat} (hf : 1000 ≤ fu) {v : NV} (hv : okV v) : ∀ (q f : Nat) (M : Mm), q ≤ 2 ^ vMen v → q < f → CV v M → d81 v M → d85 v M q → ∃ M', F_X6_fillMostCounted_12 fu f M (nI q - 1) = some M' ∧ d85 v M' 0 ∧ Out (fun x _ => x = 85) M M' := by
  intro q
  have hm := hv.1
  have h64 := p2le hv
  induction q with
  | zero =>
    intro f M hq hf' hc h81 h85
    obtain ⟨f, rfl⟩ : ∃ q, f = q + 1 := ⟨f - 1, by omega⟩
    refine ⟨M, ?_, h85, Out.rf⟩
    unfold F_X6_fillMostCounted_12
    rw [if_pos (show nI 0 - 1 < 0 by decide)]
  | succ q ih =>
    intro f M hq hf' hc h81 h85
    obtain ⟨f, rfl⟩ : ∃ q, f = q + 1 := ⟨f - 1, by omega⟩
    have h7 := sets7 (vMen v) (by omega) q (by omega)
    have h20 := fill_C20 (fu := fu) hv hc h81 (F_X6_fillMostCounted_12 fu f) (s := q) (by omega) (fun i hi hb => by
      obtain ⟨b1, b2, b3⟩ := h7.2.2 i hi hb
      have h := h85 (st1 q i) (by omega) b2
      rw [b1, show vMen v - (pc q + 1) = vMen v - pc q - 1 by omega] at h
      exact h) (vMen v) fu 0 0 (by omega) (by omega) (by omega)
    rw [Nat.zero_max, dp_c hm (by omega)] at h20
    obtain ⟨M', a1, a2, a3⟩ := ih f (pI M 85 q (nI (dp v (vMen v) (vMen v - pc q) (pc q) q))) (by omega) (by omega) (hc.p (by omega)) (fun j hj => by rw [pI_n (by omega)]; exact h81 j hj) (fun t h1 h2 => by
      by_cases ht : t = q
      · rw [ht, pI_s]
      · rw [pI_n (by omega)]
        exact h85 t (by omega) h2)
    have e : nI q + (-1 : Int32) = nI q - 1 := by rw [Int32.sub_eq_add_neg]
    refine ⟨M', ?_, a2, (Out.pI (P := fun x _ => x = 85) Out.rf rfl).trans a3⟩
    rw [nI_pred]
    unfold F_X6_fillMostCounted_12
    rw [if_neg (nI_pos (by omega))]
    refine h20.trans ?_
    rw [e]
    exact a1
theorem fill_C {fu : Nat} (hf : 1000 ≤ fu) {M : Mm} {v : NV} (hv : okV v) (hc : CV v M) (h81 : d81 v M) : ∃ M', F_X6_fillMostCounted fu M = some M' ∧ d85 v M' 0 ∧ Out (fun x _ => x = 85) M M' := by
  have h64 := p2le hv
  obtain ⟨M', a1, a2, a3⟩ := fill_C12 hf hv (2 ^ vMen v) fu M (by omega) (by omega) hc h81 (fun t h1 h2 => by omega)
  refine ⟨M', ?_, a2, a3⟩
  unfold F_X6_fillMostCounted
  rw [hc.1, shlm hv, lt1_s]
  exact a1
theorem next_C {fu : Nat} {M : Mm} {v : NV} (hv : okV v) (hc : CV v M) (h81 : d81 v M) (h85 : d85 v M 0) {s g : Nat} (hs : s < 2 ^ vMen v) (hg : g ≤ 20) : ∀ (q f i : Nat), i + q = vMen v → q < f → F_X6_nextCounted_11 fu M f (nI s) (nI g) (nI i) = some (nI (fsF (cand v (vMen v) (vMen v - pc s - 1) (pc s) s) g q i)) := by
  intro q
  have hm := hv.1
  have h64 := p2le hv
  have h7 := sets7 (vMen v) (by omega) s hs
  induction q with
  | zero =>
    intro f i hi hf
    obtain ⟨f, rfl⟩ : ∃ q, f = q + 1 := ⟨f - 1, by omega⟩
    unfold F_X6_nextCounted_11
    rw [hc.1, if_pos (nI_le (by omega) (by omega))]
    rfl
  | succ q ih =>
    intro f i hi hf
    obtain ⟨f, rfl⟩ : ∃ q, f = q + 1 := ⟨f - 1, by omega⟩
    have ih1 := ih f (i + 1) (by omega) (by omega)
    unfold F_X6_nextCounted_11 fsF
    rw [hc.1, if_neg (nI_ge (by omega) (by omega)), isIn_C (by omega) (by omega), ob1_s, nI_1]
    by_cases hb : s.testBit i = true
    · have e : (cand v (vMen v) (vMen v - pc s - 1) (pc s) s i) = none := by unfold cand; rw [if_pos hb]
      rw [hb, if_neg (show ¬ bI true = 0 by decide), ih1, e, if_neg (by intro h; cases h)]
    · have hb' := Bool.eq_false_iff.mpr hb
      obtain ⟨b1, b2, b3⟩ := h7.2.2 i (by omega) hb'
      have e : (cand v (vMen v) (vMen v - pc s - 1) (pc s) s i) = some (bs v i (pc s) + dp v (vMen v) (vMen v - pc s - 1) (pc s + 1) (st1 s i)) := by unfold cand; rw [if_neg hb]
      have h := h85 (st1 s i) (by omega) b2
      rw [b1, show vMen v - (pc s + 1) = vMen v - pc s - 1 by omega] at h
      have c1 := bs_le v i (pc s)
      have c2 := dp_le v (vMen v) (vMen v - pc s - 1) (pc s + 1) (st1 s i)
      rw [hb', if_pos (show bI false = 0 by decide), countedFrom_C hv h81 (by omega) (by omega) h, ob1_s, ih1, e]
      by_cases hq : bs v i (pc s) + dp v (vMen v) (vMen v - pc s - 1) (pc s + 1) (st1 s i) = g
      · rw [hq, if_pos rfl, if_pos rfl]
      · rw [if_neg (by rw [eqN (by omega) (by omega)]; exact hq), if_neg (by intro h; injection h with h; exact hq h)]
theorem census_C45 {fu : Nat} (hf : 1000 ≤ fu) {v : NV} (hv : okV v) {c : Nat} : ∀ (m f k s : Nat) (M : Mm), m + k = vMen v → m < f → s < 2 ^ vMen v → pc s = k → CV v M → d81 v M → d85 v M 0 → ∃ M1, F_X6_census_45 fu f M c (nI s) (nI k) = ob1 (F_X4_take fu M1 c 82 (nI (vMen v))) (fun M3 => ob1 (F_X6_read fu M3 85 (0 : Int32)) (fun r5 => some (r5, M3))) ∧ (∀ j, j < m → M1.1 82 (k + j) = nI (lf (gd v (vMen v) m k s) j)) ∧ (∀ j, j < k → M1.1 82 j = M.1 82 j) ∧ Out (fun x _ => x = 82) M M1 := by
  intro m
  have hm := hv.1
  have h64 := p2le hv
  induction m with
  | zero =>
    intro f k s M hk hf' hs hp hc h81 h85
    obtain ⟨f, rfl⟩ : ∃ q, f = q + 1 := ⟨f - 1, by omega⟩
    refine ⟨M, ?_, fun j hj => by omega, fun j hj => rfl, Out.rf⟩
    unfold F_X6_census_45
    rw [hc.1, if_pos (nI_le (by omega) (by omega))]
  | succ m ih =>
    intro f k s M hk hf' hs hp hc h81 h85
    obtain ⟨f, rfl⟩ : ∃ q, f = q + 1 := ⟨f - 1, by omega⟩
    have h7 := sets7 (vMen v) (by omega) s hs
    have hg := h85 s (by omega) hs
    have hdl := dp_le v (vMen v) (vMen v - pc s) (pc s) s
    have hn := next_C (fu := fu) hv hc h81 h85 hs (g := dp v (vMen v) (vMen v - pc s) (pc s) s) (by omega) (vMen v) fu 0 (by omega) (by omega)
    rw [hp, show vMen v - k - 1 = m by omega, show vMen v - k = m + 1 by omega] at hn
    rw [hp, show vMen v - k = m + 1 by omega] at hg
    have ha : fsF (cand v (vMen v) m k s) (dp v (vMen v) (m + 1) k s) (vMen v) 0 < vMen v ∧ s.testBit (fsF (cand v (vMen v) m k s) (dp v (vMen v) (m + 1) k s) (vMen v) 0) = false := by
      rcases ff_e (cand v (vMen v) m k s) (fun _ => []) (vMen v) 0 with ⟨_, _, a3⟩ | ⟨_, _, a3, a4⟩
      · obtain ⟨i, hi, hb⟩ := set_free hm hs (by omega)
        have := a3 i (by omega) (by omega)
        unfold cand at this
        rw [hb] at this
        cases this
      · have e : mxF (cand v (vMen v) m k s) (vMen v) 0 = dp v (vMen v) (m + 1) k s := rfl
        rw [e] at a3 a4
        refine ⟨by omega, ?_⟩
        by_cases hb : s.testBit (fsF (cand v (vMen v) m k s) (dp v (vMen v) (m + 1) k s) (vMen v) 0) = true
        · rw [show ∀ j, cand v (vMen v) m k s j = if s.testBit j then none else some (bs v j k + dp v (vMen v) m (k + 1) (st1 s j)) from fun _ => rfl, if_pos hb] at a4
          cases a4
        · exact Bool.eq_false_iff.mpr hb
    have hgd : gd v (vMen v) (m + 1) k s = fsF (cand v (vMen v) m k s) (dp v (vMen v) (m + 1) k s) (vMen v) 0 :: gd v (vMen v) m (k + 1) (st1 s (fsF (cand v (vMen v) m k s) (dp v (vMen v) (m + 1) k s) (vMen v) 0)) := rfl
    rw [hgd]
    generalize hA : fsF (cand v (vMen v) m k s) (dp v (vMen v) (m + 1) k s) (vMen v) 0 = A at hn ha ⊢
    obtain ⟨b1, b2, b3⟩ := h7.2.2 A ha.1 ha.2
    obtain ⟨M1, a1, a2, a3, a4⟩ := ih f (k + 1) (st1 s A) (pI M 82 k (nI A)) (by omega) (by omega) b2 (by omega) (hc.p (by omega)) (fun j hj => by rw [pI_n (by omega)]; exact h81 j hj) (fun t h1 h2 => by rw [pI_n (by omega)]; exact h85 t h1 h2)
    refine ⟨M1, ?_, fun j hj => ?_, fun j hj => ?_, (Out.pI (P := fun x _ => x = 82) Out.rf rfl).trans a4⟩
    · unfold F_X6_census_45 F_X6_nextCounted
      rw [hc.1, if_neg (nI_ge (by omega) (by omega)), rd85 (by omega), ob1_s, hg]
      have hn' : F_X6_nextCounted_11 fu M fu (nI s) (nI (dp v (vMen v) (m + 1) k s)) 0 = some (nI A) := hn
      rw [hn', ob1_s, wr82 (by omega), ob1_s, st1_or (by omega) (by omega), nI_1]
      exact a1
    · cases j with
      | zero =>
        rw [Nat.add_zero, a3 k (by omega), pI_s]
        rfl
      | succ j =>
        have := a2 j (by omega)
        rw [show k + 1 + j = k + (j + 1) by omega] at this
        exact this
    · rw [a3 j (by omega), pI_n (by omega)]
theorem m9a : ∀ w, w < 7 → ¬ nI w ≤ (-9 : Int32) := by decide
theorem m9b : ∀ w, w < 7 → (-9 : Int32) ≤ nI w := by decide
/-- the best so far, as the reference keeps it -/
def bsN (n : Nat) (b : Option (Nat × List Nat)) (x2 : Int32) (M : Mm) : Prop := match b with
  | none => x2 = -9
  | some y => y.1 ≤ 6 ∧ x2 = nI y.1 ∧ ∀ j, j < n → M.1 110 j = nI (lf y.2 j)
theorem copy_X41 {fu : Nat} {n : Nat} (hn : n ≤ 6) (k28 : Mm → Int32 → Int32 → Int32 → Option (Int32 × Mm)) {x1 x2 x4 : Int32} (hx : ¬ x4 ≤ x2) : ∀ (q f : Nat) (M : Mm) (j : Nat), j + q = n → q < f → M.1 86 4 = nI n → (∀ i, i < j → M.1 110 i = M.1 109 i) → ∃ M1, F_X7_census_41 fu k28 f M x1 x2 x4 (nI j) = F_X7_census_76 fu k28 M1 x1 x2 x4 ∧ (∀ i, i < n → M1.1 110 i = M.1 109 i) ∧ Out (fun x _ => x = 110) M M1 := by
  intro q
  induction q with
  | zero =>
    intro f M j hj hf h86 h
    obtain ⟨f, rfl⟩ : ∃ q, f = q + 1 := ⟨f - 1, by omega⟩
    refine ⟨M, ?_, fun i hi => h i (by omega), Out.rf⟩
    unfold F_X7_census_41
    rw [h86, if_pos (nI_le (by omega) (by omega))]
  | succ q ih =>
    intro f M j hj hf h86 h
    obtain ⟨f, rfl⟩ : ∃ q, f = q + 1 := ⟨f - 1, by omega⟩
    obtain ⟨M1, a1, a2, a3⟩ := ih f (pI M 110 j (M.1 109 j)) (j + 1) (by omega) (by omega) (by rw [pI_n (by omega)]; exact h86) (fun i hi => by
      rw [pI_n (y := 109) (by omega)]
      by_cases hij : i = j
      · rw [hij, pI_s]
      · rw [pI_n (by omega)]
        exact h i (by omega))
    refine ⟨M1, ?_, fun i hi => by rw [a2 i hi, pI_n (by omega)], (Out.pI (P := fun x _ => x = 110) Out.rf rfl).trans a3⟩
    unfold F_X7_census_41
    rw [h86, if_neg (nI_ge (by omega) (by omega)), if_neg hx, xr109 (by omega), xr110 (by omega), clN (by omega), lt1_s, nI_1]
    exact a1
theorem step_X41 {fu : Nat} (hf : 1000 ≤ fu) {n : Nat} (hn : n ≤ 6) (k28 : Mm → Int32 → Int32 → Int32 → Option (Int32 × Mm)) {x1 x2 : Int32} {w : Nat} {p : List Nat} (hw : w ≤ 6) {b : Option (Nat × List Nat)} {M : Mm} (h86 : M.1 86 4 = nI n) (h109 : ordX n (lf p) M) (hb : bsN n b x2 M) : ∃ M1 y, F_X7_census_41 fu k28 fu M x1 x2 (nI w) (nI 0) = F_X7_census_76 fu k28 M1 x1 x2 (nI w) ∧ F_X7_most fu M1 x2 (nI w) = some y ∧ bsN n (cmb b (some (w, p))) y M1 ∧ Out (fun x _ => x = 110) M M1 := by
  by_cases hx : nI w ≤ x2
  · refine ⟨M, x2, ?_, ?_, ?_, Out.rf⟩
    · obtain ⟨g, hg⟩ : ∃ g, fu = g + 1 := ⟨fu - 1, by omega⟩
      have : ∀ g, F_X7_census_41 fu k28 (g + 1) M x1 x2 (nI w) (nI 0) = F_X7_census_76 fu k28 M x1 x2 (nI w) := by
        intro g
        unfold F_X7_census_41
        rw [if_pos hx, ite_self]
      have h2 := this g
      rw [← hg] at h2
      exact h2
    · cases b with
      | none => rw [show x2 = -9 from hb] at hx; exact absurd hx (m9a w (by omega))
      | some y =>
        have h2 : x2 = nI y.1 := hb.2.1
        rw [h2] at hx ⊢
        have hle : w ≤ y.1 := by rwa [leN (by omega) (by have := hb.1; omega)] at hx
        unfold F_X7_most
        by_cases h3 : nI y.1 ≤ nI w
        · rw [if_pos h3]
          rw [leN (by have := hb.1; omega) (by omega)] at h3
          rw [show w = y.1 by omega]
        · rw [if_neg h3]
    · cases b with
      | none => rw [show x2 = -9 from hb] at hx; exact absurd hx (m9a w (by omega))
      | some y =>
        have h2 : x2 = nI y.1 := hb.2.1
        rw [h2, leN (by omega) (by have := hb.1; omega)] at hx
        have e : cmb (some y) (some (w, p)) = some y := if_neg (show ¬ y.1 < w by omega)
        rw [e]
        exact hb
  · obtain ⟨M1, a1, a2, a3⟩ := copy_X41 (fu := fu) hn k28 (x1 := x1) hx n fu M 0 (by omega) (by omega) h86 (fun i hi => by omega)
    have hbn : bsN n (some (w, p)) (nI w) M1 := ⟨hw, rfl, fun j hj => by rw [a2 j hj, (h109 j hj).2]⟩
    refine ⟨M1, nI w, a1, ?_, ?_, a3⟩
    · unfold F_X7_most
      cases b with
      | none =>
        rw [show x2 = -9 from hb]
        rw [if_pos (m9b w (by omega))]
      | some y =>
        have h2 : x2 = nI y.1 := hb.2.1
        have hy := hb.1
        rw [h2] at hx ⊢
        rw [leN (by omega) (by omega)] at hx
        rw [if_pos (nI_le (by omega) (by omega))]
    · cases b with
      | none => exact hbn
      | some y =>
        have h2 : x2 = nI y.1 := hb.2.1
        have hy := hb.1
        rw [h2, leN (by omega) (by omega)] at hx
        have e : cmb (some y) (some (w, p)) = some (w, p) := if_pos (show y.1 < w by omega)
        rw [e]
        exact hbn
theorem bsN.o {n : Nat} {b : Option (Nat × List Nat)} {x : Int32} {M M' : Mm} (h : bsN n b x M) (e : M'.1 110 = M.1 110) : bsN n b x M' := by
  cases b with
  | none => exact h
  | some y => exact ⟨h.1, h.2.1, fun j hj => by rw [e]; exact h.2.2 j hj⟩
theorem census_X28 {fu : Nat} (hf : 1000 ≤ fu) {v : NV} (hv : okV v) (h0 : 0 < vMen v) {x1 : Int32} : ∀ (l : List (List Nat)) (p : List Nat) (b : Option (Nat × List Nat)) (f : Nat) (M : Mm) (x2 : Int32), chain (vMen v) (p :: l) = true → l.length + 1 < f → M.1 86 4 = nI (vMen v) → (∀ j, j < vMen v → M.1 108 j = nI (gN v j)) → ordX (vMen v) (lf p) M → bsN (vMen v) b x2 M → ∃ M1 y, F_X7_census_28 fu f M x1 x2 1 = ob1 (F_X7_layRow fu M1 x1 (nI (vMen v))) (fun M3 => F_X7_census_103 fu fu M3 x1 y 0) ∧ bsN (vMen v) (fa v 0 b (p :: l)) y M1 ∧ Out (fun x _ => x = 109 ∨ x = 110) M M1 := by
  intro l
  have hm := hv.1
  induction l with
  | nil =>
    intro p b f M x2 hch hl h86 h108 h109 hb
    obtain ⟨f, rfl⟩ : ∃ q, f = q + 1 := ⟨f - 1, by omega⟩
    obtain ⟨f, rfl⟩ : ∃ q, f = q + 1 := ⟨f - 1, by omega⟩
    rw [chain, Bool.and_eq_true, Bool.and_eq_true] at hch
    obtain ⟨⟨hi, hlen⟩, _⟩ := hch
    have hlen := eq_of_beq hlen
    have hcs : cs v (lf p) (vMen v) 0 = wv v 0 p := cs_wv _ _ _ hlen (fun i _ => by rw [Nat.zero_add])
    have hw := wv_le v p 0
    obtain ⟨M1, y, a1, a2, a3, a4⟩ := step_X41 hf hm (F_X7_census_28 fu (f + 1)) (x1 := x1) (w := wv v 0 p) (p := p) (by omega) h86 h109 hb
    have h86' : M1.1 86 4 = nI (vMen v) := by rw [(a4 86 4 (by omega)).1]; exact h86
    have h109' : ordX (vMen v) (lf p) M1 := fun j hj => ⟨(h109 j hj).1, by rw [(a4 109 j (by omega)).1]; exact (h109 j hj).2⟩
    refine ⟨M1, y, ?_, a3, a4.wk fun x j q => Or.inr q⟩
    rw [F_X7_census_28, if_neg (by decide), countedBy_X hf hv h86 h108 h109, ob1_s, hcs]
    refine a1.trans ?_
    unfold F_X7_census_76
    rw [a2, ob1_s]
    rcases next_X hf hm h0 h86' h109' with ⟨e1, e2⟩ | ⟨q, M', e1, e2, e3, e4⟩
    · rw [e2, ob2_s, F_X7_census_28, if_pos rfl, h86']
    · rw [e1] at hi
      cases hi
  | cons p2 l ih =>
    intro p b f M x2 hch hl h86 h108 h109 hb
    obtain ⟨f, rfl⟩ : ∃ q, f = q + 1 := ⟨f - 1, by omega⟩
    rw [chain, Bool.and_eq_true, Bool.and_eq_true] at hch
    obtain ⟨⟨hi, hlen⟩, hch2⟩ := hch
    have hlen := eq_of_beq hlen
    have hcs : cs v (lf p) (vMen v) 0 = wv v 0 p := cs_wv _ _ _ hlen (fun i _ => by rw [Nat.zero_add])
    have hw := wv_le v p 0
    obtain ⟨M1, y, a1, a2, a3, a4⟩ := step_X41 hf hm (F_X7_census_28 fu f) (x1 := x1) (w := wv v 0 p) (p := p) (by omega) h86 h109 hb
    have h86' : M1.1 86 4 = nI (vMen v) := by rw [(a4 86 4 (by omega)).1]; exact h86
    have h109' : ordX (vMen v) (lf p) M1 := fun j hj => ⟨(h109 j hj).1, by rw [(a4 109 j (by omega)).1]; exact (h109 j hj).2⟩
    rcases next_X hf hm h0 h86' h109' with ⟨e1, e2⟩ | ⟨q, M', e1, e2, e3, e4⟩
    · rw [e1] at hi
      cases hi
    · rw [e1] at hi
      have hq : ∀ j, j < vMen v → q j = lf p2 j := fun j hj => eq_of_beq (List.all_eq_true.mp hi j (List.mem_range.mpr hj))
      obtain ⟨M2, z, b1, b2, b3⟩ := ih p2 (cmb b (some (wv v 0 p, p))) f M' y hch2 (by simp only [List.length_cons] at hl; omega) (by rw [(e4 86 4 (by omega)).1]; exact h86') (fun j hj => by rw [(e4 108 j (by omega)).1, (a4 108 j (by omega)).1]; exact h108 j hj) (fun j hj => by rw [← hq j hj]; exact e3 j hj) (a3.o (e4.f fun j => by omega))
      refine ⟨M2, z, ?_, b2, (a4.wk fun x j q => Or.inr q).trans ((e4.wk fun x j q => Or.inl q).trans b3)⟩
      rw [F_X7_census_28, if_neg (by decide), countedBy_X hf hv h86 h108 h109, ob1_s, hcs]
      refine a1.trans ?_
      unfold F_X7_census_76
      rw [a2, ob1_s, e2, ob2_s]
      exact b1
theorem census_X103 {fu : Nat} {r N : Nat} (hr : r < 6) (hN : N ≤ 6) {x2 : Int32} : ∀ (m n : Nat) (M : Mm) (i : Nat), i + m = N → m < n → M.1 86 4 = nI N → (∀ j, j < i → M.1 87 (40 * r + j) = M.1 110 j) → ∃ M', F_X7_census_103 fu n M (nI r) x2 (nI i) = some (x2, M') ∧ (∀ j, j < N → M'.1 87 (40 * r + j) = M.1 110 j) ∧ Out (fun x j => x = 87 ∧ 40 * r ≤ j ∧ j < 40 * r + 40) M M' := by
  intro m
  induction m with
  | zero =>
    intro n M i hi hn h4 h
    obtain ⟨n, rfl⟩ : ∃ q, n = q + 1 := ⟨n - 1, by omega⟩
    refine ⟨M, ?_, fun j hj => h j (by omega), Out.rf⟩
    unfold F_X7_census_103
    rw [h4, if_pos (nI_le (by omega) (by omega))]
  | succ m ih =>
    intro n M i hi hn h4 h
    obtain ⟨n, rfl⟩ : ∃ q, n = q + 1 := ⟨n - 1, by omega⟩
    obtain ⟨M', a1, a2, a3⟩ := ih n (pI M 87 (40 * r + i) (M.1 110 i)) (i + 1) (by omega) (by omega) (by rw [pI_n (by omega)]; exact h4) (fun j hj => by
      rw [pI_n (y := 110) (by omega)]
      by_cases hji : j = i
      · rw [hji, pI_s]
      · rw [pI_n (by omega)]
        exact h j (by omega))
    refine ⟨M', ?_, fun j hj => by rw [a2 j hj, pI_n (by omega)], ((Out.rf).pI (by omega)).trans a3⟩
    unfold F_X7_census_103
    rw [h4, if_neg (nI_ge (by omega) (by omega)), xr110 (by omega), L40, pk_mul, nI_add, xr87 (by omega), clN (by omega), clN (by omega), lt1_s, nI_1]
    exact a1
theorem scC3 {x j : Nat} (h : x = 81 ∨ x = 82 ∨ x = 85) : scr x j := by unfold scr sT sR sX sN; omega
theorem scX3 {x j : Nat} (h : x = 108 ∨ x = 109 ∨ x = 110) : scr x j := by unfold scr sT sR sX sN; omega
theorem call_census {fu : Nat} (hf : 1000 ≤ fu) {M : Mm} (h : Rel M) (x : Int32) : Two2 (F_X6_census fu M x) (fun M1 => F_X7_census fu M1 x) := by
  obtain ⟨v, hv, hc, hx⟩ := h.v
  have hm := hv.1
  rcases rng3 x (n := 6) (by omega) with hi | ⟨r, hr, rfl⟩
  · unfold F_X6_census F_X7_census
    exact Two2.same h (by rw [rowOf_C0 hi]; rfl) (by rw [isRow_X0 hi]; rfl)
  · by_cases h0 : vMen v = 0
    · unfold F_X6_census F_X7_census
      refine Two2.same h (r := -4) ?_ ?_
      · rw [rowOf_C1 hr, ob1_s, op1_s, kd_R hr, if_neg (by decide), hc.1, h0, if_pos (show nI 0 = 0 from rfl)]
      · rw [isRow_X1 hr, ob1_s, if_neg (by decide), hx.1, h0, if_pos (show nI 0 = 0 from rfl)]
    · have n0 : ¬ nI (vMen v) = 0 := nI_ne0 (by omega) (by omega)
      have hpow := Nat.two_pow_pos (vMen v)
      obtain ⟨M1, a1, a2, a3⟩ := foreseeVoters_C hf hv hc (r := 1) (by omega) (by omega)
      have a4 : F_X2_foreseeLiving fu M 24 81 = some M1 := by
        unfold F_X2_foreseeLiving
        rw [L1, a3, ob1_s]
      have o1 : Out (fun x _ => x = 81) M M1 := fr_X2_foreseeLiving a4
      obtain ⟨M2, b1, b2, b3⟩ := fill_C hf hv a1 a2
      have hc2 : CV v M2 := a1.cg fun c _ _ => b3.f fun j => by omega
      obtain ⟨M3, c1, c2, _, c4⟩ := census_C45 hf hv (c := 1 + r) (vMen v) fu 0 0 M2 (by omega) (by omega) hpow rfl hc2 (fun j hj => by rw [(b3 81 j (by omega)).1]; exact a2 j hj) b2
      obtain ⟨M4, d1, d2, d3, d4, d5⟩ := take_C hf (M := M3) hr (nI (vMen v))
      have e85 : M4.1 85 0 = nI (dp v (vMen v) (vMen v) 0 0) := by
        rw [(d5 85 0 (by omega)).1, (c4 85 0 (by omega)).1, b2 0 (by omega) hpow]
        rfl
      have oC : Out (fun x _ => x = 81 ∨ x = 82 ∨ x = 85) M M3 := (o1.wk fun x j q => Or.inl q).trans ((b3.wk fun x j q => Or.inr (Or.inr q)).trans (c4.wk fun x j q => Or.inr (Or.inl q)))
      have lo : Lo M M4 := Lo.of (P := fun x _ => x < 86) (Out.trans (oC.wk fun x j q => by omega) (d5.wk fun x j q => by omega)) fun x j q => q
      have hx4 : XV v M4 := hx.lo lo
      obtain ⟨ch1, ch2, ch3⟩ := chain_all (vMen v) (by omega) (by omega)
      have hfl := fa_lex (v := v) hm (vMen v) 0 0 (by omega) hpow rfl
      rcases hl : lex (vMen v) (vMen v) 0 with _ | ⟨p, l⟩
      · rw [hl] at ch1; cases ch1
      · rw [hl] at ch1 ch2 ch3 hfl
        have hp : p = List.range (vMen v) := by injection ch1
        obtain ⟨M5, f1, f2, f3⟩ := layGone_X hf hv hx4
        have hord : ordX (vMen v) (lf p) M5 := fun j hj => by
          have e : lf p j = j := by
            rw [hp]
            unfold lf
            rw [List.getD_eq_getElem?_getD, List.getElem?_range hj]
            rfl
          rw [e]
          exact ⟨hj, (f2 j hj).2⟩
        obtain ⟨M6, y, g1, g2, g3⟩ := census_X28 hf hv (by omega) (x1 := nI r) l p none fu M5 (-9) ch2 (by simp only [List.length_cons] at ch3; omega) (by rw [(f3 86 4 (by omega)).1]; exact hx4.1) (fun j hj => (f2 j hj).1) hord rfl
        rw [hfl] at g2
        obtain ⟨_, hy, h110⟩ := g2
        obtain ⟨M7, k1, k2, k3, k4⟩ := layRow_X hf (M := M6) hr (nI (vMen v))
        have h86 : M7.1 86 4 = nI (vMen v) := by rw [(k4 86 4 (by omega)).1, (g3 86 4 (by omega)).1, (f3 86 4 (by omega)).1]; exact hx4.1
        obtain ⟨M8, m1, m2, m3⟩ := census_X103 (fu := fu) hr hm (x2 := y) (vMen v) fu M7 0 (by omega) (by omega) h86 (fun j hj => by omega)
        refine ⟨y, M4, M8, ?_, ?_, ?_⟩
        · unfold F_X6_census
          have c1' : F_X6_census_45 fu fu M2 (1 + r) 0 0 = _ := c1
          rw [rowOf_C1 hr, ob1_s, op1_s, kd_R hr, if_neg (by decide), hc.1, if_neg n0, a4, ob1_s, b1, ob1_s, c1', d1, ob1_s, L0, rd85 (by omega), ob1_s, e85, hy]
        · show F_X7_census fu M4 (nI r) = _
          unfold F_X7_census
          rw [isRow_X1 hr, ob1_s, if_neg (by decide), hx4.1, if_neg n0, f1, ob1_s, g1, k1, ob1_s]
          exact m1
        · have oX : Out (fun x _ => x = 108 ∨ x = 109 ∨ x = 110) M4 M6 := (f3.wk fun x j q => by omega).trans (g3.wk fun x j q => by omega)
          exact h.tell hr hm oC (fun x j q => scC3 q) d2 d3 (g := fun j => nI (lf (gd v (vMen v) (vMen v) 0 0) j)) (fun j hj => by
            have := c2 j hj
            rw [Nat.zero_add] at this
            rw [d4 j (by omega), this]) d5 oX (fun x j q => scX3 q) (by rw [(m3 _ _ (by omega)).1]; exact k2) (fun j hj => by rw [m2 j hj, (k4 _ _ (by omega)).1]; exact h110 j hj) (k4.trans (m3.wk fun x j q => Or.inr q))
