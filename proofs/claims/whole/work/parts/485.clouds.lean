/-! clouds -/
def sumS (f : Nat → Nat) : Nat → Nat
  | 0 => 0
  | n + 1 => sumS f n + f n
def stW (m p : Nat) (w : Nat → Nat) : Nat → Nat := fun t => p * w t + sumS (fun b => if b - m = t then (12 - p) * w b else 0) 100
def wk (v : NV) (i p : Nat) : Nat → Nat → Nat
  | 0 => fun t => if t = vBulk v i then 1 else 0
  | k + 1 => stW (melD v (vKind v i) (vShade v i) k) p (wk v i p k)
theorem J0 : (0 : Int64) = lN 0 := rfl
theorem CV.l {v : NV} {M : Mm} (h : CV v M) {c j : Nat} {x : Int64} : CV v (pL M c j x) := h
theorem XV.l {v : NV} {M : Mm} (h : XV v M) {c j : Nat} {x : Int64} : XV v (pL M c j x) := h
theorem clear_C2 {fu c : Nat} (hl : ln c = 100) : ∀ (m n : Nat) (M : Mm) (k : Nat), k + m = 100 → m < n → (∀ j, j < k → M.2 c j = lN 0) → ∃ M', F_X0_clear_2 fu n M c (nI k) = some M' ∧ (∀ j, j < 100 → M'.2 c j = lN 0) ∧ Out (fun x _ => x = c) M M' := by
  intro m
  induction m with
  | zero =>
    intro n M k hk hn h
    obtain ⟨n, rfl⟩ : ∃ q, n = q + 1 := ⟨n - 1, by omega⟩
    refine ⟨M, ?_, fun j hj => h j (by omega), Out.rf⟩
    unfold F_X0_clear_2
    rw [hl, if_pos (nI_le (by omega) (by omega))]
  | succ m ih =>
    intro n M k hk hn h
    obtain ⟨n, rfl⟩ : ∃ q, n = q + 1 := ⟨n - 1, by omega⟩
    obtain ⟨M', a1, a2, a3⟩ := ih n (pL M c k (lN 0)) (k + 1) (by omega) (by omega) (fun j hj => by
      by_cases hjk : j = k
      · rw [hjk, pL_s]
      · rw [pL_n (Or.inr hjk)]
        exact h j (by omega))
    refine ⟨M', ?_, a2, (Out.pL (P := fun x _ => x = c) Out.rf rfl).trans a3⟩
    unfold F_X0_clear_2
    rw [hl, if_neg (nI_ge (by omega) (by omega)), if_neg (nI_in (by omega) (by decide)), clN (by omega), lt1_s, nI_1]
    exact a1
theorem clear_C {fu c : Nat} (hf : 1000 ≤ fu) (hl : ln c = 100) (M : Mm) : ∃ M', F_X0_clear fu M c = some M' ∧ (∀ j, j < 100 → M'.2 c j = lN 0) ∧ Out (fun x _ => x = c) M M' := clear_C2 hl 100 fu M 0 (by omega) (by omega) (fun j hj => by omega)
theorem add_C {fu c i : Nat} {M : Mm} {x : Int64} (hl : ln c = 100) (hi : i < 100) : F_X0_add fu M c (nI i) x = some (pL M c i (M.2 c i + x)) := by
  unfold F_X0_add
  rw [hl, if_neg (nI_pos (by omega)), if_neg (nI_ge (by omega) (by omega)), if_neg (nI_in hi (by decide)), if_neg (nI_in hi (by decide)), clN (by omega)]
  rfl
/-- the class's next row, so far -/
def accW (m p : Nat) (w : Nat → Nat) (k t : Nat) : Nat := (if t < k then p * w t else 0) + sumS (fun b => if b - m = t then (12 - p) * w b else 0) k
theorem pass_C69 {fu : Nat} {g : Nat → Nat} : ∀ (m n : Nat) (M : Mm) (k : Nat), k + m = 100 → m < n → (∀ j, j < 100 → M.2 79 j = lN (g j)) → (∀ j, j < k → M.2 78 j = lN (g j)) → ∃ M', F_X0_pass_69 fu n M (nI k) = some M' ∧ (∀ j, j < 100 → M'.2 78 j = lN (g j)) ∧ Out (fun x _ => x = 78) M M' := by
  intro m
  induction m with
  | zero =>
    intro n M k hk hn h9 h8
    obtain ⟨n, rfl⟩ : ∃ q, n = q + 1 := ⟨n - 1, by omega⟩
    refine ⟨M, ?_, fun j hj => h8 j (by omega), Out.rf⟩
    unfold F_X0_pass_69
    rw [show ln 78 = 100 from rfl, if_pos (nI_le (by omega) (by omega))]
  | succ m ih =>
    intro n M k hk hn h9 h8
    obtain ⟨n, rfl⟩ : ∃ q, n = q + 1 := ⟨n - 1, by omega⟩
    obtain ⟨M', a1, a2, a3⟩ := ih n (pL M 78 k (M.2 79 k)) (k + 1) (by omega) (by omega) (fun j hj => by rw [pL_n (by omega)]; exact h9 j hj) (fun j hj => by
      by_cases hjk : j = k
      · rw [hjk, pL_s, h9 k (by omega)]
      · rw [pL_n (Or.inr hjk)]
        exact h8 j (by omega))
    refine ⟨M', ?_, a2, (Out.pL (P := fun x _ => x = 78) Out.rf rfl).trans a3⟩
    unfold F_X0_pass_69
    rw [show ln 78 = 100 from rfl, show ln 79 = 100 from rfl, if_neg (nI_ge (by omega) (by omega)), if_neg (nI_ge (by omega) (by omega)), if_neg (nI_in (by omega) (by decide)), if_neg (nI_in (by omega) (by decide)), clN (by omega), lt1_s, nI_1]
    exact a1
theorem pass_C9 {fu : Nat} (hf : 1000 ≤ fu) {ml p : Nat} {w : Nat → Nat} (hml : ml ≤ 10) (hp : p ≤ 12) : ∀ (m n : Nat) (M : Mm) (k : Nat), k + m = 100 → m < n → (∀ j, j < 100 → M.2 78 j = lN (w j)) → (∀ j, j < 100 → M.2 79 j = lN (accW ml p w k j)) → ∃ M', F_X0_pass_9 fu n M (nI ml) (nI p) (nI k) = some M' ∧ (∀ j, j < 100 → M'.2 78 j = lN (stW ml p w j)) ∧ Out (fun x _ => x = 78 ∨ x = 79) M M' := by
  intro m
  induction m with
  | zero =>
    intro n M k hk hn h8 h9
    obtain ⟨n, rfl⟩ : ∃ q, n = q + 1 := ⟨n - 1, by omega⟩
    have hk100 : k = 100 := by omega
    subst hk100
    obtain ⟨M', a1, a2, a3⟩ := pass_C69 (fu := fu) (g := stW ml p w) 100 fu M 0 (by omega) (by omega) (fun j hj => by
      rw [h9 j hj]
      unfold accW stW
      rw [if_pos hj]) (fun j hj => by omega)
    refine ⟨M', ?_, a2, a3.wk fun x j q => Or.inl q⟩
    unfold F_X0_pass_9
    rw [show ln 78 = 100 from rfl, if_pos (nI_le (by omega) (by omega))]
    exact a1
  | succ m ih =>
    intro n M k hk hn h8 h9
    obtain ⟨n, rfl⟩ : ∃ q, n = q + 1 := ⟨n - 1, by omega⟩
    have o1 : Out (fun x _ => x = 78 ∨ x = 79) M (pL (pL M 79 k (M.2 79 k + lN (w k * p))) 79 (k - ml) ((pL M 79 k (M.2 79 k + lN (w k * p))).2 79 (k - ml) + lN (w k * (12 - p)))) := ((Out.rf).pL (by omega)).pL (by omega)
    obtain ⟨M', a1, a2, a3⟩ := ih n (pL (pL M 79 k (M.2 79 k + lN (w k * p))) 79 (k - ml) ((pL M 79 k (M.2 79 k + lN (w k * p))).2 79 (k - ml) + lN (w k * (12 - p)))) (k + 1) (by omega) (by omega) (fun j hj => by rw [pL_n (x := 79) (y := 78) (by omega), pL_n (x := 79) (y := 78) (by omega)]; exact h8 j hj) (fun j hj => by
      have e : accW ml p w (k + 1) j = (if j < k + 1 then p * w j else 0) + (sumS (fun b => if b - ml = j then (12 - p) * w b else 0) k + (if k - ml = j then (12 - p) * w k else 0)) := rfl
      have e0 : accW ml p w k j = (if j < k then p * w j else 0) + sumS (fun b => if b - ml = j then (12 - p) * w b else 0) k := rfl
      have hA : (pL M 79 k (M.2 79 k + lN (w k * p))).2 79 j = lN ((if j < k + 1 then p * w j else 0) + sumS (fun b => if b - ml = j then (12 - p) * w b else 0) k) := by
        by_cases hjk : j = k
        · subst hjk
          rw [pL_s, h9 j hj, e0, lN_add, if_neg (Nat.lt_irrefl j), if_pos (Nat.lt_succ_self j)]
          exact congrArg lN (by rw [Nat.mul_comm]; omega)
        · rw [pL_n (Or.inr hjk), h9 j hj, e0]
          by_cases hlt : j < k
          · rw [if_pos hlt, if_pos (by omega)]
          · rw [if_neg hlt, if_neg (by omega)]
      rw [e]
      by_cases hjm : k - ml = j
      · rw [hjm, pL_s, hA, lN_add, if_pos rfl]
        exact congrArg lN (by rw [Nat.mul_comm (12 - p)]; omega)
      · rw [pL_n (Or.inr (fun q => hjm q.symm)), hA, if_neg hjm]
        exact congrArg lN (by omega))
    refine ⟨M', ?_, a2, o1.trans a3⟩
    have e12 : ((12 : Int32) - nI p).toInt64 = lN (12 - p) := by rw [L12, pk_sub hp, nI_l (by omega)]
    unfold F_X0_pass_9
    rw [show ln 78 = 100 from rfl, if_neg (nI_ge (by omega) (by omega)), if_neg (nI_in (by omega) (by decide)), clN (by omega), h8 k (by omega), nI_l (by omega), lN_mul, add_C rfl (by omega), ob1_s, if_neg (show ¬ (nI k < 0 ∨ 100 ≤ k) from fun q => q.elim (nI_pos (by omega)) (fun z => by omega)), pL_n (x := 79) (y := 78) (by omega), h8 k (by omega), e12, lN_mul, nI_subT (by omega) (by omega), add_C rfl (by omega), ob1_s, nI_1]
    exact a1
theorem pass_C {fu : Nat} (hf : 1000 ≤ fu) {M : Mm} {ml p : Nat} {w : Nat → Nat} (hml : ml ≤ 10) (hp : p ≤ 12) (h8 : ∀ j, j < 100 → M.2 78 j = lN (w j)) : ∃ M', F_X0_pass fu M (nI ml) (nI p) = some M' ∧ (∀ j, j < 100 → M'.2 78 j = lN (stW ml p w j)) ∧ Out (fun x _ => x = 78 ∨ x = 79) M M' := by
  obtain ⟨M1, a1, a2, a3⟩ := clear_C hf (c := 79) rfl M
  obtain ⟨M2, b1, b2, b3⟩ := pass_C9 hf hml hp 100 fu M1 0 (by omega) (by omega) (fun j hj => by rw [(a3 _ _ (by omega)).2]; exact h8 j hj) (fun j hj => by rw [a2 j hj]; rfl)
  refine ⟨M2, ?_, b2, (a3.wk fun x j q => Or.inr q).trans b3⟩
  unfold F_X0_pass
  rw [a1, ob1_s]
  exact b1
theorem weigh_C31 {fu : Nat} (hf : 1000 ≤ fu) {v : NV} (hv : okV v) {i N p : Nat} (hi : i < vMen v) (hN : N ≤ 8) (hp : p ≤ 12) : ∀ (m n : Nat) (M : Mm) (k : Nat), k + m = N → m < n → CV v M → (∀ j, j < 100 → M.2 78 j = lN (wk v i p k j)) → M.2 77 2 = lN (12 ^ k) → ∃ M', F_X0_weigh_31 fu n M 24 (nI i) (nI N) (nI p) (nI k) = some M' ∧ (∀ j, j < 100 → M'.2 78 j = lN (wk v i p N j)) ∧ M'.2 77 2 = lN (12 ^ N) ∧ Out (fun x j => x = 78 ∨ x = 79 ∨ (x = 77 ∧ j = 2)) M M' := by
  intro m
  induction m with
  | zero =>
    intro n M k hk hn hc h8 h7
    obtain ⟨n, rfl⟩ : ∃ q, n = q + 1 := ⟨n - 1, by omega⟩
    have : k = N := by omega
    subst this
    refine ⟨M, ?_, h8, h7, Out.rf⟩
    unfold F_X0_weigh_31
    rw [if_pos (nI_le (by omega) (by omega))]
  | succ m ih =>
    intro n M k hk hn hc h8 h7
    obtain ⟨n, rfl⟩ : ∃ q, n = q + 1 := ⟨n - 1, by omega⟩
    have hml := melD_le hv (vKind v i) (vShade v i) k
    obtain ⟨M1, a1, a2, a3⟩ := pass_C hf (ml := melD v (vKind v i) (vShade v i) k) hml hp h8
    have hc1 : CV v M1 := hc.cg fun c h1 h2 => a3.f fun j q => by omega
    have h71 : M1.2 77 2 = lN (12 ^ k) := by rw [(a3 _ _ (by omega)).2]; exact h7
    have o1 : Out (fun x j => x = 78 ∨ x = 79 ∨ (x = 77 ∧ j = 2)) M (pL M1 77 2 (lN (12 ^ (k + 1)))) := (a3.wk fun x j q => by omega).pL (by omega)
    obtain ⟨M', b1, b2, b3, b4⟩ := ih n (pL M1 77 2 (lN (12 ^ (k + 1)))) (k + 1) (by omega) (by omega) hc1.l (fun j hj => by rw [pL_n (by omega)]; exact a2 j hj) pL_s
    refine ⟨M', ?_, b2, b3, o1.trans b4⟩
    unfold F_X0_weigh_31
    rw [if_neg (nI_ge (by omega) (by omega)), meltingIn_C hv hc hi (by omega), ob1_s, a1, ob1_s, lt1_s, h71, show (12 : Int64) = lN 12 from rfl, lN_mul, ← Nat.pow_succ, nI_1]
    exact b1
theorem weigh_C {fu : Nat} (hf : 1000 ≤ fu) {M : Mm} {v : NV} (hv : okV v) (hc : CV v M) {i N p : Nat} (hi : i < vMen v) (hN : N ≤ 8) (hp : p ≤ 12) : ∃ M', F_X0_weigh fu M 24 (nI i) (nI N) (nI p) = some M' ∧ (∀ j, j < 100 → M'.2 78 j = lN (wk v i p N j)) ∧ M'.2 77 2 = lN (12 ^ N) ∧ Out (fun x j => x = 78 ∨ x = 79 ∨ (x = 77 ∧ j = 2)) M M' := by
  have hm := hv.1
  have hb := (hv.2.2.2.2.2 i hi).2.2.1
  obtain ⟨M1, a1, a2, a3⟩ := clear_C hf (c := 78) rfl M
  have hc1 : CV v M1 := hc.cg fun c h1 h2 => a3.f fun j q => by omega
  have o1 : Out (fun x j => x = 78 ∨ x = 79 ∨ (x = 77 ∧ j = 2)) M (pL (pL M1 78 (vBulk v i) (M1.2 78 (vBulk v i) + 1)) 77 2 1) := ((a3.wk fun x j q => by omega).pL (by omega)).pL (by omega)
  obtain ⟨M', b1, b2, b3, b4⟩ := weigh_C31 hf hv hi hN hp N fu (pL (pL M1 78 (vBulk v i) (M1.2 78 (vBulk v i) + 1)) 77 2 1) 0 (by omega) (by omega) hc1.l.l (fun j hj => by
    rw [pL_n (by omega)]
    show _ = lN (if j = vBulk v i then 1 else 0)
    by_cases hjb : j = vBulk v i
    · rw [← hjb, pL_s, a2 j hj, if_pos rfl]; rfl
    · rw [pL_n (Or.inr hjb), a2 j hj, if_neg hjb]) pL_s
  refine ⟨M', ?_, b2, b3, o1.trans b4⟩
  unfold F_X0_weigh
  rw [a1, ob1_s, show 24 + 4 = 28 from rfl, rd28 (by omega), ob1_s, (hc1.2.2.2.2 i hi).2.2.1, add_C rfl (by omega), ob1_s, lt1_s]
  exact b1
/-- a sum from d on -/
def sf (w : Nat → Nat) : Nat → Nat → Nat
  | 0, _ => 0
  | m + 1, d => w d + sf w m (d + 1)
theorem ways_C4 {fu : Nat} {M : Mm} {w : Nat → Nat} (h : ∀ j, j < 100 → M.2 78 j = lN (w j)) : ∀ (m n d a : Nat), d + m = 100 → m < n → F_X0_waysToLast_4 fu M n (lN a) (nI d) = some (lN (a + sf w m d)) := by
  intro m
  induction m with
  | zero =>
    intro n d a hd hn
    obtain ⟨n, rfl⟩ : ∃ q, n = q + 1 := ⟨n - 1, by omega⟩
    unfold F_X0_waysToLast_4
    rw [show ln 78 = 100 from rfl, if_pos (nI_le (by omega) (by omega))]
    rfl
  | succ m ih =>
    intro n d a hd hn
    obtain ⟨n, rfl⟩ : ∃ q, n = q + 1 := ⟨n - 1, by omega⟩
    unfold F_X0_waysToLast_4 sf
    rw [show ln 78 = 100 from rfl, if_neg (nI_ge (by omega) (by omega)), if_neg (nI_in (by omega) (by decide)), clN (by omega), h d (by omega), lN_add, nI_1, ih n (d + 1) _ (by omega) (by omega), Nat.add_assoc]
theorem bulkW_C4 {fu : Nat} {M : Mm} {w : Nat → Nat} (h : ∀ j, j < 100 → M.2 78 j = lN (w j)) : ∀ (m n d a : Nat), d + m = 100 → m < n → F_X0_bulkOfWays_4 fu M n (lN a) (nI d) = some (lN (a + sf (fun b => b * w b) m d)) := by
  intro m
  induction m with
  | zero =>
    intro n d a hd hn
    obtain ⟨n, rfl⟩ : ∃ q, n = q + 1 := ⟨n - 1, by omega⟩
    unfold F_X0_bulkOfWays_4
    rw [show ln 78 = 100 from rfl, if_pos (nI_le (by omega) (by omega))]
    rfl
  | succ m ih =>
    intro n d a hd hn
    obtain ⟨n, rfl⟩ : ∃ q, n = q + 1 := ⟨n - 1, by omega⟩
    unfold F_X0_bulkOfWays_4 sf
    rw [show ln 78 = 100 from rfl, if_neg (nI_ge (by omega) (by omega)), if_neg (nI_in (by omega) (by decide)), clN (by omega), h d (by omega), nI_l (by omega), lN_mul, lN_add, lt1_s, nI_1, ih n (d + 1) _ (by omega) (by omega), Nat.add_assoc]
/-! the reference's cases -/
theorem cases_X155 {fu : Nat} {g : Nat → Nat} {k42 : Mm → Int32 → Int32 → Int32 → Int32 → Option Mm} {x1 x2 x3 : Int32} {d : Nat} : ∀ (m n : Nat) (M : Mm) (k : Nat), k + m = 100 → m < n → (∀ j, j < 100 → M.2 112 j = lN (g j)) → (∀ j, j < k → M.2 111 j = lN (g j)) → ∃ M', F_X7_layCases_155 fu k42 n M x1 x2 x3 (nI d) (nI k) = k42 M' x1 x2 x3 (nI (d + 1)) ∧ (∀ j, j < 100 → M'.2 111 j = lN (g j)) ∧ Out (fun x _ => x = 111) M M' := by
  intro m
  induction m with
  | zero =>
    intro n M k hk hn h9 h8
    obtain ⟨n, rfl⟩ : ∃ q, n = q + 1 := ⟨n - 1, by omega⟩
    refine ⟨M, ?_, fun j hj => h8 j (by omega), Out.rf⟩
    unfold F_X7_layCases_155
    rw [L100, if_pos (nI_le (by omega) (by omega)), nI_1]
  | succ m ih =>
    intro n M k hk hn h9 h8
    obtain ⟨n, rfl⟩ : ∃ q, n = q + 1 := ⟨n - 1, by omega⟩
    obtain ⟨M', a1, a2, a3⟩ := ih n (pL M 111 k (M.2 112 k)) (k + 1) (by omega) (by omega) (fun j hj => by rw [pL_n (by omega)]; exact h9 j hj) (fun j hj => by
      by_cases hjk : j = k
      · rw [hjk, pL_s, h9 k (by omega)]
      · rw [pL_n (Or.inr hjk)]
        exact h8 j (by omega))
    refine ⟨M', ?_, a2, (Out.pL (P := fun x _ => x = 111) Out.rf rfl).trans a3⟩
    unfold F_X7_layCases_155
    rw [L100, if_neg (nI_ge (by omega) (by omega)), xr112 (by omega), xr111 (by omega), clN (by omega), lt1_s, nI_1]
    exact a1
theorem cases_X109 {fu : Nat} (hf : 1000 ≤ fu) {ml p d : Nat} {w : Nat → Nat} (hml : ml ≤ 10) (hp : p ≤ 12) {k42 : Mm → Int32 → Int32 → Int32 → Int32 → Option Mm} {x1 x2 : Int32} : ∀ (m n : Nat) (M : Mm) (k : Nat), k + m = 100 → m < n → (∀ j, j < 100 → M.2 111 j = lN (w j)) → (∀ j, j < 100 → M.2 112 j = lN (p * w j + sumS (fun b => if b - ml = j then (12 - p) * w b else 0) k)) → ∃ M', F_X7_layCases_109 fu k42 n M x1 x2 (nI p) (nI d) (nI ml) (nI k) = k42 M' x1 x2 (nI p) (nI (d + 1)) ∧ (∀ j, j < 100 → M'.2 111 j = lN (stW ml p w j)) ∧ Out (fun x _ => x = 111 ∨ x = 112) M M' := by
  intro m
  induction m with
  | zero =>
    intro n M k hk hn h8 h9
    obtain ⟨n, rfl⟩ : ∃ q, n = q + 1 := ⟨n - 1, by omega⟩
    have hk100 : k = 100 := by omega
    subst hk100
    obtain ⟨M', a1, a2, a3⟩ := cases_X155 (fu := fu) (g := stW ml p w) (k42 := k42) (x1 := x1) (x2 := x2) (x3 := nI p) (d := d) 100 fu M 0 (by omega) (by omega) h9 (fun j hj => by omega)
    refine ⟨M', ?_, a2, a3.wk fun x j q => Or.inl q⟩
    unfold F_X7_layCases_109
    rw [L100, if_pos (nI_le (by omega) (by omega))]
    exact a1
  | succ m ih =>
    intro n M k hk hn h8 h9
    obtain ⟨n, rfl⟩ : ∃ q, n = q + 1 := ⟨n - 1, by omega⟩
    obtain ⟨M', a1, a2, a3⟩ := ih n (pL M 112 (k - ml) (M.2 112 (k - ml) + lN ((12 - p) * w k))) (k + 1) (by omega) (by omega) (fun j hj => by rw [pL_n (by omega)]; exact h8 j hj) (fun j hj => by
      show _ = lN (p * w j + (sumS (fun b => if b - ml = j then (12 - p) * w b else 0) k + (if k - ml = j then (12 - p) * w k else 0)))
      by_cases hjm : k - ml = j
      · rw [hjm, pL_s, h9 j hj, lN_add, if_pos rfl]
        exact congrArg lN (by omega)
      · rw [pL_n (Or.inr (fun q => hjm q.symm)), h9 j hj, if_neg hjm]
        exact congrArg lN (by omega))
    refine ⟨M', ?_, a2, (Out.pL (P := fun x _ => x = 111 ∨ x = 112) Out.rf (Or.inr rfl)).trans a3⟩
    have e12 : ((12 : Int32) - nI p).toInt64 = lN (12 - p) := by rw [L12, pk_sub hp, nI_l (by omega)]
    unfold F_X7_layCases_109
    rw [L100, if_neg (nI_ge (by omega) (by omega)), most_X (by omega) (by omega), ob1_s, xr112 (by omega), xr111 (by omega), xr112 (by omega), clN (by omega), clN (by omega), h8 k (by omega), e12, lN_mul, lt1_s, nI_1]
    exact a1
theorem cases_X76 {fu : Nat} (hf : 1000 ≤ fu) {ml p d : Nat} {w : Nat → Nat} (hml : ml ≤ 10) (hp : p ≤ 12) {k42 : Mm → Int32 → Int32 → Int32 → Int32 → Option Mm} {x1 x2 : Int32} : ∀ (m n : Nat) (M : Mm) (k : Nat), k + m = 100 → m < n → (∀ j, j < 100 → M.2 111 j = lN (w j)) → (∀ j, j < k → M.2 112 j = lN (p * w j)) → ∃ M', F_X7_layCases_76 fu k42 n M x1 x2 (nI p) (nI d) (nI ml) (nI k) = k42 M' x1 x2 (nI p) (nI (d + 1)) ∧ (∀ j, j < 100 → M'.2 111 j = lN (stW ml p w j)) ∧ Out (fun x _ => x = 111 ∨ x = 112) M M' := by
  intro m
  induction m with
  | zero =>
    intro n M k hk hn h8 h9
    obtain ⟨n, rfl⟩ : ∃ q, n = q + 1 := ⟨n - 1, by omega⟩
    obtain ⟨M', a1, a2, a3⟩ := cases_X109 hf (ml := ml) (p := p) (d := d) (w := w) hml hp (k42 := k42) (x1 := x1) (x2 := x2) 100 fu M 0 (by omega) (by omega) h8 (fun j hj => by rw [h9 j (by omega)]; rfl)
    refine ⟨M', ?_, a2, a3⟩
    unfold F_X7_layCases_76
    rw [L100, if_pos (nI_le (by omega) (by omega))]
    exact a1
  | succ m ih =>
    intro n M k hk hn h8 h9
    obtain ⟨n, rfl⟩ : ∃ q, n = q + 1 := ⟨n - 1, by omega⟩
    obtain ⟨M', a1, a2, a3⟩ := ih n (pL M 112 k (lN (p * w k))) (k + 1) (by omega) (by omega) (fun j hj => by rw [pL_n (by omega)]; exact h8 j hj) (fun j hj => by
      by_cases hjk : j = k
      · rw [hjk, pL_s]
      · rw [pL_n (Or.inr hjk)]
        exact h9 j (by omega))
    refine ⟨M', ?_, a2, (Out.pL (P := fun x _ => x = 111 ∨ x = 112) Out.rf (Or.inr rfl)).trans a3⟩
    unfold F_X7_layCases_76
    rw [L100, if_neg (nI_ge (by omega) (by omega)), xr111 (by omega), xr112 (by omega), clN (by omega), h8 k (by omega), nI_l (by omega), lN_mul, lt1_s, nI_1]
    exact a1
theorem cases_X42 {fu : Nat} (hf : 1000 ≤ fu) {v : NV} (hv : okV v) {i N p : Nat} (hi : i < vMen v) (hN : N ≤ 8) (hp : p ≤ 12) : ∀ (m n : Nat) (M : Mm) (k : Nat), k + m = N → m < n → XV v M → (∀ j, j < 100 → M.2 111 j = lN (wk v i p k j)) → ∃ M', F_X7_layCases_42 fu n M (nI i) (nI N) (nI p) (nI k) = some M' ∧ (∀ j, j < 100 → M'.2 111 j = lN (wk v i p N j)) ∧ Out (fun x _ => x = 111 ∨ x = 112) M M' := by
  intro m
  have hm := hv.1
  obtain ⟨g1, g2, g3, g4⟩ := hv.2.2.2.2.2 i hi
  induction m with
  | zero =>
    intro n M k hk hn hc h8
    obtain ⟨n, rfl⟩ : ∃ q, n = q + 1 := ⟨n - 1, by omega⟩
    have : k = N := by omega
    subst this
    refine ⟨M, ?_, h8, Out.rf⟩
    unfold F_X7_layCases_42
    rw [if_pos (nI_le (by omega) (by omega))]
  | succ m ih =>
    intro n M k hk hn hc h8
    obtain ⟨n, rfl⟩ : ∃ q, n = q + 1 := ⟨n - 1, by omega⟩
    obtain ⟨c1, c2, c3, c4⟩ := hc.2.2.2.2 i hi
    have hml := melD_le hv (vKind v i) (vShade v i) k
    obtain ⟨M1, a1, a2, a3⟩ := cases_X76 hf (ml := melD v (vKind v i) (vShade v i) k) (p := p) (d := k) (w := wk v i p k) hml hp (k42 := F_X7_layCases_42 fu n) (x1 := nI i) (x2 := nI N) 100 fu M 0 (by omega) (by omega) h8 (fun j hj => by omega)
    have hc1 : XV v M1 := hc.cg (fun c h1 h2 => a3.f fun j q => by omega) (a3 _ _ (by omega)).1 (a3 _ _ (by omega)).1 (a3 _ _ (by omega)).1
    obtain ⟨M', b1, b2, b4⟩ := ih n M1 (k + 1) (by omega) (by omega) hc1 a2
    refine ⟨M', ?_, b2, a3.trans b4⟩
    unfold F_X7_layCases_42
    rw [if_neg (nI_ge (by omega) (by omega)), xr91 (by omega), xr95 (by omega), clN (by omega), c1, c4, hc.2.2.1, nI_add, melD_X hv hc g1 g4 (by omega), ob1_s]
    exact a1.trans b1
theorem cases_X3 {fu : Nat} (hf : 1000 ≤ fu) {v : NV} (hv : okV v) {i N p : Nat} (hi : i < vMen v) (hN : N ≤ 8) (hp : p ≤ 12) : ∀ (m n : Nat) (M : Mm) (k : Nat), k + m = 100 → m < n → XV v M → (∀ j, j < k → M.2 111 j = lN (wk v i p 0 j)) → ∃ M', F_X7_layCases_3 fu n M (nI i) (nI N) (nI p) (nI k) = some M' ∧ (∀ j, j < 100 → M'.2 111 j = lN (wk v i p N j)) ∧ Out (fun x _ => x = 111 ∨ x = 112) M M' := by
  intro m
  have hm := hv.1
  obtain ⟨g1, g2, g3, g4⟩ := hv.2.2.2.2.2 i hi
  induction m with
  | zero =>
    intro n M k hk hn hc h8
    obtain ⟨n, rfl⟩ : ∃ q, n = q + 1 := ⟨n - 1, by omega⟩
    obtain ⟨M', a1, a2, a3⟩ := cases_X42 hf hv hi hN hp N fu M 0 (by omega) (by omega) hc (fun j hj => h8 j (by omega))
    refine ⟨M', ?_, a2, a3⟩
    unfold F_X7_layCases_3
    rw [L100, if_pos (nI_le (by omega) (by omega))]
    exact a1
  | succ m ih =>
    intro n M k hk hn hc h8
    obtain ⟨n, rfl⟩ : ∃ q, n = q + 1 := ⟨n - 1, by omega⟩
    obtain ⟨c1, c2, c3, c4⟩ := hc.2.2.2.2 i hi
    have key : ∀ x : Nat, x = wk v i p 0 k → ∃ M', F_X7_layCases_3 fu n (pL M 111 k (lN x)) (nI i) (nI N) (nI p) (nI (k + 1)) = some M' ∧ (∀ j, j < 100 → M'.2 111 j = lN (wk v i p N j)) ∧ Out (fun x _ => x = 111 ∨ x = 112) M M' := fun x hx => by
      obtain ⟨M', b1, b2, b4⟩ := ih n (pL M 111 k (lN x)) (k + 1) (by omega) (by omega) hc.l (fun j hj => by
        by_cases hjk : j = k
        · rw [hjk, pL_s, hx]
        · rw [pL_n (Or.inr hjk)]
          exact h8 j (by omega))
      exact ⟨M', b1, b2, (Out.pL (P := fun x _ => x = 111 ∨ x = 112) Out.rf (Or.inl rfl)).trans b4⟩
    unfold F_X7_layCases_3
    rw [L100, if_neg (nI_ge (by omega) (by omega)), xr94 (by omega), xr111 (by omega), xr111 (by omega), clN (by omega), clN (by omega), c3, lt1_s, lt1_s, nI_1]
    by_cases hkb : k = vBulk v i
    · rw [if_pos (by rw [hkb])]
      exact key 1 (if_pos hkb).symm
    · rw [if_neg (by rw [eqN (by omega) (by omega)]; exact hkb)]
      exact key 0 (if_neg hkb).symm
/-! how many ways in all -/
theorem sumS_add (f g : Nat → Nat) : ∀ n, sumS (fun t => f t + g t) n = sumS f n + sumS g n := by
  intro n
  induction n with
  | zero => rfl
  | succ n ih => show sumS _ n + (f n + g n) = (sumS f n + f n) + (sumS g n + g n); rw [ih]; omega
theorem sumS_mul (f : Nat → Nat) (c : Nat) : ∀ n, sumS (fun t => c * f t) n = c * sumS f n := by
  intro n
  induction n with
  | zero => rfl
  | succ n ih => show sumS _ n + c * f n = c * (sumS f n + f n); rw [ih, Nat.mul_add]
theorem sumS_0 : ∀ n, sumS (fun _ => 0) n = 0 := by
  intro n
  induction n with
  | zero => rfl
  | succ n ih => show sumS _ n + 0 = 0; rw [ih]
theorem sumS_ge {c x : Nat} : ∀ n, n ≤ c → sumS (fun t => if c = t then x else 0) n = 0 := by
  intro n
  induction n with
  | zero => intro _; rfl
  | succ n ih => intro h; show sumS _ n + (if c = n then x else 0) = 0; rw [ih (by omega), if_neg (by omega)]
theorem sumS_ite {c x : Nat} : ∀ n, c < n → sumS (fun t => if c = t then x else 0) n = x := by
  intro n
  induction n with
  | zero => intro h; omega
  | succ n ih =>
    intro h
    show sumS _ n + (if c = n then x else 0) = x
    by_cases hc : c = n
    · rw [if_pos hc, sumS_ge n (by omega), Nat.zero_add]
    · rw [if_neg hc, ih (by omega), Nat.add_zero]
theorem sumS_sw (g : Nat → Nat) (m : Nat) : ∀ k, k ≤ 100 → sumS (fun t => sumS (fun b => if b - m = t then g b else 0) k) 100 = sumS g k := by
  intro k
  induction k with
  | zero => intro _; exact sumS_0 100
  | succ k ih =>
    intro h
    show sumS (fun t => sumS (fun b => if b - m = t then g b else 0) k + (if k - m = t then g k else 0)) 100 = sumS g k + g k
    rw [sumS_add, ih (by omega), sumS_ite 100 (by omega)]
theorem tot_st {m p : Nat} (hp : p ≤ 12) (w : Nat → Nat) : sumS (stW m p w) 100 = 12 * sumS w 100 := by
  show sumS (fun t => p * w t + sumS (fun b => if b - m = t then (12 - p) * w b else 0) 100) 100 = _
  rw [sumS_add, sumS_mul, sumS_sw _ m 100 (Nat.le_refl _), sumS_mul, ← Nat.add_mul]
  exact congrArg (· * _) (by omega)
theorem tot_wk {v : NV} (hv : okV v) {i p : Nat} (hi : i < vMen v) (hp : p ≤ 12) : ∀ k, sumS (wk v i p k) 100 = 12 ^ k := by
  intro k
  induction k with
  | zero =>
    have hb := (hv.2.2.2.2.2 i hi).2.2.1
    show sumS (fun t => if t = vBulk v i then 1 else 0) 100 = 1
    have : (fun t => if t = vBulk v i then 1 else 0) = (fun t => if vBulk v i = t then 1 else 0) := funext fun t => by
      by_cases h : t = vBulk v i
      · rw [if_pos h, if_pos h.symm]
      · rw [if_neg h, if_neg (fun q => h q.symm)]
    rw [this, sumS_ite 100 (by omega)]
  | succ k ih =>
    show sumS (stW _ p (wk v i p k)) 100 = _
    rw [tot_st hp, ih, Nat.pow_succ, Nat.mul_comm]
theorem sumS_sh (w : Nat → Nat) : ∀ m d, sumS w d + sf w m d = sumS w (d + m) := by
  intro m
  induction m with
  | zero => intro d; rfl
  | succ m ih =>
    intro d
    show sumS w d + (w d + sf w m (d + 1)) = _
    rw [show d + (m + 1) = d + 1 + m by omega, ← ih (d + 1)]
    show _ = sumS w d + w d + _
    omega
theorem sf_le (w : Nat → Nat) : sf w 99 1 ≤ sumS w 100 := by
  have := sumS_sh w 99 1
  rw [show 1 + 99 = 100 from rfl] at this
  omega
theorem sumS_mono {f g : Nat → Nat} : ∀ n, (∀ b, b < n → f b ≤ g b) → sumS f n ≤ sumS g n := by
  intro n
  induction n with
  | zero => intro _; exact Nat.le_refl _
  | succ n ih =>
    intro h
    have h1 := ih (fun b hb => h b (by omega))
    have h2 := h n (by omega)
    show sumS f n + f n ≤ sumS g n + g n
    omega
theorem p12 {N : Nat} (hN : N ≤ 8) : 12 ^ N ≤ 429981696 := Nat.pow_le_pow_right (n := 12) (by decide) hN
theorem midB (w : Nat → Nat) : sf (fun b => b * w b) 99 1 ≤ 99 * sumS w 100 := by
  refine Nat.le_trans (sf_le _) ?_
  rw [← sumS_mul]
  exact sumS_mono 100 fun b hb => Nat.mul_le_mul_right _ (by omega)
