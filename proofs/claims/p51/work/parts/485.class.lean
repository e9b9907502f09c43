/-! clouds -/
def sumS (f : Nat → Nat) : Nat → Nat
  | 0 => 0
  | n + 1 => sumS f n + f n
def stW (m p : Nat) (w : Nat → Nat) : Nat → Nat := fun t => p * w t + sumS (fun b => if b - m = t then (12 - p) * w b else 0) 100
def wk (v : NV) (i p : Nat) : Nat → Nat → Nat
  | 0 => fun t => if t = vBulk v i then 1 else 0
  | k + 1 => stW (melD v (vKind v i) (vShade v i) k) p (wk v i p k)
theorem J0 : (0 : Int64) = lN 0 := rfl
theorem CV.l {v : NV} {M : Mm} (h : CV v M) {c j : Nat} {x : Int64} : CV v (pL M c j x) := h
theorem clear_C2 {fu c : Nat} (hl : ln c = 100) : ∀ (m n : Nat) (M : Mm) (k : Nat), k + m = 100 → m < n → (∀ j, j < k → M.2 c j = lN 0) → ∃ M', F_X0_clear_2 fu n M c (nI k) = some M' ∧ (∀ j, j < 100 → M'.2 c j = lN 0) ∧ Out (fun x _ => x = c) M M' := by
  intro m
  induction m with
  | zero =>
    intro n M k hk hn h
    obtain ⟨n, rfl⟩ : ∃ q, n = q + 1 := ⟨n - 1, by omega⟩
    refine ⟨M, ?_, fun j hj => h j (by omega), Out.rf⟩
    unfold F_X0_clear_2
    rw [hl, if_pos (nI_le (by omega) (by omega))]
  | succ m ih =>
    intro n M k hk hn h
    obtain ⟨n, rfl⟩ : ∃ q, n = q + 1 := ⟨n - 1, by omega⟩
    obtain ⟨M', a1, a2, a3⟩ := ih n (pL M c k (lN 0)) (k + 1) (by omega) (by omega) (fun j hj => by
      by_cases hjk : j = k
      · rw [hjk, pL_s]
      · rw [pL_n (Or.inr hjk)]
        exact h j (by omega))
    refine ⟨M', ?_, a2, (Out.pL (P := fun x _ => x = c) Out.rf rfl).trans a3⟩
    unfold F_X0_clear_2
    rw [hl, if_neg (nI_ge (by omega) (by omega)), if_neg (nI_in (by omega) (by decide)), clN (by omega), lt1_s, nI_1]
    exact a1
theorem clear_C {fu c : Nat} (hf : 1000 ≤ fu) (hl : ln c = 100) (M : Mm) : ∃ M', F_X0_clear fu M c = some M' ∧ (∀ j, j < 100 → M'.2 c j = lN 0) ∧ Out (fun x _ => x = c) M M' := clear_C2 hl 100 fu M 0 (by omega) (by omega) (fun j hj => by omega)
theorem add_C {fu c i : Nat} {M : Mm} {x : Int64} (hl : ln c = 100) (hi : i < 100) : F_X0_add fu M c (nI i) x = some (pL M c i (M.2 c i + x)) := by
  unfold F_X0_add
  rw [hl, if_neg (nI_pos (by omega)), if_neg (nI_ge (by omega) (by omega)), if_neg (nI_in hi (by decide)), if_neg (nI_in hi (by decide)), clN (by omega)]
  rfl
/-- the class's next row, so far -/
def accW (m p : Nat) (w : Nat → Nat) (k t : Nat) : Nat := (if t < k then p * w t else 0) + sumS (fun b => if b - m = t then (12 - p) * w b else 0) k
theorem pass_C69 {fu : Nat} {g : Nat → Nat} : ∀ (m n : Nat) (M : Mm) (k : Nat), k + m = 100 → m < n → (∀ j, j < 100 → M.2 79 j = lN (g j)) → (∀ j, j < k → M.2 78 j = lN (g j)) → ∃ M', F_X0_pass_69 fu n M (nI k) = some M' ∧ (∀ j, j < 100 → M'.2 78 j = lN (g j)) ∧ Out (fun x _ => x = 78) M M' := by
  intro m
  induction m with
  | zero =>
    intro n M k hk hn h9 h8
    obtain ⟨n, rfl⟩ : ∃ q, n = q + 1 := ⟨n - 1, by omega⟩
    refine ⟨M, ?_, fun j hj => h8 j (by omega), Out.rf⟩
    unfold F_X0_pass_69
    rw [show ln 78 = 100 from rfl, if_pos (nI_le (by omega) (by omega))]
  | succ m ih =>
    intro n M k hk hn h9 h8
    obtain ⟨n, rfl⟩ : ∃ q, n = q + 1 := ⟨n - 1, by omega⟩
    obtain ⟨M', a1, a2, a3⟩ := ih n (pL M 78 k (M.2 79 k)) (k + 1) (by omega) (by omega) (fun j hj => by rw [pL_n (by omega)]; exact h9 j hj) (fun j hj => by
      by_cases hjk : j = k
      · rw [hjk, pL_s, h9 k (by omega)]
      · rw [pL_n (Or.inr hjk)]
        exact h8 j (by omega))
    refine ⟨M', ?_, a2, (Out.pL (P := fun x _ => x = 78) Out.rf rfl).trans a3⟩
    unfold F_X0_pass_69
    rw [show ln 78 = 100 from rfl, show ln 79 = 100 from rfl, if_neg (nI_ge (by omega) (by omega)), if_neg (nI_ge (by omega) (by omega)), if_neg (nI_in (by omega) (by decide)), if_neg (nI_in (by omega) (by decide)), clN (by omega), lt1_s, nI_1]
    exact a1
theorem pass_C9 {fu : Nat} (hf : 1000 ≤ fu) {ml p : Nat} {w : Nat → Nat} (hml : ml ≤ 10) (hp : p ≤ 12) : ∀ (m n : Nat) (M : Mm) (k : Nat), k + m = 100 → m < n → (∀ j, j < 100 → M.2 78 j = lN (w j)) → (∀ j, j < 100 → M.2 79 j = lN (accW ml p w k j)) → ∃ M', F_X0_pass_9 fu n M (nI ml) (nI p) (nI k) = some M' ∧ (∀ j, j < 100 → M'.2 78 j = lN (stW ml p w j)) ∧ Out (fun x _ => x = 78 ∨ x = 79) M M' := by
  intro m
  induction m with
  | zero =>
    intro n M k hk hn h8 h9
    obtain ⟨n, rfl⟩ : ∃ q, n = q + 1 := ⟨n - 1, by omega⟩
    have hk100 : k = 100 := by omega
    subst hk100
    obtain ⟨M', a1, a2, a3⟩ := pass_C69 (fu := fu) (g := stW ml p w) 100 fu M 0 (by omega) (by omega) (fun j hj => by
      rw [h9 j hj]
      unfold accW stW
      rw [if_pos hj]) (fun j hj => by omega)
    refine ⟨M', ?_, a2, a3.wk fun x j q => Or.inl q⟩
    unfold F_X0_pass_9
    rw [show ln 78 = 100 from rfl, if_pos (nI_le (by omega) (by omega))]
    exact a1
  | succ m ih =>
    intro n M k hk hn h8 h9
    obtain ⟨n, rfl⟩ : ∃ q, n = q + 1 := ⟨n - 1, by omega⟩
    have o1 : Out (fun x _ => x = 78 ∨ x = 79) M (pL (pL M 79 k (M.2 79 k + lN (w k * p))) 79 (k - ml) ((pL M 79 k (M.2 79 k + lN (w k * p))).2 79 (k - ml) + lN (w k * (12 - p)))) := ((Out.rf).pL (by omega)).pL (by omega)
    obtain ⟨M', a1, a2, a3⟩ := ih n (pL (pL M 79 k (M.2 79 k + lN (w k * p))) 79 (k - ml) ((pL M 79 k (M.2 79 k + lN (w k * p))).2 79 (k - ml) + lN (w k * (12 - p)))) (k + 1) (by omega) (by omega) (fun j hj => by rw [pL_n (x := 79) (y := 78) (by omega), pL_n (x := 79) (y := 78) (by omega)]; exact h8 j hj) (fun j hj => by
      have e : accW ml p w (k + 1) j = (if j < k + 1 then p * w j else 0) + (sumS (fun b => if b - ml = j then (12 - p) * w b else 0) k + (if k - ml = j then (12 - p) * w k else 0)) := rfl
      have e0 : accW ml p w k j = (if j < k then p * w j else 0) + sumS (fun b => if b - ml = j then (12 - p) * w b else 0) k := rfl
      have hA : (pL M 79 k (M.2 79 k + lN (w k * p))).2 79 j = lN ((if j < k + 1 then p * w j else 0) + sumS (fun b => if b - ml = j then (12 - p) * w b else 0) k) := by
        by_cases hjk : j = k
        · subst hjk
          rw [pL_s, h9 j hj, e0, lN_add, if_neg (Nat.lt_irrefl j), if_pos (Nat.lt_succ_self j)]
          exact congrArg lN (by rw [Nat.mul_comm]; omega)
        · rw [pL_n (Or.inr hjk), h9 j hj, e0]
          by_cases hlt : j < k
          · rw [if_pos hlt, if_pos (by omega)]
          · rw [if_neg hlt, if_neg (by omega)]
      rw [e]
      by_cases hjm : k - ml = j
      · rw [hjm, pL_s, hA, lN_add, if_pos rfl]
        exact congrArg lN (by rw [Nat.mul_comm (12 - p)]; omega)
      · rw [pL_n (Or.inr (fun q => hjm q.symm)), hA, if_neg hjm]
        exact congrArg lN (by omega))
    refine ⟨M', ?_, a2, o1.trans a3⟩
    have e12 : ((12 : Int32) - nI p).toInt64 = lN (12 - p) := by rw [L12, pk_sub hp, nI_l (by omega)]
    unfold F_X0_pass_9
    rw [show ln 78 = 100 from rfl, if_neg (nI_ge (by omega) (by omega)), if_neg (nI_in (by omega) (by decide)), clN (by omega), h8 k (by omega), nI_l (by omega), lN_mul, add_C rfl (by omega), ob1_s, if_neg (show ¬ (nI k < 0 ∨ 100 ≤ k) from fun q => q.elim (nI_pos (by omega)) (fun z => by omega)), pL_n (x := 79) (y := 78) (by omega), h8 k (by omega), e12, lN_mul, nI_subT (by omega) (by omega), add_C rfl (by omega), ob1_s, nI_1]
    exact a1
theorem pass_C {fu : Nat} (hf : 1000 ≤ fu) {M : Mm} {ml p : Nat} {w : Nat → Nat} (hml : ml ≤ 10) (hp : p ≤ 12) (h8 : ∀ j, j < 100 → M.2 78 j = lN (w j)) : ∃ M', F_X0_pass fu M (nI ml) (nI p) = some M' ∧ (∀ j, j < 100 → M'.2 78 j = lN (stW ml p w j)) ∧ Out (fun x _ => x = 78 ∨ x = 79) M M' := by
  obtain ⟨M1, a1, a2, a3⟩ := clear_C hf (c := 79) rfl M
  obtain ⟨M2, b1, b2, b3⟩ := pass_C9 hf hml hp 100 fu M1 0 (by omega) (by omega) (fun j hj => by rw [(a3 _ _ (by omega)).2]; exact h8 j hj) (fun j hj => by rw [a2 j hj]; rfl)
  refine ⟨M2, ?_, b2, (a3.wk fun x j q => Or.inr q).trans b3⟩
  unfold F_X0_pass
  rw [a1, ob1_s]
  exact b1
theorem weigh_C31 {fu : Nat} (hf : 1000 ≤ fu) {v : NV} (hv : okV v) {i N p : Nat} (hi : i < vMen v) (hN : N ≤ 8) (hp : p ≤ 12) : ∀ (m n : Nat) (M : Mm) (k : Nat), k + m = N → m < n → CV v M → (∀ j, j < 100 → M.2 78 j = lN (wk v i p k j)) → M.2 77 2 = lN (12 ^ k) → ∃ M', F_X0_weigh_31 fu n M 24 (nI i) (nI N) (nI p) (nI k) = some M' ∧ (∀ j, j < 100 → M'.2 78 j = lN (wk v i p N j)) ∧ M'.2 77 2 = lN (12 ^ N) ∧ Out (fun x j => x = 78 ∨ x = 79 ∨ (x = 77 ∧ j = 2)) M M' := by
  intro m
  induction m with
  | zero =>
    intro n M k hk hn hc h8 h7
    obtain ⟨n, rfl⟩ : ∃ q, n = q + 1 := ⟨n - 1, by omega⟩
    have : k = N := by omega
    subst this
    refine ⟨M, ?_, h8, h7, Out.rf⟩
    unfold F_X0_weigh_31
    rw [if_pos (nI_le (by omega) (by omega))]
  | succ m ih =>
    intro n M k hk hn hc h8 h7
    obtain ⟨n, rfl⟩ : ∃ q, n = q + 1 := ⟨n - 1, by omega⟩
    have hml := melD_le hv (vKind v i) (vShade v i) k
    obtain ⟨M1, a1, a2, a3⟩ := pass_C hf (ml := melD v (vKind v i) (vShade v i) k) hml hp h8
    have hc1 : CV v M1 := hc.cg fun c h1 h2 => a3.f fun j q => by omega
    have h71 : M1.2 77 2 = lN (12 ^ k) := by rw [(a3 _ _ (by omega)).2]; exact h7
    have o1 : Out (fun x j => x = 78 ∨ x = 79 ∨ (x = 77 ∧ j = 2)) M (pL M1 77 2 (lN (12 ^ (k + 1)))) := (a3.wk fun x j q => by omega).pL (by omega)
    obtain ⟨M', b1, b2, b3, b4⟩ := ih n (pL M1 77 2 (lN (12 ^ (k + 1)))) (k + 1) (by omega) (by omega) hc1.l (fun j hj => by rw [pL_n (by omega)]; exact a2 j hj) pL_s
    refine ⟨M', ?_, b2, b3, o1.trans b4⟩
    unfold F_X0_weigh_31
    rw [if_neg (nI_ge (by omega) (by omega)), meltingIn_C hv hc hi (by omega), ob1_s, a1, ob1_s, lt1_s, h71, show (12 : Int64) = lN 12 from rfl, lN_mul, ← Nat.pow_succ, nI_1]
    exact b1
theorem weigh_C {fu : Nat} (hf : 1000 ≤ fu) {M : Mm} {v : NV} (hv : okV v) (hc : CV v M) {i N p : Nat} (hi : i < vMen v) (hN : N ≤ 8) (hp : p ≤ 12) : ∃ M', F_X0_weigh fu M 24 (nI i) (nI N) (nI p) = some M' ∧ (∀ j, j < 100 → M'.2 78 j = lN (wk v i p N j)) ∧ M'.2 77 2 = lN (12 ^ N) ∧ Out (fun x j => x = 78 ∨ x = 79 ∨ (x = 77 ∧ j = 2)) M M' := by
  have hm := hv.1
  have hb := (hv.2.2.2.2.2 i hi).2.2.1
  obtain ⟨M1, a1, a2, a3⟩ := clear_C hf (c := 78) rfl M
  have hc1 : CV v M1 := hc.cg fun c h1 h2 => a3.f fun j q => by omega
  have o1 : Out (fun x j => x = 78 ∨ x = 79 ∨ (x = 77 ∧ j = 2)) M (pL (pL M1 78 (vBulk v i) (M1.2 78 (vBulk v i) + 1)) 77 2 1) := ((a3.wk fun x j q => by omega).pL (by omega)).pL (by omega)
  obtain ⟨M', b1, b2, b3, b4⟩ := weigh_C31 hf hv hi hN hp N fu (pL (pL M1 78 (vBulk v i) (M1.2 78 (vBulk v i) + 1)) 77 2 1) 0 (by omega) (by omega) hc1.l.l (fun j hj => by
    rw [pL_n (by omega)]
    show _ = lN (if j = vBulk v i then 1 else 0)
    by_cases hjb : j = vBulk v i
    · rw [← hjb, pL_s, a2 j hj, if_pos rfl]; rfl
    · rw [pL_n (Or.inr hjb), a2 j hj, if_neg hjb]) pL_s
  refine ⟨M', ?_, b2, b3, o1.trans b4⟩
  unfold F_X0_weigh
  rw [a1, ob1_s, show 24 + 4 = 28 from rfl, rd28 (by omega), ob1_s, (hc1.2.2.2.2 i hi).2.2.1, add_C rfl (by omega), ob1_s, lt1_s]
  exact b1
/-- a sum from d on -/
def sf (w : Nat → Nat) : Nat → Nat → Nat
  | 0, _ => 0
  | m + 1, d => w d + sf w m (d + 1)
theorem ways_C4 {fu : Nat} {M : Mm} {w : Nat → Nat} (h : ∀ j, j < 100 → M.2 78 j = lN (w j)) : ∀ (m n d a : Nat), d + m = 100 → m < n → F_X0_waysToLast_4 fu M n (lN a) (nI d) = some (lN (a + sf w m d)) := by
  intro m
  induction m with
  | zero =>
    intro n d a hd hn
    obtain ⟨n, rfl⟩ : ∃ q, n = q + 1 := ⟨n - 1, by omega⟩
    unfold F_X0_waysToLast_4
    rw [show ln 78 = 100 from rfl, if_pos (nI_le (by omega) (by omega))]
    rfl
  | succ m ih =>
    intro n d a hd hn
    obtain ⟨n, rfl⟩ : ∃ q, n = q + 1 := ⟨n - 1, by omega⟩
    unfold F_X0_waysToLast_4 sf
    rw [show ln 78 = 100 from rfl, if_neg (nI_ge (by omega) (by omega)), if_neg (nI_in (by omega) (by decide)), clN (by omega), h d (by omega), lN_add, nI_1, ih n (d + 1) _ (by omega) (by omega), Nat.add_assoc]
theorem bulkW_C4 {fu : Nat} {M : Mm} {w : Nat → Nat} (h : ∀ j, j < 100 → M.2 78 j = lN (w j)) : ∀ (m n d a : Nat), d + m = 100 → m < n → F_X0_bulkOfWays_4 fu M n (lN a) (nI d) = some (lN (a + sf (fun b => b * w b) m d)) := by
  intro m
  induction m with
  | zero =>
    intro n d a hd hn
    obtain ⟨n, rfl⟩ : ∃ q, n = q + 1 := ⟨n - 1, by omega⟩
    unfold F_X0_bulkOfWays_4
    rw [show ln 78 = 100 from rfl, if_pos (nI_le (by omega) (by omega))]
    rfl
  | succ m ih =>
    intro n d a hd hn
    obtain ⟨n, rfl⟩ : ∃ q, n = q + 1 := ⟨n - 1, by omega⟩
    unfold F_X0_bulkOfWays_4 sf
    rw [show ln 78 = 100 from rfl, if_neg (nI_ge (by omega) (by omega)), if_neg (nI_in (by omega) (by decide)), clN (by omega), h d (by omega), nI_l (by omega), lN_mul, lN_add, lt1_s, nI_1, ih n (d + 1) _ (by omega) (by omega), Nat.add_assoc]
/-! the reference's cases -/
/-! how many ways in all -/
theorem sumS_add (f g : Nat → Nat) : ∀ n, sumS (fun t => f t + g t) n = sumS f n + sumS g n := by
  intro n
  induction n with
  | zero => rfl
  | succ n ih => show sumS _ n + (f n + g n) = (sumS f n + f n) + (sumS g n + g n); rw [ih]; omega
theorem sumS_mul (f : Nat → Nat) (c : Nat) : ∀ n, sumS (fun t => c * f t) n = c * sumS f n := by
  intro n
  induction n with
  | zero => rfl
  | succ n ih => show sumS _ n + c * f n = c * (sumS f n + f n); rw [ih, Nat.mul_add]
theorem sumS_0 : ∀ n, sumS (fun _ => 0) n = 0 := by
  intro n
  induction n with
  | zero => rfl
  | succ n ih => show sumS _ n + 0 = 0; rw [ih]
theorem sumS_ge {c x : Nat} : ∀ n, n ≤ c → sumS (fun t => if c = t then x else 0) n = 0 := by
  intro n
  induction n with
  | zero => intro _; rfl
  | succ n ih => intro h; show sumS _ n + (if c = n then x else 0) = 0; rw [ih (by omega), if_neg (by omega)]
theorem sumS_ite {c x : Nat} : ∀ n, c < n → sumS (fun t => if c = t then x else 0) n = x := by
  intro n
  induction n with
  | zero => intro h; omega
  | succ n ih =>
    intro h
    show sumS _ n + (if c = n then x else 0) = x
    by_cases hc : c = n
    · rw [if_pos hc, sumS_ge n (by omega), Nat.zero_add]
    · rw [if_neg hc, ih (by omega), Nat.add_zero]
theorem sumS_sw (g : Nat → Nat) (m : Nat) : ∀ k, k ≤ 100 → sumS (fun t => sumS (fun b => if b - m = t then g b else 0) k) 100 = sumS g k := by
  intro k
  induction k with
  | zero => intro _; exact sumS_0 100
  | succ k ih =>
    intro h
    show sumS (fun t => sumS (fun b => if b - m = t then g b else 0) k + (if k - m = t then g k else 0)) 100 = sumS g k + g k
    rw [sumS_add, ih (by omega), sumS_ite 100 (by omega)]
theorem tot_st {m p : Nat} (hp : p ≤ 12) (w : Nat → Nat) : sumS (stW m p w) 100 = 12 * sumS w 100 := by
  show sumS (fun t => p * w t + sumS (fun b => if b - m = t then (12 - p) * w b else 0) 100) 100 = _
  rw [sumS_add, sumS_mul, sumS_sw _ m 100 (Nat.le_refl _), sumS_mul, ← Nat.add_mul]
  exact congrArg (· * _) (by omega)
theorem tot_wk {v : NV} (hv : okV v) {i p : Nat} (hi : i < vMen v) (hp : p ≤ 12) : ∀ k, sumS (wk v i p k) 100 = 12 ^ k := by
  intro k
  induction k with
  | zero =>
    have hb := (hv.2.2.2.2.2 i hi).2.2.1
    show sumS (fun t => if t = vBulk v i then 1 else 0) 100 = 1
    have : (fun t => if t = vBulk v i then 1 else 0) = (fun t => if vBulk v i = t then 1 else 0) := funext fun t => by
      by_cases h : t = vBulk v i
      · rw [if_pos h, if_pos h.symm]
      · rw [if_neg h, if_neg (fun q => h q.symm)]
    rw [this, sumS_ite 100 (by omega)]
  | succ k ih =>
    show sumS (stW _ p (wk v i p k)) 100 = _
    rw [tot_st hp, ih, Nat.pow_succ, Nat.mul_comm]
theorem sumS_sh (w : Nat → Nat) : ∀ m d, sumS w d + sf w m d = sumS w (d + m) := by
  intro m
  induction m with
  | zero => intro d; rfl
  | succ m ih =>
    intro d
    show sumS w d + (w d + sf w m (d + 1)) = _
    rw [show d + (m + 1) = d + 1 + m by omega, ← ih (d + 1)]
    show _ = sumS w d + w d + _
    omega
theorem sf_le (w : Nat → Nat) : sf w 99 1 ≤ sumS w 100 := by
  have := sumS_sh w 99 1
  rw [show 1 + 99 = 100 from rfl] at this
  omega
theorem sumS_mono {f g : Nat → Nat} : ∀ n, (∀ b, b < n → f b ≤ g b) → sumS f n ≤ sumS g n := by
  intro n
  induction n with
  | zero => intro _; exact Nat.le_refl _
  | succ n ih =>
    intro h
    have h1 := ih (fun b hb => h b (by omega))
    have h2 := h n (by omega)
    show sumS f n + f n ≤ sumS g n + g n
    omega
theorem p12 {N : Nat} (hN : N ≤ 8) : 12 ^ N ≤ 429981696 := Nat.pow_le_pow_right (n := 12) (by decide) hN
theorem midB (w : Nat → Nat) : sf (fun b => b * w b) 99 1 ≤ 99 * sumS w 100 := by
  refine Nat.le_trans (sf_le _) ?_
  rw [← sumS_mul]
  exact sumS_mono 100 fun b hb => Nat.mul_le_mul_right _ (by omega)

/-! chances in lowest terms -/
theorem gcd_st (a b : Nat) : Nat.gcd a b = Nat.gcd b (a % b) := by
  rw [Nat.gcd_comm a b, Nat.gcd_rec b a, Nat.gcd_comm]
theorem cmp0 {b : Nat} (hb : b < 2 ^ 62) : (lg_cmp (lN b) (0 : Int64) = 0) ↔ b = 0 := by
  rw [lg_cmp_eq, J0, pk_lEQ (by omega) (by omega)]
theorem lN0 {b : Nat} (hb : b < 2 ^ 62) : (lN b = 0) ↔ b = 0 := by
  rw [J0, pk_lEQ (by omega) (by omega)]
theorem mod_half {a b : Nat} (h : 0 < a % b) (hb : 0 < b) : 2 * (b % (a % b)) < b := by
  have h1 := Nat.mod_lt a hb
  have h2 := Nat.mod_lt b h
  by_cases hc : 2 * (a % b) ≤ b
  · omega
  · have : b % (a % b) = b - a % b := by
      rw [Nat.mod_eq_sub_mod (by omega), Nat.mod_eq_of_lt (by omega)]
    omega
theorem gcd_C3 {fu : Nat} {M : Mm} : ∀ (k n a b x : Nat), a < 2 ^ 62 → b < 2 ^ 62 → b < 2 ^ k → x + 2 * k + 1 ≤ 100 → 2 * k + 1 < n → F_X6_commonDivisor_3 fu M n (lN a) (lN b) (nI x) = some (lN (Nat.gcd a b)) := by
  have z : ∀ (n a x : Nat), a < 2 ^ 62 → x < 100 → F_X6_commonDivisor_3 fu M (n + 1) (lN a) (lN 0) (nI x) = some (lN (Nat.gcd a 0)) := by
    intro n a x ha hx
    unfold F_X6_commonDivisor_3
    rw [L100, if_neg (nI_ge hx (by omega)), if_pos ((cmp0 (by decide)).mpr rfl), Nat.gcd_zero_right]
  have st : ∀ (n a b x : Nat), a < 2 ^ 62 → b < 2 ^ 62 → 0 < b → x < 100 → F_X6_commonDivisor_3 fu M (n + 1) (lN a) (lN b) (nI x) = F_X6_commonDivisor_3 fu M n (lN b) (lN (a % b)) (nI (x + 1)) := by
    intro n a b x ha hb h0 hx
    rw [F_X6_commonDivisor_3, L100, if_neg (nI_ge hx (by omega)), if_neg (fun q => by have := (cmp0 hb).mp q; omega), if_neg (fun q => by have := (lN0 hb).mp q; omega), pk_lRem (by omega) h0 (by omega), nI_1]
  intro k
  induction k with
  | zero =>
    intro n a b x ha hb hk hx hn
    have : b = 0 := by simpa using hk
    subst this
    obtain ⟨n, rfl⟩ : ∃ q, n = q + 1 := ⟨n - 1, by omega⟩
    exact z n a x ha (by omega)
  | succ k ih =>
    intro n a b x ha hb hk hx hn
    by_cases h0 : b = 0
    · subst h0
      obtain ⟨n, rfl⟩ : ∃ q, n = q + 1 := ⟨n - 1, by omega⟩
      exact z n a x ha (by omega)
    · obtain ⟨n, rfl⟩ : ∃ q, n = q + 2 := ⟨n - 2, by omega⟩
      have hr := Nat.mod_lt a (show 0 < b by omega)
      rw [st (n + 1) a b x ha hb (by omega) (by omega), gcd_st a b]
      by_cases hr0 : a % b = 0
      · rw [hr0]
        exact z n b (x + 1) hb (by omega)
      · have hh := mod_half (a := a) (b := b) (by omega) (by omega)
        have h2 := Nat.mod_lt b (show 0 < a % b by omega)
        rw [st n b (a % b) (x + 1) hb (by omega) (by omega) (by omega), gcd_st b (a % b)]
        refine ih n (a % b) (b % (a % b)) (x + 1 + 1) (by omega) (by omega) ?_ (by omega) (by omega)
        rw [Nat.pow_succ] at hk
        omega
theorem tellCh_C {fu : Nat} (hf : 1000 ≤ fu) {M : Mm} {A N : Nat} (hA : A < 2 ^ 62) (hN : N ≤ 8) : F_X6_tellChance fu M (lN A) (lN (12 ^ N)) = some (pL (pL M 0 10 (lN A / lN (Nat.gcd A (12 ^ N)))) 0 11 (lN (12 ^ N) / lN (Nat.gcd A (12 ^ N)))) := by
  have hp := p12 hN
  have h0 : 0 < 12 ^ N := Nat.pow_pos (by decide)
  have hg := Nat.gcd_pos_of_pos_right A h0
  have hgl : Nat.gcd A (12 ^ N) ≤ 12 ^ N := Nat.le_of_dvd h0 (Nat.gcd_dvd_right _ _)
  have e : ¬ lN (Nat.gcd A (12 ^ N)) = 0 := fun q => by have := (lN0 (by omega)).mp q; omega
  unfold F_X6_tellChance F_X6_commonDivisor
  rw [L0, gcd_C3 29 fu A (12 ^ N) 0 hA (by omega) (by omega) (by omega) (by omega), ob1_s, ← L0, if_neg, if_neg e, lt1_s, if_neg e, lt1_s]
  rw [lg_cmp_le, J0, pk_lLE (by omega) (by omega)]
  omega
theorem scC {x j : Nat} (h : x = 78 ∨ x = 79 ∨ (x = 77 ∧ j = 2)) : scr x j := by unfold scr sT sR sX sN; omega
theorem scX {x j : Nat} (h : x = 111 ∨ x = 112) : scr x j := by unfold scr sT sR sX sN; omega
