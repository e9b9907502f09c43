/-! what the reference reads of a north -/
def blk (v : NV) (i n : Nat) : Nat := vBulk v i - melF v (vKind v i) (vShade v i) 0 n
theorem blk_le {v : NV} (hv : okV v) {i : Nat} (hi : i < vMen v) (n : Nat) : blk v i n ≤ 99 := Nat.le_trans (Nat.sub_le _ _) (hv.2.2.2.2.2 i hi).2.2.1
theorem melD_X {fu : Nat} {M : Mm} {v : NV} (hv : okV v) (hc : XV v M) {k s d : Nat} (hk : k ≤ 5) (hs : s ≤ 9) (hd : d ≤ 100) : F_X7_melts fu M (nI k) (nI s) (nI (vDay v + d)) = some (nI (melD v k s d)) := mel_X hv hc hk hs (by have := hv.2.2.2.1; omega)
theorem cnt_t {f : Nat → Bool} {i : Nat} (h : f i = true) : cnt f (i + 1) = cnt f i + 1 := by simp [cnt, h]
theorem cnt_f {f : Nat → Bool} {i : Nat} (h : ¬ f i = true) : cnt f (i + 1) = cnt f i := by simp [cnt, h]
theorem bulkAfter_X6 {fu : Nat} {M : Mm} {v : NV} (hv : okV v) (hc : XV v M) {k s N : Nat} (hk : k ≤ 5) (hs : s ≤ 9) (hN : N ≤ 60) : ∀ (m n z d : Nat), z < 1000000 → d + m = N → m < n → F_X7_bulkAfter_6 fu M n (nI k) (nI s) (nI N) (nI z) (nI d) = some (nI (z - melF v k s d m)) := by
  intro m
  have hday := hv.2.2.2.1
  induction m with
  | zero =>
    intro n z d hz hd hn
    obtain ⟨n, rfl⟩ : ∃ q, n = q + 1 := ⟨n - 1, by omega⟩
    unfold F_X7_bulkAfter_6
    simp (disch := omega) only [L0, L1, L2, L3, L4, L5, L6, L7, L8, L9, L10, L11, L12, L13, L14, L15, L20, L32, L40, L48, L60, L61, L99, L100, L104, L105, L108, L109, L115, L119, L122, L780, L795, L1000, L1000000, leN, ltN, eqN, clN, nI_add, pk_mul, if_pos, if_neg, lt1_s, ob1_s, ob2_s, op1_n, op1_s]
    rfl
  | succ m ih =>
    intro n z d hz hd hn
    obtain ⟨n, rfl⟩ : ∃ q, n = q + 1 := ⟨n - 1, by omega⟩
    have hm := melD_le hv k s d
    unfold F_X7_bulkAfter_6
    rw [if_neg (nI_ge (by omega) (by omega)), hc.2.2.1, nI_add, melD_X hv hc hk hs (by omega), ob1_s, most_X (by omega) (by omega), ob1_s, nI_1, ih n _ (d + 1) (by omega) (by omega) (by omega), Nat.sub_sub]
    rfl
theorem bulkAfter_X {fu : Nat} (hf : 1000 ≤ fu) {M : Mm} {v : NV} (hv : okV v) (hc : XV v M) {k s N z : Nat} (hk : k ≤ 5) (hs : s ≤ 9) (hN : N ≤ 60) (hz : z < 1000000) : F_X7_bulkAfter fu M (nI k) (nI z) (nI s) (nI N) = some (nI (z - melF v k s 0 N)) :=
  bulkAfter_X6 hv hc hk hs hN N fu z 0 hz (by omega) (by omega)
theorem bulkThen_X {fu : Nat} (hf : 1000 ≤ fu) {M : Mm} {v : NV} (hv : okV v) (hc : XV v M) {i N : Nat} (hi : i < vMen v) (hN : N ≤ 60) : F_X7_bulkThen fu M (nI i) (nI N) = some (nI (blk v i N)) := by
  have hm := hv.1
  obtain ⟨h1, h2, h3, h4⟩ := hv.2.2.2.2.2 i hi
  obtain ⟨c1, c2, c3, c4⟩ := hc.2.2.2.2 i hi
  unfold F_X7_bulkThen
  rw [xr91 (by omega), xr94 (by omega), xr95 (by omega), clN (by omega), c1, c3, c4, bulkAfter_X hf hv hc h1 h4 hN (by omega), ob1_s]
  rfl
theorem mayVote_X {fu : Nat} {M : Mm} {v : NV} (hv : okV v) (hc : XV v M) {i z : Nat} (hi : i < vMen v) (hz : z < 1000000) : F_X7_mayVote fu M (nI i) (nI z) = some (bI (hasR (vKind v i) z (vRight v))) := by
  have hm := hv.1
  have hr := hv.2.2.1
  obtain ⟨h1, h2, h3, h4⟩ := hv.2.2.2.2.2 i hi
  obtain ⟨c1, c2, c3, c4⟩ := hc.2.2.2.2 i hi
  unfold F_X7_mayVote hasR
  rw [xr91 (by omega), clN (by omega), c1, hc.2.1]
  by_cases k4 : vKind v i = 4
  · simp (disch := omega) only [L0, L1, L2, L3, L4, L5, L6, L7, L8, L9, L10, L11, L12, L13, L14, L15, L20, L32, L40, L48, L60, L61, L99, L100, L104, L105, L108, L109, L115, L119, L122, L780, L795, L1000, L1000000, leN, ltN, eqN, clN, nI_add, pk_mul, if_pos, if_neg, lt1_s, ob1_s, ob2_s, op1_n, op1_s, k4]
    by_cases z0 : z = 0
    · simp (disch := omega) only [L0, L1, L2, L3, L4, L5, L6, L7, L8, L9, L10, L11, L12, L13, L14, L15, L20, L32, L40, L48, L60, L61, L99, L100, L104, L105, L108, L109, L115, L119, L122, L780, L795, L1000, L1000000, leN, ltN, eqN, clN, nI_add, pk_mul, if_pos, if_neg, lt1_s, ob1_s, ob2_s, op1_n, op1_s, z0]
      rfl
    · simp (disch := omega) only [L0, L1, L2, L3, L4, L5, L6, L7, L8, L9, L10, L11, L12, L13, L14, L15, L20, L32, L40, L48, L60, L61, L99, L100, L104, L105, L108, L109, L115, L119, L122, L780, L795, L1000, L1000000, leN, ltN, eqN, clN, nI_add, pk_mul, if_pos, if_neg, lt1_s, ob1_s, ob2_s, op1_n, op1_s]
      rw [decide_eq_true (by omega)]
      rfl
  · rw [if_neg k4, L4, if_neg (by rw [eqN (by omega) (by omega)]; exact k4)]
    by_cases z0 : z < vRight v
    · simp (disch := omega) only [L0, L1, L2, L3, L4, L5, L6, L7, L8, L9, L10, L11, L12, L13, L14, L15, L20, L32, L40, L48, L60, L61, L99, L100, L104, L105, L108, L109, L115, L119, L122, L780, L795, L1000, L1000000, leN, ltN, eqN, clN, nI_add, pk_mul, if_pos, if_neg, lt1_s, ob1_s, ob2_s, op1_n, op1_s]
      rw [decide_eq_false (by omega)]
      rfl
    · simp (disch := omega) only [L0, L1, L2, L3, L4, L5, L6, L7, L8, L9, L10, L11, L12, L13, L14, L15, L20, L32, L40, L48, L60, L61, L99, L100, L104, L105, L108, L109, L115, L119, L122, L780, L795, L1000, L1000000, leN, ltN, eqN, clN, nI_add, pk_mul, if_pos, if_neg, lt1_s, ob1_s, ob2_s, op1_n, op1_s]
      rw [decide_eq_true (by omega)]
      rfl
theorem whoThen_X4 {fu : Nat} (hf : 1000 ≤ fu) {M : Mm} {v : NV} (hv : okV v) (hc : XV v M) {N : Nat} (hN : N ≤ 60) : ∀ (m n i : Nat), i + m = vMen v → m < n → F_X7_whoThen_4 fu M n (nI N) (nI (bset (whoF v (vRight v) N) i)) (nI i) = some (nI (whoN v (vRight v) N)) := by
  intro m
  have hm := hv.1
  induction m with
  | zero =>
    intro n i hi hn
    obtain ⟨n, rfl⟩ : ∃ q, n = q + 1 := ⟨n - 1, by omega⟩
    unfold F_X7_whoThen_4
    rw [hc.1, if_pos (nI_le (by omega) (by omega)), show i = vMen v by omega]
    rfl
  | succ m ih =>
    intro n i hi hn
    obtain ⟨n, rfl⟩ : ∃ q, n = q + 1 := ⟨n - 1, by omega⟩
    have hset := bset_lt (whoF v (vRight v) N) i
    have ih1 := ih n (i + 1) (by omega) (by omega)
    have hb := blk_le hv (show i < vMen v by omega) N
    unfold F_X7_whoThen_4
    rw [hc.1, if_neg (nI_ge (by omega) (by omega)), bulkThen_X hf hv hc (by omega) hN, ob1_s, mayVote_X hv hc (by omega) (by omega), ob1_s, nI_1]
    by_cases hb : whoF v (vRight v) N i = true
    · rw [show hasR (vKind v i) (blk v i N) (vRight v) = true from hb, if_neg (by decide), or_bit i (by omega) _ hset]
      unfold bset at ih1
      rwa [if_pos hb] at ih1
    · rw [show hasR (vKind v i) (blk v i N) (vRight v) = false from Bool.eq_false_iff.mpr hb, if_pos (by decide), or_0]
      unfold bset at ih1
      rwa [if_neg hb, Nat.add_zero] at ih1
theorem whoThen_X {fu : Nat} (hf : 1000 ≤ fu) {M : Mm} {v : NV} (hv : okV v) (hc : XV v M) {N : Nat} (hN : N ≤ 60) : F_X7_whoThen fu M (nI N) = some (nI (whoN v (vRight v) N)) :=
  whoThen_X4 hf hv hc hN (vMen v) fu 0 (by omega) (by have := hv.1; omega)
theorem nIb {b : Bool} {k : Nat} (hk : k ≤ 1) (h : b = decide (k = 1)) : nI k = bI b := by
  subst h
  have : k = 0 ∨ k = 1 := by omega
  rcases this with rfl | rfl <;> rfl
theorem votesBy_X44 {fu : Nat} {M : Mm} {v : NV} (hv : okV v) (hc : XV v M) {i : Nat} (hi : i < vMen v) : F_X7_votesBy_44 fu M (nI i) = some (bI (if vKind v i = 3 then true else decide (vVote v i = 1))) := by
  have hm := hv.1
  obtain ⟨h1, h2, h3, h4⟩ := hv.2.2.2.2.2 i hi
  obtain ⟨c1, c2, c3, c4⟩ := hc.2.2.2.2 i hi
  unfold F_X7_votesBy_44
  rw [xr91 (by omega), xr92 (by omega), clN (by omega), c1, c2]
  by_cases k3 : vKind v i = 3
  · simp (disch := omega) only [L0, L1, L2, L3, L4, L5, L6, L7, L8, L9, L10, L11, L12, L13, L14, L15, L20, L32, L40, L48, L60, L61, L99, L100, L104, L105, L108, L109, L115, L119, L122, L780, L795, L1000, L1000000, leN, ltN, eqN, clN, nI_add, pk_mul, if_pos, if_neg, lt1_s, ob1_s, ob2_s, op1_n, op1_s, k3]
    rfl
  · rw [if_neg k3, L3, if_neg (by rw [eqN (by omega) (by omega)]; exact k3), nIb h2 rfl]
theorem isInE {s i : Nat} (hs : s < 64) (hi : i < 6) : (nI s >>> (nI i &&& 31)) &&& (1 : Int32) = bI (s.testBit i) := isIn_b s hs i hi
theorem votesBy_X13 {fu : Nat} {M : Mm} {v : NV} (hv : okV v) (hc : XV v M) {s : Nat} (hs : s < 64) : ∀ (i n : Nat), i < vMen v → i < n → F_X7_votesBy_13 fu M n (nI s) (nI i) = some (bI (v1 v s i)) := by
  intro i
  have hm := hv.1
  induction i with
  | zero =>
    intro n hi hn
    obtain ⟨n, rfl⟩ : ∃ q, n = q + 1 := ⟨n - 1, by omega⟩
    obtain ⟨h1, h2, h3, h4⟩ := hv.2.2.2.2.2 0 hi
    obtain ⟨c1, c2, c3, c4⟩ := hc.2.2.2.2 0 hi
    unfold F_X7_votesBy_13 v1
    rw [xr91 (by omega), if_pos (show nI 0 ≤ 0 by decide), ite_self, votesBy_X44 hv hc hi]
  | succ i ih =>
    intro n hi hn
    obtain ⟨n, rfl⟩ : ∃ q, n = q + 1 := ⟨n - 1, by omega⟩
    obtain ⟨h1, h2, h3, h4⟩ := hv.2.2.2.2.2 (i + 1) hi
    obtain ⟨c1, c2, c3, c4⟩ := hc.2.2.2.2 (i + 1) hi
    unfold F_X7_votesBy_13 v1
    rw [xr91 (by omega), clN (by omega), c1, if_neg (show ¬ nI (i + 1) ≤ 0 from nI_nle (by omega) (by omega)), nI_pred, isInE hs (by omega), pk_m1, ih n (by omega) (by omega), votesBy_X44 hv hc hi]
    by_cases k2 : vKind v (i + 1) = 2
    · rw [if_pos (show nI (vKind v (i + 1)) = 2 by rw [k2]; rfl)]
      by_cases hb : s.testBit i = true
      · rw [hb, if_pos (by decide), if_neg (show ¬ vKind v (i + 1) = 3 by omega), if_pos ⟨k2, rfl⟩]
      · rw [Bool.eq_false_iff.mpr hb, if_neg (by decide), if_neg (show ¬ vKind v (i + 1) = 3 by omega), if_neg (show ¬ vKind v (i + 1) = 3 by omega), if_neg (by simp)]
    · rw [L2, if_neg (by rw [eqN (by omega) (by omega)]; exact k2)]
      by_cases k3 : vKind v (i + 1) = 3
      · rw [if_pos k3, if_pos k3]
      · rw [if_neg k3, if_neg k3, if_neg (fun q => k2 q.1)]
theorem votesBy_X {fu : Nat} (hf : 1000 ≤ fu) {M : Mm} {v : NV} (hv : okV v) (hc : XV v M) {s i : Nat} (hs : s < 64) (hi : i < vMen v) : F_X7_votesBy fu M (nI i) (nI s) = some (if s.testBit i = true then bI (v1 v s i) else -9) := by
  have hm := hv.1
  unfold F_X7_votesBy
  rw [isInE hs (by omega), votesBy_X13 hv hc hs i fu hi (by omega)]
  cases s.testBit i <;> rfl
def zeroF (v : NV) (s : Nat) : Nat → Bool := fun i => s.testBit i && !v1 v s i
theorem manyFor_X5 {fu : Nat} (hf : 1000 ≤ fu) {M : Mm} {v : NV} (hv : okV v) (hc : XV v M) {s : Nat} (hs : s < 64) {x : Int32} {f : Nat → Bool} (h : ∀ i, i < vMen v → (((if s.testBit i = true then bI (v1 v s i) else -9) = x) ↔ f i = true)) : ∀ (m n i : Nat), i + m = vMen v → m < n → F_X7_manyFor_5 fu M n x (nI s) (nI (cnt f i)) (nI i) = some (nI (cnt f (vMen v))) := by
  intro m
  have hm := hv.1
  induction m with
  | zero =>
    intro n i hi hn
    obtain ⟨n, rfl⟩ : ∃ q, n = q + 1 := ⟨n - 1, by omega⟩
    unfold F_X7_manyFor_5
    rw [hc.1, if_pos (nI_le (by omega) (by omega)), show i = vMen v by omega]
  | succ m ih =>
    intro n i hi hn
    obtain ⟨n, rfl⟩ : ∃ q, n = q + 1 := ⟨n - 1, by omega⟩
    have ih1 := ih n (i + 1) (by omega) (by omega)
    have hh := h i (by omega)
    unfold F_X7_manyFor_5
    rw [hc.1, if_neg (nI_ge (by omega) (by omega)), votesBy_X hf hv hc hs (by omega), ob1_s, nI_1]
    by_cases hb : f i = true
    · rw [if_pos (hh.mpr hb), nI_1]
      rwa [cnt_t hb] at ih1
    · rw [if_neg (fun q => hb (hh.mp q)), L0, ad_z, nI_1]
      rwa [cnt_f hb] at ih1
theorem manyFor_X1 {fu : Nat} (hf : 1000 ≤ fu) {M : Mm} {v : NV} (hv : okV v) (hc : XV v M) {s : Nat} (hs : s < 64) : F_X7_manyFor fu M 1 (nI s) = some (nI (pc (onesN v s))) := by
  have hm := hv.1
  unfold F_X7_manyFor onesN
  rw [pc_bset _ _ hm]
  refine manyFor_X5 hf hv hc hs (f := onesF v s) (fun i hi => ?_) (vMen v) fu 0 (by omega) (by omega)
  unfold onesF
  cases s.testBit i <;> cases v1 v s i <;> decide
theorem manyFor_X0 {fu : Nat} (hf : 1000 ≤ fu) {M : Mm} {v : NV} (hv : okV v) (hc : XV v M) {s : Nat} (hs : s < 64) : F_X7_manyFor fu M 0 (nI s) = some (nI (cnt (zeroF v s) (vMen v))) := by
  have hm := hv.1
  unfold F_X7_manyFor
  refine manyFor_X5 hf hv hc hs (f := zeroF v s) (fun i hi => ?_) (vMen v) fu 0 (by omega) (by omega)
  unfold zeroF
  cases s.testBit i <;> cases v1 v s i <;> decide
theorem cnt_split (v : NV) (s : Nat) : ∀ n, cnt (onesF v s) n + cnt (zeroF v s) n = cnt (fun i => s.testBit i) n := by
  intro n
  induction n with
  | zero => rfl
  | succ n ih =>
    unfold cnt
    rw [← ih]
    unfold onesF zeroF
    cases s.testBit n <;> cases v1 v s n <;> simp <;> omega
theorem zero_eq {v : NV} (hv : okV v) {s : Nat} (hs : s < 2 ^ vMen v) : cnt (zeroF v s) (vMen v) = pc s - pc (onesN v s) ∧ pc (onesN v s) ≤ pc s := by
  have h1 := cnt_split v s (vMen v)
  rw [← pc_self hv.1 hs, ← pc_bset _ _ hv.1] at h1
  unfold onesN
  omega
theorem isCarried_X {fu : Nat} (hf : 1000 ≤ fu) {M : Mm} {v : NV} (hv : okV v) (hc : XV v M) {s : Nat} (hs : s < 2 ^ vMen v) : F_X7_isCarried fu M (nI s) = some (bI (carr v s)) := by
  have h64 : s < 64 := Nat.lt_of_lt_of_le hs (Nat.pow_le_pow_right (n := 2) (by decide) hv.1)
  have h2 := zero_eq hv hs
  have p1 := pc_le s
  have p2 := pc_le (onesN v s)
  unfold F_X7_isCarried carr
  rw [manyFor_X1 hf hv hc h64, ob1_s, manyFor_X0 hf hv hc h64, ob1_s, h2.1]
  by_cases h : pc s < 2 * pc (onesN v s)
  · simp (disch := omega) only [L0, L1, L2, L3, L4, L5, L6, L7, L8, L9, L10, L11, L12, L13, L14, L15, L20, L32, L40, L48, L60, L61, L99, L100, L104, L105, L108, L109, L115, L119, L122, L780, L795, L1000, L1000000, leN, ltN, eqN, clN, nI_add, pk_mul, if_pos, if_neg, lt1_s, ob1_s, ob2_s, op1_n, op1_s]
    rw [decide_eq_true h]
    rfl
  · simp (disch := omega) only [L0, L1, L2, L3, L4, L5, L6, L7, L8, L9, L10, L11, L12, L13, L14, L15, L20, L32, L40, L48, L60, L61, L99, L100, L104, L105, L108, L109, L115, L119, L122, L780, L795, L1000, L1000000, leN, ltN, eqN, clN, nI_add, pk_mul, if_pos, if_neg, lt1_s, ob1_s, ob2_s, op1_n, op1_s]
    rw [decide_eq_false h]
    rfl
def goneP (v : NV) (i : Nat) : Nat → Bool := fun n => decide (vBulk v i ≤ melF v (vKind v i) (vShade v i) 0 n)
theorem blkqs (v : NV) (i d : Nat) : blk v i (d + 1) = blk v i d - melD v (vKind v i) (vShade v i) d := by
  unfold blk
  rw [melF_s, Nat.zero_add, Nat.sub_sub]
theorem blkq0 (v : NV) (i : Nat) : blk v i 0 = vBulk v i := rfl
theorem goneIn_X9 {fu : Nat} {M : Mm} {v : NV} (hv : okV v) (hc : XV v M) {i : Nat} (hi : i < vMen v) : ∀ (m n d : Nat), d + m = 61 → m < n → F_X7_goneIn_9 fu M n (nI i) (nI (blk v i d)) (nI d) = some (srch (goneP v i) m d) := by
  intro m
  have hm := hv.1
  have hday := hv.2.2.2.1
  obtain ⟨h1, h2, h3, h4⟩ := hv.2.2.2.2.2 i hi
  obtain ⟨c1, c2, c3, c4⟩ := hc.2.2.2.2 i hi
  induction m with
  | zero =>
    intro n d hd hn
    obtain ⟨n, rfl⟩ : ∃ q, n = q + 1 := ⟨n - 1, by omega⟩
    unfold F_X7_goneIn_9
    rw [L60, if_pos (nI_lt (by omega) (by omega))]
    rfl
  | succ m ih =>
    intro n d hd hn
    obtain ⟨n, rfl⟩ : ∃ q, n = q + 1 := ⟨n - 1, by omega⟩
    have ih1 := ih n (d + 1) (by omega) (by omega)
    have hb := blk_le hv hi d
    have hmd := melD_le hv (vKind v i) (vShade v i) d
    have hml : (blk v i d = 0) ↔ goneP v i d = true := by
      unfold goneP blk
      rw [decide_eq_true_iff]
      omega
    rw [blkqs] at ih1
    unfold F_X7_goneIn_9 srch
    rw [L60, if_neg (nI_nlt (by omega) (by omega)), xr91 (by omega), xr95 (by omega), clN (by omega), c1, c4, hc.2.2.1, nI_add, melD_X hv hc h1 h4 (by omega), ob1_s, most_X (by omega) (by omega), ob1_s, nI_1]
    by_cases h : goneP v i d = true
    · rw [if_pos h, hml.mpr h, if_pos (by decide)]
    · rw [if_neg h, L0, if_neg (by rw [eqN (by omega) (by omega)]; exact fun q => h (hml.mp q))]
      exact ih1
theorem goneIn_X {fu : Nat} (hf : 1000 ≤ fu) {M : Mm} {v : NV} (hv : okV v) (hc : XV v M) {i : Nat} (hi : i < vMen v) : F_X7_goneIn fu M (nI i) = some (srch (goneP v i) 61 0) := by
  have hm := hv.1
  unfold F_X7_goneIn
  rw [xr94 (by omega), clN (by omega), (hc.2.2.2.2 i hi).2.2.1]
  exact goneIn_X9 hv hc hi 61 fu 0 (by omega) (by omega)
theorem hasR_1 (k z : Nat) : hasR k z 1 = decide (0 < z) := by
  unfold hasR
  split <;> simp <;> omega
theorem here_X4 {fu : Nat} {M : Mm} {v : NV} (hv : okV v) (hc : XV v M) : ∀ (m n i : Nat), i + m = vMen v → m < n → F_X7_here_4 fu M n (nI (bset (whoF v 1 0) i)) (nI i) = some (nI (whoN v 1 0)) := by
  intro m
  have hm := hv.1
  induction m with
  | zero =>
    intro n i hi hn
    obtain ⟨n, rfl⟩ : ∃ q, n = q + 1 := ⟨n - 1, by omega⟩
    unfold F_X7_here_4
    rw [hc.1, if_pos (nI_le (by omega) (by omega)), show i = vMen v by omega]
    rfl
  | succ m ih =>
    intro n i hi hn
    obtain ⟨n, rfl⟩ : ∃ q, n = q + 1 := ⟨n - 1, by omega⟩
    obtain ⟨h1, h2, h3, h4⟩ := hv.2.2.2.2.2 i (by omega)
    have hset := bset_lt (whoF v 1 0) i
    have ih1 := ih n (i + 1) (by omega) (by omega)
    unfold F_X7_here_4
    rw [hc.1, if_neg (nI_ge (by omega) (by omega)), xr94 (by omega), clN (by omega), (hc.2.2.2.2 i (by omega)).2.2.1, nI_1]
    unfold bset at ih1
    have hw : whoF v 1 0 i = decide (0 < vBulk v i) := hasR_1 _ _
    by_cases hb : 0 < vBulk v i
    · rw [if_neg (show ¬ nI (vBulk v i) ≤ 0 from nI_nle hb (by omega)), or_bit i (by omega) _ hset]
      rwa [if_pos (by rw [hw]; exact decide_eq_true hb)] at ih1
    · rw [if_pos (show nI (vBulk v i) ≤ 0 from nI_le (b := 0) (by omega) (by omega)), or_0]
      rwa [if_neg (by rw [hw]; simp [hb]), Nat.add_zero] at ih1
theorem here_X {fu : Nat} (hf : 1000 ≤ fu) {M : Mm} {v : NV} (hv : okV v) (hc : XV v M) : F_X7_here fu M = some (nI (whoN v 1 0)) :=
  here_X4 hv hc (vMen v) fu 0 (by omega) (by have := hv.1; omega)
def smallP (v : NV) (i : Nat) : Nat → Bool := fun d => decide (0 < blk v i d ∧ blk v i d < vRight v)
theorem smallDays_X4 {fu : Nat} (hf : 1000 ≤ fu) {M : Mm} {v : NV} (hv : okV v) (hc : XV v M) {i : Nat} (hi : i < vMen v) : ∀ (m n d a : Nat), d + m = 60 → m < n → F_X7_smallDays_4 fu M n (nI i) (nI a) (nI d) = some (nI (a + cntF (smallP v i) m d)) := by
  intro m
  have hr := hv.2.2.1
  induction m with
  | zero =>
    intro n d a hd hn
    obtain ⟨n, rfl⟩ : ∃ q, n = q + 1 := ⟨n - 1, by omega⟩
    unfold F_X7_smallDays_4
    rw [L60, if_pos (nI_le (by omega) (by omega))]
    rfl
  | succ m ih =>
    intro n d a hd hn
    obtain ⟨n, rfl⟩ : ∃ q, n = q + 1 := ⟨n - 1, by omega⟩
    have hb := blk_le hv hi d
    unfold F_X7_smallDays_4 cntF
    rw [L60, if_neg (nI_ge (by omega) (by omega)), bulkThen_X hf hv hc hi (by omega), ob1_s, hc.2.1, nI_1, nI_1, L0, ad_z, ih n (d + 1) _ (by omega) (by omega), ih n (d + 1) _ (by omega) (by omega)]
    by_cases h : 0 < blk v i d ∧ blk v i d < vRight v
    · rw [if_neg (nI_ge (by omega) (by omega)), if_neg (nI_ge (by omega) (by omega)), if_pos (show smallP v i d = true from decide_eq_true h), Nat.add_assoc]
    · rw [if_neg (show ¬ smallP v i d = true from fun q => h (of_decide_eq_true q)), Nat.zero_add]
      by_cases h0 : blk v i d ≤ 0
      · rw [if_pos (nI_le h0 (by omega))]
      · rw [if_neg (nI_ge (by omega) (by omega)), if_pos (nI_le (by omega) (by omega))]
theorem smallDays_X {fu : Nat} (hf : 1000 ≤ fu) {M : Mm} {v : NV} (hv : okV v) (hc : XV v M) {i : Nat} (hi : i < vMen v) : F_X7_smallDays fu M (nI i) = some (nI (cntF (smallP v i) 60 0)) := by
  have := smallDays_X4 hf hv hc hi 60 fu 0 0 (by omega) (by omega)
  rw [Nat.zero_add] at this
  exact this
def melP (v : NV) (i : Nat) : Nat → Bool := fun d => decide (0 < melD v (vKind v i) (vShade v i) d)
theorem meltDays_X4 {fu : Nat} {M : Mm} {v : NV} (hv : okV v) (hc : XV v M) {i : Nat} (hi : i < vMen v) : ∀ (m n d a : Nat), d + m = 8 → m < n → F_X7_meltDays_4 fu M n (nI i) (nI a) (nI d) = some (nI (a + cntF (melP v i) m d)) := by
  intro m
  have hm := hv.1
  have hday := hv.2.2.2.1
  obtain ⟨h1, h2, h3, h4⟩ := hv.2.2.2.2.2 i hi
  obtain ⟨c1, c2, c3, c4⟩ := hc.2.2.2.2 i hi
  induction m with
  | zero =>
    intro n d a hd hn
    obtain ⟨n, rfl⟩ : ∃ q, n = q + 1 := ⟨n - 1, by omega⟩
    unfold F_X7_meltDays_4
    rw [L8, if_pos (nI_le (by omega) (by omega))]
    rfl
  | succ m ih =>
    intro n d a hd hn
    obtain ⟨n, rfl⟩ : ∃ q, n = q + 1 := ⟨n - 1, by omega⟩
    have hmd := melD_le hv (vKind v i) (vShade v i) d
    unfold F_X7_meltDays_4 cntF
    rw [L8, if_neg (nI_ge (by omega) (by omega)), xr91 (by omega), xr95 (by omega), clN (by omega), c1, c4, hc.2.2.1, nI_add, melD_X hv hc h1 h4 (by omega), ob1_s, nI_1, nI_1, L0, ad_z, ih n (d + 1) _ (by omega) (by omega), ih n (d + 1) _ (by omega) (by omega)]
    by_cases h : 0 < melD v (vKind v i) (vShade v i) d
    · rw [if_neg (nI_ge h (by omega)), if_pos (show melP v i d = true from decide_eq_true h), Nat.add_assoc]
    · rw [if_neg (show ¬ melP v i d = true from fun q => h (of_decide_eq_true q)), Nat.zero_add, if_pos (nI_le (by omega) (by omega))]
theorem meltDays_X {fu : Nat} (hf : 1000 ≤ fu) {M : Mm} {v : NV} (hv : okV v) (hc : XV v M) {i : Nat} (hi : i < vMen v) : F_X7_meltDays fu M (nI i) = some (nI (cntF (melP v i) 8 0)) := by
  have := meltDays_X4 (fu := fu) hv hc hi 8 fu 0 0 (by omega) (by omega)
  rw [Nat.zero_add] at this
  exact this
/-- as which man one votes -/
def asF (s i : Nat) : Int32 := if s.testBit i = true then (if 0 < i ∧ s.testBit (i - 1) = true then nI (i - 1) else nI i) else -9
theorem votesAs_X {fu : Nat} (hf : 1000 ≤ fu) {M : Mm} {v : NV} (hv : okV v) (hc : XV v M) {i : Nat} (hi : i < vMen v) : F_X7_votesAs fu M (nI i) = some (asF (whoN v (vRight v) 0) i) := by
  have hm := hv.1
  have hs := whoN_lt hv (vRight v) 0
  unfold F_X7_votesAs asF
  have hw := whoThen_X hf hv hc (N := 0) (by omega)
  rw [L0, hw, ob1_s, isInE hs (by omega)]
  cases i with
  | zero =>
    rw [if_pos (show nI 0 ≤ nI 0 by decide), if_neg (show ¬ (0 < 0 ∧ (whoN v (vRight v) 0).testBit (0 - 1) = true) by omega)]
    cases (whoN v (vRight v) 0).testBit 0 <;> rfl
  | succ i =>
    rw [nI_pred, isInE hs (by omega), if_neg (show ¬ nI (i + 1) ≤ nI 0 from nI_ge (by omega) (by omega)), show i + 1 - 1 = i from rfl]
    cases (whoN v (vRight v) 0).testBit (i + 1)
    · rfl
    · cases (whoN v (vRight v) 0).testBit i
      · rw [if_neg (by decide), if_neg (by decide), if_pos rfl, if_neg (by simp)]
      · rw [if_neg (by decide), if_pos (by decide), if_pos rfl, if_pos ⟨by omega, rfl⟩]
