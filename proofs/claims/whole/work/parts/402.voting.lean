/-! who has the right, who votes 1, when it is carried -/
/-- who has the right n days from now, by the right r -/
def whoF (v : NV) (r n : Nat) : Nat → Bool := fun i => hasR (vKind v i) (vBulk v i - melF v (vKind v i) (vShade v i) 0 n) r
def whoN (v : NV) (r n : Nat) : Nat := bset (whoF v r n) (vMen v)
theorem whoN_lt {v : NV} (hv : okV v) (r n : Nat) : whoN v r n < 64 := Nat.lt_of_lt_of_le (bset_lt _ _) (Nat.pow_le_pow_right (n := 2) (by decide) hv.1)
theorem set_lt {v : NV} (hv : okV v) (f : Nat → Bool) {i : Nat} (hi : i ≤ vMen v) : bset f i < 64 := Nat.lt_of_lt_of_le (bset_lt _ _) (Nat.pow_le_pow_right (n := 2) (by decide) (Nat.le_trans hi hv.1))
theorem votersBy_C4 {fu : Nat} {M : Mm} {v : NV} (hv : okV v) (hc : CV v M) {r : Nat} (hr : 1 ≤ r) (hr2 : r ≤ 9) : ∀ (m n i : Nat), i + m = vMen v → m < n → F_X2_votersBy_4 fu M n 24 (nI r) (nI (bset (whoF v r 0) i)) (nI i) = some (nI (whoN v r 0)) := by
  intro m
  have hm := hv.1
  induction m with
  | zero =>
    intro n i hi hn
    obtain ⟨n, rfl⟩ : ∃ q, n = q + 1 := ⟨n - 1, by omega⟩
    unfold F_X2_votersBy_4
    rw [hc.1, if_pos (nI_le (by omega) (by omega)), show i = vMen v by omega]
    rfl
  | succ m ih =>
    intro n i hi hn
    obtain ⟨n, rfl⟩ : ∃ q, n = q + 1 := ⟨n - 1, by omega⟩
    obtain ⟨h1, h2, h3, h4⟩ := hv.2.2.2.2.2 i (by omega)
    have hset := bset_lt (whoF v r 0) i
    have ih1 := ih n (i + 1) (by omega) (by omega)
    unfold F_X2_votersBy_4
    rw [hc.1, if_neg (nI_ge (by omega) (by omega)), show 24 + 4 = 28 from rfl, rd_eq (show i < ln 28 by show i < 6; omega), ob1_s, (hc.2.2.2.2 i (by omega)).2.2.1, hasRight_C0 hv hc (by omega) (by omega) hr hr2, ob1_s, nI_1]
    have hw : whoF v r 0 i = hasR (vKind v i) (vBulk v i) r := rfl
    by_cases hb : hasR (vKind v i) (vBulk v i) r = true
    · rw [hb, if_neg (by decide), or_bit i (by omega) _ hset]
      unfold bset at ih1
      rwa [hw, if_pos hb] at ih1
    · rw [Bool.eq_false_iff.mpr hb, if_pos (by decide)]
      unfold bset at ih1
      rwa [hw, if_neg hb, Nat.add_zero] at ih1
theorem votersBy_C {fu : Nat} (hf : 1000 ≤ fu) {M : Mm} {v : NV} (hv : okV v) (hc : CV v M) {r : Nat} (hr : 1 ≤ r) (hr2 : r ≤ 9) : F_X2_votersBy fu M 24 (nI r) = some (nI (whoN v r 0)) :=
  votersBy_C4 hv hc hr hr2 (vMen v) fu 0 (by omega) (by have := hv.1; omega)
theorem living_C {fu : Nat} (hf : 1000 ≤ fu) {M : Mm} {v : NV} (hv : okV v) (hc : CV v M) : F_X2_living fu M 24 = some (nI (whoN v 1 0)) := by
  unfold F_X2_living
  rw [show (1 : Int32) = nI 1 from rfl, votersBy_C hf hv hc (by decide) (by decide), ob1_s]
theorem votersIn_C4 {fu : Nat} (hf : 1000 ≤ fu) {M : Mm} {v : NV} (hv : okV v) (hc : CV v M) {N : Nat} (hN : N ≤ 60) : ∀ (m n i : Nat), i + m = vMen v → m < n → F_X2_votersIn_4 fu M n 24 (nI N) (nI (bset (whoF v (vRight v) N) i)) (nI i) = some (nI (whoN v (vRight v) N)) := by
  intro m
  have hm := hv.1
  induction m with
  | zero =>
    intro n i hi hn
    obtain ⟨n, rfl⟩ : ∃ q, n = q + 1 := ⟨n - 1, by omega⟩
    unfold F_X2_votersIn_4
    rw [hc.1, if_pos (nI_le (by omega) (by omega)), show i = vMen v by omega]
    rfl
  | succ m ih =>
    intro n i hi hn
    obtain ⟨n, rfl⟩ : ∃ q, n = q + 1 := ⟨n - 1, by omega⟩
    obtain ⟨h1, h2, h3, h4⟩ := hv.2.2.2.2.2 i (by omega)
    have hset := bset_lt (whoF v (vRight v) N) i
    have ih1 := ih n (i + 1) (by omega) (by omega)
    unfold F_X2_votersIn_4
    rw [hc.1, if_neg (nI_ge (by omega) (by omega)), show 24 + 5 = 29 from rfl, rd_eq (show i < ln 29 by show i < 6; omega), ob1_s, (hc.2.2.2.2 i (by omega)).2.2.2, hasRightBy_C hf hv hc (by omega) h4 hN, ob1_s, nI_1]
    by_cases hb : whoF v (vRight v) N i = true
    · rw [show hasR (vKind v i) (vBulk v i - melF v (vKind v i) (vShade v i) 0 N) (vRight v) = true from hb, if_neg (by decide), or_bit i (by omega) _ hset]
      unfold bset at ih1
      rwa [if_pos hb] at ih1
    · rw [show hasR (vKind v i) (vBulk v i - melF v (vKind v i) (vShade v i) 0 N) (vRight v) = false from Bool.eq_false_iff.mpr hb, if_pos (by decide)]
      unfold bset at ih1
      rwa [if_neg hb, Nat.add_zero] at ih1
theorem votersIn_C {fu : Nat} (hf : 1000 ≤ fu) {M : Mm} {v : NV} (hv : okV v) (hc : CV v M) {N : Nat} (hN : N ≤ 60) : F_X2_votersIn fu M 24 (nI N) = some (nI (whoN v (vRight v) N)) :=
  votersIn_C4 hf hv hc hN (vMen v) fu 0 (by omega) (by have := hv.1; omega)
/-- whether a man votes 1, among those of a set -/
def v1 (v : NV) (s : Nat) : Nat → Bool
  | 0 => if vKind v 0 = 3 then true else decide (vVote v 0 = 1)
  | i + 1 => if vKind v (i + 1) = 3 then true else if vKind v (i + 1) = 2 ∧ s.testBit i = true then v1 v s i else decide (vVote v (i + 1) = 1)
def onesF (v : NV) (s : Nat) : Nat → Bool := fun i => s.testBit i && v1 v s i
def onesN (v : NV) (s : Nat) : Nat := bset (onesF v s) (vMen v)
theorem votesOne46_C {fu : Nat} {M : Mm} {v : NV} (hv : okV v) (hc : CV v M) {i : Nat} (hi : i < vMen v) : F_X2_votesOne_46 fu M 24 (nI i) = some (bI (decide (vVote v i = 1))) := by
  have hm := hv.1
  obtain ⟨h1, h2, h3, h4⟩ := hv.2.2.2.2.2 i hi
  unfold F_X2_votesOne_46
  rw [show 24 + 3 = 27 from rfl, rd_eq (show i < ln 27 by show i < 6; omega), ob1_s, (hc.2.2.2.2 i hi).2.1]
  by_cases h : vVote v i = 1
  · rw [h, if_pos (by decide)]; rfl
  · rw [if_neg (show ¬ nI (vVote v i) = 1 from fun z => h ((nI_eq (b := 1) (by omega) (by decide)).mp z)), decide_eq_false h]; rfl
theorem votesOne_C {fu : Nat} {M : Mm} {v : NV} (hv : okV v) (hc : CV v M) {i s : Nat} (hi : i < vMen v) (hs : s < 64) : F_X2_votesOne fu M 24 (nI i) (nI s) (nI (bset (onesF v s) i)) = some (bI (v1 v s i)) := by
  have hm := hv.1
  obtain ⟨h1, h2, h3, h4⟩ := hv.2.2.2.2.2 i hi
  unfold F_X2_votesOne
  rw [show 24 + 2 = 26 from rfl, rd_eq (show i < ln 26 by show i < 6; omega), ob1_s, (hc.2.2.2.2 i hi).1, votesOne46_C hv hc hi]
  have e3 : nI (vKind v i) = 3 ↔ vKind v i = 3 := nI_eq (b := 3) (by omega) (by decide)
  have e2 : nI (vKind v i) = 2 ↔ vKind v i = 2 := nI_eq (b := 2) (by omega) (by decide)
  cases i with
  | zero =>
    unfold v1
    by_cases k3 : vKind v 0 = 3
    · rw [if_pos (e3.mpr k3), if_pos k3]; rfl
    · rw [if_neg (fun z => k3 (e3.mp z)), if_neg k3]
      by_cases k2 : vKind v 0 = 2
      · rw [if_pos (e2.mpr k2), if_pos (by decide)]
      · rw [if_neg (fun z => k2 (e2.mp z))]
  | succ i =>
    have hones := set_lt hv (onesF v s) (i := i + 1) (by omega)
    unfold v1
    by_cases k3 : vKind v (i + 1) = 3
    · rw [if_pos (e3.mpr k3), if_pos k3]; rfl
    · rw [if_neg (fun z => k3 (e3.mp z)), if_neg k3]
      by_cases k2 : vKind v (i + 1) = 2
      · rw [if_pos (e2.mpr k2), if_neg (show ¬ nI (i + 1) ≤ 0 from nI_nle (by omega) (by omega)), nI_pred, isIn_C hs (by omega), ob1_s, isIn_C hones (by omega), ob1_s, if_neg (bI_01 _), bset_bit]
        by_cases hb : s.testBit i = true
        · rw [hb, if_neg (by decide), if_pos ⟨k2, rfl⟩]
          simp [onesF, hb]
        · rw [Bool.eq_false_iff.mpr hb, if_pos (by decide), if_neg (by simp)]
      · rw [if_neg (fun z => k2 (e2.mp z)), if_neg (fun z => k2 z.1)]
theorem onesAmong_C4 {fu : Nat} {M : Mm} {v : NV} (hv : okV v) (hc : CV v M) {s : Nat} (hs : s < 64) : ∀ (m n i : Nat), i + m = vMen v → m < n → F_X2_onesAmong_4 fu M n 24 (nI s) (nI (bset (onesF v s) i)) (nI i) = some (nI (onesN v s)) := by
  intro m
  have hm := hv.1
  induction m with
  | zero =>
    intro n i hi hn
    obtain ⟨n, rfl⟩ : ∃ q, n = q + 1 := ⟨n - 1, by omega⟩
    unfold F_X2_onesAmong_4
    rw [hc.1, if_pos (nI_le (by omega) (by omega)), show i = vMen v by omega]
    rfl
  | succ m ih =>
    intro n i hi hn
    obtain ⟨n, rfl⟩ : ∃ q, n = q + 1 := ⟨n - 1, by omega⟩
    have hset := bset_lt (onesF v s) i
    have ih1 := ih n (i + 1) (by omega) (by omega)
    unfold F_X2_onesAmong_4
    rw [hc.1, if_neg (nI_ge (by omega) (by omega)), isIn_C hs (by omega), ob1_s, votesOne_C hv hc (by omega) hs, ob1_s, nI_1]
    unfold bset at ih1
    by_cases hb : s.testBit i = true
    · rw [hb, if_neg (by decide)]
      by_cases h1 : v1 v s i = true
      · rw [h1, if_neg (by decide), or_bit i (by omega) _ hset]
        rwa [if_pos (by simp [onesF, hb, h1])] at ih1
      · rw [Bool.eq_false_iff.mpr h1, if_pos (by decide)]
        rwa [if_neg (by simp [onesF, h1]), Nat.add_zero] at ih1
    · rw [Bool.eq_false_iff.mpr hb, if_pos (by decide)]
      rwa [if_neg (by simp [onesF, hb]), Nat.add_zero] at ih1
theorem onesAmong_C {fu : Nat} (hf : 1000 ≤ fu) {M : Mm} {v : NV} (hv : okV v) (hc : CV v M) {s : Nat} (hs : s < 64) : F_X2_onesAmong fu M 24 (nI s) = some (nI (onesN v s)) :=
  onesAmong_C4 hv hc hs (vMen v) fu 0 (by omega) (by have := hv.1; omega)
theorem onesN_lt {v : NV} (hv : okV v) (s : Nat) : onesN v s < 64 := set_lt hv _ (Nat.le_refl _)
def carr (v : NV) (s : Nat) : Bool := decide (pc s < 2 * pc (onesN v s))
theorem isCarriedBy_C {fu : Nat} (hf : 1000 ≤ fu) {M : Mm} {v : NV} (hv : okV v) (hc : CV v M) {s : Nat} (hs : s < 64) : F_X2_isCarriedBy fu M 24 (nI s) = some (bI (carr v s)) := by
  have p1 := pc_le s
  have p2 := pc_le (onesN v s)
  unfold F_X2_isCarriedBy carr
  rw [onesAmong_C hf hv hc hs, ob1_s, bc_C (onesN_lt hv s), ob1_s, bc_C hs, ob1_s, show (2 : Int32) = nI 2 from rfl, pk_mul]
  by_cases h : 2 * pc (onesN v s) ≤ pc s
  · rw [if_pos (nI_le h (by omega)), decide_eq_false (by omega)]; rfl
  · rw [if_neg (nI_ge (by omega) (by omega)), decide_eq_true (by omega)]; rfl
