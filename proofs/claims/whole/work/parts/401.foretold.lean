/-! what melts, how large each will be, who has the right, how they vote: both systems -/
theorem meltingIn_C {fu : Nat} {M : Mm} {v : NV} (hv : okV v) (hc : CV v M) {i d : Nat} (hi : i < vMen v) (hd : d ≤ 100) : F_X2_meltingIn fu M 24 (nI i) (nI d) = some (nI (melD v (vKind v i) (vShade v i) d)) := by
  have hm := hv.1
  have hday := hv.2.2.2.1
  obtain ⟨h1, h2, h3, h4⟩ := hv.2.2.2.2.2 i hi
  obtain ⟨c1, c2, c3, c4⟩ := hc.2.2.2.2 i hi
  unfold F_X2_meltingIn
  rw [show 24 + 2 = 26 from rfl, show 24 + 5 = 29 from rfl, rd_eq (show i < ln 26 by show i < 6; omega), ob1_s, rd_eq (show i < ln 29 by show i < 6; omega), ob1_s, c1, c4, hc.2.2.1, nI_add, mel_C hv hc h1 h4 (by omega), ob1_s]
  rfl
theorem meltedIn_C6 {fu : Nat} {M : Mm} {v : NV} (hv : okV v) (hc : CV v M) {k s N : Nat} (hk : k ≤ 5) (hs : s ≤ 9) (hN : N ≤ 60) : ∀ (m n d a : Nat), d + m = N → m < n → F_X2_meltedIn_6 fu M n 24 (nI k) (nI s) (nI N) (nI a) (nI d) = some (nI (a + melF v k s d m)) := by
  intro m
  have hday := hv.2.2.2.1
  induction m with
  | zero =>
    intro n d a hd hn
    obtain ⟨n, rfl⟩ : ∃ q, n = q + 1 := ⟨n - 1, by omega⟩
    unfold F_X2_meltedIn_6
    rw [if_pos (nI_le (by omega) (by omega))]
    rfl
  | succ m ih =>
    intro n d a hd hn
    obtain ⟨n, rfl⟩ : ∃ q, n = q + 1 := ⟨n - 1, by omega⟩
    unfold F_X2_meltedIn_6
    rw [if_neg (nI_ge (by omega) (by omega)), hc.2.2.1, nI_add, mel_C hv hc hk hs (by omega), ob1_s, nI_add, nI_1, ih n (d + 1) _ (by omega) (by omega), Nat.add_assoc]
    rfl
theorem meltedIn_C {fu : Nat} (hf : 1000 ≤ fu) {M : Mm} {v : NV} (hv : okV v) (hc : CV v M) {k s N : Nat} (hk : k ≤ 5) (hs : s ≤ 9) (hN : N ≤ 60) : F_X2_meltedIn fu M 24 (nI k) (nI s) (nI N) = some (nI (melF v k s 0 N)) := by
  unfold F_X2_meltedIn
  have := meltedIn_C6 (fu := fu) hv hc hk hs hN N fu 0 0 (by omega) (by omega)
  rw [Nat.zero_add] at this
  exact this
theorem bulkBy_C {fu : Nat} (hf : 1000 ≤ fu) {M : Mm} {v : NV} (hv : okV v) (hc : CV v M) {i s N : Nat} (hi : i < vMen v) (hs : s ≤ 9) (hN : N ≤ 60) : F_X2_bulkBy fu M 24 (nI i) (nI s) (nI N) = some (nI (vBulk v i - melF v (vKind v i) s 0 N)) := by
  have hm := hv.1
  obtain ⟨h1, h2, h3, h4⟩ := hv.2.2.2.2.2 i hi
  obtain ⟨c1, c2, c3, c4⟩ := hc.2.2.2.2 i hi
  have hme := melF_le hv (vKind v i) s N 0
  unfold F_X2_bulkBy
  rw [show 24 + 2 = 26 from rfl, show 24 + 4 = 28 from rfl, rd_eq (show i < ln 28 by show i < 6; omega), ob1_s, rd_eq (show i < ln 26 by show i < 6; omega), ob1_s, c1, c3, meltedIn_C hf hv hc h1 hs hN, ob1_s, nI_subT (by omega) (by omega)]
theorem bulkIn_C {fu : Nat} (hf : 1000 ≤ fu) {M : Mm} {v : NV} (hv : okV v) (hc : CV v M) {i N : Nat} (hi : i < vMen v) (hN : N ≤ 60) : F_X2_bulkIn fu M 24 (nI i) (nI N) = some (nI (vBulk v i - melF v (vKind v i) (vShade v i) 0 N)) := by
  have hm := hv.1
  obtain ⟨h1, h2, h3, h4⟩ := hv.2.2.2.2.2 i hi
  obtain ⟨c1, c2, c3, c4⟩ := hc.2.2.2.2 i hi
  unfold F_X2_bulkIn
  rw [show 24 + 5 = 29 from rfl, rd_eq (show i < ln 29 by show i < 6; omega), ob1_s, c4, bulkBy_C hf hv hc hi h4 hN, ob1_s]
def bI (b : Bool) : Int32 := if b then 1 else 0
theorem bI_t : bI true = 1 := rfl
theorem bI_f : bI false = 0 := rfl
theorem bI_01 (b : Bool) : ¬ ¬ (bI b = 0 ∨ bI b = 1) := by cases b <;> decide
theorem bI_eq0 {b : Bool} : bI b = 0 ↔ b = false := by cases b <;> decide
theorem bI_eq1 {b : Bool} : bI b = 1 ↔ b = true := by cases b <;> decide
theorem bI_inj {a b : Bool} : bI a = bI b ↔ a = b := by cases a <;> cases b <;> decide
/-- who of a kind has the right v with a bulk z -/
def hasR (k z r : Nat) : Bool := if k = 4 then decide (0 < z) else decide (r ≤ z)
theorem hasRight_C {fu : Nat} {M : Mm} {v : NV} (hv : okV v) (hc : CV v M) {i a b r : Nat} (hi : i < vMen v) (ha : a < 2 ^ 30) (hb : b < 2 ^ 30) (hr : 1 ≤ r) (hr2 : r ≤ 9) : F_X2_hasRight fu M 24 (nI i) (nI a - nI b) (nI r) = some (bI (hasR (vKind v i) (a - b) r)) := by
  have hm := hv.1
  obtain ⟨h1, h2, h3, h4⟩ := hv.2.2.2.2.2 i hi
  obtain ⟨c1, c2, c3, c4⟩ := hc.2.2.2.2 i hi
  have ht := pk_sub_toInt ha hb
  have e1 : nI r ≤ nI a - nI b ↔ r ≤ a - b := by
    rw [Int32.le_iff_toInt_le, ht, nI_ti (by omega)]
    omega
  have e2 : nI a - nI b ≤ 0 ↔ a - b = 0 := by
    rw [Int32.le_iff_toInt_le, ht, show (0 : Int32).toInt = 0 from rfl]
    omega
  unfold F_X2_hasRight hasR
  rw [show 24 + 2 = 26 from rfl, rd_eq (show i < ln 26 by show i < 6; omega), ob1_s, c1]
  by_cases q : r ≤ a - b
  · rw [if_pos (e1.mpr q)]
    by_cases k4 : vKind v i = 4
    · rw [if_pos k4, decide_eq_true (by omega)]; rfl
    · rw [if_neg k4, decide_eq_true q]; rfl
  · rw [if_neg (fun z => q (e1.mp z))]
    by_cases z0 : a - b = 0
    · rw [if_pos (e2.mpr z0)]
      by_cases k4 : vKind v i = 4
      · rw [if_pos k4, decide_eq_false (by omega)]; rfl
      · rw [if_neg k4, decide_eq_false q]; rfl
    · rw [if_neg (fun z => z0 (e2.mp z))]
      by_cases k4 : vKind v i = 4
      · rw [if_pos k4, k4, if_pos (by decide), decide_eq_true (by omega)]; rfl
      · rw [if_neg k4, if_neg (show ¬ nI (vKind v i) = 4 from fun z => k4 ((nI_eq (b := 4) (by omega) (by decide)).mp z)), decide_eq_false q]; rfl
theorem nI_sub0 (a : Nat) : nI a - nI 0 = nI a := by rw [pk_sub (Nat.zero_le a)]; rfl
theorem hasRight_C0 {fu : Nat} {M : Mm} {v : NV} (hv : okV v) (hc : CV v M) {i a r : Nat} (hi : i < vMen v) (ha : a < 2 ^ 30) (hr : 1 ≤ r) (hr2 : r ≤ 9) : F_X2_hasRight fu M 24 (nI i) (nI a) (nI r) = some (bI (hasR (vKind v i) a r)) := by
  have := hasRight_C (fu := fu) hv hc (a := a) (b := 0) hi ha (by decide) hr hr2
  rwa [nI_sub0] at this
theorem hasRightBy_C {fu : Nat} (hf : 1000 ≤ fu) {M : Mm} {v : NV} (hv : okV v) (hc : CV v M) {i s N : Nat} (hi : i < vMen v) (hs : s ≤ 9) (hN : N ≤ 60) : F_X2_hasRightBy fu M 24 (nI i) (nI s) (nI N) = some (bI (hasR (vKind v i) (vBulk v i - melF v (vKind v i) s 0 N) (vRight v))) := by
  obtain ⟨h1, h2, h3, h4⟩ := hv.2.2.2.2.2 i hi
  unfold F_X2_hasRightBy
  rw [bulkBy_C hf hv hc hi hs hN, ob1_s, hc.2.1, hasRight_C0 hv hc hi (by omega) (hv.2.1 (by omega)) hv.2.2.1, ob1_s, if_neg (bI_01 _)]
/-! sets of men as numbers below 64 -/
def bset (f : Nat → Bool) : Nat → Nat
  | 0 => 0
  | n + 1 => bset f n + (if f n then 2 ^ n else 0)
theorem bset_lt (f : Nat → Bool) : ∀ n, bset f n < 2 ^ n := by
  intro n
  induction n with
  | zero => exact Nat.one_pos
  | succ n ih =>
    rw [Nat.pow_succ]
    unfold bset
    split <;> omega
theorem bset_bit (f : Nat → Bool) : ∀ n i, (bset f n).testBit i = (decide (i < n) && f i) := by
  intro n
  induction n with
  | zero => intro i; simp [bset]
  | succ n ih =>
    intro i
    unfold bset
    by_cases hf : f n = true
    · rw [if_pos hf, Nat.add_comm]
      rcases Nat.lt_trichotomy i n with h | h | h
      · rw [Nat.testBit_two_pow_add_gt h, ih]; simp [h, Nat.lt_succ_of_lt h]
      · subst h
        rw [Nat.testBit_two_pow_add_eq, ih]; simp [hf]
      · have hl := bset_lt f n
        have : 2 ^ n + bset f n < 2 ^ i := by
          have h1 : 2 ^ (n + 1) ≤ 2 ^ i := Nat.pow_le_pow_right (by decide) h
          rw [Nat.pow_succ] at h1
          omega
        rw [Nat.testBit_lt_two_pow this]
        have : ¬ i < n + 1 := by omega
        simp [this]
    · rw [if_neg hf, Nat.add_zero, ih]
      by_cases h : i < n
      · simp [h, Nat.lt_succ_of_lt h]
      · by_cases h2 : i = n
        · subst h2; simp [hf]
        · have : ¬ i < n + 1 := by omega
          simp [h, this]
theorem bset_cg {f g : Nat → Bool} : ∀ n, (∀ i, i < n → f i = g i) → bset f n = bset g n := by
  intro n
  induction n with
  | zero => intro _; rfl
  | succ n ih =>
    intro h
    unfold bset
    rw [ih (fun i hi => h i (by omega)), h n (by omega)]
theorem or_bit : ∀ i, i < 10 → ∀ s, s < 2 ^ i → nI s ||| ((1 : Int32) <<< (nI i &&& 31)) = nI (s + 2 ^ i) := by decide +kernel
theorem or_0 (x : Int32) : x ||| 0 = x := by simp
theorem shl_bit : ∀ i, i < 10 → (1 : Int32) <<< (nI i &&& 31) = nI (2 ^ i) := by decide +kernel
theorem isIn_b : ∀ s, s < 64 → ∀ i, i < 6 → (nI s >>> (nI i &&& 31)) &&& (1 : Int32) = bI (s.testBit i) := by decide +kernel
theorem isIn_C {fu : Nat} {M : Mm} {s i : Nat} (hs : s < 64) (hi : i < 6) : F_X6_isIn fu M (nI s) (nI i) = some (bI (s.testBit i)) := by
  unfold F_X6_isIn
  rw [isIn_b s hs i hi]
  cases s.testBit i
  · rfl
  · rfl
def pc (s : Nat) : Nat := s % 2 + s / 2 % 2 + s / 4 % 2 + s / 8 % 2 + s / 16 % 2 + s / 32 % 2
theorem pc_le (s : Nat) : pc s ≤ 6 := by unfold pc; omega
def bcX (x0 : Int32) : Int32 :=
  let y1 := x0 - ((x0.toUInt32 >>> ((1 : Int32).toUInt32 &&& Int32.toUInt32 31)).toInt32 &&& (1431655765 : Int32))
  let y2 := (y1 &&& (858993459 : Int32)) + ((y1.toUInt32 >>> ((2 : Int32).toUInt32 &&& Int32.toUInt32 31)).toInt32 &&& (858993459 : Int32))
  let y3 := (y2 + (y2.toUInt32 >>> ((4 : Int32).toUInt32 &&& Int32.toUInt32 31)).toInt32) &&& (252645135 : Int32)
  let y4 := y3 + (y3.toUInt32 >>> ((8 : Int32).toUInt32 &&& Int32.toUInt32 31)).toInt32
  let y5 := y4 + (y4.toUInt32 >>> ((16 : Int32).toUInt32 &&& Int32.toUInt32 31)).toInt32
  y5 &&& (63 : Int32)
theorem bc_all : ∀ s, s < 64 → bcX (nI s) = nI (pc s) := by decide +kernel
theorem bc_C {fu : Nat} {M : Mm} {s : Nat} (hs : s < 64) : F_J6_bitCount_0f7a4 fu M (nI s) = some (nI (pc s)) := by
  rw [← bc_all s hs]
  rfl
