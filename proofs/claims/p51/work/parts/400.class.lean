/-! numbers, and the two systems' small reads -/
theorem lI (n : Nat) : (OfNat.ofNat n : Int32) = nI n := id rfl
theorem nI_ti {n : Nat} (h : n < 2 ^ 31) : (nI n).toInt = (n : Int) := nI_toInt h
theorem nI_tc {n : Nat} (h : n < 2 ^ 31) : (nI n).toNatClampNeg = n := nI_clamp h
theorem nI_lt0 {n : Nat} (h : n < 2 ^ 31) : ¬ nI n < 0 := nI_pos h
theorem nI_rng {i n : Nat} (h : i < n) (hn : n < 2 ^ 31) : ¬ (nI i < 0 ∨ n ≤ (nI i).toNatClampNeg) := nI_in h hn
theorem nI_subT {a b : Nat} (ha : a < 2 ^ 30) (hb : b < 2 ^ 30) : zmx 0 (nI a - nI b) = nI (a - b) := by
  have h := pk_sub_toInt ha hb
  unfold zmx
  by_cases hc : (0 : Int32) < nI a - nI b
  · rw [if_pos hc]
    have h1 := Int32.lt_iff_toInt_lt.mp hc
    rw [h] at h1
    have h2 : (0 : Int32).toInt = 0 := rfl
    exact pk_sub (by omega)
  · rw [if_neg hc]
    have h1 : ¬ (0 : Int32).toInt < (nI a - nI b).toInt := fun q => hc (Int32.lt_iff_toInt_lt.mpr q)
    rw [h] at h1
    have h2 : (0 : Int32).toInt = 0 := rfl
    have h3 : a - b = 0 := by omega
    rw [h3]
    rfl
theorem nI_max {a b : Nat} (ha : a < 2 ^ 31) (hb : b < 2 ^ 31) : zmx (nI a) (nI b) = nI (max a b) := by
  unfold zmx
  by_cases h : a < b
  · rw [if_pos ((nI_ltI ha hb).mpr h), Nat.max_eq_right (Nat.le_of_lt h)]
  · rw [if_neg (fun q => h ((nI_ltI ha hb).mp q)), Nat.max_eq_left (Nat.not_lt.mp h)]
theorem nI_min {a b : Nat} (ha : a < 2 ^ 31) (hb : b < 2 ^ 31) : zmn (nI a) (nI b) = nI (min a b) := by
  unfold zmn
  by_cases h : b < a
  · rw [if_pos ((nI_ltI hb ha).mpr h), Nat.min_eq_right (Nat.le_of_lt h)]
  · rw [if_neg (fun q => h ((nI_ltI hb ha).mp q)), Nat.min_eq_left (Nat.not_lt.mp h)]
theorem rd_eq {fu : Nat} {M : Mm} {c i : Nat} (h : i < ln c) : F_X6_read fu M c (nI i) = some (M.1 c i) := by
  have hl := ln_lt c
  have hi : i < 2 ^ 31 := by omega
  unfold F_X6_read
  rw [if_neg (nI_lt0 hi), if_neg (nI_ge h hl), if_neg (nI_rng h hl), nI_tc hi]
theorem wr_eq {fu : Nat} {M : Mm} {c i : Nat} {v : Int32} (h : i < ln c) : F_X6_write fu M c (nI i) v = some (pI M c i v) := by
  have hl := ln_lt c
  have hi : i < 2 ^ 31 := by omega
  unfold F_X6_write
  rw [if_neg (nI_lt0 hi), if_neg (nI_ge h hl), if_neg (nI_rng h hl), nI_tc hi]
  rfl
theorem ob1_s {α β : Type} {a : α} {f : α → Option β} : ob1 (some a) f = f a := rfl
theorem ob2_s {α β : Type} {a : α} {M : Mm} {f : α → Mm → Option β} : ob2 (some (a, M)) f = f a M := rfl
theorem pI_s {M : Mm} {x j : Nat} {v : Int32} : (pI M x j v).1 x j = v := by simp [pI, upd]
theorem pI_n {M : Mm} {x j y i : Nat} {v : Int32} (h : y ≠ x ∨ i ≠ j) : (pI M x j v).1 y i = M.1 y i := by
  by_cases hy : y = x
  · subst hy
    have : i ≠ j := by rcases h with h | h; exact absurd rfl h; exact h
    simp [pI, upd, this]
  · simp [pI, hy]
theorem pI_2 {M : Mm} {x j : Nat} {v : Int32} : (pI M x j v).2 = M.2 := rfl
theorem pL_1 {M : Mm} {x j : Nat} {v : Int64} : (pL M x j v).1 = M.1 := rfl
theorem pL_s {M : Mm} {x j : Nat} {v : Int64} : (pL M x j v).2 x j = v := by simp [pL, vp_updL]
theorem pL_n {M : Mm} {x j y i : Nat} {v : Int64} (h : y ≠ x ∨ i ≠ j) : (pL M x j v).2 y i = M.2 y i := by
  by_cases hy : y = x
  · subst hy
    have : i ≠ j := by rcases h with h | h; exact absurd rfl h; exact h
    simp [pL, vp_updL, this]
  · simp [pL, hy]
/-! the north, told plainly: men, right, day, suns, kinds, votes, bulks, shades -/
abbrev NV : Type := Nat × Nat × Nat × (Nat → Nat) × (Nat → Nat) × (Nat → Nat) × (Nat → Nat) × (Nat → Nat)
def vMen (v : NV) : Nat := v.1
def vRight (v : NV) : Nat := v.2.1
def vDay (v : NV) : Nat := v.2.2.1
def vSun (v : NV) : Nat → Nat := v.2.2.2.1
def vKind (v : NV) : Nat → Nat := v.2.2.2.2.1
def vVote (v : NV) : Nat → Nat := v.2.2.2.2.2.1
def vBulk (v : NV) : Nat → Nat := v.2.2.2.2.2.2.1
def vShade (v : NV) : Nat → Nat := v.2.2.2.2.2.2.2
def okV (v : NV) : Prop := vMen v ≤ 6 ∧ (0 < vMen v → 1 ≤ vRight v) ∧ vRight v ≤ 9 ∧ vDay v ≤ 60 ∧ (∀ j, vSun v j ≤ 9) ∧ ∀ i, i < vMen v → vKind v i ≤ 5 ∧ vVote v i ≤ 1 ∧ vBulk v i ≤ 99 ∧ vShade v i ≤ 9
def CV (v : NV) (M : Mm) : Prop := M.1 24 0 = nI (vMen v) ∧ M.1 24 1 = nI (vRight v) ∧ M.1 24 2 = nI (vDay v) ∧ (∀ j, j < 8 → M.1 25 j = nI (vSun v j)) ∧ ∀ i, i < vMen v → M.1 26 i = nI (vKind v i) ∧ M.1 27 i = nI (vVote v i) ∧ M.1 28 i = nI (vBulk v i) ∧ M.1 29 i = nI (vShade v i)
def mel (sn k sh dy : Nat) : Nat := if k = 1 ∨ k = 4 then sn - sh - 1 else if k = 2 then (sn - sh) / 2 else if k = 3 then sn - sh + 1 else if k = 5 then (if dy % 2 = 0 then 0 else sn - sh - 1) else sn - sh
def melD (v : NV) (k sh d : Nat) : Nat := mel (vSun v ((vDay v + d) % 8)) k sh (vDay v + d)
/-- what melts on m days from day d on (counted from now) -/
def melF (v : NV) (k sh : Nat) : Nat → Nat → Nat
  | _, 0 => 0
  | d, m + 1 => melD v k sh d + melF v k sh (d + 1) m
theorem mel_le {sn k sh dy : Nat} (h : sn ≤ 9) : mel sn k sh dy ≤ 10 := by
  unfold mel
  split
  · omega
  · split
    · omega
    · split
      · omega
      · split
        · split <;> omega
        · omega
theorem melD_le {v : NV} (h : okV v) (k sh d : Nat) : melD v k sh d ≤ 10 := mel_le (h.2.2.2.2.1 _)
theorem melF_le {v : NV} (h : okV v) (k sh : Nat) : ∀ m d, melF v k sh d m ≤ 10 * m := by
  intro m
  induction m with
  | zero => intro d; exact Nat.le_refl _
  | succ m ih => intro d; have := melD_le h k sh d; have := ih (d + 1); unfold melF; omega
theorem melF_s (v : NV) (k sh : Nat) : ∀ m d, melF v k sh d (m + 1) = melF v k sh d m + melD v k sh (d + m) := by
  intro m
  induction m with
  | zero => intro d; simp [melF]
  | succ m ih =>
    intro d
    have h1 := ih (d + 1)
    rw [show melF v k sh d (m + 1 + 1) = melD v k sh d + melF v k sh (d + 1) (m + 1) from rfl, h1, show melF v k sh d (m + 1) = melD v k sh d + melF v k sh (d + 1) m from rfl, show d + 1 + m = d + (m + 1) by omega]
    omega
theorem eqO {k n : Nat} (hk : k < 2 ^ 31) (hn : n < 2 ^ 31) : (nI k = (OfNat.ofNat n : Int32)) ↔ k = n := nI_eq hk hn
theorem leO {k n : Nat} (hk : k < 2 ^ 31) (hn : n < 2 ^ 31) : (nI k ≤ (OfNat.ofNat n : Int32)) ↔ k ≤ n := nI_leI hk hn
theorem ltO {k n : Nat} (hk : k < 2 ^ 31) (hn : n < 2 ^ 31) : (nI k < (OfNat.ofNat n : Int32)) ↔ k < n := nI_ltI hk hn
theorem Ole {k n : Nat} (hk : k < 2 ^ 31) (hn : n < 2 ^ 31) : ((OfNat.ofNat n : Int32) ≤ nI k) ↔ n ≤ k := nI_leI hn hk
theorem Olt {k n : Nat} (hk : k < 2 ^ 31) (hn : n < 2 ^ 31) : ((OfNat.ofNat n : Int32) < nI k) ↔ n < k := nI_ltI hn hk
theorem xr {α : Type} {c i : Nat} {a : Option α} (h : i < ln c) : (if nI i < 0 ∨ ln c ≤ (nI i).toNatClampNeg then none else a) = a := if_neg (nI_rng h (ln_lt c))
theorem nI_rem {a d : Nat} (ha : a < 2 ^ 31) (h0 : 0 < d) (hd : d < 2 ^ 31) : nI a - nI a / nI d * nI d = nI (a % d) := pk_rem ha h0 hd
theorem mel_0 {a s d : Nat} : mel a 0 s d = a - s := rfl
theorem mel_1 {a s d : Nat} : mel a 1 s d = a - s - 1 := rfl
theorem mel_2 {a s d : Nat} : mel a 2 s d = (a - s) / 2 := rfl
theorem mel_3 {a s d : Nat} : mel a 3 s d = a - s + 1 := rfl
theorem mel_4 {a s d : Nat} : mel a 4 s d = a - s - 1 := rfl
theorem mel_5 {a s d : Nat} : mel a 5 s d = if d % 2 = 0 then 0 else a - s - 1 := rfl
theorem mel_C {fu : Nat} {M : Mm} {v : NV} (hv : okV v) (hc : CV v M) {k s d : Nat} (hk : k ≤ 5) (hs : s ≤ 9) (hd : d ≤ 1000) : F_X2_melting fu M 24 (nI k) (nI s) (nI d) = some (nI (mel (vSun v (d % 8)) k s d)) := by
  have h8 : d % 8 < 8 := Nat.mod_lt _ (by decide)
  have hsun := hv.2.2.2.2.1 (d % 8)
  have hp : zmx 0 (nI (vSun v (d % 8)) - nI s) = nI (vSun v (d % 8) - s) := nI_subT (by omega) (by omega)
  have hp1 : zmx 0 (nI (vSun v (d % 8) - s) - 1) = nI (vSun v (d % 8) - s - 1) := nI_subT (b := 1) (by omega) (by omega)
  have hr8 : nI d - nI d / 8 * 8 = nI (d % 8) := nI_rem (d := 8) (by omega) (by decide) (by decide)
  have hr2 : nI d - nI d / 2 * 2 = nI (d % 2) := nI_rem (d := 2) (by omega) (by decide) (by decide)
  unfold F_X2_melting
  rw [hr8, show 24 + 1 = 25 from rfl, rd_eq (show d % 8 < ln 25 from h8), ob1_s, hc.2.2.2.1 _ h8, hp, hp1, hr2]
  have hcase : k = 0 ∨ k = 1 ∨ k = 2 ∨ k = 3 ∨ k = 4 ∨ k = 5 := by omega
  rcases hcase with rfl | rfl | rfl | rfl | rfl | rfl
  · rw [mel_0, if_neg (by decide), if_neg (by decide), if_neg (by decide), if_neg (by decide), if_neg (by decide)]
  · rw [mel_1, if_pos (by decide)]
  · rw [mel_2, if_neg (by decide), if_pos (by decide), show (2 : Int32) = nI 2 from rfl, pk_div (by omega) (by decide) (by decide)]
  · rw [mel_3, if_neg (by decide), if_neg (by decide), if_pos (by decide), show (1 : Int32) = nI 1 from rfl, nI_add]
  · rw [mel_4, if_neg (by decide), if_neg (by decide), if_neg (by decide), if_pos (by decide)]
  · rw [mel_5, if_neg (by decide), if_neg (by decide), if_neg (by decide), if_neg (by decide), if_pos (by decide)]
    by_cases h2 : d % 2 = 0
    · rw [h2, if_pos (by decide), if_pos rfl]; rfl
    · rw [if_neg (show ¬ nI (d % 2) = 0 from fun q => h2 ((nI_eq (b := 0) (by omega) (by decide)).mp q)), if_neg h2]
/-! what melts, how large each will be, who has the right, how they vote: both systems -/
theorem meltingIn_C {fu : Nat} {M : Mm} {v : NV} (hv : okV v) (hc : CV v M) {i d : Nat} (hi : i < vMen v) (hd : d ≤ 100) : F_X2_meltingIn fu M 24 (nI i) (nI d) = some (nI (melD v (vKind v i) (vShade v i) d)) := by
  have hm := hv.1
  have hday := hv.2.2.2.1
  obtain ⟨h1, h2, h3, h4⟩ := hv.2.2.2.2.2 i hi
  obtain ⟨c1, c2, c3, c4⟩ := hc.2.2.2.2 i hi
  unfold F_X2_meltingIn
  rw [show 24 + 2 = 26 from rfl, show 24 + 5 = 29 from rfl, rd_eq (show i < ln 26 by show i < 6; omega), ob1_s, rd_eq (show i < ln 29 by show i < 6; omega), ob1_s, c1, c4, hc.2.2.1, nI_add, mel_C hv hc h1 h4 (by omega), ob1_s]
  rfl
theorem meltedIn_C6 {fu : Nat} {M : Mm} {v : NV} (hv : okV v) (hc : CV v M) {k s N : Nat} (hk : k ≤ 5) (hs : s ≤ 9) (hN : N ≤ 60) : ∀ (m n d a : Nat), d + m = N → m < n → F_X2_meltedIn_6 fu M n 24 (nI k) (nI s) (nI N) (nI a) (nI d) = some (nI (a + melF v k s d m)) := by
  intro m
  have hday := hv.2.2.2.1
  induction m with
  | zero =>
    intro n d a hd hn
    obtain ⟨n, rfl⟩ : ∃ q, n = q + 1 := ⟨n - 1, by omega⟩
    unfold F_X2_meltedIn_6
    rw [if_pos (nI_le (by omega) (by omega))]
    rfl
  | succ m ih =>
    intro n d a hd hn
    obtain ⟨n, rfl⟩ : ∃ q, n = q + 1 := ⟨n - 1, by omega⟩
    unfold F_X2_meltedIn_6
    rw [if_neg (nI_ge (by omega) (by omega)), hc.2.2.1, nI_add, mel_C hv hc hk hs (by omega), ob1_s, nI_add, nI_1, ih n (d + 1) _ (by omega) (by omega), Nat.add_assoc]
    rfl
theorem meltedIn_C {fu : Nat} (hf : 1000 ≤ fu) {M : Mm} {v : NV} (hv : okV v) (hc : CV v M) {k s N : Nat} (hk : k ≤ 5) (hs : s ≤ 9) (hN : N ≤ 60) : F_X2_meltedIn fu M 24 (nI k) (nI s) (nI N) = some (nI (melF v k s 0 N)) := by
  unfold F_X2_meltedIn
  have := meltedIn_C6 (fu := fu) hv hc hk hs hN N fu 0 0 (by omega) (by omega)
  rw [Nat.zero_add] at this
  exact this
theorem bulkBy_C {fu : Nat} (hf : 1000 ≤ fu) {M : Mm} {v : NV} (hv : okV v) (hc : CV v M) {i s N : Nat} (hi : i < vMen v) (hs : s ≤ 9) (hN : N ≤ 60) : F_X2_bulkBy fu M 24 (nI i) (nI s) (nI N) = some (nI (vBulk v i - melF v (vKind v i) s 0 N)) := by
  have hm := hv.1
  obtain ⟨h1, h2, h3, h4⟩ := hv.2.2.2.2.2 i hi
  obtain ⟨c1, c2, c3, c4⟩ := hc.2.2.2.2 i hi
  have hme := melF_le hv (vKind v i) s N 0
  unfold F_X2_bulkBy
  rw [show 24 + 2 = 26 from rfl, show 24 + 4 = 28 from rfl, rd_eq (show i < ln 28 by show i < 6; omega), ob1_s, rd_eq (show i < ln 26 by show i < 6; omega), ob1_s, c1, c3, meltedIn_C hf hv hc h1 hs hN, ob1_s, nI_subT (by omega) (by omega)]
theorem bulkIn_C {fu : Nat} (hf : 1000 ≤ fu) {M : Mm} {v : NV} (hv : okV v) (hc : CV v M) {i N : Nat} (hi : i < vMen v) (hN : N ≤ 60) : F_X2_bulkIn fu M 24 (nI i) (nI N) = some (nI (vBulk v i - melF v (vKind v i) (vShade v i) 0 N)) := by
  have hm := hv.1
  obtain ⟨h1, h2, h3, h4⟩ := hv.2.2.2.2.2 i hi
  obtain ⟨c1, c2, c3, c4⟩ := hc.2.2.2.2 i hi
  unfold F_X2_bulkIn
  rw [show 24 + 5 = 29 from rfl, rd_eq (show i < ln 29 by show i < 6; omega), ob1_s, c4, bulkBy_C hf hv hc hi h4 hN, ob1_s]
def bI (b : Bool) : Int32 := if b then 1 else 0
theorem bI_t : bI true = 1 := rfl
theorem bI_f : bI false = 0 := rfl
theorem bI_01 (b : Bool) : ¬ ¬ (bI b = 0 ∨ bI b = 1) := by cases b <;> decide
theorem bI_eq0 {b : Bool} : bI b = 0 ↔ b = false := by cases b <;> decide
theorem bI_eq1 {b : Bool} : bI b = 1 ↔ b = true := by cases b <;> decide
theorem bI_inj {a b : Bool} : bI a = bI b ↔ a = b := by cases a <;> cases b <;> decide
/-- who of a kind has the right v with a bulk z -/
def hasR (k z r : Nat) : Bool := if k = 4 then decide (0 < z) else decide (r ≤ z)
theorem hasRight_C {fu : Nat} {M : Mm} {v : NV} (hv : okV v) (hc : CV v M) {i a b r : Nat} (hi : i < vMen v) (ha : a < 2 ^ 30) (hb : b < 2 ^ 30) (hr : 1 ≤ r) (hr2 : r ≤ 9) : F_X2_hasRight fu M 24 (nI i) (nI a - nI b) (nI r) = some (bI (hasR (vKind v i) (a - b) r)) := by
  have hm := hv.1
  obtain ⟨h1, h2, h3, h4⟩ := hv.2.2.2.2.2 i hi
  obtain ⟨c1, c2, c3, c4⟩ := hc.2.2.2.2 i hi
  have ht := pk_sub_toInt ha hb
  have e1 : nI r ≤ nI a - nI b ↔ r ≤ a - b := by
    rw [Int32.le_iff_toInt_le, ht, nI_ti (by omega)]
    omega
  have e2 : nI a - nI b ≤ 0 ↔ a - b = 0 := by
    rw [Int32.le_iff_toInt_le, ht, show (0 : Int32).toInt = 0 from rfl]
    omega
  unfold F_X2_hasRight hasR
  rw [show 24 + 2 = 26 from rfl, rd_eq (show i < ln 26 by show i < 6; omega), ob1_s, c1]
  by_cases q : r ≤ a - b
  · rw [if_pos (e1.mpr q)]
    by_cases k4 : vKind v i = 4
    · rw [if_pos k4, decide_eq_true (by omega)]; rfl
    · rw [if_neg k4, decide_eq_true q]; rfl
  · rw [if_neg (fun z => q (e1.mp z))]
    by_cases z0 : a - b = 0
    · rw [if_pos (e2.mpr z0)]
      by_cases k4 : vKind v i = 4
      · rw [if_pos k4, decide_eq_false (by omega)]; rfl
      · rw [if_neg k4, decide_eq_false q]; rfl
    · rw [if_neg (fun z => z0 (e2.mp z))]
      by_cases k4 : vKind v i = 4
      · rw [if_pos k4, k4, if_pos (by decide), decide_eq_true (by omega)]; rfl
      · rw [if_neg k4, if_neg (show ¬ nI (vKind v i) = 4 from fun z => k4 ((nI_eq (b := 4) (by omega) (by decide)).mp z)), decide_eq_false q]; rfl
theorem nI_sub0 (a : Nat) : nI a - nI 0 = nI a := by rw [pk_sub (Nat.zero_le a)]; rfl
theorem hasRight_C0 {fu : Nat} {M : Mm} {v : NV} (hv : okV v) (hc : CV v M) {i a r : Nat} (hi : i < vMen v) (ha : a < 2 ^ 30) (hr : 1 ≤ r) (hr2 : r ≤ 9) : F_X2_hasRight fu M 24 (nI i) (nI a) (nI r) = some (bI (hasR (vKind v i) a r)) := by
  have := hasRight_C (fu := fu) hv hc (a := a) (b := 0) hi ha (by decide) hr hr2
  rwa [nI_sub0] at this
theorem hasRightBy_C {fu : Nat} (hf : 1000 ≤ fu) {M : Mm} {v : NV} (hv : okV v) (hc : CV v M) {i s N : Nat} (hi : i < vMen v) (hs : s ≤ 9) (hN : N ≤ 60) : F_X2_hasRightBy fu M 24 (nI i) (nI s) (nI N) = some (bI (hasR (vKind v i) (vBulk v i - melF v (vKind v i) s 0 N) (vRight v))) := by
  obtain ⟨h1, h2, h3, h4⟩ := hv.2.2.2.2.2 i hi
  unfold F_X2_hasRightBy
  rw [bulkBy_C hf hv hc hi hs hN, ob1_s, hc.2.1, hasRight_C0 hv hc hi (by omega) (hv.2.1 (by omega)) hv.2.2.1, ob1_s, if_neg (bI_01 _)]
/-! sets of men as numbers below 64 -/
def bset (f : Nat → Bool) : Nat → Nat
  | 0 => 0
  | n + 1 => bset f n + (if f n then 2 ^ n else 0)
theorem bset_lt (f : Nat → Bool) : ∀ n, bset f n < 2 ^ n := by
  intro n
  induction n with
  | zero => exact Nat.one_pos
  | succ n ih =>
    rw [Nat.pow_succ]
    unfold bset
    split <;> omega
theorem bset_bit (f : Nat → Bool) : ∀ n i, (bset f n).testBit i = (decide (i < n) && f i) := by
  intro n
  induction n with
  | zero => intro i; simp [bset]
  | succ n ih =>
    intro i
    unfold bset
    by_cases hf : f n = true
    · rw [if_pos hf, Nat.add_comm]
      rcases Nat.lt_trichotomy i n with h | h | h
      · rw [Nat.testBit_two_pow_add_gt h, ih]; simp [h, Nat.lt_succ_of_lt h]
      · subst h
        rw [Nat.testBit_two_pow_add_eq, ih]; simp [hf]
      · have hl := bset_lt f n
        have : 2 ^ n + bset f n < 2 ^ i := by
          have h1 : 2 ^ (n + 1) ≤ 2 ^ i := Nat.pow_le_pow_right (by decide) h
          rw [Nat.pow_succ] at h1
          omega
        rw [Nat.testBit_lt_two_pow this]
        have : ¬ i < n + 1 := by omega
        simp [this]
    · rw [if_neg hf, Nat.add_zero, ih]
      by_cases h : i < n
      · simp [h, Nat.lt_succ_of_lt h]
      · by_cases h2 : i = n
        · subst h2; simp [hf]
        · have : ¬ i < n + 1 := by omega
          simp [h, this]
theorem bset_cg {f g : Nat → Bool} : ∀ n, (∀ i, i < n → f i = g i) → bset f n = bset g n := by
  intro n
  induction n with
  | zero => intro _; rfl
  | succ n ih =>
    intro h
    unfold bset
    rw [ih (fun i hi => h i (by omega)), h n (by omega)]
theorem or_bit : ∀ i, i < 10 → ∀ s, s < 2 ^ i → nI s ||| ((1 : Int32) <<< (nI i &&& 31)) = nI (s + 2 ^ i) := by decide +kernel
theorem or_0 (x : Int32) : x ||| 0 = x := by simp
theorem shl_bit : ∀ i, i < 10 → (1 : Int32) <<< (nI i &&& 31) = nI (2 ^ i) := by decide +kernel
theorem isIn_b : ∀ s, s < 64 → ∀ i, i < 6 → (nI s >>> (nI i &&& 31)) &&& (1 : Int32) = bI (s.testBit i) := by decide +kernel
theorem isIn_C {fu : Nat} {M : Mm} {s i : Nat} (hs : s < 64) (hi : i < 6) : F_X6_isIn fu M (nI s) (nI i) = some (bI (s.testBit i)) := by
  unfold F_X6_isIn
  rw [isIn_b s hs i hi]
  cases s.testBit i
  · rfl
  · rfl
def pc (s : Nat) : Nat := s % 2 + s / 2 % 2 + s / 4 % 2 + s / 8 % 2 + s / 16 % 2 + s / 32 % 2
theorem pc_le (s : Nat) : pc s ≤ 6 := by unfold pc; omega
def bcX (x0 : Int32) : Int32 :=
  let y1 := x0 - ((x0.toUInt32 >>> ((1 : Int32).toUInt32 &&& Int32.toUInt32 31)).toInt32 &&& (1431655765 : Int32))
  let y2 := (y1 &&& (858993459 : Int32)) + ((y1.toUInt32 >>> ((2 : Int32).toUInt32 &&& Int32.toUInt32 31)).toInt32 &&& (858993459 : Int32))
  let y3 := (y2 + (y2.toUInt32 >>> ((4 : Int32).toUInt32 &&& Int32.toUInt32 31)).toInt32) &&& (252645135 : Int32)
  let y4 := y3 + (y3.toUInt32 >>> ((8 : Int32).toUInt32 &&& Int32.toUInt32 31)).toInt32
  let y5 := y4 + (y4.toUInt32 >>> ((16 : Int32).toUInt32 &&& Int32.toUInt32 31)).toInt32
  y5 &&& (63 : Int32)
theorem bc_all : ∀ s, s < 64 → bcX (nI s) = nI (pc s) := by decide +kernel
theorem bc_C {fu : Nat} {M : Mm} {s : Nat} (hs : s < 64) : F_J6_bitCount_0f7a4 fu M (nI s) = some (nI (pc s)) := by
  rw [← bc_all s hs]
  rfl

/-! who has the right, who votes 1, when it is carried -/
/-- who has the right n days from now, by the right r -/
def whoF (v : NV) (r n : Nat) : Nat → Bool := fun i => hasR (vKind v i) (vBulk v i - melF v (vKind v i) (vShade v i) 0 n) r
def whoN (v : NV) (r n : Nat) : Nat := bset (whoF v r n) (vMen v)
theorem whoN_lt {v : NV} (hv : okV v) (r n : Nat) : whoN v r n < 64 := Nat.lt_of_lt_of_le (bset_lt _ _) (Nat.pow_le_pow_right (n := 2) (by decide) hv.1)
theorem set_lt {v : NV} (hv : okV v) (f : Nat → Bool) {i : Nat} (hi : i ≤ vMen v) : bset f i < 64 := Nat.lt_of_lt_of_le (bset_lt _ _) (Nat.pow_le_pow_right (n := 2) (by decide) (Nat.le_trans hi hv.1))
theorem votersBy_C4 {fu : Nat} {M : Mm} {v : NV} (hv : okV v) (hc : CV v M) {r : Nat} (hr : 1 ≤ r) (hr2 : r ≤ 9) : ∀ (m n i : Nat), i + m = vMen v → m < n → F_X2_votersBy_4 fu M n 24 (nI r) (nI (bset (whoF v r 0) i)) (nI i) = some (nI (whoN v r 0)) := by
  intro m
  have hm := hv.1
  induction m with
  | zero =>
    intro n i hi hn
    obtain ⟨n, rfl⟩ : ∃ q, n = q + 1 := ⟨n - 1, by omega⟩
    unfold F_X2_votersBy_4
    rw [hc.1, if_pos (nI_le (by omega) (by omega)), show i = vMen v by omega]
    rfl
  | succ m ih =>
    intro n i hi hn
    obtain ⟨n, rfl⟩ : ∃ q, n = q + 1 := ⟨n - 1, by omega⟩
    obtain ⟨h1, h2, h3, h4⟩ := hv.2.2.2.2.2 i (by omega)
    have hset := bset_lt (whoF v r 0) i
    have ih1 := ih n (i + 1) (by omega) (by omega)
    unfold F_X2_votersBy_4
    rw [hc.1, if_neg (nI_ge (by omega) (by omega)), show 24 + 4 = 28 from rfl, rd_eq (show i < ln 28 by show i < 6; omega), ob1_s, (hc.2.2.2.2 i (by omega)).2.2.1, hasRight_C0 hv hc (by omega) (by omega) hr hr2, ob1_s, nI_1]
    have hw : whoF v r 0 i = hasR (vKind v i) (vBulk v i) r := rfl
    by_cases hb : hasR (vKind v i) (vBulk v i) r = true
    · rw [hb, if_neg (by decide), or_bit i (by omega) _ hset]
      unfold bset at ih1
      rwa [hw, if_pos hb] at ih1
    · rw [Bool.eq_false_iff.mpr hb, if_pos (by decide)]
      unfold bset at ih1
      rwa [hw, if_neg hb, Nat.add_zero] at ih1
theorem votersBy_C {fu : Nat} (hf : 1000 ≤ fu) {M : Mm} {v : NV} (hv : okV v) (hc : CV v M) {r : Nat} (hr : 1 ≤ r) (hr2 : r ≤ 9) : F_X2_votersBy fu M 24 (nI r) = some (nI (whoN v r 0)) :=
  votersBy_C4 hv hc hr hr2 (vMen v) fu 0 (by omega) (by have := hv.1; omega)
theorem living_C {fu : Nat} (hf : 1000 ≤ fu) {M : Mm} {v : NV} (hv : okV v) (hc : CV v M) : F_X2_living fu M 24 = some (nI (whoN v 1 0)) := by
  unfold F_X2_living
  rw [show (1 : Int32) = nI 1 from rfl, votersBy_C hf hv hc (by decide) (by decide), ob1_s]
theorem votersIn_C4 {fu : Nat} (hf : 1000 ≤ fu) {M : Mm} {v : NV} (hv : okV v) (hc : CV v M) {N : Nat} (hN : N ≤ 60) : ∀ (m n i : Nat), i + m = vMen v → m < n → F_X2_votersIn_4 fu M n 24 (nI N) (nI (bset (whoF v (vRight v) N) i)) (nI i) = some (nI (whoN v (vRight v) N)) := by
  intro m
  have hm := hv.1
  induction m with
  | zero =>
    intro n i hi hn
    obtain ⟨n, rfl⟩ : ∃ q, n = q + 1 := ⟨n - 1, by omega⟩
    unfold F_X2_votersIn_4
    rw [hc.1, if_pos (nI_le (by omega) (by omega)), show i = vMen v by omega]
    rfl
  | succ m ih =>
    intro n i hi hn
    obtain ⟨n, rfl⟩ : ∃ q, n = q + 1 := ⟨n - 1, by omega⟩
    obtain ⟨h1, h2, h3, h4⟩ := hv.2.2.2.2.2 i (by omega)
    have hset := bset_lt (whoF v (vRight v) N) i
    have ih1 := ih n (i + 1) (by omega) (by omega)
    unfold F_X2_votersIn_4
    rw [hc.1, if_neg (nI_ge (by omega) (by omega)), show 24 + 5 = 29 from rfl, rd_eq (show i < ln 29 by show i < 6; omega), ob1_s, (hc.2.2.2.2 i (by omega)).2.2.2, hasRightBy_C hf hv hc (by omega) h4 hN, ob1_s, nI_1]
    by_cases hb : whoF v (vRight v) N i = true
    · rw [show hasR (vKind v i) (vBulk v i - melF v (vKind v i) (vShade v i) 0 N) (vRight v) = true from hb, if_neg (by decide), or_bit i (by omega) _ hset]
      unfold bset at ih1
      rwa [if_pos hb] at ih1
    · rw [show hasR (vKind v i) (vBulk v i - melF v (vKind v i) (vShade v i) 0 N) (vRight v) = false from Bool.eq_false_iff.mpr hb, if_pos (by decide)]
      unfold bset at ih1
      rwa [if_neg hb, Nat.add_zero] at ih1
theorem votersIn_C {fu : Nat} (hf : 1000 ≤ fu) {M : Mm} {v : NV} (hv : okV v) (hc : CV v M) {N : Nat} (hN : N ≤ 60) : F_X2_votersIn fu M 24 (nI N) = some (nI (whoN v (vRight v) N)) :=
  votersIn_C4 hf hv hc hN (vMen v) fu 0 (by omega) (by have := hv.1; omega)
/-- whether a man votes 1, among those of a set -/
def v1 (v : NV) (s : Nat) : Nat → Bool
  | 0 => if vKind v 0 = 3 then true else decide (vVote v 0 = 1)
  | i + 1 => if vKind v (i + 1) = 3 then true else if vKind v (i + 1) = 2 ∧ s.testBit i = true then v1 v s i else decide (vVote v (i + 1) = 1)
def onesF (v : NV) (s : Nat) : Nat → Bool := fun i => s.testBit i && v1 v s i
def onesN (v : NV) (s : Nat) : Nat := bset (onesF v s) (vMen v)
theorem votesOne46_C {fu : Nat} {M : Mm} {v : NV} (hv : okV v) (hc : CV v M) {i : Nat} (hi : i < vMen v) : F_X2_votesOne_46 fu M 24 (nI i) = some (bI (decide (vVote v i = 1))) := by
  have hm := hv.1
  obtain ⟨h1, h2, h3, h4⟩ := hv.2.2.2.2.2 i hi
  unfold F_X2_votesOne_46
  rw [show 24 + 3 = 27 from rfl, rd_eq (show i < ln 27 by show i < 6; omega), ob1_s, (hc.2.2.2.2 i hi).2.1]
  by_cases h : vVote v i = 1
  · rw [h, if_pos (by decide)]; rfl
  · rw [if_neg (show ¬ nI (vVote v i) = 1 from fun z => h ((nI_eq (b := 1) (by omega) (by decide)).mp z)), decide_eq_false h]; rfl
theorem votesOne_C {fu : Nat} {M : Mm} {v : NV} (hv : okV v) (hc : CV v M) {i s : Nat} (hi : i < vMen v) (hs : s < 64) : F_X2_votesOne fu M 24 (nI i) (nI s) (nI (bset (onesF v s) i)) = some (bI (v1 v s i)) := by
  have hm := hv.1
  obtain ⟨h1, h2, h3, h4⟩ := hv.2.2.2.2.2 i hi
  unfold F_X2_votesOne
  rw [show 24 + 2 = 26 from rfl, rd_eq (show i < ln 26 by show i < 6; omega), ob1_s, (hc.2.2.2.2 i hi).1, votesOne46_C hv hc hi]
  have e3 : nI (vKind v i) = 3 ↔ vKind v i = 3 := nI_eq (b := 3) (by omega) (by decide)
  have e2 : nI (vKind v i) = 2 ↔ vKind v i = 2 := nI_eq (b := 2) (by omega) (by decide)
  cases i with
  | zero =>
    unfold v1
    by_cases k3 : vKind v 0 = 3
    · rw [if_pos (e3.mpr k3), if_pos k3]; rfl
    · rw [if_neg (fun z => k3 (e3.mp z)), if_neg k3]
      by_cases k2 : vKind v 0 = 2
      · rw [if_pos (e2.mpr k2), if_pos (by decide)]
      · rw [if_neg (fun z => k2 (e2.mp z))]
  | succ i =>
    have hones := set_lt hv (onesF v s) (i := i + 1) (by omega)
    unfold v1
    by_cases k3 : vKind v (i + 1) = 3
    · rw [if_pos (e3.mpr k3), if_pos k3]; rfl
    · rw [if_neg (fun z => k3 (e3.mp z)), if_neg k3]
      by_cases k2 : vKind v (i + 1) = 2
      · rw [if_pos (e2.mpr k2), if_neg (show ¬ nI (i + 1) ≤ 0 from nI_nle (by omega) (by omega)), nI_pred, isIn_C hs (by omega), ob1_s, isIn_C hones (by omega), ob1_s, if_neg (bI_01 _), bset_bit]
        by_cases hb : s.testBit i = true
        · rw [hb, if_neg (by decide), if_pos ⟨k2, rfl⟩]
          simp [onesF, hb]
        · rw [Bool.eq_false_iff.mpr hb, if_pos (by decide), if_neg (by simp)]
      · rw [if_neg (fun z => k2 (e2.mp z)), if_neg (fun z => k2 z.1)]
theorem onesAmong_C4 {fu : Nat} {M : Mm} {v : NV} (hv : okV v) (hc : CV v M) {s : Nat} (hs : s < 64) : ∀ (m n i : Nat), i + m = vMen v → m < n → F_X2_onesAmong_4 fu M n 24 (nI s) (nI (bset (onesF v s) i)) (nI i) = some (nI (onesN v s)) := by
  intro m
  have hm := hv.1
  induction m with
  | zero =>
    intro n i hi hn
    obtain ⟨n, rfl⟩ : ∃ q, n = q + 1 := ⟨n - 1, by omega⟩
    unfold F_X2_onesAmong_4
    rw [hc.1, if_pos (nI_le (by omega) (by omega)), show i = vMen v by omega]
    rfl
  | succ m ih =>
    intro n i hi hn
    obtain ⟨n, rfl⟩ : ∃ q, n = q + 1 := ⟨n - 1, by omega⟩
    have hset := bset_lt (onesF v s) i
    have ih1 := ih n (i + 1) (by omega) (by omega)
    unfold F_X2_onesAmong_4
    rw [hc.1, if_neg (nI_ge (by omega) (by omega)), isIn_C hs (by omega), ob1_s, votesOne_C hv hc (by omega) hs, ob1_s, nI_1]
    unfold bset at ih1
    by_cases hb : s.testBit i = true
    · rw [hb, if_neg (by decide)]
      by_cases h1 : v1 v s i = true
      · rw [h1, if_neg (by decide), or_bit i (by omega) _ hset]
        rwa [if_pos (by simp [onesF, hb, h1])] at ih1
      · rw [Bool.eq_false_iff.mpr h1, if_pos (by decide)]
        rwa [if_neg (by simp [onesF, h1]), Nat.add_zero] at ih1
    · rw [Bool.eq_false_iff.mpr hb, if_pos (by decide)]
      rwa [if_neg (by simp [onesF, hb]), Nat.add_zero] at ih1
theorem onesAmong_C {fu : Nat} (hf : 1000 ≤ fu) {M : Mm} {v : NV} (hv : okV v) (hc : CV v M) {s : Nat} (hs : s < 64) : F_X2_onesAmong fu M 24 (nI s) = some (nI (onesN v s)) :=
  onesAmong_C4 hv hc hs (vMen v) fu 0 (by omega) (by have := hv.1; omega)
theorem onesN_lt {v : NV} (hv : okV v) (s : Nat) : onesN v s < 64 := set_lt hv _ (Nat.le_refl _)
def carr (v : NV) (s : Nat) : Bool := decide (pc s < 2 * pc (onesN v s))
theorem isCarriedBy_C {fu : Nat} (hf : 1000 ≤ fu) {M : Mm} {v : NV} (hv : okV v) (hc : CV v M) {s : Nat} (hs : s < 64) : F_X2_isCarriedBy fu M 24 (nI s) = some (bI (carr v s)) := by
  have p1 := pc_le s
  have p2 := pc_le (onesN v s)
  unfold F_X2_isCarriedBy carr
  rw [onesAmong_C hf hv hc hs, ob1_s, bc_C (onesN_lt hv s), ob1_s, bc_C hs, ob1_s, show (2 : Int32) = nI 2 from rfl, pk_mul]
  by_cases h : 2 * pc (onesN v s) ≤ pc s
  · rw [if_pos (nI_le h (by omega)), decide_eq_false (by omega)]; rfl
  · rw [if_neg (nI_ge (by omega) (by omega)), decide_eq_true (by omega)]; rfl

/-! reading by rule -/
theorem lt1_s {α β : Type} {a : α} {f : α → β} : lt1 a f = f a := rfl
theorem op1_n {α : Type} {f : Option α} {g : Nat → Option α} : op1 none f g = f := rfl
theorem op1_s {α : Type} {x : Nat} {f : Option α} {g : Nat → Option α} : op1 (some x) f g = g x := rfl
theorem L0 : (0 : Int32) = nI 0 := rfl
theorem L1 : (1 : Int32) = nI 1 := rfl
theorem L2 : (2 : Int32) = nI 2 := rfl
theorem L3 : (3 : Int32) = nI 3 := rfl
theorem L4 : (4 : Int32) = nI 4 := rfl
theorem L5 : (5 : Int32) = nI 5 := rfl
theorem L6 : (6 : Int32) = nI 6 := rfl
theorem L7 : (7 : Int32) = nI 7 := rfl
theorem L8 : (8 : Int32) = nI 8 := rfl
theorem L9 : (9 : Int32) = nI 9 := rfl
theorem L10 : (10 : Int32) = nI 10 := rfl
theorem L11 : (11 : Int32) = nI 11 := rfl
theorem L12 : (12 : Int32) = nI 12 := rfl
theorem L13 : (13 : Int32) = nI 13 := rfl
theorem L14 : (14 : Int32) = nI 14 := rfl
theorem L15 : (15 : Int32) = nI 15 := rfl
theorem L20 : (20 : Int32) = nI 20 := rfl
theorem L32 : (32 : Int32) = nI 32 := rfl
theorem L40 : (40 : Int32) = nI 40 := rfl
theorem L48 : (48 : Int32) = nI 48 := rfl
theorem L60 : (60 : Int32) = nI 60 := rfl
theorem L61 : (61 : Int32) = nI 61 := rfl
theorem L99 : (99 : Int32) = nI 99 := rfl
theorem L100 : (100 : Int32) = nI 100 := rfl
theorem L104 : (104 : Int32) = nI 104 := rfl
theorem L105 : (105 : Int32) = nI 105 := rfl
theorem L108 : (108 : Int32) = nI 108 := rfl
theorem L109 : (109 : Int32) = nI 109 := rfl
theorem L115 : (115 : Int32) = nI 115 := rfl
theorem L119 : (119 : Int32) = nI 119 := rfl
theorem L122 : (122 : Int32) = nI 122 := rfl
theorem L780 : (780 : Int32) = nI 780 := rfl
theorem L795 : (795 : Int32) = nI 795 := rfl
theorem L1000 : (1000 : Int32) = nI 1000 := rfl
theorem L1000000 : (1000000 : Int32) = nI 1000000 := rfl
theorem leN {a b : Nat} (ha : a < 2147483648) (hb : b < 2147483648) : (nI a ≤ nI b) = (a ≤ b) := propext (nI_leI ha hb)
theorem ltN {a b : Nat} (ha : a < 2147483648) (hb : b < 2147483648) : (nI a < nI b) = (a < b) := propext (nI_ltI ha hb)
theorem eqN {a b : Nat} (ha : a < 2147483648) (hb : b < 2147483648) : (nI a = nI b) = (a = b) := propext (nI_eq ha hb)
theorem clN {a : Nat} (ha : a < 2147483648) : (nI a).toNatClampNeg = a := nI_clamp ha
theorem or_z (x : Int32) : x ||| nI 0 = x := or_0 x
theorem ad_z (x : Int32) : x + nI 0 = x := by rw [nI_0]; exact Int32.add_zero x
theorem neg9 {a : Nat} (ha : a < 2147483648) : ¬ nI a = -nI 9 := fun q => by
  have h1 := congrArg Int32.toInt q
  rw [nI_toInt ha, show (-nI 9 : Int32).toInt = -9 from by decide +kernel] at h1
  omega
theorem neg9' {a : Nat} (ha : a < 2147483648) : ¬ nI a = (-9 : Int32) := neg9 ha
theorem neg9l : (-nI 9 : Int32) = (-9 : Int32) := rfl
theorem rd25 {fu : Nat} {M : Mm} {i : Nat} (h : i < 8) : F_X6_read fu M 25 (nI i) = some (M.1 25 i) := rd_eq (show i < ln 25 from h)
theorem wr25 {fu : Nat} {M : Mm} {i : Nat} {x : Int32} (h : i < 8) : F_X6_write fu M 25 (nI i) x = some (pI M 25 i x) := wr_eq (show i < ln 25 from h)
theorem rd26 {fu : Nat} {M : Mm} {i : Nat} (h : i < 6) : F_X6_read fu M 26 (nI i) = some (M.1 26 i) := rd_eq (show i < ln 26 from h)
theorem wr26 {fu : Nat} {M : Mm} {i : Nat} {x : Int32} (h : i < 6) : F_X6_write fu M 26 (nI i) x = some (pI M 26 i x) := wr_eq (show i < ln 26 from h)
theorem rd27 {fu : Nat} {M : Mm} {i : Nat} (h : i < 6) : F_X6_read fu M 27 (nI i) = some (M.1 27 i) := rd_eq (show i < ln 27 from h)
theorem wr27 {fu : Nat} {M : Mm} {i : Nat} {x : Int32} (h : i < 6) : F_X6_write fu M 27 (nI i) x = some (pI M 27 i x) := wr_eq (show i < ln 27 from h)
theorem rd28 {fu : Nat} {M : Mm} {i : Nat} (h : i < 6) : F_X6_read fu M 28 (nI i) = some (M.1 28 i) := rd_eq (show i < ln 28 from h)
theorem wr28 {fu : Nat} {M : Mm} {i : Nat} {x : Int32} (h : i < 6) : F_X6_write fu M 28 (nI i) x = some (pI M 28 i x) := wr_eq (show i < ln 28 from h)
theorem rd29 {fu : Nat} {M : Mm} {i : Nat} (h : i < 6) : F_X6_read fu M 29 (nI i) = some (M.1 29 i) := rd_eq (show i < ln 29 from h)
theorem wr29 {fu : Nat} {M : Mm} {i : Nat} {x : Int32} (h : i < 6) : F_X6_write fu M 29 (nI i) x = some (pI M 29 i x) := wr_eq (show i < ln 29 from h)
theorem rd30 {fu : Nat} {M : Mm} {i : Nat} (h : i < 6) : F_X6_read fu M 30 (nI i) = some (M.1 30 i) := rd_eq (show i < ln 30 from h)
theorem wr30 {fu : Nat} {M : Mm} {i : Nat} {x : Int32} (h : i < 6) : F_X6_write fu M 30 (nI i) x = some (pI M 30 i x) := wr_eq (show i < ln 30 from h)
theorem rd31 {fu : Nat} {M : Mm} {i : Nat} (h : i < 6) : F_X6_read fu M 31 (nI i) = some (M.1 31 i) := rd_eq (show i < ln 31 from h)
theorem wr31 {fu : Nat} {M : Mm} {i : Nat} {x : Int32} (h : i < 6) : F_X6_write fu M 31 (nI i) x = some (pI M 31 i x) := wr_eq (show i < ln 31 from h)
theorem rd32 {fu : Nat} {M : Mm} {i : Nat} (h : i < 60) : F_X6_read fu M 32 (nI i) = some (M.1 32 i) := rd_eq (show i < ln 32 from h)
theorem wr32 {fu : Nat} {M : Mm} {i : Nat} {x : Int32} (h : i < 60) : F_X6_write fu M 32 (nI i) x = some (pI M 32 i x) := wr_eq (show i < ln 32 from h)
theorem rd33 {fu : Nat} {M : Mm} {i : Nat} (h : i < 60) : F_X6_read fu M 33 (nI i) = some (M.1 33 i) := rd_eq (show i < ln 33 from h)
theorem wr33 {fu : Nat} {M : Mm} {i : Nat} {x : Int32} (h : i < 60) : F_X6_write fu M 33 (nI i) x = some (pI M 33 i x) := wr_eq (show i < ln 33 from h)
theorem rd34 {fu : Nat} {M : Mm} {i : Nat} (h : i < 60) : F_X6_read fu M 34 (nI i) = some (M.1 34 i) := rd_eq (show i < ln 34 from h)
theorem wr34 {fu : Nat} {M : Mm} {i : Nat} {x : Int32} (h : i < 60) : F_X6_write fu M 34 (nI i) x = some (pI M 34 i x) := wr_eq (show i < ln 34 from h)
theorem rd69 {fu : Nat} {M : Mm} {i : Nat} (h : i < 8) : F_X6_read fu M 69 (nI i) = some (M.1 69 i) := rd_eq (show i < ln 69 from h)
theorem wr69 {fu : Nat} {M : Mm} {i : Nat} {x : Int32} (h : i < 8) : F_X6_write fu M 69 (nI i) x = some (pI M 69 i x) := wr_eq (show i < ln 69 from h)
theorem rd70 {fu : Nat} {M : Mm} {i : Nat} (h : i < 6) : F_X6_read fu M 70 (nI i) = some (M.1 70 i) := rd_eq (show i < ln 70 from h)
theorem wr70 {fu : Nat} {M : Mm} {i : Nat} {x : Int32} (h : i < 6) : F_X6_write fu M 70 (nI i) x = some (pI M 70 i x) := wr_eq (show i < ln 70 from h)
theorem rd71 {fu : Nat} {M : Mm} {i : Nat} (h : i < 6) : F_X6_read fu M 71 (nI i) = some (M.1 71 i) := rd_eq (show i < ln 71 from h)
theorem wr71 {fu : Nat} {M : Mm} {i : Nat} {x : Int32} (h : i < 6) : F_X6_write fu M 71 (nI i) x = some (pI M 71 i x) := wr_eq (show i < ln 71 from h)
theorem rd72 {fu : Nat} {M : Mm} {i : Nat} (h : i < 6) : F_X6_read fu M 72 (nI i) = some (M.1 72 i) := rd_eq (show i < ln 72 from h)
theorem wr72 {fu : Nat} {M : Mm} {i : Nat} {x : Int32} (h : i < 6) : F_X6_write fu M 72 (nI i) x = some (pI M 72 i x) := wr_eq (show i < ln 72 from h)
theorem rd73 {fu : Nat} {M : Mm} {i : Nat} (h : i < 6) : F_X6_read fu M 73 (nI i) = some (M.1 73 i) := rd_eq (show i < ln 73 from h)
theorem wr73 {fu : Nat} {M : Mm} {i : Nat} {x : Int32} (h : i < 6) : F_X6_write fu M 73 (nI i) x = some (pI M 73 i x) := wr_eq (show i < ln 73 from h)
theorem rd75 {fu : Nat} {M : Mm} {i : Nat} (h : i < 6) : F_X6_read fu M 75 (nI i) = some (M.1 75 i) := rd_eq (show i < ln 75 from h)
theorem wr75 {fu : Nat} {M : Mm} {i : Nat} {x : Int32} (h : i < 6) : F_X6_write fu M 75 (nI i) x = some (pI M 75 i x) := wr_eq (show i < ln 75 from h)
theorem rd76 {fu : Nat} {M : Mm} {i : Nat} (h : i < 6) : F_X6_read fu M 76 (nI i) = some (M.1 76 i) := rd_eq (show i < ln 76 from h)
theorem wr76 {fu : Nat} {M : Mm} {i : Nat} {x : Int32} (h : i < 6) : F_X6_write fu M 76 (nI i) x = some (pI M 76 i x) := wr_eq (show i < ln 76 from h)
theorem rd80 {fu : Nat} {M : Mm} {i : Nat} (h : i < 6) : F_X6_read fu M 80 (nI i) = some (M.1 80 i) := rd_eq (show i < ln 80 from h)
theorem wr80 {fu : Nat} {M : Mm} {i : Nat} {x : Int32} (h : i < 6) : F_X6_write fu M 80 (nI i) x = some (pI M 80 i x) := wr_eq (show i < ln 80 from h)
theorem rd81 {fu : Nat} {M : Mm} {i : Nat} (h : i < 61) : F_X6_read fu M 81 (nI i) = some (M.1 81 i) := rd_eq (show i < ln 81 from h)
theorem wr81 {fu : Nat} {M : Mm} {i : Nat} {x : Int32} (h : i < 61) : F_X6_write fu M 81 (nI i) x = some (pI M 81 i x) := wr_eq (show i < ln 81 from h)
theorem rd82 {fu : Nat} {M : Mm} {i : Nat} (h : i < 6) : F_X6_read fu M 82 (nI i) = some (M.1 82 i) := rd_eq (show i < ln 82 from h)
theorem wr82 {fu : Nat} {M : Mm} {i : Nat} {x : Int32} (h : i < 6) : F_X6_write fu M 82 (nI i) x = some (pI M 82 i x) := wr_eq (show i < ln 82 from h)
theorem rd83 {fu : Nat} {M : Mm} {i : Nat} (h : i < 6) : F_X6_read fu M 83 (nI i) = some (M.1 83 i) := rd_eq (show i < ln 83 from h)
theorem wr83 {fu : Nat} {M : Mm} {i : Nat} {x : Int32} (h : i < 6) : F_X6_write fu M 83 (nI i) x = some (pI M 83 i x) := wr_eq (show i < ln 83 from h)
theorem rd84 {fu : Nat} {M : Mm} {i : Nat} (h : i < 6) : F_X6_read fu M 84 (nI i) = some (M.1 84 i) := rd_eq (show i < ln 84 from h)
theorem wr84 {fu : Nat} {M : Mm} {i : Nat} {x : Int32} (h : i < 6) : F_X6_write fu M 84 (nI i) x = some (pI M 84 i x) := wr_eq (show i < ln 84 from h)
theorem rd85 {fu : Nat} {M : Mm} {i : Nat} (h : i < 64) : F_X6_read fu M 85 (nI i) = some (M.1 85 i) := rd_eq (show i < ln 85 from h)
theorem wr85 {fu : Nat} {M : Mm} {i : Nat} {x : Int32} (h : i < 64) : F_X6_write fu M 85 (nI i) x = some (pI M 85 i x) := wr_eq (show i < ln 85 from h)
theorem xr78 {α : Type} {i : Nat} {a : Option α} (h : i < 100) : (if nI i < 0 ∨ ln 78 ≤ (nI i).toNatClampNeg then none else a) = a := xr (show i < ln 78 from h)
theorem xs78 {α : Type} {i : Nat} {a : Option α} (h : i < 100) : (if nI i < nI 0 ∨ ln 78 ≤ (nI i).toNatClampNeg then none else a) = a := xr (show i < ln 78 from h)
theorem xr79 {α : Type} {i : Nat} {a : Option α} (h : i < 100) : (if nI i < 0 ∨ ln 79 ≤ (nI i).toNatClampNeg then none else a) = a := xr (show i < ln 79 from h)
theorem xs79 {α : Type} {i : Nat} {a : Option α} (h : i < 100) : (if nI i < nI 0 ∨ ln 79 ≤ (nI i).toNatClampNeg then none else a) = a := xr (show i < ln 79 from h)
theorem ltsub {a b : Nat} (ha : a < 1073741824) (hb : b < 1073741824) : (nI 0 < nI a - nI b) = (b < a) := by
  rw [Int32.lt_iff_toInt_lt, pk_sub_toInt ha hb, nI_toInt (by decide)]
  exact propext (by omega)
theorem lesub {a b : Nat} (ha : a < 1073741824) (hb : b < 1073741824) : (nI a - nI b ≤ nI 0) = (a ≤ b) := by
  rw [Int32.le_iff_toInt_le, pk_sub_toInt ha hb, nI_toInt (by decide)]
  exact propext (by omega)
theorem subsub (a b c : Nat) : nI a - nI b - nI c = nI a - nI (b + c) := by
  rw [← nI_add, Int32.sub_sub]
/-- the first of m numbers from d on; -9: none -/
def srch (p : Nat → Bool) : Nat → Nat → Int32
  | 0, _ => -9
  | m + 1, d => if p d then nI d else srch p m (d + 1)
/-- how many of m numbers from d on -/
def cntF (p : Nat → Bool) : Nat → Nat → Nat
  | 0, _ => 0
  | m + 1, d => (if p d then 1 else 0) + cntF p m (d + 1)
theorem cntF_le (p : Nat → Bool) : ∀ m d, cntF p m d ≤ m := by
  intro m
  induction m with
  | zero => intro d; exact Nat.le_refl _
  | succ m ih => intro d; have := ih (d + 1); unfold cntF; split <;> omega
/-- how many below n -/
def cnt (p : Nat → Bool) : Nat → Nat
  | 0 => 0
  | n + 1 => cnt p n + (if p n then 1 else 0)
theorem cnt_le (p : Nat → Bool) : ∀ n, cnt p n ≤ n := by
  intro n
  induction n with
  | zero => exact Nat.le_refl _
  | succ n ih => unfold cnt; split <;> omega
theorem cnt_cg {f g : Nat → Bool} : ∀ n, (∀ i, i < n → f i = g i) → cnt f n = cnt g n := by
  intro n
  induction n with
  | zero => intro _; rfl
  | succ n ih =>
    intro h
    unfold cnt
    rw [ih (fun i hi => h i (by omega)), h n (by omega)]
theorem pc_add : ∀ n, n < 6 → ∀ s, s < 2 ^ n → pc (s + 2 ^ n) = pc s + 1 := by decide +kernel
theorem pc_bset (f : Nat → Bool) : ∀ n, n ≤ 6 → pc (bset f n) = cnt f n := by
  intro n
  induction n with
  | zero => intro _; simp [bset, pc, cnt]
  | succ n ih =>
    intro h
    have := ih (by omega)
    unfold bset cnt
    by_cases hf : f n = true
    · rw [if_pos hf, if_pos hf, pc_add n (by omega) _ (bset_lt f n), this]
    · rw [if_neg hf, if_neg hf, Nat.add_zero, this, Nat.add_zero]
theorem bset_self {n s : Nat} (h : s < 2 ^ n) : bset (fun i => s.testBit i) n = s := by
  apply Nat.eq_of_testBit_eq
  intro i
  rw [bset_bit]
  by_cases hi : i < n
  · simp [hi]
  · have : s.testBit i = false := Nat.testBit_lt_two_pow (Nat.lt_of_lt_of_le h (Nat.pow_le_pow_right (by decide) (by omega)))
    simp [this]
theorem pc_self {n s : Nat} (hn : n ≤ 6) (h : s < 2 ^ n) : pc s = cnt (fun i => s.testBit i) n := by
  rw [← pc_bset _ n hn, bset_self h]
def pcr : Nat → Nat → Nat
  | 0, _ => 0
  | m + 1, s => s % 2 + pcr m (s / 2)
theorem pcr_0 : ∀ m, pcr m 0 = 0 := by
  intro m
  induction m with
  | zero => rfl
  | succ m ih => unfold pcr; rw [Nat.zero_div, ih]
theorem pcr_6 (s : Nat) : pcr 6 s = pc s := by
  simp only [pcr, pc, Nat.div_div_eq_div_mul]
  omega
theorem and_1 {n : Nat} (h : n < 2147483648) : nI n &&& nI 1 = nI (n % 2) := pk_andN (by omega) 1 (by decide)
theorem shr_1 {n : Nat} (h : n < 2147483648) : nI n >>> (nI 1 &&& 31) = nI (n / 2) := pk_shrN (by omega) _ 1 (by decide)
/-! what the reference reads of a north -/
def blk (v : NV) (i n : Nat) : Nat := vBulk v i - melF v (vKind v i) (vShade v i) 0 n
theorem blk_le {v : NV} (hv : okV v) {i : Nat} (hi : i < vMen v) (n : Nat) : blk v i n ≤ 99 := Nat.le_trans (Nat.sub_le _ _) (hv.2.2.2.2.2 i hi).2.2.1
theorem cnt_t {f : Nat → Bool} {i : Nat} (h : f i = true) : cnt f (i + 1) = cnt f i + 1 := by simp [cnt, h]
theorem cnt_f {f : Nat → Bool} {i : Nat} (h : ¬ f i = true) : cnt f (i + 1) = cnt f i := by simp [cnt, h]
theorem nIb {b : Bool} {k : Nat} (hk : k ≤ 1) (h : b = decide (k = 1)) : nI k = bI b := by
  subst h
  have : k = 0 ∨ k = 1 := by omega
  rcases this with rfl | rfl <;> rfl
theorem isInE {s i : Nat} (hs : s < 64) (hi : i < 6) : (nI s >>> (nI i &&& 31)) &&& (1 : Int32) = bI (s.testBit i) := isIn_b s hs i hi
def zeroF (v : NV) (s : Nat) : Nat → Bool := fun i => s.testBit i && !v1 v s i
theorem cnt_split (v : NV) (s : Nat) : ∀ n, cnt (onesF v s) n + cnt (zeroF v s) n = cnt (fun i => s.testBit i) n := by
  intro n
  induction n with
  | zero => rfl
  | succ n ih =>
    unfold cnt
    rw [← ih]
    unfold onesF zeroF
    cases s.testBit n <;> cases v1 v s n <;> simp <;> omega
theorem zero_eq {v : NV} (hv : okV v) {s : Nat} (hs : s < 2 ^ vMen v) : cnt (zeroF v s) (vMen v) = pc s - pc (onesN v s) ∧ pc (onesN v s) ≤ pc s := by
  have h1 := cnt_split v s (vMen v)
  rw [← pc_self hv.1 hs, ← pc_bset _ _ hv.1] at h1
  unfold onesN
  omega
def goneP (v : NV) (i : Nat) : Nat → Bool := fun n => decide (vBulk v i ≤ melF v (vKind v i) (vShade v i) 0 n)
theorem blkqs (v : NV) (i d : Nat) : blk v i (d + 1) = blk v i d - melD v (vKind v i) (vShade v i) d := by
  unfold blk
  rw [melF_s, Nat.zero_add, Nat.sub_sub]
theorem blkq0 (v : NV) (i : Nat) : blk v i 0 = vBulk v i := rfl
theorem hasR_1 (k z : Nat) : hasR k z 1 = decide (0 < z) := by
  unfold hasR
  split <;> simp <;> omega
def smallP (v : NV) (i : Nat) : Nat → Bool := fun d => decide (0 < blk v i d ∧ blk v i d < vRight v)
def melP (v : NV) (i : Nat) : Nat → Bool := fun d => decide (0 < melD v (vKind v i) (vShade v i) d)
/-- as which man one votes -/
def asF (s i : Nat) : Int32 := if s.testBit i = true then (if 0 < i ∧ s.testBit (i - 1) = true then nI (i - 1) else nI i) else -9
/-! what the class reads of a north -/
theorem le00 {n : Nat} (h : n = 0) : nI n ≤ (0 : Int32) := by subst h; decide
theorem CV.cg {v : NV} {M M' : Mm} (h : CV v M) (g : ∀ c, 24 ≤ c → c ≤ 29 → M'.1 c = M.1 c) : CV v M' := by
  unfold CV
  rw [g 24 (by decide) (by decide), g 25 (by decide) (by decide), g 26 (by decide) (by decide), g 27 (by decide) (by decide), g 28 (by decide) (by decide), g 29 (by decide) (by decide)]
  exact h
theorem CV.p {v : NV} {M : Mm} (h : CV v M) {c j : Nat} {x : Int32} (hc : c < 24 ∨ 29 < c) : CV v (pI M c j x) := h.cg fun a h1 h2 => (pI_off a (by omega)).1
theorem goneIn_C11 {fu : Nat} {M : Mm} {v : NV} (hv : okV v) (hc : CV v M) {i : Nat} (hi : i < vMen v) : ∀ (m n d : Nat), d + m = 61 → m < n → F_X2_goneIn_11 fu M n 24 (nI i) (nI (vBulk v i) - nI (melF v (vKind v i) (vShade v i) 0 d)) (nI d) = some (srch (goneP v i) m d) := by
  intro m
  have hb := hv.2.2.2.2.2 i hi
  have hday := hv.2.2.2.1
  induction m with
  | zero =>
    intro n d hd hn
    obtain ⟨n, rfl⟩ : ∃ q, n = q + 1 := ⟨n - 1, by omega⟩
    unfold F_X2_goneIn_11
    rw [L60, if_pos (nI_lt (by omega) (by omega))]
    rfl
  | succ m ih =>
    intro n d hd hn
    obtain ⟨n, rfl⟩ : ∃ q, n = q + 1 := ⟨n - 1, by omega⟩
    have hm := melF_le hv (vKind v i) (vShade v i) d 0
    have hs := melF_s v (vKind v i) (vShade v i) d 0
    have ih1 := ih n (d + 1) (by omega) (by omega)
    rw [Nat.zero_add] at hs
    rw [hs] at ih1
    unfold F_X2_goneIn_11
    simp (disch := omega) only [L0, L1, L2, L3, L4, L5, L6, L7, L8, L9, L10, L11, L12, L13, L14, L15, L20, L32, L40, L48, L60, L61, L99, L100, L104, L105, L108, L109, L115, L119, L122, L780, L795, L1000, L1000000, leN, ltN, eqN, clN, nI_add, pk_mul, if_pos, if_neg, lt1_s, ob1_s, ob2_s, op1_n, op1_s, ltsub]
    unfold srch
    by_cases h : goneP v i d = true
    · have h2 := of_decide_eq_true h
      rw [if_neg (by omega), if_pos h]
    · have h2 := of_decide_eq_false (Bool.eq_false_iff.mpr h)
      rw [if_pos (by omega), if_neg h, meltingIn_C hv hc hi (by omega), ob1_s, subsub]
      exact ih1
theorem goneIn_C {fu : Nat} (hf : 1000 ≤ fu) {M : Mm} {v : NV} (hv : okV v) (hc : CV v M) {i : Nat} (hi : i < vMen v) : F_X2_goneIn fu M 24 (nI i) = some (srch (goneP v i) 61 0) := by
  have hm := hv.1
  unfold F_X2_goneIn
  rw [show 24 + 4 = 28 from rfl, rd28 (by omega), ob1_s, (hc.2.2.2.2 i hi).2.2.1]
  have := goneIn_C11 (fu := fu) hv hc hi 61 fu 0 (by omega) (by omega)
  rw [show melF v (vKind v i) (vShade v i) 0 0 = 0 from rfl, nI_sub0] at this
  exact this
theorem votersR_C {fu : Nat} (hf : 1000 ≤ fu) {M : Mm} {v : NV} (hv : okV v) (hc : CV v M) (h0 : 0 < vMen v) : F_X2_votersBy fu M 24 (M.1 24 1) = some (nI (whoN v (vRight v) 0)) := by
  rw [hc.2.1]
  exact votersBy_C hf hv hc (hv.2.1 h0) hv.2.2.1
/-- how one votes now; -9: not -/
def votF (v : NV) (s i : Nat) : Int32 := if s.testBit i = true then bI (v1 v s i) else -9
theorem voteNow_C {fu : Nat} (hf : 1000 ≤ fu) {M : Mm} {v : NV} (hv : okV v) (hc : CV v M) {i : Nat} (hi : i < vMen v) : F_X2_voteNow fu M 24 (nI i) = some (votF v (whoN v (vRight v) 0) i) := by
  have hm := hv.1
  have hs := whoN_lt hv (vRight v) 0
  unfold F_X2_voteNow votF
  rw [votersR_C hf hv hc (by omega), ob1_s, isIn_C hs (by omega), ob1_s, onesAmong_C hf hv hc hs, ob1_s, isIn_C (onesN_lt hv _) (by omega), ob1_s, show (onesN v (whoN v (vRight v) 0)).testBit i = (decide (i < vMen v) && onesF v (whoN v (vRight v) 0) i) from bset_bit _ _ _, decide_eq_true hi]
  unfold onesF
  cases (whoN v (vRight v) 0).testBit i <;> cases v1 v (whoN v (vRight v) 0) i <;> rfl
/-- what man() tells -/
def tlF (v : NV) (i w : Nat) : Int32 := if w = 0 then nI (vKind v i) else if w = 1 then nI (vBulk v i) else if w = 2 then nI (vShade v i) else if w = 3 then nI (vVote v i) else if w = 4 then bI ((whoN v (vRight v) 0).testBit i) else votF v (whoN v (vRight v) 0) i
theorem tellsOf_C {fu : Nat} (hf : 1000 ≤ fu) {M : Mm} {v : NV} (hv : okV v) (hc : CV v M) {i w : Nat} (hi : i < vMen v) (hw : w < 6) : F_X2_tellsOf fu M 24 (nI i) (nI w) = some (tlF v i w) := by
  have hm := hv.1
  have hs := whoN_lt hv (vRight v) 0
  obtain ⟨c1, c2, c3, c4⟩ := hc.2.2.2.2 i hi
  unfold F_X2_tellsOf tlF
  rw [show 24 + 2 = 26 from rfl, show 24 + 3 = 27 from rfl, show 24 + 4 = 28 from rfl, show 24 + 5 = 29 from rfl, rd26 (by omega), rd27 (by omega), rd28 (by omega), rd29 (by omega), ob1_s, ob1_s, ob1_s, ob1_s, c1, c2, c3, c4, votersR_C hf hv hc (by omega), ob1_s, isIn_C hs (by omega), ob1_s, voteNow_C hf hv hc hi, ob1_s]
  have hcase : w = 0 ∨ w = 1 ∨ w = 2 ∨ w = 3 ∨ w = 4 ∨ w = 5 := by omega
  rcases hcase with rfl | rfl | rfl | rfl | rfl | rfl
  · rfl
  · rfl
  · rfl
  · rfl
  · cases (whoN v (vRight v) 0).testBit i <;> rfl
  · rfl
def grdP (v : NV) (i N : Nat) : Nat → Bool := fun s => decide (0 < vBulk v i - melF v (vKind v i) s 0 N)
theorem leastGuard_C9 {fu : Nat} (hf : 1000 ≤ fu) {M : Mm} {v : NV} (hv : okV v) (hc : CV v M) {i N : Nat} (hi : i < vMen v) (hN : N ≤ 60) : ∀ (m n s : Nat), s + m = 10 → m < n → F_X2_leastGuard_9 fu M n 24 (nI i) (nI N) (nI s) = some (srch (grdP v i N) m s) := by
  intro m
  obtain ⟨h1, h2, h3, h4⟩ := hv.2.2.2.2.2 i hi
  induction m with
  | zero =>
    intro n s hs hn
    obtain ⟨n, rfl⟩ : ∃ q, n = q + 1 := ⟨n - 1, by omega⟩
    unfold F_X2_leastGuard_9
    rw [L9, if_pos (nI_lt (by omega) (by omega))]
    rfl
  | succ m ih =>
    intro n s hs hn
    obtain ⟨n, rfl⟩ : ∃ q, n = q + 1 := ⟨n - 1, by omega⟩
    unfold F_X2_leastGuard_9 srch
    rw [L9, if_neg (nI_nlt (by omega) (by omega)), bulkBy_C hf hv hc hi (by omega) hN, ob1_s, nI_1, ih n (s + 1) (by omega) (by omega)]
    by_cases h : 0 < vBulk v i - melF v (vKind v i) s 0 N
    · rw [if_neg (nI_nle h (by omega)), if_pos (show grdP v i N s = true from decide_eq_true h)]
    · rw [if_pos (le00 (by omega)), if_neg (show ¬ grdP v i N s = true from fun q => h (of_decide_eq_true q))]
theorem leastGuard_C {fu : Nat} (hf : 1000 ≤ fu) {M : Mm} {v : NV} (hv : okV v) (hc : CV v M) {i N : Nat} (hi : i < vMen v) (hN : N ≤ 60) : F_X2_leastGuard fu M 24 (nI i) (nI N) = some (srch (grdP v i N) (10 - vShade v i) (vShade v i)) := by
  have hm := hv.1
  obtain ⟨h1, h2, h3, h4⟩ := hv.2.2.2.2.2 i hi
  unfold F_X2_leastGuard
  rw [show 24 + 5 = 29 from rfl, rd29 (by omega), ob1_s, (hc.2.2.2.2 i hi).2.2.2, leastGuard_C9 hf hv hc hi hN (10 - vShade v i) fu _ (by omega) (by omega)]
/-- the nearest to s with p, the lesser first -/
def nsC (p : Nat → Bool) (s : Nat) : Nat → Nat → Int32
  | 0, _ => -9
  | m + 1, f => if f ≤ s ∧ p (s - f) = true then nI (s - f) else if s + f ≤ 9 ∧ p (s + f) = true then nI (s + f) else nsC p s m (f + 1)
def rgtP (v : NV) (i N : Nat) : Nat → Bool := fun s => hasR (vKind v i) (vBulk v i - melF v (vKind v i) s 0 N) (vRight v)
theorem rgt_C {fu : Nat} (hf : 1000 ≤ fu) {M : Mm} {v : NV} (hv : okV v) (hc : CV v M) {i s N : Nat} (hi : i < vMen v) (hs : s ≤ 9) (hN : N ≤ 60) : F_X2_hasRightBy fu M 24 (nI i) (nI s) (nI N) = some (bI (rgtP v i N s)) := hasRightBy_C hf hv hc hi hs hN
theorem nearestShade_C13 {fu : Nat} (hf : 1000 ≤ fu) {M : Mm} {v : NV} (hv : okV v) (hc : CV v M) {i N s : Nat} (hi : i < vMen v) (hN : N ≤ 60) (hs : s ≤ 9) {b : Bool} : ∀ (m n f : Nat), f + m = 10 → m < n → F_X2_nearestShade_13 fu M n 24 (nI i) (nI N) (bI b) (nI s) (nI f) = some (nsC (fun x => rgtP v i N x == b) s m f) := by
  intro m
  induction m with
  | zero =>
    intro n f hs hn
    obtain ⟨n, rfl⟩ : ∃ q, n = q + 1 := ⟨n - 1, by omega⟩
    unfold F_X2_nearestShade_13
    rw [L9, if_pos (nI_lt (by omega) (by omega))]
    rfl
  | succ m ih =>
    intro n f hf1 hn
    obtain ⟨n, rfl⟩ : ∃ q, n = q + 1 := ⟨n - 1, by omega⟩
    have ih1 := ih n (f + 1) (by omega) (by omega)
    have hbb : ∀ a c : Bool, (bI a = bI c) = ((a == c) = true) := by decide
    have e49 : F_X2_nearestShade_49 fu M (F_X2_nearestShade_13 fu M n) 24 (nI i) (nI N) (bI b) (nI s) (nI f) = some (if s + f ≤ 9 ∧ (rgtP v i N (s + f) == b) = true then nI (s + f) else nsC (fun x => rgtP v i N x == b) s m (f + 1)) := by
      unfold F_X2_nearestShade_49
      rw [L9, nI_add, nI_1, ih1]
      by_cases h9 : s + f ≤ 9
      · rw [if_neg (nI_nlt h9 (by omega)), rgt_C hf hv hc hi h9 hN, ob1_s]
        by_cases hp : (rgtP v i N (s + f) == b) = true
        · rw [if_pos (show bI (rgtP v i N (s + f)) = bI b by rw [hbb]; exact hp), if_pos ⟨h9, hp⟩]
        · rw [if_neg (show ¬ bI (rgtP v i N (s + f)) = bI b by rw [hbb]; exact hp), if_neg (fun q => hp q.2)]
      · rw [if_pos (nI_lt (by omega) (by omega)), if_neg (fun q => h9 q.1)]
    unfold F_X2_nearestShade_13 nsC
    rw [e49, L9, if_neg (nI_nlt (by omega) (by omega))]
    by_cases h0 : f ≤ s
    · rw [pk_sub h0, if_neg (nI_pos (by omega)), rgt_C hf hv hc hi (by omega) hN, ob1_s]
      by_cases hp : (rgtP v i N (s - f) == b) = true
      · rw [if_pos (show bI (rgtP v i N (s - f)) = bI b by rw [hbb]; exact hp), if_pos (show f ≤ s ∧ (rgtP v i N (s - f) == b) = true from ⟨h0, hp⟩)]
      · rw [if_neg (show ¬ bI (rgtP v i N (s - f)) = bI b by rw [hbb]; exact hp), if_neg (show ¬ (f ≤ s ∧ (rgtP v i N (s - f) == b) = true) from fun q => hp q.2)]
    · rw [if_pos (pk_sneg (by omega) (by omega)), if_neg (show ¬ (f ≤ s ∧ (rgtP v i N (s - f) == b) = true) from fun q => h0 q.1)]
theorem nearestShade_C {fu : Nat} (hf : 1000 ≤ fu) {M : Mm} {v : NV} (hv : okV v) (hc : CV v M) {i N : Nat} (hi : i < vMen v) (hN : N ≤ 60) (b : Bool) : F_X2_nearestShade fu M 24 (nI i) (nI N) (bI b) = some (nsC (fun x => rgtP v i N x == b) (vShade v i) 10 0) := by
  have hm := hv.1
  obtain ⟨h1, h2, h3, h4⟩ := hv.2.2.2.2.2 i hi
  unfold F_X2_nearestShade
  rw [show 24 + 5 = 29 from rfl, rd29 (by omega), ob1_s, (hc.2.2.2.2 i hi).2.2.2]
  exact nearestShade_C13 hf hv hc hi hN h4 10 fu 0 (by omega) (by omega)
def sumB (v : NV) : Nat → Nat
  | 0 => 0
  | n + 1 => sumB v n + vBulk v n
theorem bulkOfAll_C4 {fu : Nat} {M : Mm} {v : NV} (hv : okV v) (hc : CV v M) : ∀ (m n i : Nat), i + m = vMen v → m < n → F_X2_bulkOfAll_4 fu M n 24 (nI (sumB v i)) (nI i) = some (nI (sumB v (vMen v))) := by
  intro m
  have hm := hv.1
  induction m with
  | zero =>
    intro n i hi hn
    obtain ⟨n, rfl⟩ : ∃ q, n = q + 1 := ⟨n - 1, by omega⟩
    unfold F_X2_bulkOfAll_4
    rw [hc.1, if_pos (nI_le (by omega) (by omega)), show i = vMen v by omega]
  | succ m ih =>
    intro n i hi hn
    obtain ⟨n, rfl⟩ : ∃ q, n = q + 1 := ⟨n - 1, by omega⟩
    unfold F_X2_bulkOfAll_4
    rw [hc.1, if_neg (nI_ge (by omega) (by omega)), show 24 + 4 = 28 from rfl, rd28 (by omega), ob1_s, (hc.2.2.2.2 i (by omega)).2.2.1, nI_add, nI_1]
    exact ih n (i + 1) (by omega) (by omega)
theorem bulkOfAll_C {fu : Nat} (hf : 1000 ≤ fu) {M : Mm} {v : NV} (hv : okV v) (hc : CV v M) : F_X2_bulkOfAll fu M 24 = some (nI (sumB v (vMen v))) :=
  bulkOfAll_C4 hv hc (vMen v) fu 0 (by omega) (by have := hv.1; omega)
def hatB (k : Nat) : Bool := k == 1 || k == 4 || k == 5
def hatP (v : NV) : Nat → Bool := fun i => hatB (vKind v i)
theorem foreseeVoters_C43 {fu : Nat} {v : NV} (hv : okV v) {r : Nat} (hr : 1 ≤ r) (hr2 : r ≤ 9) (k22 : Mm → Nat → Int32 → Nat → Int32 → Option Mm) {i : Nat} (hi : i < vMen v) : ∀ (m n : Nat) (M : Mm) (d : Nat), d + m = 61 → m < n → CV v M → (∀ j, j < 61 → M.1 81 j = nI (bset (whoF v r j) (if j < d then i + 1 else i))) → ∃ M', CV v M' ∧ (∀ j, j < 61 → M'.1 81 j = nI (bset (whoF v r j) (i + 1))) ∧ F_X2_foreseeVoters_43 fu k22 n M 24 (nI r) 81 (nI i) (nI (vBulk v i) - nI (melF v (vKind v i) (vShade v i) 0 d)) (nI d) = k22 M' 24 (nI r) 81 (nI (i + 1)) := by
  intro m
  have hm := hv.1
  have hday := hv.2.2.2.1
  obtain ⟨h1, h2, h3, h4⟩ := hv.2.2.2.2.2 i hi
  induction m with
  | zero =>
    intro n M d hd hn hc h
    obtain ⟨n, rfl⟩ : ∃ q, n = q + 1 := ⟨n - 1, by omega⟩
    refine ⟨M, hc, fun j hj => ?_, ?_⟩
    · rw [h j hj, if_pos (by omega)]
    unfold F_X2_foreseeVoters_43
    rw [L60, if_pos (nI_lt (by omega) (by omega)), nI_1]
  | succ m ih =>
    intro n M d hd hn hc h
    obtain ⟨n, rfl⟩ : ∃ q, n = q + 1 := ⟨n - 1, by omega⟩
    have hml := melF_le hv (vKind v i) (vShade v i) d 0
    have hs1 := melF_s v (vKind v i) (vShade v i) d 0
    rw [Nat.zero_add] at hs1
    have hw : whoF v r d i = hasR (vKind v i) (vBulk v i - melF v (vKind v i) (vShade v i) 0 d) r := rfl
    unfold F_X2_foreseeVoters_43
    rw [L60, if_neg (nI_nlt (by omega) (by omega)), hasRight_C hv hc hi (by omega) (by omega) hr hr2, ob1_s, ← hw]
    by_cases hb : whoF v r d i = true
    · have hset := bset_lt (whoF v r d) i
      have hd1 := h d (by omega)
      rw [if_neg (Nat.lt_irrefl d)] at hd1
      have hc1 : CV v (pI M 81 d (nI (bset (whoF v r d) (i + 1)))) := hc.p (by omega)
      obtain ⟨M', a1, a2, a3⟩ := ih n (pI M 81 d (nI (bset (whoF v r d) (i + 1)))) (d + 1) (by omega) (by omega) hc1 (fun j hj => by
        by_cases hjd : j = d
        · rw [hjd, pI_s, if_pos (by omega)]
        · rw [pI_n (Or.inr hjd), h j hj]
          by_cases hlt : j < d
          · rw [if_pos hlt, if_pos (by omega)]
          · rw [if_neg hlt, if_neg (by omega)])
      refine ⟨M', a1, a2, ?_⟩
      rw [hb, if_neg (by decide), rd81 (by omega), ob1_s, hd1, or_bit i (by omega) _ hset, wr81 (by omega), ob1_s, show bset (whoF v r d) i + 2 ^ i = bset (whoF v r d) (i + 1) by unfold bset; rw [hb]; cases i <;> simp [bset]]
      unfold F_X2_foreseeVoters_77
      rw [meltingIn_C hv hc1 hi (by omega), ob1_s, subsub, nI_1, ← hs1]
      exact a3
    · obtain ⟨M', a1, a2, a3⟩ := ih n M (d + 1) (by omega) (by omega) hc (fun j hj => by
        rw [h j hj]
        by_cases hlt : j < d
        · rw [if_pos hlt, if_pos (by omega)]
        · rw [if_neg hlt]
          by_cases hjd : j = d
          · rw [hjd, if_pos (by omega), show bset (whoF v r d) (i + 1) = bset (whoF v r d) i + (if whoF v r d i then 2 ^ i else 0) from rfl, if_neg hb, Nat.add_zero]
          · rw [if_neg (by omega)])
      refine ⟨M', a1, a2, ?_⟩
      rw [Bool.eq_false_iff.mpr hb, if_pos (by decide)]
      unfold F_X2_foreseeVoters_77
      rw [meltingIn_C hv hc hi (by omega), ob1_s, subsub, nI_1, ← hs1]
      exact a3
theorem foreseeVoters_C22 {fu : Nat} (hf : 1000 ≤ fu) {v : NV} (hv : okV v) {r : Nat} (hr : 1 ≤ r) (hr2 : r ≤ 9) : ∀ (m n : Nat) (M : Mm) (i : Nat), i + m = vMen v → m < n → CV v M → (∀ j, j < 61 → M.1 81 j = nI (bset (whoF v r j) i)) → ∃ M', CV v M' ∧ (∀ j, j < 61 → M'.1 81 j = nI (whoN v r j)) ∧ F_X2_foreseeVoters_22 fu n M 24 (nI r) 81 (nI i) = some M' := by
  intro m
  have hm := hv.1
  induction m with
  | zero =>
    intro n M i hi hn hc h
    obtain ⟨n, rfl⟩ : ∃ q, n = q + 1 := ⟨n - 1, by omega⟩
    refine ⟨M, hc, fun j hj => ?_, ?_⟩
    · rw [h j hj, show i = vMen v by omega]
      rfl
    unfold F_X2_foreseeVoters_22
    rw [hc.1, if_pos (nI_le (by omega) (by omega))]
  | succ m ih =>
    intro n M i hi hn hc h
    obtain ⟨n, rfl⟩ : ∃ q, n = q + 1 := ⟨n - 1, by omega⟩
    obtain ⟨M1, a1, a2, a3⟩ := foreseeVoters_C43 (fu := fu) hv hr hr2 (F_X2_foreseeVoters_22 fu n) (i := i) (by omega) 61 fu M 0 (by omega) (by omega) hc (fun j hj => by rw [h j hj, if_neg (by omega)])
    obtain ⟨M', b1, b2, b3⟩ := ih n M1 (i + 1) (by omega) (by omega) a1 a2
    refine ⟨M', b1, b2, ?_⟩
    rw [show melF v (vKind v i) (vShade v i) 0 0 = 0 from rfl, nI_sub0] at a3
    unfold F_X2_foreseeVoters_22
    rw [hc.1, if_neg (nI_ge (by omega) (by omega)), show 24 + 4 = 28 from rfl, rd28 (by omega), ob1_s, (hc.2.2.2.2 i (by omega)).2.2.1]
    exact a3.trans b3
theorem foreseeVoters_C2 {fu : Nat} (hf : 1000 ≤ fu) {v : NV} (hv : okV v) {r : Nat} (hr : 1 ≤ r) (hr2 : r ≤ 9) : ∀ (m n : Nat) (M : Mm) (d : Nat), d + m = 61 → m < n → CV v M → (∀ j, j < d → M.1 81 j = nI 0) → ∃ M', CV v M' ∧ (∀ j, j < 61 → M'.1 81 j = nI (whoN v r j)) ∧ F_X2_foreseeVoters_2 fu n M 24 (nI r) 81 (nI d) = some M' := by
  intro m
  induction m with
  | zero =>
    intro n M d hd hn hc h
    obtain ⟨n, rfl⟩ : ∃ q, n = q + 1 := ⟨n - 1, by omega⟩
    unfold F_X2_foreseeVoters_2
    rw [L60, if_pos (nI_lt (by omega) (by omega))]
    exact foreseeVoters_C22 hf hv hr hr2 (vMen v) fu M 0 (by omega) (by have := hv.1; omega) hc (fun j hj => h j (by omega))
  | succ m ih =>
    intro n M d hd hn hc h
    obtain ⟨n, rfl⟩ : ∃ q, n = q + 1 := ⟨n - 1, by omega⟩
    unfold F_X2_foreseeVoters_2
    rw [L60, if_neg (nI_nlt (by omega) (by omega)), wr81 (by omega), ob1_s, nI_1]
    exact ih n _ (d + 1) (by omega) (by omega) (hc.p (by omega)) (fun j hj => by
      by_cases hjd : j = d
      · rw [hjd, pI_s]; rfl
      · rw [pI_n (Or.inr hjd)]
        exact h j (by omega))
theorem foreseeVoters_C {fu : Nat} (hf : 1000 ≤ fu) {M : Mm} {v : NV} (hv : okV v) (hc : CV v M) {r : Nat} (hr : 1 ≤ r) (hr2 : r ≤ 9) : ∃ M', CV v M' ∧ (∀ j, j < 61 → M'.1 81 j = nI (whoN v r j)) ∧ F_X2_foreseeVoters fu M 24 (nI r) 81 = some M' :=
  foreseeVoters_C2 hf hv hr hr2 61 fu M 0 (by omega) (by omega) hc (fun j hj => by omega)

