/-! numbers, and the two systems' small reads -/
theorem lI (n : Nat) : (OfNat.ofNat n : Int32) = nI n := id rfl
theorem nI_ti {n : Nat} (h : n < 2 ^ 31) : (nI n).toInt = (n : Int) := nI_toInt h
theorem nI_tc {n : Nat} (h : n < 2 ^ 31) : (nI n).toNatClampNeg = n := nI_clamp h
theorem nI_lt0 {n : Nat} (h : n < 2 ^ 31) : ¬ nI n < 0 := nI_pos h
theorem nI_rng {i n : Nat} (h : i < n) (hn : n < 2 ^ 31) : ¬ (nI i < 0 ∨ n ≤ (nI i).toNatClampNeg) := nI_in h hn
theorem nI_subT {a b : Nat} (ha : a < 2 ^ 30) (hb : b < 2 ^ 30) : zmx 0 (nI a - nI b) = nI (a - b) := by
  have h := pk_sub_toInt ha hb
  unfold zmx
  by_cases hc : (0 : Int32) < nI a - nI b
  · rw [if_pos hc]
    have h1 := Int32.lt_iff_toInt_lt.mp hc
    rw [h] at h1
    have h2 : (0 : Int32).toInt = 0 := rfl
    exact pk_sub (by omega)
  · rw [if_neg hc]
    have h1 : ¬ (0 : Int32).toInt < (nI a - nI b).toInt := fun q => hc (Int32.lt_iff_toInt_lt.mpr q)
    rw [h] at h1
    have h2 : (0 : Int32).toInt = 0 := rfl
    have h3 : a - b = 0 := by omega
    rw [h3]
    rfl
theorem nI_max {a b : Nat} (ha : a < 2 ^ 31) (hb : b < 2 ^ 31) : zmx (nI a) (nI b) = nI (max a b) := by
  unfold zmx
  by_cases h : a < b
  · rw [if_pos ((nI_ltI ha hb).mpr h), Nat.max_eq_right (Nat.le_of_lt h)]
  · rw [if_neg (fun q => h ((nI_ltI ha hb).mp q)), Nat.max_eq_left (Nat.not_lt.mp h)]
theorem nI_min {a b : Nat} (ha : a < 2 ^ 31) (hb : b < 2 ^ 31) : zmn (nI a) (nI b) = nI (min a b) := by
  unfold zmn
  by_cases h : b < a
  · rw [if_pos ((nI_ltI hb ha).mpr h), Nat.min_eq_right (Nat.le_of_lt h)]
  · rw [if_neg (fun q => h ((nI_ltI hb ha).mp q)), Nat.min_eq_left (Nat.not_lt.mp h)]
theorem rd_eq {fu : Nat} {M : Mm} {c i : Nat} (h : i < ln c) : F_X6_read fu M c (nI i) = some (M.1 c i) := by
  have hl := ln_lt c
  have hi : i < 2 ^ 31 := by omega
  unfold F_X6_read
  rw [if_neg (nI_lt0 hi), if_neg (nI_ge h hl), if_neg (nI_rng h hl), nI_tc hi]
theorem wr_eq {fu : Nat} {M : Mm} {c i : Nat} {v : Int32} (h : i < ln c) : F_X6_write fu M c (nI i) v = some (pI M c i v) := by
  have hl := ln_lt c
  have hi : i < 2 ^ 31 := by omega
  unfold F_X6_write
  rw [if_neg (nI_lt0 hi), if_neg (nI_ge h hl), if_neg (nI_rng h hl), nI_tc hi]
  rfl
theorem ob1_s {α β : Type} {a : α} {f : α → Option β} : ob1 (some a) f = f a := rfl
theorem ob2_s {α β : Type} {a : α} {M : Mm} {f : α → Mm → Option β} : ob2 (some (a, M)) f = f a M := rfl
theorem pI_s {M : Mm} {x j : Nat} {v : Int32} : (pI M x j v).1 x j = v := by simp [pI, upd]
theorem pI_n {M : Mm} {x j y i : Nat} {v : Int32} (h : y ≠ x ∨ i ≠ j) : (pI M x j v).1 y i = M.1 y i := by
  by_cases hy : y = x
  · subst hy
    have : i ≠ j := by rcases h with h | h; exact absurd rfl h; exact h
    simp [pI, upd, this]
  · simp [pI, hy]
theorem pI_2 {M : Mm} {x j : Nat} {v : Int32} : (pI M x j v).2 = M.2 := rfl
theorem pL_1 {M : Mm} {x j : Nat} {v : Int64} : (pL M x j v).1 = M.1 := rfl
theorem pL_s {M : Mm} {x j : Nat} {v : Int64} : (pL M x j v).2 x j = v := by simp [pL, vp_updL]
theorem pL_n {M : Mm} {x j y i : Nat} {v : Int64} (h : y ≠ x ∨ i ≠ j) : (pL M x j v).2 y i = M.2 y i := by
  by_cases hy : y = x
  · subst hy
    have : i ≠ j := by rcases h with h | h; exact absurd rfl h; exact h
    simp [pL, vp_updL, this]
  · simp [pL, hy]
/-! the north, told plainly: men, right, day, suns, kinds, votes, bulks, shades -/
abbrev NV : Type := Nat × Nat × Nat × (Nat → Nat) × (Nat → Nat) × (Nat → Nat) × (Nat → Nat) × (Nat → Nat)
def vMen (v : NV) : Nat := v.1
def vRight (v : NV) : Nat := v.2.1
def vDay (v : NV) : Nat := v.2.2.1
def vSun (v : NV) : Nat → Nat := v.2.2.2.1
def vKind (v : NV) : Nat → Nat := v.2.2.2.2.1
def vVote (v : NV) : Nat → Nat := v.2.2.2.2.2.1
def vBulk (v : NV) : Nat → Nat := v.2.2.2.2.2.2.1
def vShade (v : NV) : Nat → Nat := v.2.2.2.2.2.2.2
def okV (v : NV) : Prop := vMen v ≤ 6 ∧ (0 < vMen v → 1 ≤ vRight v) ∧ vRight v ≤ 9 ∧ vDay v ≤ 60 ∧ (∀ j, vSun v j ≤ 9) ∧ ∀ i, i < vMen v → vKind v i ≤ 5 ∧ vVote v i ≤ 1 ∧ vBulk v i ≤ 99 ∧ vShade v i ≤ 9
def CV (v : NV) (M : Mm) : Prop := M.1 24 0 = nI (vMen v) ∧ M.1 24 1 = nI (vRight v) ∧ M.1 24 2 = nI (vDay v) ∧ (∀ j, j < 8 → M.1 25 j = nI (vSun v j)) ∧ ∀ i, i < vMen v → M.1 26 i = nI (vKind v i) ∧ M.1 27 i = nI (vVote v i) ∧ M.1 28 i = nI (vBulk v i) ∧ M.1 29 i = nI (vShade v i)
def XV (v : NV) (M : Mm) : Prop := M.1 86 4 = nI (vMen v) ∧ M.1 86 10 = nI (vRight v) ∧ M.1 86 11 = nI (vDay v) ∧ (∀ j, j < 8 → M.1 93 j = nI (vSun v j)) ∧ ∀ i, i < vMen v → M.1 91 i = nI (vKind v i) ∧ M.1 92 i = nI (vVote v i) ∧ M.1 94 i = nI (vBulk v i) ∧ M.1 95 i = nI (vShade v i)
def mel (sn k sh dy : Nat) : Nat := if k = 1 ∨ k = 4 then sn - sh - 1 else if k = 2 then (sn - sh) / 2 else if k = 3 then sn - sh + 1 else if k = 5 then (if dy % 2 = 0 then 0 else sn - sh - 1) else sn - sh
def melD (v : NV) (k sh d : Nat) : Nat := mel (vSun v ((vDay v + d) % 8)) k sh (vDay v + d)
/-- what melts on m days from day d on (counted from now) -/
def melF (v : NV) (k sh : Nat) : Nat → Nat → Nat
  | _, 0 => 0
  | d, m + 1 => melD v k sh d + melF v k sh (d + 1) m
theorem mel_le {sn k sh dy : Nat} (h : sn ≤ 9) : mel sn k sh dy ≤ 10 := by
  unfold mel
  split
  · omega
  · split
    · omega
    · split
      · omega
      · split
        · split <;> omega
        · omega
theorem melD_le {v : NV} (h : okV v) (k sh d : Nat) : melD v k sh d ≤ 10 := mel_le (h.2.2.2.2.1 _)
theorem melF_le {v : NV} (h : okV v) (k sh : Nat) : ∀ m d, melF v k sh d m ≤ 10 * m := by
  intro m
  induction m with
  | zero => intro d; exact Nat.le_refl _
  | succ m ih => intro d; have := melD_le h k sh d; have := ih (d + 1); unfold melF; omega
theorem melF_s (v : NV) (k sh : Nat) : ∀ m d, melF v k sh d (m + 1) = melF v k sh d m + melD v k sh (d + m) := by
  intro m
  induction m with
  | zero => intro d; simp [melF]
  | succ m ih =>
    intro d
    have h1 := ih (d + 1)
    rw [show melF v k sh d (m + 1 + 1) = melD v k sh d + melF v k sh (d + 1) (m + 1) from rfl, h1, show melF v k sh d (m + 1) = melD v k sh d + melF v k sh (d + 1) m from rfl, show d + 1 + m = d + (m + 1) by omega]
    omega
theorem eqO {k n : Nat} (hk : k < 2 ^ 31) (hn : n < 2 ^ 31) : (nI k = (OfNat.ofNat n : Int32)) ↔ k = n := nI_eq hk hn
theorem leO {k n : Nat} (hk : k < 2 ^ 31) (hn : n < 2 ^ 31) : (nI k ≤ (OfNat.ofNat n : Int32)) ↔ k ≤ n := nI_leI hk hn
theorem ltO {k n : Nat} (hk : k < 2 ^ 31) (hn : n < 2 ^ 31) : (nI k < (OfNat.ofNat n : Int32)) ↔ k < n := nI_ltI hk hn
theorem Ole {k n : Nat} (hk : k < 2 ^ 31) (hn : n < 2 ^ 31) : ((OfNat.ofNat n : Int32) ≤ nI k) ↔ n ≤ k := nI_leI hn hk
theorem Olt {k n : Nat} (hk : k < 2 ^ 31) (hn : n < 2 ^ 31) : ((OfNat.ofNat n : Int32) < nI k) ↔ n < k := nI_ltI hn hk
theorem xr {α : Type} {c i : Nat} {a : Option α} (h : i < ln c) : (if nI i < 0 ∨ ln c ≤ (nI i).toNatClampNeg then none else a) = a := if_neg (nI_rng h (ln_lt c))
theorem nI_rem {a d : Nat} (ha : a < 2 ^ 31) (h0 : 0 < d) (hd : d < 2 ^ 31) : nI a - nI a / nI d * nI d = nI (a % d) := pk_rem ha h0 hd
theorem mel_0 {a s d : Nat} : mel a 0 s d = a - s := rfl
theorem mel_1 {a s d : Nat} : mel a 1 s d = a - s - 1 := rfl
theorem mel_2 {a s d : Nat} : mel a 2 s d = (a - s) / 2 := rfl
theorem mel_3 {a s d : Nat} : mel a 3 s d = a - s + 1 := rfl
theorem mel_4 {a s d : Nat} : mel a 4 s d = a - s - 1 := rfl
theorem mel_5 {a s d : Nat} : mel a 5 s d = if d % 2 = 0 then 0 else a - s - 1 := rfl
theorem mel_C {fu : Nat} {M : Mm} {v : NV} (hv : okV v) (hc : CV v M) {k s d : Nat} (hk : k ≤ 5) (hs : s ≤ 9) (hd : d ≤ 1000) : F_X2_melting fu M 24 (nI k) (nI s) (nI d) = some (nI (mel (vSun v (d % 8)) k s d)) := by
  have h8 : d % 8 < 8 := Nat.mod_lt _ (by decide)
  have hsun := hv.2.2.2.2.1 (d % 8)
  have hp : zmx 0 (nI (vSun v (d % 8)) - nI s) = nI (vSun v (d % 8) - s) := nI_subT (by omega) (by omega)
  have hp1 : zmx 0 (nI (vSun v (d % 8) - s) - 1) = nI (vSun v (d % 8) - s - 1) := nI_subT (b := 1) (by omega) (by omega)
  have hr8 : nI d - nI d / 8 * 8 = nI (d % 8) := nI_rem (d := 8) (by omega) (by decide) (by decide)
  have hr2 : nI d - nI d / 2 * 2 = nI (d % 2) := nI_rem (d := 2) (by omega) (by decide) (by decide)
  unfold F_X2_melting
  rw [hr8, show 24 + 1 = 25 from rfl, rd_eq (show d % 8 < ln 25 from h8), ob1_s, hc.2.2.2.1 _ h8, hp, hp1, hr2]
  have hcase : k = 0 ∨ k = 1 ∨ k = 2 ∨ k = 3 ∨ k = 4 ∨ k = 5 := by omega
  rcases hcase with rfl | rfl | rfl | rfl | rfl | rfl
  · rw [mel_0, if_neg (by decide), if_neg (by decide), if_neg (by decide), if_neg (by decide), if_neg (by decide)]
  · rw [mel_1, if_pos (by decide)]
  · rw [mel_2, if_neg (by decide), if_pos (by decide), show (2 : Int32) = nI 2 from rfl, pk_div (by omega) (by decide) (by decide)]
  · rw [mel_3, if_neg (by decide), if_neg (by decide), if_pos (by decide), show (1 : Int32) = nI 1 from rfl, nI_add]
  · rw [mel_4, if_neg (by decide), if_neg (by decide), if_neg (by decide), if_pos (by decide)]
  · rw [mel_5, if_neg (by decide), if_neg (by decide), if_neg (by decide), if_neg (by decide), if_pos (by decide)]
    by_cases h2 : d % 2 = 0
    · rw [h2, if_pos (by decide), if_pos rfl]; rfl
    · rw [if_neg (show ¬ nI (d % 2) = 0 from fun q => h2 ((nI_eq (b := 0) (by omega) (by decide)).mp q)), if_neg h2]
theorem mel_X {fu : Nat} {M : Mm} {v : NV} (hv : okV v) (hc : XV v M) {k s d : Nat} (hk : k ≤ 5) (hs : s ≤ 9) (hd : d ≤ 1000) : F_X7_melts fu M (nI k) (nI s) (nI d) = some (nI (mel (vSun v (d % 8)) k s d)) := by
  have h8 : d % 8 < 8 := Nat.mod_lt _ (by decide)
  have hsun := hv.2.2.2.2.1 (d % 8)
  have hm : ∀ x : Int32, F_X7_most fu M 0 x = some (zmx 0 x) := by
    intro x
    unfold F_X7_most zmx
    by_cases h : (0 : Int32) < x
    · rw [if_pos (Int32.le_of_lt h), if_pos h]
    · rw [if_neg h]
      by_cases h2 : (0 : Int32) ≤ x
      · have : x = 0 := Int32.le_antisymm (Int32.not_lt.mp h) h2
        rw [this]; rfl
      · rw [if_neg h2]
  have hp : zmx 0 (nI (vSun v (d % 8)) - nI s) = nI (vSun v (d % 8) - s) := nI_subT (by omega) (by omega)
  have hp1 : zmx 0 (nI (vSun v (d % 8) - s) - 1) = nI (vSun v (d % 8) - s - 1) := nI_subT (b := 1) (by omega) (by omega)
  have hr8 : nI d - nI d / 8 * 8 = nI (d % 8) := nI_rem (d := 8) (by omega) (by decide) (by decide)
  have hr2 : nI d - nI d / 2 * 2 = nI (d % 2) := nI_rem (d := 2) (by omega) (by decide) (by decide)
  unfold F_X7_melts
  rw [hr8, xr (show d % 8 < ln 93 from h8), nI_tc (by omega), hc.2.2.2.1 _ h8, hm, ob1_s, hp, hm, ob1_s, hp1, hr2]
  have hcase : k = 0 ∨ k = 1 ∨ k = 2 ∨ k = 3 ∨ k = 4 ∨ k = 5 := by omega
  rcases hcase with rfl | rfl | rfl | rfl | rfl | rfl
  · rw [mel_0, if_neg (by decide), if_neg (by decide), if_neg (by decide), if_neg (by decide), if_neg (by decide)]
  · rw [mel_1, if_pos (by decide)]
  · rw [mel_2, if_neg (by decide), if_pos (by decide), show (2 : Int32) = nI 2 from rfl, pk_div (by omega) (by decide) (by decide)]
  · rw [mel_3, if_neg (by decide), if_neg (by decide), if_pos (by decide), show (1 : Int32) = nI 1 from rfl, nI_add]
  · rw [mel_4, if_neg (by decide), if_neg (by decide), if_neg (by decide), if_pos (by decide)]
  · rw [mel_5, if_neg (by decide), if_neg (by decide), if_neg (by decide), if_neg (by decide), if_pos (by decide)]
    by_cases h2 : d % 2 = 0
    · rw [h2, if_pos (by decide), if_pos rfl]; rfl
    · rw [if_neg (show ¬ nI (d % 2) = 0 from fun q => h2 ((nI_eq (b := 0) (by omega) (by decide)).mp q)), if_neg h2]
theorem most_X {fu : Nat} {M : Mm} {a b : Nat} (ha : a < 2 ^ 30) (hb : b < 2 ^ 30) : F_X7_most fu M 0 (nI a - nI b) = some (nI (a - b)) := by
  rw [← nI_subT ha hb]
  unfold F_X7_most zmx
  by_cases h : (0 : Int32) < nI a - nI b
  · rw [if_pos (Int32.le_of_lt h), if_pos h]
  · rw [if_neg h]
    by_cases h2 : (0 : Int32) ≤ nI a - nI b
    · have : nI a - nI b = 0 := Int32.le_antisymm (Int32.not_lt.mp h) h2
      rw [this]; rfl
    · rw [if_neg h2]
