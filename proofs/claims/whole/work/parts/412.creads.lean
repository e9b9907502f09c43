/-! what the class reads of a north -/
theorem le00 {n : Nat} (h : n = 0) : nI n ≤ (0 : Int32) := by subst h; decide
theorem CV.cg {v : NV} {M M' : Mm} (h : CV v M) (g : ∀ c, 24 ≤ c → c ≤ 29 → M'.1 c = M.1 c) : CV v M' := by
  unfold CV
  rw [g 24 (by decide) (by decide), g 25 (by decide) (by decide), g 26 (by decide) (by decide), g 27 (by decide) (by decide), g 28 (by decide) (by decide), g 29 (by decide) (by decide)]
  exact h
theorem CV.p {v : NV} {M : Mm} (h : CV v M) {c j : Nat} {x : Int32} (hc : c < 24 ∨ 29 < c) : CV v (pI M c j x) := h.cg fun a h1 h2 => (pI_off a (by omega)).1
theorem goneIn_C11 {fu : Nat} {M : Mm} {v : NV} (hv : okV v) (hc : CV v M) {i : Nat} (hi : i < vMen v) : ∀ (m n d : Nat), d + m = 61 → m < n → F_X2_goneIn_11 fu M n 24 (nI i) (nI (vBulk v i) - nI (melF v (vKind v i) (vShade v i) 0 d)) (nI d) = some (srch (goneP v i) m d) := by
  intro m
  have hb := hv.2.2.2.2.2 i hi
  have hday := hv.2.2.2.1
  induction m with
  | zero =>
    intro n d hd hn
    obtain ⟨n, rfl⟩ : ∃ q, n = q + 1 := ⟨n - 1, by omega⟩
    unfold F_X2_goneIn_11
    rw [L60, if_pos (nI_lt (by omega) (by omega))]
    rfl
  | succ m ih =>
    intro n d hd hn
    obtain ⟨n, rfl⟩ : ∃ q, n = q + 1 := ⟨n - 1, by omega⟩
    have hm := melF_le hv (vKind v i) (vShade v i) d 0
    have hs := melF_s v (vKind v i) (vShade v i) d 0
    have ih1 := ih n (d + 1) (by omega) (by omega)
    rw [Nat.zero_add] at hs
    rw [hs] at ih1
    unfold F_X2_goneIn_11
    simp (disch := omega) only [L0, L1, L2, L3, L4, L5, L6, L7, L8, L9, L10, L11, L12, L13, L14, L15, L20, L32, L40, L48, L60, L61, L99, L100, L104, L105, L108, L109, L115, L119, L122, L780, L795, L1000, L1000000, leN, ltN, eqN, clN, nI_add, pk_mul, if_pos, if_neg, lt1_s, ob1_s, ob2_s, op1_n, op1_s, ltsub]
    unfold srch
    by_cases h : goneP v i d = true
    · have h2 := of_decide_eq_true h
      rw [if_neg (by omega), if_pos h]
    · have h2 := of_decide_eq_false (Bool.eq_false_iff.mpr h)
      rw [if_pos (by omega), if_neg h, meltingIn_C hv hc hi (by omega), ob1_s, subsub]
      exact ih1
theorem goneIn_C {fu : Nat} (hf : 1000 ≤ fu) {M : Mm} {v : NV} (hv : okV v) (hc : CV v M) {i : Nat} (hi : i < vMen v) : F_X2_goneIn fu M 24 (nI i) = some (srch (goneP v i) 61 0) := by
  have hm := hv.1
  unfold F_X2_goneIn
  rw [show 24 + 4 = 28 from rfl, rd28 (by omega), ob1_s, (hc.2.2.2.2 i hi).2.2.1]
  have := goneIn_C11 (fu := fu) hv hc hi 61 fu 0 (by omega) (by omega)
  rw [show melF v (vKind v i) (vShade v i) 0 0 = 0 from rfl, nI_sub0] at this
  exact this
theorem daysByLaw_C14 {fu : Nat} {M : Mm} {v : NV} (hv : okV v) (hc : CV v M) {i : Nat} (hi : i < vMen v) : ∀ (m n d a : Nat), d + m = 60 → m < n → F_X2_daysByLaw_14 fu M n 24 (nI i) (nI a) (nI (vBulk v i) - nI (melF v (vKind v i) (vShade v i) 0 d)) (nI d) = some (nI (a + cntF (smallP v i) m d)) := by
  intro m
  have hb := hv.2.2.2.2.2 i hi
  have hday := hv.2.2.2.1
  have hr := hv.2.2.1
  have hr1 := hv.2.1 (by omega)
  induction m with
  | zero =>
    intro n d a hd hn
    obtain ⟨n, rfl⟩ : ∃ q, n = q + 1 := ⟨n - 1, by omega⟩
    unfold F_X2_daysByLaw_14
    rw [L60, if_pos (nI_le (by omega) (by omega))]
    rfl
  | succ m ih =>
    intro n d a hd hn
    obtain ⟨n, rfl⟩ : ∃ q, n = q + 1 := ⟨n - 1, by omega⟩
    have hm := melF_le hv (vKind v i) (vShade v i) d 0
    have hs := melF_s v (vKind v i) (vShade v i) d 0
    have ih1 := fun a => ih n (d + 1) a (by omega) (by omega)
    rw [Nat.zero_add] at hs
    rw [hs] at ih1
    have e36 : ∀ a : Nat, F_X2_daysByLaw_36 fu M (F_X2_daysByLaw_14 fu M n) 24 (nI i) (nI a) (nI (vBulk v i) - nI (melF v (vKind v i) (vShade v i) 0 d)) (nI d) = some (nI (a + cntF (smallP v i) m (d + 1))) := by
      intro a
      unfold F_X2_daysByLaw_36
      rw [meltingIn_C hv hc hi (by omega), ob1_s, subsub, nI_1]
      exact ih1 a
    have ht := pk_sub_toInt (a := vBulk v i) (b := melF v (vKind v i) (vShade v i) 0 d) (by omega) (by omega)
    have hz : blk v i d = vBulk v i - melF v (vKind v i) (vShade v i) 0 d := rfl
    unfold F_X2_daysByLaw_14 cntF
    rw [L60, if_neg (nI_ge (by omega) (by omega)), hc.2.1, e36 a, nI_1, e36 (a + 1)]
    by_cases h : 0 < blk v i d ∧ blk v i d < vRight v
    · rw [if_neg (by rw [Int32.le_iff_toInt_le, ht, show (0 : Int32).toInt = 0 from rfl]; omega), if_neg (by rw [Int32.le_iff_toInt_le, ht, nI_ti (by omega)]; omega), if_pos (show smallP v i d = true from decide_eq_true h), Nat.add_assoc]
    · rw [if_neg (show ¬ smallP v i d = true from fun q => h (of_decide_eq_true q)), Nat.zero_add]
      by_cases h0 : blk v i d = 0
      · rw [if_pos (by rw [Int32.le_iff_toInt_le, ht, show (0 : Int32).toInt = 0 from rfl]; omega)]
      · rw [if_neg (by rw [Int32.le_iff_toInt_le, ht, show (0 : Int32).toInt = 0 from rfl]; omega), if_pos (by rw [Int32.le_iff_toInt_le, ht, nI_ti (by omega)]; omega)]
theorem daysByLaw_C {fu : Nat} (hf : 1000 ≤ fu) {M : Mm} {v : NV} (hv : okV v) (hc : CV v M) {i : Nat} (hi : i < vMen v) : F_X2_daysByLaw fu M 24 (nI i) = some (nI (cntF (smallP v i) 60 0)) := by
  have hm := hv.1
  unfold F_X2_daysByLaw
  rw [show 24 + 4 = 28 from rfl, rd28 (by omega), ob1_s, (hc.2.2.2.2 i hi).2.2.1]
  have := daysByLaw_C14 (fu := fu) hv hc hi 60 fu 0 0 (by omega) (by omega)
  rw [show melF v (vKind v i) (vShade v i) 0 0 = 0 from rfl, nI_sub0, Nat.zero_add] at this
  exact this
theorem meltingDays_C4 {fu : Nat} {M : Mm} {v : NV} (hv : okV v) (hc : CV v M) {i : Nat} (hi : i < vMen v) : ∀ (m n d a : Nat), d + m = 8 → m < n → F_X2_meltingDays_4 fu M n 24 (nI i) (nI a) (nI d) = some (nI (a + cntF (melP v i) m d)) := by
  intro m
  induction m with
  | zero =>
    intro n d a hd hn
    obtain ⟨n, rfl⟩ : ∃ q, n = q + 1 := ⟨n - 1, by omega⟩
    unfold F_X2_meltingDays_4
    rw [L8, if_pos (nI_le (by omega) (by omega))]
    rfl
  | succ m ih =>
    intro n d a hd hn
    obtain ⟨n, rfl⟩ : ∃ q, n = q + 1 := ⟨n - 1, by omega⟩
    have hmd := melD_le hv (vKind v i) (vShade v i) d
    unfold F_X2_meltingDays_4 cntF
    rw [L8, if_neg (nI_ge (by omega) (by omega)), meltingIn_C hv hc hi (by omega), ob1_s, nI_1, nI_1, ih n (d + 1) _ (by omega) (by omega), ih n (d + 1) _ (by omega) (by omega)]
    by_cases h : 0 < melD v (vKind v i) (vShade v i) d
    · rw [if_neg (nI_nle h (by omega)), if_pos (show melP v i d = true from decide_eq_true h), Nat.add_assoc]
    · rw [if_neg (show ¬ melP v i d = true from fun q => h (of_decide_eq_true q)), Nat.zero_add, if_pos (le00 (by omega))]
theorem meltingDays_C {fu : Nat} (hf : 1000 ≤ fu) {M : Mm} {v : NV} (hv : okV v) (hc : CV v M) {i : Nat} (hi : i < vMen v) : F_X2_meltingDays fu M 24 (nI i) = some (nI (cntF (melP v i) 8 0)) := by
  have := meltingDays_C4 (fu := fu) hv hc hi 8 fu 0 0 (by omega) (by omega)
  rw [Nat.zero_add] at this
  exact this
theorem votersR_C {fu : Nat} (hf : 1000 ≤ fu) {M : Mm} {v : NV} (hv : okV v) (hc : CV v M) (h0 : 0 < vMen v) : F_X2_votersBy fu M 24 (M.1 24 1) = some (nI (whoN v (vRight v) 0)) := by
  rw [hc.2.1]
  exact votersBy_C hf hv hc (hv.2.1 h0) hv.2.2.1
theorem votesAs_C {fu : Nat} (hf : 1000 ≤ fu) {M : Mm} {v : NV} (hv : okV v) (hc : CV v M) {i : Nat} (hi : i < vMen v) : F_X2_votesAs fu M 24 (nI i) = some (asF (whoN v (vRight v) 0) i) := by
  have hm := hv.1
  have hs := whoN_lt hv (vRight v) 0
  unfold F_X2_votesAs asF
  rw [votersR_C hf hv hc (by omega), ob1_s, isIn_C hs (by omega), ob1_s]
  cases i with
  | zero =>
    rw [if_pos (show nI 0 ≤ 0 by decide), if_neg (show ¬ (0 < 0 ∧ (whoN v (vRight v) 0).testBit (0 - 1) = true) by omega)]
    cases (whoN v (vRight v) 0).testBit 0 <;> rfl
  | succ i =>
    rw [nI_pred, isIn_C hs (by omega), ob1_s, if_neg (show ¬ nI (i + 1) ≤ 0 from nI_nle (by omega) (by omega)), show i + 1 - 1 = i from rfl]
    cases (whoN v (vRight v) 0).testBit (i + 1)
    · rfl
    · cases (whoN v (vRight v) 0).testBit i
      · rw [if_neg (by decide), if_pos (by decide), if_pos rfl, if_neg (by simp)]
      · rw [if_neg (by decide), if_neg (by decide), if_pos rfl, if_pos ⟨by omega, rfl⟩]
/-- how one votes now; -9: not -/
def votF (v : NV) (s i : Nat) : Int32 := if s.testBit i = true then bI (v1 v s i) else -9
theorem voteNow_C {fu : Nat} (hf : 1000 ≤ fu) {M : Mm} {v : NV} (hv : okV v) (hc : CV v M) {i : Nat} (hi : i < vMen v) : F_X2_voteNow fu M 24 (nI i) = some (votF v (whoN v (vRight v) 0) i) := by
  have hm := hv.1
  have hs := whoN_lt hv (vRight v) 0
  unfold F_X2_voteNow votF
  rw [votersR_C hf hv hc (by omega), ob1_s, isIn_C hs (by omega), ob1_s, onesAmong_C hf hv hc hs, ob1_s, isIn_C (onesN_lt hv _) (by omega), ob1_s, show (onesN v (whoN v (vRight v) 0)).testBit i = (decide (i < vMen v) && onesF v (whoN v (vRight v) 0) i) from bset_bit _ _ _, decide_eq_true hi]
  unfold onesF
  cases (whoN v (vRight v) 0).testBit i <;> cases v1 v (whoN v (vRight v) 0) i <;> rfl
/-- what man() tells -/
def tlF (v : NV) (i w : Nat) : Int32 := if w = 0 then nI (vKind v i) else if w = 1 then nI (vBulk v i) else if w = 2 then nI (vShade v i) else if w = 3 then nI (vVote v i) else if w = 4 then bI ((whoN v (vRight v) 0).testBit i) else votF v (whoN v (vRight v) 0) i
theorem tellsOf_C {fu : Nat} (hf : 1000 ≤ fu) {M : Mm} {v : NV} (hv : okV v) (hc : CV v M) {i w : Nat} (hi : i < vMen v) (hw : w < 6) : F_X2_tellsOf fu M 24 (nI i) (nI w) = some (tlF v i w) := by
  have hm := hv.1
  have hs := whoN_lt hv (vRight v) 0
  obtain ⟨c1, c2, c3, c4⟩ := hc.2.2.2.2 i hi
  unfold F_X2_tellsOf tlF
  rw [show 24 + 2 = 26 from rfl, show 24 + 3 = 27 from rfl, show 24 + 4 = 28 from rfl, show 24 + 5 = 29 from rfl, rd26 (by omega), rd27 (by omega), rd28 (by omega), rd29 (by omega), ob1_s, ob1_s, ob1_s, ob1_s, c1, c2, c3, c4, votersR_C hf hv hc (by omega), ob1_s, isIn_C hs (by omega), ob1_s, voteNow_C hf hv hc hi, ob1_s]
  have hcase : w = 0 ∨ w = 1 ∨ w = 2 ∨ w = 3 ∨ w = 4 ∨ w = 5 := by omega
  rcases hcase with rfl | rfl | rfl | rfl | rfl | rfl
  · rfl
  · rfl
  · rfl
  · rfl
  · cases (whoN v (vRight v) 0).testBit i <;> rfl
  · rfl
def grdP (v : NV) (i N : Nat) : Nat → Bool := fun s => decide (0 < vBulk v i - melF v (vKind v i) s 0 N)
theorem leastGuard_C9 {fu : Nat} (hf : 1000 ≤ fu) {M : Mm} {v : NV} (hv : okV v) (hc : CV v M) {i N : Nat} (hi : i < vMen v) (hN : N ≤ 60) : ∀ (m n s : Nat), s + m = 10 → m < n → F_X2_leastGuard_9 fu M n 24 (nI i) (nI N) (nI s) = some (srch (grdP v i N) m s) := by
  intro m
  obtain ⟨h1, h2, h3, h4⟩ := hv.2.2.2.2.2 i hi
  induction m with
  | zero =>
    intro n s hs hn
    obtain ⟨n, rfl⟩ : ∃ q, n = q + 1 := ⟨n - 1, by omega⟩
    unfold F_X2_leastGuard_9
    rw [L9, if_pos (nI_lt (by omega) (by omega))]
    rfl
  | succ m ih =>
    intro n s hs hn
    obtain ⟨n, rfl⟩ : ∃ q, n = q + 1 := ⟨n - 1, by omega⟩
    unfold F_X2_leastGuard_9 srch
    rw [L9, if_neg (nI_nlt (by omega) (by omega)), bulkBy_C hf hv hc hi (by omega) hN, ob1_s, nI_1, ih n (s + 1) (by omega) (by omega)]
    by_cases h : 0 < vBulk v i - melF v (vKind v i) s 0 N
    · rw [if_neg (nI_nle h (by omega)), if_pos (show grdP v i N s = true from decide_eq_true h)]
    · rw [if_pos (le00 (by omega)), if_neg (show ¬ grdP v i N s = true from fun q => h (of_decide_eq_true q))]
theorem leastGuard_C {fu : Nat} (hf : 1000 ≤ fu) {M : Mm} {v : NV} (hv : okV v) (hc : CV v M) {i N : Nat} (hi : i < vMen v) (hN : N ≤ 60) : F_X2_leastGuard fu M 24 (nI i) (nI N) = some (srch (grdP v i N) (10 - vShade v i) (vShade v i)) := by
  have hm := hv.1
  obtain ⟨h1, h2, h3, h4⟩ := hv.2.2.2.2.2 i hi
  unfold F_X2_leastGuard
  rw [show 24 + 5 = 29 from rfl, rd29 (by omega), ob1_s, (hc.2.2.2.2 i hi).2.2.2, leastGuard_C9 hf hv hc hi hN (10 - vShade v i) fu _ (by omega) (by omega)]
/-- the nearest to s with p, the lesser first -/
def nsC (p : Nat → Bool) (s : Nat) : Nat → Nat → Int32
  | 0, _ => -9
  | m + 1, f => if f ≤ s ∧ p (s - f) = true then nI (s - f) else if s + f ≤ 9 ∧ p (s + f) = true then nI (s + f) else nsC p s m (f + 1)
def rgtP (v : NV) (i N : Nat) : Nat → Bool := fun s => hasR (vKind v i) (vBulk v i - melF v (vKind v i) s 0 N) (vRight v)
theorem rgt_C {fu : Nat} (hf : 1000 ≤ fu) {M : Mm} {v : NV} (hv : okV v) (hc : CV v M) {i s N : Nat} (hi : i < vMen v) (hs : s ≤ 9) (hN : N ≤ 60) : F_X2_hasRightBy fu M 24 (nI i) (nI s) (nI N) = some (bI (rgtP v i N s)) := hasRightBy_C hf hv hc hi hs hN
theorem nearestShade_C13 {fu : Nat} (hf : 1000 ≤ fu) {M : Mm} {v : NV} (hv : okV v) (hc : CV v M) {i N s : Nat} (hi : i < vMen v) (hN : N ≤ 60) (hs : s ≤ 9) {b : Bool} : ∀ (m n f : Nat), f + m = 10 → m < n → F_X2_nearestShade_13 fu M n 24 (nI i) (nI N) (bI b) (nI s) (nI f) = some (nsC (fun x => rgtP v i N x == b) s m f) := by
  intro m
  induction m with
  | zero =>
    intro n f hs hn
    obtain ⟨n, rfl⟩ : ∃ q, n = q + 1 := ⟨n - 1, by omega⟩
    unfold F_X2_nearestShade_13
    rw [L9, if_pos (nI_lt (by omega) (by omega))]
    rfl
  | succ m ih =>
    intro n f hf1 hn
    obtain ⟨n, rfl⟩ : ∃ q, n = q + 1 := ⟨n - 1, by omega⟩
    have ih1 := ih n (f + 1) (by omega) (by omega)
    have hbb : ∀ a c : Bool, (bI a = bI c) = ((a == c) = true) := by decide
    have e49 : F_X2_nearestShade_49 fu M (F_X2_nearestShade_13 fu M n) 24 (nI i) (nI N) (bI b) (nI s) (nI f) = some (if s + f ≤ 9 ∧ (rgtP v i N (s + f) == b) = true then nI (s + f) else nsC (fun x => rgtP v i N x == b) s m (f + 1)) := by
      unfold F_X2_nearestShade_49
      rw [L9, nI_add, nI_1, ih1]
      by_cases h9 : s + f ≤ 9
      · rw [if_neg (nI_nlt h9 (by omega)), rgt_C hf hv hc hi h9 hN, ob1_s]
        by_cases hp : (rgtP v i N (s + f) == b) = true
        · rw [if_pos (show bI (rgtP v i N (s + f)) = bI b by rw [hbb]; exact hp), if_pos ⟨h9, hp⟩]
        · rw [if_neg (show ¬ bI (rgtP v i N (s + f)) = bI b by rw [hbb]; exact hp), if_neg (fun q => hp q.2)]
      · rw [if_pos (nI_lt (by omega) (by omega)), if_neg (fun q => h9 q.1)]
    unfold F_X2_nearestShade_13 nsC
    rw [e49, L9, if_neg (nI_nlt (by omega) (by omega))]
    by_cases h0 : f ≤ s
    · rw [pk_sub h0, if_neg (nI_pos (by omega)), rgt_C hf hv hc hi (by omega) hN, ob1_s]
      by_cases hp : (rgtP v i N (s - f) == b) = true
      · rw [if_pos (show bI (rgtP v i N (s - f)) = bI b by rw [hbb]; exact hp), if_pos (show f ≤ s ∧ (rgtP v i N (s - f) == b) = true from ⟨h0, hp⟩)]
      · rw [if_neg (show ¬ bI (rgtP v i N (s - f)) = bI b by rw [hbb]; exact hp), if_neg (show ¬ (f ≤ s ∧ (rgtP v i N (s - f) == b) = true) from fun q => hp q.2)]
    · rw [if_pos (pk_sneg (by omega) (by omega)), if_neg (show ¬ (f ≤ s ∧ (rgtP v i N (s - f) == b) = true) from fun q => h0 q.1)]
theorem nearestShade_C {fu : Nat} (hf : 1000 ≤ fu) {M : Mm} {v : NV} (hv : okV v) (hc : CV v M) {i N : Nat} (hi : i < vMen v) (hN : N ≤ 60) (b : Bool) : F_X2_nearestShade fu M 24 (nI i) (nI N) (bI b) = some (nsC (fun x => rgtP v i N x == b) (vShade v i) 10 0) := by
  have hm := hv.1
  obtain ⟨h1, h2, h3, h4⟩ := hv.2.2.2.2.2 i hi
  unfold F_X2_nearestShade
  rw [show 24 + 5 = 29 from rfl, rd29 (by omega), ob1_s, (hc.2.2.2.2 i hi).2.2.2]
  exact nearestShade_C13 hf hv hc hi hN h4 10 fu 0 (by omega) (by omega)
def sumB (v : NV) : Nat → Nat
  | 0 => 0
  | n + 1 => sumB v n + vBulk v n
theorem bulkOfAll_C4 {fu : Nat} {M : Mm} {v : NV} (hv : okV v) (hc : CV v M) : ∀ (m n i : Nat), i + m = vMen v → m < n → F_X2_bulkOfAll_4 fu M n 24 (nI (sumB v i)) (nI i) = some (nI (sumB v (vMen v))) := by
  intro m
  have hm := hv.1
  induction m with
  | zero =>
    intro n i hi hn
    obtain ⟨n, rfl⟩ : ∃ q, n = q + 1 := ⟨n - 1, by omega⟩
    unfold F_X2_bulkOfAll_4
    rw [hc.1, if_pos (nI_le (by omega) (by omega)), show i = vMen v by omega]
  | succ m ih =>
    intro n i hi hn
    obtain ⟨n, rfl⟩ : ∃ q, n = q + 1 := ⟨n - 1, by omega⟩
    unfold F_X2_bulkOfAll_4
    rw [hc.1, if_neg (nI_ge (by omega) (by omega)), show 24 + 4 = 28 from rfl, rd28 (by omega), ob1_s, (hc.2.2.2.2 i (by omega)).2.2.1, nI_add, nI_1]
    exact ih n (i + 1) (by omega) (by omega)
theorem bulkOfAll_C {fu : Nat} (hf : 1000 ≤ fu) {M : Mm} {v : NV} (hv : okV v) (hc : CV v M) : F_X2_bulkOfAll fu M 24 = some (nI (sumB v (vMen v))) :=
  bulkOfAll_C4 hv hc (vMen v) fu 0 (by omega) (by have := hv.1; omega)
theorem allBulks_X4 {fu : Nat} {M : Mm} {v : NV} (hv : okV v) (hc : XV v M) : ∀ (m n i : Nat), i + m = vMen v → m < n → F_X7_allBulks_4 fu M n (nI (sumB v i)) (nI i) = some (nI (sumB v (vMen v))) := by
  intro m
  have hm := hv.1
  induction m with
  | zero =>
    intro n i hi hn
    obtain ⟨n, rfl⟩ : ∃ q, n = q + 1 := ⟨n - 1, by omega⟩
    unfold F_X7_allBulks_4
    rw [hc.1, if_pos (nI_le (by omega) (by omega)), show i = vMen v by omega]
  | succ m ih =>
    intro n i hi hn
    obtain ⟨n, rfl⟩ : ∃ q, n = q + 1 := ⟨n - 1, by omega⟩
    unfold F_X7_allBulks_4
    rw [hc.1, if_neg (nI_ge (by omega) (by omega)), xr94 (by omega), clN (by omega), (hc.2.2.2.2 i (by omega)).2.2.1, nI_add, nI_1]
    exact ih n (i + 1) (by omega) (by omega)
theorem allBulks_X {fu : Nat} (hf : 1000 ≤ fu) {M : Mm} {v : NV} (hv : okV v) (hc : XV v M) : F_X7_allBulks fu M = some (nI (sumB v (vMen v))) :=
  allBulks_X4 hv hc (vMen v) fu 0 (by omega) (by have := hv.1; omega)
def hatB (k : Nat) : Bool := k == 1 || k == 4 || k == 5
theorem kinds5 : ∀ k, k < 6 → ∀ w, w < 6 → (F_X6_isOfKind 0 M0 (nI k) (nI w) = some (bI (k == w || (w == 1 && hatB k)))) ∧ F_X7_isHatted 0 M0 (nI k) = some (bI (hatB k)) := by
  intro k hk w hw
  have h1 : k = 0 ∨ k = 1 ∨ k = 2 ∨ k = 3 ∨ k = 4 ∨ k = 5 := by omega
  have h2 : w = 0 ∨ w = 1 ∨ w = 2 ∨ w = 3 ∨ w = 4 ∨ w = 5 := by omega
  unfold F_X6_isOfKind F_X7_isHatted
  rcases h1 with rfl | rfl | rfl | rfl | rfl | rfl <;> rcases h2 with rfl | rfl | rfl | rfl | rfl | rfl <;> decide
theorem isOfKind_C {fu : Nat} {M : Mm} {k w : Nat} (hk : k ≤ 5) (hw : w ≤ 5) : F_X6_isOfKind fu M (nI k) (nI w) = some (bI (k == w || (w == 1 && hatB k))) := (kinds5 k (by omega) w (by omega)).1
theorem isHatted_X {fu : Nat} {M : Mm} {k : Nat} (hk : k ≤ 5) : F_X7_isHatted fu M (nI k) = some (bI (hatB k)) := (kinds5 k (by omega) 0 (by omega)).2
def hatP (v : NV) : Nat → Bool := fun i => hatB (vKind v i)
theorem hattedOnes_C4 {fu : Nat} {M : Mm} {v : NV} (hv : okV v) (hc : CV v M) : ∀ (m n i : Nat), i + m = vMen v → m < n → F_X2_hattedOnes_4 fu M n 24 (nI (cnt (hatP v) i)) (nI i) = some (nI (cnt (hatP v) (vMen v))) := by
  intro m
  have hm := hv.1
  induction m with
  | zero =>
    intro n i hi hn
    obtain ⟨n, rfl⟩ : ∃ q, n = q + 1 := ⟨n - 1, by omega⟩
    unfold F_X2_hattedOnes_4
    rw [hc.1, if_pos (nI_le (by omega) (by omega)), show i = vMen v by omega]
  | succ m ih =>
    intro n i hi hn
    obtain ⟨n, rfl⟩ : ∃ q, n = q + 1 := ⟨n - 1, by omega⟩
    have ih1 := ih n (i + 1) (by omega) (by omega)
    obtain ⟨h1, h2, h3, h4⟩ := hv.2.2.2.2.2 i (by omega)
    have hk := isOfKind_C (fu := fu) (M := M) (k := vKind v i) (w := 1) h1 (by decide)
    have h01 : (vKind v i == 1 || (1 == 1 && hatB (vKind v i))) = hatP v i := by
      unfold hatP hatB
      cases (vKind v i == 1) <;> rfl
    rw [h01] at hk
    unfold F_X2_hattedOnes_4
    rw [hc.1, if_neg (nI_ge (by omega) (by omega)), show 24 + 2 = 26 from rfl, rd26 (by omega), ob1_s, (hc.2.2.2.2 i (by omega)).1, L1, hk, ob1_s, nI_add, nI_add]
    by_cases hb : hatP v i = true
    · rw [cnt_t hb] at ih1
      rw [hb, if_neg (by decide)]
      exact ih1
    · rw [cnt_f hb] at ih1
      rw [Bool.eq_false_iff.mpr hb, if_pos (by decide)]
      exact ih1
theorem hattedOnes_C {fu : Nat} (hf : 1000 ≤ fu) {M : Mm} {v : NV} (hv : okV v) (hc : CV v M) : F_X2_hattedOnes fu M 24 = some (nI (cnt (hatP v) (vMen v))) :=
  hattedOnes_C4 hv hc (vMen v) fu 0 (by omega) (by have := hv.1; omega)
theorem hatted_X4 {fu : Nat} {M : Mm} {v : NV} (hv : okV v) (hc : XV v M) : ∀ (m n i : Nat), i + m = vMen v → m < n → F_X7_hatted_4 fu M n (nI (cnt (hatP v) i)) (nI i) = some (nI (cnt (hatP v) (vMen v))) := by
  intro m
  have hm := hv.1
  induction m with
  | zero =>
    intro n i hi hn
    obtain ⟨n, rfl⟩ : ∃ q, n = q + 1 := ⟨n - 1, by omega⟩
    unfold F_X7_hatted_4
    rw [hc.1, if_pos (nI_le (by omega) (by omega)), show i = vMen v by omega]
  | succ m ih =>
    intro n i hi hn
    obtain ⟨n, rfl⟩ : ∃ q, n = q + 1 := ⟨n - 1, by omega⟩
    have ih1 := ih n (i + 1) (by omega) (by omega)
    obtain ⟨h1, h2, h3, h4⟩ := hv.2.2.2.2.2 i (by omega)
    unfold F_X7_hatted_4
    rw [hc.1, if_neg (nI_ge (by omega) (by omega)), xr91 (by omega), clN (by omega), (hc.2.2.2.2 i (by omega)).1, isHatted_X h1, ob1_s, L1, nI_add, nI_add, L0, ad_z]
    by_cases hb : hatP v i = true
    · rw [cnt_t hb] at ih1
      rw [show hatB (vKind v i) = true from hb, if_neg (by decide)]
      exact ih1
    · rw [cnt_f hb] at ih1
      rw [show hatB (vKind v i) = false from Bool.eq_false_iff.mpr hb, if_pos (by decide)]
      exact ih1
theorem hatted_X {fu : Nat} (hf : 1000 ≤ fu) {M : Mm} {v : NV} (hv : okV v) (hc : XV v M) : F_X7_hatted fu M = some (nI (cnt (hatP v) (vMen v))) :=
  hatted_X4 hv hc (vMen v) fu 0 (by omega) (by have := hv.1; omega)
theorem foreseeMelted_C6 {fu : Nat} {v : NV} (hv : okV v) {k s : Nat} (hk : k ≤ 5) (hs : s ≤ 9) : ∀ (m n : Nat) (M : Mm) (d : Nat), d + m = 61 → m < n → CV v M → (∀ j, j < d → M.1 81 j = nI (melF v k s 0 j)) → ∃ M', CV v M' ∧ (∀ j, j < 61 → M'.1 81 j = nI (melF v k s 0 j)) ∧ F_X2_foreseeMelted_6 fu n M 24 (nI k) (nI s) 81 (nI (melF v k s 0 d)) (nI d) = some M' := by
  intro m
  have hday := hv.2.2.2.1
  induction m with
  | zero =>
    intro n M d hd hn hc h
    obtain ⟨n, rfl⟩ : ∃ q, n = q + 1 := ⟨n - 1, by omega⟩
    refine ⟨M, hc, fun j hj => h j (by omega), ?_⟩
    unfold F_X2_foreseeMelted_6
    rw [L60, if_pos (nI_lt (by omega) (by omega))]
  | succ m ih =>
    intro n M d hd hn hc h
    obtain ⟨n, rfl⟩ : ∃ q, n = q + 1 := ⟨n - 1, by omega⟩
    have hs1 := melF_s v k s d 0
    rw [Nat.zero_add] at hs1
    have hc1 : CV v (pI M 81 d (nI (melF v k s 0 d))) := hc.p (by omega)
    obtain ⟨M', a1, a2, a3⟩ := ih n (pI M 81 d (nI (melF v k s 0 d))) (d + 1) (by omega) (by omega) hc1 (fun j hj => by
      by_cases hjd : j = d
      · rw [hjd, pI_s]
      · rw [pI_n (Or.inr hjd)]
        exact h j (by omega))
    refine ⟨M', a1, a2, ?_⟩
    unfold F_X2_foreseeMelted_6
    rw [L60, if_neg (nI_nlt (by omega) (by omega)), wr81 (by omega), ob1_s, hc1.2.2.1, nI_add, mel_C hv hc1 hk hs (by omega), ob1_s, nI_add, nI_1, show mel (vSun v ((vDay v + d) % 8)) k s (vDay v + d) = melD v k s d from rfl, ← hs1]
    exact a3
theorem foreseeMelted_C {fu : Nat} (hf : 1000 ≤ fu) {M : Mm} {v : NV} (hv : okV v) (hc : CV v M) {k s : Nat} (hk : k ≤ 5) (hs : s ≤ 9) : ∃ M', CV v M' ∧ (∀ j, j < 61 → M'.1 81 j = nI (melF v k s 0 j)) ∧ F_X2_foreseeMelted fu M 24 (nI k) (nI s) 81 = some M' :=
  foreseeMelted_C6 hv hk hs 61 fu M 0 (by omega) (by omega) hc (fun j hj => by omega)
theorem foreseeVoters_C43 {fu : Nat} {v : NV} (hv : okV v) {r : Nat} (hr : 1 ≤ r) (hr2 : r ≤ 9) (k22 : Mm → Nat → Int32 → Nat → Int32 → Option Mm) {i : Nat} (hi : i < vMen v) : ∀ (m n : Nat) (M : Mm) (d : Nat), d + m = 61 → m < n → CV v M → (∀ j, j < 61 → M.1 81 j = nI (bset (whoF v r j) (if j < d then i + 1 else i))) → ∃ M', CV v M' ∧ (∀ j, j < 61 → M'.1 81 j = nI (bset (whoF v r j) (i + 1))) ∧ F_X2_foreseeVoters_43 fu k22 n M 24 (nI r) 81 (nI i) (nI (vBulk v i) - nI (melF v (vKind v i) (vShade v i) 0 d)) (nI d) = k22 M' 24 (nI r) 81 (nI (i + 1)) := by
  intro m
  have hm := hv.1
  have hday := hv.2.2.2.1
  obtain ⟨h1, h2, h3, h4⟩ := hv.2.2.2.2.2 i hi
  induction m with
  | zero =>
    intro n M d hd hn hc h
    obtain ⟨n, rfl⟩ : ∃ q, n = q + 1 := ⟨n - 1, by omega⟩
    refine ⟨M, hc, fun j hj => ?_, ?_⟩
    · rw [h j hj, if_pos (by omega)]
    unfold F_X2_foreseeVoters_43
    rw [L60, if_pos (nI_lt (by omega) (by omega)), nI_1]
  | succ m ih =>
    intro n M d hd hn hc h
    obtain ⟨n, rfl⟩ : ∃ q, n = q + 1 := ⟨n - 1, by omega⟩
    have hml := melF_le hv (vKind v i) (vShade v i) d 0
    have hs1 := melF_s v (vKind v i) (vShade v i) d 0
    rw [Nat.zero_add] at hs1
    have hw : whoF v r d i = hasR (vKind v i) (vBulk v i - melF v (vKind v i) (vShade v i) 0 d) r := rfl
    unfold F_X2_foreseeVoters_43
    rw [L60, if_neg (nI_nlt (by omega) (by omega)), hasRight_C hv hc hi (by omega) (by omega) hr hr2, ob1_s, ← hw]
    by_cases hb : whoF v r d i = true
    · have hset := bset_lt (whoF v r d) i
      have hd1 := h d (by omega)
      rw [if_neg (Nat.lt_irrefl d)] at hd1
      have hc1 : CV v (pI M 81 d (nI (bset (whoF v r d) (i + 1)))) := hc.p (by omega)
      obtain ⟨M', a1, a2, a3⟩ := ih n (pI M 81 d (nI (bset (whoF v r d) (i + 1)))) (d + 1) (by omega) (by omega) hc1 (fun j hj => by
        by_cases hjd : j = d
        · rw [hjd, pI_s, if_pos (by omega)]
        · rw [pI_n (Or.inr hjd), h j hj]
          by_cases hlt : j < d
          · rw [if_pos hlt, if_pos (by omega)]
          · rw [if_neg hlt, if_neg (by omega)])
      refine ⟨M', a1, a2, ?_⟩
      rw [hb, if_neg (by decide), rd81 (by omega), ob1_s, hd1, or_bit i (by omega) _ hset, wr81 (by omega), ob1_s, show bset (whoF v r d) i + 2 ^ i = bset (whoF v r d) (i + 1) by unfold bset; rw [hb]; cases i <;> simp [bset]]
      unfold F_X2_foreseeVoters_77
      rw [meltingIn_C hv hc1 hi (by omega), ob1_s, subsub, nI_1, ← hs1]
      exact a3
    · obtain ⟨M', a1, a2, a3⟩ := ih n M (d + 1) (by omega) (by omega) hc (fun j hj => by
        rw [h j hj]
        by_cases hlt : j < d
        · rw [if_pos hlt, if_pos (by omega)]
        · rw [if_neg hlt]
          by_cases hjd : j = d
          · rw [hjd, if_pos (by omega), show bset (whoF v r d) (i + 1) = bset (whoF v r d) i + (if whoF v r d i then 2 ^ i else 0) from rfl, if_neg hb, Nat.add_zero]
          · rw [if_neg (by omega)])
      refine ⟨M', a1, a2, ?_⟩
      rw [Bool.eq_false_iff.mpr hb, if_pos (by decide)]
      unfold F_X2_foreseeVoters_77
      rw [meltingIn_C hv hc hi (by omega), ob1_s, subsub, nI_1, ← hs1]
      exact a3
theorem foreseeVoters_C22 {fu : Nat} (hf : 1000 ≤ fu) {v : NV} (hv : okV v) {r : Nat} (hr : 1 ≤ r) (hr2 : r ≤ 9) : ∀ (m n : Nat) (M : Mm) (i : Nat), i + m = vMen v → m < n → CV v M → (∀ j, j < 61 → M.1 81 j = nI (bset (whoF v r j) i)) → ∃ M', CV v M' ∧ (∀ j, j < 61 → M'.1 81 j = nI (whoN v r j)) ∧ F_X2_foreseeVoters_22 fu n M 24 (nI r) 81 (nI i) = some M' := by
  intro m
  have hm := hv.1
  induction m with
  | zero =>
    intro n M i hi hn hc h
    obtain ⟨n, rfl⟩ : ∃ q, n = q + 1 := ⟨n - 1, by omega⟩
    refine ⟨M, hc, fun j hj => ?_, ?_⟩
    · rw [h j hj, show i = vMen v by omega]
      rfl
    unfold F_X2_foreseeVoters_22
    rw [hc.1, if_pos (nI_le (by omega) (by omega))]
  | succ m ih =>
    intro n M i hi hn hc h
    obtain ⟨n, rfl⟩ : ∃ q, n = q + 1 := ⟨n - 1, by omega⟩
    obtain ⟨M1, a1, a2, a3⟩ := foreseeVoters_C43 (fu := fu) hv hr hr2 (F_X2_foreseeVoters_22 fu n) (i := i) (by omega) 61 fu M 0 (by omega) (by omega) hc (fun j hj => by rw [h j hj, if_neg (by omega)])
    obtain ⟨M', b1, b2, b3⟩ := ih n M1 (i + 1) (by omega) (by omega) a1 a2
    refine ⟨M', b1, b2, ?_⟩
    rw [show melF v (vKind v i) (vShade v i) 0 0 = 0 from rfl, nI_sub0] at a3
    unfold F_X2_foreseeVoters_22
    rw [hc.1, if_neg (nI_ge (by omega) (by omega)), show 24 + 4 = 28 from rfl, rd28 (by omega), ob1_s, (hc.2.2.2.2 i (by omega)).2.2.1]
    exact a3.trans b3
theorem foreseeVoters_C2 {fu : Nat} (hf : 1000 ≤ fu) {v : NV} (hv : okV v) {r : Nat} (hr : 1 ≤ r) (hr2 : r ≤ 9) : ∀ (m n : Nat) (M : Mm) (d : Nat), d + m = 61 → m < n → CV v M → (∀ j, j < d → M.1 81 j = nI 0) → ∃ M', CV v M' ∧ (∀ j, j < 61 → M'.1 81 j = nI (whoN v r j)) ∧ F_X2_foreseeVoters_2 fu n M 24 (nI r) 81 (nI d) = some M' := by
  intro m
  induction m with
  | zero =>
    intro n M d hd hn hc h
    obtain ⟨n, rfl⟩ : ∃ q, n = q + 1 := ⟨n - 1, by omega⟩
    unfold F_X2_foreseeVoters_2
    rw [L60, if_pos (nI_lt (by omega) (by omega))]
    exact foreseeVoters_C22 hf hv hr hr2 (vMen v) fu M 0 (by omega) (by have := hv.1; omega) hc (fun j hj => h j (by omega))
  | succ m ih =>
    intro n M d hd hn hc h
    obtain ⟨n, rfl⟩ : ∃ q, n = q + 1 := ⟨n - 1, by omega⟩
    unfold F_X2_foreseeVoters_2
    rw [L60, if_neg (nI_nlt (by omega) (by omega)), wr81 (by omega), ob1_s, nI_1]
    exact ih n _ (d + 1) (by omega) (by omega) (hc.p (by omega)) (fun j hj => by
      by_cases hjd : j = d
      · rw [hjd, pI_s]; rfl
      · rw [pI_n (Or.inr hjd)]
        exact h j (by omega))
theorem foreseeVoters_C {fu : Nat} (hf : 1000 ≤ fu) {M : Mm} {v : NV} (hv : okV v) (hc : CV v M) {r : Nat} (hr : 1 ≤ r) (hr2 : r ≤ 9) : ∃ M', CV v M' ∧ (∀ j, j < 61 → M'.1 81 j = nI (whoN v r j)) ∧ F_X2_foreseeVoters fu M 24 (nI r) 81 = some M' :=
  foreseeVoters_C2 hf hv hr hr2 61 fu M 0 (by omega) (by omega) hc (fun j hj => by omega)
