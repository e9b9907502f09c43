/-! calls that read a north -/
theorem rng3 (x : Int32) {n : Nat} (hn : n < 2147483648) : (x < 0 ∨ nI n ≤ x) ∨ ∃ j, j < n ∧ x = nI j := by
  rcases pk_ix x (n := n) hn with h | h | h
  · exact Or.inl (Or.inl h)
  · exact Or.inl (Or.inr h)
  · exact Or.inr h
theorem I0 : (0 : Int64) = lN 0 := rfl
theorem I1 : (1 : Int64) = lN 1 := rfl
theorem I2 : (2 : Int64) = lN 2 := rfl
theorem I3 : (3 : Int64) = lN 3 := rfl
theorem I5 : (5 : Int64) = lN 5 := rfl
theorem I8 : (8 : Int64) = lN 8 := rfl
theorem I9 : (9 : Int64) = lN 9 := rfl
theorem I12 : (12 : Int64) = lN 12 := rfl
theorem I20 : (20 : Int64) = lN 20 := rfl
theorem I60 : (60 : Int64) = lN 60 := rfl
theorem I99 : (99 : Int64) = lN 99 := rfl
theorem Ibig : (2147483646 : Int64) = lN 2147483646 := rfl
theorem tl_lt {x : Int32} {n : Nat} (h : x < nI n) (hn : n < 2147483648) : x.toInt64 < lN n := by
  have h1 := Int32.lt_iff_toInt_lt.mp h
  rw [nI_toInt (by omega)] at h1
  rw [Int64.lt_iff_toInt_lt, Int32.toInt_toInt64, pk_lT (by omega)]
  exact h1
theorem tl_le {x : Int32} {n : Nat} (h : nI n ≤ x) (hn : n < 2147483648) : lN n ≤ x.toInt64 := by
  have h1 := Int32.le_iff_toInt_le.mp h
  rw [nI_toInt (by omega)] at h1
  rw [Int64.le_iff_toInt_le, Int32.toInt_toInt64, pk_lT (by omega)]
  exact h1
theorem in_lo {fu : Nat} {M : Mm} {x : Int32} {a b : Int64} {k : Nat} (h : x < nI k) (ha : a = lN k) (hk : k < 2147483648) : F_X7_in fu M x.toInt64 a b = some 0 := by
  subst ha
  unfold F_X7_in
  rw [if_pos ((lg_cmp_lt _ _).mpr (tl_lt h hk))]
theorem in_hi {fu : Nat} {M : Mm} {x : Int32} {a b : Int64} {n : Nat} (h : nI (n + 1) ≤ x) (hb : b = lN n) (hn : n < 2147483647) : F_X7_in fu M x.toInt64 a b = some 0 := by
  subst hb
  unfold F_X7_in
  have h1 : lN n < x.toInt64 := by
    have := tl_le h (by omega)
    rw [Int64.le_iff_toInt_le, pk_lT (by omega)] at this
    rw [Int64.lt_iff_toInt_lt, pk_lT (by omega)]
    omega
  rw [if_pos ((lg_cmp_gt _ _).mpr h1), ite_self]
theorem in_ok {fu : Nat} {M : Mm} {a b : Int64} {j k n : Nat} (h1 : k ≤ j) (h2 : j ≤ n) (ha : a = lN k) (hb : b = lN n) (hn : n < 2147483648) : F_X7_in fu M (nI j).toInt64 a b = some 1 := by
  subst ha hb
  unfold F_X7_in
  rw [nI_l (by omega), if_neg (fun q => by
    have := (lg_cmp_lt _ _).mp q
    rw [pk_lLT (by omega) (by omega)] at this
    omega), if_neg (fun q => by
    have := (lg_cmp_gt _ _).mp q
    rw [pk_lLT (by omega) (by omega)] at this
    omega)]
theorem in_no {fu : Nat} {M : Mm} {x : Int32} {b : Int64} {n : Nat} (h : x < 0 ∨ nI (n + 1) ≤ x) (hb : b = lN n) (hn : n < 2147483647) : F_X7_in fu M x.toInt64 (0 : Int64) b = some 0 := by
  rcases h with h | h
  · exact in_lo (k := 0) h rfl (by decide)
  · exact in_hi h hb hn
theorem isAhead_C0 {fu : Nat} {M : Mm} {x : Int32} (h : x < 0 ∨ nI 61 ≤ x) : F_X6_isAhead fu M x = some 0 := by
  unfold F_X6_isAhead
  rcases h with h | h
  · rw [if_pos h]
  · by_cases h0 : x < 0
    · rw [if_pos h0]
    · rw [if_neg h0, if_pos]
      have h1 := Int32.le_iff_toInt_le.mp h
      rw [nI_toInt (by decide)] at h1
      rw [Int32.lt_iff_toInt_lt, L60, nI_toInt (by decide)]
      omega
theorem isAhead_C1 {fu : Nat} {M : Mm} {j : Nat} (h : j < 61) : F_X6_isAhead fu M (nI j) = some 1 := by
  unfold F_X6_isAhead
  rw [if_neg (nI_pos (by omega)), L60, if_neg (nI_nlt (by omega) (by omega))]
theorem isAhead_X0 {fu : Nat} {M : Mm} {x : Int32} (h : x < 0 ∨ nI 61 ≤ x) : F_X7_isAhead fu M x = some 0 := by
  unfold F_X7_isAhead
  rw [in_no h I60 (by decide), ob1_s]
  rfl
theorem isAhead_X1 {fu : Nat} {M : Mm} {j : Nat} (h : j < 61) : F_X7_isAhead fu M (nI j) = some 1 := by
  unfold F_X7_isAhead
  rw [in_ok (k := 0) (n := 60) (by omega) (by omega) I0 I60 (by decide), ob1_s]
  rfl
theorem isMan_C0 {fu : Nat} {M : Mm} {v : NV} (hc : CV v M) {x : Int32} (h : x < 0 ∨ nI (vMen v) ≤ x) : F_X2_isMan fu M 24 x = some 0 := by
  unfold F_X2_isMan
  rw [hc.1]
  rcases h with h | h
  · rw [if_pos h]
  · rw [if_pos h, ite_self]
theorem isMan_C1 {fu : Nat} {M : Mm} {v : NV} (hv : okV v) (hc : CV v M) {i : Nat} (h : i < vMen v) : F_X2_isMan fu M 24 (nI i) = some 1 := by
  have hm := hv.1
  unfold F_X2_isMan
  rw [hc.1, if_neg (nI_pos (by omega)), if_neg (nI_ge h (by omega))]
theorem isMan_X0 {fu : Nat} {M : Mm} {v : NV} (hv : okV v) (hc : XV v M) {x : Int32} (h : x < 0 ∨ nI (vMen v) ≤ x) : F_X7_isMan fu M x = some 0 := by
  have hm := hv.1
  unfold F_X7_isMan
  rw [hc.1]
  by_cases h0 : vMen v = 0
  · rw [h0] at h ⊢
    have : F_X7_in fu M x.toInt64 (0 : Int64) (nI 0 - 1).toInt64 = some 0 := by
      unfold F_X7_in
      by_cases hx : x < 0
      · rw [if_pos ((lg_cmp_lt x.toInt64 0).mpr (tl_lt (n := 0) hx (by decide)))]
      · rw [if_pos (c := 0 < _), ite_self]
        rw [lg_cmp_gt, Int64.lt_iff_toInt_lt, Int32.toInt_toInt64, Int32.toInt_toInt64, show (nI 0 - 1 : Int32).toInt = -1 by decide +kernel]
        have := Int32.not_lt.mp hx
        rw [Int32.le_iff_toInt_le, show (0 : Int32).toInt = 0 from rfl] at this
        omega
    rw [this, ob1_s]
    rfl
  · obtain ⟨m, hme⟩ : ∃ m, vMen v = m + 1 := ⟨vMen v - 1, by omega⟩
    rw [hme] at h ⊢
    rw [nI_pred, in_no (n := m) h (nI_l (by omega)) (by omega), ob1_s]
    rfl
theorem isMan_X1 {fu : Nat} {M : Mm} {v : NV} (hv : okV v) (hc : XV v M) {i : Nat} (h : i < vMen v) : F_X7_isMan fu M (nI i) = some 1 := by
  have hm := hv.1
  unfold F_X7_isMan
  obtain ⟨m, hme⟩ : ∃ m, vMen v = m + 1 := ⟨vMen v - 1, by omega⟩
  rw [hc.1, hme, nI_pred, in_ok (k := 0) (n := m) (by omega) (by omega) I0 (nI_l (by omega)) (by omega), ob1_s]
  rfl
theorem Rel.v {M : Mm} (h : Rel M) : ∃ v, okV v ∧ CV v M ∧ XV v M := by
  obtain ⟨s, a, b, c, d⟩ := h.2.2.2
  exact ⟨cur s, a.v, b.cv, c.1⟩
/-- two calls that only answer -/
def Two (f g : Option Int32) : Prop := ∃ r, f = some r ∧ g = some r
def Two2 (f : Option (Int32 × Mm)) (g : Mm → Option (Int32 × Mm)) : Prop := ∃ r M1 M2, f = some (r, M1) ∧ g M1 = some (r, M2) ∧ Rel M2
theorem Two2.same {M : Mm} (h : Rel M) {f : Option (Int32 × Mm)} {g : Mm → Option (Int32 × Mm)} {r : Int32} (hf : f = some (r, M)) (hg : g M = some (r, M)) : Two2 f g := ⟨r, M, M, hf, hg, h⟩
theorem call_bulk {fu : Nat} (hf : 1000 ≤ fu) {M : Mm} (h : Rel M) (x y : Int32) : Two (F_X6_bulk fu M x y) (F_X7_bulk fu M x y) := by
  obtain ⟨v, hv, hc, hx⟩ := h.v
  have hm := hv.1
  unfold F_X6_bulk F_X7_bulk
  rcases rng3 x (n := vMen v) (by omega) with hi | ⟨i, hi, rfl⟩
  · rw [isMan_C0 hc hi, isMan_X0 hv hx hi]
    exact ⟨-1, rfl, rfl⟩
  · rw [isMan_C1 hv hc hi, isMan_X1 hv hx hi]
    rcases rng3 y (n := 61) (by omega) with hn | ⟨n, hn, rfl⟩
    · rw [isAhead_C0 hn, isAhead_X0 hn]
      exact ⟨-1, rfl, rfl⟩
    · rw [isAhead_C1 hn, isAhead_X1 hn, bulkIn_C hf hv hc hi (by omega), bulkThen_X hf hv hx hi (by omega)]
      exact ⟨_, rfl, rfl⟩
theorem call_gone {fu : Nat} (hf : 1000 ≤ fu) {M : Mm} (h : Rel M) (x : Int32) : Two (F_X6_gone fu M x) (F_X7_gone fu M x) := by
  obtain ⟨v, hv, hc, hx⟩ := h.v
  have hm := hv.1
  unfold F_X6_gone F_X7_gone
  rcases rng3 x (n := vMen v) (by omega) with hi | ⟨i, hi, rfl⟩
  · rw [isMan_C0 hc hi, isMan_X0 hv hx hi]
    exact ⟨-1, rfl, rfl⟩
  · rw [isMan_C1 hv hc hi, isMan_X1 hv hx hi, goneIn_C hf hv hc hi, goneIn_X hf hv hx hi]
    exact ⟨_, rfl, rfl⟩
theorem sunOn_C {fu : Nat} {M : Mm} {v : NV} (hc : CV v M) {d : Nat} (hd : d < 100) : F_X2_sunOn fu M 24 (nI d) = some (nI (vSun v (d % 8))) := by
  have h8 : d % 8 < 8 := Nat.mod_lt _ (by decide)
  unfold F_X2_sunOn
  rw [show nI d - nI d / (8 : Int32) * (8 : Int32) = nI (d % 8) from nI_rem (d := 8) (by omega) (by decide) (by decide), show 24 + 1 = 25 from rfl, rd25 h8, ob1_s, hc.2.2.2.1 _ h8]
theorem men0_C {M : Mm} {v : NV} (hv : okV v) (hc : CV v M) : (M.1 24 0 = 0) = (vMen v = 0) := by
  have hm := hv.1
  rw [hc.1, L0, eqN (by omega) (by omega)]
theorem men0_X {M : Mm} {v : NV} (hv : okV v) (hc : XV v M) : (M.1 86 4 = 0) = (vMen v = 0) := by
  have hm := hv.1
  rw [hc.1, L0, eqN (by omega) (by omega)]
theorem men0_Ce {M : Mm} {v : NV} (hv : okV v) (hc : CV v M) {α : Type} {a b : α} : (if M.1 24 0 = 0 then a else b) = (if vMen v = 0 then a else b) := by
  by_cases h : vMen v = 0
  · rw [if_pos h, if_pos (by rw [men0_C hv hc]; exact h)]
  · rw [if_neg h, if_neg (by rw [men0_C hv hc]; exact h)]
theorem men0_Xe {M : Mm} {v : NV} (hv : okV v) (hc : XV v M) {α : Type} {a b : α} : (if M.1 86 4 = 0 then a else b) = (if vMen v = 0 then a else b) := by
  by_cases h : vMen v = 0
  · rw [if_pos h, if_pos (by rw [men0_X hv hc]; exact h)]
  · rw [if_neg h, if_neg (by rw [men0_X hv hc]; exact h)]
theorem whoN_lt2 (v : NV) (r n : Nat) : whoN v r n < 2 ^ vMen v := bset_lt _ _
theorem call_sun {fu : Nat} {M : Mm} (h : Rel M) (x : Int32) : Two (F_X6_sun fu M x) (F_X7_sun fu M x) := by
  obtain ⟨v, hv, hc, hx⟩ := h.v
  have hm := hv.1
  unfold F_X6_sun F_X7_sun
  rcases rng3 x (n := 100) (by omega) with hi | ⟨d, hd, rfl⟩
  · rw [in_no (n := 99) hi I99 (by decide), ob1_s]
    refine ⟨-1, ?_, rfl⟩
    rcases hi with hi | hi
    · rw [if_pos hi]
    · rw [if_neg (c := x ≤ 99), ite_self]
      intro q
      have h1 := Int32.le_iff_toInt_le.mp hi
      have h2 := Int32.le_iff_toInt_le.mp q
      rw [nI_toInt (by decide)] at h1
      rw [show (99 : Int32).toInt = 99 from rfl] at h2
      omega
  · have h8 : d % 8 < 8 := Nat.mod_lt _ (by decide)
    rw [in_ok (k := 0) (n := 99) (by omega) (by omega) I0 I99 (by decide), ob1_s, if_neg (nI_pos (by omega)), L99, if_pos (nI_le (by omega) (by omega)), sunOn_C hc hd, ob1_s, show nI d - nI d / (8 : Int32) * (8 : Int32) = nI (d % 8) from nI_rem (d := 8) (by omega) (by decide) (by decide), xr93 h8, clN (by omega), hx.2.2.2.1 _ h8, men0_Ce hv hc, men0_Xe hv hx]
    by_cases h0 : vMen v = 0
    · rw [if_pos h0]
      exact ⟨_, rfl, rfl⟩
    · rw [if_neg h0]
      exact ⟨_, rfl, rfl⟩
theorem bc_who {fu : Nat} {M : Mm} {v : NV} (hv : okV v) (r n : Nat) : F_J6_bitCount_0f7a4 fu M (nI (whoN v r n)) = some (nI (pc (whoN v r n))) := bc_C (whoN_lt hv r n)
theorem call_now {fu : Nat} (hf : 1000 ≤ fu) {M : Mm} (h : Rel M) : Two2 (F_X6_now fu M) (fun M1 => F_X7_now fu M1) := by
  obtain ⟨v, hv, hc, hx⟩ := h.v
  unfold F_X6_now F_X7_now
  by_cases h0 : vMen v = 0
  · exact Two2.same h (by rw [if_pos (by rw [men0_C hv hc]; exact h0)]) (by rw [if_pos (by rw [men0_X hv hx]; exact h0)])
  · have hx1 := hx.lo (tC_lo (nI (whoN v 1 0)) M)
    refine ⟨nI (vDay v), tC (nI (whoN v 1 0)) M, _, ?_, ?_, h.t (nI (whoN v 1 0))⟩
    · rw [if_neg (by rw [men0_C hv hc]; exact h0), living_C hf hv hc, ob1_s, lt1_s, pI_n (by omega), hc.2.2.1]
      rfl
    · show (if (tC (nI (whoN v 1 0)) M).1 86 4 = 0 then _ else _) = _
      rw [if_neg (by rw [men0_X hv hx1]; exact h0), here_X hf hv hx1, ob1_s, lt1_s, pI_n (by omega), hx1.2.2.1]
      rfl
theorem call_votes {fu : Nat} (hf : 1000 ≤ fu) {M : Mm} (h : Rel M) (x : Int32) : Two2 (F_X6_votes fu M x) (fun M1 => F_X7_votes fu M1 x) := by
  obtain ⟨v, hv, hc, hx⟩ := h.v
  unfold F_X6_votes F_X7_votes
  rcases rng3 x (n := 61) (by omega) with hn | ⟨n, hn, rfl⟩
  · exact Two2.same h (by rw [isAhead_C0 hn]; rfl) (by rw [isAhead_X0 hn]; rfl)
  · by_cases h0 : vMen v = 0
    · exact Two2.same h (by rw [isAhead_C1 hn, ob1_s, if_neg (by decide), if_pos (by rw [men0_C hv hc]; exact h0)]) (by rw [isAhead_X1 hn, ob1_s, if_neg (by decide), if_pos (by rw [men0_X hv hx]; exact h0)])
    · have hw := whoN_lt hv (vRight v) n
      have hz := zero_eq hv (s := whoN v (vRight v) n) (bset_lt _ _)
      have p1 := pc_le (whoN v (vRight v) n)
      have hx1 := hx.lo (tC_lo (nI (cnt (zeroF v (whoN v (vRight v) n)) (vMen v))) M)
      refine ⟨nI (pc (onesN v (whoN v (vRight v) n))), tC (nI (cnt (zeroF v (whoN v (vRight v) n)) (vMen v))) M, _, ?_, ?_, h.t (nI (cnt (zeroF v (whoN v (vRight v) n)) (vMen v)))⟩
      · rw [isAhead_C1 hn, ob1_s, if_neg (by decide), if_neg (by rw [men0_C hv hc]; exact h0), votersIn_C hf hv hc (by omega), ob1_s, onesAmong_C hf hv hc hw, ob1_s, bc_C (onesN_lt hv _), ob1_s, bc_C hw, ob1_s, pk_sub hz.2, ← hz.1]
        rfl
      · show (ob1 (F_X7_isAhead fu (tC _ M) (nI n)) _) = _
        rw [isAhead_X1 hn, ob1_s, if_neg (by decide), if_neg (by rw [men0_X hv hx1]; exact h0), whoThen_X hf hv hx1 (by omega), ob1_s, manyFor_X0 hf hv hx1 hw, ob1_s, lt1_s, manyFor_X1 hf hv (hx1.cg (fun c h1 h2 => (pI_off c (by omega)).1) (pI_n (by omega)) (pI_n (by omega)) (pI_n (by omega))) hw, ob1_s]
        rfl
def carP (v : NV) (b : Bool) : Nat → Bool := fun n => carr v (whoN v (vRight v) n) == b
theorem bIe (a c : Bool) : (bI a = bI c) = ((a == c) = true) := by revert a c; decide
theorem carried_C44 {fu : Nat} (hf : 1000 ≤ fu) {M : Mm} {v : NV} (hv : okV v) (hc : CV v M) (h : ∀ j, j < 61 → M.1 81 j = nI (whoN v (vRight v) j)) (b : Bool) : ∀ (m n d : Nat), d + m = 61 → m < n → F_X6_carried_44 fu n M (bI b) (nI d) = some (srch (carP v b) m d, M) := by
  intro m
  induction m with
  | zero =>
    intro n d hd hn
    obtain ⟨n, rfl⟩ : ∃ q, n = q + 1 := ⟨n - 1, by omega⟩
    unfold F_X6_carried_44
    rw [L60, if_pos (nI_lt (by omega) (by omega))]
    rfl
  | succ m ih =>
    intro n d hd hn
    obtain ⟨n, rfl⟩ : ∃ q, n = q + 1 := ⟨n - 1, by omega⟩
    have e75 : F_X6_carried_75 fu (F_X6_carried_44 fu n) M (bI b) (nI d) (bI (carr v (whoN v (vRight v) d))) (bI b) = some (srch (carP v b) (m + 1) d, M) := by
      unfold F_X6_carried_75 srch
      rw [nI_1, ih n (d + 1) (by omega) (by omega)]
      by_cases hb : (carr v (whoN v (vRight v) d) == b) = true
      · rw [if_pos (by rw [bIe]; exact hb), if_pos (show carP v b d = true from hb)]
      · rw [if_neg (by rw [bIe]; exact hb), if_neg (show ¬ carP v b d = true from hb)]
    unfold F_X6_carried_44
    rw [L60, if_neg (nI_nlt (by omega) (by omega)), rd81 (by omega), ob1_s, h d (by omega), isCarriedBy_C hf hv hc (whoN_lt hv _ _), ob1_s]
    cases b
    · rw [if_neg (by decide)]
      exact e75
    · rw [if_pos (by decide)]
      exact e75
theorem carried_X24 {fu : Nat} (hf : 1000 ≤ fu) {M : Mm} {v : NV} (hv : okV v) (hc : XV v M) (b : Bool) : ∀ (m n d : Nat), d + m = 61 → m < n → F_X7_carried_24 fu M n (bI b) (nI d) = some (srch (carP v b) m d) := by
  intro m
  induction m with
  | zero =>
    intro n d hd hn
    obtain ⟨n, rfl⟩ : ∃ q, n = q + 1 := ⟨n - 1, by omega⟩
    unfold F_X7_carried_24
    rw [L60, if_pos (nI_lt (by omega) (by omega))]
    rfl
  | succ m ih =>
    intro n d hd hn
    obtain ⟨n, rfl⟩ : ∃ q, n = q + 1 := ⟨n - 1, by omega⟩
    have e49 : F_X7_carried_49 fu M (F_X7_carried_24 fu M n) (bI b) (nI d) (bI (carr v (whoN v (vRight v) d))) (bI b) = some (srch (carP v b) (m + 1) d) := by
      unfold F_X7_carried_49 srch
      rw [nI_1, ih n (d + 1) (by omega) (by omega)]
      by_cases hb : (carr v (whoN v (vRight v) d) == b) = true
      · rw [if_pos (by rw [bIe]; exact hb), if_pos (show carP v b d = true from hb)]
      · rw [if_neg (by rw [bIe]; exact hb), if_neg (show ¬ carP v b d = true from hb)]
    unfold F_X7_carried_24
    rw [L60, if_neg (nI_nlt (by omega) (by omega)), whoThen_X hf hv hc (by omega), ob1_s, isCarried_X hf hv hc (whoN_lt2 _ _ _), ob1_s]
    cases b
    · rw [if_neg (by decide)]
      exact e49
    · rw [if_pos (by decide)]
      exact e49
theorem two_b {j : Nat} (h : j < 2) : ∃ b : Bool, nI j = bI b := by
  have : j = 0 ∨ j = 1 := by omega
  rcases this with rfl | rfl
  · exact ⟨false, rfl⟩
  · exact ⟨true, rfl⟩
theorem not01 {x : Int32} (h : x < 0 ∨ nI 2 ≤ x) : ¬ x = 0 ∧ ¬ x = 1 := by
  constructor
  · rintro rfl
    revert h
    decide
  · rintro rfl
    revert h
    decide
theorem in01_X {fu : Nat} {M : Mm} (b : Bool) : F_X7_in fu M (bI b).toInt64 (0 : Int64) (1 : Int64) = some 1 := by
  cases b
  · exact in_ok (j := 0) (k := 0) (n := 1) (by omega) (by omega) I0 I1 (by decide)
  · exact in_ok (j := 1) (k := 0) (n := 1) (by omega) (by omega) I0 I1 (by decide)
/-- a class call that leaves a memory, a reference call that only answers -/
def Two1 (f : Option (Int32 × Mm)) (g : Mm → Option Int32) : Prop := ∃ r M1, f = some (r, M1) ∧ g M1 = some r ∧ Rel M1
def TwoR (f : Option Int32) (g : Option (Int32 × Mm)) : Prop := ∃ r M1, f = some r ∧ g = some (r, M1) ∧ Rel M1
theorem call_carried {fu : Nat} (hf : 1000 ≤ fu) {M : Mm} (h : Rel M) (x : Int32) : Two1 (F_X6_carried fu M x) (fun M1 => F_X7_carried fu M1 x) := by
  obtain ⟨v, hv, hc, hx⟩ := h.v
  unfold F_X6_carried F_X7_carried
  rcases rng3 x (n := 2) (by omega) with hn | ⟨n, hn, rfl⟩
  · obtain ⟨h0, h1⟩ := not01 hn
    exact ⟨-1, M, by rw [if_neg h0, if_neg h1], by dsimp only; rw [in_no (n := 1) hn I1 (by decide)]; rfl, h⟩
  · obtain ⟨b, hb⟩ := two_b hn
    rw [hb, show (if bI b = 0 then F_X6_carried_11 fu M (bI b) else if bI b = 1 then F_X6_carried_11 fu M (bI b) else some (-1, M)) = F_X6_carried_11 fu M (bI b) by cases b <;> rfl]
    unfold F_X6_carried_11
    by_cases h0 : vMen v = 0
    · exact ⟨-4, M, by rw [if_pos (by rw [men0_C hv hc]; exact h0)], by dsimp only; rw [in01_X, ob1_s, if_neg (by decide), if_pos (by rw [men0_X hv hx]; exact h0)], h⟩
    · obtain ⟨M3, a1, a2, a3⟩ := foreseeVoters_C hf hv hc (hv.2.1 (by omega)) hv.2.2.1
      have o := fr_X2_foreseeVoters a3
      have hx1 := hx.lo (Lo.of o fun x j q => by show x < 86; have : x = 81 := q; omega)
      refine ⟨srch (carP v b) 61 0, M3, ?_, ?_, h.out o fun x j q => by have : x = 81 := q; unfold sT sR sX sN; omega⟩
      · rw [if_neg (by rw [men0_C hv hc]; exact h0), hc.2.1, a3, ob1_s]
        exact carried_C44 hf hv a1 a2 b 61 fu 0 (by omega) (by omega)
      · show (ob1 (F_X7_in fu M3 (bI b).toInt64 0 1) _) = _
        rw [in01_X, ob1_s, if_neg (by decide), if_neg (by rw [men0_X hv hx1]; exact h0)]
        exact carried_X24 hf hv hx1 b 61 fu 0 (by omega) (by omega)
def carQ (v : NV) : Nat → Bool := fun n => carr v (whoN v (vRight v) n)
theorem days_C44 {fu : Nat} (hf : 1000 ≤ fu) {M : Mm} {v : NV} (hv : okV v) (hc : CV v M) (h : ∀ j, j < 61 → M.1 81 j = nI (whoN v (vRight v) j)) {N : Nat} (hN : N ≤ 60) : ∀ (m n d a : Nat), d + m = N + 1 → m < n → F_X6_days_44 fu n M (nI N) (nI a) (nI d) = some (nI (a + cntF (carQ v) m d), M) := by
  intro m
  induction m with
  | zero =>
    intro n d a hd hn
    obtain ⟨n, rfl⟩ : ∃ q, n = q + 1 := ⟨n - 1, by omega⟩
    unfold F_X6_days_44
    rw [if_pos (nI_lt (by omega) (by omega))]
    rfl
  | succ m ih =>
    intro n d a hd hn
    obtain ⟨n, rfl⟩ : ∃ q, n = q + 1 := ⟨n - 1, by omega⟩
    unfold F_X6_days_44 cntF
    rw [if_neg (nI_nlt (by omega) (by omega)), rd81 (by omega), ob1_s, h d (by omega), isCarriedBy_C hf hv hc (whoN_lt hv _ _), ob1_s, nI_1, nI_1, ih n (d + 1) _ (by omega) (by omega), ih n (d + 1) _ (by omega) (by omega), show carr v (whoN v (vRight v) d) = carQ v d from rfl]
    by_cases hb : carQ v d = true
    · rw [hb, if_neg (by decide), if_pos rfl, Nat.add_assoc]
    · rw [Bool.eq_false_iff.mpr hb, if_pos (by decide), if_neg (by decide), Nat.zero_add]
theorem days_X23 {fu : Nat} (hf : 1000 ≤ fu) {M : Mm} {v : NV} (hv : okV v) (hc : XV v M) {N : Nat} (hN : N ≤ 60) : ∀ (m n d a : Nat), d + m = N + 1 → m < n → F_X7_days_23 fu M n (nI N) (nI a) (nI d) = some (nI (a + cntF (carQ v) m d)) := by
  intro m
  induction m with
  | zero =>
    intro n d a hd hn
    obtain ⟨n, rfl⟩ : ∃ q, n = q + 1 := ⟨n - 1, by omega⟩
    unfold F_X7_days_23
    rw [if_pos (nI_lt (by omega) (by omega))]
    rfl
  | succ m ih =>
    intro n d a hd hn
    obtain ⟨n, rfl⟩ : ∃ q, n = q + 1 := ⟨n - 1, by omega⟩
    unfold F_X7_days_23 cntF
    rw [if_neg (nI_nlt (by omega) (by omega)), whoThen_X hf hv hc (by omega), ob1_s, isCarried_X hf hv hc (whoN_lt2 _ _ _), ob1_s, nI_1, nI_1, L0, ad_z, ih n (d + 1) _ (by omega) (by omega), ih n (d + 1) _ (by omega) (by omega), show carr v (whoN v (vRight v) d) = carQ v d from rfl]
    by_cases hb : carQ v d = true
    · rw [hb, if_neg (by decide), if_pos rfl, Nat.add_assoc]
    · rw [Bool.eq_false_iff.mpr hb, if_pos (by decide), if_neg (by decide), Nat.zero_add]
theorem call_days {fu : Nat} (hf : 1000 ≤ fu) {M : Mm} (h : Rel M) (x : Int32) : Two1 (F_X6_days fu M x) (fun M1 => F_X7_days fu M1 x) := by
  obtain ⟨v, hv, hc, hx⟩ := h.v
  unfold F_X6_days F_X7_days
  rcases rng3 x (n := 61) (by omega) with hn | ⟨n, hn, rfl⟩
  · exact ⟨-1, M, by rw [isAhead_C0 hn]; rfl, by dsimp only; rw [isAhead_X0 hn]; rfl, h⟩
  · by_cases h0 : vMen v = 0
    · exact ⟨-4, M, by rw [isAhead_C1 hn, ob1_s, if_neg (by decide), if_pos (by rw [men0_C hv hc]; exact h0)], by dsimp only; rw [isAhead_X1 hn, ob1_s, if_neg (by decide), if_pos (by rw [men0_X hv hx]; exact h0)], h⟩
    · obtain ⟨M3, a1, a2, a3⟩ := foreseeVoters_C hf hv hc (hv.2.1 (by omega)) hv.2.2.1
      have o := fr_X2_foreseeVoters a3
      have hx1 := hx.lo (Lo.of o fun x j q => by show x < 86; have : x = 81 := q; omega)
      have e1 := days_C44 hf hv a1 a2 (N := n) (by omega) (n + 1) fu 0 0 (by omega) (by omega)
      have e2 := days_X23 hf hv hx1 (N := n) (by omega) (n + 1) fu 0 0 (by omega) (by omega)
      refine ⟨nI (0 + cntF (carQ v) (n + 1) 0), M3, ?_, ?_, h.out o fun x j q => by have : x = 81 := q; unfold sT sR sX sN; omega⟩
      · rw [isAhead_C1 hn, ob1_s, if_neg (by decide), if_neg (by rw [men0_C hv hc]; exact h0), hc.2.1, a3, ob1_s]
        exact e1
      · show (ob1 (F_X7_isAhead fu M3 (nI n)) _) = _
        rw [isAhead_X1 hn, ob1_s, if_neg (by decide), if_neg (by rw [men0_X hv hx1]; exact h0)]
        exact e2
theorem srch_c (p : Nat → Bool) : ∀ m d, srch p m d = -9 ∨ ∃ j, d ≤ j ∧ j < d + m ∧ srch p m d = nI j := by
  intro m
  induction m with
  | zero => intro d; exact Or.inl rfl
  | succ m ih =>
    intro d
    unfold srch
    by_cases h : p d = true
    · rw [if_pos h]
      exact Or.inr ⟨d, Nat.le_refl _, by omega, rfl⟩
    · rw [if_neg h]
      rcases ih (d + 1) with h1 | ⟨j, h1, h2, h3⟩
      · exact Or.inl h1
      · exact Or.inr ⟨j, by omega, by omega, h3⟩
theorem widow_X18 {fu : Nat} (hf : 1000 ≤ fu) {M : Mm} {v : NV} (hv : okV v) (hx : XV v M) {n i : Nat} {a b : Int32} (hi : i < vMen v) : F_X7_widow_18 fu (n + 1) M a b (nI i) = (if srch (goneP v i) 61 0 ≤ 0 then F_X7_widow_18 fu n M a b (nI (i + 1)) else if b ≤ srch (goneP v i) 61 0 then F_X7_widow_18 fu n M a b (nI (i + 1)) else F_X7_widow_18 fu n M (nI i) (srch (goneP v i) 61 0) (nI (i + 1))) := by
  have hm := hv.1
  have x48 : ∀ r : Int32, F_X7_widow_48 fu (F_X7_widow_18 fu n) M a b (nI i) r = F_X7_widow_18 fu n M a b (nI (i + 1)) := fun r => by
    unfold F_X7_widow_48 F_X7_widow_49 F_X7_widow_61
    rw [if_pos rfl, if_pos rfl, nI_1]
  have x49 : ∀ r : Int32, F_X7_widow_49 fu (F_X7_widow_18 fu n) M a b (nI i) r 1 = F_X7_widow_18 fu n M (nI i) r (nI (i + 1)) := fun r => by
    unfold F_X7_widow_49 F_X7_widow_61
    rw [if_neg (by decide), if_neg (by decide), nI_1]
  rw [F_X7_widow_18, hx.1, if_neg (nI_ge (by omega) (by omega)), goneIn_X hf hv hx hi, ob1_s, x48, x49]
/-- who is gone first: on whom it stands, and when -/
theorem widow_L {fu : Nat} (hf : 1000 ≤ fu) {M : Mm} {v : NV} (hv : okV v) (hc : CV v M) : ∀ (m n : Nat) (i : Nat) (cw cs xw xs : Int32), i + m = vMen v → m < n → ((cw = -9 ∧ xw = -9 ∧ cs = nI 61 ∧ xs = nI 1000000) ∨ (∃ w s, w < 6 ∧ cw = nI w ∧ xw = nI w ∧ s < 61 ∧ cs = nI s ∧ xs = nI s)) → (F_X6_widow_21 fu n M cw cs (nI i) = some (-9, M) ∧ ∀ MX, XV v MX → F_X7_widow_18 fu n MX xw xs (nI i) = some (-9, pI MX 86 16 (MX.1 86 16))) ∨ ∃ w s : Nat, F_X6_widow_21 fu n M cw cs (nI i) = some (nI w, tC (nI s) M) ∧ ∀ MX, XV v MX → F_X7_widow_18 fu n MX xw xs (nI i) = some (nI w, tX (nI s) MX) := by
  intro m
  have hm := hv.1
  induction m with
  | zero =>
    intro n i cw cs xw xs hi hn hr
    obtain ⟨n, rfl⟩ : ∃ q, n = q + 1 := ⟨n - 1, by omega⟩
    have hw : ∀ MX, XV v MX → F_X7_widow_18 fu (n + 1) MX xw xs (nI i) = (if xw = -9 then some (xw, pI MX 86 16 (MX.1 86 16)) else some (xw, pI MX 86 16 xs)) := fun MX hx => by
      rw [F_X7_widow_18, hx.1, if_pos (nI_le (by omega) (by omega))]
      rfl
    unfold F_X6_widow_21
    rw [hc.1, if_pos (nI_le (by omega) (by omega))]
    rcases hr with ⟨rfl, rfl, rfl, rfl⟩ | ⟨w, s, hw1, rfl, rfl, hs, rfl, rfl⟩
    · exact Or.inl ⟨by rw [if_pos rfl], fun MX hx => by rw [hw MX hx, if_pos rfl]⟩
    · exact Or.inr ⟨w, s, by rw [if_neg (neg9' (by omega))]; rfl, fun MX hx => by rw [hw MX hx, if_neg (neg9' (by omega))]; rfl⟩
  | succ m ih =>
    intro n i cw cs xw xs hi hn hr
    obtain ⟨n, rfl⟩ : ∃ q, n = q + 1 := ⟨n - 1, by omega⟩
    have go : ∀ (cw' cs' xw' xs' : Int32), ((cw' = -9 ∧ xw' = -9 ∧ cs' = nI 61 ∧ xs' = nI 1000000) ∨ (∃ w s, w < 6 ∧ cw' = nI w ∧ xw' = nI w ∧ s < 61 ∧ cs' = nI s ∧ xs' = nI s)) → F_X6_widow_21 fu (n + 1) M cw cs (nI i) = F_X6_widow_21 fu n M cw' cs' (nI (i + 1)) → (∀ MX, XV v MX → F_X7_widow_18 fu (n + 1) MX xw xs (nI i) = F_X7_widow_18 fu n MX xw' xs' (nI (i + 1))) → (F_X6_widow_21 fu (n + 1) M cw cs (nI i) = some (-9, M) ∧ ∀ MX, XV v MX → F_X7_widow_18 fu (n + 1) MX xw xs (nI i) = some (-9, pI MX 86 16 (MX.1 86 16))) ∨ ∃ w s : Nat, F_X6_widow_21 fu (n + 1) M cw cs (nI i) = some (nI w, tC (nI s) M) ∧ ∀ MX, XV v MX → F_X7_widow_18 fu (n + 1) MX xw xs (nI i) = some (nI w, tX (nI s) MX) := by
      intro cw' cs' xw' xs' hr' e1 e2
      rcases ih n (i + 1) cw' cs' xw' xs' (by omega) (by omega) hr' with ⟨a, b⟩ | ⟨w, s, a, b⟩
      · exact Or.inl ⟨e1.trans a, fun MX hx => (e2 MX hx).trans (b MX hx)⟩
      · exact Or.inr ⟨w, s, e1.trans a, fun MX hx => (e2 MX hx).trans (b MX hx)⟩
    have hc1 : F_X6_widow_21 fu (n + 1) M cw cs (nI i) = (if srch (goneP v i) 61 0 ≤ 0 then F_X6_widow_21 fu n M cw cs (nI (i + 1)) else if cs ≤ srch (goneP v i) 61 0 then F_X6_widow_21 fu n M cw cs (nI (i + 1)) else F_X6_widow_21 fu n M (nI i) (srch (goneP v i) 61 0) (nI (i + 1))) := by
      rw [F_X6_widow_21, hc.1, if_neg (nI_ge (by omega) (by omega)), goneIn_C hf hv hc (by omega), ob1_s, nI_1]
    have hx1 := fun (MX : Mm) (hx : XV v MX) => widow_X18 hf hv hx (n := n) (i := i) (a := xw) (b := xs) (by omega)
    rcases srch_c (goneP v i) 61 0 with hg | ⟨j, h1, h2, hg⟩
    · rw [hg] at hc1 hx1
      exact go _ _ _ _ hr (by rw [hc1, if_pos (by decide)]) (fun MX hx => by rw [hx1 MX hx, if_pos (by decide)])
    · rw [hg] at hc1 hx1
      by_cases hj : j = 0
      · subst hj
        exact go _ _ _ _ hr (by rw [hc1, if_pos (by decide)]) (fun MX hx => by rw [hx1 MX hx, if_pos (by decide)])
      · rcases hr with ⟨rfl, rfl, rfl, rfl⟩ | ⟨w, s, hw, rfl, rfl, hs, rfl, rfl⟩
        · exact go (nI i) (nI j) (nI i) (nI j) (Or.inr ⟨i, j, by omega, rfl, rfl, by omega, rfl, rfl⟩) (by rw [hc1, if_neg (nI_nle (by omega) (by omega)), if_neg (nI_ge (by omega) (by omega))]) (fun MX hx => by rw [hx1 MX hx, if_neg (nI_nle (by omega) (by omega)), if_neg (nI_ge (by omega) (by omega))])
        · by_cases hs : s ≤ j
          · exact go (nI w) (nI s) (nI w) (nI s) (Or.inr ⟨w, s, hw, rfl, rfl, by omega, rfl, rfl⟩) (by rw [hc1, if_neg (nI_nle (by omega) (by omega)), if_pos (nI_le hs (by omega))]) (fun MX hx => by rw [hx1 MX hx, if_neg (nI_nle (by omega) (by omega)), if_pos (nI_le hs (by omega))])
          · exact go (nI i) (nI j) (nI i) (nI j) (Or.inr ⟨i, j, by omega, rfl, rfl, by omega, rfl, rfl⟩) (by rw [hc1, if_neg (nI_nle (by omega) (by omega)), if_neg (nI_ge (by omega) (by omega))]) (fun MX hx => by rw [hx1 MX hx, if_neg (nI_nle (by omega) (by omega)), if_neg (nI_ge (by omega) (by omega))])
theorem pI_self {M : Mm} {x j : Nat} : pI M x j (M.1 x j) = M := by
  unfold pI
  refine Prod.ext (funext fun a => ?_) rfl
  by_cases h : a = x
  · subst h
    simp only [if_pos]
    funext k
    unfold upd
    split
    · next h => rw [h]
    · rfl
  · simp only [if_neg h]
theorem call_widow {fu : Nat} (hf : 1000 ≤ fu) {M : Mm} (h : Rel M) : Two2 (F_X6_widow fu M) (fun M1 => F_X7_widow fu M1) := by
  obtain ⟨v, hv, hc, hx⟩ := h.v
  have hm := hv.1
  unfold F_X6_widow F_X7_widow
  by_cases h0 : vMen v = 0
  · exact Two2.same h (by rw [if_pos (by rw [men0_C hv hc]; exact h0)]) (by rw [if_pos (by rw [men0_X hv hx]; exact h0)])
  · rw [if_neg (by rw [men0_C hv hc]; exact h0)]
    rcases widow_L hf hv hc (vMen v) fu 0 (-9) (nI 61) (-9) (nI 1000000) (by omega) (by omega) (Or.inl ⟨rfl, rfl, rfl, rfl⟩) with ⟨a, b⟩ | ⟨w, s, a, b⟩
    · refine ⟨-9, M, M, a, ?_, h⟩
      have b1 := b M hx
      rw [pI_self] at b1
      show (if M.1 86 4 = 0 then _ else _) = _
      rw [if_neg (by rw [men0_X hv hx]; exact h0)]
      exact b1
    · have hx1 := hx.lo (tC_lo (nI s) M)
      refine ⟨nI w, tC (nI s) M, _, a, ?_, h.t (nI s)⟩
      show (if (tC (nI s) M).1 86 4 = 0 then _ else _) = _
      rw [if_neg (by rw [men0_X hv hx1]; exact h0)]
      exact b _ hx1
/-- to the west of a place -/
def srD (p : Nat → Bool) : Nat → Int32
  | 0 => -9
  | i + 1 => if p i then nI i else srD p i
def blkP (v : NV) (n : Nat) : Nat → Bool := fun i => decide (0 < blk v i n)
theorem heir_C57 {fu : Nat} (hf : 1000 ≤ fu) {M : Mm} {v : NV} (hv : okV v) (hc : CV v M) {N : Nat} (hN : N ≤ 60) : ∀ (i n : Nat), i ≤ vMen v → i < n → F_X6_heir_57 fu M n (nI N) (nI i - 1) = some (srD (blkP v N) i) := by
  intro i
  have hm := hv.1
  induction i with
  | zero =>
    intro n hi hn
    obtain ⟨n, rfl⟩ : ∃ q, n = q + 1 := ⟨n - 1, by omega⟩
    unfold F_X6_heir_57
    rw [if_pos (by decide)]
    rfl
  | succ i ih =>
    intro n hi hn
    obtain ⟨n, rfl⟩ : ∃ q, n = q + 1 := ⟨n - 1, by omega⟩
    have hb := blk_le hv (show i < vMen v by omega) N
    unfold F_X6_heir_57 srD
    rw [nI_pred, if_neg (nI_pos (by omega)), bulkIn_C hf hv hc (by omega) hN, ob1_s, show nI i + (-1) = nI i - 1 by rw [Int32.sub_eq_add_neg], ih n (by omega) (by omega), show vBulk v i - melF v (vKind v i) (vShade v i) 0 N = blk v i N from rfl]
    by_cases h : 0 < blk v i N
    · rw [if_neg (nI_nle h (by omega)), if_pos (show blkP v N i = true from decide_eq_true h)]
    · rw [if_pos (le00 (by omega)), if_neg (show ¬ blkP v N i = true from fun q => h (of_decide_eq_true q))]
theorem heir_X48 {fu : Nat} (hf : 1000 ≤ fu) {M : Mm} {v : NV} (hv : okV v) (hc : XV v M) {N : Nat} (hN : N ≤ 60) : ∀ (i n : Nat), i ≤ vMen v → i < n → F_X7_heir_48 fu M n (nI N) (nI i - 1) = some (srD (blkP v N) i) := by
  intro i
  have hm := hv.1
  induction i with
  | zero =>
    intro n hi hn
    obtain ⟨n, rfl⟩ : ∃ q, n = q + 1 := ⟨n - 1, by omega⟩
    unfold F_X7_heir_48
    rw [if_pos (by decide)]
    rfl
  | succ i ih =>
    intro n hi hn
    obtain ⟨n, rfl⟩ : ∃ q, n = q + 1 := ⟨n - 1, by omega⟩
    have hb := blk_le hv (show i < vMen v by omega) N
    unfold F_X7_heir_48 srD
    rw [nI_pred, if_neg (nI_pos (by omega)), bulkThen_X hf hv hc (by omega) hN, ob1_s, show nI i + (-1) = nI i - 1 by rw [Int32.sub_eq_add_neg], ih n (by omega) (by omega)]
    by_cases h : 0 < blk v i N
    · rw [if_neg (nI_nle h (by omega)), if_pos (show blkP v N i = true from decide_eq_true h)]
    · rw [if_pos (le00 (by omega)), if_neg (show ¬ blkP v N i = true from fun q => h (of_decide_eq_true q))]
def hrF (v : NV) (N i : Nat) : Nat → Nat → Int32
  | 0, _ => srD (blkP v N) i
  | m + 1, e => if blkP v N e then nI e else hrF v N i m (e + 1)
theorem heir_C22 {fu : Nat} (hf : 1000 ≤ fu) {M : Mm} {v : NV} (hv : okV v) (hc : CV v M) {N i : Nat} (hN : N ≤ 60) (hi : i < vMen v) : ∀ (m n e : Nat), e + m = vMen v → m < n → F_X6_heir_22 fu M n (nI i) (nI N) (nI e) = some (hrF v N i m e) := by
  intro m
  have hm := hv.1
  induction m with
  | zero =>
    intro n e he hn
    obtain ⟨n, rfl⟩ : ∃ q, n = q + 1 := ⟨n - 1, by omega⟩
    unfold F_X6_heir_22
    rw [hc.1, if_pos (nI_le (by omega) (by omega)), heir_C57 hf hv hc hN i fu (by omega) (by omega)]
    rfl
  | succ m ih =>
    intro n e he hn
    obtain ⟨n, rfl⟩ : ∃ q, n = q + 1 := ⟨n - 1, by omega⟩
    have hb := blk_le hv (show e < vMen v by omega) N
    unfold F_X6_heir_22 hrF
    rw [hc.1, if_neg (nI_ge (by omega) (by omega)), bulkIn_C hf hv hc (by omega) hN, ob1_s, nI_1, ih n (e + 1) (by omega) (by omega), show vBulk v e - melF v (vKind v e) (vShade v e) 0 N = blk v e N from rfl]
    by_cases h : 0 < blk v e N
    · rw [if_neg (nI_nle h (by omega)), if_pos (show blkP v N e = true from decide_eq_true h)]
    · rw [if_pos (le00 (by omega)), if_neg (show ¬ blkP v N e = true from fun q => h (of_decide_eq_true q))]
theorem heir_X19 {fu : Nat} (hf : 1000 ≤ fu) {M : Mm} {v : NV} (hv : okV v) (hc : XV v M) {N i : Nat} (hN : N ≤ 60) (hi : i < vMen v) : ∀ (m n e : Nat), e + m = vMen v → m < n → F_X7_heir_19 fu M n (nI i) (nI N) (nI e) = some (hrF v N i m e) := by
  intro m
  have hm := hv.1
  induction m with
  | zero =>
    intro n e he hn
    obtain ⟨n, rfl⟩ : ∃ q, n = q + 1 := ⟨n - 1, by omega⟩
    unfold F_X7_heir_19
    rw [hc.1, if_pos (nI_le (by omega) (by omega)), heir_X48 hf hv hc hN i fu (by omega) (by omega)]
    rfl
  | succ m ih =>
    intro n e he hn
    obtain ⟨n, rfl⟩ : ∃ q, n = q + 1 := ⟨n - 1, by omega⟩
    have hb := blk_le hv (show e < vMen v by omega) N
    unfold F_X7_heir_19 hrF
    rw [hc.1, if_neg (nI_ge (by omega) (by omega)), bulkThen_X hf hv hc (by omega) hN, ob1_s, nI_1, ih n (e + 1) (by omega) (by omega)]
    by_cases h : 0 < blk v e N
    · rw [if_neg (nI_nle h (by omega)), if_pos (show blkP v N e = true from decide_eq_true h)]
    · rw [if_pos (le00 (by omega)), if_neg (show ¬ blkP v N e = true from fun q => h (of_decide_eq_true q))]
theorem call_heir {fu : Nat} (hf : 1000 ≤ fu) {M : Mm} (h : Rel M) (x y : Int32) : Two (F_X6_heir fu M x y) (F_X7_heir fu M x y) := by
  obtain ⟨v, hv, hc, hx⟩ := h.v
  have hm := hv.1
  unfold F_X6_heir F_X7_heir
  rcases rng3 x (n := vMen v) (by omega) with hi | ⟨i, hi, rfl⟩
  · rw [isMan_C0 hc hi, isMan_X0 hv hx hi]
    exact ⟨-1, rfl, rfl⟩
  · rw [isMan_C1 hv hc hi, isMan_X1 hv hx hi]
    rcases rng3 y (n := 61) (by omega) with hn | ⟨n, hn, rfl⟩
    · rw [isAhead_C0 hn, isAhead_X0 hn]
      exact ⟨-1, rfl, rfl⟩
    · rw [isAhead_C1 hn, isAhead_X1 hn, ob1_s, ob1_s, if_neg (by decide), if_neg (by decide), ob1_s, ob1_s, if_neg (by decide), if_neg (by decide)]
      exact ⟨_, heir_C22 hf hv hc (by omega) hi (vMen v - i) fu i (by omega) (by omega), heir_X19 hf hv hx (by omega) hi (vMen v - i) fu i (by omega) (by omega)⟩
