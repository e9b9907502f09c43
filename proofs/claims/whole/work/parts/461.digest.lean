/-! the digest -/
def TwoL (f g : Option Int64) : Prop := ∃ r, f = some r ∧ g = some r
theorem call_upper {fu : Nat} {M : Mm} (h : Rel M) : TwoL (F_X6_upper fu M) (F_X7_upper fu M) := ⟨_, rfl, by unfold F_X7_upper; rw [h.1.2.2.1]⟩
theorem call_lower {fu : Nat} {M : Mm} (h : Rel M) : TwoL (F_X6_lower fu M) (F_X7_lower fu M) := ⟨_, rfl, by unfold F_X7_lower; rw [h.1.2.2.2.1]⟩
theorem m1l : ((-1 : Int32).toInt64) = (-1 : Int64) := by decide +kernel
theorem subm1 (x : Int64) : x - 1 = x + (-1 : Int32).toInt64 := by rw [m1l, Int64.sub_eq_add_neg]
theorem row_D30 {fu : Nat} {M : Mm} {r N : Nat} (hr : r < 6) (hN : N ≤ 40) (hs : M.1 (1 + r) 1 = nI N) (hc : ∀ j, j < N → M.1 (1 + r + 6) j = M.1 87 (40 * r + j)) : ∀ (m n k : Nat) (y : Int64), k + m = N → m < n → TwoL (F_X4_digestedOnto_30 fu M n (1 + r) y (nI k)) (F_X7_sums_25 fu M n 87 (nI (40 * r)) (nI N) y (nI k)) := by
  intro m
  induction m with
  | zero =>
    intro n k y hk hn
    obtain ⟨n, rfl⟩ : ∃ q, n = q + 1 := ⟨n - 1, by omega⟩
    refine ⟨y, ?_, ?_⟩
    · unfold F_X4_digestedOnto_30
      rw [hs, if_pos (nI_le (by omega) (by omega))]
    · unfold F_X7_sums_25
      rw [if_pos (nI_le (by omega) (by omega))]
  | succ m ih =>
    intro n k y hk hn
    obtain ⟨n, rfl⟩ : ∃ q, n = q + 1 := ⟨n - 1, by omega⟩
    obtain ⟨z, e1, e2⟩ := ih n (k + 1) ((31 : Int64) * y + (M.1 (1 + r + 6) k).toInt64) (by omega) (by omega)
    refine ⟨z, ?_, ?_⟩
    · unfold F_X4_digestedOnto_30
      rw [hs, if_neg (nI_ge (by omega) (by omega)), rdR hr (by omega), ob1_s, nI_1]
      exact e1
    · unfold F_X7_sums_25
      rw [if_neg (nI_ge (by omega) (by omega)), nI_add, xr87 (by omega), clN (by omega), lt1_s, nI_1, ← hc k (by omega)]
      exact e2
theorem row_D {fu : Nat} (hf : 1000 ≤ fu) {M : Mm} {r : Nat} (hr : r < 6) (h : RRi M r) (y : Int64) : TwoL (F_X4_digestedOnto fu M (1 + r) y) (F_X7_sums fu M y 87 (nI (40 * r)) (M.1 88 r)) := by
  rcases h with ⟨a, b⟩ | ⟨a, n, hn, b, c, d⟩
  · refine ⟨(31 : Int64) * y + (-1 : Int32).toInt64, ?_, ?_⟩
    · unfold F_X4_digestedOnto
      rw [if_pos a, subm1]
    · unfold F_X7_sums
      rw [b, if_pos rfl, lt1_s]
      obtain ⟨n, hn⟩ : ∃ q, fu = q + 1 := ⟨fu - 1, by omega⟩
      rw [show F_X7_sums_25 fu M fu 87 (nI (40 * r)) (-9) ((31 : Int64) * y + (-1 : Int32).toInt64) 0 = F_X7_sums_25 fu M (n + 1) 87 (nI (40 * r)) (-9) ((31 : Int64) * y + (-1 : Int32).toInt64) 0 by rw [← hn]]
      unfold F_X7_sums_25
      rw [if_pos (by decide)]
  · obtain ⟨z, e1, e2⟩ := row_D30 (fu := fu) hr hn b d n fu 0 ((31 : Int64) * y + (nI n).toInt64) (by omega) (by omega)
    refine ⟨z, ?_, ?_⟩
    · unfold F_X4_digestedOnto
      rw [a, if_neg one_ne, b, lt1_s]
      exact e1
    · unfold F_X7_sums
      rw [c, if_neg (no9 (by omega))]
      exact e2
theorem text_D30 {fu : Nat} {M : Mm} {r N : Nat} (hr : r < 4) (hN : N ≤ 60) (hs : M.1 (13 + r) 1 = nI N) (hc : ∀ j, j < N → M.1 (13 + r + 4) j = M.1 89 (60 * r + j)) : ∀ (m n k : Nat) (y : Int64), k + m = N → m < n → TwoL (F_X5_digestedOnto_30 fu M n (13 + r) y (nI k)) (F_X7_sums_25 fu M n 89 (nI (60 * r)) (nI N) y (nI k)) := by
  intro m
  induction m with
  | zero =>
    intro n k y hk hn
    obtain ⟨n, rfl⟩ : ∃ q, n = q + 1 := ⟨n - 1, by omega⟩
    refine ⟨y, ?_, ?_⟩
    · unfold F_X5_digestedOnto_30
      rw [hs, if_pos (nI_le (by omega) (by omega))]
    · unfold F_X7_sums_25
      rw [if_pos (nI_le (by omega) (by omega))]
  | succ m ih =>
    intro n k y hk hn
    obtain ⟨n, rfl⟩ : ∃ q, n = q + 1 := ⟨n - 1, by omega⟩
    obtain ⟨z, e1, e2⟩ := ih n (k + 1) ((31 : Int64) * y + (M.1 (13 + r + 4) k).toInt64) (by omega) (by omega)
    refine ⟨z, ?_, ?_⟩
    · unfold F_X5_digestedOnto_30
      rw [hs, if_neg (nI_ge (by omega) (by omega)), sign_C hr (by omega), ob1_s, nI_1]
      exact e1
    · unfold F_X7_sums_25
      rw [if_neg (nI_ge (by omega) (by omega)), nI_add, xr89 (by omega), clN (by omega), lt1_s, nI_1, ← hc k (by omega)]
      exact e2
theorem text_D {fu : Nat} (hf : 1000 ≤ fu) {M : Mm} {r : Nat} (hr : r < 4) (h : RXi M r) (y : Int64) : TwoL (F_X5_digestedOnto fu M (13 + r) y) (F_X7_sums fu M y 89 (nI (60 * r)) (M.1 90 r)) := by
  rcases h with ⟨a, b⟩ | ⟨a, n, hn, b, c, d⟩
  · refine ⟨(31 : Int64) * y + (-1 : Int32).toInt64, ?_, ?_⟩
    · unfold F_X5_digestedOnto
      rw [if_pos a, subm1]
    · unfold F_X7_sums
      rw [b, if_pos rfl, lt1_s]
      obtain ⟨n, hn⟩ : ∃ q, fu = q + 1 := ⟨fu - 1, by omega⟩
      rw [show F_X7_sums_25 fu M fu 89 (nI (60 * r)) (-9) ((31 : Int64) * y + (-1 : Int32).toInt64) 0 = F_X7_sums_25 fu M (n + 1) 89 (nI (60 * r)) (-9) ((31 : Int64) * y + (-1 : Int32).toInt64) 0 by rw [← hn]]
      unfold F_X7_sums_25
      rw [if_pos (by decide)]
  · obtain ⟨z, e1, e2⟩ := text_D30 (fu := fu) hr hn b d n fu 0 ((31 : Int64) * y + (nI n).toInt64) (by omega) (by omega)
    refine ⟨z, ?_, ?_⟩
    · unfold F_X5_digestedOnto
      rw [a, if_neg one_ne, b, lt1_s]
      exact e1
    · unfold F_X7_sums
      rw [c, if_neg (no9 (by omega))]
      exact e2
theorem dig_4 {fu : Nat} (hf : 1000 ≤ fu) {M : Mm} (h : RX M) : ∀ (m n k : Nat) (y : Int64), k + m = 4 → m < n → TwoL (F_X6_digest_173 fu M n y (nI k)) (F_X7_digest_241 fu M n y (nI k)) := by
  intro m
  induction m with
  | zero =>
    intro n k y hk hn
    obtain ⟨n, rfl⟩ : ∃ q, n = q + 1 := ⟨n - 1, by omega⟩
    refine ⟨y, ?_, ?_⟩
    · unfold F_X6_digest_173
      rw [L4, if_pos (nI_le (by omega) (by omega))]
    · unfold F_X7_digest_241
      rw [L4, if_pos (nI_le (by omega) (by omega))]
  | succ m ih =>
    intro n k y hk hn
    obtain ⟨n, rfl⟩ : ∃ q, n = q + 1 := ⟨n - 1, by omega⟩
    obtain ⟨z, e1, e2⟩ := text_D hf (show k < 4 by omega) (h k (by omega)) y
    obtain ⟨u, d1, d2⟩ := ih n (k + 1) z (by omega) (by omega)
    refine ⟨u, ?_, ?_⟩
    · unfold F_X6_digest_173
      rw [L4, if_neg (nI_ge (by omega) (by omega)), textOf_C1 (by omega), ob1_s, op1_s, kd_T (by omega), if_neg (by decide), e1, ob1_s, nI_1]
      exact d1
    · unfold F_X7_digest_241
      rw [L4, if_neg (nI_ge (by omega) (by omega)), xr90 (by omega), clN (by omega), L60, pk_mul, e2, ob1_s, nI_1]
      exact d2
theorem dig_3 {fu : Nat} (hf : 1000 ≤ fu) {M : Mm} (h : RX M) (g : RR M) : ∀ (m n k : Nat) (y : Int64), k + m = 6 → m < n → TwoL (F_X6_digest_136 fu M n y (nI k)) (F_X7_digest_204 fu M n y (nI k)) := by
  intro m
  induction m with
  | zero =>
    intro n k y hk hn
    obtain ⟨n, rfl⟩ : ∃ q, n = q + 1 := ⟨n - 1, by omega⟩
    obtain ⟨z, e1, e2⟩ := dig_4 hf h 4 fu 0 y (by omega) (by omega)
    refine ⟨z, ?_, ?_⟩
    · unfold F_X6_digest_136
      rw [L6, if_pos (nI_le (by omega) (by omega))]
      exact e1
    · unfold F_X7_digest_204
      rw [L6, if_pos (nI_le (by omega) (by omega))]
      exact e2
  | succ m ih =>
    intro n k y hk hn
    obtain ⟨n, rfl⟩ : ∃ q, n = q + 1 := ⟨n - 1, by omega⟩
    obtain ⟨z, e1, e2⟩ := row_D hf (show k < 6 by omega) (g k (by omega)) y
    obtain ⟨u, d1, d2⟩ := ih n (k + 1) z (by omega) (by omega)
    refine ⟨u, ?_, ?_⟩
    · unfold F_X6_digest_136
      rw [L6, if_neg (nI_ge (by omega) (by omega)), rowOf_C1 (by omega), ob1_s, op1_s, kd_R (by omega), if_neg (by decide), e1, ob1_s, nI_1]
      exact d1
    · unfold F_X7_digest_204
      rw [L6, if_neg (nI_ge (by omega) (by omega)), xr88 (by omega), clN (by omega), L40, pk_mul, e2, ob1_s, nI_1]
      exact d2
theorem dig_2 {fu : Nat} (hf : 1000 ≤ fu) {M : Mm} (h : RX M) (g : RR M) {s : Ns} (hk0 : ∀ k, k < 3 → KP s M k) : ∀ (m n k : Nat) (y : Int64), k + m = 3 → m < n → TwoL (F_X6_digest_86 fu M n y (nI k)) (F_X7_digest_154 fu M n y (nI k)) := by
  intro m
  induction m with
  | zero =>
    intro n k y hk hn
    obtain ⟨n, rfl⟩ : ∃ q, n = q + 1 := ⟨n - 1, by omega⟩
    obtain ⟨z, e1, e2⟩ := dig_3 hf h g 6 fu 0 y (by omega) (by omega)
    refine ⟨z, ?_, ?_⟩
    · unfold F_X6_digest_86
      rw [L3, if_pos (nI_le (by omega) (by omega))]
      exact e1
    · unfold F_X7_digest_154
      rw [L3, if_pos (nI_le (by omega) (by omega))]
      exact e2
  | succ m ih =>
    intro n k y hk hn
    obtain ⟨n, rfl⟩ : ∃ q, n = q + 1 := ⟨n - 1, by omega⟩
    unfold F_X6_digest_86 F_X7_digest_154
    rw [L3, if_neg (nI_ge (by omega) (by omega)), if_neg (nI_ge (by omega) (by omega)), keptOf_C1 (by omega), ob1_s, op1_s, kd_K (by omega), if_neg (by decide), nI_1, xr98 (by omega), clN (by omega)]
    rcases hk0 k (by omega) with ⟨a, b⟩ | ⟨a, q, s', c1, c2, c3, c4⟩
    · rw [if_pos a, if_pos b, lt1_s, lt1_s]
      exact ih n (k + 1) _ (by omega) (by omega)
    · have hm := c1.1.1
      have := c2.1
      rw [a, if_neg one_ne, if_neg (by rw [c3.1, L0, eqN (by omega) (by omega)]; omega), L795, L2, pk_mul, nI_add, xr97 (by omega), clN (by omega), lt1_s, lt1_s, c3.2.2.2.1, c4.2.2.1]
      exact ih n (k + 1) _ (by omega) (by omega)
def d31 (x : Int64) (y : Int32) : Int64 := (31 : Int64) * x + y.toInt64
theorem d31_e (x : Int64) (y : Int32) : (31 : Int64) * x + y.toInt64 = d31 x y := by unfold d31; exact Eq.refl _
theorem dig_47 {fu : Nat} (hf : 1000 ≤ fu) {M : Mm} {v : NV} (hv : okV v) (hc : CV v M) {i : Nat} (hi : i < vMen v) (k33 : Int64 → Int32 → Option Int64) (y : Int64) : F_X6_digest_47 fu M k33 fu y (nI i) (0 : Int32) = k33 (d31 (d31 (d31 (d31 (d31 (d31 y (tlF v i 0)) (tlF v i 1)) (tlF v i 2)) (tlF v i 3)) (tlF v i 4)) (tlF v i 5)) (nI (i + 1)) := by
  have st : ∀ (n : Nat) (y : Int64) (w : Nat), w < 6 → F_X6_digest_47 fu M k33 (n + 1) y (nI i) (nI w) = F_X6_digest_47 fu M k33 n (d31 y (tlF v i w)) (nI i) (nI (w + 1)) := by
    intro n y w hw
    rw [F_X6_digest_47, L6, if_neg (nI_ge hw (by omega)), tellsOf_C hf hv hc hi hw, ob1_s, d31_e, nI_1]
  obtain ⟨n, hn⟩ : ∃ q, fu = q + 7 := ⟨fu - 7, by omega⟩
  have e0 : F_X6_digest_47 fu M k33 fu y (nI i) 0 = F_X6_digest_47 fu M k33 (n + 7) y (nI i) (nI 0) := by rw [← hn]; rfl
  rw [e0, st (n + 6) _ 0 (by decide), st (n + 5) _ 1 (by decide), st (n + 4) _ 2 (by decide), st (n + 3) _ 3 (by decide), st (n + 2) _ 4 (by decide), st (n + 1) _ 5 (by decide), F_X6_digest_47, L6, if_pos (nI_le (by decide) (by decide)), nI_1]
theorem dig_1 {fu : Nat} (hf : 1000 ≤ fu) {M : Mm} (h : RX M) (g : RR M) {s : Ns} (hk0 : ∀ k, k < 3 → KP s M k) {v : NV} (hv : okV v) (hc : CV v M) (hx : XV v M) : ∀ (m n i : Nat) (y : Int64), i + m = vMen v → m < n → TwoL (F_X6_digest_33 fu M n y (nI i)) (F_X7_digest_40 fu M n y (nI (whoN v (vRight v) 0)) (nI i)) := by
  intro m
  have hm := hv.1
  induction m with
  | zero =>
    intro n i y hi hn
    obtain ⟨n, rfl⟩ : ∃ q, n = q + 1 := ⟨n - 1, by omega⟩
    obtain ⟨z, e1, e2⟩ := dig_2 hf h g hk0 3 fu 0 y (by omega) (by omega)
    refine ⟨z, ?_, ?_⟩
    · unfold F_X6_digest_33
      rw [hc.1, if_pos (nI_le (by omega) (by omega))]
      exact e1
    · unfold F_X7_digest_40
      rw [hx.1, if_pos (nI_le (by omega) (by omega))]
      exact e2
  | succ m ih =>
    intro n i y hi hn
    obtain ⟨n, rfl⟩ : ∃ q, n = q + 1 := ⟨n - 1, by omega⟩
    have hiv : i < vMen v := by omega
    obtain ⟨g1, g2, g3, g4⟩ := hv.2.2.2.2.2 i hiv
    obtain ⟨c1, c2, c3, c4⟩ := hx.2.2.2.2 i hiv
    obtain ⟨z, e1, e2⟩ := ih n (i + 1) (d31 (d31 (d31 (d31 (d31 (d31 y (tlF v i 0)) (tlF v i 1)) (tlF v i 2)) (tlF v i 3)) (tlF v i 4)) (tlF v i 5)) (by omega) (by omega)
    have hwb := who_bit (v := v) (vRight v) 0 hiv
    have hwf : whoF v (vRight v) 0 i = hasR (vKind v i) (vBulk v i) (vRight v) := rfl
    refine ⟨z, ?_, ?_⟩
    · unfold F_X6_digest_33
      rw [hc.1, if_neg (nI_ge (by omega) (by omega)), dig_47 hf hv hc hiv]
      exact e1
    · have e132 : ∀ b : Bool, hasR (vKind v i) (vBulk v i) (vRight v) = b → F_X7_digest_132 fu M (F_X7_digest_40 fu M n) (nI (whoN v (vRight v) 0)) (nI i) (31 : Int64) ((31 : Int64) * (d31 (d31 (d31 (d31 y (tlF v i 0)) (tlF v i 1)) (tlF v i 2)) (tlF v i 3))) (bI b) = some z := by
        intro b hb
        unfold F_X7_digest_132
        rw [votesBy_X hf hv hx (whoN_lt hv _ _) hiv, ob1_s, d31_e, d31_e, nI_1, ← hb, ← hwf, ← hwb]
        exact e2
      unfold F_X7_digest_40
      rw [hx.1, if_neg (nI_ge (by omega) (by omega)), xr91 (by omega), xr94 (by omega), xr95 (by omega), lt1_s, xr92 (by omega), xr94 (by omega), clN (by omega), c1, c2, c3, c4, mayVote_X hv hx hiv (by omega), ob1_s, d31_e, d31_e, d31_e, d31_e]
      cases hb : hasR (vKind v i) (vBulk v i) (vRight v)
      · rw [if_pos (by decide)]
        exact e132 false hb
      · rw [if_neg (by decide)]
        exact e132 true hb
theorem dig_0 {fu : Nat} (hf : 1000 ≤ fu) {M : Mm} (h : Rel M) : ∀ (m n w : Nat) (y : Int64), w + m = 9 → m < n → TwoL (F_X6_digest_6 fu M n y (nI w)) (F_X7_digest_6 fu M n y (nI w)) := by
  intro m
  induction m with
  | zero =>
    intro n w y hw hn
    obtain ⟨n, rfl⟩ : ∃ q, n = q + 1 := ⟨n - 1, by omega⟩
    obtain ⟨s, hs, hc, hx, hk⟩ := h.2.2.2
    have hv := hs.v
    obtain ⟨z, e1, e2⟩ := dig_1 hf h.2.2.1 h.2.1 hk hv hc.cv hx.1 (vMen (cur s)) fu 0 y (by omega) (by have := hv.1; omega)
    refine ⟨z, ?_, ?_⟩
    · unfold F_X6_digest_6
      rw [L9, if_pos (nI_le (by omega) (by omega))]
      exact e1
    · unfold F_X7_digest_6
      rw [L9, if_pos (nI_le (by omega) (by omega)), L0, whoThen_X hf hv hx.1 (by omega), ob1_s]
      exact e2
  | succ m ih =>
    intro n w y hw hn
    obtain ⟨n, rfl⟩ : ∃ q, n = q + 1 := ⟨n - 1, by omega⟩
    obtain ⟨r, e1, e2⟩ := two_count hf h (show w < 9 by omega)
    obtain ⟨z, d1, d2⟩ := ih n (w + 1) (d31 y r) (by omega) (by omega)
    refine ⟨z, ?_, ?_⟩
    · unfold F_X6_digest_6
      rw [L9, if_neg (nI_ge (by omega) (by omega)), e1, ob1_s, nI_1, d31_e]
      exact d1
    · unfold F_X7_digest_6
      rw [L9, if_neg (nI_ge (by omega) (by omega)), e2, ob1_s, nI_1, d31_e]
      exact d2
theorem call_digest {fu : Nat} (hf : 1000 ≤ fu) {M : Mm} (h : Rel M) : TwoL (F_X6_digest fu M) (F_X7_digest fu M) := dig_0 hf h 9 fu 0 17 (by omega) (by omega)
