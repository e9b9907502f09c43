/-! the law: snow, shade bought, shade that guards -/
def snV (v : NV) (i e : Nat) : NV := (vMen v, vRight v, vDay v, vSun v, vKind v, vVote v, (fun j => if j = i then min 99 (vBulk v j + e) else vBulk v j), vShade v)
theorem snV_e (v : NV) (i e : Nat) : perf v (3, i, e) = snV v i e := by
  unfold perf
  rw [if_neg (by show ¬ (3 : Nat) = 0; decide), if_neg (by show ¬ (3 : Nat) = 2; decide), if_pos rfl]
  rfl
theorem snV_b {v : NV} {i e : Nat} (h : vBulk v i + e ≤ 99) : vBulk (snV v i e) i = vBulk v i + e := by
  show (if i = i then min 99 (vBulk v i + e) else vBulk v i) = _
  rw [if_pos rfl]
  omega
theorem cry_sn {v : NV} {i e n : Nat} (h : vBulk v i + e ≤ 99) (x : Nat) : cryP (snV v i e) i n x = cryP v i n (e + x) := by
  unfold cryP
  rw [snV_b h, show melF (snV v i e) (vKind (snV v i e) i) (vShade (snV v i e) i) 0 n = melF v (vKind v i) (vShade v i) 0 n from melF_cg (v := snV v i e) (w := v) rfl rfl _ _ _ _, Nat.add_assoc]
  rfl
theorem T570 {L : Nat} (hL : L ≤ 260) {xs : Nat → Int32} {fu : Nat} (hf : 1000 ≤ fu) {k : Ns} {M : Mm} (h : IV k k M) {i d : Nat} (hi : i < vMen k.1) (hd : d < 61) : F_L_law_570 L xs fu M (nI (vMen k.1)) (nI d) (nI i) (srch (cryP (cur k) i d) (100 - vBulk (cur k) i) 0) = some () := by
  obtain ⟨hv, hc, hm, h0, h6⟩ := h.v
  obtain ⟨e1, e2, e3, e4, e5⟩ := h.k0
  obtain ⟨s1, s2, s3, s4, s5⟩ := sv_b h hi
  have hb : vBulk (cur k) i = vBulk k.1 i := by rw [e2]
  have e := T630 hL (xs := xs) hf h hi
  unfold F_L_law_570
  rcases srch_inv (p := cryP (cur k) i d) (m := 100 - vBulk (cur k) i) (d := 0) (by omega) with q | ⟨c, -, q2, q3, q4, q5⟩
  · rw [q, if_pos (by decide)]
    exact e
  · rw [q3]
    by_cases c1 : c ≤ 1
    · rw [if_pos (by rw [L1]; exact nI_le c1 (by omega))]
      exact e
    · rw [if_neg (by rw [L1]; exact nI_ge (by omega) (by omega))]
      by_cases c11 : 11 ≤ c
      · rw [if_pos (by rw [show (11 : Int32) = nI 11 from rfl]; exact nI_le c11 (by omega))]
        exact e
      · have hk0 := h.1.2.2.1
        obtain ⟨M1, a1, a2, a3⟩ := m_snow (fu := fu) hf h (by omega) hi (c := c - 1) (by omega) (by omega) (by omega)
        obtain ⟨hv1, hc1, hm1, h01, -⟩ := a2.v
        have hcur : cur (nxt k (3, i, c - 1)) = snV (cur k) i (c - 1) := by rw [nxt_cur, snV_e]
        have h99 : vBulk (cur k) i + (c - 1) ≤ 99 := by omega
        have hb1 : vBulk (cur (nxt k (3, i, c - 1))) i = vBulk (cur k) i + (c - 1) := by rw [hcur, snV_b h99]
        have hca := m_carry (fu := fu) hf hv1 hc1 (i := i) (n := d) (by omega) hd (by omega)
        rw [hb1, hcur, srch_at (j := 1) (by rw [cry_sn h99, show c - 1 + 1 = c by omega]; exact q4) (100 - (vBulk (cur k) i + (c - 1))) 0 (by omega) (by omega) fun j _ hj => by
          rw [cry_sn h99]
          exact q5 _ (Nat.zero_le _) (by omega)] at hca
        obtain ⟨M2, o1, o2, o3⟩ := m_on (fu := fu) hf a2
        rw [if_neg (by rw [show (11 : Int32) = nI 11 from rfl]; exact nI_ge (by omega) (by omega)), show nI c - (1 : Int32) = nI (c - 1) from pk_sub (b := 1) (by omega), a1, ob2_s, L6, nI_add, x86 (by omega), clN (by omega), (sv_b a2 hi).1, nI_add, show nI (vBulk k.1 i + c) - (1 : Int32) = nI (vBulk k.1 i + c - 1) from pk_sub (b := 1) (by omega), show min 99 (vBulk (cur k) i + (c - 1)) = vBulk k.1 i + c - 1 by omega, if_pos rfl, hca, ob1_s, if_pos (show nI 1 = 1 from rfl), o1, ob2_s, if_pos rfl]
        exact T630 hL hf o2 hi
theorem T291_2 {L : Nat} (hL : L ≤ 260) {xs : Nat → Int32} {fu : Nat} (hf : 1000 ≤ fu) {k : Ns} {M : Mm} (h : IV k k M) {d n : Nat} (hd : d < 61) : F_L_law_291 L xs fu (n + 1) M (nI (vMen k.1)) (nI d) 2 = some () := by
  obtain ⟨hv, hc, hm, h0, h6⟩ := h.v
  obtain ⟨e1, e2, e3, e4, e5⟩ := h.k0
  have hk0 := h.1.2.2.1
  obtain ⟨c0, ec⟩ := cell_e hL xs (j := 10) (by omega)
  obtain ⟨i, hi, ei⟩ := up_e c0 (n := vMen k.1) h.1.2.1 (by omega)
  obtain ⟨s1, s2, s3, s4, s5⟩ := sv_b h hi
  have hb : vBulk (cur k) i = vBulk k.1 i := by rw [e2]
  have hca := m_carry (fu := fu) hf hv hc (i := i) (n := d) (by omega) hd (by omega)
  have e := T570 hL (xs := xs) hf h hi hd
  have ec' : F_L_cell L xs fu M 10 = some c0 := ec fu M
  unfold F_L_law_291
  rw [if_pos (by decide), ec', ob1_s, ei, ob1_s, hca, ob1_s]
  rcases srch_inv (p := cryP (cur k) i d) (m := 100 - vBulk (cur k) i) (d := 0) (by omega) with q | ⟨c, -, q2, q3, q4, q5⟩
  · rw [q] at e ⊢
    rw [if_pos (by decide)]
    exact e
  · rw [q3] at e ⊢
    by_cases c1 : c = 0
    · subst c1
      rw [if_pos (by decide)]
      exact e
    · rw [if_neg (nI_nle (by omega) (by omega))]
      by_cases c10 : 10 ≤ c
      · rw [if_pos (by rw [L10]; exact nI_le c10 (by omega))]
        exact e
      · obtain ⟨M1, a1, a2, a3⟩ := m_snow (fu := fu) hf h (by omega) hi (c := c) (by omega) (by omega) (by omega)
        obtain ⟨hv1, hc1, hm1, h01, -⟩ := a2.v
        have hcur : cur (nxt k (3, i, c)) = snV (cur k) i c := by rw [nxt_cur, snV_e]
        have h99 : vBulk (cur k) i + c ≤ 99 := by omega
        have hb1 : vBulk (cur (nxt k (3, i, c))) i = vBulk (cur k) i + c := by rw [hcur, snV_b h99]
        have hca1 := m_carry (fu := fu) hf hv1 hc1 (i := i) (n := d) (by omega) hd (by omega)
        rw [hb1, hcur, srch_at (j := 0) (by rw [cry_sn h99, Nat.add_zero]; exact q4) (100 - (vBulk (cur k) i + c)) 0 (by omega) (by omega) fun j _ hj => absurd hj (Nat.not_lt_zero j)] at hca1
        obtain ⟨M2, o1, o2, o3⟩ := m_on (fu := fu) hf a2
        have e' := T570 hL (xs := xs) hf o2 hi hd
        rw [q3] at e'
        rw [if_neg (by rw [L10]; exact nI_ge (by omega) (by omega)), a1, ob2_s, L6, nI_add, x86 (by omega), clN (by omega), (sv_b a2 hi).1, nI_add, show min 99 (vBulk (cur k) i + c) = vBulk k.1 i + c by omega, if_pos rfl, hca1, ob1_s, if_pos (show nI 0 = 0 from rfl), o1, ob2_s, if_pos rfl]
        exact e'
theorem T478 {L : Nat} {xs : Nat → Int32} {fu : Nat} (hf : 1000 ≤ fu) {k s : Ns} {M : Mm} (h : IV k s M) {k291 : Mm → Int32 → Int32 → Int32 → Option Unit} {x5 x8 : Int32} (hk : ∀ M', IV k k M' → k291 M' (nI (vMen k.1)) x5 (x8 + 1) = some ()) : F_L_law_478 L xs fu k291 M (nI (vMen k.1)) x5 x8 = some () := by
  obtain ⟨M1, o1, o2, o3⟩ := m_on (fu := fu) hf h
  unfold F_L_law_478
  rw [o1, ob2_s, if_pos rfl]
  exact hk M1 o2
theorem T433 {L : Nat} {xs : Nat → Int32} {fu : Nat} (hf : 1000 ≤ fu) {k s : Ns} {M : Mm} (h : IV k s M) {k291 : Mm → Int32 → Int32 → Int32 → Option Unit} {d : Nat} (hd : d < 61) {b : Bool} {x9 : Int32} (h9 : x9 ≤ 0 ∨ (¬ x9 ≤ 0 ∧ carr (cur s) (wN (cur s) d) = b)) (hk : ∀ M', IV k k M' → k291 M' (nI (vMen k.1)) (nI d) (bI b + 1) = some ()) : F_L_law_433 L xs fu k291 M (nI (vMen k.1)) (nI d) (bI b) x9 = some () := by
  obtain ⟨hv, hc, hm, h0, h6⟩ := h.v
  have hvo := m_votes (fu := fu) hf hv hc h0 hd
  have h' := tC_i h (nI (nay (cur s) d))
  have e := T478 (L := L) (xs := xs) hf h' hk
  have y1 := yes_le (cur s) d
  have y2 := nay_le (cur s) d
  have yn := yes_nay hv d
  unfold F_L_law_433
  rw [hvo, ob2_s, m_asked, ob1_s, tC_a]
  rcases h9 with h9 | ⟨h9, hb⟩
  · split
    · unfold F_L_law_455
      rw [if_pos h9]
      exact e
    · unfold F_L_law_455
      rw [if_pos h9]
      exact e
  · have hb' : carr (cur s) (whoN (cur s) (vRight (cur s)) d) = b := hb
    by_cases hy : yes (cur s) d ≤ nay (cur s) d
    · have hbf : b = false := by rw [← hb']; exact yn.mp hy
      subst hbf
      rw [if_pos (nI_le hy (by omega))]
      unfold F_L_law_455
      rw [if_neg h9, if_neg (by decide)]
      unfold F_L_law_475
      rw [if_pos rfl]
      exact e
    · have hbt : b = true := by
        rw [← hb']
        cases hq : carr (cur s) (whoN (cur s) (vRight (cur s)) d) with
        | true => rfl
        | false => exact absurd (yn.mpr hq) hy
      subst hbt
      rw [if_neg (nI_ge (by omega) (by omega))]
      unfold F_L_law_455
      rw [if_neg h9, if_pos (by decide)]
      unfold F_L_law_475
      rw [if_pos rfl]
      exact e
/-- a row of shades told: row r there, of as many as MEN, with D -/
def RD (r : Nat) (k : Ns) (D : Nat → Nat) (M : Mm) : Prop := M.1 (1 + r) 0 = 1 ∧ M.1 (1 + r) 1 = nI (vMen k.1) ∧ ∀ j, j < vMen k.1 → M.1 (1 + r + 6) j = nI (D j)
theorem RD.cg {r : Nat} {k : Ns} {D : Nat → Nat} {M M' : Mm} (h : RD r k D M) (g1 : M'.1 (1 + r) = M.1 (1 + r)) (g2 : M'.1 (1 + r + 6) = M.1 (1 + r + 6)) : RD r k D M' := by
  unfold RD
  rw [g1, g2]
  exact h
def upto (D sh : Nat → Nat) (i : Nat) : Nat → Nat := fun j => if j < i then D j else sh j
theorem T383 {L : Nat} {xs : Nat → Int32} {fu : Nat} (hf : 1000 ≤ fu) {k : Ns} {k291 : Mm → Int32 → Int32 → Int32 → Option Unit} {d s0 c0 : Nat} (hd : d < 61) {b : Bool} (hs0 : s0 < 2 ^ vMen k.1) (hc0 : 0 < c0) (hc54 : c0 ≤ 54) {D : Nat → Nat} (hD : ∀ j, j < vMen k.1 → nr (cur k) d j (s0.testBit j) = some (D j) ∧ D j ≤ 9) (hb : carr (cur k) s0 = b) (hk : ∀ M', IV k k M' → k291 M' (nI (vMen k.1)) (nI d) (bI b + 1) = some ()) : ∀ (m n i : Nat) (s : Ns) (M : Mm), i + m = vMen k.1 → m < n → IV k s M → RD 2 k D M → cur s = shV (cur k) (upto D (vShade (cur k)) i) → s.2.2.1 = i → F_L_law_383 L xs fu k291 n M (nI (vMen k.1)) (nI d) (bI b) (nI c0) (nI i) = some () := by
  intro m
  induction m with
  | zero =>
    intro n i s M hi hn h hr hcur hsd
    obtain ⟨n, rfl⟩ : ∃ q, n = q + 1 := ⟨n - 1, by omega⟩
    obtain ⟨hv, hc, hm, h0, h6⟩ := h.v
    obtain ⟨e1, -⟩ := h.k0
    have hii : i = vMen k.1 := by omega
    unfold F_L_law_383
    rw [if_pos (nI_le (by omega) (by omega))]
    refine T433 hf h hd (Or.inr ⟨nI_nle hc0 (by omega), ?_⟩) hk
    have ew : wN (cur s) d = s0 := by
      rw [hcur]
      refine who_sh (by rw [e1]; exact hs0) fun j hj => ?_
      rw [(hD j (by omega)).1]
      show some (D j) = some (if j < i then D j else vShade (cur k) j)
      rw [if_pos (by omega)]
    rw [ew, hcur, carr_sh]
    exact hb
  | succ m ih =>
    intro n i s M hi hn h hr hcur hsd
    obtain ⟨n, rfl⟩ : ∃ q, n = q + 1 := ⟨n - 1, by omega⟩
    have hiv : i < vMen k.1 := by omega
    obtain ⟨e1, e2, e3, e4, e5⟩ := h.k0
    obtain ⟨r1, r2, r3⟩ := hr
    have h6 := h.1.1.1.1
    have hat := m_at (fu := fu) (M := M) (r := 2) (i := i) (by decide) r1 r2 (by omega) hiv
    rw [r3 i hiv] at hat
    have h' := tC_i h (nI (D i))
    obtain ⟨M1, a1, a2, a3⟩ := m_shade (fu := fu) hf h' (by omega) hiv (c := D i) (hD i hiv).2
    have esh : vShade (cur s) i = vShade k.1 i := by
      rw [hcur, ← e3]
      show (if i < i then D i else vShade (cur k) i) = _
      rw [if_neg (Nat.lt_irrefl i)]
    have hr' : RD 2 k D M1 := RD.cg (RD.cg ⟨r1, r2, r3⟩ ((tC_out (nI (D i)) M).f fun j => by omega) ((tC_out (nI (D i)) M).f fun j => by omega)) (a3.f fun j => by unfold pN; omega) (a3.f fun j => by unfold pN; omega)
    have hat' : F_X6_at fu M 2 (nI i) = _ := hat
    unfold F_L_law_383
    rw [if_neg (nI_ge hiv (by omega)), if_neg (nI_nle hc0 (by omega)), hat', ob2_s, if_pos rfl, m_asked, ob1_s, tC_a, a1, ob2_s, L12, nI_add, x86 (by omega), clN (by omega), (sv_b a2 hiv).2.1, esh, if_pos rfl, nI_1]
    exact ih n (i + 1) _ M1 (by omega) (by omega) a2 hr' (by rw [nxt_cur, hcur]; exact shV_s _ _ _) (by rw [nxt_n, hsd])
theorem T330 {L : Nat} {xs : Nat → Int32} {fu : Nat} {M : Mm} {k291 : Mm → Int32 → Int32 → Int32 → Option Unit} {x3 x5 x9 : Int32} {b C : Bool} (h9 : 0 ≤ x9 ∨ x9 = -9) (he : (x9 = 0) = (C = b)) (go : F_L_law_383 L xs fu k291 fu M x3 x5 (bI b) x9 0 = some ()) : F_L_law_330 L xs fu k291 M x3 x5 (bI b) x9 (bI C) = some () := by
  have e344 : F_L_law_344 L xs fu k291 M x3 x5 (bI b) x9 (bI C) = some () := by
    have e375 : ∀ t, F_L_law_375 L xs fu k291 M x3 x5 (bI b) x9 t t = some () := fun t => by
      unfold F_L_law_375
      rw [if_pos rfl]
      exact go
    have e367 : ∀ t, (t = if C = b then (1 : Int32) else 0) → F_L_law_367 L xs fu k291 M x3 x5 (bI b) x9 t (bI C) (bI b) = some () := fun t ht => by
      unfold F_L_law_367
      by_cases hq : C = b
      · rw [if_pos (by rw [hq]), ht, if_pos hq]
        exact e375 1
      · rw [if_neg (fun z => hq (bI_inj.mp z)), ht, if_neg hq]
        exact e375 0
    have e354 : ∀ t, (t = if C = b then (1 : Int32) else 0) → F_L_law_354 L xs fu k291 M x3 x5 (bI b) x9 (bI C) t = some () := fun t ht => by
      unfold F_L_law_354
      cases b with
      | true => rw [if_pos (by decide)]; exact e367 t ht
      | false => rw [if_neg (by decide)]; exact e367 t ht
    unfold F_L_law_344
    by_cases h0 : x9 = 0
    · rw [if_pos h0]
      exact e354 1 (by rw [if_pos (he.mp h0)])
    · rw [if_neg h0]
      exact e354 0 (by rw [if_neg (fun z => h0 (he.mpr z))])
  unfold F_L_law_330
  rcases h9 with h9 | h9
  · rw [if_pos h9]
    exact e344
  · by_cases h0 : 0 ≤ x9
    · rw [if_pos h0]
      exact e344
    · rw [if_neg h0, if_pos h9]
      exact e344
theorem T291_b {L : Nat} {xs : Nat → Int32} {fu : Nat} (hf : 1000 ≤ fu) {k : Ns} {M : Mm} (h : IV k k M) {d n : Nat} (hd : d < 61) {b : Bool} (hk : ∀ M', IV k k M' → F_L_law_291 L xs fu n M' (nI (vMen k.1)) (nI d) (bI b + 1) = some ()) : F_L_law_291 L xs fu (n + 1) M (nI (vMen k.1)) (nI d) (bI b) = some () := by
  obtain ⟨hv, hc, hm, h0, h6⟩ := h.v
  obtain ⟨e1, e2, e3, e4, e5⟩ := h.k0
  have y1 := yes_le (cur k) d
  have y2 := nay_le (cur k) d
  have yn := yes_nay hv d
  have step : ∀ {x9 : Int32} {M1 : Mm}, IV k k M1 → F_X6_bribe fu M (bI b) (nI d) 2 = some (x9, M1) → (0 ≤ x9 ∨ x9 = -9) → ((x9 = 0) = (carr (cur k) (wN (cur k) d) = b)) → (∀ M2, M2 = tC (nI (nay (cur k) d)) M1 → F_L_law_383 L xs fu (F_L_law_291 L xs fu n) fu M2 (nI (vMen k.1)) (nI d) (bI b) x9 0 = some ()) → F_L_law_291 L xs fu (n + 1) M (nI (vMen k.1)) (nI d) (bI b) = some () := by
    intro x9 M1 h1 hbr h9 he go
    obtain ⟨-, hc1, -⟩ := h1.v
    have hvo := m_votes (fu := fu) hf hv hc1 h0 hd
    unfold F_L_law_291
    rw [if_neg (by cases b <;> decide), hbr, ob2_s, hvo, ob2_s, m_asked, ob1_s, tC_a]
    have fin := T330 (L := L) (xs := xs) h9 he (go _ rfl)
    by_cases hy : yes (cur k) d ≤ nay (cur k) d
    · rw [if_pos (nI_le hy (by omega))]
      rw [show carr (cur k) (wN (cur k) d) = false from yn.mp hy] at fin
      exact fin
    · rw [if_neg (nI_ge (by omega) (by omega))]
      have ht : carr (cur k) (wN (cur k) d) = true := by
        cases hq : carr (cur k) (wN (cur k) d) with
        | true => rfl
        | false => exact absurd (yn.mpr hq) hy
      rw [ht] at fin
      exact fin
  have early : ∀ {x9 : Int32} {M1 : Mm}, IV k k M1 → x9 ≤ 0 → F_L_law_383 L xs fu (F_L_law_291 L xs fu n) fu (tC (nI (nay (cur k) d)) M1) (nI (vMen k.1)) (nI d) (bI b) x9 0 = some () := by
    intro x9 M1 h1 h9
    obtain ⟨f, hfu⟩ : ∃ q, fu = q + 1 := ⟨fu - 1, by omega⟩
    have e := T433 (L := L) (xs := xs) hf (tC_i h1 (nI (nay (cur k) d))) hd (Or.inl h9) hk
    rw [show F_L_law_383 L xs fu (F_L_law_291 L xs fu n) fu = F_L_law_383 L xs fu (F_L_law_291 L xs fu n) (f + 1) by rw [← hfu]]
    unfold F_L_law_383
    rw [if_neg (nI_nle (by omega) (by omega)), if_pos h9]
    exact e
  rcases m_bribe (fu := fu) hf hv hc h0 b hd (r := 2) (by decide) with ⟨q1, M1, a1, a2⟩ | ⟨c0, s0, M1, q1, q2, q3, a1, a2, a3, a4, a5⟩
  · have h1 : IV k k M1 := h.out a2 fun x j q => by omega
    have hn := bribe_none q1
    refine step h1 a1 (Or.inr rfl) (propext ⟨fun z => absurd z (by decide), fun z => absurd (by simpa using z) hn⟩) fun M2 e => ?_
    rw [e]
    exact early h1 (by decide)
  · have h1 : IV k k M1 := h.out a5 fun x j q => by omega
    obtain ⟨b1, b2, b3, b4⟩ := bribe_some q1
    have e3' : (nI c0 = 0) = (c0 = 0) := by rw [L0, eqN (by omega) (by omega)]
    refine step h1 a1 (Or.inl (nI_pos' (by omega))) (by rw [e3', b3]; simp) fun M2 e => ?_
    by_cases hc0 : c0 = 0
    · subst hc0
      rw [e]
      exact early h1 (by decide)
    · subst e
      have h2 := tC_i h1 (nI (nay (cur k) d))
      rw [e1] at b1 b4 a3 a4
      have hD : ∀ j, j < vMen k.1 → nr (cur k) d j (s0.testBit j) = some ((fun j => (nr (cur k) d j (s0.testBit j)).getD 0) j) ∧ (fun j => (nr (cur k) d j (s0.testBit j)).getD 0) j ≤ 9 := fun j hj => by
        obtain ⟨x, hx⟩ := b4 j hj
        have := nr_le hv (show j < vMen (cur k) by omega) hx
        show nr (cur k) d j (s0.testBit j) = some ((nr (cur k) d j (s0.testBit j)).getD 0) ∧ (nr (cur k) d j (s0.testBit j)).getD 0 ≤ 9
        rw [hx]
        exact ⟨rfl, this⟩
      have hr : RD 2 k (fun j => (nr (cur k) d j (s0.testBit j)).getD 0) M1 := ⟨a2, a3, fun j hj => by
        rw [a4 j hj]
        obtain ⟨x, hx⟩ := b4 j hj
        show oI (nr (cur k) d j (s0.testBit j)) = nI ((nr (cur k) d j (s0.testBit j)).getD 0)
        rw [hx]
        rfl⟩
      exact T383 hf hd b1 (by omega) q2 hD (by simpa using b2) hk (vMen k.1) fu 0 k _ (by omega) (by omega) h2 (hr.cg ((tC_out _ M1).f fun j => by omega) ((tC_out _ M1).f fun j => by omega)) (shV_0 _ _).symm h.1.2.2.1
theorem T291 {L : Nat} (hL : L ≤ 260) {xs : Nat → Int32} {fu : Nat} (hf : 1000 ≤ fu) {k : Ns} {M : Mm} (h : IV k k M) {d : Nat} (hd : d < 61) : F_L_law_291 L xs fu fu M (nI (vMen k.1)) (nI d) 0 = some () := by
  obtain ⟨f, hfu⟩ : ∃ q, fu = q + 3 := ⟨fu - 3, by omega⟩
  rw [show F_L_law_291 L xs fu fu = F_L_law_291 L xs fu (f + 3) by rw [← hfu]]
  exact T291_b (b := false) hf h hd fun M1 h1 => T291_b (b := true) hf h1 hd fun M2 h2 => T291_2 hL hf h2 hd
theorem T278 {L : Nat} (hL : L ≤ 260) {xs : Nat → Int32} {fu : Nat} (hf : 1000 ≤ fu) {k s : Ns} {M : Mm} (h : IV k s M) {d : Nat} (hd : d < 61) : F_L_law_278 L xs fu M (nI (vMen k.1)) (nI d) = some () := by
  obtain ⟨M1, o1, o2, o3⟩ := m_on (fu := fu) hf h
  unfold F_L_law_278
  rw [o1, ob2_s, if_pos rfl]
  exact T291 hL hf o2 hd
theorem T224 {L : Nat} {xs : Nat → Int32} {fu : Nat} {k120 : Mm → Int32 → Int32 → Int32 → Int32 → Int32 → Int32 → Option Unit} {M : Mm} {x3 x5 x6 x7 : Int32} {set i D : Nat} (hs : set < 64) (hi : i < 6) (h : set.testBit i = false → nI D = M.1 86 (12 + i)) (go : k120 M x3 (nI set) x5 x6 x7 (nI (i + 1)) = some ()) : F_L_law_224 L xs fu k120 M x3 (nI set) x5 x6 x7 (nI i) (nI D) = some () := by
  unfold F_L_law_224
  rw [isIn_b set hs i hi, nI_1]
  cases hb : set.testBit i with
  | true =>
    rw [if_neg (by decide)]
    exact go
  | false =>
    rw [if_pos (by decide), L12, nI_add, x86 (by omega), clN (by omega), if_pos (h hb)]
    exact go
theorem T120 {L : Nat} (hL : L ≤ 260) {xs : Nat → Int32} {fu : Nat} (hf : 1000 ≤ fu) {k : Ns} {set d g : Nat} (hd : d < 61) (hset : set < 2 ^ vMen k.1) (hg : g ≤ 1000) {D : Nat → Nat} (hD : ∀ j, j < vMen k.1 → glO (cur k) set d j = some (D j)) : ∀ (m n i a : Nat) (s : Ns) (M : Mm), i + m = vMen k.1 → m < n → IV k s M → RD 0 k D M → cur s = shV (cur k) (upto D (vShade (cur k)) i) → s.2.2.1 = i → gS (cur k) set d m i a = some g → F_L_law_120 L xs fu n M (nI (vMen k.1)) (nI set) (nI d) (nI g) (nI a) (nI i) = some () := by
  intro m
  induction m with
  | zero =>
    intro n i a s M hi hn h hr hcur hsd hgs
    obtain ⟨n, rfl⟩ : ∃ q, n = q + 1 := ⟨n - 1, by omega⟩
    obtain ⟨hv, hc, hm, h0, h6⟩ := h.v
    obtain ⟨e1, -⟩ := h.k0
    have hvk := h.1.1.v
    have hii : i = vMen k.1 := by omega
    have hag : a = g := by injection hgs
    have hgo : ∀ j, j < vMen (cur k) → glO (cur k) set d j = some (upto D (vShade (cur k)) i j) := fun j hj => by
      rw [hD j (by omega)]
      show some (D j) = some (if j < i then D j else _)
      rw [if_pos (by omega)]
    have hz : gS (cur s) set d (vMen (cur s)) 0 0 = some 0 := by
      rw [hcur]
      exact gS_0 (v := shV (cur k) (upto D (vShade (cur k)) i)) (fun j hj => glO_sh hvk hgo hj) _ 0 0 (by omega)
    unfold F_L_law_120
    rw [if_pos (nI_le (by omega) (by omega))]
    unfold F_L_law_254
    rw [if_neg (nI_pos (by omega)), hag, if_pos rfl]
    rcases m_guard (fu := fu) hf hv hc h0 (s := set) (n := d) (r := 1) (by rw [hm]; exact hset) hd (by decide) with ⟨q, -⟩ | ⟨z, M1, q, a1, a2, a3, a4, a5⟩
    · rw [hz] at q; cases q
    · rw [hz] at q
      injection q with q
      subst q
      have h1 : IV k s M1 := h.out a5 fun x j q => by omega
      have a1' : F_X6_guard fu M (nI set) (nI d) 1 = _ := a1
      rw [a1', ob2_s, if_pos (show nI 0 = 0 from rfl)]
      exact T278 hL hf h1 hd
  | succ m ih =>
    intro n i a s M hi hn h hr hcur hsd hgs
    obtain ⟨n, rfl⟩ : ∃ q, n = q + 1 := ⟨n - 1, by omega⟩
    have hiv : i < vMen k.1 := by omega
    obtain ⟨e1, e2, e3, e4, e5⟩ := h.k0
    have hvk := h.1.1.v
    have h6 := h.1.1.1.1
    have h64 : set < 64 := Nat.lt_of_lt_of_le hset (Nat.pow_le_pow_right (n := 2) (by decide) h6)
    obtain ⟨r1, r2, r3⟩ := hr
    have hat := m_at (fu := fu) (M := M) (r := 0) (i := i) (by decide) r1 r2 (by omega) hiv
    rw [r3 i hiv] at hat
    have hDi := hD i hiv
    have hrg := glO_r hvk (show i < vMen (cur k) by omega) hDi
    have esk : vShade (cur k) i = vShade k.1 i := by rw [e3]
    have h' := tC_i h (nI (D i))
    obtain ⟨M1, a1, a2, a3⟩ := m_shade (fu := fu) hf h' (by omega) hiv (c := D i) hrg.2
    have esh : vShade (cur s) i = vShade k.1 i := by
      rw [hcur, ← e3]
      show (if i < i then D i else vShade (cur k) i) = _
      rw [if_neg (Nat.lt_irrefl i)]
    have hr' : RD 0 k D M1 := RD.cg (RD.cg ⟨r1, r2, r3⟩ ((tC_out (nI (D i)) M).f fun j => by omega) ((tC_out (nI (D i)) M).f fun j => by omega)) (a3.f fun j => by unfold pN; omega) (a3.f fun j => by unfold pN; omega)
    have hcur1 : cur (nxt s (2, i, D i)) = shV (cur k) (upto D (vShade (cur k)) (i + 1)) := by rw [nxt_cur, hcur]; exact shV_s _ _ _
    have hgs1 : gS (cur k) set d m (i + 1) (a + (D i - vShade k.1 i)) = some g := by
      unfold gS at hgs
      rw [hDi] at hgs
      rw [← esk]
      exact hgs
    have go := ih n (i + 1) _ _ M1 (by omega) (by omega) a2 hr' hcur1 (by rw [nxt_n, hsd]) hgs1
    have hat' : F_X6_at fu M 0 (nI i) = _ := hat
    have e224 : F_L_law_224 L xs fu (F_L_law_120 L xs fu n) M1 (nI (vMen k.1)) (nI set) (nI d) (nI g) (nI (a + (D i - vShade k.1 i))) (nI i) (nI (D i)) = some () := by
      refine T224 h64 (by omega) (fun hb => ?_) go
      rw [(sv_b a2 hiv).2.1]
      unfold glO at hDi
      rw [hb, if_neg (by decide)] at hDi
      injection hDi with hDi
      rw [← hDi, esk]
    unfold F_L_law_120
    rw [if_neg (nI_ge hiv (by omega)), if_neg (nI_pos (by omega)), hat', ob2_s, if_pos rfl, m_asked, ob1_s, tC_a, L12, nI_add, x86 (by omega), clN (by omega), (sv_b h' hiv).2.1, pk_sub (by omega), nI_add, lt1_s, x86n (by omega), if_neg (nI_nlt (by omega) (by omega)), L9, if_neg (nI_nlt (by omega) (by omega)), a1, ob2_s, x86n (by omega), (sv_b a2 hiv).2.1, esh, if_pos rfl, isIn_b set h64 i (by omega)]
    cases hb : set.testBit i with
    | false =>
      rw [if_neg (by decide)]
      exact e224
    | true =>
      obtain ⟨hv1, hc1, hm1, h01, -⟩ := a2.v
      have hbk := m_bulk (fu := fu) hf hv1 hc1 (i := i) (n := d) (by omega) hd
      rw [hcur1, blk_sh, show upto D (vShade (cur k)) (i + 1) i = D i from if_pos (by omega)] at hbk
      unfold glO at hDi
      rw [hb, if_pos rfl] at hDi
      have hp := (srO_r _ _ hDi).2.2
      unfold grdP at hp
      have hp := of_decide_eq_true hp
      have h99 := (hvk.2.2.2.2.2 i (by omega)).2.2.1
      rw [if_pos (by decide), hbk, ob1_s, if_neg (nI_ne0 hp (by omega))]
      exact e224
theorem gS_le {v : NV} (hv : okV v) {set N : Nat} : ∀ m i a g, i + m ≤ vMen v → gS v set N m i a = some g → g ≤ a + 9 * m := by
  intro m
  induction m with
  | zero => intro i a g _ h; injection h with h; omega
  | succ m ih =>
    intro i a g hi h
    unfold gS at h
    cases hg : glO v set N i with
    | none => rw [hg] at h; cases h
    | some d =>
      rw [hg] at h
      have := glO_r hv (show i < vMen v by omega) hg
      have := ih (i + 1) _ g (by omega) h
      omega
theorem T84 {L : Nat} (hL : L ≤ 260) {xs : Nat → Int32} {fu : Nat} (hf : 1000 ≤ fu) {k : Ns} {M : Mm} (h : IV k k M) {set n1 : Nat} (hset : set < 2 ^ vMen k.1) (h1 : 0 < n1) (h61 : n1 ≤ 61) (t0 : Int32) : F_L_law_84 L xs fu M (nI (vMen k.1)) (nI set) t0 (nI n1) = some () := by
  obtain ⟨hv, hc, hm, h0, h6⟩ := h.v
  obtain ⟨e1, -⟩ := h.k0
  obtain ⟨d, hd, ed⟩ := up_e t0 h1 (by omega)
  unfold F_L_law_84
  rw [ed, ob1_s]
  rcases m_guard (fu := fu) hf hv hc h0 (s := set) (n := d) (r := 0) (by rw [hm]; exact hset) (by omega) (by decide) with ⟨q, M1, a1, a2⟩ | ⟨g, M1, q, a1, a2, a3, a4, a5⟩
  · have h2 : IV k k M1 := h.out a2 fun x j q => by omega
    have a1' : F_X6_guard fu M (nI set) (nI d) 0 = _ := a1
    rw [a1', ob2_s, if_neg (by decide), if_pos rfl]
    obtain ⟨f, hfu⟩ : ∃ q, fu = q + 1 := ⟨fu - 1, by omega⟩
    rw [show F_L_law_120 L xs fu fu = F_L_law_120 L xs fu (f + 1) by rw [← hfu]]
    unfold F_L_law_120
    rw [if_neg (nI_nle (by omega) (by omega)), if_pos (by decide)]
    unfold F_L_law_254
    rw [if_pos (by decide)]
    exact T278 hL hf h2 (by omega)
  · have h2 : IV k k M1 := h.out a5 fun x j q => by omega
    have a1' : F_X6_guard fu M (nI set) (nI d) 0 = _ := a1
    have hle := gS_le hv _ _ _ _ (by omega) q
    rw [a1', ob2_s, if_pos (nI_pos' (by omega))]
    rw [hm] at q a3 a4
    exact T120 hL hf (by omega) hset (by omega) (D := fun j => (glO (cur k) set d j).getD 0) (fun j hj => by
      obtain ⟨x, hx, -⟩ := a4 j hj
      rw [hx]
      rfl) (vMen k.1) fu 0 0 k M1 (by omega) (by omega) h2 ⟨a2, a3, fun j hj => by
      obtain ⟨x, hx, hx2⟩ := a4 j hj
      show M1.1 (1 + 0 + 6) j = nI ((glO (cur k) set d j).getD 0)
      rw [hx2, hx]
      rfl⟩ (shV_0 _ _).symm h.1.2.2.1 q
theorem shl6 : ∀ m, m < 7 → (1 : Int32) <<< (nI m &&& 31) = nI (2 ^ m) := by decide
theorem law_pure (L : Nat) (xs : Nat → Int32) (hL : L ≤ 260) : ∃ fu, F_L_law_13 L xs fu M0 = some () := by
  refine ⟨5000, ?_⟩
  have hf : 1000 ≤ 5000 := by decide
  generalize 5000 = fu at hf ⊢
  obtain ⟨v, M1, a1, a2, a3, -⟩ := lay_e hL (xs := xs) hf M0
  obtain ⟨M2, b1, q, b2, b3, b4, b5, b6, b7⟩ := made_e hf a2 a3
  have hm0 : 0 < vMen (newN q).1 := by show 0 < rM q; rw [b2]; exact a2.2.1
  obtain ⟨M3, c1, c2, c3⟩ := m_keep hf b5 b6 hm0
  have e86 : M3.1 86 = M1.1 86 := (c3.f fun j => by omega).trans b7
  have hk : vMen (newN q).1 = vMen v := b2
  have hIV : IV (newN q) (newN q) M3 := by
    refine ⟨⟨b5, hm0, rfl, c2, ?_, fun i hi => ?_⟩, b5, rfl, rfl, b6.cg fun x h1 h2 => c3.f fun j => by omega⟩
    · rw [e86, a3.2.1, ← b3]
      rfl
    · obtain ⟨s1, s2, s3, s4⟩ := a3.2.2.2 i (by omega)
      obtain ⟨t1, t2, t3, t4⟩ := b4 i (by omega)
      have hb := a2.2.2.2.2 i (by omega)
      rw [e86, s2, s3, ← t2, ← t3]
      exact ⟨rfl, rfl, by show 1 ≤ rB q i; omega⟩
  have e34 : M3.1 86 34 = nI (vMen (newN q).1) := by rw [e86, a3.1, hk]
  have h6 := hIV.1.1.1.1
  obtain ⟨x8, ex8⟩ := cell_e hL xs (j := 8) (by omega)
  obtain ⟨x9, ex9⟩ := cell_e hL xs (j := 9) (by omega)
  have hp := Nat.two_pow_pos (vMen (newN q).1)
  have hp64 : 2 ^ vMen (newN q).1 ≤ 2 ^ 6 := Nat.pow_le_pow_right (n := 2) (by decide) h6
  obtain ⟨set, hset, eset⟩ := up_e x8 hp (by omega)
  obtain ⟨u, hu, eu⟩ := up_e (x9 >>> ((8 : Int32) &&& 31)) (n := 2) (by decide) (by decide)
  have c1' : F_X6_keep fu M2 0 = some (0, M3) := c1
  have ex8' : F_L_cell L xs fu M3 8 = some x8 := ex8 fu M3
  have ex9' : F_L_cell L xs fu M3 9 = some x9 := ex9 fu M3
  have eu' : F_L_up fu M3 (x9 >>> ((8 : Int32) &&& 31)) 2 = some (nI u) := eu fu M3
  unfold F_L_law_13
  rw [a1, ob1_s, b1, ob2_s, if_neg (by decide), c1', ob2_s, if_pos rfl, L34, x86 (by omega), clN (by omega), e34, ex8', ob1_s, shl6 _ (by omega), eset, ob1_s, ex9', ob1_s, ob1_s, eu', ob1_s]
  by_cases h0 : nI u = 0
  · rw [if_pos h0]
    exact T84 hL hf hIV hset (n1 := 61) (by decide) (by decide) x9
  · rw [if_neg h0]
    exact T84 hL hf hIV hset (n1 := 8) (by decide) (by decide) x9
