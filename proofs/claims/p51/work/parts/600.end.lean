/-! the law's last roads: the kept north is as it was; rights, lots, clouds -/
theorem IV.k0 {k s : Ns} {M : Mm} (h : IV k s M) : vMen (cur k) = vMen k.1 ∧ vBulk (cur k) = vBulk k.1 ∧ vShade (cur k) = vShade k.1 ∧ vRight (cur k) = k.2.2.2 ∧ vDay (cur k) = 0 := by
  have e := cur_0 h.1.2.2.1
  rw [e]
  exact ⟨rfl, rfl, rfl, rfl, h.1.1.2.1⟩
theorem blkZ (v : NV) (i : Nat) : blk v i 0 = vBulk v i := rfl
theorem tl2 (v : NV) (i : Nat) : tlF v i 2 = nI (vShade v i) := rfl
theorem tl4 (v : NV) (i : Nat) : tlF v i 4 = bI ((whoN v (vRight v) 0).testBit i) := rfl
theorem tC_a (x : Int32) (M : Mm) : (tC x M).1 0 9 = x := pI_s
theorem tC_i {k s : Ns} {M : Mm} (h : IV k s M) (x : Int32) : IV k s (tC x M) := h.out (tC_out x M) fun y j q => by omega
theorem sv_b {k s : Ns} {M : Mm} (h : IV k s M) {i : Nat} (hi : i < vMen k.1) : M.1 86 (6 + i) = nI (vBulk k.1 i) ∧ M.1 86 (12 + i) = nI (vShade k.1 i) ∧ 1 ≤ vBulk k.1 i ∧ vBulk k.1 i ≤ 99 ∧ vShade k.1 i ≤ 9 := by
  obtain ⟨a, b, c⟩ := h.1.2.2.2.2.2 i hi
  have := h.1.1.1.2.2 i hi
  exact ⟨a, b, c, this.2.2.1, this.2.2.2⟩
theorem T1264 {L : Nat} {xs : Nat → Int32} {fu : Nat} (hf : 1000 ≤ fu) {k : Ns} : ∀ (m n i : Nat) (M : Mm), i + m = vMen k.1 → m < n → IV k k M → F_L_law_1264 L xs fu n M (nI (vMen k.1)) 1 (nI i) = some () := by
  intro m
  induction m with
  | zero =>
    intro n i M hi hn h
    have h6 := h.1.1.1.1
    obtain ⟨n, rfl⟩ : ∃ q, n = q + 1 := ⟨n - 1, by omega⟩
    unfold F_L_law_1264
    rw [if_pos (nI_le (by omega) (by omega)), if_neg (by decide)]
  | succ m ih =>
    intro n i M hi hn h
    obtain ⟨hv, hc, hm, h0, h6⟩ := h.v
    obtain ⟨e1, e2, e3, e4, e5⟩ := h.k0
    obtain ⟨n, rfl⟩ : ∃ q, n = q + 1 := ⟨n - 1, by omega⟩
    have hiv : i < vMen k.1 := by omega
    have hiv' : i < vMen (cur k) := by omega
    obtain ⟨s1, s2, s3, s4, s5⟩ := sv_b h hiv
    have hb := m_bulk (fu := fu) hf hv hc hiv' (n := 0) (by decide)
    rw [blkZ, e2] at hb
    have hma := m_man (fu := fu) hf hv hc hiv' (w := 2) (by decide)
    rw [tl2, e3] at hma
    have h' := tC_i h (nI (vShade k.1 i))
    have hb' : F_X6_bulk fu M (nI i) 0 = _ := hb
    have hma' : F_X6_man fu M (nI i) 2 = _ := hma
    unfold F_L_law_1264
    rw [if_neg (nI_ge (by omega) (by omega)), if_neg (by decide), hb', ob1_s, L6, nI_add, x86 (by omega), clN (by omega), s1, if_pos rfl, hma', ob2_s, if_pos rfl, m_asked, ob1_s, tC_a, L12, nI_add, x86 (by omega), clN (by omega), (sv_b h' hiv).2.1, if_pos rfl, nI_1]
    exact ih n (i + 1) _ (by omega) (by omega) h'
theorem bits_all : ∀ s, s < 64 → nI s &&& (1 : Int32) = nI (s % 2) ∧ nI s >>> ((1 : Int32) &&& 31) = nI (s / 2) := by decide +kernel
theorem bits_e {fu : Nat} {M : Mm} : ∀ (m n s a : Nat), s < 2 ^ m → m ≤ 6 → m < n → ∃ c, c ≤ m ∧ F_L_bits_4 fu M n (nI a) (nI s) = some (nI (a + c)) := by
  intro m
  induction m with
  | zero =>
    intro n s a hs _ hn
    obtain ⟨n, rfl⟩ : ∃ q, n = q + 1 := ⟨n - 1, by omega⟩
    have : s = 0 := by omega
    subst this
    exact ⟨0, Nat.le_refl _, by unfold F_L_bits_4; exact if_pos (by decide)⟩
  | succ m ih =>
    intro n s a hs hm hn
    obtain ⟨n, rfl⟩ : ∃ q, n = q + 1 := ⟨n - 1, by omega⟩
    rw [Nat.pow_succ] at hs
    have h64 : 2 ^ m ≤ 2 ^ 5 := Nat.pow_le_pow_right (by decide) (by omega)
    obtain ⟨b1, b2⟩ := bits_all s (by omega)
    by_cases h0 : s = 0
    · subst h0
      exact ⟨0, Nat.zero_le _, by unfold F_L_bits_4; exact if_pos (by decide)⟩
    · obtain ⟨c, c1, c2⟩ := ih n (s / 2) (a + s % 2) (by omega) (by omega) (by omega)
      refine ⟨s % 2 + c, by omega, ?_⟩
      unfold F_L_bits_4
      rw [if_neg (nI_nle (by omega) (by omega)), b1, b2, nI_add, c2, Nat.add_assoc]
theorem rg_all : ∀ R, R < 1024 → ∀ r, r < 10 → (nI R >>> (nI r &&& 31)) &&& (1 : Int32) = bI (R.testBit r) := by decide +kernel
theorem full_pc : ∀ m, m < 7 → pc (bset (fun _ => true) m) = m := by decide
theorem who_full {k : Ns} {M : Mm} (h : IV k k M) {s : Ns} (hs : vMen (cur s) = vMen k.1 ∧ vBulk (cur s) = vBulk k.1) : pc (whoN (cur s) 1 0) = vMen k.1 := by
  have h6 := h.1.1.1.1
  have e : whoN (cur s) 1 0 = bset (fun _ => true) (vMen k.1) := by
    unfold whoN
    rw [hs.1]
    refine bset_cg _ fun i hi => ?_
    have := (sv_b h hi).2.2.1
    show hasR (vKind (cur s) i) (vBulk (cur s) i - 0) 1 = true
    rw [hs.2]
    unfold hasR
    by_cases h4 : vKind (cur s) i = 4
    · rw [if_pos h4]; exact decide_eq_true (by omega)
    · rw [if_neg h4]; exact decide_eq_true (by omega)
  rw [e]
  exact full_pc _ (by omega)
theorem shl_b : ∀ i, i < 10 → ((0 : Int32) <<< (nI i &&& 31)) = 0 := by decide
theorem T1138 {L : Nat} (hL : L ≤ 260) {xs : Nat → Int32} {fu : Nat} (hf : 1000 ≤ fu) {k : Ns} : ∀ (m n i : Nat) (M : Mm), i + m = vMen k.1 → m < n → IV k k M → F_L_law_1138 L xs fu n M (nI (vMen k.1)) (nI k.2.2.2) (nI (bset (fun j => (whoN (cur k) (vRight (cur k)) 0).testBit j) i)) (nI i) = some () := by
  intro m
  induction m with
  | zero =>
    intro n i M hi hn h
    obtain ⟨hv, hc, hm, h0, h6⟩ := h.v
    obtain ⟨e1, e2, e3, e4, e5⟩ := h.k0
    obtain ⟨n, rfl⟩ : ∃ q, n = q + 1 := ⟨n - 1, by omega⟩
    have hii : i = vMen k.1 := by omega
    subst hii
    have hw2 := whoN_lt2 (cur k) (vRight (cur k)) 0
    have h64 := p2le hv
    have ew : bset (fun j => (whoN (cur k) (vRight (cur k)) 0).testBit j) (vMen k.1) = whoN (cur k) (vRight (cur k)) 0 := by
      rw [← e1]
      refine bits_eq (n := vMen (cur k)) (bset_lt _ _) hw2 fun j hj => ?_
      rw [bset_bit, decide_eq_true hj, Bool.true_and]
    rw [ew]
    have hrt := hv.2.1 h0
    have hr9 := hv.2.2.1
    have hR := bset_lt (rgF (cur k) (whoN (cur k) (vRight (cur k)) 0)) 10
    obtain ⟨c, ec⟩ := cell_e hL xs (j := 12) (by omega)
    obtain ⟨a, ha, ea⟩ := up_e c (n := 9) (by decide) (by decide)
    have hk0 := h.1.2.2.1
    obtain ⟨M1, l1, l2, l3⟩ := m_lots (fu := fu) hf h (N := 1 + a) (by omega) (by omega) (by omega)
    obtain ⟨d1, d2, d3⟩ := cld_1 (1 + a) k
    rw [who_full h ⟨by rw [(cur_sb _).1, d1], d3.trans e2⟩] at l1
    obtain ⟨M2, o1, o2, o3⟩ := m_on (fu := fu) hf l2
    obtain ⟨b, b1, b2⟩ := bits_e (fu := fu) (M := M2) (vMen (cur k)) fu (whoN (cur k) (vRight (cur k)) 0) 0 hw2 (by omega) (by omega)
    have ec' : F_L_cell L xs fu M 12 = some c := ec fu M
    have ea' : F_L_up fu M c 9 = some (nI a) := ea fu M
    have l1' : F_X6_lots fu M (nI (1 + a)) (12 : Int32) (7 : Int32) = _ := l1
    have o1' : F_X6_on fu M2 0 = F_X6_on fu M2 0 := rfl
    have b2' : F_L_bits fu M2 (nI (whoN (cur k) (vRight (cur k)) 0)) = some (nI (0 + b)) := b2
    have c3 : M2.1 24 3 = 0 := by rw [o2.2.2.2.2.2.2.2.1, hk0]; rfl
    have c2 : M2.1 24 1 = M2.1 86 32 := by rw [o2.2.2.2.2.2.1, o2.1.2.2.2.2.1]
    unfold F_L_law_1138
    rw [if_pos (nI_le (by omega) (by omega)), m_rights hf hv hc hw2, ob1_s, ← e4, rg_all _ hR _ (by omega), bset_bit, decide_eq_true (show vRight (cur k) < 10 by omega), Bool.true_and, show rgF (cur k) (whoN (cur k) (vRight (cur k)) 0) (vRight (cur k)) = true from decide_eq_true ⟨by omega, rfl⟩, bI_t, if_pos rfl, ec', ob1_s, ea', ob1_s, L1, nI_add, l1', ob2_s, if_pos rfl, o1, ob2_s, if_pos rfl, b2', ob1_s, if_pos (nI_le (by omega) (by omega)), m_count3, ob1_s, c3, if_pos rfl, m_count2, ob1_s, L32, x86 (by omega), clN (by omega), if_pos c2]
    exact T1264 hf (vMen k.1) fu 0 M2 (by omega) (by omega) o2
  | succ m ih =>
    intro n i M hi hn h
    obtain ⟨hv, hc, hm, h0, h6⟩ := h.v
    obtain ⟨n, rfl⟩ : ∃ q, n = q + 1 := ⟨n - 1, by omega⟩
    have hiv : i < vMen (cur k) := by omega
    have hma := m_man (fu := fu) hf hv hc hiv (w := 4) (by decide)
    rw [tl4] at hma
    have hma' : F_X6_man fu M (nI i) 4 = _ := hma
    have hset := bset_lt (fun j => (whoN (cur k) (vRight (cur k)) 0).testBit j) i
    have h' := tC_i h (bI ((whoN (cur k) (vRight (cur k)) 0).testBit i))
    have ih1 := ih n (i + 1) _ (by omega) (by omega) h'
    unfold bset at ih1
    unfold F_L_law_1138
    rw [if_neg (nI_ge (by omega) (by omega)), hma', ob2_s, if_pos rfl, m_asked, ob1_s, tC_a, nI_1]
    cases hb : (whoN (cur k) (vRight (cur k)) 0).testBit i with
    | true =>
      rw [hb] at ih1
      rw [if_pos rfl] at ih1
      rw [show bI true = (1 : Int32) from rfl, or_bit i (by omega) _ hset]
      exact ih1
    | false =>
      rw [hb] at ih1
      rw [if_neg (by decide), Nat.add_zero] at ih1
      rw [show bI false = (0 : Int32) from rfl, shl_b i (by omega), or_0]
      exact ih1
