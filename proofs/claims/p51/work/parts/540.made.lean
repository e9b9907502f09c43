/-! the law lays the north: made() -/
theorem L16 : (16 : Int32) = nI 16 := rfl
theorem L18 : (18 : Int32) = nI 18 := rfl
theorem L24 : (24 : Int32) = nI 24 := rfl
theorem L33 : (33 : Int32) = nI 33 := rfl
theorem L34 : (34 : Int32) = nI 34 := rfl
theorem x86 {α : Type} {i : Nat} {a : Option α} (h : i < 40) : (if nI i < 0 ∨ ln 86 ≤ (nI i).toNatClampNeg then none else a) = a := xr (c := 86) (show i < ln 86 from h)
theorem x86n {α : Type} {i : Nat} {a : Option α} (h : i < 40) : (if nI i < 0 ∨ ln 86 ≤ i then none else a) = a := by
  have := x86 (a := a) h
  rwa [clN (by omega)] at this
def SQ (v : NV) (M : Mm) : Prop := M.1 86 34 = nI (vMen v) ∧ M.1 86 32 = nI (vRight v) ∧ (∀ j, j < 8 → M.1 86 (24 + j) = nI (vSun v j)) ∧ ∀ i, i < vMen v → M.1 86 i = nI (vKind v i) ∧ M.1 86 (6 + i) = nI (vBulk v i) ∧ M.1 86 (12 + i) = nI (vShade v i) ∧ M.1 86 (18 + i) = nI (vVote v i)
theorem SQ.cg {v : NV} {M M' : Mm} (h : SQ v M) (g : M'.1 86 = M.1 86) : SQ v M' := by
  unfold SQ
  rw [g]
  exact h
theorem SQ.o17 {v : NV} {M M' : Mm} (h : SQ v M) (o : Out (fun x _ => x = 17) M M') : SQ v M' := h.cg (o.f fun j => by omega)
theorem TXI.cg {v : NV} {w w' : Nat → Bool} {M : Mm} (h : TXI v w M) (g : ∀ p, p < 10 + 5 * vMen v → w p = w' p) : TXI v w' M := ⟨h.1, h.2.1, fun p hp => by rw [← g p hp]; exact h.2.2 p hp⟩
def wlt (b : Nat) : Nat → Bool := fun p => decide (p < b)
def w63 (j : Nat) : Nat → Bool := fun p => decide (p = 0 ∨ p = 9 ∨ (1 ≤ p ∧ p ≤ j))
theorem m_putN {fu : Nat} {M : Mm} {v : NV} (hm : vMen v ≤ 6) {p : Nat} (h : TXI v (wlt p) M) (hp : p < 10 + 5 * vMen v) {z : Int32} {a : Nat} (ha : a < 128) (hz : z = nI a) (ht : txF v p = nI a) : ∃ M', F_X6_put fu M 0 (nI p) z = some (1032, M') ∧ TXI v (wlt (p + 1)) M' ∧ Out (fun x _ => x = 17) M M' := by
  obtain ⟨M', e1, e2, e3⟩ := m_put (fu := fu) hm h hp (by unfold wlt; exact decide_eq_false (by omega)) ha hz ht
  refine ⟨M', e1, e2.cg fun x _ => ?_, e3⟩
  unfold wlt
  by_cases hx : x = p
  · rw [hx, show decide (p < p + 1) = true from decide_eq_true (by omega)]
    simp
  · have : (x == p) = false := by simp [hx]
    rw [this, Bool.false_or]
    exact decide_eq_decide.mpr ⟨fun h => by omega, fun h => by omega⟩
theorem letter_e {fu : Nat} {M : Mm} {k : Nat} (h : k ≤ 5) : F_L_letter fu M (nI k) = some (lttr k) := by
  have hc : k = 0 ∨ k = 1 ∨ k = 2 ∨ k = 3 ∨ k = 4 ∨ k = 5 := by omega
  rcases hc with rfl | rfl | rfl | rfl | rfl | rfl <;> rfl
theorem lttr_n {k : Nat} (h : k ≤ 5) : ∃ a, a < 128 ∧ lttr k = nI a := by
  have hc : k = 0 ∨ k = 1 ∨ k = 2 ∨ k = 3 ∨ k = 4 ∨ k = 5 := by omega
  rcases hc with rfl | rfl | rfl | rfl | rfl | rfl
  · exact ⟨109, by decide, rfl⟩
  · exact ⟨104, by decide, rfl⟩
  · exact ⟨119, by decide, rfl⟩
  · exact ⟨115, by decide, rfl⟩
  · exact ⟨108, by decide, rfl⟩
  · exact ⟨105, by decide, rfl⟩
/-- what stands when the law has made its north -/
def done1 (v : NV) (M M' : Mm) : Prop := ∃ q, rM q = vMen v ∧ rR q = vRight v ∧ agr v (vMen v) (rK q) (rB q) (rSh q) (rV q) ∧ okN (newN q) ∧ CN 24 (newN q) M' ∧ M'.1 86 = M.1 86
theorem made_114 {fu : Nat} (hf : 1000 ≤ fu) {v : NV} (hv : okL1 v) : ∀ (m n i : Nat) (M : Mm), i + m = vMen v → m < n → TXI v (wlt (10 + 5 * i)) M → SQ v M → ∃ M', F_L_made_114 fu n M 1 (nI i) = some (1, M') ∧ done1 v M M' := by
  intro m
  have hm := hv.1.1
  induction m with
  | zero =>
    intro n i M hi hn ht hs
    obtain ⟨n, rfl⟩ : ∃ q, n = q + 1 := ⟨n - 1, by omega⟩
    have hii : i = vMen v := by omega
    have h3 : ∀ p, p < 10 + 5 * vMen v → M.1 17 p = txF v p := fun p hp => by
      have := ht.2.2 p hp
      rwa [show wlt (10 + 5 * i) p = true from decide_eq_true (by omega), if_pos rfl] at this
    obtain ⟨M1, a1, a2⟩ := m_fault hf hv ht.1 ht.2.1 h3
    have g : ∀ x, x < 68 ∨ 73 < x → M1.1 x = M.1 x := fun x hx => a2.f fun j q => by unfold pS at q; omega
    obtain ⟨q, M2, b1, b2, b3, b4, b5, b6, b7⟩ := m_north hf hv (by rw [g 13 (by omega)]; exact ht.1) (by rw [g 13 (by omega)]; exact ht.2.1) (fun p hp => by rw [g 17 (by omega)]; exact h3 p hp)
    have e86 : M2.1 86 = M.1 86 := (b7.f fun j => by omega).trans (g 86 (by omega))
    refine ⟨M2, ?_, q, b2, b3, b4, b5, b6, e86⟩
    unfold F_L_made_114
    rw [L34, x86 (by omega), clN (by omega), hs.1, if_pos (nI_le (by omega) (by omega)), if_neg (by decide), a1, ob2_s, if_pos rfl, b1, ob2_s, x86n (by omega), e86, hs.1, if_pos rfl]
  | succ m ih =>
    intro n i M hi hn ht hs
    obtain ⟨n, rfl⟩ : ∃ q, n = q + 1 := ⟨n - 1, by omega⟩
    have hiv : i < vMen v := by omega
    obtain ⟨g1, g2, g3, g4⟩ := hv.1.2.2.2.2.2 i hiv
    obtain ⟨s1, s2, s3, s4⟩ := hs.2.2.2 i hiv
    obtain ⟨a, ha, hl⟩ := lttr_n g1
    obtain ⟨M1, a1, a2, a3⟩ := m_putN (fu := fu) (z := lttr (vKind v i)) hm ht (by omega) ha hl (by rw [tx_k]; exact hl)
    have hs1 := hs.o17 a3
    obtain ⟨M2, b1, b2, b3⟩ := m_putN (fu := fu) (z := nI (48 + vBulk v i / 10)) hm a2 (by omega) (show 48 + vBulk v i / 10 < 128 by omega) rfl (tx_1 v i)
    have hs2 := hs1.o17 b3
    obtain ⟨M3, c1, c2, c3⟩ := m_putN (fu := fu) (z := nI (48 + vBulk v i % 10)) hm b2 (by omega) (show 48 + vBulk v i % 10 < 128 by omega) rfl (tx_2 v i)
    have hs3 := hs2.o17 c3
    obtain ⟨M4, d1, d2, d3⟩ := m_putN (fu := fu) (z := nI (48 + vShade v i)) hm c2 (by omega) (show 48 + vShade v i < 128 by omega) rfl (tx_3 v i)
    have hs4 := hs3.o17 d3
    obtain ⟨M5, e1, e2, e3⟩ := m_putN (fu := fu) (z := nI (48 + vVote v i)) hm d2 (by omega) (show 48 + vVote v i < 128 by omega) rfl (tx_4 v i)
    have hs5 := hs4.o17 e3
    obtain ⟨M6, f1, q, f2, f3, f4, f5, f6, f7⟩ := ih n (i + 1) M5 (by omega) (by omega) (by rw [show 10 + 5 * (i + 1) = 10 + 5 * i + 1 + 1 + 1 + 1 + 1 by omega]; exact e2) hs5
    have o5 : Out (fun x _ => x = 17) M M5 := (((a3.trans b3).trans c3).trans d3).trans e3
    refine ⟨M6, ?_, q, f2, f3, f4, f5, f6, f7.trans (o5.f fun j => by omega)⟩
    unfold F_L_made_114
    rw [L34, x86 (by omega), clN (by omega), hs.1, if_neg (nI_ge hiv (by omega)), if_neg (by decide), x86 (by omega), clN (by omega), s1, letter_e g1, ob1_s, L10, L5, pk_mul, nI_add, a1, ob2_s, if_pos rfl, L6, nI_add, x86 (by omega), clN (by omega), (hs1.2.2.2 i hiv).2.1, L1, nI_add, show (48 : Int32) = nI 48 from rfl, pk_div (by omega) (by decide) (by decide), nI_add, b1, ob2_s, if_pos rfl, x86n (by omega), L2, nI_add, (hs2.2.2.2 i hiv).2.1, nI_rem (by omega) (by decide) (by decide), nI_add, show 10 + 5 * i + 2 = 10 + 5 * i + 1 + 1 from rfl, c1, ob2_s, if_pos rfl, L12, nI_add, x86 (by omega), clN (by omega), L3, nI_add, (hs3.2.2.2 i hiv).2.2.1, nI_add, show 10 + 5 * i + 3 = 10 + 5 * i + 1 + 1 + 1 from rfl, d1, ob2_s, if_pos rfl, L18, nI_add, x86 (by omega), clN (by omega), L4, nI_add, (hs4.2.2.2 i hiv).2.2.2, nI_add, show 10 + 5 * i + 4 = 10 + 5 * i + 1 + 1 + 1 + 1 from rfl, e1, ob2_s, if_pos rfl, nI_add]
    exact f1
theorem made_63 {fu : Nat} (hf : 1000 ≤ fu) {v : NV} (hv : okL1 v) : ∀ (m n j : Nat) (M : Mm), j + m = 8 → m < n → TXI v (w63 j) M → SQ v M → ∃ M', F_L_made_63 fu n M 1 (nI j) = some (1, M') ∧ done1 v M M' := by
  intro m
  have hm := hv.1.1
  induction m with
  | zero =>
    intro n j M hj hn ht hs
    obtain ⟨n, rfl⟩ : ∃ q, n = q + 1 := ⟨n - 1, by omega⟩
    have hjj : j = 8 := by omega
    obtain ⟨M1, a1, a2⟩ := made_114 hf hv (vMen v) fu 0 M (by omega) (by omega) (ht.cg fun p hp => by
      unfold w63 wlt
      exact decide_eq_decide.mpr ⟨fun h => by omega, fun h => by omega⟩) hs
    refine ⟨M1, ?_, a2⟩
    unfold F_L_made_63
    rw [L8, if_pos (nI_le (by omega) (by omega))]
    exact a1
  | succ m ih =>
    intro n j M hj hn ht hs
    obtain ⟨n, rfl⟩ : ∃ q, n = q + 1 := ⟨n - 1, by omega⟩
    have hsun := hv.1.2.2.2.2.1 j
    obtain ⟨M1, a1, a2, a3⟩ := m_put (fu := fu) (p := 1 + j) (z := nI (48 + vSun v j)) hm ht (by omega) (by unfold w63; exact decide_eq_false (by omega)) (show 48 + vSun v j < 128 by omega) rfl (tx_s v (by omega))
    obtain ⟨M2, b1, q, f2, f3, f4, f5, f6, f7⟩ := ih n (j + 1) M1 (by omega) (by omega) (a2.cg fun p hp => by
      unfold w63
      by_cases hx : p = 1 + j
      · rw [decide_eq_true (p := p = 0 ∨ p = 9 ∨ 1 ≤ p ∧ p ≤ j + 1) (by omega), hx]
        simp
      · have : (p == 1 + j) = false := by simp [hx]
        rw [this, Bool.false_or]
        exact decide_eq_decide.mpr ⟨fun h => by omega, fun h => by omega⟩) (hs.o17 a3)
    refine ⟨M2, ?_, q, f2, f3, f4, f5, f6, f7.trans (a3.f fun j => by omega)⟩
    unfold F_L_made_63
    rw [L8, if_neg (nI_ge (by omega) (by omega)), if_neg (by decide), L24, nI_add, x86 (by omega), clN (by omega), hs.2.2.1 j (by omega), L1, nI_add, show (48 : Int32) = nI 48 from rfl, nI_add, a1, ob2_s, if_pos rfl, nI_add]
    exact b1
theorem made_e {fu : Nat} (hf : 1000 ≤ fu) {v : NV} (hv : okL1 v) {M : Mm} (hs : SQ v M) : ∃ M', F_L_made fu M = some (1, M') ∧ done1 v M M' := by
  have hm := hv.1.1
  have hr := hv.1.2.2.1
  obtain ⟨M1, a1, a2, a3⟩ := m_text hf (M := M) hm
  have hs1 : SQ v M1 := hs.cg (a3.f fun j => by omega)
  obtain ⟨M2, b1, b2, b3⟩ := m_put (fu := fu) (p := 0) (z := 122) (a := 122) hm a2 (by omega) rfl (by decide) rfl rfl
  have hs2 := hs1.o17 b3
  obtain ⟨M3, c1, c2, c3⟩ := m_put (fu := fu) (p := 9) (z := nI (48 + vRight v)) hm b2 (by omega) rfl (show 48 + vRight v < 128 by omega) rfl (tx_r v)
  have hs3 := hs2.o17 c3
  obtain ⟨M4, d1, q, f2, f3, f4, f5, f6, f7⟩ := made_63 hf hv 8 fu 0 M3 (by omega) (by omega) (c2.cg fun p hp => by
    unfold w63
    by_cases h9 : p = 9
    · rw [decide_eq_true (p := p = 0 ∨ p = 9 ∨ 1 ≤ p ∧ p ≤ 0) (by omega), h9]
      rfl
    · by_cases h0 : p = 0
      · rw [decide_eq_true (p := p = 0 ∨ p = 9 ∨ 1 ≤ p ∧ p ≤ 0) (by omega), h0]
        rfl
      · rw [decide_eq_false (p := p = 0 ∨ p = 9 ∨ 1 ≤ p ∧ p ≤ 0) (by omega)]
        simp [h9, h0]) hs3
  refine ⟨M4, ?_, q, f2, f3, f4, f5, f6, f7.trans ((c3.f fun j => by omega).trans ((b3.f fun j => by omega).trans (a3.f fun j => by omega)))⟩
  unfold F_L_made
  rw [L34, x86 (by omega), clN (by omega), hs.1, L10, L5, pk_mul, nI_add, lt1_s, a1, ob2_s, if_pos rfl]
  have b1' : F_X6_put fu M1 0 0 122 = _ := b1
  rw [b1', ob2_s, if_pos rfl, L32, x86 (by omega), clN (by omega), hs2.2.1, show (48 : Int32) = nI 48 from rfl, nI_add, L9, c1, ob2_s, if_pos rfl]
  exact d1
