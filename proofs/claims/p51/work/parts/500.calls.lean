/-! the law's calls, one by one, on the class's north -/
theorem m_asked {fu : Nat} {M : Mm} : F_X6_asked fu M = some (M.1 0 9) := rfl
theorem m_upper {fu : Nat} {M : Mm} : F_X6_upper fu M = some (M.2 0 10) := rfl
theorem m_lower {fu : Nat} {M : Mm} : F_X6_lower fu M = some (M.2 0 11) := rfl
theorem m_at {fu : Nat} {M : Mm} {r i n : Nat} (hr : r < 6) (c1 : M.1 (1 + r) 0 = 1) (c2 : M.1 (1 + r) 1 = nI n) (hn : n ≤ 40) (hi : i < n) : F_X6_at fu M (nI r) (nI i) = some (1, tC (M.1 (1 + r + 6) i) M) := by
  unfold F_X6_at
  rw [rowOf_C1 hr, ob1_s, op1_s, kd_R hr, if_neg (by decide), c1, if_neg one_ne, c2, if_neg (nI_pos (by omega)), if_pos (nI_lt hi (by omega)), rdR hr (by omega), ob1_s]
  rfl
theorem m_bulk {fu : Nat} (hf : 1000 ≤ fu) {M : Mm} {v : NV} (hv : okV v) (hc : CV v M) {i n : Nat} (hi : i < vMen v) (hn : n < 61) : F_X6_bulk fu M (nI i) (nI n) = some (nI (blk v i n)) := by
  unfold F_X6_bulk
  rw [isMan_C1 hv hc hi, isAhead_C1 hn, bulkIn_C hf hv hc hi (by omega)]
  rfl
theorem m_gone {fu : Nat} (hf : 1000 ≤ fu) {M : Mm} {v : NV} (hv : okV v) (hc : CV v M) {i : Nat} (hi : i < vMen v) : F_X6_gone fu M (nI i) = some (srch (goneP v i) 61 0) := by
  unfold F_X6_gone
  rw [isMan_C1 hv hc hi, goneIn_C hf hv hc hi]
  rfl
/-- how many vote 1, n days from now; how many 0 -/
def yes (v : NV) (n : Nat) : Nat := pc (onesN v (whoN v (vRight v) n))
def nay (v : NV) (n : Nat) : Nat := pc (whoN v (vRight v) n) - pc (onesN v (whoN v (vRight v) n))
theorem m_votes {fu : Nat} (hf : 1000 ≤ fu) {M : Mm} {v : NV} (hv : okV v) (hc : CV v M) (h0 : 0 < vMen v) {n : Nat} (hn : n < 61) : F_X6_votes fu M (nI n) = some (nI (yes v n), tC (nI (nay v n)) M) := by
  have hw := whoN_lt hv (vRight v) n
  have hz := zero_eq hv (s := whoN v (vRight v) n) (bset_lt _ _)
  unfold F_X6_votes
  rw [isAhead_C1 hn, ob1_s, if_neg (by decide), if_neg (by rw [men0_C hv hc]; omega), votersIn_C hf hv hc (by omega), ob1_s, onesAmong_C hf hv hc hw, ob1_s, bc_C (onesN_lt hv _), ob1_s, bc_C hw, ob1_s, pk_sub hz.2]
  rfl
theorem yes_nay {v : NV} (hv : okV v) (n : Nat) : (yes v n ≤ nay v n) = (carr v (whoN v (vRight v) n) = false) := by
  have hz := zero_eq hv (s := whoN v (vRight v) n) (bset_lt _ _)
  unfold yes nay carr
  rw [decide_eq_false_iff_not]
  exact propext ⟨fun h => by omega, fun h => by omega⟩
theorem yes_le (v : NV) (n : Nat) : yes v n ≤ 6 := pc_le _
theorem nay_le (v : NV) (n : Nat) : nay v n ≤ 6 := Nat.le_trans (Nat.sub_le _ _) (pc_le _)
theorem widow_C {fu : Nat} (hf : 1000 ≤ fu) {M : Mm} {v : NV} (hv : okV v) (hc : CV v M) : ∀ (m n i : Nat) (cw cs : Int32), i + m = vMen v → m < n → ((cw = -9 ∧ cs = nI 61) ∨ (∃ w s, w < vMen v ∧ cw = nI w ∧ s < 61 ∧ cs = nI s ∧ srch (goneP v w) 61 0 = nI s)) → F_X6_widow_21 fu n M cw cs (nI i) = some (-9, M) ∨ ∃ w s : Nat, w < vMen v ∧ s < 61 ∧ srch (goneP v w) 61 0 = nI s ∧ F_X6_widow_21 fu n M cw cs (nI i) = some (nI w, tC (nI s) M) := by
  intro m
  have hm := hv.1
  induction m with
  | zero =>
    intro n i cw cs hi hn hr
    obtain ⟨n, rfl⟩ : ∃ q, n = q + 1 := ⟨n - 1, by omega⟩
    unfold F_X6_widow_21
    rw [hc.1, if_pos (nI_le (by omega) (by omega))]
    rcases hr with ⟨rfl, rfl⟩ | ⟨w, s, hw1, rfl, hs, rfl, hg⟩
    · exact Or.inl (by rw [if_pos rfl])
    · exact Or.inr ⟨w, s, hw1, hs, hg, by rw [if_neg (neg9' (by omega))]; rfl⟩
  | succ m ih =>
    intro n i cw cs hi hn hr
    obtain ⟨n, rfl⟩ : ∃ q, n = q + 1 := ⟨n - 1, by omega⟩
    have hc1 : F_X6_widow_21 fu (n + 1) M cw cs (nI i) = (if srch (goneP v i) 61 0 ≤ 0 then F_X6_widow_21 fu n M cw cs (nI (i + 1)) else if cs ≤ srch (goneP v i) 61 0 then F_X6_widow_21 fu n M cw cs (nI (i + 1)) else F_X6_widow_21 fu n M (nI i) (srch (goneP v i) 61 0) (nI (i + 1))) := by
      rw [F_X6_widow_21, hc.1, if_neg (nI_ge (by omega) (by omega)), goneIn_C hf hv hc (by omega), ob1_s, nI_1]
    rw [hc1]
    split
    · exact ih n (i + 1) cw cs (by omega) (by omega) hr
    · split
      · exact ih n (i + 1) cw cs (by omega) (by omega) hr
      · rename_i h1 h2
        rcases srch_c (goneP v i) 61 0 with hg | ⟨j, q1, q2, hg⟩
        · rw [hg] at h1
          exact absurd (by decide) h1
        · exact ih n (i + 1) _ _ (by omega) (by omega) (Or.inr ⟨i, j, by omega, rfl, by omega, hg, hg⟩)
theorem m_widow {fu : Nat} (hf : 1000 ≤ fu) {M : Mm} {v : NV} (hv : okV v) (hc : CV v M) (h0 : 0 < vMen v) : F_X6_widow fu M = some (-9, M) ∨ ∃ w s : Nat, w < vMen v ∧ s < 61 ∧ srch (goneP v w) 61 0 = nI s ∧ F_X6_widow fu M = some (nI w, tC (nI s) M) := by
  have hm := hv.1
  unfold F_X6_widow
  rw [if_neg (by rw [men0_C hv hc]; omega)]
  exact widow_C hf hv hc (vMen v) fu 0 (-9) (nI 61) (by omega) (by omega) (Or.inl ⟨rfl, rfl⟩)
theorem m_heir {fu : Nat} (hf : 1000 ≤ fu) {M : Mm} {v : NV} (hv : okV v) (hc : CV v M) {i n : Nat} (hi : i < vMen v) (hn : n < 61) : F_X6_heir fu M (nI i) (nI n) = some (hrF v n i (vMen v - i) i) := by
  have hm := hv.1
  unfold F_X6_heir
  rw [isMan_C1 hv hc hi, isAhead_C1 hn, ob1_s, if_neg (by decide), ob1_s, if_neg (by decide)]
  exact heir_C22 hf hv hc (by omega) hi (vMen v - i) fu i (by omega) (by omega)
theorem srD_ne {p : Nat → Bool} {i : Nat} (hi : i < 100) : ∀ k, k ≤ i → ¬ srD p k = nI i := by
  intro k
  induction k with
  | zero => intro _ h; exact neg9' (a := i) (by omega) h.symm
  | succ k ih =>
    intro hk
    unfold srD
    split
    · rw [eqN (by omega) (by omega)]; omega
    · exact ih (by omega)
theorem hrF_ne {v : NV} {N i : Nat} (hi : i < 6) : ∀ m e, i < e → e + m ≤ 6 → ¬ hrF v N i m e = nI i := by
  intro m
  induction m with
  | zero => intro e _ _; exact srD_ne (by omega) i (Nat.le_refl _)
  | succ m ih =>
    intro e he hm
    unfold hrF
    split
    · rw [eqN (by omega) (by omega)]; omega
    · exact ih (e + 1) (by omega) (by omega)
theorem heir_i {v : NV} (hv : okV v) {N i : Nat} (hi : i < vMen v) : (hrF v N i (vMen v - i) i = nI i) = (0 < blk v i N) := by
  have hm := hv.1
  obtain ⟨m, e⟩ : ∃ m, vMen v - i = m + 1 := ⟨vMen v - i - 1, by omega⟩
  rw [e]
  unfold hrF blkP
  by_cases h : 0 < blk v i N
  · rw [if_pos (decide_eq_true h)]
    exact propext ⟨fun _ => h, fun _ => rfl⟩
  · rw [if_neg (by simpa using h)]
    exact propext ⟨fun q => absurd q (hrF_ne (by omega) m (i + 1) (by omega) (by omega)), fun q => absurd q h⟩
theorem srch_1 {p : Nat → Bool} {m d : Nat} (h : p d = true) : srch p (m + 1) d = nI d := by
  unfold srch
  rw [if_pos h]
theorem m_carry {fu : Nat} (hf : 1000 ≤ fu) {M : Mm} {v : NV} (hv : okV v) (hc : CV v M) {i n : Nat} (hi : i < vMen v) (hn : n < 61) (hb : 0 < vBulk v i) : F_X6_carry fu M (nI i) (nI n) = some (srch (cryP v i n) (100 - vBulk v i) 0) := by
  have hm := hv.1
  obtain ⟨g1, g2, g3, g4⟩ := hv.2.2.2.2.2 i hi
  obtain ⟨c1, c2, c3, c4⟩ := hc.2.2.2.2 i hi
  unfold F_X6_carry
  rw [isMan_C1 hv hc hi, isAhead_C1 hn, ob1_s, if_neg one_ne, ob1_s, if_neg one_ne, rd28 (by omega), ob1_s, c3, if_neg (nI_ne0 hb (by omega)), rd26 (by omega), ob1_s, rd29 (by omega), ob1_s, c1, c4, meltedIn_C hf hv hc g1 g4 (by omega), ob1_s]
  exact carry_C74 hv hc hi (by omega) (100 - vBulk v i) fu 0 (by omega) (by omega)
theorem m_man {fu : Nat} (hf : 1000 ≤ fu) {M : Mm} {v : NV} (hv : okV v) (hc : CV v M) {i w : Nat} (hi : i < vMen v) (hw : w < 6) : F_X6_man fu M (nI i) (nI w) = some (1, tC (tlF v i w) M) := by
  unfold F_X6_man
  rw [isMan_C1 hv hc hi, ob1_s, if_neg one_ne, if_neg (nI_pos (by omega)), L6, if_pos (nI_lt hw (by omega)), tellsOf_C hf hv hc hi hw, ob1_s]
  rfl
theorem m_count1 {fu : Nat} {M : Mm} : F_X6_count fu M 1 = some (M.1 24 2) := rfl
theorem m_count2 {fu : Nat} {M : Mm} : F_X6_count fu M 2 = some (M.1 24 1) := rfl
theorem m_count3 {fu : Nat} {M : Mm} : F_X6_count fu M 3 = some (M.1 24 3) := rfl
theorem m_rights {fu : Nat} (hf : 1000 ≤ fu) {M : Mm} {v : NV} (hv : okV v) (hc : CV v M) {s : Nat} (hs : s < 2 ^ vMen v) : F_X6_rights fu M (nI s) = some (nI (bset (rgF v s) 10)) := by
  have h64 := p2le hv
  have e1 := rights_C17 hf hv hc (show s < 64 by omega) 9 fu 1 (by omega) (by omega) (by omega)
  have e0 : bset (rgF v s) 1 = 0 := by
    show 0 + (if rgF v s 0 = true then 2 ^ 0 else 0) = 0
    rw [if_neg (show ¬ rgF v s 0 = true from fun z => absurd (of_decide_eq_true z).1 (by omega))]
  rw [e0] at e1
  unfold F_X6_rights
  rw [isSet_C1 hv hc hs, ob1_s, if_neg one_ne]
  exact e1
