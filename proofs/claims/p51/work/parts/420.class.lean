/-! how the two memories stand to each other -/
/-- a north's beginning, its deeds, how many, the right -/
abbrev Ns : Type := NV × (Nat → Nat × Nat × Nat) × Nat × Nat
def perf (v : NV) (q : Nat × Nat × Nat) : NV :=
  if q.1 = 0 then (vMen v, vRight v, vDay v + 1, vSun v, vKind v, vVote v, (fun j => vBulk v j - melD v (vKind v j) (vShade v j) 0), vShade v)
  else if q.1 = 2 then (vMen v, vRight v, vDay v, vSun v, vKind v, vVote v, vBulk v, (fun j => if j = q.2.1 then q.2.2 else vShade v j))
  else if q.1 = 3 then (vMen v, vRight v, vDay v, vSun v, vKind v, vVote v, (fun j => if j = q.2.1 then min 99 (vBulk v j + q.2.2) else vBulk v j), vShade v)
  else (vMen v, vRight v, vDay v + 1, vSun v, vKind v, vVote v, vBulk v, vShade v)
def rp (v : NV) (ds : Nat → Nat × Nat × Nat) : Nat → NV
  | 0 => v
  | k + 1 => perf (rp v ds k) (ds k)
def wr (r : Nat) (v : NV) : NV := (vMen v, r, vDay v, vSun v, vKind v, vVote v, vBulk v, vShade v)
def cur (s : Ns) : NV := wr s.2.2.2 (rp s.1 s.2.1 s.2.2.1)
def okB (v : NV) : Prop := vMen v ≤ 6 ∧ (∀ j, vSun v j ≤ 9) ∧ ∀ i, i < vMen v → vKind v i ≤ 5 ∧ vVote v i ≤ 1 ∧ vBulk v i ≤ 99 ∧ vShade v i ≤ 9
def dOK (m : Nat) (q : Nat × Nat × Nat) : Prop := q.1 ≤ 3 ∧ q.2.1 < 6 ∧ q.2.2 ≤ 9 ∧ 0 < m
def okN (s : Ns) : Prop := okB s.1 ∧ vDay s.1 = 0 ∧ s.2.2.1 ≤ 60 ∧ (∀ k, k < s.2.2.1 → dOK (vMen s.1) (s.2.1 k)) ∧ s.2.2.2 ≤ 9 ∧ (0 < vMen s.1 → 1 ≤ s.2.2.2) ∧ (vMen s.1 = 0 → s.2.2.2 = 0)
def sb (v w : NV) : Prop := vMen v = vMen w ∧ vSun v = vSun w ∧ vKind v = vKind w ∧ vVote v = vVote w
theorem perf_sb (v : NV) (q : Nat × Nat × Nat) : sb (perf v q) v := by
  unfold perf sb
  split
  · exact ⟨rfl, rfl, rfl, rfl⟩
  · split
    · exact ⟨rfl, rfl, rfl, rfl⟩
    · split <;> exact ⟨rfl, rfl, rfl, rfl⟩
theorem sb.trans {u v w : NV} (h : sb u v) (g : sb v w) : sb u w := ⟨h.1.trans g.1, h.2.1.trans g.2.1, h.2.2.1.trans g.2.2.1, h.2.2.2.trans g.2.2.2⟩
theorem sb.symm {v w : NV} (h : sb v w) : sb w v := ⟨h.1.symm, h.2.1.symm, h.2.2.1.symm, h.2.2.2.symm⟩
theorem sb.rf (v : NV) : sb v v := ⟨rfl, rfl, rfl, rfl⟩
theorem rp_sb (v : NV) (ds : Nat → Nat × Nat × Nat) : ∀ k, sb (rp v ds k) v := by
  intro k
  induction k with
  | zero => exact sb.rf _
  | succ k ih => exact (perf_sb _ _).trans ih
theorem wr_sb (r : Nat) (v : NV) : sb (wr r v) v := ⟨rfl, rfl, rfl, rfl⟩
theorem cur_sb (s : Ns) : sb (cur s) s.1 := (wr_sb _ _).trans (rp_sb _ _ _)
theorem perf_wr (r : Nat) (v : NV) (q : Nat × Nat × Nat) : wr r (perf v q) = perf (wr r v) q := by
  unfold perf
  split
  · rfl
  · split
    · rfl
    · split <;> rfl
theorem perf_ok {v : NV} {q : Nat × Nat × Nat} (hv : okB v) (hq : dOK (vMen v) q) : okB (perf v q) ∧ vDay (perf v q) ≤ vDay v + 1 := by
  obtain ⟨h1, h2, h3⟩ := hv
  obtain ⟨q1, q2, q3, q4⟩ := hq
  unfold perf
  split
  · exact ⟨⟨h1, h2, fun i hi => ⟨(h3 i hi).1, (h3 i hi).2.1, Nat.le_trans (Nat.sub_le _ _) (h3 i hi).2.2.1, (h3 i hi).2.2.2⟩⟩, Nat.le_refl _⟩
  · split
    · refine ⟨⟨h1, h2, fun i hi => ⟨(h3 i hi).1, (h3 i hi).2.1, (h3 i hi).2.2.1, ?_⟩⟩, Nat.le_succ _⟩
      show (if i = q.2.1 then q.2.2 else vShade v i) ≤ 9
      split
      · exact q3
      · exact (h3 i hi).2.2.2
    · split
      · refine ⟨⟨h1, h2, fun i hi => ⟨(h3 i hi).1, (h3 i hi).2.1, ?_, (h3 i hi).2.2.2⟩⟩, Nat.le_succ _⟩
        show (if i = q.2.1 then min 99 (vBulk v i + q.2.2) else vBulk v i) ≤ 99
        split
        · exact Nat.min_le_left _ _
        · exact (h3 i hi).2.2.1
      · exact ⟨⟨h1, h2, h3⟩, Nat.le_refl _⟩
theorem rp_ok {s : Ns} (h : okN s) : ∀ k, k ≤ s.2.2.1 → okB (rp s.1 s.2.1 k) ∧ vDay (rp s.1 s.2.1 k) ≤ k := by
  intro k
  induction k with
  | zero => intro _; exact ⟨h.1, by rw [show rp s.1 s.2.1 0 = s.1 from rfl, h.2.1]; exact Nat.le_refl _⟩
  | succ k ih =>
    intro hk
    obtain ⟨a, b⟩ := ih (by omega)
    have := perf_ok a (q := s.2.1 k) (by rw [(rp_sb s.1 s.2.1 k).1]; exact h.2.2.2.1 k (by omega))
    exact ⟨this.1, Nat.le_trans this.2 (by omega)⟩
theorem okB.v {v : NV} (h : okB v) {r : Nat} (hr : r ≤ 9) (h0 : 0 < vMen v → 1 ≤ r) (hd : vDay v ≤ 60) : okV (wr r v) := ⟨h.1, h0, hr, hd, h.2.1, h.2.2⟩
theorem okN.k {s : Ns} (h : okN s) {k : Nat} (hk : k ≤ s.2.2.1) : okV (wr s.2.2.2 (rp s.1 s.2.1 k)) := by
  obtain ⟨a, b⟩ := rp_ok h k hk
  have := h.2.2.1
  exact a.v h.2.2.2.2.1 (by rw [(rp_sb s.1 s.2.1 k).1]; exact h.2.2.2.2.2.1) (by omega)
theorem okN.v {s : Ns} (h : okN s) : okV (cur s) := h.k (Nat.le_refl _)
/-- the class's north at a code -/
def CN (c : Nat) (s : Ns) (M : Mm) : Prop :=
  M.1 c 0 = nI (vMen s.1) ∧ M.1 c 1 = nI s.2.2.2 ∧ M.1 c 2 = nI (vDay (cur s)) ∧ M.1 c 3 = nI s.2.2.1 ∧
  (∀ j, j < 8 → M.1 (c + 1) j = nI (vSun s.1 j)) ∧
  (∀ i, i < vMen s.1 → M.1 (c + 2) i = nI (vKind s.1 i) ∧ M.1 (c + 3) i = nI (vVote s.1 i) ∧ M.1 (c + 4) i = nI (vBulk (cur s) i) ∧ M.1 (c + 5) i = nI (vShade (cur s) i) ∧ M.1 (c + 6) i = nI (vBulk s.1 i) ∧ M.1 (c + 7) i = nI (vShade s.1 i)) ∧
  ∀ k, k < s.2.2.1 → M.1 (c + 8) k = nI (s.2.1 k).1 ∧ M.1 (c + 9) k = nI (s.2.1 k).2.1 ∧ M.1 (c + 10) k = nI (s.2.1 k).2.2
def sT (x j : Nat) : Prop := (x = 0 ∧ (j = 8 ∨ j = 9 ∨ j = 10 ∨ j = 11)) ∨ x = 80 ∨ (x = 86 ∧ (j = 16 ∨ j = 17 ∨ j = 18 ∨ j = 19)) ∨ x = 99
def sR (x : Nat) : Prop := (1 ≤ x ∧ x ≤ 12) ∨ x = 87 ∨ x = 88
def sX (x : Nat) : Prop := (13 ≤ x ∧ x ≤ 20) ∨ x = 89 ∨ x = 90
def sN (x j : Nat) : Prop := (24 ≤ x ∧ x ≤ 67) ∨ (x = 86 ∧ (j = 4 ∨ j = 10 ∨ j = 11 ∨ j = 12)) ∨ (91 ≤ x ∧ x ≤ 98)
theorem CN.cg {c : Nat} {s : Ns} {M M' : Mm} (h : CN c s M) (g : ∀ x, c ≤ x → x ≤ c + 10 → M'.1 x = M.1 x) : CN c s M' := by
  unfold CN
  rw [g c (by omega) (by omega), g (c + 1) (by omega) (by omega), g (c + 2) (by omega) (by omega), g (c + 3) (by omega) (by omega), g (c + 4) (by omega) (by omega), g (c + 5) (by omega) (by omega), g (c + 6) (by omega) (by omega), g (c + 7) (by omega) (by omega), g (c + 8) (by omega) (by omega), g (c + 9) (by omega) (by omega), g (c + 10) (by omega) (by omega)]
  exact h
theorem Out.f {P : Nat → Nat → Prop} {M M' : Mm} (o : Out P M M') {c : Nat} (h : ∀ j, ¬ P c j) : M'.1 c = M.1 c := funext fun j => (o c j (h j)).1
theorem CN.cv {s : Ns} {M : Mm} (h : CN 24 s M) : CV (cur s) M := by
  have b := cur_sb s
  obtain ⟨h1, h2, h3, h4, h5, h6, h7⟩ := h
  unfold CV
  rw [b.1, b.2.1, b.2.2.1, b.2.2.2]
  exact ⟨h1, h2, h3, h5, fun i hi => ⟨(h6 i hi).1, (h6 i hi).2.1, (h6 i hi).2.2.1, (h6 i hi).2.2.2.1⟩⟩
/-- all above stays; all below stays -/
def Lo (M M' : Mm) : Prop := ∀ x j, 86 ≤ x → M'.1 x j = M.1 x j ∧ M'.2 x j = M.2 x j
def Hi (M M' : Mm) : Prop := ∀ x j, x < 86 → M'.1 x j = M.1 x j ∧ M'.2 x j = M.2 x j
theorem Lo.of {P : Nat → Nat → Prop} {M M' : Mm} (o : Out P M M') (hp : ∀ x j, P x j → x < 86) : Lo M M' := fun x j hx => o x j fun q => by have := hp x j q; omega
theorem Hi.of {P : Nat → Nat → Prop} {M M' : Mm} (o : Out P M M') (hp : ∀ x j, P x j → 86 ≤ x) : Hi M M' := fun x j hx => o x j fun q => by have := hp x j q; omega
theorem Lo.rf (M : Mm) : Lo M M := fun _ _ _ => ⟨rfl, rfl⟩
theorem Lo.f {M M' : Mm} (o : Lo M M') {c : Nat} (h : 86 ≤ c) : M'.1 c = M.1 c := funext fun j => (o c j h).1
theorem Hi.f {M M' : Mm} (o : Hi M M') {c : Nat} (h : c < 86) : M'.1 c = M.1 c := funext fun j => (o c j h).1
theorem CV.hi {v : NV} {M M' : Mm} (h : CV v M) (o : Hi M M') : CV v M' := h.cg fun c _ h2 => o.f (by omega)
theorem CN.hi {c : Nat} (hc : c ≤ 60) {s : Ns} {M M' : Mm} (h : CN c s M) (o : Hi M M') : CN c s M' := h.cg fun x _ h2 => o.f (by omega)
/-- what a finding does -/
def fC (f : Nat) (M : Mm) : Mm := pI (pI M 0 8 (nI f)) 80 f (M.1 80 f + 1)
def tC (x : Int32) (M : Mm) : Mm := pI M 0 9 x
def tX (x : Int32) (M : Mm) : Mm := pI M 86 16 x
theorem found_C {fu : Nat} {M : Mm} {f : Nat} (hf : f < 6) : F_X6_found fu M (nI f) = some (-3, fC f M) := by
  unfold F_X6_found
  rw [lt1_s, rd80 hf, ob1_s, wr80 hf, ob1_s, pI_n (by omega)]
  rfl
theorem tell_C {fu : Nat} {M : Mm} {x : Int32} : F_X6_tell fu M x = some (1, tC x M) := rfl
theorem fC_out (f : Nat) (M : Mm) : Out (fun x j => (x = 0 ∧ j = 8) ∨ x = 80) M (fC f M) := ((Out.rf).pI (by omega)).pI (by omega)
theorem tC_out (x : Int32) (M : Mm) : Out (fun x j => x = 0 ∧ j = 9) M (tC x M) := (Out.rf).pI (by omega)
theorem tX_out (x : Int32) (M : Mm) : Out (fun x j => x = 86 ∧ j = 16) M (tX x M) := (Out.rf).pI (by omega)
theorem fC_lo (f : Nat) (M : Mm) : Lo M (fC f M) := Lo.of (fC_out f M) fun x j q => by omega
theorem tC_lo (x : Int32) (M : Mm) : Lo M (tC x M) := Lo.of (tC_out x M) fun x j q => by omega
/-! calls that read a north -/
theorem rng3 (x : Int32) {n : Nat} (hn : n < 2147483648) : (x < 0 ∨ nI n ≤ x) ∨ ∃ j, j < n ∧ x = nI j := by
  rcases pk_ix x (n := n) hn with h | h | h
  · exact Or.inl (Or.inl h)
  · exact Or.inl (Or.inr h)
  · exact Or.inr h
theorem I0 : (0 : Int64) = lN 0 := rfl
theorem I1 : (1 : Int64) = lN 1 := rfl
theorem I2 : (2 : Int64) = lN 2 := rfl
theorem I3 : (3 : Int64) = lN 3 := rfl
theorem I5 : (5 : Int64) = lN 5 := rfl
theorem I8 : (8 : Int64) = lN 8 := rfl
theorem I9 : (9 : Int64) = lN 9 := rfl
theorem I12 : (12 : Int64) = lN 12 := rfl
theorem I20 : (20 : Int64) = lN 20 := rfl
theorem I60 : (60 : Int64) = lN 60 := rfl
theorem I99 : (99 : Int64) = lN 99 := rfl
theorem Ibig : (2147483646 : Int64) = lN 2147483646 := rfl
theorem tl_lt {x : Int32} {n : Nat} (h : x < nI n) (hn : n < 2147483648) : x.toInt64 < lN n := by
  have h1 := Int32.lt_iff_toInt_lt.mp h
  rw [nI_toInt (by omega)] at h1
  rw [Int64.lt_iff_toInt_lt, Int32.toInt_toInt64, pk_lT (by omega)]
  exact h1
theorem tl_le {x : Int32} {n : Nat} (h : nI n ≤ x) (hn : n < 2147483648) : lN n ≤ x.toInt64 := by
  have h1 := Int32.le_iff_toInt_le.mp h
  rw [nI_toInt (by omega)] at h1
  rw [Int64.le_iff_toInt_le, Int32.toInt_toInt64, pk_lT (by omega)]
  exact h1
theorem isAhead_C0 {fu : Nat} {M : Mm} {x : Int32} (h : x < 0 ∨ nI 61 ≤ x) : F_X6_isAhead fu M x = some 0 := by
  unfold F_X6_isAhead
  rcases h with h | h
  · rw [if_pos h]
  · by_cases h0 : x < 0
    · rw [if_pos h0]
    · rw [if_neg h0, if_pos]
      have h1 := Int32.le_iff_toInt_le.mp h
      rw [nI_toInt (by decide)] at h1
      rw [Int32.lt_iff_toInt_lt, L60, nI_toInt (by decide)]
      omega
theorem isAhead_C1 {fu : Nat} {M : Mm} {j : Nat} (h : j < 61) : F_X6_isAhead fu M (nI j) = some 1 := by
  unfold F_X6_isAhead
  rw [if_neg (nI_pos (by omega)), L60, if_neg (nI_nlt (by omega) (by omega))]
theorem isMan_C0 {fu : Nat} {M : Mm} {v : NV} (hc : CV v M) {x : Int32} (h : x < 0 ∨ nI (vMen v) ≤ x) : F_X2_isMan fu M 24 x = some 0 := by
  unfold F_X2_isMan
  rw [hc.1]
  rcases h with h | h
  · rw [if_pos h]
  · rw [if_pos h, ite_self]
theorem isMan_C1 {fu : Nat} {M : Mm} {v : NV} (hv : okV v) (hc : CV v M) {i : Nat} (h : i < vMen v) : F_X2_isMan fu M 24 (nI i) = some 1 := by
  have hm := hv.1
  unfold F_X2_isMan
  rw [hc.1, if_neg (nI_pos (by omega)), if_neg (nI_ge h (by omega))]
/-- two calls that only answer -/
def Two (f g : Option Int32) : Prop := ∃ r, f = some r ∧ g = some r
theorem men0_C {M : Mm} {v : NV} (hv : okV v) (hc : CV v M) : (M.1 24 0 = 0) = (vMen v = 0) := by
  have hm := hv.1
  rw [hc.1, L0, eqN (by omega) (by omega)]
theorem men0_Ce {M : Mm} {v : NV} (hv : okV v) (hc : CV v M) {α : Type} {a b : α} : (if M.1 24 0 = 0 then a else b) = (if vMen v = 0 then a else b) := by
  by_cases h : vMen v = 0
  · rw [if_pos h, if_pos (by rw [men0_C hv hc]; exact h)]
  · rw [if_neg h, if_neg (by rw [men0_C hv hc]; exact h)]
theorem whoN_lt2 (v : NV) (r n : Nat) : whoN v r n < 2 ^ vMen v := bset_lt _ _
theorem bc_who {fu : Nat} {M : Mm} {v : NV} (hv : okV v) (r n : Nat) : F_J6_bitCount_0f7a4 fu M (nI (whoN v r n)) = some (nI (pc (whoN v r n))) := bc_C (whoN_lt hv r n)
def carP (v : NV) (b : Bool) : Nat → Bool := fun n => carr v (whoN v (vRight v) n) == b
theorem bIe (a c : Bool) : (bI a = bI c) = ((a == c) = true) := by revert a c; decide
theorem two_b {j : Nat} (h : j < 2) : ∃ b : Bool, nI j = bI b := by
  have : j = 0 ∨ j = 1 := by omega
  rcases this with rfl | rfl
  · exact ⟨false, rfl⟩
  · exact ⟨true, rfl⟩
theorem not01 {x : Int32} (h : x < 0 ∨ nI 2 ≤ x) : ¬ x = 0 ∧ ¬ x = 1 := by
  constructor
  · rintro rfl
    revert h
    decide
  · rintro rfl
    revert h
    decide
def carQ (v : NV) : Nat → Bool := fun n => carr v (whoN v (vRight v) n)
theorem srch_c (p : Nat → Bool) : ∀ m d, srch p m d = -9 ∨ ∃ j, d ≤ j ∧ j < d + m ∧ srch p m d = nI j := by
  intro m
  induction m with
  | zero => intro d; exact Or.inl rfl
  | succ m ih =>
    intro d
    unfold srch
    by_cases h : p d = true
    · rw [if_pos h]
      exact Or.inr ⟨d, Nat.le_refl _, by omega, rfl⟩
    · rw [if_neg h]
      rcases ih (d + 1) with h1 | ⟨j, h1, h2, h3⟩
      · exact Or.inl h1
      · exact Or.inr ⟨j, by omega, by omega, h3⟩
theorem pI_self {M : Mm} {x j : Nat} : pI M x j (M.1 x j) = M := by
  unfold pI
  refine Prod.ext (funext fun a => ?_) rfl
  by_cases h : a = x
  · subst h
    simp only [if_pos]
    funext k
    unfold upd
    split
    · next h => rw [h]
    · rfl
  · simp only [if_neg h]
/-- to the west of a place -/
def srD (p : Nat → Bool) : Nat → Int32
  | 0 => -9
  | i + 1 => if p i then nI i else srD p i
def blkP (v : NV) (n : Nat) : Nat → Bool := fun i => decide (0 < blk v i n)
theorem heir_C57 {fu : Nat} (hf : 1000 ≤ fu) {M : Mm} {v : NV} (hv : okV v) (hc : CV v M) {N : Nat} (hN : N ≤ 60) : ∀ (i n : Nat), i ≤ vMen v → i < n → F_X6_heir_57 fu M n (nI N) (nI i - 1) = some (srD (blkP v N) i) := by
  intro i
  have hm := hv.1
  induction i with
  | zero =>
    intro n hi hn
    obtain ⟨n, rfl⟩ : ∃ q, n = q + 1 := ⟨n - 1, by omega⟩
    unfold F_X6_heir_57
    rw [if_pos (by decide)]
    rfl
  | succ i ih =>
    intro n hi hn
    obtain ⟨n, rfl⟩ : ∃ q, n = q + 1 := ⟨n - 1, by omega⟩
    have hb := blk_le hv (show i < vMen v by omega) N
    unfold F_X6_heir_57 srD
    rw [nI_pred, if_neg (nI_pos (by omega)), bulkIn_C hf hv hc (by omega) hN, ob1_s, show nI i + (-1) = nI i - 1 by rw [Int32.sub_eq_add_neg], ih n (by omega) (by omega), show vBulk v i - melF v (vKind v i) (vShade v i) 0 N = blk v i N from rfl]
    by_cases h : 0 < blk v i N
    · rw [if_neg (nI_nle h (by omega)), if_pos (show blkP v N i = true from decide_eq_true h)]
    · rw [if_pos (le00 (by omega)), if_neg (show ¬ blkP v N i = true from fun q => h (of_decide_eq_true q))]
def hrF (v : NV) (N i : Nat) : Nat → Nat → Int32
  | 0, _ => srD (blkP v N) i
  | m + 1, e => if blkP v N e then nI e else hrF v N i m (e + 1)
theorem heir_C22 {fu : Nat} (hf : 1000 ≤ fu) {M : Mm} {v : NV} (hv : okV v) (hc : CV v M) {N i : Nat} (hN : N ≤ 60) (hi : i < vMen v) : ∀ (m n e : Nat), e + m = vMen v → m < n → F_X6_heir_22 fu M n (nI i) (nI N) (nI e) = some (hrF v N i m e) := by
  intro m
  have hm := hv.1
  induction m with
  | zero =>
    intro n e he hn
    obtain ⟨n, rfl⟩ : ∃ q, n = q + 1 := ⟨n - 1, by omega⟩
    unfold F_X6_heir_22
    rw [hc.1, if_pos (nI_le (by omega) (by omega)), heir_C57 hf hv hc hN i fu (by omega) (by omega)]
    rfl
  | succ m ih =>
    intro n e he hn
    obtain ⟨n, rfl⟩ : ∃ q, n = q + 1 := ⟨n - 1, by omega⟩
    have hb := blk_le hv (show e < vMen v by omega) N
    unfold F_X6_heir_22 hrF
    rw [hc.1, if_neg (nI_ge (by omega) (by omega)), bulkIn_C hf hv hc (by omega) hN, ob1_s, nI_1, ih n (e + 1) (by omega) (by omega), show vBulk v e - melF v (vKind v e) (vShade v e) 0 N = blk v e N from rfl]
    by_cases h : 0 < blk v e N
    · rw [if_neg (nI_nle h (by omega)), if_pos (show blkP v N e = true from decide_eq_true h)]
    · rw [if_pos (le00 (by omega)), if_neg (show ¬ blkP v N e = true from fun q => h (of_decide_eq_true q))]
/-! rows and texts -/
theorem rowOf_C0 {fu : Nat} {M : Mm} {x : Int32} (h : x < 0 ∨ nI 6 ≤ x) : F_X6_rowOf fu M x = some none := by
  unfold F_X6_rowOf
  rcases h with h | h
  · rw [if_pos h]
  · rw [L6, if_pos h, ite_self]
theorem rowOf_C1 {fu : Nat} {M : Mm} {r : Nat} (h : r < 6) : F_X6_rowOf fu M (nI r) = some (some (1 + r)) := by
  unfold F_X6_rowOf
  rw [if_neg (nI_pos (by omega)), L6, if_neg (nI_ge (by omega) (by omega)), if_neg (nI_in h (by decide)), clN (by omega)]
theorem textOf_C0 {fu : Nat} {M : Mm} {x : Int32} (h : x < 0 ∨ nI 4 ≤ x) : F_X6_textOf fu M x = some none := by
  unfold F_X6_textOf
  rcases h with h | h
  · rw [if_pos h]
  · rw [L4, if_pos h, ite_self]
theorem textOf_C1 {fu : Nat} {M : Mm} {r : Nat} (h : r < 4) : F_X6_textOf fu M (nI r) = some (some (13 + r)) := by
  unfold F_X6_textOf
  rw [if_neg (nI_pos (by omega)), L4, if_neg (nI_ge (by omega) (by omega)), if_neg (nI_in h (by decide)), clN (by omega)]
theorem kd_R {r : Nat} (h : r < 6) : kd (1 + r) = 12 := by
  have : ∀ r, r < 6 → kd (1 + r) = 12 := by decide
  exact this r h
theorem ln_R {r : Nat} (h : r < 6) : ln (1 + r + 6) = 40 := by
  have : ∀ r, r < 6 → ln (1 + r + 6) = 40 := by decide
  exact this r h
theorem kd_T {r : Nat} (h : r < 4) : kd (13 + r) = 13 := by
  have : ∀ r, r < 4 → kd (13 + r) = 13 := by decide
  exact this r h
theorem ln_T {r : Nat} (h : r < 4) : ln (13 + r + 4) = 60 := by
  have : ∀ r, r < 4 → ln (13 + r + 4) = 60 := by decide
  exact this r h
theorem rdR {fu : Nat} {M : Mm} {r i : Nat} (h : r < 6) (hi : i < 40) : F_X6_read fu M (1 + r + 6) (nI i) = some (M.1 (1 + r + 6) i) := rd_eq (by rw [ln_R h]; exact hi)
theorem wrR {fu : Nat} {M : Mm} {r i : Nat} {x : Int32} (h : r < 6) (hi : i < 40) : F_X6_write fu M (1 + r + 6) (nI i) x = some (pI M (1 + r + 6) i x) := wr_eq (by rw [ln_R h]; exact hi)
/-- what a row's change may touch -/
def pR (r x j : Nat) : Prop := x = 1 + r ∨ x = 1 + r + 6 ∨ (x = 88 ∧ j = r) ∨ (x = 87 ∧ 40 * r ≤ j ∧ j < 40 * r + 40)
def pT (r x j : Nat) : Prop := x = 13 + r ∨ x = 13 + r + 4 ∨ (x = 90 ∧ j = r) ∨ (x = 89 ∧ 60 * r ≤ j ∧ j < 60 * r + 60)
def scr (x j : Nat) : Prop := ¬ (sT x j ∨ sR x ∨ sX x ∨ sN x j)
theorem fnd1_C {fu : Nat} {M : Mm} : F_X6_found fu M (1 : Int32) = some (-3, fC 1 M) := found_C (f := 1) (by decide)
theorem fnd2_C {fu : Nat} {M : Mm} : F_X6_found fu M (2 : Int32) = some (-3, fC 2 M) := found_C (f := 2) (by decide)
theorem fnd3_C {fu : Nat} {M : Mm} : F_X6_found fu M (3 : Int32) = some (-3, fC 3 M) := found_C (f := 3) (by decide)
theorem fnd4_C {fu : Nat} {M : Mm} : F_X6_found fu M (4 : Int32) = some (-3, fC 4 M) := found_C (f := 4) (by decide)
theorem fnd5_C {fu : Nat} {M : Mm} : F_X6_found fu M (5 : Int32) = some (-3, fC 5 M) := found_C (f := 5) (by decide)
theorem gt_hi {x : Int32} {n : Nat} (h : nI (n + 1) ≤ x) (hn : n < 2147483647) : ¬ x ≤ nI n := fun q => by
  have h1 := Int32.le_iff_toInt_le.mp h
  have h2 := Int32.le_iff_toInt_le.mp q
  rw [nI_toInt (by omega)] at h1 h2
  omega
theorem nn_lt {x : Int32} (h : x < 0) : ¬ (0 : Int32) ≤ x := fun q => by
  have h1 := Int32.lt_iff_toInt_lt.mp h
  have h2 := Int32.le_iff_toInt_le.mp q
  omega
theorem lt_hi {x : Int32} (h : x < 0) {n : Nat} (hn : n < 2147483648) : x ≤ nI n := by
  have h1 := Int32.lt_iff_toInt_lt.mp h
  rw [Int32.le_iff_toInt_le, nI_toInt hn]
  rw [show (0 : Int32).toInt = 0 from rfl] at h1
  omega
/-- is a number a place of n -/
theorem plc (y : Int32) {n : Nat} (hn : n ≤ 60) : (¬ (0 ≤ y.toInt ∧ y.toInt < n) ∧ (y < 0 ∨ (¬ y < 0 ∧ ¬ y < nI n))) ∨ ∃ i, i < n ∧ y = nI i := by
  rcases pk_ix y (n := n) (by omega) with h | h | h
  · refine Or.inl ⟨fun q => ?_, Or.inl h⟩
    have h1 := Int32.lt_iff_toInt_lt.mp h
    rw [show (0 : Int32).toInt = 0 from rfl] at h1
    omega
  · have h1 := Int32.le_iff_toInt_le.mp h
    rw [nI_toInt (by omega)] at h1
    exact Or.inl ⟨fun q => by omega, Or.inr ⟨fun q => by have := Int32.lt_iff_toInt_lt.mp q; rw [show (0 : Int32).toInt = 0 from rfl] at this; omega, fun q => by have := Int32.lt_iff_toInt_lt.mp q; rw [nI_toInt (by omega)] at this; omega⟩⟩
  · exact Or.inr h
theorem no9 {n : Nat} (hn : n ≤ 60) : ¬ nI n = (-9 : Int32) := neg9' (by omega)
theorem one_ne : ¬ (1 : Int32) = 0 := by decide
theorem plc_if {α : Type} {a b : α} {y : Int32} {n : Nat} (h : y < 0 ∨ (¬ y < 0 ∧ ¬ y < nI n)) : (if y < 0 then a else if y < nI n then b else a) = a := by
  rcases h with h | ⟨h1, h2⟩
  · rw [if_pos h]
  · rw [if_neg h1, if_neg h2]
def smF (f : Nat → Int32) : Nat → Nat → Int64 → Int64
  | 0, _, a => a
  | m + 1, k, a => smF f m (k + 1) (a + (f k).toInt64)
theorem smF_cg {f g : Nat → Int32} : ∀ m k a, (∀ j, k ≤ j → j < k + m → f j = g j) → smF f m k a = smF g m k a := by
  intro m
  induction m with
  | zero => intro k a _; rfl
  | succ m ih =>
    intro k a h
    unfold smF
    rw [h k (by omega) (by omega), ih (k + 1) _ (fun j h1 h2 => h j (by omega) (by omega))]
/-! copy, text, put -/
theorem Out.pC {P : Nat → Nat → Prop} {M M1 : Mm} {x y a b n : Nat} (h : Out P M M1) (hp : ∀ j, P y j) : Out P M (pC M1 x y a b n) := h.trans fun c i hn => by
  have hc : c ≠ y := fun q => hn (q ▸ hp i)
  have := pC_off (M := M1) (x := x) (a := a) (b := b) (n := n) c hc
  exact ⟨by rw [this.1], by rw [this.2]⟩
theorem sub40 {s n : Nat} (hs : s ≤ 40) (hn : n < 2147483648) : (nI s - nI n).toInt = (s : Int) - n := by
  rw [Int32.toInt_sub, nI_toInt (by omega), nI_toInt (by omega)]
  exact Int.bmod_eq_of_le (by omega) (by omega)
theorem lt0i {x : Int32} : x < 0 ↔ x.toInt < 0 := by
  rw [Int32.lt_iff_toInt_lt, show (0 : Int32).toInt = 0 from rfl]
theorem cmp_s {x : Int32} {n s : Nat} (hn : n < 2147483648) (hs : s ≤ 60) : (lg_cmp (x.toInt64 + (nI n).toInt64) (nI s).toInt64 ≤ 0) ↔ x.toInt + n ≤ s := by
  rw [lg_cmp_le, Int64.le_iff_toInt_le, lg_i2l_add, Int32.toInt_toInt64, nI_toInt hn, nI_toInt (by omega)]
theorem cmp_s' {x : Int32} {n s : Nat} (hn : n < 2147483648) (hs : s ≤ 60) : (0 < lg_cmp (x.toInt64 + (nI n).toInt64) (nI s).toInt64) ↔ (s : Int) < x.toInt + n := by
  rw [lg_cmp_gt, Int64.lt_iff_toInt_lt, lg_i2l_add, Int32.toInt_toInt64, nI_toInt hn, nI_toInt (by omega)]
theorem vnar32 : vp_nar .byte (32 : Int32) = 32 := pk_vb 32
theorem renewT_C12 {fu : Nat} {r : Nat} (hr : r < 4) : ∀ (m n : Nat) (M : Mm) (k : Nat), k + m = 60 → m < n → (∀ j, j < k → M.1 (13 + r + 4) j = 32) → ∃ M', F_X5_renew_12 fu n M (13 + r) (nI k) = some M' ∧ (∀ j, j < 60 → M'.1 (13 + r + 4) j = 32) ∧ Out (fun x _ => x = 13 + r + 4) M M' := by
  intro m
  induction m with
  | zero =>
    intro n M k hk hn h
    obtain ⟨n, rfl⟩ : ∃ q, n = q + 1 := ⟨n - 1, by omega⟩
    refine ⟨M, ?_, fun j hj => h j (by omega), Out.rf⟩
    unfold F_X5_renew_12
    rw [ln_T hr, if_pos (nI_le (by omega) (by omega))]
  | succ m ih =>
    intro n M k hk hn h
    obtain ⟨n, rfl⟩ : ∃ q, n = q + 1 := ⟨n - 1, by omega⟩
    obtain ⟨M', a1, a2, a3⟩ := ih n (pI M (13 + r + 4) k 32) (k + 1) (by omega) (by omega) (fun j hj => by
      by_cases hjk : j = k
      · rw [hjk, pI_s]
      · rw [pI_n (Or.inr hjk)]
        exact h j (by omega))
    refine ⟨M', ?_, a2, (Out.pI (P := fun x _ => x = 13 + r + 4) Out.rf rfl).trans a3⟩
    unfold F_X5_renew_12
    rw [ln_T hr, if_neg (nI_ge (by omega) (by omega)), if_neg (nI_in (by omega) (by decide)), clN (by omega), lt1_s, nI_1, vnar32]
    exact a1
theorem renewT_C {fu : Nat} (hf : 1000 ≤ fu) {M : Mm} {r : Nat} (hr : r < 4) (x : Int32) : ∃ M', F_X5_renew fu M (13 + r) x = some M' ∧ M'.1 (13 + r) 0 = 1 ∧ M'.1 (13 + r) 1 = x ∧ (∀ j, j < 60 → M'.1 (13 + r + 4) j = 32) ∧ Out (fun x _ => x = 13 + r ∨ x = 13 + r + 4) M M' := by
  obtain ⟨M', a1, a2, a3⟩ := renewT_C12 (fu := fu) hr 60 fu (pI (pI M (13 + r) 0 1) (13 + r) 1 x) 0 (by omega) (by omega) (fun j hj => by omega)
  refine ⟨M', ?_, ?_, ?_, a2, (((Out.rf).pI (by omega)).pI (by omega)).trans (a3.wk fun x j q => by omega)⟩
  · unfold F_X5_renew
    rw [lt1_s, lt1_s]
    exact a1
  · rw [(a3 _ _ (by omega)).1, pI_n (by omega), pI_s]
  · rw [(a3 _ _ (by omega)).1, pI_s]
theorem sign_C {fu : Nat} {M : Mm} {r i : Nat} (hr : r < 4) (hi : i < 60) : F_X5_sign fu M (13 + r) (nI i) = some (M.1 (13 + r + 4) i) := by
  unfold F_X5_sign
  rw [ln_T hr, if_neg (nI_pos (by omega)), if_neg (nI_ge (by omega) (by omega)), if_neg (nI_in hi (by decide)), clN (by omega)]
theorem change_C {fu : Nat} {M : Mm} {r i : Nat} (hr : r < 4) (hi : i < 60) (z : Int32) : F_X5_change fu M (13 + r) (nI i) z.toInt8.toInt32 = some (pI M (13 + r + 4) i z.toInt8.toInt32) := by
  unfold F_X5_change
  rw [ln_T hr, if_neg (nI_pos (by omega)), if_neg (nI_ge (by omega) (by omega)), if_neg (nI_in hi (by decide)), clN (by omega), pk_vb]
  rfl
/-! deeds -/
def upds (ds : Nat → Nat × Nat × Nat) (D : Nat) (q : Nat × Nat × Nat) : Nat → Nat × Nat × Nat := fun k => if k = D then q else ds k
theorem rp_upd (v : NV) (ds : Nat → Nat × Nat × Nat) (D : Nat) (q : Nat × Nat × Nat) : ∀ k, k ≤ D → rp v (upds ds D q) k = rp v ds k := by
  intro k
  induction k with
  | zero => intro _; rfl
  | succ k ih =>
    intro hk
    unfold rp
    rw [ih (by omega), show upds ds D q k = ds k from if_neg (by omega)]
theorem rp_upd1 (v : NV) (ds : Nat → Nat × Nat × Nat) (D : Nat) (q : Nat × Nat × Nat) : rp v (upds ds D q) (D + 1) = perf (rp v ds D) q := by
  rw [show rp v (upds ds D q) (D + 1) = perf (rp v (upds ds D q) D) (upds ds D q D) from rfl, rp_upd _ _ _ _ D (Nat.le_refl _), show upds ds D q D = q from if_pos rfl]
/-- one deed more -/
def nxt (s : Ns) (q : Nat × Nat × Nat) : Ns := (s.1, upds s.2.1 s.2.2.1 q, s.2.2.1 + 1, s.2.2.2)
theorem nxt_cur (s : Ns) (q : Nat × Nat × Nat) : cur (nxt s q) = perf (cur s) q := by
  unfold cur nxt
  rw [rp_upd1, perf_wr]
theorem nxt_ok {s : Ns} (h : okN s) {q : Nat × Nat × Nat} (hq : dOK (vMen s.1) q) (hD : s.2.2.1 < 60) : okN (nxt s q) := by
  obtain ⟨a, b, c, d, e, f⟩ := h
  refine ⟨a, b, by show s.2.2.1 + 1 ≤ 60; omega, fun k hk => ?_, e, f⟩
  show dOK (vMen s.1) (if k = s.2.2.1 then q else s.2.1 k)
  have hk : k < s.2.2.1 + 1 := hk
  by_cases hkd : k = s.2.2.1
  · rw [if_pos hkd]; exact hq
  · rw [if_neg hkd]; exact d k (by omega)
/-- the melting, so far -/
def mixV (v : NV) (i : Nat) : NV := (vMen v, vRight v, vDay v, vSun v, vKind v, vVote v, (fun j => if j < i then vBulk v j - melD v (vKind v j) (vShade v j) 0 else vBulk v j), vShade v)
theorem mixV_ok {v : NV} (h : okV v) (i : Nat) : okV (mixV v i) := ⟨h.1, h.2.1, h.2.2.1, h.2.2.2.1, h.2.2.2.2.1, fun j hj => ⟨(h.2.2.2.2.2 j hj).1, (h.2.2.2.2.2 j hj).2.1, by
  show (if j < i then vBulk v j - melD v (vKind v j) (vShade v j) 0 else vBulk v j) ≤ 99
  have := (h.2.2.2.2.2 j hj).2.2.1
  split <;> omega, (h.2.2.2.2.2 j hj).2.2.2⟩⟩
theorem meltAll_C2 {fu : Nat} {v : NV} (hv : okV v) : ∀ (m n : Nat) (M : Mm) (i : Nat), i + m = vMen v → m < n → CV (mixV v i) M → ∃ M', F_X2_meltAll_2 fu n M 24 (nI i) = some M' ∧ CV (mixV v (vMen v)) M' ∧ Out (fun x _ => x = 28) M M' := by
  intro m
  have hm := hv.1
  induction m with
  | zero =>
    intro n M i hi hn hc
    obtain ⟨n, rfl⟩ : ∃ q, n = q + 1 := ⟨n - 1, by omega⟩
    refine ⟨M, ?_, by rw [show vMen v = i by omega]; exact hc, Out.rf⟩
    unfold F_X2_meltAll_2
    rw [hc.1, if_pos (nI_le (by show vMen v ≤ i; omega) (by omega))]
  | succ m ih =>
    intro n M i hi hn hc
    obtain ⟨n, rfl⟩ : ∃ q, n = q + 1 := ⟨n - 1, by omega⟩
    have hvi := mixV_ok hv i
    have hiv : i < vMen (mixV v i) := by show i < vMen v; omega
    have hb := (hv.2.2.2.2.2 i (by omega)).2.2.1
    have hmd := melD_le hv (vKind v i) (vShade v i) 0
    have e28 : M.1 28 i = nI (vBulk v i) := by
      rw [(hc.2.2.2.2 i hiv).2.2.1]
      exact congrArg nI (if_neg (Nat.lt_irrefl i))
    have hc1 : CV (mixV v (i + 1)) (pI M 28 i (nI (vBulk v i - melD v (vKind v i) (vShade v i) 0))) := by
      obtain ⟨a, b, c, d, e⟩ := hc
      refine ⟨by rw [pI_n (by omega)]; exact a, by rw [pI_n (by omega)]; exact b, by rw [pI_n (by omega)]; exact c, fun j hj => by rw [pI_n (by omega)]; exact d j hj, fun j hj => ⟨by rw [pI_n (by omega)]; exact (e j hj).1, by rw [pI_n (by omega)]; exact (e j hj).2.1, ?_, by rw [pI_n (by omega)]; exact (e j hj).2.2.2⟩⟩
      show _ = nI (if j < i + 1 then vBulk v j - melD v (vKind v j) (vShade v j) 0 else vBulk v j)
      by_cases hji : j = i
      · rw [hji, pI_s, if_pos (by omega)]
      · rw [pI_n (Or.inr hji), (e j hj).2.2.1]
        show nI (if j < i then vBulk v j - melD v (vKind v j) (vShade v j) 0 else vBulk v j) = _
        by_cases hlt : j < i
        · rw [if_pos hlt, if_pos (by omega)]
        · rw [if_neg hlt, if_neg (by omega)]
    obtain ⟨M', a1, a2, a3⟩ := ih n _ (i + 1) (by omega) (by omega) hc1
    refine ⟨M', ?_, a2, (Out.pI (P := fun x _ => x = 28) Out.rf rfl).trans a3⟩
    have hmi := meltingIn_C (fu := fu) hvi hc hiv (d := 0) (by omega)
    unfold F_X2_meltAll_2
    rw [hc.1, if_neg (nI_ge (show i < vMen (mixV v i) from hiv) (by show vMen v < _; omega)), show 24 + 4 = 28 from rfl, rd28 (by omega), ob1_s, e28, L0, hmi, ob1_s, show melD (mixV v i) (vKind (mixV v i) i) (vShade (mixV v i) i) 0 = melD v (vKind v i) (vShade v i) 0 from rfl, ← L0, nI_subT (by omega) (by omega), wr28 (by omega), ob1_s, nI_1]
    exact a1
theorem perform_C {fu : Nat} (hf : 1000 ≤ fu) {M : Mm} {v : NV} (hv : okV v) (hc : CV v M) {q : Nat × Nat × Nat} (hq : dOK (vMen v) q) : ∃ M', F_X2_perform fu M 24 (nI q.1) (nI q.2.1) (nI q.2.2) = some M' ∧ CV (perf v q) M' ∧ Out (fun x j => (x = 24 ∧ j = 2) ∨ x = 28 ∨ x = 29) M M' := by
  have hm := hv.1
  have hday := hv.2.2.2.1
  obtain ⟨q1, q2, q3, q4⟩ := hq
  obtain ⟨a, b, c⟩ := q
  simp only at q1 q2 q3
  show ∃ M', F_X2_perform fu M 24 (nI a) (nI b) (nI c) = some M' ∧ CV (perf v (a, b, c)) M' ∧ _
  unfold F_X2_perform
  have hcase : a = 0 ∨ a = 1 ∨ a = 2 ∨ a = 3 := by omega
  have day1 : ∀ (w : NV) (M1 : Mm), CV w M1 → CV (vMen w, vRight w, vDay w + 1, vSun w, vKind w, vVote w, vBulk w, vShade w) (pI M1 24 2 (M1.1 24 2 + 1)) := by
    intro w M1 h1
    obtain ⟨a1, b1, c1, d1, e1⟩ := h1
    exact ⟨by rw [pI_n (by omega)]; exact a1, by rw [pI_n (by omega)]; exact b1, by rw [pI_s, c1, nI_1]; rfl, fun j hj => by rw [pI_n (by omega)]; exact d1 j hj, fun j hj => ⟨by rw [pI_n (by omega)]; exact (e1 j hj).1, by rw [pI_n (by omega)]; exact (e1 j hj).2.1, by rw [pI_n (by omega)]; exact (e1 j hj).2.2.1, by rw [pI_n (by omega)]; exact (e1 j hj).2.2.2⟩⟩
  rcases hcase with rfl | rfl | rfl | rfl
  · obtain ⟨M1, a1, a2, a3⟩ := meltAll_C2 (fu := fu) hv (vMen v) fu M 0 (by omega) (by omega) (by
      obtain ⟨a, b, c, d, e⟩ := hc
      exact ⟨a, b, c, d, e⟩)
    refine ⟨pI M1 24 2 (M1.1 24 2 + 1), ?_, ?_, (a3.wk fun x j q => by omega).pI (by omega)⟩
    · rw [if_pos (by decide)]
      unfold F_X2_meltAll
      rw [L0, a1, ob1_s]
      rfl
    · obtain ⟨a, b, c, d, e⟩ := day1 _ _ a2
      refine ⟨a, b, c, d, fun j hj => ⟨(e j hj).1, (e j hj).2.1, ?_, (e j hj).2.2.2⟩⟩
      rw [(e j hj).2.2.1]
      exact congrArg nI (if_pos hj)
  · refine ⟨pI M 24 2 (M.1 24 2 + 1), ?_, day1 _ _ hc, (Out.rf).pI (by omega)⟩
    rw [if_neg (by decide), if_neg (by decide), if_neg (by decide)]
    rfl
  · refine ⟨pI M 29 b (nI c), ?_, ?_, (Out.rf).pI (by omega)⟩
    · rw [if_neg (by decide), if_pos (by decide), show 24 + 5 = 29 from rfl, wr29 q2, ob1_s]
    · obtain ⟨a1, b1, c1, d1, e1⟩ := hc
      refine ⟨by rw [pI_n (by omega)]; exact a1, by rw [pI_n (by omega)]; exact b1, by rw [pI_n (by omega)]; exact c1, fun j hj => by rw [pI_n (by omega)]; exact d1 j hj, fun j hj => ⟨by rw [pI_n (by omega)]; exact (e1 j hj).1, by rw [pI_n (by omega)]; exact (e1 j hj).2.1, by rw [pI_n (by omega)]; exact (e1 j hj).2.2.1, ?_⟩⟩
      show _ = nI (if j = b then c else vShade v j)
      by_cases hjb : j = b
      · rw [hjb, pI_s, if_pos rfl]
      · rw [pI_n (Or.inr hjb), if_neg hjb]
        exact (e1 j hj).2.2.2
  · refine ⟨pI M 28 b (zmn 99 (M.1 28 b + nI c)), ?_, ?_, (Out.rf).pI (by omega)⟩
    · rw [if_neg (by decide), if_neg (by decide), if_pos (by decide), show 24 + 4 = 28 from rfl, rd28 q2, ob1_s, wr28 q2, ob1_s]
    · obtain ⟨a1, b1, c1, d1, e1⟩ := hc
      refine ⟨by rw [pI_n (by omega)]; exact a1, by rw [pI_n (by omega)]; exact b1, by rw [pI_n (by omega)]; exact c1, fun j hj => by rw [pI_n (by omega)]; exact d1 j hj, fun j hj => ⟨by rw [pI_n (by omega)]; exact (e1 j hj).1, by rw [pI_n (by omega)]; exact (e1 j hj).2.1, ?_, by rw [pI_n (by omega)]; exact (e1 j hj).2.2.2⟩⟩
      show _ = nI (if j = b then min 99 (vBulk v j + c) else vBulk v j)
      have hbj := (hv.2.2.2.2.2 j hj).2.2.1
      by_cases hjb : j = b
      · rw [← hjb, pI_s, if_pos rfl, (e1 j hj).2.2.1, nI_add, L99, nI_min (by omega) (by omega)]
      · rw [pI_n (Or.inr hjb), if_neg hjb]
        exact (e1 j hj).2.2.1
theorem CN.mk2 {s : Ns} {M : Mm} (h : CV (cur s) M) (h3 : M.1 24 3 = nI s.2.2.1) (h0 : ∀ i, i < vMen s.1 → M.1 30 i = nI (vBulk s.1 i) ∧ M.1 31 i = nI (vShade s.1 i)) (hd : ∀ k, k < s.2.2.1 → M.1 32 k = nI (s.2.1 k).1 ∧ M.1 33 k = nI (s.2.1 k).2.1 ∧ M.1 34 k = nI (s.2.1 k).2.2) : CN 24 s M := by
  have b := cur_sb s
  obtain ⟨h1, h2, h4, h5, h6⟩ := h
  rw [b.1] at h1
  rw [b.2.1] at h5
  rw [b.1, b.2.2.1, b.2.2.2] at h6
  exact ⟨h1, h2, h4, h3, h5, fun i hi => ⟨(h6 i hi).1, (h6 i hi).2.1, (h6 i hi).2.2.1, (h6 i hi).2.2.2, (h0 i hi).1, (h0 i hi).2⟩, hd⟩
/-- where the class's north stands -/
def pN (x j : Nat) : Prop := (x = 24 ∧ (j = 2 ∨ j = 3)) ∨ x = 28 ∨ x = 29 ∨ x = 32 ∨ x = 33 ∨ x = 34
theorem act_C {fu : Nat} (hf : 1000 ≤ fu) {M : Mm} {s : Ns} (hs : okN s) (hc : CN 24 s M) {q : Nat × Nat × Nat} (hq : dOK (vMen s.1) q) (hD : s.2.2.1 < 60) : ∃ M', F_X2_act fu M 24 (nI q.1) (nI q.2.1) (nI q.2.2) = some M' ∧ CN 24 (nxt s q) M' ∧ Out pN M M' := by
  have hv := hs.v
  have hq' : dOK (vMen (cur s)) q := by rw [(cur_sb s).1]; exact hq
  have hD3 := hc.2.2.2.1
  have o1 : Out (fun x j => (x = 24 ∧ j = 3) ∨ x = 32 ∨ x = 33 ∨ x = 34) M (pI (pI (pI (pI M 32 s.2.2.1 (nI q.1)) 33 s.2.2.1 (nI q.2.1)) 34 s.2.2.1 (nI q.2.2)) 24 3 (nI (s.2.2.1 + 1))) := ((((Out.rf).pI (by omega)).pI (by omega)).pI (by omega)).pI (by omega)
  have hc1 : CV (cur s) (pI (pI (pI (pI M 32 s.2.2.1 (nI q.1)) 33 s.2.2.1 (nI q.2.1)) 34 s.2.2.1 (nI q.2.2)) 24 3 (nI (s.2.2.1 + 1))) := by
    obtain ⟨a, b, c, d, e⟩ := hc.cv
    exact ⟨by rw [(o1 _ _ (by omega)).1]; exact a, by rw [(o1 _ _ (by omega)).1]; exact b, by rw [(o1 _ _ (by omega)).1]; exact c, fun j hj => by rw [(o1 _ _ (by omega)).1]; exact d j hj, fun j hj => ⟨by rw [(o1 _ _ (by omega)).1]; exact (e j hj).1, by rw [(o1 _ _ (by omega)).1]; exact (e j hj).2.1, by rw [(o1 _ _ (by omega)).1]; exact (e j hj).2.2.1, by rw [(o1 _ _ (by omega)).1]; exact (e j hj).2.2.2⟩⟩
  obtain ⟨M', a1, a2, a3⟩ := perform_C hf hv hc1 hq'
  refine ⟨M', ?_, CN.mk2 (by rw [nxt_cur]; exact a2) ?_ (fun i hi => ?_) (fun k hk => ?_), (o1.wk fun x j q => by unfold pN; omega).trans (a3.wk fun x j q => by unfold pN; omega)⟩
  · unfold F_X2_act
    rw [show 24 + 8 = 32 from rfl, show 24 + 9 = 33 from rfl, show 24 + 10 = 34 from rfl, hD3, wr32 hD, ob1_s, pI_n (by omega), hD3, wr33 hD, ob1_s, pI_n (by omega), pI_n (by omega), hD3, wr34 hD, ob1_s, pI_n (by omega), pI_n (by omega), pI_n (by omega), hD3, nI_1, lt1_s, a1, ob1_s]
  · rw [(a3 _ _ (by omega)).1, pI_s]
    rfl
  · obtain ⟨-, -, -, -, -, h6, -⟩ := hc
    rw [(a3 _ _ (by omega)).1, (a3 _ _ (by omega)).1, (o1 _ _ (by omega)).1, (o1 _ _ (by omega)).1]
    exact ⟨(h6 i hi).2.2.2.2.1, (h6 i hi).2.2.2.2.2⟩
  · obtain ⟨-, -, -, -, -, -, h7⟩ := hc
    have hk : k < s.2.2.1 + 1 := hk
    rw [(a3 _ _ (by omega)).1, (a3 _ _ (by omega)).1, (a3 _ _ (by omega)).1]
    show _ = nI (if k = s.2.2.1 then q else s.2.1 k).1 ∧ _ = nI (if k = s.2.2.1 then q else s.2.1 k).2.1 ∧ _ = nI (if k = s.2.2.1 then q else s.2.1 k).2.2
    by_cases hkD : k = s.2.2.1
    · subst hkD
      rw [if_pos rfl]
      refine ⟨?_, ?_, ?_⟩
      · rw [pI_n (by omega), pI_n (by omega), pI_n (by omega), pI_s]
      · rw [pI_n (by omega), pI_n (by omega), pI_s]
      · rw [pI_n (by omega), pI_s]
    · rw [if_neg hkD]
      have := h7 k (by omega)
      refine ⟨?_, ?_, ?_⟩
      · rw [pI_n (by omega), pI_n (by omega), pI_n (by omega), pI_n (by omega)]; exact this.1
      · rw [pI_n (by omega), pI_n (by omega), pI_n (by omega), pI_n (by omega)]; exact this.2.1
      · rw [pI_n (by omega), pI_n (by omega), pI_n (by omega), pI_n (by omega)]; exact this.2.2
theorem cur0 (s : Ns) : (vMen (cur s) = 0) = (vMen s.1 = 0) := by rw [(cur_sb s).1]
theorem dk0 {s : Ns} (h : ¬ vMen s.1 = 0) {a : Nat} (ha : a ≤ 3) : dOK (vMen s.1) (a, 0, 0) := ⟨ha, by show 0 < 6; omega, by show 0 ≤ 9; omega, by omega⟩
/-! snow, the right, undone, lots; man, mark -/
/-- the row of one north comes to that of another -/
theorem writeAll_C2 {fu a b N : Nat} (hab : a ≠ b) (ha : N ≤ ln a) (hb : ln b = N) (hN : N ≤ 60) : ∀ (m n : Nat) (M : Mm) (k : Nat), k + m = N → m < n → (∀ j, j < k → M.1 a j = M.1 b j) → ∃ M', F_X6_writeAll_2 fu n M a b (nI k) = some M' ∧ (∀ j, j < N → M'.1 a j = M.1 b j) ∧ Out (fun x _ => x = a) M M' := by
  intro m
  have hl := ln_lt a
  induction m with
  | zero =>
    intro n M k hk hn h
    obtain ⟨n, rfl⟩ : ∃ q, n = q + 1 := ⟨n - 1, by omega⟩
    refine ⟨M, ?_, fun j hj => h j (by omega), Out.rf⟩
    unfold F_X6_writeAll_2
    rw [hb]
    by_cases hq : nI (ln a) ≤ nI k
    · rw [if_pos hq]
    · rw [if_neg hq, if_pos (nI_le (by omega) (by omega))]
  | succ m ih =>
    intro n M k hk hn h
    obtain ⟨n, rfl⟩ : ∃ q, n = q + 1 := ⟨n - 1, by omega⟩
    obtain ⟨M', a1, a2, a3⟩ := ih n (pI M a k (M.1 b k)) (k + 1) (by omega) (by omega) (fun j hj => by
      rw [pI_n (y := b) (Or.inl (Ne.symm hab))]
      by_cases hjk : j = k
      · rw [hjk, pI_s]
      · rw [pI_n (Or.inr hjk)]
        exact h j (by omega))
    refine ⟨M', ?_, fun j hj => by rw [a2 j hj, pI_n (Or.inl (Ne.symm hab))], (Out.pI (P := fun x _ => x = a) Out.rf rfl).trans a3⟩
    unfold F_X6_writeAll_2
    rw [hb, if_neg (nI_ge (by omega) (by omega)), if_neg (nI_ge (by omega) (by omega)), if_neg (nI_in (by omega) (by omega)), if_neg (nI_in (by omega) (by omega)), clN (by omega), lt1_s, nI_1]
    exact a1
theorem writeAll_C {fu a b N : Nat} (hf : 1000 ≤ fu) (hab : a ≠ b) (ha : N ≤ ln a) (hb : ln b = N) (hN : N ≤ 60) (M : Mm) : ∃ M', F_X6_writeAll fu M a b = some M' ∧ (∀ j, j < N → M'.1 a j = M.1 b j) ∧ Out (fun x _ => x = a) M M' :=
  writeAll_C2 hab ha hb hN N fu M 0 (by omega) (by omega) (fun j hj => by omega)
def nlN (i : Nat) : Nat := if i = 0 then 4 else if i = 1 then 8 else if i ≤ 7 then 6 else 60
theorem nl_N {c : Nat} (h : kd c = 11) : ∀ i, 1 ≤ i → i ≤ 10 → ln (c + i) = nlN i := by
  have : ∀ i, 1 ≤ i → i ≤ 10 → ln (24 + i) = nlN i ∧ ln (35 + i) = nlN i ∧ ln (46 + i) = nlN i ∧ ln (57 + i) = nlN i := by
    intro i h1 h2
    have : ∀ i, i < 11 → 1 ≤ i → ln (24 + i) = nlN i ∧ ln (35 + i) = nlN i ∧ ln (46 + i) = nlN i ∧ ln (57 + i) = nlN i := by decide
    exact this i (by omega) h1
  intro i h1 h2
  rcases kdN h with rfl | rfl | rfl | rfl
  · exact (this i h1 h2).1
  · exact (this i h1 h2).2.1
  · exact (this i h1 h2).2.2.1
  · exact (this i h1 h2).2.2.2
theorem nl_60 (i : Nat) : nlN i ≤ 60 := by unfold nlN; split <;> (try split) <;> (try split) <;> omega
def inB (c0 c1 k : Nat) (M M1 : Mm) : Prop := (∀ i j, i ≤ k → j < nlN i → M1.1 (c0 + i) j = M.1 (c1 + i) j) ∧ Out (fun x _ => c0 ≤ x ∧ x ≤ c0 + 10) M M1
theorem bstep {fu c0 c1 k : Nat} (hf : 1000 ≤ fu) (h0 : kd c0 = 11) (h1 : kd c1 = 11) (hne : c0 + 10 < c1 ∨ c1 + 10 < c0) (hk : k < 10) {M M1 : Mm} (h : inB c0 c1 k M M1) : ∃ M2, F_X6_writeAll fu M1 (c0 + (k + 1)) (c1 + (k + 1)) = some M2 ∧ inB c0 c1 (k + 1) M M2 := by
  obtain ⟨M2, a1, a2, a3⟩ := writeAll_C (a := c0 + (k + 1)) (b := c1 + (k + 1)) (N := nlN (k + 1)) hf (by omega) (by rw [nl_N h0 (k + 1) (by omega) (by omega)]; exact Nat.le_refl _) (nl_N h1 (k + 1) (by omega) (by omega)) (nl_60 _) M1
  refine ⟨M2, a1, fun i j hi hj => ?_, h.2.trans (a3.wk fun x j q => by omega)⟩
  by_cases hik : i = k + 1
  · rw [hik] at hj ⊢
    rw [a2 j hj, (h.2 _ _ (by omega)).1]
  · rw [(a3 _ _ (by omega)).1]
    exact h.1 i j (by omega) hj
theorem become_C {fu c0 c1 : Nat} (hf : 1000 ≤ fu) (h0 : kd c0 = 11) (h1 : kd c1 = 11) (hne : c0 + 10 < c1 ∨ c1 + 10 < c0) {M : Mm} {s : Ns} (hs : okN s) (hc : CN c1 s M) : ∃ M', F_X2_become fu M c0 c1 = some M' ∧ CN c0 s M' ∧ Out (fun x _ => c0 ≤ x ∧ x ≤ c0 + 10) M M' := by
  have i0 : inB c0 c1 0 M (pI (pI (pI (pI M c0 0 (M.1 c1 0)) c0 1 (M.1 c1 1)) c0 2 (M.1 c1 2)) c0 3 (M.1 c1 3)) := by
    refine ⟨fun i j hi hj => ?_, ((((Out.rf).pI (by omega)).pI (by omega)).pI (by omega)).pI (by omega)⟩
    have : i = 0 := by omega
    subst this
    have hj : j < 4 := hj
    rw [Nat.add_zero, Nat.add_zero]
    have hj4 : j = 0 ∨ j = 1 ∨ j = 2 ∨ j = 3 := by omega
    rcases hj4 with rfl | rfl | rfl | rfl
    · rw [pI_n (by omega), pI_n (by omega), pI_n (by omega), pI_s]
    · rw [pI_n (by omega), pI_n (by omega), pI_s]
    · rw [pI_n (by omega), pI_s]
    · rw [pI_s]
  obtain ⟨M1, e1, i1⟩ := bstep hf h0 h1 hne (by omega) i0
  obtain ⟨M2, e2, i2⟩ := bstep hf h0 h1 hne (by omega) i1
  obtain ⟨M3, e3, i3⟩ := bstep hf h0 h1 hne (by omega) i2
  obtain ⟨M4, e4, i4⟩ := bstep hf h0 h1 hne (by omega) i3
  obtain ⟨M5, e5, i5⟩ := bstep hf h0 h1 hne (by omega) i4
  obtain ⟨M6, e6, i6⟩ := bstep hf h0 h1 hne (by omega) i5
  obtain ⟨M7, e7, i7⟩ := bstep hf h0 h1 hne (by omega) i6
  obtain ⟨M8, e8, i8⟩ := bstep hf h0 h1 hne (by omega) i7
  obtain ⟨M9, e9, i9⟩ := bstep hf h0 h1 hne (by omega) i8
  obtain ⟨M10, e10, i10⟩ := bstep hf h0 h1 hne (by omega) i9
  refine ⟨M10, ?_, ?_, i10.2⟩
  · unfold F_X2_become
    rw [lt1_s, pI_n (by omega), lt1_s, pI_n (by omega), pI_n (by omega), lt1_s, pI_n (by omega), pI_n (by omega), pI_n (by omega), lt1_s]
    rw [e1, ob1_s, e2, ob1_s, e3, ob1_s, e4, ob1_s, e5, ob1_s, e6, ob1_s, e7, ob1_s, e8, ob1_s, e9, ob1_s, e10, ob1_s]
  · obtain ⟨g, -⟩ := i10
    have hm := hs.1.1
    have hD := hs.2.2.1
    obtain ⟨c1, c2, c3, c4, c5, c6, c7⟩ := hc
    refine ⟨(g 0 0 (by omega) (by decide)).trans c1, (g 0 1 (by omega) (by decide)).trans c2, (g 0 2 (by omega) (by decide)).trans c3, (g 0 3 (by omega) (by decide)).trans c4, fun j hj => (g 1 j (by omega) hj).trans (c5 j hj), fun i hi => ⟨(g 2 i (by omega) (by show i < 6; omega)).trans (c6 i hi).1, (g 3 i (by omega) (by show i < 6; omega)).trans (c6 i hi).2.1, (g 4 i (by omega) (by show i < 6; omega)).trans (c6 i hi).2.2.1, (g 5 i (by omega) (by show i < 6; omega)).trans (c6 i hi).2.2.2.1, (g 6 i (by omega) (by show i < 6; omega)).trans (c6 i hi).2.2.2.2.1, (g 7 i (by omega) (by show i < 6; omega)).trans (c6 i hi).2.2.2.2.2⟩, fun k hk => ⟨(g 8 k (by omega) (by show k < 60; omega)).trans (c7 k hk).1, (g 9 k (by omega) (by show k < 60; omega)).trans (c7 k hk).2.1, (g 10 k (by omega) (by show k < 60; omega)).trans (c7 k hk).2.2⟩⟩

/-! kept norths, undone, lots; man, mark -/
theorem keptOf_C0 {fu : Nat} {M : Mm} {x : Int32} (h : x < 0 ∨ nI 3 ≤ x) : F_X6_keptOf fu M x = some none := by
  unfold F_X6_keptOf
  rcases h with h | h
  · rw [if_pos h]
  · rw [L3, if_pos h, ite_self]
theorem keptOf_C1 {fu : Nat} {M : Mm} {r : Nat} (h : r < 3) : F_X6_keptOf fu M (nI r) = some (some (35 + 11 * r)) := by
  unfold F_X6_keptOf
  rw [if_neg (nI_pos (by omega)), L3, if_neg (nI_ge (by omega) (by omega)), if_neg (nI_in h (by decide)), clN (by omega)]
theorem kd_K {r : Nat} (h : r < 3) : kd (35 + 11 * r) = 11 := by
  have : ∀ r, r < 3 → kd (35 + 11 * r) = 11 := by decide
  exact this r h
theorem vnar1 : vp_nar .boolean (1 : Int32) = 1 := by decide
theorem vnar0 : vp_nar .boolean (0 : Int32) = 0 := by decide
/-! undone, lots, man, mark -/
theorem undo_C11 {fu : Nat} (hf : 1000 ≤ fu) {s : Ns} (hs : okN s) {N : Nat} (hN : N ≤ s.2.2.1) (h0 : 0 < vMen s.1) : ∀ (m n : Nat) (M : Mm) (k : Nat), k + m = N → m < n → CV (wr s.2.2.2 (rp s.1 s.2.1 k)) M → (∀ j, j < s.2.2.1 → M.1 32 j = nI (s.2.1 j).1 ∧ M.1 33 j = nI (s.2.1 j).2.1 ∧ M.1 34 j = nI (s.2.1 j).2.2) → ∃ M', F_X2_undoFrom_11 fu n M 24 (nI N) (nI k) = some M' ∧ CV (wr s.2.2.2 (rp s.1 s.2.1 N)) M' ∧ Out (fun x j => (x = 24 ∧ j = 2) ∨ x = 28 ∨ x = 29) M M' := by
  intro m
  have hD := hs.2.2.1
  induction m with
  | zero =>
    intro n M k hk hn hc hd
    obtain ⟨n, rfl⟩ : ∃ q, n = q + 1 := ⟨n - 1, by omega⟩
    refine ⟨M, ?_, by rw [show N = k by omega]; exact hc, Out.rf⟩
    unfold F_X2_undoFrom_11
    rw [if_pos (nI_le (by omega) (by omega))]
  | succ m ih =>
    intro n M k hk hn hc hd
    obtain ⟨n, rfl⟩ : ∃ q, n = q + 1 := ⟨n - 1, by omega⟩
    have hq : dOK (vMen (wr s.2.2.2 (rp s.1 s.2.1 k))) (s.2.1 k) := by
      rw [((wr_sb _ _).trans (rp_sb s.1 s.2.1 k)).1]
      exact hs.2.2.2.1 k (by omega)
    obtain ⟨M1, a1, a2, a3⟩ := perform_C hf (hs.k (k := k) (by omega)) hc hq
    rw [← perf_wr] at a2
    obtain ⟨M', b1, b2, b3⟩ := ih n M1 (k + 1) (by omega) (by omega) a2 (fun j hj => by
      rw [(a3 _ _ (by omega)).1, (a3 _ _ (by omega)).1, (a3 _ _ (by omega)).1]
      exact hd j hj)
    have hdk := hd k (by omega)
    refine ⟨M', ?_, b2, a3.trans b3⟩
    unfold F_X2_undoFrom_11
    rw [if_neg (nI_ge (by omega) (by omega)), show 24 + 8 = 32 from rfl, show 24 + 9 = 33 from rfl, show 24 + 10 = 34 from rfl, rd32 (by omega), rd33 (by omega), rd34 (by omega), ob1_s, ob1_s, ob1_s, hdk.1, hdk.2.1, hdk.2.2, a1, ob1_s, nI_1]
    exact b1
theorem undoFrom_C {fu : Nat} (hf : 1000 ≤ fu) {M : Mm} {s : Ns} (hs : okN s) (hc : CN 24 s M) {N : Nat} (hN : N ≤ s.2.2.1) (h0 : 0 < vMen s.1) : ∃ M', F_X2_undoFrom fu M 24 (nI N) = some M' ∧ CN 24 (s.1, s.2.1, N, s.2.2.2) M' ∧ Out (fun x j => (x = 24 ∧ (j = 2 ∨ j = 3)) ∨ x = 28 ∨ x = 29) M M' := by
  have hm := hs.1.1
  obtain ⟨M1, a1, a2, a3⟩ := writeAll_C (a := 28) (b := 30) (N := 6) hf (by decide) (by decide) (by decide) (by decide) (pI (pI M 24 3 (nI N)) 24 2 0)
  obtain ⟨M2, b1, b2, b3⟩ := writeAll_C (a := 29) (b := 31) (N := 6) hf (by decide) (by decide) (by decide) (by decide) M1
  have o0 : Out (fun x j => x = 24 ∧ (j = 2 ∨ j = 3)) M (pI (pI M 24 3 (nI N)) 24 2 0) := ((Out.rf).pI (by omega)).pI (by omega)
  have o2 : Out (fun x j => (x = 24 ∧ (j = 2 ∨ j = 3)) ∨ x = 28 ∨ x = 29) M M2 := ((o0.wk fun x j q => by omega).trans (a3.wk fun x j q => by omega)).trans (b3.wk fun x j q => by omega)
  obtain ⟨h1, h2, h3, h4, h5, h6, h7⟩ := hc
  have cv2 : CV (wr s.2.2.2 (rp s.1 s.2.1 0)) M2 := by
    refine ⟨?_, ?_, ?_, fun j hj => ?_, fun i hi => ?_⟩
    · rw [(o2 _ _ (by omega)).1]; exact h1
    · rw [(o2 _ _ (by omega)).1]; exact h2
    · rw [(b3 _ _ (by omega)).1, (a3 _ _ (by omega)).1, pI_s]
      show _ = nI (vDay s.1)
      rw [hs.2.1]
      rfl
    · rw [(o2 _ _ (by omega)).1]; exact h5 j hj
    · have hi : i < vMen s.1 := hi
      have e := h6 i hi
      refine ⟨?_, ?_, ?_, ?_⟩
      · rw [(o2 _ _ (by omega)).1]; exact e.1
      · rw [(o2 _ _ (by omega)).1]; exact e.2.1
      · rw [(b3 _ _ (by omega)).1, a2 i (by omega), (o0 _ _ (by omega)).1]; exact e.2.2.2.2.1
      · rw [b2 i (by omega), (a3 _ _ (by omega)).1, (o0 _ _ (by omega)).1]; exact e.2.2.2.2.2
  obtain ⟨M3, c1, c2, c3⟩ := undo_C11 hf hs hN h0 N fu M2 0 (by omega) (by have := hs.2.2.1; omega) cv2 (fun j hj => by
    rw [(o2 _ _ (by omega)).1, (o2 _ _ (by omega)).1, (o2 _ _ (by omega)).1]
    exact h7 j hj)
  refine ⟨M3, ?_, CN.mk2 c2 ?_ (fun i hi => ?_) (fun k hk => ?_), o2.trans (c3.wk fun x j q => by omega)⟩
  · unfold F_X2_undoFrom F_X2_restart
    rw [lt1_s, lt1_s, show 24 + 4 = 28 from rfl, show 24 + 6 = 30 from rfl, show 24 + 5 = 29 from rfl, show 24 + 7 = 31 from rfl, a1, ob1_s, b1, ob1_s, ob1_s]
    exact c1
  · rw [(c3 _ _ (by omega)).1, (b3 _ _ (by omega)).1, (a3 _ _ (by omega)).1, pI_n (by omega), pI_s]
  · have hi : i < vMen s.1 := hi
    rw [(c3 _ _ (by omega)).1, (c3 _ _ (by omega)).1, (o2 _ _ (by omega)).1, (o2 _ _ (by omega)).1]
    exact ⟨(h6 i hi).2.2.2.2.1, (h6 i hi).2.2.2.2.2⟩
  · have hk : k < N := hk
    rw [(c3 _ _ (by omega)).1, (c3 _ _ (by omega)).1, (c3 _ _ (by omega)).1, (o2 _ _ (by omega)).1, (o2 _ _ (by omega)).1, (o2 _ _ (by omega)).1]
    exact h7 k (by omega)
theorem okN.cut {s : Ns} (h : okN s) {N : Nat} (hN : N ≤ s.2.2.1) : okN (s.1, s.2.1, N, s.2.2.2) := ⟨h.1, h.2.1, Nat.le_trans hN h.2.2.1, fun k hk => h.2.2.2.1 k (Nat.lt_of_lt_of_le hk hN), h.2.2.2.2.1, h.2.2.2.2.2⟩
/-- a lot's number, and whether it clouds -/
def lotN (y : Int64) : Int64 := (y * (48271 : Int64)) - (y * (48271 : Int64)) / (2147483647 : Int64) * (2147483647 : Int64)
def lotB (p : Int32) (y : Int64) : Bool := decide (0 ≤ lg_cmp (lotN y - lotN y / (12 : Int64) * (12 : Int64)) p.toInt64)
theorem lotN_e (y : Int64) : (y * (48271 : Int64)) - (y * (48271 : Int64)) / (2147483647 : Int64) * (2147483647 : Int64) = lotN y := by unfold lotN; exact Eq.refl _
theorem lotB_t {p : Int32} {y : Int64} (h : 0 ≤ lg_cmp (lotN y - lotN y / (12 : Int64) * (12 : Int64)) p.toInt64) : lotB p y = true := by unfold lotB; exact decide_eq_true h
theorem lotB_f {p : Int32} {y : Int64} (h : ¬ 0 ≤ lg_cmp (lotN y - lotN y / (12 : Int64) * (12 : Int64)) p.toInt64) : lotB p y = false := by unfold lotB; exact decide_eq_false h
def itr (g : Int64 → Bool) (f : Int64 → Int64) : Nat → Ns → Int64 → Ns
  | 0, s, _ => s
  | m + 1, s, y => itr g f m (nxt s (if g y then 0 else 1, 0, 0)) (f y)
theorem itr_s (g : Int64 → Bool) (f : Int64 → Int64) (m : Nat) (s : Ns) (y : Int64) : itr g f (m + 1) s y = itr g f m (nxt s (if g y then 0 else 1, 0, 0)) (f y) := rfl
theorem itr_1 (g : Int64 → Bool) (f : Int64 → Int64) : ∀ m s y, (itr g f m s y).1 = s.1 := by
  intro m
  induction m with
  | zero => intro s y; rfl
  | succ m ih =>
    intro s y
    rw [itr_s, ih]
    rfl
theorem dkb {s : Ns} (h : 0 < vMen s.1) (b : Bool) : dOK (vMen s.1) (if b then 0 else 1, 0, 0) := by
  cases b
  · exact ⟨by show 1 ≤ 3; omega, by show 0 < 6; omega, by show 0 ≤ 9; omega, h⟩
  · exact ⟨by show 0 ≤ 3; omega, by show 0 < 6; omega, by show 0 ≤ 9; omega, h⟩
theorem lots_C72 {fu : Nat} (hf : 1000 ≤ fu) {p : Int32} {N : Nat} (hN : N ≤ 20) : ∀ (m n : Nat) (M : Mm) (k : Nat) (s : Ns) (y : Int64), k + m = N → m < n → okN s → 0 < vMen s.1 → s.2.2.1 + m ≤ 60 → CN 24 s M → okN (itr (lotB p) lotN m s y) ∧ ∃ M', F_X6_lots_72 fu n M (nI N) p y (nI k) = some (nI (pc (whoN (cur (itr (lotB p) lotN m s y)) 1 0)), M') ∧ CN 24 (itr (lotB p) lotN m s y) M' ∧ Out pN M M' := by
  intro m
  induction m with
  | zero =>
    intro n M k s y hk hn hs h0 hD hc
    obtain ⟨n, rfl⟩ : ∃ q, n = q + 1 := ⟨n - 1, by omega⟩
    refine ⟨hs, M, ?_, hc, Out.rf⟩
    unfold F_X6_lots_72
    rw [if_pos (nI_le (by omega) (by omega)), living_C hf hs.v hc.cv, ob1_s, bc_who hs.v, ob1_s]
    rfl
  | succ m ih =>
    intro n M k s y hk hn hs h0 hD hc
    obtain ⟨n, rfl⟩ : ∃ q, n = q + 1 := ⟨n - 1, by omega⟩
    obtain ⟨M1, a1, a2, a3⟩ := act_C hf hs hc (dkb h0 (lotB p y)) (by omega)
    have hs' := nxt_ok hs (dkb h0 (lotB p y)) (by omega)
    obtain ⟨c1, M', c2, c3, c4⟩ := ih n M1 (k + 1) (nxt s (if lotB p y then 0 else 1, 0, 0)) (lotN y) (by omega) (by omega) hs' h0 (by show s.2.2.1 + 1 + m ≤ 60; omega) a2
    rw [itr_s]
    refine ⟨c1, M', ?_, c3, a3.trans c4⟩
    have e : ∀ b : Bool, F_X6_lots_111 fu (F_X6_lots_72 fu n) M (nI N) p (lotN y) (nI k) (nI (if b then 0 else 1)) = ob1 (F_X2_act fu M 24 (nI (if b then 0 else 1)) (nI 0) (nI 0)) (fun M2 => F_X6_lots_72 fu n M2 (nI N) p (lotN y) (nI (k + 1))) := fun b => by
      unfold F_X6_lots_111
      rw [nI_1]
      rfl
    unfold F_X6_lots_72
    rw [if_neg (nI_ge (by omega) (by omega)), lt1_s, lotN_e]
    have a1' : F_X2_act fu M 24 (nI (if lotB p y then 0 else 1)) (nI 0) (nI 0) = some M1 := a1
    by_cases hb : 0 ≤ lg_cmp (lotN y - lotN y / (12 : Int64) * (12 : Int64)) p.toInt64
    · rw [lotB_t hb] at a1' c2 ⊢
      rw [if_pos hb, show (0 : Int32) = nI (if true then 0 else 1) from rfl, e true, a1', ob1_s]
      exact c2
    · rw [lotB_f hb] at a1' c2 ⊢
      rw [if_neg hb, show (1 : Int32) = nI (if false then 0 else 1) from rfl, e false, a1', ob1_s]
      exact c2
/-! man, mark, counts, the digest -/
theorem who_bit {v : NV} (r n : Nat) {i : Nat} (hi : i < vMen v) : (whoN v r n).testBit i = whoF v r n i := by
  unfold whoN
  rw [bset_bit, decide_eq_true hi, Bool.true_and]
theorem blk1 {v : NV} (i : Nat) : blk v i 1 = vBulk v i - melD v (vKind v i) (vShade v i) 0 := by
  show vBulk v i - (melD v (vKind v i) (vShade v i) 0 + 0) = _
  rw [Nat.add_zero]
theorem rowsThere_C4 {fu : Nat} {M : Mm} {p : Nat → Bool} (hp : ∀ r, r < 6 → (M.1 (1 + r) 0 = 0 ↔ p r = false)) : ∀ (m n i a : Nat), i + m = 6 → m < n → F_X6_rowsThere_4 fu M n (nI a) (nI i) = some (nI (a + cntF p m i)) := by
  intro m
  induction m with
  | zero =>
    intro n i a hi hn
    obtain ⟨n, rfl⟩ : ∃ q, n = q + 1 := ⟨n - 1, by omega⟩
    unfold F_X6_rowsThere_4
    rw [L6, if_pos (nI_le (by omega) (by omega))]
    rfl
  | succ m ih =>
    intro n i a hi hn
    obtain ⟨n, rfl⟩ : ∃ q, n = q + 1 := ⟨n - 1, by omega⟩
    have hpi := hp i (by omega)
    unfold F_X6_rowsThere_4 cntF
    rw [L6, if_neg (nI_ge (by omega) (by omega)), rowOf_C1 (by omega), ob1_s, op1_s, kd_R (by omega), if_neg (by decide), nI_1, nI_1, ih n (i + 1) _ (by omega) (by omega), ih n (i + 1) _ (by omega) (by omega)]
    cases hq : p i
    · rw [if_pos (hpi.mpr hq), if_neg (by decide), Nat.zero_add]
    · rw [if_neg (fun z => by have := hpi.mp z; rw [hq] at this; cases this), if_pos rfl, Nat.add_assoc]
theorem textsThere_C4 {fu : Nat} {M : Mm} {p : Nat → Bool} (hp : ∀ r, r < 4 → (M.1 (13 + r) 0 = 0 ↔ p r = false)) : ∀ (m n i a : Nat), i + m = 4 → m < n → F_X6_textsThere_4 fu M n (nI a) (nI i) = some (nI (a + cntF p m i)) := by
  intro m
  induction m with
  | zero =>
    intro n i a hi hn
    obtain ⟨n, rfl⟩ : ∃ q, n = q + 1 := ⟨n - 1, by omega⟩
    unfold F_X6_textsThere_4
    rw [L4, if_pos (nI_le (by omega) (by omega))]
    rfl
  | succ m ih =>
    intro n i a hi hn
    obtain ⟨n, rfl⟩ : ∃ q, n = q + 1 := ⟨n - 1, by omega⟩
    have hpi := hp i (by omega)
    unfold F_X6_textsThere_4 cntF
    rw [L4, if_neg (nI_ge (by omega) (by omega)), textOf_C1 (by omega), ob1_s, op1_s, kd_T (by omega), if_neg (by decide), nI_1, nI_1, ih n (i + 1) _ (by omega) (by omega), ih n (i + 1) _ (by omega) (by omega)]
    cases hq : p i
    · rw [if_pos (hpi.mpr hq), if_neg (by decide), Nat.zero_add]
    · rw [if_neg (fun z => by have := hpi.mp z; rw [hq] at this; cases this), if_pos rfl, Nat.add_assoc]
theorem keptThere_C4 {fu : Nat} {M : Mm} {p : Nat → Bool} (hp : ∀ r, r < 3 → (M.1 (35 + 11 * r) 0 ≤ 0 ↔ p r = false)) : ∀ (m n i a : Nat), i + m = 3 → m < n → F_X6_keptThere_4 fu M n (nI a) (nI i) = some (nI (a + cntF p m i)) := by
  intro m
  induction m with
  | zero =>
    intro n i a hi hn
    obtain ⟨n, rfl⟩ : ∃ q, n = q + 1 := ⟨n - 1, by omega⟩
    unfold F_X6_keptThere_4
    rw [L3, if_pos (nI_le (by omega) (by omega))]
    rfl
  | succ m ih =>
    intro n i a hi hn
    obtain ⟨n, rfl⟩ : ∃ q, n = q + 1 := ⟨n - 1, by omega⟩
    have hpi := hp i (by omega)
    unfold F_X6_keptThere_4 cntF
    rw [L3, if_neg (nI_ge (by omega) (by omega)), keptOf_C1 (by omega), ob1_s, op1_s, kd_K (by omega), if_neg (by decide), nI_1, nI_1, ih n (i + 1) _ (by omega) (by omega), ih n (i + 1) _ (by omega) (by omega)]
    cases hq : p i
    · rw [if_pos (hpi.mpr hq), if_neg (by decide), Nat.zero_add]
    · rw [if_neg (fun z => by have := hpi.mp z; rw [hq] at this; cases this), if_pos rfl, Nat.add_assoc]
