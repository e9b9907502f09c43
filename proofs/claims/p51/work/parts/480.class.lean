/-! the least shade: guard, carry -/
theorem shlm {v : NV} (hv : okV v) : (1 : Int32) <<< (nI (vMen v) &&& 31) = nI (2 ^ vMen v) := shl_bit _ (by have := hv.1; omega)
theorem p2le {v : NV} (hv : okV v) : 2 ^ vMen v ≤ 64 := Nat.pow_le_pow_right (n := 2) (by decide) hv.1
theorem isSet_C0 {fu : Nat} {M : Mm} {v : NV} (hv : okV v) (hc : CV v M) {x : Int32} (h : x < 0 ∨ nI (2 ^ vMen v) ≤ x) : F_X2_isSet fu M 24 x = some 0 := by
  unfold F_X2_isSet
  rw [hc.1, shlm hv]
  rcases h with h | h
  · rw [if_pos h]
  · rw [if_pos h, ite_self]
theorem isSet_C1 {fu : Nat} {M : Mm} {v : NV} (hv : okV v) (hc : CV v M) {s : Nat} (h : s < 2 ^ vMen v) : F_X2_isSet fu M 24 (nI s) = some 1 := by
  have := p2le hv
  unfold F_X2_isSet
  rw [hc.1, shlm hv, if_neg (nI_pos (by omega)), if_neg (nI_ge h (by omega))]
def srO (p : Nat → Bool) : Nat → Nat → Option Nat
  | 0, _ => none
  | m + 1, d => if p d then some d else srO p m (d + 1)
def oI : Option Nat → Int32
  | none => -9
  | some d => nI d
theorem srch_o (p : Nat → Bool) : ∀ m d, srch p m d = oI (srO p m d) := by
  intro m
  induction m with
  | zero => intro d; rfl
  | succ m ih =>
    intro d
    unfold srch srO
    by_cases h : p d = true
    · rw [if_pos h, if_pos h]; rfl
    · rw [if_neg h, if_neg h]; exact ih _
theorem srO_r {p : Nat → Bool} {s : Nat} : ∀ m d, srO p m d = some s → d ≤ s ∧ s < d + m ∧ p s = true := by
  intro m
  induction m with
  | zero => intro d h; cases h
  | succ m ih =>
    intro d h
    unfold srO at h
    by_cases hp : p d = true
    · rw [if_pos hp] at h
      injection h with h
      subst h
      exact ⟨Nat.le_refl _, by omega, hp⟩
    · rw [if_neg hp] at h
      have := ih _ h
      exact ⟨by omega, by omega, this.2.2⟩
/-- the least shade of one -/
def glO (v : NV) (set N i : Nat) : Option Nat := if set.testBit i = true then srO (grdP v i N) (10 - vShade v i) (vShade v i) else some (vShade v i)
def gS (v : NV) (set N : Nat) : Nat → Nat → Nat → Option Nat
  | 0, _, a => some a
  | m + 1, i, a => match glO v set N i with
    | none => none
    | some s => gS v set N m (i + 1) (a + (s - vShade v i))
theorem glO_r {v : NV} (hv : okV v) {set N i s : Nat} (hi : i < vMen v) (h : glO v set N i = some s) : vShade v i ≤ s ∧ s ≤ 9 := by
  have h4 := (hv.2.2.2.2.2 i hi).2.2.2
  unfold glO at h
  by_cases hb : set.testBit i = true
  · rw [if_pos hb] at h
    have := srO_r _ _ h
    omega
  · rw [if_neg hb] at h
    injection h with h
    omega
theorem take_C {fu : Nat} (hf : 1000 ≤ fu) {M : Mm} {r : Nat} (hr : r < 6) (x : Int32) : ∃ M', F_X4_take fu M (1 + r) 82 x = some M' ∧ M'.1 (1 + r) 0 = 1 ∧ M'.1 (1 + r) 1 = x ∧ (∀ j, j < 6 → M'.1 (1 + r + 6) j = M.1 82 j) ∧ Out (fun x _ => x = 1 + r ∨ x = 1 + r + 6) M M' := by
  obtain ⟨M', a1, a2, a3⟩ := writeAll_C (a := 1 + r + 6) (b := 82) (N := 6) hf (by omega) (by rw [ln_R hr]; omega) (by decide) (by decide) (pI (pI M (1 + r) 0 1) (1 + r) 1 x)
  refine ⟨M', ?_, ?_, ?_, fun j hj => ?_, (((Out.rf).pI (by omega)).pI (by omega)).trans (a3.wk fun x j q => by omega)⟩
  · unfold F_X4_take
    rw [lt1_s, lt1_s, a1, ob1_s]
  · rw [(a3 _ _ (by omega)).1, pI_n (by omega), pI_s]
  · rw [(a3 _ _ (by omega)).1, pI_s]
  · rw [a2 j hj, pI_n (by omega), pI_n (by omega)]
theorem guard_C51 {fu : Nat} (hf : 1000 ≤ fu) {v : NV} (hv : okV v) {set N c : Nat} (hs : set < 64) (hN : N ≤ 60) : ∀ (m n : Nat) (M : Mm) (i a : Nat), i + m = vMen v → m < n → CV v M → (∀ j, j < i → ∃ s, glO v set N j = some s ∧ M.1 82 j = nI s) → (gS v set N m i a = none ∧ ∃ M', F_X6_guard_51 fu n M (nI set) (nI N) c (nI a) (nI i) = some (-9, M') ∧ Out (fun x _ => x = 82) M M') ∨ ∃ a' M1, gS v set N m i a = some a' ∧ (∀ j, j < vMen v → ∃ s, glO v set N j = some s ∧ M1.1 82 j = nI s) ∧ Out (fun x _ => x = 82) M M1 ∧ F_X6_guard_51 fu n M (nI set) (nI N) c (nI a) (nI i) = ob1 (F_X4_take fu M1 c 82 (nI (vMen v))) (fun M3 => some (nI a', M3)) := by
  intro m
  have hm := hv.1
  induction m with
  | zero =>
    intro n M i a hi hn hc h
    obtain ⟨n, rfl⟩ : ∃ q, n = q + 1 := ⟨n - 1, by omega⟩
    refine Or.inr ⟨a, M, rfl, fun j hj => h j (by omega), Out.rf, ?_⟩
    unfold F_X6_guard_51
    rw [hc.1, if_pos (nI_le (by omega) (by omega))]
  | succ m ih =>
    intro n M i a hi hn hc h
    obtain ⟨n, rfl⟩ : ∃ q, n = q + 1 := ⟨n - 1, by omega⟩
    have hiv : i < vMen v := by omega
    obtain ⟨g1, g2, g3, g4⟩ := hv.2.2.2.2.2 i hiv
    have e : F_X6_guard_51 fu (n + 1) M (nI set) (nI N) c (nI a) (nI i) = F_X6_guard_101 fu (F_X6_guard_51 fu n) M (nI set) (nI N) c (nI a) (nI i) (nI (vShade v i)) (oI (glO v set N i)) := by
      rw [F_X6_guard_51, hc.1, if_neg (nI_ge (by omega) (by omega)), rd29 (by omega), ob1_s, (hc.2.2.2.2 i hiv).2.2.2, isIn_C hs (by omega), ob1_s, leastGuard_C hf hv hc hiv hN, ob1_s, srch_o]
      unfold glO
      cases set.testBit i
      · rw [if_pos (by decide), if_neg (by decide)]
        rfl
      · rw [if_neg (by decide), if_pos rfl]
    rw [e]
    unfold F_X6_guard_101 gS
    cases hg : glO v set N i with
    | none => exact Or.inl ⟨rfl, M, if_pos rfl, Out.rf⟩
    | some s =>
      obtain ⟨r1, r2⟩ := glO_r hv hiv hg
      have hc1 : CV v (pI M 82 i (nI s)) := hc.p (by omega)
      show (gS v set N m (i + 1) (a + (s - vShade v i)) = none ∧ ∃ M', (if nI s = (-9 : Int32) then some ((-9 : Int32), M) else ob1 (F_X6_write fu M 82 (nI i) (nI s)) (fun M3 => F_X6_guard_51 fu n M3 (nI set) (nI N) c (nI a + (nI s - nI (vShade v i))) (nI i + 1))) = some (-9, M') ∧ _) ∨ ∃ a' M1, gS v set N m (i + 1) (a + (s - vShade v i)) = some a' ∧ _ ∧ _ ∧ (if nI s = (-9 : Int32) then some ((-9 : Int32), M) else ob1 (F_X6_write fu M 82 (nI i) (nI s)) (fun M3 => F_X6_guard_51 fu n M3 (nI set) (nI N) c (nI a + (nI s - nI (vShade v i))) (nI i + 1))) = _
      rw [if_neg (neg9' (by omega)), wr82 (by omega), ob1_s, pk_sub r1, nI_add, nI_1]
      rcases ih n (pI M 82 i (nI s)) (i + 1) (a + (s - vShade v i)) (by omega) (by omega) hc1 (fun j hj => by
        by_cases hji : j = i
        · exact ⟨s, by rw [hji]; exact hg, by rw [hji, pI_s]⟩
        · obtain ⟨s', p1, p2⟩ := h j (by omega)
          exact ⟨s', p1, by rw [pI_n (by omega)]; exact p2⟩) with ⟨a1, M', a2, a3⟩ | ⟨a', M1, a1, a2, a3, a4⟩
      · exact Or.inl ⟨a1, M', a2, (Out.pI (P := fun x _ => x = 82) Out.rf rfl).trans a3⟩
      · exact Or.inr ⟨a', M1, a1, a2, (Out.pI (P := fun x _ => x = 82) Out.rf rfl).trans a3, a4⟩
theorem sc82 {x j : Nat} (h : x = 82) : scr x j := by subst h; unfold scr sT sR sX sN; omega
theorem sc106 {x j : Nat} (h : x = 106) : scr x j := by subst h; unfold scr sT sR sX sN; omega
def cryP (v : NV) (i N : Nat) : Nat → Bool := fun x => hasR (vKind v i) (vBulk v i + x - melF v (vKind v i) (vShade v i) 0 N) (vRight v)
theorem carry_C74 {fu : Nat} {M : Mm} {v : NV} (hv : okV v) (hc : CV v M) {i N : Nat} (hi : i < vMen v) (hN : N ≤ 60) : ∀ (m n x : Nat), x + m = 100 - vBulk v i → m < n → F_X6_carry_74 fu M n (nI i) (nI (vBulk v i)) (nI (melF v (vKind v i) (vShade v i) 0 N)) (nI x) = some (srch (cryP v i N) m x) := by
  intro m
  obtain ⟨g1, g2, g3, g4⟩ := hv.2.2.2.2.2 i hi
  have hml := melF_le hv (vKind v i) (vShade v i) N 0
  induction m with
  | zero =>
    intro n x hx hn
    obtain ⟨n, rfl⟩ : ∃ q, n = q + 1 := ⟨n - 1, by omega⟩
    unfold F_X6_carry_74
    rw [L99, pk_sub g3, if_pos (nI_lt (by omega) (by omega))]
    rfl
  | succ m ih =>
    intro n x hx hn
    obtain ⟨n, rfl⟩ : ∃ q, n = q + 1 := ⟨n - 1, by omega⟩
    unfold F_X6_carry_74 srch
    rw [L99, pk_sub g3, if_neg (nI_nlt (by omega) (by omega)), nI_add, hc.2.1, hasRight_C hv hc hi (by omega) (by omega) (hv.2.1 (by omega)) hv.2.2.1, ob1_s, nI_1, ih n (x + 1) (by omega) (by omega), show hasR (vKind v i) (vBulk v i + x - melF v (vKind v i) (vShade v i) 0 N) (vRight v) = cryP v i N x from rfl]
    cases cryP v i N x
    · rfl
    · rfl
/-! bribe -/
def nsO (p : Nat → Bool) (s : Nat) : Nat → Nat → Option Nat
  | 0, _ => none
  | m + 1, f => if f ≤ s ∧ p (s - f) = true then some (s - f) else if s + f ≤ 9 ∧ p (s + f) = true then some (s + f) else nsO p s m (f + 1)
theorem nsC_o (p : Nat → Bool) (s : Nat) : ∀ m f, nsC p s m f = oI (nsO p s m f) := by
  intro m
  induction m with
  | zero => intro f; rfl
  | succ m ih =>
    intro f
    unfold nsC nsO
    by_cases h1 : f ≤ s ∧ p (s - f) = true
    · rw [if_pos h1, if_pos h1]; rfl
    · rw [if_neg h1, if_neg h1]
      by_cases h2 : s + f ≤ 9 ∧ p (s + f) = true
      · rw [if_pos h2, if_pos h2]; rfl
      · rw [if_neg h2, if_neg h2]; exact ih _
def ap (a b : Nat) : Nat := if a ≤ b then b - a else a - b
def updO (p : Nat → Bool) (s : Nat) (c : Option Nat) (x : Nat) : Option Nat := if p x = true then (match c with | none => some x | some d => if ap x s < ap d s then some x else some d) else c
def lsP (p : Nat → Bool) (s : Nat) : Nat → Option Nat
  | 0 => none
  | k + 1 => updO p s (lsP p s k) k
theorem nsO_cg {p q : Nat → Bool} {s : Nat} (hs : s ≤ 9) (h : ∀ x, x < 10 → p x = q x) : ∀ m f, nsO p s m f = nsO q s m f := by
  intro m
  induction m with
  | zero => intro f; rfl
  | succ m ih =>
    intro f
    unfold nsO
    rw [ih, h (s - f) (by omega)]
    by_cases h2 : s + f ≤ 9
    · rw [h (s + f) (by omega)]
    · rw [if_neg (c := s + f ≤ 9 ∧ p (s + f) = true) (fun z => h2 z.1), if_neg (c := s + f ≤ 9 ∧ q (s + f) = true) (fun z => h2 z.1)]
theorem lsP_cg {p q : Nat → Bool} {s : Nat} : ∀ k, (∀ x, x < k → p x = q x) → lsP p s k = lsP q s k := by
  intro k
  induction k with
  | zero => intro _; rfl
  | succ k ih =>
    intro h
    unfold lsP updO
    rw [ih (fun x hx => h x (by omega)), h k (by omega)]
set_option maxRecDepth 100000 in
set_option maxHeartbeats 4000000 in
theorem near_all : ∀ s, s < 10 → ∀ b, b < 1024 → nsO (fun x => b.testBit x) s 10 0 = lsP (fun x => b.testBit x) s 10 := by decide +kernel
theorem bset_lt' (f : Nat → Bool) (n : Nat) : bset f n < 2 ^ n := bset_lt f n
theorem near_eq (p : Nat → Bool) {s : Nat} (hs : s ≤ 9) : nsO p s 10 0 = lsP p s 10 := by
  have hb : ∀ x, x < 10 → p x = (bset p 10).testBit x := fun x hx => by rw [bset_bit, decide_eq_true hx, Bool.true_and]
  rw [nsO_cg hs hb, lsP_cg 10 hb]
  exact near_all s (by omega) (bset p 10) (bset_lt p 10)
theorem nsO_le {p : Nat → Bool} {s d : Nat} (hs : s ≤ 9) : ∀ m f, nsO p s m f = some d → d ≤ 9 := by
  intro m
  induction m with
  | zero => intro f h; cases h
  | succ m ih =>
    intro f h
    unfold nsO at h
    by_cases h1 : f ≤ s ∧ p (s - f) = true
    · rw [if_pos h1] at h; injection h with h; omega
    · rw [if_neg h1] at h
      by_cases h2 : s + f ≤ 9 ∧ p (s + f) = true
      · rw [if_pos h2] at h; injection h with h; omega
      · rw [if_neg h2] at h; exact ih _ h
theorem lsP_le {p : Nat → Bool} {s d : Nat} : ∀ k, lsP p s k = some d → d < k := by
  intro k
  induction k generalizing d with
  | zero => intro h; cases h
  | succ k ih =>
    intro h
    unfold lsP updO at h
    split at h
    · split at h
      · injection h with h; omega
      · next c hc =>
        split at h
        · injection h with h; omega
        · injection h with h
          have := ih hc
          omega
    · have := ih h; omega
/-- the shade nearest to what one has, by which it has the right, or not -/
def nr (v : NV) (N i : Nat) (b : Bool) : Option Nat := nsO (fun x => rgtP v i N x == b) (vShade v i) 10 0
theorem nr_le {v : NV} (hv : okV v) {N i : Nat} {b : Bool} {d : Nat} (hi : i < vMen v) (h : nr v N i b = some d) : d ≤ 9 := nsO_le (hv.2.2.2.2.2 i hi).2.2.2 10 0 h
theorem near_C {fu : Nat} (hf : 1000 ≤ fu) {M : Mm} {v : NV} (hv : okV v) (hc : CV v M) {i N : Nat} (hi : i < vMen v) (hN : N ≤ 60) (b : Bool) : F_X2_nearestShade fu M 24 (nI i) (nI N) (bI b) = some (oI (nr v N i b)) := by
  rw [nearestShade_C hf hv hc hi hN, nsC_o]
  rfl
theorem bribe_C46 {fu : Nat} (hf : 1000 ≤ fu) {v : NV} (hv : okV v) {N c : Nat} {x1 : Int32} (hN : N ≤ 60) : ∀ (m n : Nat) (M : Mm) (i : Nat), i + m = vMen v → m < n → CV v M → (∀ j, j < i → M.1 83 j = oI (nr v N j true) ∧ M.1 84 j = oI (nr v N j false)) → ∃ M', CV v M' ∧ (∀ j, j < vMen v → M'.1 83 j = oI (nr v N j true) ∧ M'.1 84 j = oI (nr v N j false)) ∧ Out (fun x _ => x = 83 ∨ x = 84) M M' ∧ F_X6_bribe_46 fu n M x1 (nI N) c (nI i) = F_X6_bribe_114 fu fu M' x1 c (-9 : Int32) (0 : Int32) (0 : Int32) := by
  intro m
  have hm := hv.1
  induction m with
  | zero =>
    intro n M i hi hn hc h
    obtain ⟨n, rfl⟩ : ∃ q, n = q + 1 := ⟨n - 1, by omega⟩
    refine ⟨M, hc, fun j hj => h j (by omega), Out.rf, ?_⟩
    unfold F_X6_bribe_46
    rw [hc.1, if_pos (nI_le (by omega) (by omega))]
  | succ m ih =>
    intro n M i hi hn hc h
    obtain ⟨n, rfl⟩ : ∃ q, n = q + 1 := ⟨n - 1, by omega⟩
    have hc1 : CV v (pI M 83 i (oI (nr v N i true))) := hc.p (by omega)
    have hc2 : CV v (pI (pI M 83 i (oI (nr v N i true))) 84 i (oI (nr v N i false))) := hc1.p (by omega)
    have o1 : Out (fun x _ => x = 83 ∨ x = 84) M (pI (pI M 83 i (oI (nr v N i true))) 84 i (oI (nr v N i false))) := ((Out.rf).pI (by omega)).pI (by omega)
    obtain ⟨M', a1, a2, a3, a4⟩ := ih n _ (i + 1) (by omega) (by omega) hc2 (fun j hj => by
      by_cases hji : j = i
      · subst hji
        rw [pI_n (by omega), pI_s, pI_s]
        exact ⟨rfl, rfl⟩
      · rw [pI_n (by omega), pI_n (by omega), pI_n (by omega), pI_n (by omega)]
        exact h j (by omega))
    refine ⟨M', a1, a2, o1.trans a3, ?_⟩
    unfold F_X6_bribe_46
    rw [hc.1, if_neg (nI_ge (by omega) (by omega)), show (1 : Int32) = bI true from rfl, near_C hf hv hc (by omega) hN, ob1_s, wr83 (by omega), ob1_s, show (0 : Int32) = bI false from rfl, near_C hf hv hc1 (by omega) hN, ob1_s, wr84 (by omega), ob1_s, show bI true = (1 : Int32) from rfl, nI_1]
    exact a4
/-- how many shades more or less -/
def cO (v : NV) (N s : Nat) : Nat → Nat → Nat → Option Nat
  | 0, _, a => some a
  | m + 1, i, a => match nr v N i (s.testBit i) with
    | none => none
    | some d => cO v N s m (i + 1) (a + ap d (vShade v i))
theorem cO_le {v : NV} (hv : okV v) {N s : Nat} : ∀ m i a c, i + m = vMen v → cO v N s m i a = some c → c ≤ a + 9 * m := by
  intro m
  induction m with
  | zero => intro i a c _ h; unfold cO at h; injection h with h; omega
  | succ m ih =>
    intro i a c hi h
    unfold cO at h
    split at h
    · cases h
    · next d hd =>
      have h1 := nr_le hv (by omega) hd
      have h2 := (hv.2.2.2.2.2 i (by omega)).2.2.2
      have h3 := ih (i + 1) _ c (by omega) h
      have h4 : ap d (vShade v i) ≤ 9 := by unfold ap; split <;> omega
      omega
theorem zab_ap {a b : Nat} (ha : a ≤ 9) (hb : b ≤ 9) : zab (nI a - nI b) = nI (ap a b) := by
  unfold zab ap
  by_cases h : b ≤ a
  · rw [pk_sub h, if_pos (nI_pos' (by omega))]
    by_cases h2 : a ≤ b
    · rw [if_pos h2, show a - b = b - a by omega]
    · rw [if_neg h2]
  · rw [if_neg (fun q => by
      have h1 := pk_sneg (a := a) (b := b) (by omega) (by omega)
      rw [lt0i] at h1
      rw [Int32.le_iff_toInt_le, show (0 : Int32).toInt = 0 from rfl] at q
      omega), if_pos (by omega), Int32.sub_eq_add_neg, Int32.zero_add, Int32.neg_sub, pk_sub (by omega)]
theorem sbv_C {fu : Nat} {M : Mm} {v : NV} (hv : okV v) {N s i : Nat} (hs : s < 64) (hi : i < vMen v) (h : ∀ j, j < vMen v → M.1 83 j = oI (nr v N j true) ∧ M.1 84 j = oI (nr v N j false)) : F_X6_shadeByVoters fu M (nI s) (nI i) = some (oI (nr v N i (s.testBit i))) := by
  have hm := hv.1
  unfold F_X6_shadeByVoters
  rw [isIn_C hs (by omega), ob1_s, rd83 (by omega), rd84 (by omega), ob1_s, ob1_s, (h i hi).1, (h i hi).2]
  cases s.testBit i <;> rfl
theorem cost_C4 {fu : Nat} {M : Mm} {v : NV} (hv : okV v) (hc : CV v M) {N s : Nat} (hs : s < 64) (h : ∀ j, j < vMen v → M.1 83 j = oI (nr v N j true) ∧ M.1 84 j = oI (nr v N j false)) : ∀ (m n i a : Nat), i + m = vMen v → m < n → F_X6_costOfVoters_4 fu M n (nI s) (nI a) (nI i) = some (oI (cO v N s m i a)) := by
  intro m
  have hm := hv.1
  induction m with
  | zero =>
    intro n i a hi hn
    obtain ⟨n, rfl⟩ : ∃ q, n = q + 1 := ⟨n - 1, by omega⟩
    unfold F_X6_costOfVoters_4
    rw [hc.1, if_pos (nI_le (by omega) (by omega))]
    rfl
  | succ m ih =>
    intro n i a hi hn
    obtain ⟨n, rfl⟩ : ∃ q, n = q + 1 := ⟨n - 1, by omega⟩
    have h4 := (hv.2.2.2.2.2 i (by omega)).2.2.2
    unfold F_X6_costOfVoters_4 cO
    rw [hc.1, if_neg (nI_ge (by omega) (by omega)), sbv_C hv hs (by omega) h, ob1_s]
    cases hd : nr v N i (s.testBit i) with
    | none => exact if_pos rfl
    | some d =>
      have h9 := nr_le hv (by omega) hd
      show (if nI d = (-9 : Int32) then _ else _) = _
      rw [if_neg (neg9' (by omega)), rd29 (by omega), ob1_s, (hc.2.2.2.2 i (by omega)).2.2.2, show oI (some d) = nI d from rfl, zab_ap h9 h4, nI_add, nI_1]
      exact ih n (i + 1) _ (by omega) (by omega)
/-- the best set, so far -/
def stp (v : NV) (N : Nat) (b : Bool) (s : Nat) (acc : Option (Nat × Nat)) : Option (Nat × Nat) :=
  match cO v N s (vMen v) 0 0 with
  | none => acc
  | some c => match acc with
    | none => if (carr v s == b) = true then some (c, s) else none
    | some (c0, s0) => if c < c0 ∧ (carr v s == b) = true then some (c, s) else some (c0, s0)
def bst (v : NV) (N : Nat) (b : Bool) : Nat → Nat → Option (Nat × Nat) → Option (Nat × Nat)
  | 0, _, a => a
  | m + 1, s, a => bst v N b m (s + 1) (stp v N b s a)
def fC5 : Option (Nat × Nat) → Int32
  | none => -9
  | some (c, _) => nI c
def fC6 : Option (Nat × Nat) → Int32
  | none => 0
  | some (_, s) => nI s
def fX4 : Option (Nat × Nat) → Int32
  | none => -9
  | some (_, s) => nI s
def fX5 : Option (Nat × Nat) → Int32
  | none => nI 1000000
  | some (c, _) => nI c
def okA (a : Option (Nat × Nat)) : Prop := ∀ c s, a = some (c, s) → c ≤ 54 ∧ s < 64
theorem stp_ok {v : NV} (hv : okV v) {N : Nat} {b : Bool} {s : Nat} (hs : s < 64) {a : Option (Nat × Nat)} (h : okA a) : okA (stp v N b s a) := by
  have hm := hv.1
  intro c t e
  unfold stp at e
  split at e
  · exact h c t e
  · next c1 hc1 =>
    have := cO_le hv (vMen v) 0 0 c1 (by omega) hc1
    split at e
    · split at e
      · injection e with e; injection e with e1 e2; omega
      · cases e
    · next c0 s0 =>
      have := h c0 s0 rfl
      split at e
      · injection e with e; injection e with e1 e2; omega
      · injection e with e; injection e with e1 e2; omega
theorem bribe_C114 {fu : Nat} (hf : 1000 ≤ fu) {M : Mm} {v : NV} (hv : okV v) (hc : CV v M) {N c : Nat} (b : Bool) (h : ∀ j, j < vMen v → M.1 83 j = oI (nr v N j true) ∧ M.1 84 j = oI (nr v N j false)) : ∀ (m n s : Nat) (a : Option (Nat × Nat)), s + m = 2 ^ vMen v → m < n → okA a → F_X6_bribe_114 fu n M (bI b) c (fC5 a) (fC6 a) (nI s) = (match bst v N b m s a with | none => some ((-9 : Int32), M) | some (c0, s0) => F_X6_bribe_206 fu fu M c (nI c0) (nI s0) (0 : Int32)) := by
  intro m
  have hm := hv.1
  have h64 := p2le hv
  induction m with
  | zero =>
    intro n s a hs hn ha
    obtain ⟨n, rfl⟩ : ∃ q, n = q + 1 := ⟨n - 1, by omega⟩
    unfold F_X6_bribe_114 bst
    rw [hc.1, shlm hv, if_pos (nI_le (by omega) (by omega))]
    cases a with
    | none => exact if_pos rfl
    | some q =>
      obtain ⟨c0, s0⟩ := q
      have := ha c0 s0 rfl
      exact if_neg (neg9' (by omega))
  | succ m ih =>
    intro n s a hs hn ha
    obtain ⟨n, rfl⟩ : ∃ q, n = q + 1 := ⟨n - 1, by omega⟩
    have hst := stp_ok (N := N) (b := b) hv (show s < 64 by omega) ha
    have ih1 := ih n (s + 1) (stp v N b s a) (by omega) (by omega) hst
    rw [show bst v N b (m + 1) s a = bst v N b m (s + 1) (stp v N b s a) from rfl, ← ih1]
    have e176 : ∀ x5 x6 x8 : Int32, F_X6_bribe_157 fu (F_X6_bribe_114 fu n) M (bI b) c x5 x6 (nI s) x8 = (if (carr v s == b) = true then F_X6_bribe_114 fu n M (bI b) c x8 (nI s) (nI (s + 1)) else F_X6_bribe_114 fu n M (bI b) c x5 x6 (nI (s + 1))) := by
      intro x5 x6 x8
      unfold F_X6_bribe_157 F_X6_bribe_176
      rw [isCarriedBy_C hf hv hc (by omega), ob1_s, nI_1]
      cases b <;> cases carr v s <;> rfl
    rw [F_X6_bribe_114, F_X6_costOfVoters, hc.1, shlm hv, if_neg (nI_ge (by omega) (by omega)), L0, cost_C4 hv hc (show s < 64 by omega) h (vMen v) fu 0 0 (by omega) (by omega), ob1_s, nI_1, e176]
    unfold stp
    cases hcO : cO v N s (vMen v) 0 0 with
    | none => rw [if_pos (show oI none = (-9 : Int32) from rfl)]
    | some c1 =>
      have hc54 := cO_le hv (vMen v) 0 0 c1 (by omega) hcO
      rw [if_neg (show ¬ oI (some c1) = (-9 : Int32) from neg9' (by omega))]
      cases a with
      | none =>
        rw [if_pos (show fC5 none = (-9 : Int32) from rfl)]
        by_cases hq : (carr v s == b) = true
        · rw [if_pos hq]
          show _ = F_X6_bribe_114 fu n M (bI b) c (fC5 (if (carr v s == b) = true then some (c1, s) else none)) (fC6 (if (carr v s == b) = true then some (c1, s) else none)) (nI (s + 1))
          rw [if_pos hq]
          rfl
        · rw [if_neg hq]
          show _ = F_X6_bribe_114 fu n M (bI b) c (fC5 (if (carr v s == b) = true then some (c1, s) else none)) (fC6 (if (carr v s == b) = true then some (c1, s) else none)) (nI (s + 1))
          rw [if_neg hq]
      | some q =>
        obtain ⟨c0, s0⟩ := q
        have hq0 := ha c0 s0 rfl
        rw [if_neg (show ¬ fC5 (some (c0, s0)) = (-9 : Int32) from neg9' (by omega))]
        show _ = F_X6_bribe_114 fu n M (bI b) c (fC5 (if c1 < c0 ∧ (carr v s == b) = true then some (c1, s) else some (c0, s0))) (fC6 (if c1 < c0 ∧ (carr v s == b) = true then some (c1, s) else some (c0, s0))) (nI (s + 1))
        by_cases hlt : c1 < c0
        · rw [if_neg (show ¬ fC5 (some (c0, s0)) ≤ oI (some c1) from nI_ge hlt (by omega))]
          by_cases hq : (carr v s == b) = true
          · rw [if_pos hq, if_pos ⟨hlt, hq⟩]
            rfl
          · rw [if_neg hq, if_neg (fun z => hq z.2)]
        · rw [if_pos (show fC5 (some (c0, s0)) ≤ oI (some c1) from nI_le (by omega) (by omega)), if_neg (fun z => hlt z.1)]
/-! bribe: the reference's shades; the rows -/
def lsB (v : NV) (N i : Nat) (b : Bool) (k : Nat) : Option Nat := lsP (fun x => rgtP v i N x == b) (vShade v i) k
theorem nr_ls {v : NV} (hv : okV v) {N i : Nat} (hi : i < vMen v) (b : Bool) : lsB v N i b 10 = nr v N i b := (near_eq _ (hv.2.2.2.2.2 i hi).2.2.2).symm
theorem bribe_C206 {fu : Nat} {v : NV} (hv : okV v) {N c s : Nat} {x5 : Int32} (hs : s < 64) : ∀ (m n : Nat) (M : Mm) (i : Nat), i + m = vMen v → m < n → CV v M → (∀ j, j < vMen v → M.1 83 j = oI (nr v N j true) ∧ M.1 84 j = oI (nr v N j false)) → (∀ j, j < i → M.1 82 j = oI (nr v N j (s.testBit j))) → ∃ M1, (∀ j, j < vMen v → M1.1 82 j = oI (nr v N j (s.testBit j))) ∧ Out (fun x _ => x = 82) M M1 ∧ F_X6_bribe_206 fu n M c x5 (nI s) (nI i) = ob1 (F_X4_take fu M1 c 82 (nI (vMen v))) (fun M3 => some (x5, M3)) := by
  intro m
  have hm := hv.1
  induction m with
  | zero =>
    intro n M i hi hn hc h g
    obtain ⟨n, rfl⟩ : ∃ q, n = q + 1 := ⟨n - 1, by omega⟩
    refine ⟨M, fun j hj => g j (by omega), Out.rf, ?_⟩
    unfold F_X6_bribe_206
    rw [hc.1, if_pos (nI_le (by omega) (by omega))]
  | succ m ih =>
    intro n M i hi hn hc h g
    obtain ⟨n, rfl⟩ : ∃ q, n = q + 1 := ⟨n - 1, by omega⟩
    obtain ⟨M1, a1, a2, a3⟩ := ih n (pI M 82 i (oI (nr v N i (s.testBit i)))) (i + 1) (by omega) (by omega) (hc.p (by omega)) (fun j hj => by rw [pI_n (by omega), pI_n (by omega)]; exact h j hj) (fun j hj => by
      by_cases hji : j = i
      · rw [hji, pI_s]
      · rw [pI_n (by omega)]
        exact g j (by omega))
    refine ⟨M1, a1, (Out.pI (P := fun x _ => x = 82) Out.rf rfl).trans a2, ?_⟩
    unfold F_X6_bribe_206
    rw [hc.1, if_neg (nI_ge (by omega) (by omega)), sbv_C hv hs (by omega) h, ob1_s, wr82 (by omega), ob1_s, nI_1]
    exact a3
theorem sc83 {x j : Nat} (h : x = 83 ∨ x = 84) : scr x j := by unfold scr sT sR sX sN; omega
theorem sc107 {x j : Nat} (h : x = 107) : scr x j := by subst h; unfold scr sT sR sX sN; omega
/-! what was seen: fits, kinds, rights -/
theorem ahead_dec {fu : Nat} {M : Mm} {y : Int32} : F_X6_isAhead fu M y = some (bI (decide (0 ≤ y.toInt ∧ y.toInt ≤ 60))) := by
  rcases rng3 y (n := 61) (by omega) with h | ⟨j, hj, rfl⟩
  · rw [isAhead_C0 h, decide_eq_false]
    · rfl
    · intro q
      rcases h with h | h
      · rw [lt0i] at h; omega
      · rw [Int32.le_iff_toInt_le, nI_toInt (by omega)] at h; omega
  · rw [isAhead_C1 hj, decide_eq_true (by rw [nI_toInt (by omega)]; omega)]
    rfl
def dP (n : Nat) (x : Int32) : Bool := decide (0 ≤ x.toInt ∧ x.toInt ≤ n)
theorem dP_n {n : Nat} {x : Int32} (h : dP n x = true) (hn : n < 1000) : ∃ j, j ≤ n ∧ x = nI j := by
  have h := of_decide_eq_true h
  obtain ⟨j, hj, rfl⟩ := nI_of (x := x) (by rw [lt0i]; omega)
  rw [nI_toInt hj] at h
  exact ⟨j, by omega, rfl⟩
def okp (f : Nat → Int32) : Nat → Nat → Bool
  | 0, _ => true
  | m + 1, p => (dP 60 (f p) && dP 99 (f (p + 1))) && okp f m (p + 2)
theorem okp_cg {f g : Nat → Int32} : ∀ m p, (∀ j, p ≤ j → j < p + 2 * m → f j = g j) → okp f m p = okp g m p := by
  intro m
  induction m with
  | zero => intro p _; rfl
  | succ m ih =>
    intro p h
    unfold okp
    rw [h p (by omega) (by omega), h (p + 1) (by omega) (by omega), ih (p + 2) (fun j h1 h2 => h j (by omega) (by omega))]
/-- whether all pairs fit -/
def snB (v : NV) (k s : Nat) (f : Nat → Int32) (z : Nat) : Nat → Nat → Bool
  | 0, _ => true
  | m + 1, p => decide (nI (z - melF v k s 0 (f p).toNatClampNeg) = f (p + 1)) && snB v k s f z m (p + 2)
theorem snB_cg {v : NV} {k s z : Nat} {f g : Nat → Int32} : ∀ m p, (∀ j, p ≤ j → j < p + 2 * m → f j = g j) → snB v k s f z m p = snB v k s g z m p := by
  intro m
  induction m with
  | zero => intro p _; rfl
  | succ m ih =>
    intro p h
    unfold snB
    rw [h p (by omega) (by omega), h (p + 1) (by omega) (by omega), ih (p + 2) (fun j h1 h2 => h j (by omega) (by omega))]
theorem cnt_s (p : Nat → Bool) (n : Nat) : cnt p (n + 1) = cnt p n + (if p n then 1 else 0) := rfl
theorem srO_last (p : Nat → Bool) : ∀ m d, srO p (m + 1) d = (match srO p m d with | some x => some x | none => if p (d + m) then some (d + m) else none) := by
  intro m
  induction m with
  | zero => intro d; rfl
  | succ m ih =>
    intro d
    rw [srO, ih (d + 1)]
    conv => rhs; rw [srO]
    by_cases h : p d = true
    · rw [if_pos h, if_pos h]
    · rw [if_neg h, if_neg h, show d + 1 + m = d + (m + 1) by omega]
theorem cnt_srO (p : Nat → Bool) : ∀ n, cnt p n = 0 ↔ srO p n 0 = none := by
  intro n
  induction n with
  | zero => exact ⟨fun _ => rfl, fun _ => rfl⟩
  | succ n ih =>
    rw [cnt_s, srO_last, Nat.zero_add]
    by_cases h : p n = true
    · rw [if_pos h, if_pos h]
      constructor
      · intro q; omega
      · intro q
        split at q <;> cases q
    · rw [if_neg h, if_neg h, Nat.add_zero, ih]
      constructor
      · intro q; rw [q]
      · intro q
        split at q
        · cases q
        · next h2 => exact h2
def orO (a l : Option Nat) : Option Nat := match a with | some d => some d | none => l
theorem orO_n (a : Option Nat) : orO a none = a := by cases a <;> rfl
theorem sc81 {x j : Nat} (h : x = 81) : scr x j := by subst h; unfold scr sT sR sX sN; omega
/-! fits, kinds, rights; counted -/
def rgF (v : NV) (s : Nat) : Nat → Bool := fun w => decide (1 ≤ w ∧ whoN v w 0 = s)
theorem rg_s {v : NV} {s w : Nat} (h : 1 ≤ w) : bset (rgF v s) (w + 1) = bset (rgF v s) w + (if whoN v w 0 = s then 2 ^ w else 0) := by
  show bset (rgF v s) w + (if rgF v s w = true then 2 ^ w else 0) = _
  by_cases hq : whoN v w 0 = s
  · rw [if_pos hq, if_pos (show rgF v s w = true from decide_eq_true ⟨h, hq⟩)]
  · rw [if_neg hq, if_neg (show ¬ rgF v s w = true from fun z => hq (of_decide_eq_true z).2)]
theorem rights_C17 {fu : Nat} (hf : 1000 ≤ fu) {M : Mm} {v : NV} (hv : okV v) (hc : CV v M) {s : Nat} (hs : s < 64) : ∀ (m n w : Nat), w + m = 10 → m < n → 1 ≤ w → F_X6_rights_17 fu M n (nI s) (nI (bset (rgF v s) w)) (nI w) = some (nI (bset (rgF v s) 10)) := by
  intro m
  induction m with
  | zero =>
    intro n w hw hn h1
    obtain ⟨n, rfl⟩ : ∃ q, n = q + 1 := ⟨n - 1, by omega⟩
    unfold F_X6_rights_17
    rw [L9, if_pos (nI_lt (by omega) (by omega)), show w = 10 by omega]
  | succ m ih =>
    intro n w hw hn h1
    obtain ⟨n, rfl⟩ : ∃ q, n = q + 1 := ⟨n - 1, by omega⟩
    have hset := bset_lt (rgF v s) w
    have hwl := whoN_lt hv w 0
    have b1 := ih n (w + 1) (by omega) (by omega) (by omega)
    unfold F_X6_rights_17
    rw [L9, if_neg (nI_nlt (by omega) (by omega)), votersBy_C hf hv hc h1 (by omega), ob1_s, nI_1]
    rw [rg_s h1] at b1
    by_cases hq : whoN v w 0 = s
    · rw [if_pos hq] at b1
      rw [if_pos (by rw [hq]), or_bit w (by omega) _ hset]
      exact b1
    · rw [if_neg hq, Nat.add_zero] at b1
      rw [if_neg (by rw [eqN (by omega) (by omega)]; exact hq)]
      exact b1
