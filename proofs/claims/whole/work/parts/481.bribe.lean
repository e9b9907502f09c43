/-! bribe -/
def nsO (p : Nat → Bool) (s : Nat) : Nat → Nat → Option Nat
  | 0, _ => none
  | m + 1, f => if f ≤ s ∧ p (s - f) = true then some (s - f) else if s + f ≤ 9 ∧ p (s + f) = true then some (s + f) else nsO p s m (f + 1)
theorem nsC_o (p : Nat → Bool) (s : Nat) : ∀ m f, nsC p s m f = oI (nsO p s m f) := by
  intro m
  induction m with
  | zero => intro f; rfl
  | succ m ih =>
    intro f
    unfold nsC nsO
    by_cases h1 : f ≤ s ∧ p (s - f) = true
    · rw [if_pos h1, if_pos h1]; rfl
    · rw [if_neg h1, if_neg h1]
      by_cases h2 : s + f ≤ 9 ∧ p (s + f) = true
      · rw [if_pos h2, if_pos h2]; rfl
      · rw [if_neg h2, if_neg h2]; exact ih _
def ap (a b : Nat) : Nat := if a ≤ b then b - a else a - b
def updO (p : Nat → Bool) (s : Nat) (c : Option Nat) (x : Nat) : Option Nat := if p x = true then (match c with | none => some x | some d => if ap x s < ap d s then some x else some d) else c
def lsP (p : Nat → Bool) (s : Nat) : Nat → Option Nat
  | 0 => none
  | k + 1 => updO p s (lsP p s k) k
theorem nsO_cg {p q : Nat → Bool} {s : Nat} (hs : s ≤ 9) (h : ∀ x, x < 10 → p x = q x) : ∀ m f, nsO p s m f = nsO q s m f := by
  intro m
  induction m with
  | zero => intro f; rfl
  | succ m ih =>
    intro f
    unfold nsO
    rw [ih, h (s - f) (by omega)]
    by_cases h2 : s + f ≤ 9
    · rw [h (s + f) (by omega)]
    · rw [if_neg (c := s + f ≤ 9 ∧ p (s + f) = true) (fun z => h2 z.1), if_neg (c := s + f ≤ 9 ∧ q (s + f) = true) (fun z => h2 z.1)]
theorem lsP_cg {p q : Nat → Bool} {s : Nat} : ∀ k, (∀ x, x < k → p x = q x) → lsP p s k = lsP q s k := by
  intro k
  induction k with
  | zero => intro _; rfl
  | succ k ih =>
    intro h
    unfold lsP updO
    rw [ih (fun x hx => h x (by omega)), h k (by omega)]
set_option maxRecDepth 100000 in
set_option maxHeartbeats 4000000 in
theorem near_all : ∀ s, s < 10 → ∀ b, b < 1024 → nsO (fun x => b.testBit x) s 10 0 = lsP (fun x => b.testBit x) s 10 := by decide +kernel
theorem bset_lt' (f : Nat → Bool) (n : Nat) : bset f n < 2 ^ n := bset_lt f n
theorem near_eq (p : Nat → Bool) {s : Nat} (hs : s ≤ 9) : nsO p s 10 0 = lsP p s 10 := by
  have hb : ∀ x, x < 10 → p x = (bset p 10).testBit x := fun x hx => by rw [bset_bit, decide_eq_true hx, Bool.true_and]
  rw [nsO_cg hs hb, lsP_cg 10 hb]
  exact near_all s (by omega) (bset p 10) (bset_lt p 10)
theorem nsO_le {p : Nat → Bool} {s d : Nat} (hs : s ≤ 9) : ∀ m f, nsO p s m f = some d → d ≤ 9 := by
  intro m
  induction m with
  | zero => intro f h; cases h
  | succ m ih =>
    intro f h
    unfold nsO at h
    by_cases h1 : f ≤ s ∧ p (s - f) = true
    · rw [if_pos h1] at h; injection h with h; omega
    · rw [if_neg h1] at h
      by_cases h2 : s + f ≤ 9 ∧ p (s + f) = true
      · rw [if_pos h2] at h; injection h with h; omega
      · rw [if_neg h2] at h; exact ih _ h
theorem lsP_le {p : Nat → Bool} {s d : Nat} : ∀ k, lsP p s k = some d → d < k := by
  intro k
  induction k generalizing d with
  | zero => intro h; cases h
  | succ k ih =>
    intro h
    unfold lsP updO at h
    split at h
    · split at h
      · injection h with h; omega
      · next c hc =>
        split at h
        · injection h with h; omega
        · injection h with h
          have := ih hc
          omega
    · have := ih h; omega
/-- the shade nearest to what one has, by which it has the right, or not -/
def nr (v : NV) (N i : Nat) (b : Bool) : Option Nat := nsO (fun x => rgtP v i N x == b) (vShade v i) 10 0
theorem nr_le {v : NV} (hv : okV v) {N i : Nat} {b : Bool} {d : Nat} (hi : i < vMen v) (h : nr v N i b = some d) : d ≤ 9 := nsO_le (hv.2.2.2.2.2 i hi).2.2.2 10 0 h
theorem near_C {fu : Nat} (hf : 1000 ≤ fu) {M : Mm} {v : NV} (hv : okV v) (hc : CV v M) {i N : Nat} (hi : i < vMen v) (hN : N ≤ 60) (b : Bool) : F_X2_nearestShade fu M 24 (nI i) (nI N) (bI b) = some (oI (nr v N i b)) := by
  rw [nearestShade_C hf hv hc hi hN, nsC_o]
  rfl
theorem bribe_C46 {fu : Nat} (hf : 1000 ≤ fu) {v : NV} (hv : okV v) {N c : Nat} {x1 : Int32} (hN : N ≤ 60) : ∀ (m n : Nat) (M : Mm) (i : Nat), i + m = vMen v → m < n → CV v M → (∀ j, j < i → M.1 83 j = oI (nr v N j true) ∧ M.1 84 j = oI (nr v N j false)) → ∃ M', CV v M' ∧ (∀ j, j < vMen v → M'.1 83 j = oI (nr v N j true) ∧ M'.1 84 j = oI (nr v N j false)) ∧ Out (fun x _ => x = 83 ∨ x = 84) M M' ∧ F_X6_bribe_46 fu n M x1 (nI N) c (nI i) = F_X6_bribe_114 fu fu M' x1 c (-9 : Int32) (0 : Int32) (0 : Int32) := by
  intro m
  have hm := hv.1
  induction m with
  | zero =>
    intro n M i hi hn hc h
    obtain ⟨n, rfl⟩ : ∃ q, n = q + 1 := ⟨n - 1, by omega⟩
    refine ⟨M, hc, fun j hj => h j (by omega), Out.rf, ?_⟩
    unfold F_X6_bribe_46
    rw [hc.1, if_pos (nI_le (by omega) (by omega))]
  | succ m ih =>
    intro n M i hi hn hc h
    obtain ⟨n, rfl⟩ : ∃ q, n = q + 1 := ⟨n - 1, by omega⟩
    have hc1 : CV v (pI M 83 i (oI (nr v N i true))) := hc.p (by omega)
    have hc2 : CV v (pI (pI M 83 i (oI (nr v N i true))) 84 i (oI (nr v N i false))) := hc1.p (by omega)
    have o1 : Out (fun x _ => x = 83 ∨ x = 84) M (pI (pI M 83 i (oI (nr v N i true))) 84 i (oI (nr v N i false))) := ((Out.rf).pI (by omega)).pI (by omega)
    obtain ⟨M', a1, a2, a3, a4⟩ := ih n _ (i + 1) (by omega) (by omega) hc2 (fun j hj => by
      by_cases hji : j = i
      · subst hji
        rw [pI_n (by omega), pI_s, pI_s]
        exact ⟨rfl, rfl⟩
      · rw [pI_n (by omega), pI_n (by omega), pI_n (by omega), pI_n (by omega)]
        exact h j (by omega))
    refine ⟨M', a1, a2, o1.trans a3, ?_⟩
    unfold F_X6_bribe_46
    rw [hc.1, if_neg (nI_ge (by omega) (by omega)), show (1 : Int32) = bI true from rfl, near_C hf hv hc (by omega) hN, ob1_s, wr83 (by omega), ob1_s, show (0 : Int32) = bI false from rfl, near_C hf hv hc1 (by omega) hN, ob1_s, wr84 (by omega), ob1_s, show bI true = (1 : Int32) from rfl, nI_1]
    exact a4
/-- how many shades more or less -/
def cO (v : NV) (N s : Nat) : Nat → Nat → Nat → Option Nat
  | 0, _, a => some a
  | m + 1, i, a => match nr v N i (s.testBit i) with
    | none => none
    | some d => cO v N s m (i + 1) (a + ap d (vShade v i))
theorem cO_le {v : NV} (hv : okV v) {N s : Nat} : ∀ m i a c, i + m = vMen v → cO v N s m i a = some c → c ≤ a + 9 * m := by
  intro m
  induction m with
  | zero => intro i a c _ h; unfold cO at h; injection h with h; omega
  | succ m ih =>
    intro i a c hi h
    unfold cO at h
    split at h
    · cases h
    · next d hd =>
      have h1 := nr_le hv (by omega) hd
      have h2 := (hv.2.2.2.2.2 i (by omega)).2.2.2
      have h3 := ih (i + 1) _ c (by omega) h
      have h4 : ap d (vShade v i) ≤ 9 := by unfold ap; split <;> omega
      omega
theorem zab_ap {a b : Nat} (ha : a ≤ 9) (hb : b ≤ 9) : zab (nI a - nI b) = nI (ap a b) := by
  unfold zab ap
  by_cases h : b ≤ a
  · rw [pk_sub h, if_pos (nI_pos' (by omega))]
    by_cases h2 : a ≤ b
    · rw [if_pos h2, show a - b = b - a by omega]
    · rw [if_neg h2]
  · rw [if_neg (fun q => by
      have h1 := pk_sneg (a := a) (b := b) (by omega) (by omega)
      rw [lt0i] at h1
      rw [Int32.le_iff_toInt_le, show (0 : Int32).toInt = 0 from rfl] at q
      omega), if_pos (by omega), Int32.sub_eq_add_neg, Int32.zero_add, Int32.neg_sub, pk_sub (by omega)]
theorem sbv_C {fu : Nat} {M : Mm} {v : NV} (hv : okV v) {N s i : Nat} (hs : s < 64) (hi : i < vMen v) (h : ∀ j, j < vMen v → M.1 83 j = oI (nr v N j true) ∧ M.1 84 j = oI (nr v N j false)) : F_X6_shadeByVoters fu M (nI s) (nI i) = some (oI (nr v N i (s.testBit i))) := by
  have hm := hv.1
  unfold F_X6_shadeByVoters
  rw [isIn_C hs (by omega), ob1_s, rd83 (by omega), rd84 (by omega), ob1_s, ob1_s, (h i hi).1, (h i hi).2]
  cases s.testBit i <;> rfl
theorem cost_C4 {fu : Nat} {M : Mm} {v : NV} (hv : okV v) (hc : CV v M) {N s : Nat} (hs : s < 64) (h : ∀ j, j < vMen v → M.1 83 j = oI (nr v N j true) ∧ M.1 84 j = oI (nr v N j false)) : ∀ (m n i a : Nat), i + m = vMen v → m < n → F_X6_costOfVoters_4 fu M n (nI s) (nI a) (nI i) = some (oI (cO v N s m i a)) := by
  intro m
  have hm := hv.1
  induction m with
  | zero =>
    intro n i a hi hn
    obtain ⟨n, rfl⟩ : ∃ q, n = q + 1 := ⟨n - 1, by omega⟩
    unfold F_X6_costOfVoters_4
    rw [hc.1, if_pos (nI_le (by omega) (by omega))]
    rfl
  | succ m ih =>
    intro n i a hi hn
    obtain ⟨n, rfl⟩ : ∃ q, n = q + 1 := ⟨n - 1, by omega⟩
    have h4 := (hv.2.2.2.2.2 i (by omega)).2.2.2
    unfold F_X6_costOfVoters_4 cO
    rw [hc.1, if_neg (nI_ge (by omega) (by omega)), sbv_C hv hs (by omega) h, ob1_s]
    cases hd : nr v N i (s.testBit i) with
    | none => exact if_pos rfl
    | some d =>
      have h9 := nr_le hv (by omega) hd
      show (if nI d = (-9 : Int32) then _ else _) = _
      rw [if_neg (neg9' (by omega)), rd29 (by omega), ob1_s, (hc.2.2.2.2 i (by omega)).2.2.2, show oI (some d) = nI d from rfl, zab_ap h9 h4, nI_add, nI_1]
      exact ih n (i + 1) _ (by omega) (by omega)
theorem cost_X4 {fu : Nat} {M : Mm} {v : NV} (hv : okV v) (hc : XV v M) {N s : Nat} (hs : s < 64) (h : ∀ j, j < vMen v → M.1 107 (2 * j) = oI (nr v N j false) ∧ M.1 107 (2 * j + 1) = oI (nr v N j true)) : ∀ (m n i a : Nat), i + m = vMen v → m < n → F_X7_costs_4 fu M n (nI s) (nI a) (nI i) = some (oI (cO v N s m i a)) := by
  intro m
  have hm := hv.1
  induction m with
  | zero =>
    intro n i a hi hn
    obtain ⟨n, rfl⟩ : ∃ q, n = q + 1 := ⟨n - 1, by omega⟩
    unfold F_X7_costs_4
    rw [hc.1, if_pos (nI_le (by omega) (by omega))]
    rfl
  | succ m ih =>
    intro n i a hi hn
    obtain ⟨n, rfl⟩ : ∃ q, n = q + 1 := ⟨n - 1, by omega⟩
    have h4 := (hv.2.2.2.2.2 i (by omega)).2.2.2
    have e : M.1 107 (2 * i + (if s.testBit i = true then 1 else 0)) = oI (nr v N i (s.testBit i)) := by
      cases s.testBit i
      · exact (h i (by omega)).1
      · exact (h i (by omega)).2
    have e2 : (2 : Int32) * nI i + bI (s.testBit i) = nI (2 * i + (if s.testBit i = true then 1 else 0)) := by
      rw [L2, pk_mul]
      cases s.testBit i
      · exact Int32.add_zero _
      · exact nI_add _ 1
    have hle : (if s.testBit i = true then 1 else 0) ≤ 1 := by split <;> omega
    unfold F_X7_costs_4 cO
    rw [hc.1, if_neg (nI_ge (by omega) (by omega)), isInE hs (by omega), e2, xr107 (by omega), clN (by omega), e, lt1_s]
    cases hd : nr v N i (s.testBit i) with
    | none => exact if_pos rfl
    | some d =>
      have h9 := nr_le hv (by omega) hd
      show (if nI d = (-9 : Int32) then _ else _) = _
      rw [if_neg (neg9' (by omega)), xr95 (by omega), clN (by omega), (hc.2.2.2.2 i (by omega)).2.2.2]
      have eap : F_X7_apart fu M (oI (some d)) (nI (vShade v i)) = some (nI (ap d (vShade v i))) := by
        show F_X7_apart fu M (nI d) (nI (vShade v i)) = _
        unfold F_X7_apart ap
        by_cases hq : d ≤ vShade v i
        · rw [if_pos (nI_le hq (by omega)), if_pos hq, pk_sub hq]
        · rw [if_neg (nI_ge (by omega) (by omega)), if_neg hq, pk_sub (by omega)]
      rw [eap, ob1_s, nI_add, nI_1]
      exact ih n (i + 1) _ (by omega) (by omega)
/-- the best set, so far -/
def stp (v : NV) (N : Nat) (b : Bool) (s : Nat) (acc : Option (Nat × Nat)) : Option (Nat × Nat) :=
  match cO v N s (vMen v) 0 0 with
  | none => acc
  | some c => match acc with
    | none => if (carr v s == b) = true then some (c, s) else none
    | some (c0, s0) => if c < c0 ∧ (carr v s == b) = true then some (c, s) else some (c0, s0)
def bst (v : NV) (N : Nat) (b : Bool) : Nat → Nat → Option (Nat × Nat) → Option (Nat × Nat)
  | 0, _, a => a
  | m + 1, s, a => bst v N b m (s + 1) (stp v N b s a)
def fC5 : Option (Nat × Nat) → Int32
  | none => -9
  | some (c, _) => nI c
def fC6 : Option (Nat × Nat) → Int32
  | none => 0
  | some (_, s) => nI s
def fX4 : Option (Nat × Nat) → Int32
  | none => -9
  | some (_, s) => nI s
def fX5 : Option (Nat × Nat) → Int32
  | none => nI 1000000
  | some (c, _) => nI c
def okA (a : Option (Nat × Nat)) : Prop := ∀ c s, a = some (c, s) → c ≤ 54 ∧ s < 64
theorem stp_ok {v : NV} (hv : okV v) {N : Nat} {b : Bool} {s : Nat} (hs : s < 64) {a : Option (Nat × Nat)} (h : okA a) : okA (stp v N b s a) := by
  have hm := hv.1
  intro c t e
  unfold stp at e
  split at e
  · exact h c t e
  · next c1 hc1 =>
    have := cO_le hv (vMen v) 0 0 c1 (by omega) hc1
    split at e
    · split at e
      · injection e with e; injection e with e1 e2; omega
      · cases e
    · next c0 s0 =>
      have := h c0 s0 rfl
      split at e
      · injection e with e; injection e with e1 e2; omega
      · injection e with e; injection e with e1 e2; omega
theorem bribe_C114 {fu : Nat} (hf : 1000 ≤ fu) {M : Mm} {v : NV} (hv : okV v) (hc : CV v M) {N c : Nat} (b : Bool) (h : ∀ j, j < vMen v → M.1 83 j = oI (nr v N j true) ∧ M.1 84 j = oI (nr v N j false)) : ∀ (m n s : Nat) (a : Option (Nat × Nat)), s + m = 2 ^ vMen v → m < n → okA a → F_X6_bribe_114 fu n M (bI b) c (fC5 a) (fC6 a) (nI s) = (match bst v N b m s a with | none => some ((-9 : Int32), M) | some (c0, s0) => F_X6_bribe_206 fu fu M c (nI c0) (nI s0) (0 : Int32)) := by
  intro m
  have hm := hv.1
  have h64 := p2le hv
  induction m with
  | zero =>
    intro n s a hs hn ha
    obtain ⟨n, rfl⟩ : ∃ q, n = q + 1 := ⟨n - 1, by omega⟩
    unfold F_X6_bribe_114 bst
    rw [hc.1, shlm hv, if_pos (nI_le (by omega) (by omega))]
    cases a with
    | none => exact if_pos rfl
    | some q =>
      obtain ⟨c0, s0⟩ := q
      have := ha c0 s0 rfl
      exact if_neg (neg9' (by omega))
  | succ m ih =>
    intro n s a hs hn ha
    obtain ⟨n, rfl⟩ : ∃ q, n = q + 1 := ⟨n - 1, by omega⟩
    have hst := stp_ok (N := N) (b := b) hv (show s < 64 by omega) ha
    have ih1 := ih n (s + 1) (stp v N b s a) (by omega) (by omega) hst
    rw [show bst v N b (m + 1) s a = bst v N b m (s + 1) (stp v N b s a) from rfl, ← ih1]
    have e176 : ∀ x5 x6 x8 : Int32, F_X6_bribe_157 fu (F_X6_bribe_114 fu n) M (bI b) c x5 x6 (nI s) x8 = (if (carr v s == b) = true then F_X6_bribe_114 fu n M (bI b) c x8 (nI s) (nI (s + 1)) else F_X6_bribe_114 fu n M (bI b) c x5 x6 (nI (s + 1))) := by
      intro x5 x6 x8
      unfold F_X6_bribe_157 F_X6_bribe_176
      rw [isCarriedBy_C hf hv hc (by omega), ob1_s, nI_1]
      cases b <;> cases carr v s <;> rfl
    rw [F_X6_bribe_114, F_X6_costOfVoters, hc.1, shlm hv, if_neg (nI_ge (by omega) (by omega)), L0, cost_C4 hv hc (show s < 64 by omega) h (vMen v) fu 0 0 (by omega) (by omega), ob1_s, nI_1, e176]
    unfold stp
    cases hcO : cO v N s (vMen v) 0 0 with
    | none => rw [if_pos (show oI none = (-9 : Int32) from rfl)]
    | some c1 =>
      have hc54 := cO_le hv (vMen v) 0 0 c1 (by omega) hcO
      rw [if_neg (show ¬ oI (some c1) = (-9 : Int32) from neg9' (by omega))]
      cases a with
      | none =>
        rw [if_pos (show fC5 none = (-9 : Int32) from rfl)]
        by_cases hq : (carr v s == b) = true
        · rw [if_pos hq]
          show _ = F_X6_bribe_114 fu n M (bI b) c (fC5 (if (carr v s == b) = true then some (c1, s) else none)) (fC6 (if (carr v s == b) = true then some (c1, s) else none)) (nI (s + 1))
          rw [if_pos hq]
          rfl
        · rw [if_neg hq]
          show _ = F_X6_bribe_114 fu n M (bI b) c (fC5 (if (carr v s == b) = true then some (c1, s) else none)) (fC6 (if (carr v s == b) = true then some (c1, s) else none)) (nI (s + 1))
          rw [if_neg hq]
      | some q =>
        obtain ⟨c0, s0⟩ := q
        have hq0 := ha c0 s0 rfl
        rw [if_neg (show ¬ fC5 (some (c0, s0)) = (-9 : Int32) from neg9' (by omega))]
        show _ = F_X6_bribe_114 fu n M (bI b) c (fC5 (if c1 < c0 ∧ (carr v s == b) = true then some (c1, s) else some (c0, s0))) (fC6 (if c1 < c0 ∧ (carr v s == b) = true then some (c1, s) else some (c0, s0))) (nI (s + 1))
        by_cases hlt : c1 < c0
        · rw [if_neg (show ¬ fC5 (some (c0, s0)) ≤ oI (some c1) from nI_ge hlt (by omega))]
          by_cases hq : (carr v s == b) = true
          · rw [if_pos hq, if_pos ⟨hlt, hq⟩]
            rfl
          · rw [if_neg hq, if_neg (fun z => hq z.2)]
        · rw [if_pos (show fC5 (some (c0, s0)) ≤ oI (some c1) from nI_le (by omega) (by omega)), if_neg (fun z => hlt z.1)]
theorem bribe_X52 {fu : Nat} (hf : 1000 ≤ fu) {M : Mm} {v : NV} (hv : okV v) (hc : XV v M) {N : Nat} {x3 : Int32} (b : Bool) (h : ∀ j, j < vMen v → M.1 107 (2 * j) = oI (nr v N j false) ∧ M.1 107 (2 * j + 1) = oI (nr v N j true)) : ∀ (m n s : Nat) (a : Option (Nat × Nat)), s + m = 2 ^ vMen v → m < n → okA a → F_X7_bribe_52 fu n M (bI b) x3 (fX4 a) (fX5 a) (nI s) = (match bst v N b m s a with | none => some ((-9 : Int32), M) | some (c0, s0) => F_X7_bribe_163 fu fu M x3 (nI s0) (nI c0) (0 : Int32)) := by
  intro m
  have hm := hv.1
  have h64 := p2le hv
  induction m with
  | zero =>
    intro n s a hs hn ha
    obtain ⟨n, rfl⟩ : ∃ q, n = q + 1 := ⟨n - 1, by omega⟩
    unfold F_X7_bribe_52 bst
    rw [hc.1, shlm hv, if_pos (nI_le (by omega) (by omega))]
    cases a with
    | none => exact if_pos rfl
    | some q =>
      obtain ⟨c0, s0⟩ := q
      have := ha c0 s0 rfl
      exact if_neg (neg9' (by omega))
  | succ m ih =>
    intro n s a hs hn ha
    obtain ⟨n, rfl⟩ : ∃ q, n = q + 1 := ⟨n - 1, by omega⟩
    have hst := stp_ok (N := N) (b := b) hv (show s < 64 by omega) ha
    have ih1 := ih n (s + 1) (stp v N b s a) (by omega) (by omega) hst
    rw [show bst v N b (m + 1) s a = bst v N b m (s + 1) (stp v N b s a) from rfl, ← ih1]
    have e113 : ∀ x4 x5 x7 : Int32, F_X7_bribe_113 fu (F_X7_bribe_52 fu n) M (bI b) x3 x4 x5 (nI s) x7 = F_X7_bribe_52 fu n M (bI b) x3 x4 x5 (nI (s + 1)) := fun x4 x5 x7 => by
      unfold F_X7_bribe_113 F_X7_bribe_114 F_X7_bribe_128
      rw [if_pos rfl, if_pos rfl, nI_1]
    have e114 : ∀ x4 x5 x7 : Int32, F_X7_bribe_114 fu (F_X7_bribe_52 fu n) M (bI b) x3 x4 x5 (nI s) x7 1 = F_X7_bribe_52 fu n M (bI b) x3 (nI s) x7 (nI (s + 1)) := fun x4 x5 x7 => by
      unfold F_X7_bribe_114 F_X7_bribe_128
      rw [if_neg one_ne, if_neg one_ne, nI_1]
    have hco : F_X7_costs fu M (nI s) = some (oI (cO v N s (vMen v) 0 0)) := by
      unfold F_X7_costs
      rw [L0, cost_X4 hv hc (show s < 64 by omega) h (vMen v) fu 0 0 (by omega) (by omega)]
    have e79 : F_X7_bribe_79 fu (F_X7_bribe_52 fu n) M (bI b) x3 (fX4 a) (fX5 a) (nI s) (bI (carr v s)) (bI b) = F_X7_bribe_52 fu n M (bI b) x3 (fX4 (stp v N b s a)) (fX5 (stp v N b s a)) (nI (s + 1)) := by
      unfold F_X7_bribe_79 F_X7_bribe_93 stp
      rw [hco, ob1_s, e113, e113, e114]
      by_cases hq : (carr v s == b) = true
      · rw [if_pos (show bI (carr v s) = bI b by rw [bIe]; exact hq)]
        cases hcO : cO v N s (vMen v) 0 0 with
        | none => rw [if_pos (show oI none = (-9 : Int32) from rfl)]
        | some c1 =>
          have hc54 := cO_le hv (vMen v) 0 0 c1 (by omega) hcO
          rw [if_neg (show ¬ oI (some c1) = (-9 : Int32) from neg9' (by omega))]
          cases a with
          | none =>
            rw [if_neg (show ¬ fX5 none ≤ oI (some c1) from nI_ge (by omega) (by omega))]
            show _ = F_X7_bribe_52 fu n M (bI b) x3 (fX4 (if (carr v s == b) = true then some (c1, s) else none)) (fX5 (if (carr v s == b) = true then some (c1, s) else none)) (nI (s + 1))
            rw [if_pos hq]
            rfl
          | some q =>
            obtain ⟨c0, s0⟩ := q
            have hq0 := ha c0 s0 rfl
            show _ = F_X7_bribe_52 fu n M (bI b) x3 (fX4 (if c1 < c0 ∧ (carr v s == b) = true then some (c1, s) else some (c0, s0))) (fX5 (if c1 < c0 ∧ (carr v s == b) = true then some (c1, s) else some (c0, s0))) (nI (s + 1))
            by_cases hlt : c1 < c0
            · rw [if_neg (show ¬ fX5 (some (c0, s0)) ≤ oI (some c1) from nI_ge hlt (by omega)), if_pos ⟨hlt, hq⟩]
              rfl
            · rw [if_pos (show fX5 (some (c0, s0)) ≤ oI (some c1) from nI_le (by omega) (by omega)), if_neg (fun z => hlt z.1)]
      · rw [if_neg (show ¬ bI (carr v s) = bI b by rw [bIe]; exact hq), if_pos rfl]
        cases hcO : cO v N s (vMen v) 0 0 with
        | none => rfl
        | some c1 =>
          cases a with
          | none =>
            show _ = F_X7_bribe_52 fu n M (bI b) x3 (fX4 (if (carr v s == b) = true then some (c1, s) else none)) (fX5 (if (carr v s == b) = true then some (c1, s) else none)) (nI (s + 1))
            rw [if_neg hq]
          | some q =>
            obtain ⟨c0, s0⟩ := q
            show _ = F_X7_bribe_52 fu n M (bI b) x3 (fX4 (if c1 < c0 ∧ (carr v s == b) = true then some (c1, s) else some (c0, s0))) (fX5 (if c1 < c0 ∧ (carr v s == b) = true then some (c1, s) else some (c0, s0))) (nI (s + 1))
            rw [if_neg (fun z => hq z.2)]
    rw [F_X7_bribe_52, hc.1, shlm hv, if_neg (nI_ge (by omega) (by omega)), isCarried_X hf hv hc (by omega), ob1_s]
    cases b
    · rw [if_neg (by decide)]
      exact e79
    · rw [if_pos (by decide)]
      exact e79
