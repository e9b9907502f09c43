/-! the least shade: guard, carry -/
theorem shlm {v : NV} (hv : okV v) : (1 : Int32) <<< (nI (vMen v) &&& 31) = nI (2 ^ vMen v) := shl_bit _ (by have := hv.1; omega)
theorem p2le {v : NV} (hv : okV v) : 2 ^ vMen v ≤ 64 := Nat.pow_le_pow_right (n := 2) (by decide) hv.1
theorem isSet_C0 {fu : Nat} {M : Mm} {v : NV} (hv : okV v) (hc : CV v M) {x : Int32} (h : x < 0 ∨ nI (2 ^ vMen v) ≤ x) : F_X2_isSet fu M 24 x = some 0 := by
  unfold F_X2_isSet
  rw [hc.1, shlm hv]
  rcases h with h | h
  · rw [if_pos h]
  · rw [if_pos h, ite_self]
theorem isSet_C1 {fu : Nat} {M : Mm} {v : NV} (hv : okV v) (hc : CV v M) {s : Nat} (h : s < 2 ^ vMen v) : F_X2_isSet fu M 24 (nI s) = some 1 := by
  have := p2le hv
  unfold F_X2_isSet
  rw [hc.1, shlm hv, if_neg (nI_pos (by omega)), if_neg (nI_ge h (by omega))]
theorem areMen_X0 {fu : Nat} {M : Mm} {v : NV} (hv : okV v) (hc : XV v M) {x : Int32} (h : x < 0 ∨ nI (2 ^ vMen v) ≤ x) : F_X7_areMen fu M x = some 0 := by
  have := p2le hv
  obtain ⟨k, hk⟩ : ∃ k, 2 ^ vMen v = k + 1 := ⟨2 ^ vMen v - 1, by have := Nat.two_pow_pos (vMen v); omega⟩
  unfold F_X7_areMen
  rw [hc.1, shlm hv]
  rw [hk] at h ⊢
  rw [nI_pred, in_no (n := k) h (nI_l (by omega)) (by omega), ob1_s]
  rfl
theorem areMen_X1 {fu : Nat} {M : Mm} {v : NV} (hv : okV v) (hc : XV v M) {s : Nat} (h : s < 2 ^ vMen v) : F_X7_areMen fu M (nI s) = some 1 := by
  have := p2le hv
  obtain ⟨k, hk⟩ : ∃ k, 2 ^ vMen v = k + 1 := ⟨2 ^ vMen v - 1, by omega⟩
  unfold F_X7_areMen
  rw [hc.1, shlm hv, hk, nI_pred, in_ok (k := 0) (n := k) (by omega) (by omega) I0 (nI_l (by omega)) (by omega), ob1_s]
  rfl
def srO (p : Nat → Bool) : Nat → Nat → Option Nat
  | 0, _ => none
  | m + 1, d => if p d then some d else srO p m (d + 1)
def oI : Option Nat → Int32
  | none => -9
  | some d => nI d
theorem srch_o (p : Nat → Bool) : ∀ m d, srch p m d = oI (srO p m d) := by
  intro m
  induction m with
  | zero => intro d; rfl
  | succ m ih =>
    intro d
    unfold srch srO
    by_cases h : p d = true
    · rw [if_pos h, if_pos h]; rfl
    · rw [if_neg h, if_neg h]; exact ih _
theorem srO_r {p : Nat → Bool} {s : Nat} : ∀ m d, srO p m d = some s → d ≤ s ∧ s < d + m ∧ p s = true := by
  intro m
  induction m with
  | zero => intro d h; cases h
  | succ m ih =>
    intro d h
    unfold srO at h
    by_cases hp : p d = true
    · rw [if_pos hp] at h
      injection h with h
      subst h
      exact ⟨Nat.le_refl _, by omega, hp⟩
    · rw [if_neg hp] at h
      have := ih _ h
      exact ⟨by omega, by omega, this.2.2⟩
/-- the least shade of one -/
def glO (v : NV) (set N i : Nat) : Option Nat := if set.testBit i = true then srO (grdP v i N) (10 - vShade v i) (vShade v i) else some (vShade v i)
def gS (v : NV) (set N : Nat) : Nat → Nat → Nat → Option Nat
  | 0, _, a => some a
  | m + 1, i, a => match glO v set N i with
    | none => none
    | some s => gS v set N m (i + 1) (a + (s - vShade v i))
theorem glO_r {v : NV} (hv : okV v) {set N i s : Nat} (hi : i < vMen v) (h : glO v set N i = some s) : vShade v i ≤ s ∧ s ≤ 9 := by
  have h4 := (hv.2.2.2.2.2 i hi).2.2.2
  unfold glO at h
  by_cases hb : set.testBit i = true
  · rw [if_pos hb] at h
    have := srO_r _ _ h
    omega
  · rw [if_neg hb] at h
    injection h with h
    omega
theorem take_C {fu : Nat} (hf : 1000 ≤ fu) {M : Mm} {r : Nat} (hr : r < 6) (x : Int32) : ∃ M', F_X4_take fu M (1 + r) 82 x = some M' ∧ M'.1 (1 + r) 0 = 1 ∧ M'.1 (1 + r) 1 = x ∧ (∀ j, j < 6 → M'.1 (1 + r + 6) j = M.1 82 j) ∧ Out (fun x _ => x = 1 + r ∨ x = 1 + r + 6) M M' := by
  obtain ⟨M', a1, a2, a3⟩ := writeAll_C (a := 1 + r + 6) (b := 82) (N := 6) hf (by omega) (by rw [ln_R hr]; omega) (by decide) (by decide) (pI (pI M (1 + r) 0 1) (1 + r) 1 x)
  refine ⟨M', ?_, ?_, ?_, fun j hj => ?_, (((Out.rf).pI (by omega)).pI (by omega)).trans (a3.wk fun x j q => by omega)⟩
  · unfold F_X4_take
    rw [lt1_s, lt1_s, a1, ob1_s]
  · rw [(a3 _ _ (by omega)).1, pI_n (by omega), pI_s]
  · rw [(a3 _ _ (by omega)).1, pI_s]
  · rw [a2 j hj, pI_n (by omega), pI_n (by omega)]
theorem tellShades_X11 {fu : Nat} {r N : Nat} (hr : r < 6) (hN : N ≤ 6) : ∀ (m n : Nat) (M : Mm) (i : Nat), i + m = N → m < n → M.1 86 4 = nI N → (∀ j, j < i → M.1 87 (40 * r + j) = M.1 106 j) → ∃ M', F_X7_tellShades_11 fu n M (nI r) (nI i) = some M' ∧ (∀ j, j < N → M'.1 87 (40 * r + j) = M.1 106 j) ∧ Out (fun x j => x = 87 ∧ 40 * r ≤ j ∧ j < 40 * r + 40) M M' := by
  intro m
  induction m with
  | zero =>
    intro n M i hi hn h4 h
    obtain ⟨n, rfl⟩ : ∃ q, n = q + 1 := ⟨n - 1, by omega⟩
    refine ⟨M, ?_, fun j hj => h j (by omega), Out.rf⟩
    unfold F_X7_tellShades_11
    rw [h4, if_pos (nI_le (by omega) (by omega))]
  | succ m ih =>
    intro n M i hi hn h4 h
    obtain ⟨n, rfl⟩ : ∃ q, n = q + 1 := ⟨n - 1, by omega⟩
    obtain ⟨M', a1, a2, a3⟩ := ih n (pI M 87 (40 * r + i) (M.1 106 i)) (i + 1) (by omega) (by omega) (by rw [pI_n (by omega)]; exact h4) (fun j hj => by
      rw [pI_n (y := 106) (by omega)]
      by_cases hji : j = i
      · rw [hji, pI_s]
      · rw [pI_n (by omega)]
        exact h j (by omega))
    refine ⟨M', ?_, fun j hj => by rw [a2 j hj, pI_n (by omega)], ((Out.rf).pI (by omega)).trans a3⟩
    unfold F_X7_tellShades_11
    rw [h4, if_neg (nI_ge (by omega) (by omega)), xr106 (by omega), L40, pk_mul, nI_add, xr87 (by omega), clN (by omega), clN (by omega), lt1_s, nI_1]
    exact a1
theorem tellShades_X {fu : Nat} (hf : 1000 ≤ fu) {M : Mm} {r N : Nat} (hr : r < 6) (hN : N ≤ 6) (h4 : M.1 86 4 = nI N) : ∃ M', F_X7_tellShades fu M (nI r) = some M' ∧ M'.1 88 r = nI N ∧ (∀ j, j < N → M'.1 87 (40 * r + j) = M.1 106 j) ∧ Out (fun x j => (x = 88 ∧ j = r) ∨ (x = 87 ∧ 40 * r ≤ j ∧ j < 40 * r + 40)) M M' := by
  obtain ⟨M1, a1, a2, a3, a4⟩ := layRow_X hf (M := M) hr (nI N)
  obtain ⟨M', b1, b2, b3⟩ := tellShades_X11 (fu := fu) hr hN N fu M1 0 (by omega) (by omega) (by rw [(a4 _ _ (by omega)).1]; exact h4) (fun j hj => by omega)
  refine ⟨M', ?_, by rw [(b3 _ _ (by omega)).1]; exact a2, fun j hj => by rw [b2 j hj, (a4 _ _ (by omega)).1], a4.trans (b3.wk fun x j q => by omega)⟩
  unfold F_X7_tellShades
  rw [h4, a1, ob1_s]
  exact b1
theorem guard_C51 {fu : Nat} (hf : 1000 ≤ fu) {v : NV} (hv : okV v) {set N c : Nat} (hs : set < 64) (hN : N ≤ 60) : ∀ (m n : Nat) (M : Mm) (i a : Nat), i + m = vMen v → m < n → CV v M → (∀ j, j < i → ∃ s, glO v set N j = some s ∧ M.1 82 j = nI s) → (gS v set N m i a = none ∧ ∃ M', F_X6_guard_51 fu n M (nI set) (nI N) c (nI a) (nI i) = some (-9, M') ∧ Out (fun x _ => x = 82) M M') ∨ ∃ a' M1, gS v set N m i a = some a' ∧ (∀ j, j < vMen v → ∃ s, glO v set N j = some s ∧ M1.1 82 j = nI s) ∧ Out (fun x _ => x = 82) M M1 ∧ F_X6_guard_51 fu n M (nI set) (nI N) c (nI a) (nI i) = ob1 (F_X4_take fu M1 c 82 (nI (vMen v))) (fun M3 => some (nI a', M3)) := by
  intro m
  have hm := hv.1
  induction m with
  | zero =>
    intro n M i a hi hn hc h
    obtain ⟨n, rfl⟩ : ∃ q, n = q + 1 := ⟨n - 1, by omega⟩
    refine Or.inr ⟨a, M, rfl, fun j hj => h j (by omega), Out.rf, ?_⟩
    unfold F_X6_guard_51
    rw [hc.1, if_pos (nI_le (by omega) (by omega))]
  | succ m ih =>
    intro n M i a hi hn hc h
    obtain ⟨n, rfl⟩ : ∃ q, n = q + 1 := ⟨n - 1, by omega⟩
    have hiv : i < vMen v := by omega
    obtain ⟨g1, g2, g3, g4⟩ := hv.2.2.2.2.2 i hiv
    have e : F_X6_guard_51 fu (n + 1) M (nI set) (nI N) c (nI a) (nI i) = F_X6_guard_101 fu (F_X6_guard_51 fu n) M (nI set) (nI N) c (nI a) (nI i) (nI (vShade v i)) (oI (glO v set N i)) := by
      rw [F_X6_guard_51, hc.1, if_neg (nI_ge (by omega) (by omega)), rd29 (by omega), ob1_s, (hc.2.2.2.2 i hiv).2.2.2, isIn_C hs (by omega), ob1_s, leastGuard_C hf hv hc hiv hN, ob1_s, srch_o]
      unfold glO
      cases set.testBit i
      · rw [if_pos (by decide), if_neg (by decide)]
        rfl
      · rw [if_neg (by decide), if_pos rfl]
    rw [e]
    unfold F_X6_guard_101 gS
    cases hg : glO v set N i with
    | none => exact Or.inl ⟨rfl, M, if_pos rfl, Out.rf⟩
    | some s =>
      obtain ⟨r1, r2⟩ := glO_r hv hiv hg
      have hc1 : CV v (pI M 82 i (nI s)) := hc.p (by omega)
      show (gS v set N m (i + 1) (a + (s - vShade v i)) = none ∧ ∃ M', (if nI s = (-9 : Int32) then some ((-9 : Int32), M) else ob1 (F_X6_write fu M 82 (nI i) (nI s)) (fun M3 => F_X6_guard_51 fu n M3 (nI set) (nI N) c (nI a + (nI s - nI (vShade v i))) (nI i + 1))) = some (-9, M') ∧ _) ∨ ∃ a' M1, gS v set N m (i + 1) (a + (s - vShade v i)) = some a' ∧ _ ∧ _ ∧ (if nI s = (-9 : Int32) then some ((-9 : Int32), M) else ob1 (F_X6_write fu M 82 (nI i) (nI s)) (fun M3 => F_X6_guard_51 fu n M3 (nI set) (nI N) c (nI a + (nI s - nI (vShade v i))) (nI i + 1))) = _
      rw [if_neg (neg9' (by omega)), wr82 (by omega), ob1_s, pk_sub r1, nI_add, nI_1]
      rcases ih n (pI M 82 i (nI s)) (i + 1) (a + (s - vShade v i)) (by omega) (by omega) hc1 (fun j hj => by
        by_cases hji : j = i
        · exact ⟨s, by rw [hji]; exact hg, by rw [hji, pI_s]⟩
        · obtain ⟨s', p1, p2⟩ := h j (by omega)
          exact ⟨s', p1, by rw [pI_n (by omega)]; exact p2⟩) with ⟨a1, M', a2, a3⟩ | ⟨a', M1, a1, a2, a3, a4⟩
      · exact Or.inl ⟨a1, M', a2, (Out.pI (P := fun x _ => x = 82) Out.rf rfl).trans a3⟩
      · exact Or.inr ⟨a', M1, a1, a2, (Out.pI (P := fun x _ => x = 82) Out.rf rfl).trans a3, a4⟩
/-- the search by one more -/
theorem guard_X58 {fu : Nat} (hf : 1000 ≤ fu) {M : Mm} {v : NV} (hv : okV v) (hc : XV v M) {set N i : Nat} (hs : set < 64) (hN : N ≤ 60) (hi : i < vMen v) (hb : set.testBit i = true) (k40 : Mm → Int32 → Int32 → Int32 → Int32 → Int32 → Option (Int32 × Mm)) (y z : Int32) : ∀ (m n s : Nat), s + m = 10 → m < n → F_X7_guard_58 fu k40 n M (nI set) (nI N) y z (nI i) (nI s) = F_X7_guard_105 fu k40 M (nI set) (nI N) y z (nI i) (match srO (grdP v i N) m s with | none => nI 10 | some d => nI d) := by
  intro m
  have hm := hv.1
  obtain ⟨g1, g2, g3, g4⟩ := hv.2.2.2.2.2 i hi
  obtain ⟨c1, c2, c3, c4⟩ := hc.2.2.2.2 i hi
  induction m with
  | zero =>
    intro n s hs10 hn
    obtain ⟨n, rfl⟩ : ∃ q, n = q + 1 := ⟨n - 1, by omega⟩
    unfold F_X7_guard_58
    rw [isInE hs (by omega), hb, if_pos (by decide), L10, if_pos (nI_le (by omega) (by omega)), show s = 10 by omega]
    rfl
  | succ m ih =>
    intro n s hs10 hn
    obtain ⟨n, rfl⟩ : ∃ q, n = q + 1 := ⟨n - 1, by omega⟩
    unfold F_X7_guard_58 srO
    rw [isInE hs (by omega), hb, if_pos (by decide), L10, if_neg (nI_ge (by omega) (by omega)), xr91 (by omega), xr94 (by omega), clN (by omega), c1, c3, bulkAfter_X hf hv hc g1 (by omega) hN (by omega), ob1_s, nI_1, ih n (s + 1) (by omega) (by omega)]
    by_cases h : 0 < vBulk v i - melF v (vKind v i) s 0 N
    · rw [if_neg (nI_ne0 h (by omega)), if_pos (show grdP v i N s = true from decide_eq_true h)]
    · rw [if_pos (show nI (vBulk v i - melF v (vKind v i) s 0 N) = 0 by rw [show vBulk v i - melF v (vKind v i) s 0 N = 0 by omega]; rfl), if_neg (show ¬ grdP v i N s = true from fun q => h (of_decide_eq_true q))]
theorem guard_X40 {fu : Nat} (hf : 1000 ≤ fu) {v : NV} (hv : okV v) {set N r : Nat} (hs : set < 64) (hN : N ≤ 60) : ∀ (m n : Nat) (M : Mm) (i a : Nat), i + m = vMen v → m < n → XV v M → (∀ j, j < i → ∃ s, glO v set N j = some s ∧ M.1 106 j = nI s) → (gS v set N m i a = none ∧ ∃ M', F_X7_guard_40 fu n M (nI set) (nI N) (nI r) (nI a) (nI i) = some (-9, M') ∧ Out (fun x _ => x = 106) M M') ∨ ∃ a' M1, gS v set N m i a = some a' ∧ (∀ j, j < vMen v → ∃ s, glO v set N j = some s ∧ M1.1 106 j = nI s) ∧ Out (fun x _ => x = 106) M M1 ∧ F_X7_guard_40 fu n M (nI set) (nI N) (nI r) (nI a) (nI i) = ob1 (F_X7_tellShades fu M1 (nI r)) (fun M3 => some (nI a', M3)) := by
  intro m
  have hm := hv.1
  induction m with
  | zero =>
    intro n M i a hi hn hc h
    obtain ⟨n, rfl⟩ : ∃ q, n = q + 1 := ⟨n - 1, by omega⟩
    refine Or.inr ⟨a, M, rfl, fun j hj => h j (by omega), Out.rf, ?_⟩
    unfold F_X7_guard_40
    rw [hc.1, if_pos (nI_le (by omega) (by omega))]
  | succ m ih =>
    intro n M i a hi hn hc h
    obtain ⟨n, rfl⟩ : ∃ q, n = q + 1 := ⟨n - 1, by omega⟩
    have hiv : i < vMen v := by omega
    obtain ⟨g1, g2, g3, g4⟩ := hv.2.2.2.2.2 i hiv
    have e : F_X7_guard_40 fu (n + 1) M (nI set) (nI N) (nI r) (nI a) (nI i) = F_X7_guard_105 fu (F_X7_guard_40 fu n) M (nI set) (nI N) (nI r) (nI a) (nI i) (match glO v set N i with | none => nI 10 | some d => nI d) := by
      rw [F_X7_guard_40, hc.1, if_neg (nI_ge (by omega) (by omega)), xr95 (by omega), clN (by omega), (hc.2.2.2.2 i hiv).2.2.2]
      unfold glO
      cases hb : set.testBit i
      · obtain ⟨k, hk⟩ : ∃ q, fu = q + 1 := ⟨fu - 1, by omega⟩
        rw [show F_X7_guard_58 fu (F_X7_guard_40 fu n) fu M (nI set) (nI N) (nI r) (nI a) (nI i) (nI (vShade v i)) = F_X7_guard_58 fu (F_X7_guard_40 fu n) (k + 1) M (nI set) (nI N) (nI r) (nI a) (nI i) (nI (vShade v i)) by rw [← hk]]
        unfold F_X7_guard_58
        rw [isInE hs (by omega), hb, if_neg (by decide), if_neg (by decide)]
      · rw [guard_X58 hf hv hc hs hN hiv hb _ _ _ (10 - vShade v i) fu (vShade v i) (by omega) (by omega), if_pos rfl]
    rw [e]
    unfold F_X7_guard_105 gS
    cases hg : glO v set N i with
    | none => exact Or.inl ⟨rfl, M, if_pos rfl, Out.rf⟩
    | some s =>
      obtain ⟨r1, r2⟩ := glO_r hv hiv hg
      have o1 : Out (fun x _ => x = 106) M (pI M 106 i (nI s)) := Out.pI (P := fun x _ => x = 106) Out.rf rfl
      have hc1 : XV v (pI M 106 i (nI s)) := hc.cg (fun c h1 h2 => (pI_off c (by omega)).1) (pI_n (by omega)) (pI_n (by omega)) (pI_n (by omega))
      show (gS v set N m (i + 1) (a + (s - vShade v i)) = none ∧ ∃ M', (if nI s = (10 : Int32) then _ else _) = some (-9, M') ∧ _) ∨ ∃ a' M1, gS v set N m (i + 1) (a + (s - vShade v i)) = some a' ∧ _ ∧ _ ∧ (if nI s = (10 : Int32) then _ else _) = _
      rw [if_neg (show ¬ nI s = (10 : Int32) by rw [L10, eqN (by omega) (by omega)]; omega), xr106 (by omega), lt1_s, xr95 (by omega), clN (by omega), pI_n (x := 106) (y := 95) (by omega), (hc.2.2.2.2 i hiv).2.2.2, pk_sub r1, nI_add, nI_1]
      rcases ih n (pI M 106 i (nI s)) (i + 1) (a + (s - vShade v i)) (by omega) (by omega) hc1 (fun j hj => by
        by_cases hji : j = i
        · exact ⟨s, by rw [hji]; exact hg, by rw [hji, pI_s]⟩
        · obtain ⟨s', p1, p2⟩ := h j (by omega)
          exact ⟨s', p1, by rw [pI_n (by omega)]; exact p2⟩) with ⟨a1, M', a2, a3⟩ | ⟨a', M1, a1, a2, a3, a4⟩
      · exact Or.inl ⟨a1, M', a2, o1.trans a3⟩
      · exact Or.inr ⟨a', M1, a1, a2, o1.trans a3, a4⟩
theorem Rel.tell {M M1 M2 M3 M4 : Mm} {r N : Nat} (hr : r < 6) (hN : N ≤ 6) (h : Rel M) {P Q : Nat → Nat → Prop} (o1 : Out P M M1) (hp : ∀ x j, P x j → scr x j) (t1 : M2.1 (1 + r) 0 = 1) (t2 : M2.1 (1 + r) 1 = nI N) {g : Nat → Int32} (t3 : ∀ j, j < N → M2.1 (1 + r + 6) j = g j) (o2 : Out (fun x _ => x = 1 + r ∨ x = 1 + r + 6) M1 M2) (o3 : Out Q M2 M3) (hq : ∀ x j, Q x j → scr x j) (s2 : M4.1 88 r = nI N) (s3 : ∀ j, j < N → M4.1 87 (40 * r + j) = g j) (o4 : Out (fun x j => (x = 88 ∧ j = r) ∨ (x = 87 ∧ 40 * r ≤ j ∧ j < 40 * r + 40)) M3 M4) : Rel M4 := by
  have o : Out (fun x j => pR r x j ∨ scr x j) M M4 := (((o1.wk fun x j q => Or.inr (hp x j q)).trans (o2.wk fun x j q => Or.inl (by unfold pR; omega))).trans (o3.wk fun x j q => Or.inr (hq x j q))).trans (o4.wk fun x j q => Or.inl (by unfold pR; omega))
  have q3 : ∀ x j, (x = 1 + r ∨ x = 1 + r + 6) → M3.1 x j = M2.1 x j := fun x j hx => (o3 x j fun q => by have := hq x j q; unfold scr sR at this; omega).1
  refine h.row hr o (fun x j q => q) (Or.inr ⟨?_, N, by omega, ?_, s2, fun j hj => ?_⟩)
  · rw [(o4 _ _ (by omega)).1, q3 _ _ (by omega), t1]
  · rw [(o4 _ _ (by omega)).1, q3 _ _ (by omega), t2]
  · rw [(o4 _ _ (by omega)).1, q3 _ _ (by omega), t3 j hj, s3 j hj]
theorem sc82 {x j : Nat} (h : x = 82) : scr x j := by subst h; unfold scr sT sR sX sN; omega
theorem sc106 {x j : Nat} (h : x = 106) : scr x j := by subst h; unfold scr sT sR sX sN; omega
theorem call_guard {fu : Nat} (hf : 1000 ≤ fu) {M : Mm} (h : Rel M) (x y z : Int32) : Two2 (F_X6_guard fu M x y z) (fun M1 => F_X7_guard fu M1 x y z) := by
  obtain ⟨v, hv, hc, hx⟩ := h.v
  have hm := hv.1
  have h64 := p2le hv
  unfold F_X6_guard F_X7_guard
  rcases rng3 x (n := 2 ^ vMen v) (by omega) with hi | ⟨s, hs, rfl⟩
  · refine Two2.same h (r := -1) ?_ (by rw [areMen_X0 hv hx hi]; rfl)
    rcases rng3 z (n := 6) (by omega) with hz | ⟨r, hr, rfl⟩
    · rw [rowOf_C0 hz]; rfl
    · rw [rowOf_C1 hr, ob1_s, op1_s, kd_R hr, if_neg (by decide), isSet_C0 hv hc hi]; rfl
  · rcases rng3 y (n := 61) (by omega) with hy | ⟨n, hn, rfl⟩
    · refine Two2.same h (r := -1) ?_ (by rw [areMen_X1 hv hx hs, ob1_s, if_neg one_ne, isAhead_X0 hy]; rfl)
      rcases rng3 z (n := 6) (by omega) with hz | ⟨r, hr, rfl⟩
      · rw [rowOf_C0 hz]; rfl
      · rw [rowOf_C1 hr, ob1_s, op1_s, kd_R hr, if_neg (by decide), isSet_C1 hv hc hs, ob1_s, if_neg one_ne, isAhead_C0 hy]; rfl
    · rcases rng3 z (n := 6) (by omega) with hz | ⟨r, hr, rfl⟩
      · exact Two2.same h (r := -1) (by rw [rowOf_C0 hz]; rfl) (by rw [areMen_X1 hv hx hs, ob1_s, if_neg one_ne, isAhead_X1 hn, ob1_s, if_neg one_ne, isRow_X0 hz]; rfl)
      · rw [rowOf_C1 hr, ob1_s, op1_s, kd_R hr, if_neg (by decide), isSet_C1 hv hc hs, ob1_s, if_neg one_ne, isAhead_C1 hn, ob1_s, if_neg one_ne]
        have hX : ∀ M1 : Mm, XV v M1 → F_X7_guard fu M1 (nI s) (nI n) (nI r) = (if vMen v = 0 then some ((-4 : Int32), M1) else F_X7_guard_40 fu fu M1 (nI s) (nI n) (nI r) (nI 0) (nI 0)) := fun M1 hx1 => by
          unfold F_X7_guard
          rw [areMen_X1 hv hx1 hs, ob1_s, if_neg one_ne, isAhead_X1 hn, ob1_s, if_neg one_ne, isRow_X1 hr, ob1_s, if_neg one_ne, men0_Xe hv hx1]
          rfl
        change Two2 _ (fun M1 => F_X7_guard fu M1 (nI s) (nI n) (nI r))
        by_cases h0 : vMen v = 0
        · exact Two2.same h (r := -4) (by rw [if_pos (by rw [men0_C hv hc]; exact h0)]) (by rw [hX M hx, if_pos h0])
        · rw [if_neg (by rw [men0_C hv hc]; exact h0)]
          rcases guard_C51 hf hv (c := 1 + r) (show s < 64 by omega) (show n ≤ 60 by omega) (vMen v) fu M 0 0 (by omega) (by omega) hc (fun j hj => by omega) with ⟨e, M1, a1, a2⟩ | ⟨a, M1, e, p1, a2, a1⟩
          · have lo : Lo M M1 := Lo.of a2 fun x j q => by omega
            rcases guard_X40 hf hv (r := r) (show s < 64 by omega) (show n ≤ 60 by omega) (vMen v) fu M1 0 0 (by omega) (by omega) (hx.lo lo) (fun j hj => by omega) with ⟨e2, M2, b1, b2⟩ | ⟨a', M2, e2, _⟩
            · exact ⟨-9, M1, M2, a1, by dsimp only; rw [hX M1 (hx.lo lo), if_neg h0]; exact b1, h.out ((a2.wk (P := fun x _ => x = 82 ∨ x = 106) fun x j q => Or.inl q).trans (b2.wk fun x j q => Or.inr q)) fun x j q => by
                rcases q with q | q
                · exact sc82 q
                · exact sc106 q⟩
            · rw [e] at e2; cases e2
          · obtain ⟨M2, t1, t2, t3, t4, t5⟩ := take_C hf (M := M1) hr (nI (vMen v))
            have lo1 : Lo M M2 := Lo.of ((a2.wk (P := fun x _ => x = 82 ∨ x = 1 + r ∨ x = 1 + r + 6) fun x j q => Or.inl q).trans (t5.wk fun x j q => Or.inr q)) fun x j q => by omega
            rcases guard_X40 hf hv (r := r) (show s < 64 by omega) (show n ≤ 60 by omega) (vMen v) fu M2 0 0 (by omega) (by omega) (hx.lo lo1) (fun j hj => by omega) with ⟨e2, M3, b1, b2⟩ | ⟨a', M3, e2, p2, b2, b1⟩
            · rw [e] at e2; cases e2
            · rw [e] at e2
              injection e2 with e2
              subst e2
              have x3 : M3.1 86 4 = nI (vMen v) := by rw [(b2 _ _ (by omega)).1, (hx.lo lo1).1]
              obtain ⟨M4, u1, u2, u3, u4⟩ := tellShades_X hf (M := M3) hr hm x3
              refine ⟨nI a, M2, M4, ?_, ?_, Rel.tell (g := fun j => M1.1 82 j) hr hm h a2 (fun x j q => sc82 q) t2 t3 (fun j hj => t4 j (by omega)) t5 b2 (fun x j q => sc106 q) u2 (fun j hj => ?_) u4⟩
              · have a1' : F_X6_guard_51 fu fu M (nI s) (nI n) (1 + r) 0 0 = _ := a1
                rw [a1', t1, ob1_s]
              · dsimp only
                rw [hX M2 (hx.lo lo1), if_neg h0, b1, u1, ob1_s]
              · obtain ⟨s1, q1, q2⟩ := p1 j hj
                obtain ⟨s2, q3, q4⟩ := p2 j hj
                rw [u3 j hj, q4, q2]
                rw [q1] at q3
                injection q3 with q3
                rw [q3]
def cryP (v : NV) (i N : Nat) : Nat → Bool := fun x => hasR (vKind v i) (vBulk v i + x - melF v (vKind v i) (vShade v i) 0 N) (vRight v)
theorem carry_C74 {fu : Nat} {M : Mm} {v : NV} (hv : okV v) (hc : CV v M) {i N : Nat} (hi : i < vMen v) (hN : N ≤ 60) : ∀ (m n x : Nat), x + m = 100 - vBulk v i → m < n → F_X6_carry_74 fu M n (nI i) (nI (vBulk v i)) (nI (melF v (vKind v i) (vShade v i) 0 N)) (nI x) = some (srch (cryP v i N) m x) := by
  intro m
  obtain ⟨g1, g2, g3, g4⟩ := hv.2.2.2.2.2 i hi
  have hml := melF_le hv (vKind v i) (vShade v i) N 0
  induction m with
  | zero =>
    intro n x hx hn
    obtain ⟨n, rfl⟩ : ∃ q, n = q + 1 := ⟨n - 1, by omega⟩
    unfold F_X6_carry_74
    rw [L99, pk_sub g3, if_pos (nI_lt (by omega) (by omega))]
    rfl
  | succ m ih =>
    intro n x hx hn
    obtain ⟨n, rfl⟩ : ∃ q, n = q + 1 := ⟨n - 1, by omega⟩
    unfold F_X6_carry_74 srch
    rw [L99, pk_sub g3, if_neg (nI_nlt (by omega) (by omega)), nI_add, hc.2.1, hasRight_C hv hc hi (by omega) (by omega) (hv.2.1 (by omega)) hv.2.2.1, ob1_s, nI_1, ih n (x + 1) (by omega) (by omega), show hasR (vKind v i) (vBulk v i + x - melF v (vKind v i) (vShade v i) 0 N) (vRight v) = cryP v i N x from rfl]
    cases cryP v i N x
    · rfl
    · rfl
theorem carry_X19 {fu : Nat} (hf : 1000 ≤ fu) {M : Mm} {v : NV} (hv : okV v) (hc : XV v M) {i N : Nat} (hi : i < vMen v) (hN : N ≤ 60) (hb : 0 < vBulk v i) : ∀ (m n x : Nat), x + m = 100 - vBulk v i → m < n → F_X7_carry_19 fu M n (nI i) (nI N) (nI x) = some (srch (cryP v i N) m x) := by
  intro m
  have hm := hv.1
  obtain ⟨g1, g2, g3, g4⟩ := hv.2.2.2.2.2 i hi
  obtain ⟨c1, c2, c3, c4⟩ := hc.2.2.2.2 i hi
  induction m with
  | zero =>
    intro n x hx hn
    obtain ⟨n, rfl⟩ : ∃ q, n = q + 1 := ⟨n - 1, by omega⟩
    unfold F_X7_carry_19
    rw [xr94 (by omega), xr94 (by omega), clN (by omega), c3, if_neg (nI_nle hb (by omega)), L99, nI_add, if_pos (nI_lt (by omega) (by omega))]
    rfl
  | succ m ih =>
    intro n x hx hn
    obtain ⟨n, rfl⟩ : ∃ q, n = q + 1 := ⟨n - 1, by omega⟩
    unfold F_X7_carry_19 srch
    rw [xr94 (by omega), xr94 (by omega), xr91 (by omega), xr94 (by omega), xr95 (by omega), clN (by omega), c3, if_neg (nI_nle hb (by omega)), L99, nI_add, if_neg (nI_nlt (by omega) (by omega)), c1, c4, bulkAfter_X hf hv hc g1 g4 hN (by omega), ob1_s, mayVote_X hv hc hi (by omega), ob1_s, nI_1, ih n (x + 1) (by omega) (by omega), show hasR (vKind v i) (vBulk v i + x - melF v (vKind v i) (vShade v i) 0 N) (vRight v) = cryP v i N x from rfl]
    cases cryP v i N x
    · rfl
    · rfl
theorem call_carry {fu : Nat} (hf : 1000 ≤ fu) {M : Mm} (h : Rel M) (x y : Int32) : Two (F_X6_carry fu M x y) (F_X7_carry fu M x y) := by
  obtain ⟨v, hv, hc, hx⟩ := h.v
  have hm := hv.1
  unfold F_X6_carry F_X7_carry
  rcases rng3 x (n := vMen v) (by omega) with hi | ⟨i, hi, rfl⟩
  · rw [isMan_C0 hc hi, isMan_X0 hv hx hi]
    exact ⟨-1, rfl, rfl⟩
  · rw [isMan_C1 hv hc hi, isMan_X1 hv hx hi]
    rcases rng3 y (n := 61) (by omega) with hn | ⟨n, hn, rfl⟩
    · rw [isAhead_C0 hn, isAhead_X0 hn]
      exact ⟨-1, rfl, rfl⟩
    · obtain ⟨g1, g2, g3, g4⟩ := hv.2.2.2.2.2 i hi
      obtain ⟨c1, c2, c3, c4⟩ := hc.2.2.2.2 i hi
      obtain ⟨d1, d2, d3, d4⟩ := hx.2.2.2.2 i hi
      rw [isAhead_C1 hn, isAhead_X1 hn, ob1_s, ob1_s, if_neg one_ne, if_neg one_ne, ob1_s, ob1_s, if_neg one_ne, if_neg one_ne, rd28 (by omega), ob1_s, c3]
      by_cases hb : 0 < vBulk v i
      · rw [if_neg (nI_ne0 hb (by omega)), rd26 (by omega), ob1_s, rd29 (by omega), ob1_s, c1, c4, meltedIn_C hf hv hc g1 g4 (by omega), ob1_s]
        exact ⟨_, carry_C74 hv hc hi (by omega) (100 - vBulk v i) fu 0 (by omega) (by omega), carry_X19 hf hv hx hi (by omega) hb (100 - vBulk v i) fu 0 (by omega) (by omega)⟩
      · refine ⟨-9, by rw [if_pos (show nI (vBulk v i) = 0 by rw [show vBulk v i = 0 by omega]; rfl)], ?_⟩
        obtain ⟨k, hk⟩ : ∃ q, fu = q + 1 := ⟨fu - 1, by omega⟩
        rw [show F_X7_carry_19 fu M fu (nI i) (nI n) 0 = F_X7_carry_19 fu M (k + 1) (nI i) (nI n) 0 by rw [← hk]]
        unfold F_X7_carry_19
        rw [xr94 (by omega), clN (by omega), d3, if_pos (le00 (by omega))]
