/-! what is foretold comes: days on, shades let -/
theorem melF_cg {v w : NV} (h1 : vSun v = vSun w) (h2 : vDay v = vDay w) (k s : Nat) : ∀ m d, melF v k s d m = melF w k s d m := by
  intro m
  induction m with
  | zero => intro d; rfl
  | succ m ih =>
    intro d
    show melD v k s d + melF v k s (d + 1) m = melD w k s d + melF w k s (d + 1) m
    rw [ih, show melD v k s d = melD w k s d by unfold melD; rw [h1, h2]]
theorem melF_add (v : NV) (k s : Nat) : ∀ m d t, melF v k s d (m + t) = melF v k s d m + melF v k s (d + m) t := by
  intro m
  induction m with
  | zero => intro d t; rw [Nat.zero_add, Nat.add_zero]; show _ = 0 + _; rw [Nat.zero_add]
  | succ m ih =>
    intro d t
    rw [show m + 1 + t = (m + t) + 1 by omega]
    show melD v k s d + melF v k s (d + 1) (m + t) = melD v k s d + melF v k s (d + 1) m + _
    rw [ih, show d + 1 + m = d + (m + 1) by omega]
    omega
/-- t days on -/
def dayV (v : NV) (t : Nat) : NV := (vMen v, vRight v, vDay v + t, vSun v, vKind v, vVote v, (fun j => blk v j t), vShade v)
theorem dayV_0 (v : NV) : dayV v 0 = v := rfl
theorem dayV_s (v : NV) (t : Nat) : perf (dayV v t) (0, 0, 0) = dayV v (t + 1) := by
  have e : (fun j => vBulk (dayV v t) j - melD (dayV v t) (vKind (dayV v t) j) (vShade (dayV v t) j) 0) = (fun j => blk v j (t + 1)) := by
    funext j
    rw [blk_s]
    rfl
  unfold perf
  rw [if_pos rfl, e]
  rfl
theorem melF_day (v : NV) (t k s : Nat) : ∀ m d, melF (dayV v t) k s d m = melF v k s (t + d) m := by
  intro m
  induction m with
  | zero => intro d; rfl
  | succ m ih =>
    intro d
    show melD (dayV v t) k s d + melF (dayV v t) k s (d + 1) m = melD v k s (t + d) + melF v k s (t + d + 1) m
    rw [ih, show melD (dayV v t) k s d = melD v k s (t + d) by
      unfold melD
      rw [show vDay (dayV v t) + d = vDay v + (t + d) by show vDay v + t + d = _; omega]
      rfl, Nat.add_assoc]
theorem blk_day (v : NV) (t i n : Nat) : blk (dayV v t) i n = blk v i (t + n) := by
  show blk v i t - melF (dayV v t) (vKind v i) (vShade v i) 0 n = blk v i (t + n)
  unfold blk
  rw [melF_day, melF_add, Nat.zero_add, Nat.add_zero]
  omega
theorem whoF_day (v : NV) (r t n : Nat) : whoF (dayV v t) r n = whoF v r (t + n) := by
  funext i
  show hasR (vKind v i) (blk (dayV v t) i n) r = hasR (vKind v i) (blk v i (t + n)) r
  rw [blk_day]
theorem whoN_day (v : NV) (r t n : Nat) : whoN (dayV v t) r n = whoN v r (t + n) := by
  unfold whoN
  rw [whoF_day]
  rfl
/-- alike in men, kinds, votes -/
def alk (v w : NV) : Prop := vMen v = vMen w ∧ vKind v = vKind w ∧ vVote v = vVote w
theorem v1_alk {v w : NV} (h : alk v w) (s : Nat) : ∀ i, v1 v s i = v1 w s i := by
  intro i
  induction i with
  | zero => unfold v1; rw [h.2.1, h.2.2]
  | succ i ih => unfold v1; rw [h.2.1, h.2.2, ih]
theorem ones_alk {v w : NV} (h : alk v w) (s : Nat) : onesN v s = onesN w s := by
  unfold onesN
  rw [h.1]
  exact bset_cg _ fun i _ => by unfold onesF; rw [v1_alk h]
theorem carr_alk {v w : NV} (h : alk v w) (s : Nat) : carr v s = carr w s := by
  unfold carr
  rw [ones_alk h]
theorem yes_day (v : NV) (t : Nat) : yes (dayV v t) 0 = yes v t ∧ nay (dayV v t) 0 = nay v t := by
  have e : whoN (dayV v t) (vRight (dayV v t)) 0 = whoN v (vRight v) t := whoN_day v _ t 0
  have a : alk (dayV v t) v := ⟨rfl, rfl, rfl⟩
  unfold yes nay
  rw [e, ones_alk a]
  exact ⟨rfl, rfl⟩
theorem srD_cg {p q : Nat → Bool} (h : p = q) (i : Nat) : srD p i = srD q i := by rw [h]
theorem hrF_cg {v w : NV} {N N' : Nat} (h : blkP v N = blkP w N') (i : Nat) : ∀ m e, hrF v N i m e = hrF w N' i m e := by
  intro m
  induction m with
  | zero => intro e; exact srD_cg h i
  | succ m ih => intro e; unfold hrF; rw [h, ih]
theorem blkP_day (v : NV) (t : Nat) : blkP (dayV v t) 0 = blkP v t := by
  funext i
  unfold blkP
  rw [blk_day]
  rfl
theorem goneP_day (v : NV) (i t d : Nat) : goneP (dayV v t) i d = goneP v i (t + d) := by
  unfold goneP
  show decide (blk v i t ≤ melF (dayV v t) (vKind v i) (vShade v i) 0 d) = _
  rw [melF_day, melF_add, Nat.zero_add, Nat.add_zero]
  unfold blk
  exact decide_eq_decide.mpr ⟨fun h => by omega, fun h => by omega⟩
theorem srch_at {p : Nat → Bool} {j : Nat} (hp : p j = true) : ∀ m d, d ≤ j → j < d + m → (∀ i, d ≤ i → i < j → p i = false) → srch p m d = nI j := by
  intro m
  induction m with
  | zero => intro d h1 h2; omega
  | succ m ih =>
    intro d h1 h2 h
    by_cases hd : d = j
    · subst hd
      exact srch_1 hp
    · unfold srch
      rw [h d (Nat.le_refl _) (by omega), if_neg (by decide)]
      exact ih (d + 1) (by omega) (by omega) fun i q1 q2 => h i (by omega) q2
theorem srch_inv {p : Nat → Bool} {m d : Nat} (hmd : d + m < 1000) : srch p m d = -9 ∨ ∃ j, d ≤ j ∧ j < d + m ∧ srch p m d = nI j ∧ p j = true ∧ ∀ i, d ≤ i → i < j → p i = false := by
  rw [srch_o]
  cases h : srO p m d with
  | none => exact Or.inl rfl
  | some j =>
    obtain ⟨h1, h2, h3⟩ := srO_r m d h
    exact Or.inr ⟨j, h1, h2, rfl, h3, srO_m m d h⟩
/-- gone in j days: t days on, gone in j - t -/
theorem gone_day {v : NV} {i j t : Nat} (hj : j ≤ 60) (h : srch (goneP v i) 61 0 = nI j) : srch (goneP (dayV v t) i) 61 0 = nI (j - t) := by
  rcases srch_inv (p := goneP v i) (m := 61) (d := 0) (by decide) with q | ⟨j', q1, q2, q3, q4, q5⟩
  · rw [q] at h
    exact absurd h.symm (neg9' (by omega))
  · rw [q3, eqN (by omega) (by omega)] at h
    subst h
    refine srch_at ?_ 61 0 (Nat.zero_le _) (by omega) fun i' _ h2 => ?_
    · rw [goneP_day]
      have := goneP_up v i q4 (t + (j' - t) - j')
      rwa [show j' + (t + (j' - t) - j') = t + (j' - t) by omega] at this
    · rw [goneP_day]
      exact q5 _ (Nat.zero_le _) (by omega)
/-- shades let -/
def shV (v : NV) (f : Nat → Nat) : NV := (vMen v, vRight v, vDay v, vSun v, vKind v, vVote v, vBulk v, f)
theorem shV_s (v : NV) (D : Nat → Nat) (i : Nat) : perf (shV v (fun j => if j < i then D j else vShade v j)) (2, i, D i) = shV v (fun j => if j < i + 1 then D j else vShade v j) := by
  have e : (fun j => if j = i then D i else (if j < i then D j else vShade v j)) = (fun j => if j < i + 1 then D j else vShade v j) := by
    funext j
    by_cases h : j = i
    · rw [if_pos h, h, if_pos (by omega)]
    · rw [if_neg h]
      by_cases h2 : j < i
      · rw [if_pos h2, if_pos (by omega)]
      · rw [if_neg h2, if_neg (by omega)]
  unfold perf
  rw [if_neg (by show ¬ (2 : Nat) = 0; decide), if_pos rfl]
  show shV v (fun j => if j = i then D i else (if j < i then D j else vShade v j)) = _
  rw [e]
theorem shV_0 (v : NV) (D : Nat → Nat) : shV v (fun j => if j < 0 then D j else vShade v j) = v := by
  have e : (fun j => if j < 0 then D j else vShade v j) = vShade v := by
    funext j
    rw [if_neg (by omega)]
  rw [e]
  rfl
theorem melF_sh (v : NV) (f : Nat → Nat) (k s m d : Nat) : melF (shV v f) k s d m = melF v k s d m := melF_cg (v := shV v f) (w := v) rfl rfl k s m d
theorem blk_sh (v : NV) (f : Nat → Nat) (i n : Nat) : blk (shV v f) i n = vBulk v i - melF v (vKind v i) (f i) 0 n := by
  show vBulk v i - melF (shV v f) (vKind v i) (f i) 0 n = _
  rw [melF_sh]
theorem grdP_sh (v : NV) (f : Nat → Nat) (i n : Nat) : grdP (shV v f) i n = grdP v i n := by
  funext s
  unfold grdP
  rw [melF_sh]
  rfl
/-- guard: with the SHADES told nothing more is wanted -/
theorem glO_sh {v : NV} (hv : okV v) {set n : Nat} {D : Nat → Nat} (h : ∀ j, j < vMen v → glO v set n j = some (D j)) {j : Nat} (hj : j < vMen v) : glO (shV v D) set n j = some (D j) := by
  have hd := glO_r hv hj (h j hj)
  have h1 := h j hj
  unfold glO at h1 ⊢
  by_cases hb : set.testBit j = true
  · rw [if_pos hb] at h1 ⊢
    obtain ⟨q1, q2, q3⟩ := srO_r _ _ h1
    rw [grdP_sh]
    show srO (grdP v j n) (10 - D j) (D j) = some (D j)
    rw [show 10 - D j = (10 - D j - 1) + 1 by omega]
    unfold srO
    rw [if_pos q3]
  · rw [if_neg hb]
    rfl
theorem gS_0 {v : NV} {set n : Nat} (h : ∀ j, j < vMen v → glO v set n j = some (vShade v j)) : ∀ m i a, i + m ≤ vMen v → gS v set n m i a = some a := by
  intro m
  induction m with
  | zero => intro i a _; rfl
  | succ m ih =>
    intro i a hi
    unfold gS
    rw [h i (by omega)]
    show gS v set n m (i + 1) (a + (vShade v i - vShade v i)) = some a
    rw [Nat.sub_self, Nat.add_zero]
    exact ih (i + 1) a (by omega)
/-- bribe: the best of all sets -/
theorem bst_spec {v : NV} {N : Nat} {b : Bool} : ∀ (m s : Nat) (a : Option (Nat × Nat)), (∀ c t, bst v N b m s a = some (c, t) → a = some (c, t) ∨ (s ≤ t ∧ t < s + m ∧ cO v N t (vMen v) 0 0 = some c ∧ (carr v t == b) = true)) ∧ (∀ c t, a = some (c, t) → ∃ c' t', bst v N b m s a = some (c', t') ∧ c' ≤ c) ∧ ∀ c t, s ≤ t → t < s + m → cO v N t (vMen v) 0 0 = some c → (carr v t == b) = true → ∃ c' t', bst v N b m s a = some (c', t') ∧ c' ≤ c := by
  intro m
  induction m with
  | zero => intro s a; exact ⟨fun c t h => Or.inl h, fun c t h => ⟨c, t, h, Nat.le_refl _⟩, fun c t h1 h2 => by omega⟩
  | succ m ih =>
    intro s a
    have st1 : ∀ c t, stp v N b s a = some (c, t) → a = some (c, t) ∨ (t = s ∧ cO v N s (vMen v) 0 0 = some c ∧ (carr v s == b) = true) := by
      intro c t
      unfold stp
      cases hc : cO v N s (vMen v) 0 0 with
      | none => intro h; exact Or.inl h
      | some c1 =>
        cases a with
        | none =>
          intro h
          by_cases hq : (carr v s == b) = true
          · simp only [if_pos hq] at h
            injection h with h
            injection h with h1 h2
            exact Or.inr ⟨h2.symm, by rw [h1], hq⟩
          · simp only [if_neg hq] at h
            cases h
        | some q =>
          obtain ⟨c0, s0⟩ := q
          intro h
          by_cases hq : c1 < c0 ∧ (carr v s == b) = true
          · simp only [if_pos hq] at h
            injection h with h
            injection h with h1 h2
            exact Or.inr ⟨h2.symm, by rw [h1], hq.2⟩
          · simp only [if_neg hq] at h
            exact Or.inl h
    have st2 : ∀ c t, a = some (c, t) → ∃ c' t', stp v N b s a = some (c', t') ∧ c' ≤ c := by
      intro c t h
      subst h
      unfold stp
      cases hc : cO v N s (vMen v) 0 0 with
      | none => exact ⟨c, t, rfl, Nat.le_refl _⟩
      | some c1 =>
        by_cases hq : c1 < c ∧ (carr v s == b) = true
        · exact ⟨c1, s, by simp only [if_pos hq], by omega⟩
        · exact ⟨c, t, by simp only [if_neg hq], Nat.le_refl _⟩
    have st3 : ∀ c, cO v N s (vMen v) 0 0 = some c → (carr v s == b) = true → ∃ c' t', stp v N b s a = some (c', t') ∧ c' ≤ c := by
      intro c hc hq
      unfold stp
      rw [hc]
      cases a with
      | none => exact ⟨c, s, by simp only [if_pos hq], Nat.le_refl _⟩
      | some q =>
        obtain ⟨c0, s0⟩ := q
        by_cases hlt : c < c0
        · exact ⟨c, s, by simp only [if_pos (And.intro hlt hq)], Nat.le_refl _⟩
        · exact ⟨c0, s0, by simp only [if_neg (fun z : c < c0 ∧ (carr v s == b) = true => hlt z.1)], by omega⟩
    obtain ⟨i1, i2, i3⟩ := ih (s + 1) (stp v N b s a)
    refine ⟨fun c t h => ?_, fun c t h => ?_, fun c t h1 h2 h3 h4 => ?_⟩
    · rcases i1 c t h with q | ⟨q1, q2, q3, q4⟩
      · rcases st1 c t q with q | ⟨rfl, q1, q2⟩
        · exact Or.inl q
        · exact Or.inr ⟨Nat.le_refl _, by omega, q1, q2⟩
      · exact Or.inr ⟨by omega, by omega, q3, q4⟩
    · obtain ⟨c1, t1, q1, q2⟩ := st2 c t h
      obtain ⟨c2, t2, q3, q4⟩ := i2 c1 t1 q1
      exact ⟨c2, t2, q3, by omega⟩
    · by_cases hts : t = s
      · subst hts
        obtain ⟨c1, t1, q1, q2⟩ := st3 c h3 h4
        obtain ⟨c2, t2, q3, q4⟩ := i2 c1 t1 q1
        exact ⟨c2, t2, q3, by omega⟩
      · exact i3 c t (by omega) (by omega) h3 h4
