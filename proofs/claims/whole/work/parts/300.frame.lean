/-! what each method leaves as it was -/
def Out (P : Nat → Nat → Prop) (M M' : Mm) : Prop := ∀ x j, ¬ P x j → M'.1 x j = M.1 x j ∧ M'.2 x j = M.2 x j
theorem Out.rf {P : Nat → Nat → Prop} {M : Mm} : Out P M M := fun _ _ _ => ⟨rfl, rfl⟩
theorem Out.trans {P : Nat → Nat → Prop} {M M1 M2 : Mm} (h : Out P M M1) (h1 : Out P M1 M2) : Out P M M2 := fun x j hp => ⟨(h1 x j hp).1.trans (h x j hp).1, (h1 x j hp).2.trans (h x j hp).2⟩
theorem Out.mono {P P1 : Nat → Nat → Prop} {M M1 M2 : Mm} (h : Out P M M1) (h1 : Out P1 M1 M2) (hp : ∀ x j, P1 x j → P x j) : Out P M M2 := h.trans fun x j hn => h1 x j fun q => hn (hp x j q)
theorem Out.wk {P P1 : Nat → Nat → Prop} {M M1 : Mm} (h1 : Out P1 M M1) (hp : ∀ x j, P1 x j → P x j) : Out P M M1 := fun x j hn => h1 x j fun q => hn (hp x j q)
theorem ifX {c : Prop} {h : Decidable c} {α : Type} {a b r : α} (e : ite c a b = r) : (c ∧ a = r) ∨ (¬ c ∧ b = r) := by
  by_cases hc : c
  · exact Or.inl ⟨hc, ifP e hc⟩
  · exact Or.inr ⟨hc, ifN e hc⟩
theorem Out.pI {P : Nat → Nat → Prop} {M M1 : Mm} {x j : Nat} {v : Int32} (h : Out P M M1) (hp : P x j) : Out P M (pI M1 x j v) := h.trans fun y i hn => ⟨by
  by_cases hy : y = x
  · subst hy
    rw [pI_at]
    have : i ≠ j := fun q => hn (q ▸ hp)
    simp [upd, this]
  · rw [(pI_off y hy).1], rfl⟩
theorem Out.pL {P : Nat → Nat → Prop} {M M1 : Mm} {x j : Nat} {v : Int64} (h : Out P M M1) (hp : P x j) : Out P M (pL M1 x j v) := h.trans fun y i hn => ⟨rfl, by
  by_cases hy : y = x
  · subst hy
    rw [pL_at]
    have : i ≠ j := fun q => hn (q ▸ hp)
    simp [vp_updL, this]
  · rw [(pL_off y hy).2]⟩
abbrev P_X0_clear (c0 : Nat) : Nat → Nat → Prop := fun x j => (x = c0)
set_option maxRecDepth 100000 in
set_option maxHeartbeats 4000000 in
theorem fw_X0_clear_2 {fu : Nat} {c0 : Nat} {M' : Mm} : ∀ (n : Nat) {x1 : Int32} {M : Mm}, F_X0_clear_2 fu n M c0 x1 = some M' → Out (P_X0_clear c0) M M' := by
  intro n
  induction n with
  | zero =>
    intro x1 M hF
    cases hF
  | succ n ih =>
    intro x1 M hF
    have hO : Out (P_X0_clear c0) M M := Out.rf
    unfold F_X0_clear_2 at hF
    rcases ifX hF with ⟨b1, hF⟩ | ⟨b1, hF⟩
    · have hq := b1
      cases hF; exact hO
    · have hq := b1
      obtain ⟨n2, hF⟩ := ifO hF
      obtain ⟨M3, hO, hF⟩ := lt1W (P := fun q => Out (P_X0_clear c0) M q) hF (by first | exact hO.pI (by simp [P_X0_clear]) | exact hO.pL (by simp [P_X0_clear]))
      exact hO.trans (ih hF)
set_option maxRecDepth 100000 in
set_option maxHeartbeats 4000000 in
theorem fr_X0_clear {fu : Nat} {M : Mm} {c0 : Nat} {M' : Mm} (hF : F_X0_clear fu M c0 = some M') : Out (P_X0_clear c0) M M' := by
  have hO : Out (P_X0_clear c0) M M := Out.rf
  unfold F_X0_clear at hF
  exact hO.trans (fw_X0_clear_2 _ hF)
abbrev P_X0_add (c0 : Nat) : Nat → Nat → Prop := fun x j => (x = c0)
set_option maxRecDepth 100000 in
set_option maxHeartbeats 4000000 in
theorem fr_X0_add {fu : Nat} {M : Mm} {c0 : Nat} {x1 : Int32} {x2 : Int64} {M' : Mm} (hF : F_X0_add fu M c0 x1 x2 = some M') : Out (P_X0_add c0) M M' := by
  have hO : Out (P_X0_add c0) M M := Out.rf
  unfold F_X0_add at hF
  rcases ifX hF with ⟨b1, hF⟩ | ⟨b1, hF⟩
  · have hq := b1
    cases hF; exact hO
  · have hq := b1
    rcases ifX hF with ⟨b2, hF⟩ | ⟨b2, hF⟩
    · have hq := b2
      cases hF; exact hO
    · have hq := b2
      obtain ⟨n3, hF⟩ := ifO hF
      obtain ⟨n4, hF⟩ := ifO hF
      obtain ⟨M5, hO, hF⟩ := lt1W (P := fun q => Out (P_X0_add c0) M q) hF (by first | exact hO.pI (by simp [P_X0_add]) | exact hO.pL (by simp [P_X0_add]))
      cases hF; exact hO
abbrev P_X0_pass : Nat → Nat → Prop := fun x j => (x = 78) ∨ (x = 79)
set_option maxRecDepth 100000 in
set_option maxHeartbeats 4000000 in
theorem fw_X0_pass_69 {fu : Nat} {M' : Mm} : ∀ (n : Nat) {x3 : Int32} {M : Mm}, F_X0_pass_69 fu n M x3 = some M' → Out P_X0_pass M M' := by
  intro n
  induction n with
  | zero =>
    intro x3 M hF
    cases hF
  | succ n ih =>
    intro x3 M hF
    have hO : Out P_X0_pass M M := Out.rf
    unfold F_X0_pass_69 at hF
    rcases ifX hF with ⟨b1, hF⟩ | ⟨b1, hF⟩
    · have hq := b1
      cases hF; exact hO
    · have hq := b1
      rcases ifX hF with ⟨b2, hF⟩ | ⟨b2, hF⟩
      · have hq := b2
        cases hF; exact hO
      · have hq := b2
        obtain ⟨n3, hF⟩ := ifO hF
        obtain ⟨n4, hF⟩ := ifO hF
        obtain ⟨M5, hO, hF⟩ := lt1W (P := fun q => Out P_X0_pass M q) hF (by first | exact hO.pI (by simp [P_X0_pass]) | exact hO.pL (by simp [P_X0_pass]))
        exact hO.trans (ih hF)
set_option maxRecDepth 100000 in
set_option maxHeartbeats 4000000 in
theorem fw_X0_pass_9 {fu : Nat} {M' : Mm} : ∀ (n : Nat) {x1 : Int32} {x2 : Int32} {x3 : Int32} {M : Mm}, F_X0_pass_9 fu n M x1 x2 x3 = some M' → Out P_X0_pass M M' := by
  intro n
  induction n with
  | zero =>
    intro x1 x2 x3 M hF
    cases hF
  | succ n ih =>
    intro x1 x2 x3 M hF
    have hO : Out P_X0_pass M M := Out.rf
    unfold F_X0_pass_9 at hF
    rcases ifX hF with ⟨b1, hF⟩ | ⟨b1, hF⟩
    · have hq := b1
      exact hO.trans (fw_X0_pass_69 _ hF)
    · have hq := b1
      obtain ⟨n2, hF⟩ := ifO hF
      obtain ⟨M4, h3, hF⟩ := ob1S hF
      have hO := hO.mono (fr_X0_add h3) (fun x j hx => Or.inr (hx))
      obtain ⟨n5, hF⟩ := ifO hF
      obtain ⟨M7, h6, hF⟩ := ob1S hF
      have hO := hO.mono (fr_X0_add h6) (fun x j hx => Or.inr (hx))
      exact hO.trans (ih hF)
set_option maxRecDepth 100000 in
set_option maxHeartbeats 4000000 in
theorem fr_X0_pass {fu : Nat} {M : Mm} {x1 : Int32} {x2 : Int32} {M' : Mm} (hF : F_X0_pass fu M x1 x2 = some M') : Out P_X0_pass M M' := by
  have hO : Out P_X0_pass M M := Out.rf
  unfold F_X0_pass at hF
  obtain ⟨M2, h1, hF⟩ := ob1S hF
  have hO := hO.mono (fr_X0_clear h1) (fun x j hx => Or.inr (hx))
  exact hO.trans (fw_X0_pass_9 _ hF)
abbrev P_X0_weigh : Nat → Nat → Prop := fun x j => (x = 77 ∧ j = 2) ∨ (x = 78) ∨ (x = 79)
set_option maxRecDepth 100000 in
set_option maxHeartbeats 4000000 in
theorem fw_X0_weigh_31 {fu : Nat} {M' : Mm} : ∀ (n : Nat) {c1 : Nat} {x2 : Int32} {x3 : Int32} {x4 : Int32} {x5 : Int32} {M : Mm}, F_X0_weigh_31 fu n M c1 x2 x3 x4 x5 = some M' → Out P_X0_weigh M M' := by
  intro n
  induction n with
  | zero =>
    intro c1 x2 x3 x4 x5 M hF
    cases hF
  | succ n ih =>
    intro c1 x2 x3 x4 x5 M hF
    have hO : Out P_X0_weigh M M := Out.rf
    unfold F_X0_weigh_31 at hF
    rcases ifX hF with ⟨b1, hF⟩ | ⟨b1, hF⟩
    · have hq := b1
      cases hF; exact hO
    · have hq := b1
      obtain ⟨r3, h2, hF⟩ := ob1S hF
      obtain ⟨M5, h4, hF⟩ := ob1S hF
      have hO := hO.mono (fr_X0_pass h4) (fun x j hx => hx.elim (fun h => Or.inr (Or.inl h)) (fun hx => Or.inr (Or.inr (hx))))
      obtain ⟨M6, hO, hF⟩ := lt1W (P := fun q => Out P_X0_weigh M q) hF (by first | exact hO.pI (by simp [P_X0_weigh]) | exact hO.pL (by simp [P_X0_weigh]))
      exact hO.trans (ih hF)
set_option maxRecDepth 100000 in
set_option maxHeartbeats 4000000 in
theorem fr_X0_weigh {fu : Nat} {M : Mm} {c1 : Nat} {x2 : Int32} {x3 : Int32} {x4 : Int32} {M' : Mm} (hF : F_X0_weigh fu M c1 x2 x3 x4 = some M') : Out P_X0_weigh M M' := by
  have hO : Out P_X0_weigh M M := Out.rf
  unfold F_X0_weigh at hF
  obtain ⟨M2, h1, hF⟩ := ob1S hF
  have hO := hO.mono (fr_X0_clear h1) (fun x j hx => Or.inr (Or.inl hx))
  obtain ⟨r4, h3, hF⟩ := ob1S hF
  obtain ⟨M6, h5, hF⟩ := ob1S hF
  have hO := hO.mono (fr_X0_add h5) (fun x j hx => Or.inr (Or.inl hx))
  obtain ⟨M7, hO, hF⟩ := lt1W (P := fun q => Out P_X0_weigh M q) hF (by first | exact hO.pI (by simp [P_X0_weigh]) | exact hO.pL (by simp [P_X0_weigh]))
  exact hO.trans (fw_X0_weigh_31 _ hF)
abbrev P_X6_write (c0 : Nat) : Nat → Nat → Prop := fun x j => (x = c0)
set_option maxRecDepth 100000 in
set_option maxHeartbeats 4000000 in
theorem fr_X6_write {fu : Nat} {M : Mm} {c0 : Nat} {x1 : Int32} {x2 : Int32} {M' : Mm} (hF : F_X6_write fu M c0 x1 x2 = some M') : Out (P_X6_write c0) M M' := by
  have hO : Out (P_X6_write c0) M M := Out.rf
  unfold F_X6_write at hF
  rcases ifX hF with ⟨b1, hF⟩ | ⟨b1, hF⟩
  · have hq := b1
    cases hF; exact hO
  · have hq := b1
    rcases ifX hF with ⟨b2, hF⟩ | ⟨b2, hF⟩
    · have hq := b2
      cases hF; exact hO
    · have hq := b2
      obtain ⟨n3, hF⟩ := ifO hF
      obtain ⟨M4, hO, hF⟩ := lt1W (P := fun q => Out (P_X6_write c0) M q) hF (by first | exact hO.pI (by simp [P_X6_write]) | exact hO.pL (by simp [P_X6_write]))
      cases hF; exact hO
abbrev P_X1_place : Nat → Nat → Prop := fun x j => (x = 74 ∧ j = 1) ∨ (x = 75)
set_option maxRecDepth 100000 in
set_option maxHeartbeats 4000000 in
theorem fr_X1_place {fu : Nat} {M : Mm} {x1 : Int32} {x2 : Int32} {M' : Mm} (hF : F_X1_place fu M x1 x2 = some M') : Out P_X1_place M M' := by
  have hO : Out P_X1_place M M := Out.rf
  unfold F_X1_place at hF
  obtain ⟨M2, h1, hF⟩ := ob1S hF
  have hO := hO.mono (fr_X6_write h1) (fun x j hx => Or.inr (hx))
  obtain ⟨r4, h3, hF⟩ := ob1S hF
  obtain ⟨r6, h5, hF⟩ := ob1S hF
  rcases ifX hF with ⟨b7, hF⟩ | ⟨b7, hF⟩
  · have hq := b7
    obtain ⟨M8, hO, hF⟩ := lt1W (P := fun q => Out P_X1_place M q) hF (by first | exact hO.pI (by simp [P_X1_place]) | exact hO.pL (by simp [P_X1_place]))
    cases hF; exact hO
  · have hq := b7
    obtain ⟨M9, hO, hF⟩ := lt1W (P := fun q => Out P_X1_place M q) hF (by first | exact hO.pI (by simp [P_X1_place]) | exact hO.pL (by simp [P_X1_place]))
    cases hF; exact hO
abbrev P_X1_prepare : Nat → Nat → Prop := fun x j => (x = 74 ∧ j = 0) ∨ (x = 74 ∧ j = 1) ∨ (x = 74 ∧ j = 2) ∨ (x = 75) ∨ (x = 76)
set_option maxRecDepth 100000 in
set_option maxHeartbeats 4000000 in
theorem fw_X1_prepare_28 {fu : Nat} {M' : Mm} {k15 : Mm → Nat → Int32 → Option Mm} (hk_15 : ∀ {c1 : Nat} {x2 : Int32} {M : Mm}, k15 M c1 x2 = some M' → Out P_X1_prepare M M') : ∀ (n : Nat) {c1 : Nat} {x2 : Int32} {x3 : Int32} {x4 : Int32} {M : Mm}, F_X1_prepare_28 fu k15 n M c1 x2 x3 x4 = some M' → Out P_X1_prepare M M' := by
  intro n
  induction n with
  | zero =>
    intro c1 x2 x3 x4 M hF
    cases hF
  | succ n ih =>
    intro c1 x2 x3 x4 M hF
    have hO : Out P_X1_prepare M M := Out.rf
    unfold F_X1_prepare_28 at hF
    rcases ifX hF with ⟨b1, hF⟩ | ⟨b1, hF⟩
    · have hq := b1
      obtain ⟨M3, h2, hF⟩ := ob1S hF
      have hO := hO.mono (fr_X6_write h2) (fun x j hx => Or.inr (Or.inr (Or.inr (Or.inr (hx)))))
      obtain ⟨r5, h4, hF⟩ := ob1S hF
      obtain ⟨M7, h6, hF⟩ := ob1S hF
      have hO := hO.mono (fr_X1_place h6) (fun x j hx => hx.elim (fun h => Or.inr (Or.inl h)) (fun hx => Or.inr (Or.inr (Or.inr (Or.inl hx)))))
      exact hO.trans (hk_15 hF)
    · have hq := b1
      obtain ⟨r9, h8, hF⟩ := ob1S hF
      rcases ifX hF with ⟨b10, hF⟩ | ⟨b10, hF⟩
      · have hq := b10
        exact hO.trans (ih hF)
      · have hq := b10
        exact hO.trans (ih hF)
set_option maxRecDepth 100000 in
set_option maxHeartbeats 4000000 in
theorem fw_X1_prepare_94 {fu : Nat} {M' : Mm} : ∀ (n : Nat) {c1 : Nat} {x2 : Int32} {M : Mm}, F_X1_prepare_94 fu n M c1 x2 = some M' → Out P_X1_prepare M M' := by
  intro n
  induction n with
  | zero =>
    intro c1 x2 M hF
    cases hF
  | succ n ih =>
    intro c1 x2 M hF
    have hO : Out P_X1_prepare M M := Out.rf
    unfold F_X1_prepare_94 at hF
    rcases ifX hF with ⟨b1, hF⟩ | ⟨b1, hF⟩
    · have hq := b1
      cases hF; exact hO
    · have hq := b1
      obtain ⟨r3, h2, hF⟩ := ob1S hF
      rcases ifX hF with ⟨b4, hF⟩ | ⟨b4, hF⟩
      · have hq := b4
        exact hO.trans (ih hF)
      · have hq := b4
        obtain ⟨M5, hO, hF⟩ := lt1W (P := fun q => Out P_X1_prepare M q) hF (by first | exact hO.pI (by simp [P_X1_prepare]) | exact hO.pL (by simp [P_X1_prepare]))
        exact hO.trans (ih hF)
set_option maxRecDepth 100000 in
set_option maxHeartbeats 4000000 in
theorem fw_X1_prepare_15 {fu : Nat} {M' : Mm} : ∀ (n : Nat) {c1 : Nat} {x2 : Int32} {M : Mm}, F_X1_prepare_15 fu n M c1 x2 = some M' → Out P_X1_prepare M M' := by
  intro n
  induction n with
  | zero =>
    intro c1 x2 M hF
    cases hF
  | succ n ih =>
    intro c1 x2 M hF
    have hO : Out P_X1_prepare M M := Out.rf
    unfold F_X1_prepare_15 at hF
    rcases ifX hF with ⟨b1, hF⟩ | ⟨b1, hF⟩
    · have hq := b1
      obtain ⟨M2, hO, hF⟩ := lt1W (P := fun q => Out P_X1_prepare M q) hF (by first | exact hO.pI (by simp [P_X1_prepare]) | exact hO.pL (by simp [P_X1_prepare]))
      exact hO.trans (fw_X1_prepare_94 _ hF)
    · have hq := b1
      exact hO.trans (fw_X1_prepare_28 (hk_15 := ih) _ hF)
set_option maxRecDepth 100000 in
set_option maxHeartbeats 4000000 in
theorem fr_X1_prepare {fu : Nat} {M : Mm} {c1 : Nat} {M' : Mm} (hF : F_X1_prepare fu M c1 = some M') : Out P_X1_prepare M M' := by
  have hO : Out P_X1_prepare M M := Out.rf
  unfold F_X1_prepare at hF
  obtain ⟨M1, hO, hF⟩ := lt1W (P := fun q => Out P_X1_prepare M q) hF (by first | exact hO.pI (by simp [P_X1_prepare]) | exact hO.pL (by simp [P_X1_prepare]))
  obtain ⟨M2, hO, hF⟩ := lt1W (P := fun q => Out P_X1_prepare M q) hF (by first | exact hO.pI (by simp [P_X1_prepare]) | exact hO.pL (by simp [P_X1_prepare]))
  exact hO.trans (fw_X1_prepare_15 _ hF)
abbrev P_X1_makes : Nat → Nat → Prop := fun x j => (x = 74 ∧ j = 1) ∨ (x = 75)
set_option maxRecDepth 100000 in
set_option maxHeartbeats 4000000 in
theorem fw_X1_makes_23 {fu : Nat} {r : Int32} {M' : Mm} {x2 : Int32} {t0 : Int32} {t1 : Int32} {M : Mm} (hF : F_X1_makes_23 fu M x2 t0 t1 = some (r, M')) : Out P_X1_makes M M' := by
  have hO : Out P_X1_makes M M := Out.rf
  unfold F_X1_makes_23 at hF
  rcases ifX hF with ⟨b1, hF⟩ | ⟨b1, hF⟩
  · have hq := b1
    cases hF; exact hO
  · have hq := b1
    rcases ifX hF with ⟨b2, hF⟩ | ⟨b2, hF⟩
    · have hq := b2
      obtain ⟨M4, h3, hF⟩ := ob1S hF
      have hO := hO.mono (fr_X1_place h3) (fun x j hx => hx.elim (fun h => Or.inl h) (fun hx => Or.inr (hx)))
      cases hF; exact hO
    · have hq := b2
      cases hF; exact hO
set_option maxRecDepth 100000 in
set_option maxHeartbeats 4000000 in
theorem fr_X1_makes {fu : Nat} {M : Mm} {x1 : Int32} {r : Int32} {M' : Mm} (hF : F_X1_makes fu M x1 = some (r, M')) : Out P_X1_makes M M' := by
  have hO : Out P_X1_makes M M := Out.rf
  unfold F_X1_makes at hF
  obtain ⟨r2, h1, hF⟩ := ob1S hF
  rcases (ifX hF).symm with ⟨b3, hF⟩ | ⟨b3, hF⟩
  · have hq := b3
    exact hO.trans (fw_X1_makes_23 hF)
  · have hq := b3
    exact hO.trans (fw_X1_makes_23 hF)
abbrev P_X1_endsCarried : Nat → Nat → Prop := fun x j => (x = 74 ∧ j = 1) ∨ (x = 75)
set_option maxRecDepth 100000 in
set_option maxHeartbeats 4000000 in
theorem fw_X1_endsCarried_9 {fu : Nat} {rc : Mm → Int32 → Option (Int32 × Mm)} (hrc : ∀ {M : Mm} {x1 r : Int32} {M' : Mm}, rc M x1 = some (r, M') → Out P_X1_endsCarried M M') {r : Int32} {M' : Mm} {M : Mm} (hF : F_X1_endsCarried_9 fu rc M = some (r, M')) : Out P_X1_endsCarried M M' := by
  have hO : Out P_X1_endsCarried M M := Out.rf
  unfold F_X1_endsCarried_9 at hF
  rcases (ifX hF).symm with ⟨b1, hF⟩ | ⟨b1, hF⟩
  · have hq := b1
    cases hF; exact hO
  · have hq := b1
    cases hF; exact hO
set_option maxRecDepth 100000 in
set_option maxHeartbeats 4000000 in
theorem fw_X1_endsCarried_45 {fu : Nat} {rc : Mm → Int32 → Option (Int32 × Mm)} (hrc : ∀ {M : Mm} {x1 r : Int32} {M' : Mm}, rc M x1 = some (r, M') → Out P_X1_endsCarried M M') {r : Int32} {M' : Mm} : ∀ (n : Nat) {x1 : Int32} {x2 : Int32} {x3 : Int32} {M : Mm}, F_X1_endsCarried_45 fu rc n M x1 x2 x3 = some (r, M') → Out P_X1_endsCarried M M' := by
  intro n
  induction n with
  | zero =>
    intro x1 x2 x3 M hF
    cases hF
  | succ n ih =>
    intro x1 x2 x3 M hF
    have hO : Out P_X1_endsCarried M M := Out.rf
    unfold F_X1_endsCarried_45 at hF
    rcases ifX hF with ⟨b1, hF⟩ | ⟨b1, hF⟩
    · have hq := b1
      rcases (ifX hF).symm with ⟨b2, hF⟩ | ⟨b2, hF⟩
      · have hq := b2
        cases hF; exact hO
      · have hq := b2
        cases hF; exact hO
    · have hq := b1
      obtain ⟨r4, M5, h3, hF⟩ := ob2S hF
      have hO := hO.mono (fr_X1_makes h3) (fun x j hx => hx.elim (fun h => Or.inl h) (fun hx => Or.inr (hx)))
      rcases ifX hF with ⟨b6, hF⟩ | ⟨b6, hF⟩
      · have hq := b6
        exact hO.trans (ih hF)
      · have hq := b6
        obtain ⟨r8, M9, h7, hF⟩ := ob2S hF
        have hO := hO.trans (hrc h7)
        obtain ⟨r11, M12, h10, hF⟩ := ob2S hF
        have hO := hO.mono (fr_X1_makes h10) (fun x j hx => hx.elim (fun h => Or.inl h) (fun hx => Or.inr (hx)))
        rcases (ifX hF).symm with ⟨b13, hF⟩ | ⟨b13, hF⟩
        · have hq := b13
          exact hO.trans (ih hF)
        · have hq := b13
          obtain ⟨z14, hF⟩ := ifO hF
          cases hF; exact hO
set_option maxRecDepth 100000 in
set_option maxHeartbeats 4000000 in
theorem fr_X1_endsCarried_b {fu : Nat} {rc : Mm → Int32 → Option (Int32 × Mm)} (hrc : ∀ {M : Mm} {x1 r : Int32} {M' : Mm}, rc M x1 = some (r, M') → Out P_X1_endsCarried M M') {M : Mm} {x1 : Int32} {r : Int32} {M' : Mm} (hF : F_X1_endsCarried_b fu rc M x1 = some (r, M')) : Out P_X1_endsCarried M M' := by
  have hO : Out P_X1_endsCarried M M := Out.rf
  unfold F_X1_endsCarried_b at hF
  rcases ifX hF with ⟨b1, hF⟩ | ⟨b1, hF⟩
  · have hq := b1
    exact hO.trans (fw_X1_endsCarried_9 hrc hF)
  · have hq := b1
    rcases ifX hF with ⟨b2, hF⟩ | ⟨b2, hF⟩
    · have hq := b2
      rcases (ifX hF).symm with ⟨b3, hF⟩ | ⟨b3, hF⟩
      · have hq := b3
        exact hO.trans (fw_X1_endsCarried_45 hrc _ hF)
      · have hq := b3
        exact hO.trans (fw_X1_endsCarried_45 hrc _ hF)
    · have hq := b2
      exact hO.trans (fw_X1_endsCarried_9 hrc hF)
set_option maxRecDepth 100000 in
set_option maxHeartbeats 4000000 in
theorem fr_X1_endsCarried_d {fu : Nat} : ∀ (d : Nat) {M : Mm} {x1 : Int32} {r : Int32} {M' : Mm}, F_X1_endsCarried_d fu d M x1 = some (r, M') → Out P_X1_endsCarried M M' := by
  intro d
  induction d with
  | zero =>
    intro M x1 r M' hF
    cases hF
  | succ d ih =>
    intro M x1 r M' hF
    exact fr_X1_endsCarried_b (fun h => ih h) hF
set_option maxRecDepth 100000 in
set_option maxHeartbeats 4000000 in
theorem fr_X1_endsCarried {fu : Nat} {M : Mm} {x1 : Int32} {r : Int32} {M' : Mm} (hF : F_X1_endsCarried fu M x1 = some (r, M')) : Out P_X1_endsCarried M M' := fr_X1_endsCarried_d 6 hF
abbrev P_X1_winningMove : Nat → Nat → Prop := fun x j => (x = 74 ∧ j = 1) ∨ (x = 75)
set_option maxRecDepth 100000 in
set_option maxHeartbeats 4000000 in
theorem fw_X1_winningMove_2 {fu : Nat} {r : Int32} {M' : Mm} : ∀ (n : Nat) {x1 : Int32} {x2 : Int32} {M : Mm}, F_X1_winningMove_2 fu n M x1 x2 = some (r, M') → Out P_X1_winningMove M M' := by
  intro n
  induction n with
  | zero =>
    intro x1 x2 M hF
    cases hF
  | succ n ih =>
    intro x1 x2 M hF
    have hO : Out P_X1_winningMove M M := Out.rf
    unfold F_X1_winningMove_2 at hF
    rcases ifX hF with ⟨b1, hF⟩ | ⟨b1, hF⟩
    · have hq := b1
      cases hF; exact hO
    · have hq := b1
      obtain ⟨r3, M4, h2, hF⟩ := ob2S hF
      have hO := hO.mono (fr_X1_makes h2) (fun x j hx => hx.elim (fun h => Or.inl h) (fun hx => Or.inr (hx)))
      rcases ifX hF with ⟨b5, hF⟩ | ⟨b5, hF⟩
      · have hq := b5
        exact hO.trans (ih hF)
      · have hq := b5
        obtain ⟨r7, M8, h6, hF⟩ := ob2S hF
        have hO := hO.mono (fr_X1_endsCarried h6) (fun x j hx => hx.elim (fun h => Or.inl h) (fun hx => Or.inr (hx)))
        obtain ⟨r10, M11, h9, hF⟩ := ob2S hF
        have hO := hO.mono (fr_X1_makes h9) (fun x j hx => hx.elim (fun h => Or.inl h) (fun hx => Or.inr (hx)))
        rcases ifX hF with ⟨b12, hF⟩ | ⟨b12, hF⟩
        · have hq := b12
          exact hO.trans (ih hF)
        · have hq := b12
          cases hF; exact hO
set_option maxRecDepth 100000 in
set_option maxHeartbeats 4000000 in
theorem fr_X1_winningMove {fu : Nat} {M : Mm} {x1 : Int32} {r : Int32} {M' : Mm} (hF : F_X1_winningMove fu M x1 = some (r, M')) : Out P_X1_winningMove M M' := by
  have hO : Out P_X1_winningMove M M := Out.rf
  unfold F_X1_winningMove at hF
  exact hO.trans (fw_X1_winningMove_2 _ hF)
abbrev P_X6_writeAll (c0 : Nat) : Nat → Nat → Prop := fun x j => (x = c0)
set_option maxRecDepth 100000 in
set_option maxHeartbeats 4000000 in
theorem fw_X6_writeAll_2 {fu : Nat} {c0 : Nat} {M' : Mm} : ∀ (n : Nat) {c1 : Nat} {x2 : Int32} {M : Mm}, F_X6_writeAll_2 fu n M c0 c1 x2 = some M' → Out (P_X6_writeAll c0) M M' := by
  intro n
  induction n with
  | zero =>
    intro c1 x2 M hF
    cases hF
  | succ n ih =>
    intro c1 x2 M hF
    have hO : Out (P_X6_writeAll c0) M M := Out.rf
    unfold F_X6_writeAll_2 at hF
    rcases ifX hF with ⟨b1, hF⟩ | ⟨b1, hF⟩
    · have hq := b1
      cases hF; exact hO
    · have hq := b1
      rcases ifX hF with ⟨b2, hF⟩ | ⟨b2, hF⟩
      · have hq := b2
        cases hF; exact hO
      · have hq := b2
        obtain ⟨n3, hF⟩ := ifO hF
        obtain ⟨n4, hF⟩ := ifO hF
        obtain ⟨M5, hO, hF⟩ := lt1W (P := fun q => Out (P_X6_writeAll c0) M q) hF (by first | exact hO.pI (by simp [P_X6_writeAll]) | exact hO.pL (by simp [P_X6_writeAll]))
        exact hO.trans (ih hF)
set_option maxRecDepth 100000 in
set_option maxHeartbeats 4000000 in
theorem fr_X6_writeAll {fu : Nat} {M : Mm} {c0 : Nat} {c1 : Nat} {M' : Mm} (hF : F_X6_writeAll fu M c0 c1 = some M') : Out (P_X6_writeAll c0) M M' := by
  have hO : Out (P_X6_writeAll c0) M M := Out.rf
  unfold F_X6_writeAll at hF
  exact hO.trans (fw_X6_writeAll_2 _ hF)
abbrev P_X2_restart (c0 : Nat) : Nat → Nat → Prop := fun x j => (x = c0 ∧ j = 2) ∨ (x = c0 + 4) ∨ (x = c0 + 5)
set_option maxRecDepth 100000 in
set_option maxHeartbeats 4000000 in
theorem fr_X2_restart {fu : Nat} {M : Mm} {c0 : Nat} {M' : Mm} (hF : F_X2_restart fu M c0 = some M') : Out (P_X2_restart c0) M M' := by
  have hO : Out (P_X2_restart c0) M M := Out.rf
  unfold F_X2_restart at hF
  obtain ⟨M1, hO, hF⟩ := lt1W (P := fun q => Out (P_X2_restart c0) M q) hF (by first | exact hO.pI (by simp [P_X2_restart]) | exact hO.pL (by simp [P_X2_restart]))
  obtain ⟨M3, h2, hF⟩ := ob1S hF
  have hO := hO.mono (fr_X6_writeAll h2) (fun x j hx => Or.inr (Or.inl hx))
  obtain ⟨M5, h4, hF⟩ := ob1S hF
  have hO := hO.mono (fr_X6_writeAll h4) (fun x j hx => Or.inr (Or.inr (hx)))
  cases hF; exact hO
abbrev P_X2_settle (c0 : Nat) : Nat → Nat → Prop := fun x j => (x = c0 ∧ j = 0) ∨ (x = c0 ∧ j = 1) ∨ (x = c0 ∧ j = 2) ∨ (x = c0 ∧ j = 3) ∨ (x = c0 + 1) ∨ (x = c0 + 2) ∨ (x = c0 + 3) ∨ (x = c0 + 4) ∨ (x = c0 + 5) ∨ (x = c0 + 6) ∨ (x = c0 + 7)
set_option maxRecDepth 100000 in
set_option maxHeartbeats 4000000 in
theorem fr_X2_settle {fu : Nat} {M : Mm} {c0 : Nat} {M' : Mm} (hF : F_X2_settle fu M c0 = some M') : Out (P_X2_settle c0) M M' := by
  have hO : Out (P_X2_settle c0) M M := Out.rf
  unfold F_X2_settle at hF
  obtain ⟨M1, hO, hF⟩ := lt1W (P := fun q => Out (P_X2_settle c0) M q) hF (by first | exact hO.pI (by simp [P_X2_settle]) | exact hO.pL (by simp [P_X2_settle]))
  obtain ⟨M2, hO, hF⟩ := lt1W (P := fun q => Out (P_X2_settle c0) M q) hF (by first | exact hO.pI (by simp [P_X2_settle]) | exact hO.pL (by simp [P_X2_settle]))
  obtain ⟨M4, h3, hF⟩ := ob1S hF
  have hO := hO.mono (fr_X6_writeAll h3) (fun x j hx => Or.inr (Or.inr (Or.inr (Or.inr (Or.inl hx)))))
  obtain ⟨M6, h5, hF⟩ := ob1S hF
  have hO := hO.mono (fr_X6_writeAll h5) (fun x j hx => Or.inr (Or.inr (Or.inr (Or.inr (Or.inr (Or.inl hx))))))
  obtain ⟨M8, h7, hF⟩ := ob1S hF
  have hO := hO.mono (fr_X6_writeAll h7) (fun x j hx => Or.inr (Or.inr (Or.inr (Or.inr (Or.inr (Or.inr (Or.inl hx)))))))
  obtain ⟨M10, h9, hF⟩ := ob1S hF
  have hO := hO.mono (fr_X6_writeAll h9) (fun x j hx => Or.inr (Or.inr (Or.inr (Or.inr (Or.inr (Or.inr (Or.inr (Or.inr (Or.inr (Or.inl hx))))))))))
  obtain ⟨M12, h11, hF⟩ := ob1S hF
  have hO := hO.mono (fr_X6_writeAll h11) (fun x j hx => Or.inr (Or.inr (Or.inr (Or.inr (Or.inr (Or.inr (Or.inr (Or.inr (Or.inr (Or.inr (hx)))))))))))
  obtain ⟨M13, hO, hF⟩ := lt1W (P := fun q => Out (P_X2_settle c0) M q) hF (by first | exact hO.pI (by simp [P_X2_settle]) | exact hO.pL (by simp [P_X2_settle]))
  obtain ⟨M15, h14, hF⟩ := ob1S hF
  have hO := hO.mono (fr_X2_restart h14) (fun x j hx => hx.elim (fun h => Or.inr (Or.inr (Or.inl h))) (fun hx => hx.elim (fun h => Or.inr (Or.inr (Or.inr (Or.inr (Or.inr (Or.inr (Or.inr (Or.inl h)))))))) (fun hx => Or.inr (Or.inr (Or.inr (Or.inr (Or.inr (Or.inr (Or.inr (Or.inr (Or.inl hx)))))))))))
  cases hF; exact hO
abbrev P_X2_become (c0 : Nat) : Nat → Nat → Prop := fun x j => (x = c0 ∧ j = 0) ∨ (x = c0 ∧ j = 1) ∨ (x = c0 ∧ j = 2) ∨ (x = c0 ∧ j = 3) ∨ (x = c0 + 1) ∨ (x = c0 + 10) ∨ (x = c0 + 2) ∨ (x = c0 + 3) ∨ (x = c0 + 4) ∨ (x = c0 + 5) ∨ (x = c0 + 6) ∨ (x = c0 + 7) ∨ (x = c0 + 8) ∨ (x = c0 + 9)
set_option maxRecDepth 100000 in
set_option maxHeartbeats 4000000 in
theorem fr_X2_become {fu : Nat} {M : Mm} {c0 : Nat} {c1 : Nat} {M' : Mm} (hF : F_X2_become fu M c0 c1 = some M') : Out (P_X2_become c0) M M' := by
  have hO : Out (P_X2_become c0) M M := Out.rf
  unfold F_X2_become at hF
  obtain ⟨M1, hO, hF⟩ := lt1W (P := fun q => Out (P_X2_become c0) M q) hF (by first | exact hO.pI (by simp [P_X2_become]) | exact hO.pL (by simp [P_X2_become]))
  obtain ⟨M2, hO, hF⟩ := lt1W (P := fun q => Out (P_X2_become c0) M q) hF (by first | exact hO.pI (by simp [P_X2_become]) | exact hO.pL (by simp [P_X2_become]))
  obtain ⟨M3, hO, hF⟩ := lt1W (P := fun q => Out (P_X2_become c0) M q) hF (by first | exact hO.pI (by simp [P_X2_become]) | exact hO.pL (by simp [P_X2_become]))
  obtain ⟨M4, hO, hF⟩ := lt1W (P := fun q => Out (P_X2_become c0) M q) hF (by first | exact hO.pI (by simp [P_X2_become]) | exact hO.pL (by simp [P_X2_become]))
  obtain ⟨M6, h5, hF⟩ := ob1S hF
  have hO := hO.mono (fr_X6_writeAll h5) (fun x j hx => Or.inr (Or.inr (Or.inr (Or.inr (Or.inl hx)))))
  obtain ⟨M8, h7, hF⟩ := ob1S hF
  have hO := hO.mono (fr_X6_writeAll h7) (fun x j hx => Or.inr (Or.inr (Or.inr (Or.inr (Or.inr (Or.inr (Or.inl hx)))))))
  obtain ⟨M10, h9, hF⟩ := ob1S hF
  have hO := hO.mono (fr_X6_writeAll h9) (fun x j hx => Or.inr (Or.inr (Or.inr (Or.inr (Or.inr (Or.inr (Or.inr (Or.inl hx))))))))
  obtain ⟨M12, h11, hF⟩ := ob1S hF
  have hO := hO.mono (fr_X6_writeAll h11) (fun x j hx => Or.inr (Or.inr (Or.inr (Or.inr (Or.inr (Or.inr (Or.inr (Or.inr (Or.inl hx)))))))))
  obtain ⟨M14, h13, hF⟩ := ob1S hF
  have hO := hO.mono (fr_X6_writeAll h13) (fun x j hx => Or.inr (Or.inr (Or.inr (Or.inr (Or.inr (Or.inr (Or.inr (Or.inr (Or.inr (Or.inl hx))))))))))
  obtain ⟨M16, h15, hF⟩ := ob1S hF
  have hO := hO.mono (fr_X6_writeAll h15) (fun x j hx => Or.inr (Or.inr (Or.inr (Or.inr (Or.inr (Or.inr (Or.inr (Or.inr (Or.inr (Or.inr (Or.inl hx)))))))))))
  obtain ⟨M18, h17, hF⟩ := ob1S hF
  have hO := hO.mono (fr_X6_writeAll h17) (fun x j hx => Or.inr (Or.inr (Or.inr (Or.inr (Or.inr (Or.inr (Or.inr (Or.inr (Or.inr (Or.inr (Or.inr (Or.inl hx))))))))))))
  obtain ⟨M20, h19, hF⟩ := ob1S hF
  have hO := hO.mono (fr_X6_writeAll h19) (fun x j hx => Or.inr (Or.inr (Or.inr (Or.inr (Or.inr (Or.inr (Or.inr (Or.inr (Or.inr (Or.inr (Or.inr (Or.inr (Or.inl hx)))))))))))))
  obtain ⟨M22, h21, hF⟩ := ob1S hF
  have hO := hO.mono (fr_X6_writeAll h21) (fun x j hx => Or.inr (Or.inr (Or.inr (Or.inr (Or.inr (Or.inr (Or.inr (Or.inr (Or.inr (Or.inr (Or.inr (Or.inr (Or.inr (hx))))))))))))))
  obtain ⟨M24, h23, hF⟩ := ob1S hF
  have hO := hO.mono (fr_X6_writeAll h23) (fun x j hx => Or.inr (Or.inr (Or.inr (Or.inr (Or.inr (Or.inl hx))))))
  cases hF; exact hO
abbrev P_X2_meltAll (c0 : Nat) : Nat → Nat → Prop := fun x j => (x = c0 + 4)
set_option maxRecDepth 100000 in
set_option maxHeartbeats 4000000 in
theorem fw_X2_meltAll_2 {fu : Nat} {c0 : Nat} {M' : Mm} : ∀ (n : Nat) {x1 : Int32} {M : Mm}, F_X2_meltAll_2 fu n M c0 x1 = some M' → Out (P_X2_meltAll c0) M M' := by
  intro n
  induction n with
  | zero =>
    intro x1 M hF
    cases hF
  | succ n ih =>
    intro x1 M hF
    have hO : Out (P_X2_meltAll c0) M M := Out.rf
    unfold F_X2_meltAll_2 at hF
    rcases ifX hF with ⟨b1, hF⟩ | ⟨b1, hF⟩
    · have hq := b1
      cases hF; exact hO
    · have hq := b1
      obtain ⟨r3, h2, hF⟩ := ob1S hF
      obtain ⟨r5, h4, hF⟩ := ob1S hF
      obtain ⟨M7, h6, hF⟩ := ob1S hF
      have hO := hO.mono (fr_X6_write h6) (fun x j hx => hx)
      exact hO.trans (ih hF)
set_option maxRecDepth 100000 in
set_option maxHeartbeats 4000000 in
theorem fr_X2_meltAll {fu : Nat} {M : Mm} {c0 : Nat} {M' : Mm} (hF : F_X2_meltAll fu M c0 = some M') : Out (P_X2_meltAll c0) M M' := by
  have hO : Out (P_X2_meltAll c0) M M := Out.rf
  unfold F_X2_meltAll at hF
  exact hO.trans (fw_X2_meltAll_2 _ hF)
abbrev P_X2_perform (c0 : Nat) : Nat → Nat → Prop := fun x j => (x = c0 ∧ j = 2) ∨ (x = c0 + 4) ∨ (x = c0 + 5)
set_option maxRecDepth 100000 in
set_option maxHeartbeats 4000000 in
theorem fr_X2_perform {fu : Nat} {M : Mm} {c0 : Nat} {x1 : Int32} {x2 : Int32} {x3 : Int32} {M' : Mm} (hF : F_X2_perform fu M c0 x1 x2 x3 = some M') : Out (P_X2_perform c0) M M' := by
  have hO : Out (P_X2_perform c0) M M := Out.rf
  unfold F_X2_perform at hF
  rcases Classical.em (x1 = (0 : Int32)) with w1 | w1
  · have hF := ifP hF w1
    obtain ⟨M3, h2, hF⟩ := ob1S hF
    have hO := hO.mono (fr_X2_meltAll h2) (fun x j hx => Or.inr (Or.inl hx))
    obtain ⟨M4, hO, hF⟩ := lt1W (P := fun q => Out (P_X2_perform c0) M q) hF (by first | exact hO.pI (by simp [P_X2_perform]) | exact hO.pL (by simp [P_X2_perform]))
    cases hF; exact hO
  have hF := ifN hF w1
  rcases Classical.em (x1 = (2 : Int32)) with w5 | w5
  · have hF := ifP hF w5
    obtain ⟨M7, h6, hF⟩ := ob1S hF
    have hO := hO.mono (fr_X6_write h6) (fun x j hx => Or.inr (Or.inr (hx)))
    cases hF; exact hO
  have hF := ifN hF w5
  rcases Classical.em (x1 = (3 : Int32)) with w8 | w8
  · have hF := ifP hF w8
    obtain ⟨r10, h9, hF⟩ := ob1S hF
    obtain ⟨M12, h11, hF⟩ := ob1S hF
    have hO := hO.mono (fr_X6_write h11) (fun x j hx => Or.inr (Or.inl hx))
    cases hF; exact hO
  have hF := ifN hF w8
  obtain ⟨M13, hO, hF⟩ := lt1W (P := fun q => Out (P_X2_perform c0) M q) hF (by first | exact hO.pI (by simp [P_X2_perform]) | exact hO.pL (by simp [P_X2_perform]))
  cases hF; exact hO
abbrev P_X2_act (c0 : Nat) : Nat → Nat → Prop := fun x j => (x = c0 ∧ j = 2) ∨ (x = c0 ∧ j = 3) ∨ (x = c0 + 10) ∨ (x = c0 + 4) ∨ (x = c0 + 5) ∨ (x = c0 + 8) ∨ (x = c0 + 9)
set_option maxRecDepth 100000 in
set_option maxHeartbeats 4000000 in
theorem fr_X2_act {fu : Nat} {M : Mm} {c0 : Nat} {x1 : Int32} {x2 : Int32} {x3 : Int32} {M' : Mm} (hF : F_X2_act fu M c0 x1 x2 x3 = some M') : Out (P_X2_act c0) M M' := by
  have hO : Out (P_X2_act c0) M M := Out.rf
  unfold F_X2_act at hF
  obtain ⟨M2, h1, hF⟩ := ob1S hF
  have hO := hO.mono (fr_X6_write h1) (fun x j hx => Or.inr (Or.inr (Or.inr (Or.inr (Or.inr (Or.inl hx))))))
  obtain ⟨M4, h3, hF⟩ := ob1S hF
  have hO := hO.mono (fr_X6_write h3) (fun x j hx => Or.inr (Or.inr (Or.inr (Or.inr (Or.inr (Or.inr (hx)))))))
  obtain ⟨M6, h5, hF⟩ := ob1S hF
  have hO := hO.mono (fr_X6_write h5) (fun x j hx => Or.inr (Or.inr (Or.inl hx)))
  obtain ⟨M7, hO, hF⟩ := lt1W (P := fun q => Out (P_X2_act c0) M q) hF (by first | exact hO.pI (by simp [P_X2_act]) | exact hO.pL (by simp [P_X2_act]))
  obtain ⟨M9, h8, hF⟩ := ob1S hF
  have hO := hO.mono (fr_X2_perform h8) (fun x j hx => hx.elim (fun h => Or.inl h) (fun hx => hx.elim (fun h => Or.inr (Or.inr (Or.inr (Or.inl h)))) (fun hx => Or.inr (Or.inr (Or.inr (Or.inr (Or.inl hx)))))))
  cases hF; exact hO
abbrev P_X2_undoFrom (c0 : Nat) : Nat → Nat → Prop := fun x j => (x = c0 ∧ j = 2) ∨ (x = c0 ∧ j = 3) ∨ (x = c0 + 4) ∨ (x = c0 + 5)
set_option maxRecDepth 100000 in
set_option maxHeartbeats 4000000 in
theorem fw_X2_undoFrom_11 {fu : Nat} {c0 : Nat} {M' : Mm} : ∀ (n : Nat) {x1 : Int32} {x2 : Int32} {M : Mm}, F_X2_undoFrom_11 fu n M c0 x1 x2 = some M' → Out (P_X2_undoFrom c0) M M' := by
  intro n
  induction n with
  | zero =>
    intro x1 x2 M hF
    cases hF
  | succ n ih =>
    intro x1 x2 M hF
    have hO : Out (P_X2_undoFrom c0) M M := Out.rf
    unfold F_X2_undoFrom_11 at hF
    rcases ifX hF with ⟨b1, hF⟩ | ⟨b1, hF⟩
    · have hq := b1
      cases hF; exact hO
    · have hq := b1
      obtain ⟨r3, h2, hF⟩ := ob1S hF
      obtain ⟨r5, h4, hF⟩ := ob1S hF
      obtain ⟨r7, h6, hF⟩ := ob1S hF
      obtain ⟨M9, h8, hF⟩ := ob1S hF
      have hO := hO.mono (fr_X2_perform h8) (fun x j hx => hx.elim (fun h => Or.inl h) (fun hx => hx.elim (fun h => Or.inr (Or.inr (Or.inl h))) (fun hx => Or.inr (Or.inr (Or.inr (hx))))))
      exact hO.trans (ih hF)
set_option maxRecDepth 100000 in
set_option maxHeartbeats 4000000 in
theorem fr_X2_undoFrom {fu : Nat} {M : Mm} {c0 : Nat} {x1 : Int32} {M' : Mm} (hF : F_X2_undoFrom fu M c0 x1 = some M') : Out (P_X2_undoFrom c0) M M' := by
  have hO : Out (P_X2_undoFrom c0) M M := Out.rf
  unfold F_X2_undoFrom at hF
  obtain ⟨M1, hO, hF⟩ := lt1W (P := fun q => Out (P_X2_undoFrom c0) M q) hF (by first | exact hO.pI (by simp [P_X2_undoFrom]) | exact hO.pL (by simp [P_X2_undoFrom]))
  obtain ⟨M3, h2, hF⟩ := ob1S hF
  have hO := hO.mono (fr_X2_restart h2) (fun x j hx => hx.elim (fun h => Or.inl h) (fun hx => hx.elim (fun h => Or.inr (Or.inr (Or.inl h))) (fun hx => Or.inr (Or.inr (Or.inr (hx))))))
  exact hO.trans (fw_X2_undoFrom_11 _ hF)
abbrev P_X2_foreseeMelted (c3 : Nat) : Nat → Nat → Prop := fun x j => (x = c3)
set_option maxRecDepth 100000 in
set_option maxHeartbeats 4000000 in
theorem fw_X2_foreseeMelted_6 {fu : Nat} {c3 : Nat} {M' : Mm} : ∀ (n : Nat) {c0 : Nat} {x1 : Int32} {x2 : Int32} {x4 : Int32} {x5 : Int32} {M : Mm}, F_X2_foreseeMelted_6 fu n M c0 x1 x2 c3 x4 x5 = some M' → Out (P_X2_foreseeMelted c3) M M' := by
  intro n
  induction n with
  | zero =>
    intro c0 x1 x2 x4 x5 M hF
    cases hF
  | succ n ih =>
    intro c0 x1 x2 x4 x5 M hF
    have hO : Out (P_X2_foreseeMelted c3) M M := Out.rf
    unfold F_X2_foreseeMelted_6 at hF
    rcases ifX hF with ⟨b1, hF⟩ | ⟨b1, hF⟩
    · have hq := b1
      cases hF; exact hO
    · have hq := b1
      obtain ⟨M3, h2, hF⟩ := ob1S hF
      have hO := hO.mono (fr_X6_write h2) (fun x j hx => hx)
      obtain ⟨r5, h4, hF⟩ := ob1S hF
      exact hO.trans (ih hF)
set_option maxRecDepth 100000 in
set_option maxHeartbeats 4000000 in
theorem fr_X2_foreseeMelted {fu : Nat} {M : Mm} {c0 : Nat} {x1 : Int32} {x2 : Int32} {c3 : Nat} {M' : Mm} (hF : F_X2_foreseeMelted fu M c0 x1 x2 c3 = some M') : Out (P_X2_foreseeMelted c3) M M' := by
  have hO : Out (P_X2_foreseeMelted c3) M M := Out.rf
  unfold F_X2_foreseeMelted at hF
  exact hO.trans (fw_X2_foreseeMelted_6 _ hF)
abbrev P_X2_foreseeVoters (c2 : Nat) : Nat → Nat → Prop := fun x j => (x = c2)
set_option maxRecDepth 100000 in
set_option maxHeartbeats 4000000 in
theorem fw_X2_foreseeVoters_77 {fu : Nat} {c2 : Nat} {M' : Mm} {k22 : Mm → Nat → Int32 → Nat → Int32 → Option Mm} (hk_22 : ∀ {c0 : Nat} {x1 : Int32} {x3 : Int32} {M : Mm}, k22 M c0 x1 c2 x3 = some M' → Out (P_X2_foreseeVoters c2) M M') {k43 : Mm → Nat → Int32 → Nat → Int32 → Int32 → Int32 → Option Mm} (hk_43 : ∀ {c0 : Nat} {x1 : Int32} {x3 : Int32} {x4 : Int32} {x5 : Int32} {M : Mm}, k43 M c0 x1 c2 x3 x4 x5 = some M' → Out (P_X2_foreseeVoters c2) M M') {c0 : Nat} {x1 : Int32} {x3 : Int32} {x4 : Int32} {x5 : Int32} {M : Mm} (hF : F_X2_foreseeVoters_77 fu k22 k43 M c0 x1 c2 x3 x4 x5 = some M') : Out (P_X2_foreseeVoters c2) M M' := by
  have hO : Out (P_X2_foreseeVoters c2) M M := Out.rf
  unfold F_X2_foreseeVoters_77 at hF
  obtain ⟨r2, h1, hF⟩ := ob1S hF
  exact hO.trans (hk_43 hF)
set_option maxRecDepth 100000 in
set_option maxHeartbeats 4000000 in
theorem fw_X2_foreseeVoters_43 {fu : Nat} {c2 : Nat} {M' : Mm} {k22 : Mm → Nat → Int32 → Nat → Int32 → Option Mm} (hk_22 : ∀ {c0 : Nat} {x1 : Int32} {x3 : Int32} {M : Mm}, k22 M c0 x1 c2 x3 = some M' → Out (P_X2_foreseeVoters c2) M M') : ∀ (n : Nat) {c0 : Nat} {x1 : Int32} {x3 : Int32} {x4 : Int32} {x5 : Int32} {M : Mm}, F_X2_foreseeVoters_43 fu k22 n M c0 x1 c2 x3 x4 x5 = some M' → Out (P_X2_foreseeVoters c2) M M' := by
  intro n
  induction n with
  | zero =>
    intro c0 x1 x3 x4 x5 M hF
    cases hF
  | succ n ih =>
    intro c0 x1 x3 x4 x5 M hF
    have hO : Out (P_X2_foreseeVoters c2) M M := Out.rf
    unfold F_X2_foreseeVoters_43 at hF
    rcases ifX hF with ⟨b1, hF⟩ | ⟨b1, hF⟩
    · have hq := b1
      exact hO.trans (hk_22 hF)
    · have hq := b1
      obtain ⟨r3, h2, hF⟩ := ob1S hF
      rcases ifX hF with ⟨b4, hF⟩ | ⟨b4, hF⟩
      · have hq := b4
        exact hO.trans (fw_X2_foreseeVoters_77 (hk_22 := hk_22) (hk_43 := ih) hF)
      · have hq := b4
        obtain ⟨r6, h5, hF⟩ := ob1S hF
        obtain ⟨M8, h7, hF⟩ := ob1S hF
        have hO := hO.mono (fr_X6_write h7) (fun x j hx => hx)
        exact hO.trans (fw_X2_foreseeVoters_77 (hk_22 := hk_22) (hk_43 := ih) hF)
set_option maxRecDepth 100000 in
set_option maxHeartbeats 4000000 in
theorem fw_X2_foreseeVoters_22 {fu : Nat} {c2 : Nat} {M' : Mm} : ∀ (n : Nat) {c0 : Nat} {x1 : Int32} {x3 : Int32} {M : Mm}, F_X2_foreseeVoters_22 fu n M c0 x1 c2 x3 = some M' → Out (P_X2_foreseeVoters c2) M M' := by
  intro n
  induction n with
  | zero =>
    intro c0 x1 x3 M hF
    cases hF
  | succ n ih =>
    intro c0 x1 x3 M hF
    have hO : Out (P_X2_foreseeVoters c2) M M := Out.rf
    unfold F_X2_foreseeVoters_22 at hF
    rcases ifX hF with ⟨b1, hF⟩ | ⟨b1, hF⟩
    · have hq := b1
      cases hF; exact hO
    · have hq := b1
      obtain ⟨r3, h2, hF⟩ := ob1S hF
      exact hO.trans (fw_X2_foreseeVoters_43 (hk_22 := ih) _ hF)
set_option maxRecDepth 100000 in
set_option maxHeartbeats 4000000 in
theorem fw_X2_foreseeVoters_2 {fu : Nat} {c2 : Nat} {M' : Mm} : ∀ (n : Nat) {c0 : Nat} {x1 : Int32} {x3 : Int32} {M : Mm}, F_X2_foreseeVoters_2 fu n M c0 x1 c2 x3 = some M' → Out (P_X2_foreseeVoters c2) M M' := by
  intro n
  induction n with
  | zero =>
    intro c0 x1 x3 M hF
    cases hF
  | succ n ih =>
    intro c0 x1 x3 M hF
    have hO : Out (P_X2_foreseeVoters c2) M M := Out.rf
    unfold F_X2_foreseeVoters_2 at hF
    rcases ifX hF with ⟨b1, hF⟩ | ⟨b1, hF⟩
    · have hq := b1
      exact hO.trans (fw_X2_foreseeVoters_22 _ hF)
    · have hq := b1
      obtain ⟨M3, h2, hF⟩ := ob1S hF
      have hO := hO.mono (fr_X6_write h2) (fun x j hx => hx)
      exact hO.trans (ih hF)
set_option maxRecDepth 100000 in
set_option maxHeartbeats 4000000 in
theorem fr_X2_foreseeVoters {fu : Nat} {M : Mm} {c0 : Nat} {x1 : Int32} {c2 : Nat} {M' : Mm} (hF : F_X2_foreseeVoters fu M c0 x1 c2 = some M') : Out (P_X2_foreseeVoters c2) M M' := by
  have hO : Out (P_X2_foreseeVoters c2) M M := Out.rf
  unfold F_X2_foreseeVoters at hF
  exact hO.trans (fw_X2_foreseeVoters_2 _ hF)
abbrev P_X2_foreseeLiving (c1 : Nat) : Nat → Nat → Prop := fun x j => (x = c1)
set_option maxRecDepth 100000 in
set_option maxHeartbeats 4000000 in
theorem fr_X2_foreseeLiving {fu : Nat} {M : Mm} {c0 : Nat} {c1 : Nat} {M' : Mm} (hF : F_X2_foreseeLiving fu M c0 c1 = some M') : Out (P_X2_foreseeLiving c1) M M' := by
  have hO : Out (P_X2_foreseeLiving c1) M M := Out.rf
  unfold F_X2_foreseeLiving at hF
  obtain ⟨M2, h1, hF⟩ := ob1S hF
  have hO := hO.mono (fr_X2_foreseeVoters h1) (fun x j hx => hx)
  cases hF; exact hO
abbrev P_X3_takesSun : Nat → Nat → Prop := fun x j => (x = 68 ∧ j = 0)
set_option maxRecDepth 100000 in
set_option maxHeartbeats 4000000 in
theorem fr_X3_takesSun {fu : Nat} {M : Mm} {x1 : Int32} {r : Int32} {M' : Mm} (hF : F_X3_takesSun fu M x1 = some (r, M')) : Out P_X3_takesSun M M' := by
  have hO : Out P_X3_takesSun M M := Out.rf
  unfold F_X3_takesSun at hF
  rcases ifX hF with ⟨b1, hF⟩ | ⟨b1, hF⟩
  · have hq := b1
    obtain ⟨M2, hO, hF⟩ := lt1W (P := fun q => Out P_X3_takesSun M q) hF (by first | exact hO.pI (by simp [P_X3_takesSun]) | exact hO.pL (by simp [P_X3_takesSun]))
    cases hF; exact hO
  · have hq := b1
    cases hF; exact hO
abbrev P_X3_takesLetter : Nat → Nat → Prop := fun x j => (x = 68 ∧ j = 0) ∨ (x = 70)
set_option maxRecDepth 100000 in
set_option maxHeartbeats 4000000 in
theorem fr_X3_takesLetter {fu : Nat} {M : Mm} {x1 : Int32} {r : Int32} {M' : Mm} (hF : F_X3_takesLetter fu M x1 = some (r, M')) : Out P_X3_takesLetter M M' := by
  have hO : Out P_X3_takesLetter M M := Out.rf
  unfold F_X3_takesLetter at hF
  obtain ⟨r2, h1, hF⟩ := ob1S hF
  rcases ifX hF with ⟨b3, hF⟩ | ⟨b3, hF⟩
  · have hq := b3
    cases hF; exact hO
  · have hq := b3
    rcases ifX hF with ⟨b4, hF⟩ | ⟨b4, hF⟩
    · have hq := b4
      obtain ⟨M6, h5, hF⟩ := ob1S hF
      have hO := hO.mono (fr_X6_write h5) (fun x j hx => Or.inr (hx))
      obtain ⟨M7, hO, hF⟩ := lt1W (P := fun q => Out P_X3_takesLetter M q) hF (by first | exact hO.pI (by simp [P_X3_takesLetter]) | exact hO.pL (by simp [P_X3_takesLetter]))
      cases hF; exact hO
    · have hq := b4
      cases hF; exact hO
abbrev P_X3_takesFigure : Nat → Nat → Prop := fun x j => (x = 68 ∧ j = 0) ∨ (x = 68 ∧ j = 1) ∨ (x = 68 ∧ j = 2) ∨ (x = 69) ∨ (x = 71) ∨ (x = 72) ∨ (x = 73)
set_option maxRecDepth 100000 in
set_option maxHeartbeats 4000000 in
theorem fw_X3_takesFigure_192 {fu : Nat} {r : Int32} {M' : Mm} {x2 : Int32} {M : Mm} (hF : F_X3_takesFigure_192 fu M x2 = some (r, M')) : Out P_X3_takesFigure M M' := by
  have hO : Out P_X3_takesFigure M M := Out.rf
  unfold F_X3_takesFigure_192 at hF
  rcases (ifX hF).symm with ⟨b1, hF⟩ | ⟨b1, hF⟩
  · have hq := b1
    obtain ⟨M2, hO, hF⟩ := lt1W (P := fun q => Out P_X3_takesFigure M q) hF (by first | exact hO.pI (by simp [P_X3_takesFigure]) | exact hO.pL (by simp [P_X3_takesFigure]))
    obtain ⟨z3, hF⟩ := ifO hF
    cases hF; exact hO
  · have hq := b1
    obtain ⟨M4, hO, hF⟩ := lt1W (P := fun q => Out P_X3_takesFigure M q) hF (by first | exact hO.pI (by simp [P_X3_takesFigure]) | exact hO.pL (by simp [P_X3_takesFigure]))
    obtain ⟨z5, hF⟩ := ifO hF
    cases hF; exact hO
set_option maxRecDepth 100000 in
set_option maxHeartbeats 4000000 in
theorem fw_X3_takesFigure_53 {fu : Nat} {r : Int32} {M' : Mm} {x1 : Int32} {t0 : Int32} {M : Mm} (hF : F_X3_takesFigure_53 fu M x1 t0 = some (r, M')) : Out P_X3_takesFigure M M' := by
  have hO : Out P_X3_takesFigure M M := Out.rf
  unfold F_X3_takesFigure_53 at hF
  obtain ⟨M1, hO, hF⟩ := lt1W (P := fun q => Out P_X3_takesFigure M q) hF (by first | exact hO.pI (by simp [P_X3_takesFigure]) | exact hO.pL (by simp [P_X3_takesFigure]))
  exact hO.trans (fw_X3_takesFigure_192 hF)
set_option maxRecDepth 100000 in
set_option maxHeartbeats 4000000 in
theorem fw_X3_takesFigure_123 {fu : Nat} {r : Int32} {M' : Mm} {t0 : Int32} {M : Mm} (hF : F_X3_takesFigure_123 fu M t0 = some (r, M')) : Out P_X3_takesFigure M M' := by
  have hO : Out P_X3_takesFigure M M := Out.rf
  unfold F_X3_takesFigure_123 at hF
  exact hO.trans (fw_X3_takesFigure_192 hF)
set_option maxRecDepth 100000 in
set_option maxHeartbeats 4000000 in
theorem fw_X3_takesFigure_152 {fu : Nat} {r : Int32} {M' : Mm} {x1 : Int32} {t0 : Int32} {M : Mm} (hF : F_X3_takesFigure_152 fu M x1 t0 = some (r, M')) : Out P_X3_takesFigure M M' := by
  have hO : Out P_X3_takesFigure M M := Out.rf
  unfold F_X3_takesFigure_152 at hF
  obtain ⟨M2, h1, hF⟩ := ob1S hF
  have hO := hO.mono (fr_X6_write h1) (fun x j hx => Or.inr (Or.inr (Or.inr (Or.inr (Or.inr (Or.inr (hx)))))))
  obtain ⟨M3, hO, hF⟩ := lt1W (P := fun q => Out P_X3_takesFigure M q) hF (by first | exact hO.pI (by simp [P_X3_takesFigure]) | exact hO.pL (by simp [P_X3_takesFigure]))
  exact hO.trans (fw_X3_takesFigure_192 hF)
set_option maxRecDepth 100000 in
set_option maxHeartbeats 4000000 in
theorem fr_X3_takesFigure {fu : Nat} {M : Mm} {x1 : Int32} {r : Int32} {M' : Mm} (hF : F_X3_takesFigure fu M x1 = some (r, M')) : Out P_X3_takesFigure M M' := by
  have hO : Out P_X3_takesFigure M M := Out.rf
  unfold F_X3_takesFigure at hF
  rcases Classical.em ((M.1 68 0) = (9 : Int32)) with w1 | w1
  · have hF := ifP hF w1
    rcases ifX hF with ⟨b2, hF⟩ | ⟨b2, hF⟩
    · have hq := b2
      exact hO.trans (fw_X3_takesFigure_53 hF)
    · have hq := b2
      exact hO.trans (fw_X3_takesFigure_53 hF)
  have hF := ifN hF w1
  rcases Classical.em ((M.1 68 0) = (11 : Int32)) with w3 | w3
  · have hF := ifP hF w3
    obtain ⟨M5, h4, hF⟩ := ob1S hF
    have hO := hO.mono (fr_X6_write h4) (fun x j hx => Or.inr (Or.inr (Or.inr (Or.inr (Or.inl hx)))))
    exact hO.trans (fw_X3_takesFigure_192 hF)
  have hF := ifN hF w3
  rcases Classical.em ((M.1 68 0) = (12 : Int32)) with w6 | w6
  · have hF := ifP hF w6
    obtain ⟨r8, h7, hF⟩ := ob1S hF
    obtain ⟨M10, h9, hF⟩ := ob1S hF
    have hO := hO.mono (fr_X6_write h9) (fun x j hx => Or.inr (Or.inr (Or.inr (Or.inr (Or.inl hx)))))
    obtain ⟨r12, h11, hF⟩ := ob1S hF
    rcases ifX hF with ⟨b13, hF⟩ | ⟨b13, hF⟩
    · have hq := b13
      exact hO.trans (fw_X3_takesFigure_123 hF)
    · have hq := b13
      exact hO.trans (fw_X3_takesFigure_123 hF)
  have hF := ifN hF w6
  rcases Classical.em ((M.1 68 0) = (13 : Int32)) with w14 | w14
  · have hF := ifP hF w14
    obtain ⟨M16, h15, hF⟩ := ob1S hF
    have hO := hO.mono (fr_X6_write h15) (fun x j hx => Or.inr (Or.inr (Or.inr (Or.inr (Or.inr (Or.inl hx))))))
    exact hO.trans (fw_X3_takesFigure_192 hF)
  have hF := ifN hF w14
  rcases Classical.em ((M.1 68 0) = (14 : Int32)) with w17 | w17
  · have hF := ifP hF w17
    rcases ifX hF with ⟨b18, hF⟩ | ⟨b18, hF⟩
    · have hq := b18
      exact hO.trans (fw_X3_takesFigure_152 hF)
    · have hq := b18
      exact hO.trans (fw_X3_takesFigure_152 hF)
  have hF := ifN hF w17
  obtain ⟨M20, h19, hF⟩ := ob1S hF
  have hO := hO.mono (fr_X6_write h19) (fun x j hx => Or.inr (Or.inr (Or.inr (Or.inl hx))))
  exact hO.trans (fw_X3_takesFigure_192 hF)
abbrev P_X3_takes : Nat → Nat → Prop := fun x j => (x = 68 ∧ j = 0) ∨ (x = 68 ∧ j = 1) ∨ (x = 68 ∧ j = 2) ∨ (x = 69) ∨ (x = 70) ∨ (x = 71) ∨ (x = 72) ∨ (x = 73)
set_option maxRecDepth 100000 in
set_option maxHeartbeats 4000000 in
theorem fw_X3_takes_16 {fu : Nat} {r : Int32} {M' : Mm} {x1 : Int32} {M : Mm} (hF : F_X3_takes_16 fu M x1 = some (r, M')) : Out P_X3_takes M M' := by
  have hO : Out P_X3_takes M M := Out.rf
  unfold F_X3_takes_16 at hF
  rcases ifX hF with ⟨b1, hF⟩ | ⟨b1, hF⟩
  · have hq := b1
    cases hF; exact hO
  · have hq := b1
    rcases (ifX hF).symm with ⟨b2, hF⟩ | ⟨b2, hF⟩
    · have hq := b2
      obtain ⟨r4, M5, h3, hF⟩ := ob2S hF
      have hO := hO.mono (fr_X3_takesLetter h3) (fun x j hx => hx.elim (fun h => Or.inl h) (fun hx => Or.inr (Or.inr (Or.inr (Or.inr (Or.inl hx))))))
      rcases ifX hF with ⟨b6, hF⟩ | ⟨b6, hF⟩
      · have hq := b6
        cases hF; exact hO
      · have hq := b6
        cases hF; exact hO
    · have hq := b2
      obtain ⟨r8, M9, h7, hF⟩ := ob2S hF
      have hO := hO.mono (fr_X3_takesSun h7) (fun x j hx => Or.inl hx)
      rcases ifX hF with ⟨b10, hF⟩ | ⟨b10, hF⟩
      · have hq := b10
        cases hF; exact hO
      · have hq := b10
        cases hF; exact hO
set_option maxRecDepth 100000 in
set_option maxHeartbeats 4000000 in
theorem fr_X3_takes {fu : Nat} {M : Mm} {x1 : Int32} {r : Int32} {M' : Mm} (hF : F_X3_takes fu M x1 = some (r, M')) : Out P_X3_takes M M' := by
  have hO : Out P_X3_takes M M := Out.rf
  unfold F_X3_takes at hF
  rcases ifX hF with ⟨b1, hF⟩ | ⟨b1, hF⟩
  · have hq := b1
    exact hO.trans (fw_X3_takes_16 hF)
  · have hq := b1
    rcases (ifX hF).symm with ⟨b2, hF⟩ | ⟨b2, hF⟩
    · have hq := b2
      rcases ifX hF with ⟨b3, hF⟩ | ⟨b3, hF⟩
      · have hq := b3
        cases hF; exact hO
      · have hq := b3
        rcases ifX hF with ⟨b4, hF⟩ | ⟨b4, hF⟩
        · have hq := b4
          cases hF; exact hO
        · have hq := b4
          obtain ⟨r6, M7, h5, hF⟩ := ob2S hF
          have hO := hO.mono (fr_X3_takesFigure h5) (fun x j hx => hx.elim (fun h => Or.inl h) (fun hx => hx.elim (fun h => Or.inr (Or.inl h)) (fun hx => hx.elim (fun h => Or.inr (Or.inr (Or.inl h))) (fun hx => hx.elim (fun h => Or.inr (Or.inr (Or.inr (Or.inl h)))) (fun hx => hx.elim (fun h => Or.inr (Or.inr (Or.inr (Or.inr (Or.inr (Or.inl h)))))) (fun hx => hx.elim (fun h => Or.inr (Or.inr (Or.inr (Or.inr (Or.inr (Or.inr (Or.inl h))))))) (fun hx => Or.inr (Or.inr (Or.inr (Or.inr (Or.inr (Or.inr (Or.inr (hx))))))))))))))
          rcases ifX hF with ⟨b8, hF⟩ | ⟨b8, hF⟩
          · have hq := b8
            cases hF; exact hO
          · have hq := b8
            cases hF; exact hO
    · have hq := b2
      exact hO.trans (fw_X3_takes_16 hF)
abbrev P_X3_faultIn : Nat → Nat → Prop := fun x j => (x = 68 ∧ j = 0) ∨ (x = 68 ∧ j = 1) ∨ (x = 68 ∧ j = 2) ∨ (x = 69) ∨ (x = 70) ∨ (x = 71) ∨ (x = 72) ∨ (x = 73)
set_option maxRecDepth 100000 in
set_option maxHeartbeats 4000000 in
theorem fw_X3_faultIn_12 {fu : Nat} {r : Int32} {M' : Mm} : ∀ (n : Nat) {c1 : Nat} {x2 : Int32} {M : Mm}, F_X3_faultIn_12 fu n M c1 x2 = some (r, M') → Out P_X3_faultIn M M' := by
  intro n
  induction n with
  | zero =>
    intro c1 x2 M hF
    cases hF
  | succ n ih =>
    intro c1 x2 M hF
    have hO : Out P_X3_faultIn M M := Out.rf
    unfold F_X3_faultIn_12 at hF
    rcases ifX hF with ⟨b1, hF⟩ | ⟨b1, hF⟩
    · have hq := b1
      rcases (ifX hF).symm with ⟨b2, hF⟩ | ⟨b2, hF⟩
      · have hq := b2
        cases hF; exact hO
      · have hq := b2
        rcases ifX hF with ⟨b3, hF⟩ | ⟨b3, hF⟩
        · have hq := b3
          cases hF; exact hO
        · have hq := b3
          cases hF; exact hO
    · have hq := b1
      obtain ⟨r5, h4, hF⟩ := ob1S hF
      obtain ⟨r7, M8, h6, hF⟩ := ob2S hF
      have hO := hO.mono (fr_X3_takes h6) (fun x j hx => hx.elim (fun h => Or.inl h) (fun hx => hx.elim (fun h => Or.inr (Or.inl h)) (fun hx => hx.elim (fun h => Or.inr (Or.inr (Or.inl h))) (fun hx => hx.elim (fun h => Or.inr (Or.inr (Or.inr (Or.inl h)))) (fun hx => hx.elim (fun h => Or.inr (Or.inr (Or.inr (Or.inr (Or.inl h))))) (fun hx => hx.elim (fun h => Or.inr (Or.inr (Or.inr (Or.inr (Or.inr (Or.inl h)))))) (fun hx => hx.elim (fun h => Or.inr (Or.inr (Or.inr (Or.inr (Or.inr (Or.inr (Or.inl h))))))) (fun hx => Or.inr (Or.inr (Or.inr (Or.inr (Or.inr (Or.inr (Or.inr (hx)))))))))))))))
      rcases (ifX hF).symm with ⟨b9, hF⟩ | ⟨b9, hF⟩
      · have hq := b9
        exact hO.trans (ih hF)
      · have hq := b9
        cases hF; exact hO
set_option maxRecDepth 100000 in
set_option maxHeartbeats 4000000 in
theorem fr_X3_faultIn {fu : Nat} {M : Mm} {c1 : Nat} {r : Int32} {M' : Mm} (hF : F_X3_faultIn fu M c1 = some (r, M')) : Out P_X3_faultIn M M' := by
  have hO : Out P_X3_faultIn M M := Out.rf
  unfold F_X3_faultIn at hF
  obtain ⟨M1, hO, hF⟩ := lt1W (P := fun q => Out P_X3_faultIn M q) hF (by first | exact hO.pI (by simp [P_X3_faultIn]) | exact hO.pL (by simp [P_X3_faultIn]))
  obtain ⟨M2, hO, hF⟩ := lt1W (P := fun q => Out P_X3_faultIn M q) hF (by first | exact hO.pI (by simp [P_X3_faultIn]) | exact hO.pL (by simp [P_X3_faultIn]))
  exact hO.trans (fw_X3_faultIn_12 _ hF)
abbrev P_X4_renew (c0 : Nat) : Nat → Nat → Prop := fun x j => (x = c0 ∧ j = 0) ∨ (x = c0 ∧ j = 1) ∨ (x = c0 + 6)
set_option maxRecDepth 100000 in
set_option maxHeartbeats 4000000 in
theorem fw_X4_renew_12 {fu : Nat} {c0 : Nat} {M' : Mm} : ∀ (n : Nat) {x2 : Int32} {M : Mm}, F_X4_renew_12 fu n M c0 x2 = some M' → Out (P_X4_renew c0) M M' := by
  intro n
  induction n with
  | zero =>
    intro x2 M hF
    cases hF
  | succ n ih =>
    intro x2 M hF
    have hO : Out (P_X4_renew c0) M M := Out.rf
    unfold F_X4_renew_12 at hF
    rcases ifX hF with ⟨b1, hF⟩ | ⟨b1, hF⟩
    · have hq := b1
      cases hF; exact hO
    · have hq := b1
      obtain ⟨n2, hF⟩ := ifO hF
      obtain ⟨M3, hO, hF⟩ := lt1W (P := fun q => Out (P_X4_renew c0) M q) hF (by first | exact hO.pI (by simp [P_X4_renew]) | exact hO.pL (by simp [P_X4_renew]))
      exact hO.trans (ih hF)
set_option maxRecDepth 100000 in
set_option maxHeartbeats 4000000 in
theorem fr_X4_renew {fu : Nat} {M : Mm} {c0 : Nat} {x1 : Int32} {M' : Mm} (hF : F_X4_renew fu M c0 x1 = some M') : Out (P_X4_renew c0) M M' := by
  have hO : Out (P_X4_renew c0) M M := Out.rf
  unfold F_X4_renew at hF
  obtain ⟨M1, hO, hF⟩ := lt1W (P := fun q => Out (P_X4_renew c0) M q) hF (by first | exact hO.pI (by simp [P_X4_renew]) | exact hO.pL (by simp [P_X4_renew]))
  obtain ⟨M2, hO, hF⟩ := lt1W (P := fun q => Out (P_X4_renew c0) M q) hF (by first | exact hO.pI (by simp [P_X4_renew]) | exact hO.pL (by simp [P_X4_renew]))
  exact hO.trans (fw_X4_renew_12 _ hF)
abbrev P_X4_take (c0 : Nat) : Nat → Nat → Prop := fun x j => (x = c0 ∧ j = 0) ∨ (x = c0 ∧ j = 1) ∨ (x = c0 + 6)
set_option maxRecDepth 100000 in
set_option maxHeartbeats 4000000 in
theorem fr_X4_take {fu : Nat} {M : Mm} {c0 : Nat} {c1 : Nat} {x2 : Int32} {M' : Mm} (hF : F_X4_take fu M c0 c1 x2 = some M') : Out (P_X4_take c0) M M' := by
  have hO : Out (P_X4_take c0) M M := Out.rf
  unfold F_X4_take at hF
  obtain ⟨M1, hO, hF⟩ := lt1W (P := fun q => Out (P_X4_take c0) M q) hF (by first | exact hO.pI (by simp [P_X4_take]) | exact hO.pL (by simp [P_X4_take]))
  obtain ⟨M2, hO, hF⟩ := lt1W (P := fun q => Out (P_X4_take c0) M q) hF (by first | exact hO.pI (by simp [P_X4_take]) | exact hO.pL (by simp [P_X4_take]))
  obtain ⟨M4, h3, hF⟩ := ob1S hF
  have hO := hO.mono (fr_X6_writeAll h3) (fun x j hx => Or.inr (Or.inr (hx)))
  cases hF; exact hO
abbrev P_X5_renew (c0 : Nat) : Nat → Nat → Prop := fun x j => (x = c0 ∧ j = 0) ∨ (x = c0 ∧ j = 1) ∨ (x = c0 + 4)
set_option maxRecDepth 100000 in
set_option maxHeartbeats 4000000 in
theorem fw_X5_renew_12 {fu : Nat} {c0 : Nat} {M' : Mm} : ∀ (n : Nat) {x2 : Int32} {M : Mm}, F_X5_renew_12 fu n M c0 x2 = some M' → Out (P_X5_renew c0) M M' := by
  intro n
  induction n with
  | zero =>
    intro x2 M hF
    cases hF
  | succ n ih =>
    intro x2 M hF
    have hO : Out (P_X5_renew c0) M M := Out.rf
    unfold F_X5_renew_12 at hF
    rcases ifX hF with ⟨b1, hF⟩ | ⟨b1, hF⟩
    · have hq := b1
      cases hF; exact hO
    · have hq := b1
      obtain ⟨n2, hF⟩ := ifO hF
      obtain ⟨M3, hO, hF⟩ := lt1W (P := fun q => Out (P_X5_renew c0) M q) hF (by first | exact hO.pI (by simp [P_X5_renew]) | exact hO.pL (by simp [P_X5_renew]))
      exact hO.trans (ih hF)
set_option maxRecDepth 100000 in
set_option maxHeartbeats 4000000 in
theorem fr_X5_renew {fu : Nat} {M : Mm} {c0 : Nat} {x1 : Int32} {M' : Mm} (hF : F_X5_renew fu M c0 x1 = some M') : Out (P_X5_renew c0) M M' := by
  have hO : Out (P_X5_renew c0) M M := Out.rf
  unfold F_X5_renew at hF
  obtain ⟨M1, hO, hF⟩ := lt1W (P := fun q => Out (P_X5_renew c0) M q) hF (by first | exact hO.pI (by simp [P_X5_renew]) | exact hO.pL (by simp [P_X5_renew]))
  obtain ⟨M2, hO, hF⟩ := lt1W (P := fun q => Out (P_X5_renew c0) M q) hF (by first | exact hO.pI (by simp [P_X5_renew]) | exact hO.pL (by simp [P_X5_renew]))
  exact hO.trans (fw_X5_renew_12 _ hF)
abbrev P_X5_change (c0 : Nat) : Nat → Nat → Prop := fun x j => (x = c0 + 4)
set_option maxRecDepth 100000 in
set_option maxHeartbeats 4000000 in
theorem fr_X5_change {fu : Nat} {M : Mm} {c0 : Nat} {x1 : Int32} {x2 : Int32} {M' : Mm} (hF : F_X5_change fu M c0 x1 x2 = some M') : Out (P_X5_change c0) M M' := by
  have hO : Out (P_X5_change c0) M M := Out.rf
  unfold F_X5_change at hF
  rcases ifX hF with ⟨b1, hF⟩ | ⟨b1, hF⟩
  · have hq := b1
    cases hF; exact hO
  · have hq := b1
    rcases ifX hF with ⟨b2, hF⟩ | ⟨b2, hF⟩
    · have hq := b2
      cases hF; exact hO
    · have hq := b2
      obtain ⟨n3, hF⟩ := ifO hF
      obtain ⟨M4, hO, hF⟩ := lt1W (P := fun q => Out (P_X5_change c0) M q) hF (by first | exact hO.pI (by simp [P_X5_change]) | exact hO.pL (by simp [P_X5_change]))
      cases hF; exact hO
abbrev P_X6_found : Nat → Nat → Prop := fun x j => (x = 0 ∧ j = 8) ∨ (x = 80)
set_option maxRecDepth 100000 in
set_option maxHeartbeats 4000000 in
theorem fr_X6_found {fu : Nat} {M : Mm} {x1 : Int32} {r : Int32} {M' : Mm} (hF : F_X6_found fu M x1 = some (r, M')) : Out P_X6_found M M' := by
  have hO : Out P_X6_found M M := Out.rf
  unfold F_X6_found at hF
  obtain ⟨M1, hO, hF⟩ := lt1W (P := fun q => Out P_X6_found M q) hF (by first | exact hO.pI (by simp [P_X6_found]) | exact hO.pL (by simp [P_X6_found]))
  obtain ⟨r3, h2, hF⟩ := ob1S hF
  obtain ⟨M5, h4, hF⟩ := ob1S hF
  have hO := hO.mono (fr_X6_write h4) (fun x j hx => Or.inr (hx))
  cases hF; exact hO
abbrev P_X6_tell : Nat → Nat → Prop := fun x j => (x = 0 ∧ j = 9)
set_option maxRecDepth 100000 in
set_option maxHeartbeats 4000000 in
theorem fr_X6_tell {fu : Nat} {M : Mm} {x1 : Int32} {r : Int32} {M' : Mm} (hF : F_X6_tell fu M x1 = some (r, M')) : Out P_X6_tell M M' := by
  have hO : Out P_X6_tell M M := Out.rf
  unfold F_X6_tell at hF
  obtain ⟨M1, hO, hF⟩ := lt1W (P := fun q => Out P_X6_tell M q) hF (by first | exact hO.pI (by simp [P_X6_tell]) | exact hO.pL (by simp [P_X6_tell]))
  cases hF; exact hO
abbrev P_X6_at : Nat → Nat → Prop := fun x j => (x = 0 ∧ j = 8) ∨ (x = 0 ∧ j = 9) ∨ (x = 80)
set_option maxRecDepth 100000 in
set_option maxHeartbeats 4000000 in
theorem fw_X6_at_37 {fu : Nat} {r : Int32} {M' : Mm} {M : Mm} (hF : F_X6_at_37 fu M = some (r, M')) : Out P_X6_at M M' := by
  have hO : Out P_X6_at M M := Out.rf
  unfold F_X6_at_37 at hF
  obtain ⟨r2, M3, h1, hF⟩ := ob2S hF
  have hO := hO.mono (fr_X6_found h1) (fun x j hx => hx.elim (fun h => Or.inl h) (fun hx => Or.inr (Or.inr (hx))))
  cases hF; exact hO
set_option maxRecDepth 100000 in
set_option maxHeartbeats 4000000 in
theorem fr_X6_at {fu : Nat} {M : Mm} {x1 : Int32} {x2 : Int32} {r : Int32} {M' : Mm} (hF : F_X6_at fu M x1 x2 = some (r, M')) : Out P_X6_at M M' := by
  have hO : Out P_X6_at M M := Out.rf
  unfold F_X6_at at hF
  obtain ⟨r2, h1, hF⟩ := ob1S hF
  cases r2 with
  | none =>
    have hF := op1N hF
    cases hF; exact hO
  | some c3 =>
    obtain ⟨g4, hF⟩ := ifO (op1C hF)
    have g4 := Decidable.not_not.mp g4
    rcases (ifX hF).symm with ⟨b5, hF⟩ | ⟨b5, hF⟩
    · have hq := b5
      rcases ifX hF with ⟨b6, hF⟩ | ⟨b6, hF⟩
      · have hq := b6
        exact hO.trans (fw_X6_at_37 hF)
      · have hq := b6
        rcases ifX hF with ⟨b7, hF⟩ | ⟨b7, hF⟩
        · have hq := b7
          obtain ⟨r9, h8, hF⟩ := ob1S hF
          obtain ⟨r11, M12, h10, hF⟩ := ob2S hF
          have hO := hO.mono (fr_X6_tell h10) (fun x j hx => Or.inr (Or.inl hx))
          cases hF; exact hO
        · have hq := b7
          exact hO.trans (fw_X6_at_37 hF)
    · have hq := b5
      obtain ⟨r14, M15, h13, hF⟩ := ob2S hF
      have hO := hO.mono (fr_X6_found h13) (fun x j hx => hx.elim (fun h => Or.inl h) (fun hx => Or.inr (Or.inr (hx))))
      cases hF; exact hO
abbrev P_X6_mean : Nat → Nat → Prop := fun x j => (x = 0 ∧ j = 8) ∨ (x = 0 ∧ j = 9) ∨ (x = 80)
set_option maxRecDepth 100000 in
set_option maxHeartbeats 4000000 in
theorem fr_X6_mean {fu : Nat} {M : Mm} {x1 : Int32} {r : Int32} {M' : Mm} (hF : F_X6_mean fu M x1 = some (r, M')) : Out P_X6_mean M M' := by
  have hO : Out P_X6_mean M M := Out.rf
  unfold F_X6_mean at hF
  obtain ⟨r2, h1, hF⟩ := ob1S hF
  cases r2 with
  | none =>
    have hF := op1N hF
    cases hF; exact hO
  | some c3 =>
    obtain ⟨g4, hF⟩ := ifO (op1C hF)
    have g4 := Decidable.not_not.mp g4
    rcases (ifX hF).symm with ⟨b5, hF⟩ | ⟨b5, hF⟩
    · have hq := b5
      rcases (ifX hF).symm with ⟨b6, hF⟩ | ⟨b6, hF⟩
      · have hq := b6
        obtain ⟨r8, h7, hF⟩ := ob1S hF
        obtain ⟨n9, hF⟩ := ifO hF
        obtain ⟨r11, M12, h10, hF⟩ := ob2S hF
        have hO := hO.mono (fr_X6_tell h10) (fun x j hx => Or.inr (Or.inl hx))
        cases hF; exact hO
      · have hq := b6
        obtain ⟨r14, M15, h13, hF⟩ := ob2S hF
        have hO := hO.mono (fr_X6_found h13) (fun x j hx => hx.elim (fun h => Or.inl h) (fun hx => Or.inr (Or.inr (hx))))
        cases hF; exact hO
    · have hq := b5
      obtain ⟨r17, M18, h16, hF⟩ := ob2S hF
      have hO := hO.mono (fr_X6_found h16) (fun x j hx => hx.elim (fun h => Or.inl h) (fun hx => Or.inr (Or.inr (hx))))
      cases hF; exact hO
abbrev P_X6_fault : Nat → Nat → Prop := fun x j => (x = 0 ∧ j = 8) ∨ (x = 68 ∧ j = 0) ∨ (x = 68 ∧ j = 1) ∨ (x = 68 ∧ j = 2) ∨ (x = 69) ∨ (x = 70) ∨ (x = 71) ∨ (x = 72) ∨ (x = 73) ∨ (x = 80)
set_option maxRecDepth 100000 in
set_option maxHeartbeats 4000000 in
theorem fr_X6_fault {fu : Nat} {M : Mm} {x1 : Int32} {r : Int32} {M' : Mm} (hF : F_X6_fault fu M x1 = some (r, M')) : Out P_X6_fault M M' := by
  have hO : Out P_X6_fault M M := Out.rf
  unfold F_X6_fault at hF
  obtain ⟨r2, h1, hF⟩ := ob1S hF
  cases r2 with
  | none =>
    have hF := op1N hF
    cases hF; exact hO
  | some c3 =>
    obtain ⟨g4, hF⟩ := ifO (op1C hF)
    have g4 := Decidable.not_not.mp g4
    rcases (ifX hF).symm with ⟨b5, hF⟩ | ⟨b5, hF⟩
    · have hq := b5
      obtain ⟨r7, M8, h6, hF⟩ := ob2S hF
      have hO := hO.mono (fr_X3_faultIn h6) (fun x j hx => hx.elim (fun h => Or.inr (Or.inl h)) (fun hx => hx.elim (fun h => Or.inr (Or.inr (Or.inl h))) (fun hx => hx.elim (fun h => Or.inr (Or.inr (Or.inr (Or.inl h)))) (fun hx => hx.elim (fun h => Or.inr (Or.inr (Or.inr (Or.inr (Or.inl h))))) (fun hx => hx.elim (fun h => Or.inr (Or.inr (Or.inr (Or.inr (Or.inr (Or.inl h)))))) (fun hx => hx.elim (fun h => Or.inr (Or.inr (Or.inr (Or.inr (Or.inr (Or.inr (Or.inl h))))))) (fun hx => hx.elim (fun h => Or.inr (Or.inr (Or.inr (Or.inr (Or.inr (Or.inr (Or.inr (Or.inl h)))))))) (fun hx => Or.inr (Or.inr (Or.inr (Or.inr (Or.inr (Or.inr (Or.inr (Or.inr (Or.inl hx))))))))))))))))
      cases hF; exact hO
    · have hq := b5
      obtain ⟨r10, M11, h9, hF⟩ := ob2S hF
      have hO := hO.mono (fr_X6_found h9) (fun x j hx => hx.elim (fun h => Or.inl h) (fun hx => Or.inr (Or.inr (Or.inr (Or.inr (Or.inr (Or.inr (Or.inr (Or.inr (Or.inr (hx)))))))))))
      cases hF; exact hO
abbrev P_X6_man : Nat → Nat → Prop := fun x j => (x = 0 ∧ j = 9)
set_option maxRecDepth 100000 in
set_option maxHeartbeats 4000000 in
theorem fr_X6_man {fu : Nat} {M : Mm} {x1 : Int32} {x2 : Int32} {r : Int32} {M' : Mm} (hF : F_X6_man fu M x1 x2 = some (r, M')) : Out P_X6_man M M' := by
  have hO : Out P_X6_man M M := Out.rf
  unfold F_X6_man at hF
  obtain ⟨r2, h1, hF⟩ := ob1S hF
  rcases ifX hF with ⟨b3, hF⟩ | ⟨b3, hF⟩
  · have hq := b3
    cases hF; exact hO
  · have hq := b3
    rcases ifX hF with ⟨b4, hF⟩ | ⟨b4, hF⟩
    · have hq := b4
      cases hF; exact hO
    · have hq := b4
      rcases ifX hF with ⟨b5, hF⟩ | ⟨b5, hF⟩
      · have hq := b5
        obtain ⟨r7, h6, hF⟩ := ob1S hF
        obtain ⟨r9, M10, h8, hF⟩ := ob2S hF
        have hO := hO.mono (fr_X6_tell h8) (fun x j hx => hx)
        cases hF; exact hO
      · have hq := b5
        cases hF; exact hO
abbrev P_X6_mark : Nat → Nat → Prop := fun x j => (x = 0 ∧ j = 8) ∨ (x = 80)
set_option maxRecDepth 100000 in
set_option maxHeartbeats 4000000 in
theorem fr_X6_mark {fu : Nat} {M : Mm} {x1 : Int32} {x2 : Int32} {r : Int32} {M' : Mm} (hF : F_X6_mark fu M x1 x2 = some (r, M')) : Out P_X6_mark M M' := by
  have hO : Out P_X6_mark M M := Out.rf
  unfold F_X6_mark at hF
  obtain ⟨r2, h1, hF⟩ := ob1S hF
  rcases ifX hF with ⟨b3, hF⟩ | ⟨b3, hF⟩
  · have hq := b3
    cases hF; exact hO
  · have hq := b3
    rcases ifX hF with ⟨b4, hF⟩ | ⟨b4, hF⟩
    · have hq := b4
      cases hF; exact hO
    · have hq := b4
      rcases ifX hF with ⟨b5, hF⟩ | ⟨b5, hF⟩
      · have hq := b5
        obtain ⟨r7, h6, hF⟩ := ob1S hF
        obtain ⟨r9, h8, hF⟩ := ob1S hF
        rcases (ifX hF).symm with ⟨b10, hF⟩ | ⟨b10, hF⟩
        · have hq := b10
          rcases Classical.em (x2 = (1 : Int32)) with w11 | w11
          · have hF := ifP hF w11
            obtain ⟨r13, h12, hF⟩ := ob1S hF
            obtain ⟨r15, h14, hF⟩ := ob1S hF
            cases hF; exact hO
          have hF := ifN hF w11
          rcases Classical.em (x2 = (2 : Int32)) with w16 | w16
          · have hF := ifP hF w16
            obtain ⟨r18, h17, hF⟩ := ob1S hF
            cases hF; exact hO
          have hF := ifN hF w16
          rcases Classical.em (x2 = (3 : Int32)) with w19 | w19
          · have hF := ifP hF w19
            obtain ⟨r21, h20, hF⟩ := ob1S hF
            cases hF; exact hO
          have hF := ifN hF w19
          rcases Classical.em (x2 = (4 : Int32)) with w22 | w22
          · have hF := ifP hF w22
            obtain ⟨r24, h23, hF⟩ := ob1S hF
            cases hF; exact hO
          have hF := ifN hF w22
          obtain ⟨r26, h25, hF⟩ := ob1S hF
          cases hF; exact hO
        · have hq := b10
          obtain ⟨r28, M29, h27, hF⟩ := ob2S hF
          have hO := hO.mono (fr_X6_found h27) (fun x j hx => hx.elim (fun h => Or.inl h) (fun hx => Or.inr (hx)))
          cases hF; exact hO
      · have hq := b5
        cases hF; exact hO
abbrev P_X6_right : Nat → Nat → Prop := fun x j => (x = 24 ∧ j = 1)
set_option maxRecDepth 100000 in
set_option maxHeartbeats 4000000 in
theorem fr_X6_right {fu : Nat} {M : Mm} {x1 : Int32} {r : Int32} {M' : Mm} (hF : F_X6_right fu M x1 = some (r, M')) : Out P_X6_right M M' := by
  have hO : Out P_X6_right M M := Out.rf
  unfold F_X6_right at hF
  rcases ifX hF with ⟨b1, hF⟩ | ⟨b1, hF⟩
  · have hq := b1
    cases hF; exact hO
  · have hq := b1
    rcases ifX hF with ⟨b2, hF⟩ | ⟨b2, hF⟩
    · have hq := b2
      rcases (ifX hF).symm with ⟨b3, hF⟩ | ⟨b3, hF⟩
      · have hq := b3
        obtain ⟨M4, hO, hF⟩ := lt1W (P := fun q => Out P_X6_right M q) hF (by first | exact hO.pI (by simp [P_X6_right]) | exact hO.pL (by simp [P_X6_right]))
        cases hF; exact hO
      · have hq := b3
        cases hF; exact hO
    · have hq := b2
      cases hF; exact hO
abbrev P_X6_day : Nat → Nat → Prop := fun x j => (x = 24 ∧ j = 2) ∨ (x = 24 ∧ j = 3) ∨ (x = 28) ∨ (x = 29) ∨ (x = 32) ∨ (x = 33) ∨ (x = 34)
set_option maxRecDepth 100000 in
set_option maxHeartbeats 4000000 in
theorem fr_X6_day {fu : Nat} {M : Mm} {r : Int32} {M' : Mm} (hF : F_X6_day fu M = some (r, M')) : Out P_X6_day M M' := by
  have hO : Out P_X6_day M M := Out.rf
  unfold F_X6_day at hF
  rcases (ifX hF).symm with ⟨b1, hF⟩ | ⟨b1, hF⟩
  · have hq := b1
    rcases ifX hF with ⟨b2, hF⟩ | ⟨b2, hF⟩
    · have hq := b2
      obtain ⟨M4, h3, hF⟩ := ob1S hF
      have hO := hO.mono (fr_X2_act h3) (fun x j hx => hx.elim (fun h => Or.inl h) (fun hx => hx.elim (fun h => Or.inr (Or.inl h)) (fun hx => hx.elim (fun h => Or.inr (Or.inr (Or.inr (Or.inr (Or.inr (Or.inr (h))))))) (fun hx => hx.elim (fun h => Or.inr (Or.inr (Or.inl h))) (fun hx => hx.elim (fun h => Or.inr (Or.inr (Or.inr (Or.inl h)))) (fun hx => hx.elim (fun h => Or.inr (Or.inr (Or.inr (Or.inr (Or.inl h))))) (fun hx => Or.inr (Or.inr (Or.inr (Or.inr (Or.inr (Or.inl hx))))))))))))
      obtain ⟨r6, h5, hF⟩ := ob1S hF
      obtain ⟨r8, h7, hF⟩ := ob1S hF
      cases hF; exact hO
    · have hq := b2
      cases hF; exact hO
  · have hq := b1
    cases hF; exact hO
abbrev P_X6_shade : Nat → Nat → Prop := fun x j => (x = 24 ∧ j = 2) ∨ (x = 24 ∧ j = 3) ∨ (x = 28) ∨ (x = 29) ∨ (x = 32) ∨ (x = 33) ∨ (x = 34)
set_option maxRecDepth 100000 in
set_option maxHeartbeats 4000000 in
theorem fr_X6_shade {fu : Nat} {M : Mm} {x1 : Int32} {x2 : Int32} {r : Int32} {M' : Mm} (hF : F_X6_shade fu M x1 x2 = some (r, M')) : Out P_X6_shade M M' := by
  have hO : Out P_X6_shade M M := Out.rf
  unfold F_X6_shade at hF
  obtain ⟨r2, h1, hF⟩ := ob1S hF
  rcases ifX hF with ⟨b3, hF⟩ | ⟨b3, hF⟩
  · have hq := b3
    cases hF; exact hO
  · have hq := b3
    rcases ifX hF with ⟨b4, hF⟩ | ⟨b4, hF⟩
    · have hq := b4
      cases hF; exact hO
    · have hq := b4
      rcases ifX hF with ⟨b5, hF⟩ | ⟨b5, hF⟩
      · have hq := b5
        rcases ifX hF with ⟨b6, hF⟩ | ⟨b6, hF⟩
        · have hq := b6
          obtain ⟨r8, h7, hF⟩ := ob1S hF
          obtain ⟨M10, h9, hF⟩ := ob1S hF
          have hO := hO.mono (fr_X2_act h9) (fun x j hx => hx.elim (fun h => Or.inl h) (fun hx => hx.elim (fun h => Or.inr (Or.inl h)) (fun hx => hx.elim (fun h => Or.inr (Or.inr (Or.inr (Or.inr (Or.inr (Or.inr (h))))))) (fun hx => hx.elim (fun h => Or.inr (Or.inr (Or.inl h))) (fun hx => hx.elim (fun h => Or.inr (Or.inr (Or.inr (Or.inl h)))) (fun hx => hx.elim (fun h => Or.inr (Or.inr (Or.inr (Or.inr (Or.inl h))))) (fun hx => Or.inr (Or.inr (Or.inr (Or.inr (Or.inr (Or.inl hx))))))))))))
          cases hF; exact hO
        · have hq := b6
          cases hF; exact hO
      · have hq := b5
        cases hF; exact hO
abbrev P_X6_snow : Nat → Nat → Prop := fun x j => (x = 24 ∧ j = 2) ∨ (x = 24 ∧ j = 3) ∨ (x = 28) ∨ (x = 29) ∨ (x = 32) ∨ (x = 33) ∨ (x = 34)
set_option maxRecDepth 100000 in
set_option maxHeartbeats 4000000 in
theorem fr_X6_snow {fu : Nat} {M : Mm} {x1 : Int32} {x2 : Int32} {r : Int32} {M' : Mm} (hF : F_X6_snow fu M x1 x2 = some (r, M')) : Out P_X6_snow M M' := by
  have hO : Out P_X6_snow M M := Out.rf
  unfold F_X6_snow at hF
  obtain ⟨r2, h1, hF⟩ := ob1S hF
  rcases ifX hF with ⟨b3, hF⟩ | ⟨b3, hF⟩
  · have hq := b3
    cases hF; exact hO
  · have hq := b3
    rcases ifX hF with ⟨b4, hF⟩ | ⟨b4, hF⟩
    · have hq := b4
      cases hF; exact hO
    · have hq := b4
      rcases ifX hF with ⟨b5, hF⟩ | ⟨b5, hF⟩
      · have hq := b5
        obtain ⟨r7, h6, hF⟩ := ob1S hF
        rcases (ifX hF).symm with ⟨b8, hF⟩ | ⟨b8, hF⟩
        · have hq := b8
          rcases ifX hF with ⟨b9, hF⟩ | ⟨b9, hF⟩
          · have hq := b9
            obtain ⟨M11, h10, hF⟩ := ob1S hF
            have hO := hO.mono (fr_X2_act h10) (fun x j hx => hx.elim (fun h => Or.inl h) (fun hx => hx.elim (fun h => Or.inr (Or.inl h)) (fun hx => hx.elim (fun h => Or.inr (Or.inr (Or.inr (Or.inr (Or.inr (Or.inr (h))))))) (fun hx => hx.elim (fun h => Or.inr (Or.inr (Or.inl h))) (fun hx => hx.elim (fun h => Or.inr (Or.inr (Or.inr (Or.inl h)))) (fun hx => hx.elim (fun h => Or.inr (Or.inr (Or.inr (Or.inr (Or.inl h))))) (fun hx => Or.inr (Or.inr (Or.inr (Or.inr (Or.inr (Or.inl hx))))))))))))
            obtain ⟨r13, h12, hF⟩ := ob1S hF
            cases hF; exact hO
          · have hq := b9
            cases hF; exact hO
        · have hq := b8
          cases hF; exact hO
      · have hq := b5
        cases hF; exact hO
abbrev P_X6_undo : Nat → Nat → Prop := fun x j => (x = 24 ∧ j = 2) ∨ (x = 24 ∧ j = 3) ∨ (x = 28) ∨ (x = 29)
set_option maxRecDepth 100000 in
set_option maxHeartbeats 4000000 in
theorem fr_X6_undo {fu : Nat} {M : Mm} {x1 : Int32} {r : Int32} {M' : Mm} (hF : F_X6_undo fu M x1 = some (r, M')) : Out P_X6_undo M M' := by
  have hO : Out P_X6_undo M M := Out.rf
  unfold F_X6_undo at hF
  rcases ifX hF with ⟨b1, hF⟩ | ⟨b1, hF⟩
  · have hq := b1
    cases hF; exact hO
  · have hq := b1
    rcases ifX hF with ⟨b2, hF⟩ | ⟨b2, hF⟩
    · have hq := b2
      obtain ⟨M4, h3, hF⟩ := ob1S hF
      have hO := hO.mono (fr_X2_undoFrom h3) (fun x j hx => hx.elim (fun h => Or.inl h) (fun hx => hx.elim (fun h => Or.inr (Or.inl h)) (fun hx => hx.elim (fun h => Or.inr (Or.inr (Or.inl h))) (fun hx => Or.inr (Or.inr (Or.inr (hx)))))))
      cases hF; exact hO
    · have hq := b2
      cases hF; exact hO
abbrev P_X6_now : Nat → Nat → Prop := fun x j => (x = 0 ∧ j = 9)
set_option maxRecDepth 100000 in
set_option maxHeartbeats 4000000 in
theorem fr_X6_now {fu : Nat} {M : Mm} {r : Int32} {M' : Mm} (hF : F_X6_now fu M = some (r, M')) : Out P_X6_now M M' := by
  have hO : Out P_X6_now M M := Out.rf
  unfold F_X6_now at hF
  rcases (ifX hF).symm with ⟨b1, hF⟩ | ⟨b1, hF⟩
  · have hq := b1
    obtain ⟨r3, h2, hF⟩ := ob1S hF
    obtain ⟨M4, hO, hF⟩ := lt1W (P := fun q => Out P_X6_now M q) hF (by first | exact hO.pI (by simp [P_X6_now]) | exact hO.pL (by simp [P_X6_now]))
    cases hF; exact hO
  · have hq := b1
    cases hF; exact hO
abbrev P_X6_on : Nat → Nat → Prop := fun x j => (x = 0 ∧ j = 8) ∨ (x = 24 ∧ j = 0) ∨ (x = 24 ∧ j = 1) ∨ (x = 24 ∧ j = 2) ∨ (x = 24 ∧ j = 3) ∨ (x = 25) ∨ (x = 26) ∨ (x = 27) ∨ (x = 28) ∨ (x = 29) ∨ (x = 30) ∨ (x = 31) ∨ (x = 32) ∨ (x = 33) ∨ (x = 34) ∨ (x = 80)
set_option maxRecDepth 100000 in
set_option maxHeartbeats 4000000 in
theorem fr_X6_on {fu : Nat} {M : Mm} {x1 : Int32} {r : Int32} {M' : Mm} (hF : F_X6_on fu M x1 = some (r, M')) : Out P_X6_on M M' := by
  have hO : Out P_X6_on M M := Out.rf
  unfold F_X6_on at hF
  obtain ⟨r2, h1, hF⟩ := ob1S hF
  cases r2 with
  | none =>
    have hF := op1N hF
    cases hF; exact hO
  | some c3 =>
    obtain ⟨g4, hF⟩ := ifO (op1C hF)
    have g4 := Decidable.not_not.mp g4
    rcases (ifX hF).symm with ⟨b5, hF⟩ | ⟨b5, hF⟩
    · have hq := b5
      obtain ⟨M7, h6, hF⟩ := ob1S hF
      have hO := hO.mono (fr_X2_become h6) (fun x j hx => hx.elim (fun h => Or.inr (Or.inl h)) (fun hx => hx.elim (fun h => Or.inr (Or.inr (Or.inl h))) (fun hx => hx.elim (fun h => Or.inr (Or.inr (Or.inr (Or.inl h)))) (fun hx => hx.elim (fun h => Or.inr (Or.inr (Or.inr (Or.inr (Or.inl h))))) (fun hx => hx.elim (fun h => Or.inr (Or.inr (Or.inr (Or.inr (Or.inr (Or.inl h)))))) (fun hx => hx.elim (fun h => Or.inr (Or.inr (Or.inr (Or.inr (Or.inr (Or.inr (Or.inr (Or.inr (Or.inr (Or.inr (Or.inr (Or.inr (Or.inr (Or.inr (Or.inl h))))))))))))))) (fun hx => hx.elim (fun h => Or.inr (Or.inr (Or.inr (Or.inr (Or.inr (Or.inr (Or.inl h))))))) (fun hx => hx.elim (fun h => Or.inr (Or.inr (Or.inr (Or.inr (Or.inr (Or.inr (Or.inr (Or.inl h)))))))) (fun hx => hx.elim (fun h => Or.inr (Or.inr (Or.inr (Or.inr (Or.inr (Or.inr (Or.inr (Or.inr (Or.inl h))))))))) (fun hx => hx.elim (fun h => Or.inr (Or.inr (Or.inr (Or.inr (Or.inr (Or.inr (Or.inr (Or.inr (Or.inr (Or.inl h)))))))))) (fun hx => hx.elim (fun h => Or.inr (Or.inr (Or.inr (Or.inr (Or.inr (Or.inr (Or.inr (Or.inr (Or.inr (Or.inr (Or.inl h))))))))))) (fun hx => hx.elim (fun h => Or.inr (Or.inr (Or.inr (Or.inr (Or.inr (Or.inr (Or.inr (Or.inr (Or.inr (Or.inr (Or.inr (Or.inl h)))))))))))) (fun hx => hx.elim (fun h => Or.inr (Or.inr (Or.inr (Or.inr (Or.inr (Or.inr (Or.inr (Or.inr (Or.inr (Or.inr (Or.inr (Or.inr (Or.inl h))))))))))))) (fun hx => Or.inr (Or.inr (Or.inr (Or.inr (Or.inr (Or.inr (Or.inr (Or.inr (Or.inr (Or.inr (Or.inr (Or.inr (Or.inr (Or.inl hx)))))))))))))))))))))))))))
      cases hF; exact hO
    · have hq := b5
      obtain ⟨r9, M10, h8, hF⟩ := ob2S hF
      have hO := hO.mono (fr_X6_found h8) (fun x j hx => hx.elim (fun h => Or.inl h) (fun hx => Or.inr (Or.inr (Or.inr (Or.inr (Or.inr (Or.inr (Or.inr (Or.inr (Or.inr (Or.inr (Or.inr (Or.inr (Or.inr (Or.inr (Or.inr (hx)))))))))))))))))
      cases hF; exact hO
abbrev P_X6_votes : Nat → Nat → Prop := fun x j => (x = 0 ∧ j = 9)
set_option maxRecDepth 100000 in
set_option maxHeartbeats 4000000 in
theorem fr_X6_votes {fu : Nat} {M : Mm} {x1 : Int32} {r : Int32} {M' : Mm} (hF : F_X6_votes fu M x1 = some (r, M')) : Out P_X6_votes M M' := by
  have hO : Out P_X6_votes M M := Out.rf
  unfold F_X6_votes at hF
  obtain ⟨r2, h1, hF⟩ := ob1S hF
  rcases (ifX hF).symm with ⟨b3, hF⟩ | ⟨b3, hF⟩
  · have hq := b3
    rcases (ifX hF).symm with ⟨b4, hF⟩ | ⟨b4, hF⟩
    · have hq := b4
      obtain ⟨r6, h5, hF⟩ := ob1S hF
      obtain ⟨r8, h7, hF⟩ := ob1S hF
      obtain ⟨r10, h9, hF⟩ := ob1S hF
      obtain ⟨r12, h11, hF⟩ := ob1S hF
      obtain ⟨M13, hO, hF⟩ := lt1W (P := fun q => Out P_X6_votes M q) hF (by first | exact hO.pI (by simp [P_X6_votes]) | exact hO.pL (by simp [P_X6_votes]))
      cases hF; exact hO
    · have hq := b4
      cases hF; exact hO
  · have hq := b3
    cases hF; exact hO
abbrev P_X6_carried : Nat → Nat → Prop := fun x j => (x = 81)
set_option maxRecDepth 100000 in
set_option maxHeartbeats 4000000 in
theorem fw_X6_carried_75 {fu : Nat} {r : Int32} {M' : Mm} {k44 : Mm → Int32 → Int32 → Option (Int32 × Mm)} (hk_44 : ∀ {x1 : Int32} {x2 : Int32} {M : Mm}, k44 M x1 x2 = some (r, M') → Out P_X6_carried M M') {x1 : Int32} {x2 : Int32} {t0 : Int32} {t1 : Int32} {M : Mm} (hF : F_X6_carried_75 fu k44 M x1 x2 t0 t1 = some (r, M')) : Out P_X6_carried M M' := by
  have hO : Out P_X6_carried M M := Out.rf
  unfold F_X6_carried_75 at hF
  rcases (ifX hF).symm with ⟨b1, hF⟩ | ⟨b1, hF⟩
  · have hq := b1
    exact hO.trans (hk_44 hF)
  · have hq := b1
    cases hF; exact hO
set_option maxRecDepth 100000 in
set_option maxHeartbeats 4000000 in
theorem fw_X6_carried_44 {fu : Nat} {r : Int32} {M' : Mm} : ∀ (n : Nat) {x1 : Int32} {x2 : Int32} {M : Mm}, F_X6_carried_44 fu n M x1 x2 = some (r, M') → Out P_X6_carried M M' := by
  intro n
  induction n with
  | zero =>
    intro x1 x2 M hF
    cases hF
  | succ n ih =>
    intro x1 x2 M hF
    have hO : Out P_X6_carried M M := Out.rf
    unfold F_X6_carried_44 at hF
    rcases ifX hF with ⟨b1, hF⟩ | ⟨b1, hF⟩
    · have hq := b1
      cases hF; exact hO
    · have hq := b1
      obtain ⟨r3, h2, hF⟩ := ob1S hF
      obtain ⟨r5, h4, hF⟩ := ob1S hF
      rcases (ifX hF).symm with ⟨b6, hF⟩ | ⟨b6, hF⟩
      · have hq := b6
        exact hO.trans (fw_X6_carried_75 (hk_44 := ih) hF)
      · have hq := b6
        exact hO.trans (fw_X6_carried_75 (hk_44 := ih) hF)
set_option maxRecDepth 100000 in
set_option maxHeartbeats 4000000 in
theorem fw_X6_carried_11 {fu : Nat} {r : Int32} {M' : Mm} {x1 : Int32} {M : Mm} (hF : F_X6_carried_11 fu M x1 = some (r, M')) : Out P_X6_carried M M' := by
  have hO : Out P_X6_carried M M := Out.rf
  unfold F_X6_carried_11 at hF
  rcases (ifX hF).symm with ⟨b1, hF⟩ | ⟨b1, hF⟩
  · have hq := b1
    obtain ⟨M3, h2, hF⟩ := ob1S hF
    have hO := hO.mono (fr_X2_foreseeVoters h2) (fun x j hx => hx)
    exact hO.trans (fw_X6_carried_44 _ hF)
  · have hq := b1
    cases hF; exact hO
set_option maxRecDepth 100000 in
set_option maxHeartbeats 4000000 in
theorem fr_X6_carried {fu : Nat} {M : Mm} {x1 : Int32} {r : Int32} {M' : Mm} (hF : F_X6_carried fu M x1 = some (r, M')) : Out P_X6_carried M M' := by
  have hO : Out P_X6_carried M M := Out.rf
  unfold F_X6_carried at hF
  rcases ifX hF with ⟨b1, hF⟩ | ⟨b1, hF⟩
  · have hq := b1
    exact hO.trans (fw_X6_carried_11 hF)
  · have hq := b1
    rcases ifX hF with ⟨b2, hF⟩ | ⟨b2, hF⟩
    · have hq := b2
      exact hO.trans (fw_X6_carried_11 hF)
    · have hq := b2
      cases hF; exact hO
abbrev P_X6_days : Nat → Nat → Prop := fun x j => (x = 81)
set_option maxRecDepth 100000 in
set_option maxHeartbeats 4000000 in
theorem fw_X6_days_44 {fu : Nat} {r : Int32} {M' : Mm} : ∀ (n : Nat) {x1 : Int32} {x2 : Int32} {x3 : Int32} {M : Mm}, F_X6_days_44 fu n M x1 x2 x3 = some (r, M') → Out P_X6_days M M' := by
  intro n
  induction n with
  | zero =>
    intro x1 x2 x3 M hF
    cases hF
  | succ n ih =>
    intro x1 x2 x3 M hF
    have hO : Out P_X6_days M M := Out.rf
    unfold F_X6_days_44 at hF
    rcases ifX hF with ⟨b1, hF⟩ | ⟨b1, hF⟩
    · have hq := b1
      cases hF; exact hO
    · have hq := b1
      obtain ⟨r3, h2, hF⟩ := ob1S hF
      obtain ⟨r5, h4, hF⟩ := ob1S hF
      rcases ifX hF with ⟨b6, hF⟩ | ⟨b6, hF⟩
      · have hq := b6
        exact hO.trans (ih hF)
      · have hq := b6
        exact hO.trans (ih hF)
set_option maxRecDepth 100000 in
set_option maxHeartbeats 4000000 in
theorem fr_X6_days {fu : Nat} {M : Mm} {x1 : Int32} {r : Int32} {M' : Mm} (hF : F_X6_days fu M x1 = some (r, M')) : Out P_X6_days M M' := by
  have hO : Out P_X6_days M M := Out.rf
  unfold F_X6_days at hF
  obtain ⟨r2, h1, hF⟩ := ob1S hF
  rcases (ifX hF).symm with ⟨b3, hF⟩ | ⟨b3, hF⟩
  · have hq := b3
    rcases (ifX hF).symm with ⟨b4, hF⟩ | ⟨b4, hF⟩
    · have hq := b4
      obtain ⟨M6, h5, hF⟩ := ob1S hF
      have hO := hO.mono (fr_X2_foreseeVoters h5) (fun x j hx => hx)
      exact hO.trans (fw_X6_days_44 _ hF)
    · have hq := b4
      cases hF; exact hO
  · have hq := b3
    cases hF; exact hO
abbrev P_X6_widow : Nat → Nat → Prop := fun x j => (x = 0 ∧ j = 9)
set_option maxRecDepth 100000 in
set_option maxHeartbeats 4000000 in
theorem fw_X6_widow_21 {fu : Nat} {r : Int32} {M' : Mm} : ∀ (n : Nat) {x1 : Int32} {x2 : Int32} {x3 : Int32} {M : Mm}, F_X6_widow_21 fu n M x1 x2 x3 = some (r, M') → Out P_X6_widow M M' := by
  intro n
  induction n with
  | zero =>
    intro x1 x2 x3 M hF
    cases hF
  | succ n ih =>
    intro x1 x2 x3 M hF
    have hO : Out P_X6_widow M M := Out.rf
    unfold F_X6_widow_21 at hF
    rcases ifX hF with ⟨b1, hF⟩ | ⟨b1, hF⟩
    · have hq := b1
      rcases ifX hF with ⟨b2, hF⟩ | ⟨b2, hF⟩
      · have hq := b2
        cases hF; exact hO
      · have hq := b2
        obtain ⟨M3, hO, hF⟩ := lt1W (P := fun q => Out P_X6_widow M q) hF (by first | exact hO.pI (by simp [P_X6_widow]) | exact hO.pL (by simp [P_X6_widow]))
        cases hF; exact hO
    · have hq := b1
      obtain ⟨r5, h4, hF⟩ := ob1S hF
      rcases ifX hF with ⟨b6, hF⟩ | ⟨b6, hF⟩
      · have hq := b6
        exact hO.trans (ih hF)
      · have hq := b6
        rcases ifX hF with ⟨b7, hF⟩ | ⟨b7, hF⟩
        · have hq := b7
          exact hO.trans (ih hF)
        · have hq := b7
          exact hO.trans (ih hF)
set_option maxRecDepth 100000 in
set_option maxHeartbeats 4000000 in
theorem fr_X6_widow {fu : Nat} {M : Mm} {r : Int32} {M' : Mm} (hF : F_X6_widow fu M = some (r, M')) : Out P_X6_widow M M' := by
  have hO : Out P_X6_widow M M := Out.rf
  unfold F_X6_widow at hF
  rcases (ifX hF).symm with ⟨b1, hF⟩ | ⟨b1, hF⟩
  · have hq := b1
    exact hO.trans (fw_X6_widow_21 _ hF)
  · have hq := b1
    cases hF; exact hO
abbrev P_X6_fillMostCounted : Nat → Nat → Prop := fun x j => (x = 85)
set_option maxRecDepth 100000 in
set_option maxHeartbeats 4000000 in
theorem fw_X6_fillMostCounted_20 {fu : Nat} {M' : Mm} {k12 : Mm → Int32 → Option Mm} (hk_12 : ∀ {x1 : Int32} {M : Mm}, k12 M x1 = some M' → Out P_X6_fillMostCounted M M') : ∀ (n : Nat) {x1 : Int32} {x2 : Int32} {x3 : Int32} {M : Mm}, F_X6_fillMostCounted_20 fu k12 n M x1 x2 x3 = some M' → Out P_X6_fillMostCounted M M' := by
  intro n
  induction n with
  | zero =>
    intro x1 x2 x3 M hF
    cases hF
  | succ n ih =>
    intro x1 x2 x3 M hF
    have hO : Out P_X6_fillMostCounted M M := Out.rf
    unfold F_X6_fillMostCounted_20 at hF
    rcases ifX hF with ⟨b1, hF⟩ | ⟨b1, hF⟩
    · have hq := b1
      obtain ⟨M3, h2, hF⟩ := ob1S hF
      have hO := hO.mono (fr_X6_write h2) (fun x j hx => hx)
      exact hO.trans (hk_12 hF)
    · have hq := b1
      obtain ⟨r5, h4, hF⟩ := ob1S hF
      rcases (ifX hF).symm with ⟨b6, hF⟩ | ⟨b6, hF⟩
      · have hq := b6
        exact hO.trans (ih hF)
      · have hq := b6
        obtain ⟨r8, h7, hF⟩ := ob1S hF
        exact hO.trans (ih hF)
set_option maxRecDepth 100000 in
set_option maxHeartbeats 4000000 in
theorem fw_X6_fillMostCounted_12 {fu : Nat} {M' : Mm} : ∀ (n : Nat) {x1 : Int32} {M : Mm}, F_X6_fillMostCounted_12 fu n M x1 = some M' → Out P_X6_fillMostCounted M M' := by
  intro n
  induction n with
  | zero =>
    intro x1 M hF
    cases hF
  | succ n ih =>
    intro x1 M hF
    have hO : Out P_X6_fillMostCounted M M := Out.rf
    unfold F_X6_fillMostCounted_12 at hF
    rcases ifX hF with ⟨b1, hF⟩ | ⟨b1, hF⟩
    · have hq := b1
      cases hF; exact hO
    · have hq := b1
      exact hO.trans (fw_X6_fillMostCounted_20 (hk_12 := ih) _ hF)
set_option maxRecDepth 100000 in
set_option maxHeartbeats 4000000 in
theorem fr_X6_fillMostCounted {fu : Nat} {M : Mm} {M' : Mm} (hF : F_X6_fillMostCounted fu M = some M') : Out P_X6_fillMostCounted M M' := by
  have hO : Out P_X6_fillMostCounted M M := Out.rf
  unfold F_X6_fillMostCounted at hF
  obtain ⟨y1, ey1, hF⟩ := lt1E hF
  exact hO.trans (fw_X6_fillMostCounted_12 _ hF)
abbrev P_X6_counted : Nat → Nat → Prop := fun x j => (x = 0 ∧ j = 8) ∨ (x = 80) ∨ (x = 81)
set_option maxRecDepth 100000 in
set_option maxHeartbeats 4000000 in
theorem fw_X6_counted_121 {fu : Nat} {r : Int32} {M' : Mm} {M : Mm} (hF : F_X6_counted_121 fu M = some (r, M')) : Out P_X6_counted M M' := by
  have hO : Out P_X6_counted M M := Out.rf
  unfold F_X6_counted_121 at hF
  obtain ⟨r2, M3, h1, hF⟩ := ob2S hF
  have hO := hO.mono (fr_X6_found h1) (fun x j hx => hx.elim (fun h => Or.inl h) (fun hx => Or.inr (Or.inl hx)))
  cases hF; exact hO
set_option maxRecDepth 100000 in
set_option maxHeartbeats 4000000 in
theorem fw_X6_counted_77 {fu : Nat} {r : Int32} {M' : Mm} : ∀ (n : Nat) {c2 : Nat} {x3 : Int32} {x4 : Int32} {x5 : Int32} {M : Mm}, F_X6_counted_77 fu n M c2 x3 x4 x5 = some (r, M') → Out P_X6_counted M M' := by
  intro n
  induction n with
  | zero =>
    intro c2 x3 x4 x5 M hF
    cases hF
  | succ n ih =>
    intro c2 x3 x4 x5 M hF
    have hO : Out P_X6_counted M M := Out.rf
    unfold F_X6_counted_77 at hF
    rcases ifX hF with ⟨b1, hF⟩ | ⟨b1, hF⟩
    · have hq := b1
      cases hF; exact hO
    · have hq := b1
      obtain ⟨r3, h2, hF⟩ := ob1S hF
      obtain ⟨r5, h4, hF⟩ := ob1S hF
      rcases ifX hF with ⟨b6, hF⟩ | ⟨b6, hF⟩
      · have hq := b6
        exact hO.trans (fw_X6_counted_121 hF)
      · have hq := b6
        obtain ⟨r8, h7, hF⟩ := ob1S hF
        rcases ifX hF with ⟨b9, hF⟩ | ⟨b9, hF⟩
        · have hq := b9
          obtain ⟨r11, h10, hF⟩ := ob1S hF
          exact hO.trans (ih hF)
        · have hq := b9
          exact hO.trans (fw_X6_counted_121 hF)
set_option maxRecDepth 100000 in
set_option maxHeartbeats 4000000 in
theorem fr_X6_counted {fu : Nat} {M : Mm} {x1 : Int32} {r : Int32} {M' : Mm} (hF : F_X6_counted fu M x1 = some (r, M')) : Out P_X6_counted M M' := by
  have hO : Out P_X6_counted M M := Out.rf
  unfold F_X6_counted at hF
  obtain ⟨r2, h1, hF⟩ := ob1S hF
  cases r2 with
  | none =>
    have hF := op1N hF
    cases hF; exact hO
  | some c3 =>
    obtain ⟨g4, hF⟩ := ifO (op1C hF)
    have g4 := Decidable.not_not.mp g4
    rcases (ifX hF).symm with ⟨b5, hF⟩ | ⟨b5, hF⟩
    · have hq := b5
      rcases (ifX hF).symm with ⟨b6, hF⟩ | ⟨b6, hF⟩
      · have hq := b6
        rcases ifX hF with ⟨b7, hF⟩ | ⟨b7, hF⟩
        · have hq := b7
          obtain ⟨M9, h8, hF⟩ := ob1S hF
          have hO := hO.mono (fr_X2_foreseeLiving h8) (fun x j hx => Or.inr (Or.inr (hx)))
          exact hO.trans (fw_X6_counted_77 _ hF)
        · have hq := b7
          obtain ⟨r11, M12, h10, hF⟩ := ob2S hF
          have hO := hO.mono (fr_X6_found h10) (fun x j hx => hx.elim (fun h => Or.inl h) (fun hx => Or.inr (Or.inl hx)))
          cases hF; exact hO
      · have hq := b6
        obtain ⟨r14, M15, h13, hF⟩ := ob2S hF
        have hO := hO.mono (fr_X6_found h13) (fun x j hx => hx.elim (fun h => Or.inl h) (fun hx => Or.inr (Or.inl hx)))
        cases hF; exact hO
    · have hq := b5
      cases hF; exact hO
abbrev P_X6_refusalOfSeen : Nat → Nat → Prop := fun x j => (x = 0 ∧ j = 8) ∨ (x = 80)
set_option maxRecDepth 100000 in
set_option maxHeartbeats 4000000 in
theorem fw_X6_refusalOfSeen_105 {fu : Nat} {r : Int32} {M' : Mm} {M : Mm} (hF : F_X6_refusalOfSeen_105 fu M = some (r, M')) : Out P_X6_refusalOfSeen M M' := by
  have hO : Out P_X6_refusalOfSeen M M := Out.rf
  unfold F_X6_refusalOfSeen_105 at hF
  obtain ⟨r2, M3, h1, hF⟩ := ob2S hF
  have hO := hO.mono (fr_X6_found h1) (fun x j hx => hx.elim (fun h => Or.inl h) (fun hx => Or.inr (hx)))
  cases hF; exact hO
set_option maxRecDepth 100000 in
set_option maxHeartbeats 4000000 in
theorem fw_X6_refusalOfSeen_54 {fu : Nat} {r : Int32} {M' : Mm} : ∀ (n : Nat) {c3 : Nat} {x4 : Int32} {M : Mm}, F_X6_refusalOfSeen_54 fu n M c3 x4 = some (r, M') → Out P_X6_refusalOfSeen M M' := by
  intro n
  induction n with
  | zero =>
    intro c3 x4 M hF
    cases hF
  | succ n ih =>
    intro c3 x4 M hF
    have hO : Out P_X6_refusalOfSeen M M := Out.rf
    unfold F_X6_refusalOfSeen_54 at hF
    rcases ifX hF with ⟨b1, hF⟩ | ⟨b1, hF⟩
    · have hq := b1
      cases hF; exact hO
    · have hq := b1
      obtain ⟨r3, h2, hF⟩ := ob1S hF
      obtain ⟨r5, h4, hF⟩ := ob1S hF
      obtain ⟨r7, h6, hF⟩ := ob1S hF
      rcases ifX hF with ⟨b8, hF⟩ | ⟨b8, hF⟩
      · have hq := b8
        exact hO.trans (fw_X6_refusalOfSeen_105 hF)
      · have hq := b8
        rcases ifX hF with ⟨b9, hF⟩ | ⟨b9, hF⟩
        · have hq := b9
          exact hO.trans (fw_X6_refusalOfSeen_105 hF)
        · have hq := b9
          rcases ifX hF with ⟨b10, hF⟩ | ⟨b10, hF⟩
          · have hq := b10
            exact hO.trans (ih hF)
          · have hq := b10
            exact hO.trans (fw_X6_refusalOfSeen_105 hF)
set_option maxRecDepth 100000 in
set_option maxHeartbeats 4000000 in
theorem fr_X6_refusalOfSeen {fu : Nat} {M : Mm} {x1 : Int32} {x2 : Int32} {r : Int32} {M' : Mm} (hF : F_X6_refusalOfSeen fu M x1 x2 = some (r, M')) : Out P_X6_refusalOfSeen M M' := by
  have hO : Out P_X6_refusalOfSeen M M := Out.rf
  unfold F_X6_refusalOfSeen at hF
  obtain ⟨r2, h1, hF⟩ := ob1S hF
  cases r2 with
  | none =>
    have hF := op1N hF
    cases hF; exact hO
  | some c3 =>
    obtain ⟨g4, hF⟩ := ifO (op1C hF)
    have g4 := Decidable.not_not.mp g4
    obtain ⟨r6, h5, hF⟩ := ob1S hF
    rcases (ifX hF).symm with ⟨b7, hF⟩ | ⟨b7, hF⟩
    · have hq := b7
      rcases (ifX hF).symm with ⟨b8, hF⟩ | ⟨b8, hF⟩
      · have hq := b8
        rcases ifX hF with ⟨b9, hF⟩ | ⟨b9, hF⟩
        · have hq := b9
          exact hO.trans (fw_X6_refusalOfSeen_54 _ hF)
        · have hq := b9
          obtain ⟨r11, M12, h10, hF⟩ := ob2S hF
          have hO := hO.mono (fr_X6_found h10) (fun x j hx => hx.elim (fun h => Or.inl h) (fun hx => Or.inr (hx)))
          cases hF; exact hO
      · have hq := b8
        obtain ⟨r14, M15, h13, hF⟩ := ob2S hF
        have hO := hO.mono (fr_X6_found h13) (fun x j hx => hx.elim (fun h => Or.inl h) (fun hx => Or.inr (hx)))
        cases hF; exact hO
    · have hq := b7
      cases hF; exact hO
abbrev P_X6_fits : Nat → Nat → Prop := fun x j => (x = 0 ∧ j = 8) ∨ (x = 0 ∧ j = 9) ∨ (x = 80) ∨ (x = 81)
set_option maxRecDepth 100000 in
set_option maxHeartbeats 4000000 in
theorem fw_X6_fits_69 {fu : Nat} {r : Int32} {M' : Mm} : ∀ (n : Nat) {c4 : Nat} {x5 : Int32} {x6 : Int32} {x7 : Int32} {M : Mm}, F_X6_fits_69 fu n M c4 x5 x6 x7 = some (r, M') → Out P_X6_fits M M' := by
  intro n
  induction n with
  | zero =>
    intro c4 x5 x6 x7 M hF
    cases hF
  | succ n ih =>
    intro c4 x5 x6 x7 M hF
    have hO : Out P_X6_fits M M := Out.rf
    unfold F_X6_fits_69 at hF
    rcases ifX hF with ⟨b1, hF⟩ | ⟨b1, hF⟩
    · have hq := b1
      obtain ⟨M2, hO, hF⟩ := lt1W (P := fun q => Out P_X6_fits M q) hF (by first | exact hO.pI (by simp [P_X6_fits]) | exact hO.pL (by simp [P_X6_fits]))
      cases hF; exact hO
    · have hq := b1
      obtain ⟨r4, h3, hF⟩ := ob1S hF
      rcases ifX hF with ⟨b5, hF⟩ | ⟨b5, hF⟩
      · have hq := b5
        exact hO.trans (ih hF)
      · have hq := b5
        exact hO.trans (ih hF)
set_option maxRecDepth 100000 in
set_option maxHeartbeats 4000000 in
theorem fr_X6_fits {fu : Nat} {M : Mm} {x1 : Int32} {x2 : Int32} {r : Int32} {M' : Mm} (hF : F_X6_fits fu M x1 x2 = some (r, M')) : Out P_X6_fits M M' := by
  have hO : Out P_X6_fits M M := Out.rf
  unfold F_X6_fits at hF
  obtain ⟨r2, M3, h1, hF⟩ := ob2S hF
  have hO := hO.mono (fr_X6_refusalOfSeen h1) (fun x j hx => hx.elim (fun h => Or.inl h) (fun hx => Or.inr (Or.inr (Or.inl hx))))
  obtain ⟨r5, h4, hF⟩ := ob1S hF
  cases r5 with
  | none =>
    have hF := op1N hF
    rcases (ifX hF).symm with ⟨b8, hF⟩ | ⟨b8, hF⟩
    · have hq := b8
      cases hF; exact hO
    · have hq := b8
      cases hF; exact hO
  | some c6 =>
    obtain ⟨g7, hF⟩ := ifO (op1C hF)
    have g7 := Decidable.not_not.mp g7
    rcases (ifX hF).symm with ⟨b9, hF⟩ | ⟨b9, hF⟩
    · have hq := b9
      cases hF; exact hO
    · have hq := b9
      obtain ⟨r11, h10, hF⟩ := ob1S hF
      obtain ⟨r13, h12, hF⟩ := ob1S hF
      obtain ⟨M15, h14, hF⟩ := ob1S hF
      have hO := hO.mono (fr_X2_foreseeMelted h14) (fun x j hx => Or.inr (Or.inr (Or.inr (hx))))
      exact hO.trans (fw_X6_fits_69 _ hF)
abbrev P_X6_kinds : Nat → Nat → Prop := fun x j => (x = 0 ∧ j = 8) ∨ (x = 80) ∨ (x = 81)
set_option maxRecDepth 100000 in
set_option maxHeartbeats 4000000 in
theorem fw_X6_kinds_31 {fu : Nat} {r : Int32} {M' : Mm} : ∀ (n : Nat) {x1 : Int32} {c4 : Nat} {x5 : Int32} {x6 : Int32} {M : Mm}, F_X6_kinds_31 fu n M x1 c4 x5 x6 = some (r, M') → Out P_X6_kinds M M' := by
  intro n
  induction n with
  | zero =>
    intro x1 c4 x5 x6 M hF
    cases hF
  | succ n ih =>
    intro x1 c4 x5 x6 M hF
    have hO : Out P_X6_kinds M M := Out.rf
    unfold F_X6_kinds_31 at hF
    rcases ifX hF with ⟨b1, hF⟩ | ⟨b1, hF⟩
    · have hq := b1
      cases hF; exact hO
    · have hq := b1
      obtain ⟨r3, h2, hF⟩ := ob1S hF
      obtain ⟨M5, h4, hF⟩ := ob1S hF
      have hO := hO.mono (fr_X2_foreseeMelted h4) (fun x j hx => Or.inr (Or.inr (hx)))
      obtain ⟨r7, h6, hF⟩ := ob1S hF
      obtain ⟨r9, h8, hF⟩ := ob1S hF
      rcases ifX hF with ⟨b10, hF⟩ | ⟨b10, hF⟩
      · have hq := b10
        exact hO.trans (ih hF)
      · have hq := b10
        exact hO.trans (ih hF)
set_option maxRecDepth 100000 in
set_option maxHeartbeats 4000000 in
theorem fr_X6_kinds {fu : Nat} {M : Mm} {x1 : Int32} {x2 : Int32} {r : Int32} {M' : Mm} (hF : F_X6_kinds fu M x1 x2 = some (r, M')) : Out P_X6_kinds M M' := by
  have hO : Out P_X6_kinds M M := Out.rf
  unfold F_X6_kinds at hF
  obtain ⟨r2, M3, h1, hF⟩ := ob2S hF
  have hO := hO.mono (fr_X6_refusalOfSeen h1) (fun x j hx => hx.elim (fun h => Or.inl h) (fun hx => Or.inr (Or.inl hx)))
  obtain ⟨r5, h4, hF⟩ := ob1S hF
  cases r5 with
  | none =>
    have hF := op1N hF
    rcases (ifX hF).symm with ⟨b8, hF⟩ | ⟨b8, hF⟩
    · have hq := b8
      cases hF; exact hO
    · have hq := b8
      cases hF; exact hO
  | some c6 =>
    obtain ⟨g7, hF⟩ := ifO (op1C hF)
    have g7 := Decidable.not_not.mp g7
    rcases (ifX hF).symm with ⟨b9, hF⟩ | ⟨b9, hF⟩
    · have hq := b9
      cases hF; exact hO
    · have hq := b9
      exact hO.trans (fw_X6_kinds_31 _ hF)
abbrev P_X6_game : Nat → Nat → Prop := fun x j => (x = 74 ∧ j = 0) ∨ (x = 74 ∧ j = 1) ∨ (x = 74 ∧ j = 2) ∨ (x = 75) ∨ (x = 76)
set_option maxRecDepth 100000 in
set_option maxHeartbeats 4000000 in
theorem fr_X6_game {fu : Nat} {M : Mm} {x1 : Int32} {r : Int32} {M' : Mm} (hF : F_X6_game fu M x1 = some (r, M')) : Out P_X6_game M M' := by
  have hO : Out P_X6_game M M := Out.rf
  unfold F_X6_game at hF
  rcases ifX hF with ⟨b1, hF⟩ | ⟨b1, hF⟩
  · have hq := b1
    cases hF; exact hO
  · have hq := b1
    rcases ifX hF with ⟨b2, hF⟩ | ⟨b2, hF⟩
    · have hq := b2
      rcases (ifX hF).symm with ⟨b3, hF⟩ | ⟨b3, hF⟩
      · have hq := b3
        obtain ⟨M5, h4, hF⟩ := ob1S hF
        have hO := hO.mono (fr_X1_prepare h4) (fun x j hx => hx.elim (fun h => Or.inl h) (fun hx => hx.elim (fun h => Or.inr (Or.inl h)) (fun hx => hx.elim (fun h => Or.inr (Or.inr (Or.inl h))) (fun hx => hx.elim (fun h => Or.inr (Or.inr (Or.inr (Or.inl h)))) (fun hx => Or.inr (Or.inr (Or.inr (Or.inr (hx)))))))))
        obtain ⟨r7, M8, h6, hF⟩ := ob2S hF
        have hO := hO.mono (fr_X1_endsCarried h6) (fun x j hx => hx.elim (fun h => Or.inr (Or.inl h)) (fun hx => Or.inr (Or.inr (Or.inr (Or.inl hx)))))
        rcases ifX hF with ⟨b9, hF⟩ | ⟨b9, hF⟩
        · have hq := b9
          cases hF; exact hO
        · have hq := b9
          cases hF; exact hO
      · have hq := b3
        cases hF; exact hO
    · have hq := b2
      cases hF; exact hO
abbrev P_X6_first : Nat → Nat → Prop := fun x j => (x = 74 ∧ j = 0) ∨ (x = 74 ∧ j = 1) ∨ (x = 74 ∧ j = 2) ∨ (x = 75) ∨ (x = 76)
set_option maxRecDepth 100000 in
set_option maxHeartbeats 4000000 in
theorem fr_X6_first {fu : Nat} {M : Mm} {x1 : Int32} {r : Int32} {M' : Mm} (hF : F_X6_first fu M x1 = some (r, M')) : Out P_X6_first M M' := by
  have hO : Out P_X6_first M M := Out.rf
  unfold F_X6_first at hF
  rcases ifX hF with ⟨b1, hF⟩ | ⟨b1, hF⟩
  · have hq := b1
    cases hF; exact hO
  · have hq := b1
    rcases ifX hF with ⟨b2, hF⟩ | ⟨b2, hF⟩
    · have hq := b2
      rcases (ifX hF).symm with ⟨b3, hF⟩ | ⟨b3, hF⟩
      · have hq := b3
        obtain ⟨M5, h4, hF⟩ := ob1S hF
        have hO := hO.mono (fr_X1_prepare h4) (fun x j hx => hx.elim (fun h => Or.inl h) (fun hx => hx.elim (fun h => Or.inr (Or.inl h)) (fun hx => hx.elim (fun h => Or.inr (Or.inr (Or.inl h))) (fun hx => hx.elim (fun h => Or.inr (Or.inr (Or.inr (Or.inl h)))) (fun hx => Or.inr (Or.inr (Or.inr (Or.inr (hx)))))))))
        obtain ⟨r7, M8, h6, hF⟩ := ob2S hF
        have hO := hO.mono (fr_X1_winningMove h6) (fun x j hx => hx.elim (fun h => Or.inr (Or.inl h)) (fun hx => Or.inr (Or.inr (Or.inr (Or.inl hx)))))
        cases hF; exact hO
      · have hq := b3
        cases hF; exact hO
    · have hq := b2
      cases hF; exact hO
abbrev P_X6_tellChance : Nat → Nat → Prop := fun x j => (x = 0 ∧ j = 10) ∨ (x = 0 ∧ j = 11)
set_option maxRecDepth 100000 in
set_option maxHeartbeats 4000000 in
theorem fr_X6_tellChance {fu : Nat} {M : Mm} {x1 : Int64} {x3 : Int64} {M' : Mm} (hF : F_X6_tellChance fu M x1 x3 = some M') : Out P_X6_tellChance M M' := by
  have hO : Out P_X6_tellChance M M := Out.rf
  unfold F_X6_tellChance at hF
  obtain ⟨r2, h1, hF⟩ := ob1S hF
  rcases ifX hF with ⟨b3, hF⟩ | ⟨b3, hF⟩
  · have hq := b3
    cases hF; exact hO
  · have hq := b3
    obtain ⟨n4, hF⟩ := ifO hF
    obtain ⟨M5, hO, hF⟩ := lt1W (P := fun q => Out P_X6_tellChance M q) hF (by first | exact hO.pI (by simp [P_X6_tellChance]) | exact hO.pL (by simp [P_X6_tellChance]))
    obtain ⟨n6, hF⟩ := ifO hF
    obtain ⟨M7, hO, hF⟩ := lt1W (P := fun q => Out P_X6_tellChance M q) hF (by first | exact hO.pI (by simp [P_X6_tellChance]) | exact hO.pL (by simp [P_X6_tellChance]))
    cases hF; exact hO
abbrev P_X6_odds : Nat → Nat → Prop := fun x j => (x = 0 ∧ j = 10) ∨ (x = 0 ∧ j = 11) ∨ (x = 77 ∧ j = 2) ∨ (x = 78) ∨ (x = 79)
set_option maxRecDepth 100000 in
set_option maxHeartbeats 4000000 in
theorem fr_X6_odds {fu : Nat} {M : Mm} {x1 : Int32} {x2 : Int32} {x3 : Int32} {r : Int32} {M' : Mm} (hF : F_X6_odds fu M x1 x2 x3 = some (r, M')) : Out P_X6_odds M M' := by
  have hO : Out P_X6_odds M M := Out.rf
  unfold F_X6_odds at hF
  obtain ⟨r2, h1, hF⟩ := ob1S hF
  rcases ifX hF with ⟨b3, hF⟩ | ⟨b3, hF⟩
  · have hq := b3
    cases hF; exact hO
  · have hq := b3
    rcases ifX hF with ⟨b4, hF⟩ | ⟨b4, hF⟩
    · have hq := b4
      cases hF; exact hO
    · have hq := b4
      rcases ifX hF with ⟨b5, hF⟩ | ⟨b5, hF⟩
      · have hq := b5
        cases hF; exact hO
      · have hq := b5
        rcases ifX hF with ⟨b6, hF⟩ | ⟨b6, hF⟩
        · have hq := b6
          cases hF; exact hO
        · have hq := b6
          rcases ifX hF with ⟨b7, hF⟩ | ⟨b7, hF⟩
          · have hq := b7
            obtain ⟨M9, h8, hF⟩ := ob1S hF
            have hO := hO.mono (fr_X0_weigh h8) (fun x j hx => hx.elim (fun h => Or.inr (Or.inr (Or.inl h))) (fun hx => hx.elim (fun h => Or.inr (Or.inr (Or.inr (Or.inl h)))) (fun hx => Or.inr (Or.inr (Or.inr (Or.inr (hx)))))))
            obtain ⟨r11, h10, hF⟩ := ob1S hF
            obtain ⟨M13, h12, hF⟩ := ob1S hF
            have hO := hO.mono (fr_X6_tellChance h12) (fun x j hx => hx.elim (fun h => Or.inl h) (fun hx => Or.inr (Or.inl hx)))
            cases hF; exact hO
          · have hq := b7
            cases hF; exact hO
abbrev P_X6_mid : Nat → Nat → Prop := fun x j => (x = 0 ∧ j = 10) ∨ (x = 0 ∧ j = 11) ∨ (x = 77 ∧ j = 2) ∨ (x = 78) ∨ (x = 79)
set_option maxRecDepth 100000 in
set_option maxHeartbeats 4000000 in
theorem fr_X6_mid {fu : Nat} {M : Mm} {x1 : Int32} {x2 : Int32} {x3 : Int32} {r : Int32} {M' : Mm} (hF : F_X6_mid fu M x1 x2 x3 = some (r, M')) : Out P_X6_mid M M' := by
  have hO : Out P_X6_mid M M := Out.rf
  unfold F_X6_mid at hF
  obtain ⟨r2, h1, hF⟩ := ob1S hF
  rcases ifX hF with ⟨b3, hF⟩ | ⟨b3, hF⟩
  · have hq := b3
    cases hF; exact hO
  · have hq := b3
    rcases ifX hF with ⟨b4, hF⟩ | ⟨b4, hF⟩
    · have hq := b4
      cases hF; exact hO
    · have hq := b4
      rcases ifX hF with ⟨b5, hF⟩ | ⟨b5, hF⟩
      · have hq := b5
        cases hF; exact hO
      · have hq := b5
        rcases ifX hF with ⟨b6, hF⟩ | ⟨b6, hF⟩
        · have hq := b6
          cases hF; exact hO
        · have hq := b6
          rcases ifX hF with ⟨b7, hF⟩ | ⟨b7, hF⟩
          · have hq := b7
            obtain ⟨M9, h8, hF⟩ := ob1S hF
            have hO := hO.mono (fr_X0_weigh h8) (fun x j hx => hx.elim (fun h => Or.inr (Or.inr (Or.inl h))) (fun hx => hx.elim (fun h => Or.inr (Or.inr (Or.inr (Or.inl h)))) (fun hx => Or.inr (Or.inr (Or.inr (Or.inr (hx)))))))
            obtain ⟨r11, h10, hF⟩ := ob1S hF
            obtain ⟨M13, h12, hF⟩ := ob1S hF
            have hO := hO.mono (fr_X6_tellChance h12) (fun x j hx => hx.elim (fun h => Or.inl h) (fun hx => Or.inr (Or.inl hx)))
            cases hF; exact hO
          · have hq := b7
            cases hF; exact hO
abbrev P_X6_lots : Nat → Nat → Prop := fun x j => (x = 24 ∧ j = 2) ∨ (x = 24 ∧ j = 3) ∨ (x = 28) ∨ (x = 29) ∨ (x = 32) ∨ (x = 33) ∨ (x = 34)
set_option maxRecDepth 100000 in
set_option maxHeartbeats 4000000 in
theorem fw_X6_lots_111 {fu : Nat} {r : Int32} {M' : Mm} {k72 : Mm → Int32 → Int32 → Int64 → Int32 → Option (Int32 × Mm)} (hk_72 : ∀ {x1 : Int32} {x2 : Int32} {x4 : Int64} {x6 : Int32} {M : Mm}, k72 M x1 x2 x4 x6 = some (r, M') → Out P_X6_lots M M') {x1 : Int32} {x2 : Int32} {x4 : Int64} {x6 : Int32} {t1 : Int32} {M : Mm} (hF : F_X6_lots_111 fu k72 M x1 x2 x4 x6 t1 = some (r, M')) : Out P_X6_lots M M' := by
  have hO : Out P_X6_lots M M := Out.rf
  unfold F_X6_lots_111 at hF
  obtain ⟨M2, h1, hF⟩ := ob1S hF
  have hO := hO.mono (fr_X2_act h1) (fun x j hx => hx.elim (fun h => Or.inl h) (fun hx => hx.elim (fun h => Or.inr (Or.inl h)) (fun hx => hx.elim (fun h => Or.inr (Or.inr (Or.inr (Or.inr (Or.inr (Or.inr (h))))))) (fun hx => hx.elim (fun h => Or.inr (Or.inr (Or.inl h))) (fun hx => hx.elim (fun h => Or.inr (Or.inr (Or.inr (Or.inl h)))) (fun hx => hx.elim (fun h => Or.inr (Or.inr (Or.inr (Or.inr (Or.inl h))))) (fun hx => Or.inr (Or.inr (Or.inr (Or.inr (Or.inr (Or.inl hx))))))))))))
  exact hO.trans (hk_72 hF)
set_option maxRecDepth 100000 in
set_option maxHeartbeats 4000000 in
theorem fw_X6_lots_72 {fu : Nat} {r : Int32} {M' : Mm} : ∀ (n : Nat) {x1 : Int32} {x2 : Int32} {x4 : Int64} {x6 : Int32} {M : Mm}, F_X6_lots_72 fu n M x1 x2 x4 x6 = some (r, M') → Out P_X6_lots M M' := by
  intro n
  induction n with
  | zero =>
    intro x1 x2 x4 x6 M hF
    cases hF
  | succ n ih =>
    intro x1 x2 x4 x6 M hF
    have hO : Out P_X6_lots M M := Out.rf
    unfold F_X6_lots_72 at hF
    rcases ifX hF with ⟨b1, hF⟩ | ⟨b1, hF⟩
    · have hq := b1
      obtain ⟨r3, h2, hF⟩ := ob1S hF
      obtain ⟨r5, h4, hF⟩ := ob1S hF
      cases hF; exact hO
    · have hq := b1
      obtain ⟨y6, ey6, hF⟩ := lt1E hF
      rcases ifX hF with ⟨b7, hF⟩ | ⟨b7, hF⟩
      · have hq := b7
        exact hO.trans (fw_X6_lots_111 (hk_72 := ih) hF)
      · have hq := b7
        exact hO.trans (fw_X6_lots_111 (hk_72 := ih) hF)
set_option maxRecDepth 100000 in
set_option maxHeartbeats 4000000 in
theorem fr_X6_lots {fu : Nat} {M : Mm} {x1 : Int32} {x2 : Int32} {x3 : Int32} {r : Int32} {M' : Mm} (hF : F_X6_lots fu M x1 x2 x3 = some (r, M')) : Out P_X6_lots M M' := by
  have hO : Out P_X6_lots M M := Out.rf
  unfold F_X6_lots at hF
  rcases ifX hF with ⟨b1, hF⟩ | ⟨b1, hF⟩
  · have hq := b1
    cases hF; exact hO
  · have hq := b1
    rcases ifX hF with ⟨b2, hF⟩ | ⟨b2, hF⟩
    · have hq := b2
      cases hF; exact hO
    · have hq := b2
      rcases ifX hF with ⟨b3, hF⟩ | ⟨b3, hF⟩
      · have hq := b3
        cases hF; exact hO
      · have hq := b3
        rcases ifX hF with ⟨b4, hF⟩ | ⟨b4, hF⟩
        · have hq := b4
          cases hF; exact hO
        · have hq := b4
          rcases ifX hF with ⟨b5, hF⟩ | ⟨b5, hF⟩
          · have hq := b5
            cases hF; exact hO
          · have hq := b5
            rcases ifX hF with ⟨b6, hF⟩ | ⟨b6, hF⟩
            · have hq := b6
              rcases (ifX hF).symm with ⟨b7, hF⟩ | ⟨b7, hF⟩
              · have hq := b7
                rcases ifX hF with ⟨b8, hF⟩ | ⟨b8, hF⟩
                · have hq := b8
                  exact hO.trans (fw_X6_lots_72 _ hF)
                · have hq := b8
                  cases hF; exact hO
              · have hq := b7
                cases hF; exact hO
            · have hq := b6
              cases hF; exact hO
abbrev P_X7_finds : Nat → Nat → Prop := fun x j => (x = 86 ∧ j = 19) ∨ (x = 99)
set_option maxRecDepth 100000 in
set_option maxHeartbeats 4000000 in
theorem fr_X7_finds {fu : Nat} {M : Mm} {x1 : Int32} {r : Int32} {M' : Mm} (hF : F_X7_finds fu M x1 = some (r, M')) : Out P_X7_finds M M' := by
  have hO : Out P_X7_finds M M := Out.rf
  unfold F_X7_finds at hF
  obtain ⟨M1, hO, hF⟩ := lt1W (P := fun q => Out P_X7_finds M q) hF (by first | exact hO.pI (by simp [P_X7_finds]) | exact hO.pL (by simp [P_X7_finds]))
  obtain ⟨n2, hF⟩ := ifO hF
  obtain ⟨n3, hF⟩ := ifO hF
  obtain ⟨M4, hO, hF⟩ := lt1W (P := fun q => Out P_X7_finds M q) hF (by first | exact hO.pI (by simp [P_X7_finds]) | exact hO.pL (by simp [P_X7_finds]))
  cases hF; exact hO
abbrev P_X7_tells : Nat → Nat → Prop := fun x j => (x = 86 ∧ j = 16)
set_option maxRecDepth 100000 in
set_option maxHeartbeats 4000000 in
theorem fr_X7_tells {fu : Nat} {M : Mm} {x1 : Int32} {r : Int32} {M' : Mm} (hF : F_X7_tells fu M x1 = some (r, M')) : Out P_X7_tells M M' := by
  have hO : Out P_X7_tells M M := Out.rf
  unfold F_X7_tells at hF
  obtain ⟨M1, hO, hF⟩ := lt1W (P := fun q => Out P_X7_tells M q) hF (by first | exact hO.pI (by simp [P_X7_tells]) | exact hO.pL (by simp [P_X7_tells]))
  cases hF; exact hO
abbrev P_X7_layRow : Nat → Nat → Prop := fun x j => (x = 87) ∨ (x = 88)
set_option maxRecDepth 100000 in
set_option maxHeartbeats 4000000 in
theorem fw_X7_layRow_9 {fu : Nat} {M' : Mm} : ∀ (n : Nat) {x1 : Int32} {x3 : Int32} {M : Mm}, F_X7_layRow_9 fu n M x1 x3 = some M' → Out P_X7_layRow M M' := by
  intro n
  induction n with
  | zero =>
    intro x1 x3 M hF
    cases hF
  | succ n ih =>
    intro x1 x3 M hF
    have hO : Out P_X7_layRow M M := Out.rf
    unfold F_X7_layRow_9 at hF
    rcases ifX hF with ⟨b1, hF⟩ | ⟨b1, hF⟩
    · have hq := b1
      cases hF; exact hO
    · have hq := b1
      obtain ⟨n2, hF⟩ := ifO hF
      obtain ⟨M3, hO, hF⟩ := lt1W (P := fun q => Out P_X7_layRow M q) hF (by first | exact hO.pI (by simp [P_X7_layRow]) | exact hO.pL (by simp [P_X7_layRow]))
      exact hO.trans (ih hF)
set_option maxRecDepth 100000 in
set_option maxHeartbeats 4000000 in
theorem fr_X7_layRow {fu : Nat} {M : Mm} {x1 : Int32} {x2 : Int32} {M' : Mm} (hF : F_X7_layRow fu M x1 x2 = some M') : Out P_X7_layRow M M' := by
  have hO : Out P_X7_layRow M M := Out.rf
  unfold F_X7_layRow at hF
  obtain ⟨n1, hF⟩ := ifO hF
  obtain ⟨M2, hO, hF⟩ := lt1W (P := fun q => Out P_X7_layRow M q) hF (by first | exact hO.pI (by simp [P_X7_layRow]) | exact hO.pL (by simp [P_X7_layRow]))
  exact hO.trans (fw_X7_layRow_9 _ hF)
abbrev P_X7_row : Nat → Nat → Prop := fun x j => (x = 86 ∧ j = 19) ∨ (x = 87) ∨ (x = 88) ∨ (x = 99)
set_option maxRecDepth 100000 in
set_option maxHeartbeats 4000000 in
theorem fr_X7_row {fu : Nat} {M : Mm} {x1 : Int32} {x2 : Int32} {r : Int32} {M' : Mm} (hF : F_X7_row fu M x1 x2 = some (r, M')) : Out P_X7_row M M' := by
  have hO : Out P_X7_row M M := Out.rf
  unfold F_X7_row at hF
  obtain ⟨r2, h1, hF⟩ := ob1S hF
  rcases ifX hF with ⟨b3, hF⟩ | ⟨b3, hF⟩
  · have hq := b3
    cases hF; exact hO
  · have hq := b3
    rcases ifX hF with ⟨b4, hF⟩ | ⟨b4, hF⟩
    · have hq := b4
      rcases ifX hF with ⟨b5, hF⟩ | ⟨b5, hF⟩
      · have hq := b5
        obtain ⟨M7, h6, hF⟩ := ob1S hF
        have hO := hO.mono (fr_X7_layRow h6) (fun x j hx => hx.elim (fun h => Or.inr (Or.inl h)) (fun hx => Or.inr (Or.inr (Or.inl hx))))
        cases hF; exact hO
      · have hq := b5
        obtain ⟨r9, M10, h8, hF⟩ := ob2S hF
        have hO := hO.mono (fr_X7_finds h8) (fun x j hx => hx.elim (fun h => Or.inl h) (fun hx => Or.inr (Or.inr (Or.inr (hx)))))
        cases hF; exact hO
    · have hq := b4
      cases hF; exact hO
abbrev P_X7_lay : Nat → Nat → Prop := fun x j => (x = 86 ∧ j = 16) ∨ (x = 86 ∧ j = 19) ∨ (x = 87) ∨ (x = 99)
set_option maxRecDepth 100000 in
set_option maxHeartbeats 4000000 in
theorem fr_X7_lay {fu : Nat} {M : Mm} {x1 : Int32} {x2 : Int32} {x3 : Int32} {r : Int32} {M' : Mm} (hF : F_X7_lay fu M x1 x2 x3 = some (r, M')) : Out P_X7_lay M M' := by
  have hO : Out P_X7_lay M M := Out.rf
  unfold F_X7_lay at hF
  obtain ⟨r2, h1, hF⟩ := ob1S hF
  rcases (ifX hF).symm with ⟨b3, hF⟩ | ⟨b3, hF⟩
  · have hq := b3
    obtain ⟨n4, hF⟩ := ifO hF
    rcases (ifX hF).symm with ⟨b5, hF⟩ | ⟨b5, hF⟩
    · have hq := b5
      obtain ⟨n6, hF⟩ := ifO hF
      obtain ⟨r8, h7, hF⟩ := ob1S hF
      rcases (ifX hF).symm with ⟨b9, hF⟩ | ⟨b9, hF⟩
      · have hq := b9
        obtain ⟨n10, hF⟩ := ifO hF
        obtain ⟨y11, ey11, hF⟩ := lt1E hF
        obtain ⟨n12, hF⟩ := ifO hF
        obtain ⟨M13, hO, hF⟩ := lt1W (P := fun q => Out P_X7_lay M q) hF (by first | exact hO.pI (by simp [P_X7_lay]) | exact hO.pL (by simp [P_X7_lay]))
        obtain ⟨r15, M16, h14, hF⟩ := ob2S hF
        have hO := hO.mono (fr_X7_tells h14) (fun x j hx => Or.inl hx)
        cases hF; exact hO
      · have hq := b9
        obtain ⟨r18, M19, h17, hF⟩ := ob2S hF
        have hO := hO.mono (fr_X7_finds h17) (fun x j hx => hx.elim (fun h => Or.inr (Or.inl h)) (fun hx => Or.inr (Or.inr (Or.inr (hx)))))
        cases hF; exact hO
    · have hq := b5
      obtain ⟨r21, M22, h20, hF⟩ := ob2S hF
      have hO := hO.mono (fr_X7_finds h20) (fun x j hx => hx.elim (fun h => Or.inr (Or.inl h)) (fun hx => Or.inr (Or.inr (Or.inr (hx)))))
      cases hF; exact hO
  · have hq := b3
    cases hF; exact hO
abbrev P_X7_at : Nat → Nat → Prop := fun x j => (x = 86 ∧ j = 16) ∨ (x = 86 ∧ j = 19) ∨ (x = 99)
set_option maxRecDepth 100000 in
set_option maxHeartbeats 4000000 in
theorem fr_X7_at {fu : Nat} {M : Mm} {x1 : Int32} {x2 : Int32} {r : Int32} {M' : Mm} (hF : F_X7_at fu M x1 x2 = some (r, M')) : Out P_X7_at M M' := by
  have hO : Out P_X7_at M M := Out.rf
  unfold F_X7_at at hF
  obtain ⟨r2, h1, hF⟩ := ob1S hF
  rcases (ifX hF).symm with ⟨b3, hF⟩ | ⟨b3, hF⟩
  · have hq := b3
    obtain ⟨n4, hF⟩ := ifO hF
    rcases (ifX hF).symm with ⟨b5, hF⟩ | ⟨b5, hF⟩
    · have hq := b5
      obtain ⟨n6, hF⟩ := ifO hF
      obtain ⟨r8, h7, hF⟩ := ob1S hF
      rcases ifX hF with ⟨b9, hF⟩ | ⟨b9, hF⟩
      · have hq := b9
        obtain ⟨r11, M12, h10, hF⟩ := ob2S hF
        have hO := hO.mono (fr_X7_finds h10) (fun x j hx => hx.elim (fun h => Or.inr (Or.inl h)) (fun hx => Or.inr (Or.inr (hx))))
        cases hF; exact hO
      · have hq := b9
        obtain ⟨n13, hF⟩ := ifO hF
        obtain ⟨r15, M16, h14, hF⟩ := ob2S hF
        have hO := hO.mono (fr_X7_tells h14) (fun x j hx => Or.inl hx)
        cases hF; exact hO
    · have hq := b5
      obtain ⟨r18, M19, h17, hF⟩ := ob2S hF
      have hO := hO.mono (fr_X7_finds h17) (fun x j hx => hx.elim (fun h => Or.inr (Or.inl h)) (fun hx => Or.inr (Or.inr (hx))))
      cases hF; exact hO
  · have hq := b3
    cases hF; exact hO
abbrev P_X7_tear : Nat → Nat → Prop := fun x j => (x = 86 ∧ j = 19) ∨ (x = 88) ∨ (x = 99)
set_option maxRecDepth 100000 in
set_option maxHeartbeats 4000000 in
theorem fr_X7_tear {fu : Nat} {M : Mm} {x1 : Int32} {r : Int32} {M' : Mm} (hF : F_X7_tear fu M x1 = some (r, M')) : Out P_X7_tear M M' := by
  have hO : Out P_X7_tear M M := Out.rf
  unfold F_X7_tear at hF
  obtain ⟨r2, h1, hF⟩ := ob1S hF
  rcases (ifX hF).symm with ⟨b3, hF⟩ | ⟨b3, hF⟩
  · have hq := b3
    obtain ⟨n4, hF⟩ := ifO hF
    rcases (ifX hF).symm with ⟨b5, hF⟩ | ⟨b5, hF⟩
    · have hq := b5
      obtain ⟨n6, hF⟩ := ifO hF
      obtain ⟨M7, hO, hF⟩ := lt1W (P := fun q => Out P_X7_tear M q) hF (by first | exact hO.pI (by simp [P_X7_tear]) | exact hO.pL (by simp [P_X7_tear]))
      cases hF; exact hO
    · have hq := b5
      obtain ⟨r9, M10, h8, hF⟩ := ob2S hF
      have hO := hO.mono (fr_X7_finds h8) (fun x j hx => hx.elim (fun h => Or.inl h) (fun hx => Or.inr (Or.inr (hx))))
      cases hF; exact hO
  · have hq := b3
    cases hF; exact hO
abbrev P_X7_copy : Nat → Nat → Prop := fun x j => (x = 100) ∨ (x = 86 ∧ j = 19) ∨ (x = 87) ∨ (x = 99)
set_option maxRecDepth 100000 in
set_option maxHeartbeats 4000000 in
theorem fw_X7_copy_49 {fu : Nat} {r : Int32} {M' : Mm} {M : Mm} (hF : F_X7_copy_49 fu M = some (r, M')) : Out P_X7_copy M M' := by
  have hO : Out P_X7_copy M M := Out.rf
  unfold F_X7_copy_49 at hF
  obtain ⟨r2, M3, h1, hF⟩ := ob2S hF
  have hO := hO.mono (fr_X7_finds h1) (fun x j hx => hx.elim (fun h => Or.inr (Or.inl h)) (fun hx => Or.inr (Or.inr (Or.inr (hx)))))
  cases hF; exact hO
set_option maxRecDepth 100000 in
set_option maxHeartbeats 4000000 in
theorem fw_X7_copy_99 {fu : Nat} {r : Int32} {M' : Mm} {M : Mm} (hF : F_X7_copy_99 fu M = some (r, M')) : Out P_X7_copy M M' := by
  have hO : Out P_X7_copy M M := Out.rf
  unfold F_X7_copy_99 at hF
  obtain ⟨r2, M3, h1, hF⟩ := ob2S hF
  have hO := hO.mono (fr_X7_finds h1) (fun x j hx => hx.elim (fun h => Or.inr (Or.inl h)) (fun hx => Or.inr (Or.inr (Or.inr (hx)))))
  cases hF; exact hO
set_option maxRecDepth 100000 in
set_option maxHeartbeats 4000000 in
theorem fw_X7_copy_145 {fu : Nat} {r : Int32} {M' : Mm} : ∀ (n : Nat) {x3 : Int32} {x4 : Int32} {x5 : Int32} {x6 : Int32} {M : Mm}, F_X7_copy_145 fu n M x3 x4 x5 x6 = some (r, M') → Out P_X7_copy M M' := by
  intro n
  induction n with
  | zero =>
    intro x3 x4 x5 x6 M hF
    cases hF
  | succ n ih =>
    intro x3 x4 x5 x6 M hF
    have hO : Out P_X7_copy M M := Out.rf
    unfold F_X7_copy_145 at hF
    rcases ifX hF with ⟨b1, hF⟩ | ⟨b1, hF⟩
    · have hq := b1
      cases hF; exact hO
    · have hq := b1
      obtain ⟨n2, hF⟩ := ifO hF
      obtain ⟨n3, hF⟩ := ifO hF
      obtain ⟨M4, hO, hF⟩ := lt1W (P := fun q => Out P_X7_copy M q) hF (by first | exact hO.pI (by simp [P_X7_copy]) | exact hO.pL (by simp [P_X7_copy]))
      exact hO.trans (ih hF)
set_option maxRecDepth 100000 in
set_option maxHeartbeats 4000000 in
theorem fw_X7_copy_108 {fu : Nat} {r : Int32} {M' : Mm} : ∀ (n : Nat) {x1 : Int32} {x2 : Int32} {x3 : Int32} {x4 : Int32} {x5 : Int32} {x6 : Int32} {M : Mm}, F_X7_copy_108 fu n M x1 x2 x3 x4 x5 x6 = some (r, M') → Out P_X7_copy M M' := by
  intro n
  induction n with
  | zero =>
    intro x1 x2 x3 x4 x5 x6 M hF
    cases hF
  | succ n ih =>
    intro x1 x2 x3 x4 x5 x6 M hF
    have hO : Out P_X7_copy M M := Out.rf
    unfold F_X7_copy_108 at hF
    rcases ifX hF with ⟨b1, hF⟩ | ⟨b1, hF⟩
    · have hq := b1
      exact hO.trans (fw_X7_copy_145 _ hF)
    · have hq := b1
      obtain ⟨n2, hF⟩ := ifO hF
      obtain ⟨n3, hF⟩ := ifO hF
      obtain ⟨M4, hO, hF⟩ := lt1W (P := fun q => Out P_X7_copy M q) hF (by first | exact hO.pI (by simp [P_X7_copy]) | exact hO.pL (by simp [P_X7_copy]))
      exact hO.trans (ih hF)
set_option maxRecDepth 100000 in
set_option maxHeartbeats 4000000 in
theorem fr_X7_copy {fu : Nat} {M : Mm} {x1 : Int32} {x2 : Int32} {x3 : Int32} {x4 : Int32} {x5 : Int32} {r : Int32} {M' : Mm} (hF : F_X7_copy fu M x1 x2 x3 x4 x5 = some (r, M')) : Out P_X7_copy M M' := by
  have hO : Out P_X7_copy M M := Out.rf
  unfold F_X7_copy at hF
  obtain ⟨r2, h1, hF⟩ := ob1S hF
  rcases ifX hF with ⟨b3, hF⟩ | ⟨b3, hF⟩
  · have hq := b3
    cases hF; exact hO
  · have hq := b3
    obtain ⟨r5, h4, hF⟩ := ob1S hF
    rcases (ifX hF).symm with ⟨b6, hF⟩ | ⟨b6, hF⟩
    · have hq := b6
      rcases ifX hF with ⟨b7, hF⟩ | ⟨b7, hF⟩
      · have hq := b7
        obtain ⟨n8, hF⟩ := ifO hF
        rcases ifX hF with ⟨b9, hF⟩ | ⟨b9, hF⟩
        · have hq := b9
          exact hO.trans (fw_X7_copy_49 hF)
        · have hq := b9
          obtain ⟨n10, hF⟩ := ifO hF
          rcases (ifX hF).symm with ⟨b11, hF⟩ | ⟨b11, hF⟩
          · have hq := b11
            rcases ifX hF with ⟨b12, hF⟩ | ⟨b12, hF⟩
            · have hq := b12
              exact hO.trans (fw_X7_copy_99 hF)
            · have hq := b12
              rcases ifX hF with ⟨b13, hF⟩ | ⟨b13, hF⟩
              · have hq := b13
                exact hO.trans (fw_X7_copy_99 hF)
              · have hq := b13
                obtain ⟨n14, hF⟩ := ifO hF
                rcases ifX hF with ⟨b15, hF⟩ | ⟨b15, hF⟩
                · have hq := b15
                  exact hO.trans (fw_X7_copy_99 hF)
                · have hq := b15
                  obtain ⟨n16, hF⟩ := ifO hF
                  rcases ifX hF with ⟨b17, hF⟩ | ⟨b17, hF⟩
                  · have hq := b17
                    exact hO.trans (fw_X7_copy_108 _ hF)
                  · have hq := b17
                    exact hO.trans (fw_X7_copy_99 hF)
          · have hq := b11
            exact hO.trans (fw_X7_copy_49 hF)
      · have hq := b7
        obtain ⟨r19, M20, h18, hF⟩ := ob2S hF
        have hO := hO.mono (fr_X7_finds h18) (fun x j hx => hx.elim (fun h => Or.inr (Or.inl h)) (fun hx => Or.inr (Or.inr (Or.inr (hx)))))
        cases hF; exact hO
    · have hq := b6
      cases hF; exact hO
abbrev P_X7_mean : Nat → Nat → Prop := fun x j => (x = 86 ∧ j = 16) ∨ (x = 86 ∧ j = 19) ∨ (x = 99)
set_option maxRecDepth 100000 in
set_option maxHeartbeats 4000000 in
theorem fw_X7_mean_46 {fu : Nat} {r : Int32} {M' : Mm} : ∀ (n : Nat) {x1 : Int32} {x2 : Int64} {x4 : Int32} {M : Mm}, F_X7_mean_46 fu n M x1 x2 x4 = some (r, M') → Out P_X7_mean M M' := by
  intro n
  induction n with
  | zero =>
    intro x1 x2 x4 M hF
    cases hF
  | succ n ih =>
    intro x1 x2 x4 M hF
    have hO : Out P_X7_mean M M := Out.rf
    unfold F_X7_mean_46 at hF
    obtain ⟨n1, hF⟩ := ifO hF
    rcases ifX hF with ⟨b2, hF⟩ | ⟨b2, hF⟩
    · have hq := b2
      obtain ⟨n3, hF⟩ := ifO hF
      obtain ⟨n4, hF⟩ := ifO hF
      obtain ⟨r6, M7, h5, hF⟩ := ob2S hF
      have hO := hO.mono (fr_X7_tells h5) (fun x j hx => Or.inl hx)
      cases hF; exact hO
    · have hq := b2
      obtain ⟨n8, hF⟩ := ifO hF
      obtain ⟨y9, ey9, hF⟩ := lt1E hF
      exact hO.trans (ih hF)
set_option maxRecDepth 100000 in
set_option maxHeartbeats 4000000 in
theorem fr_X7_mean {fu : Nat} {M : Mm} {x1 : Int32} {r : Int32} {M' : Mm} (hF : F_X7_mean fu M x1 = some (r, M')) : Out P_X7_mean M M' := by
  have hO : Out P_X7_mean M M := Out.rf
  unfold F_X7_mean at hF
  obtain ⟨r2, h1, hF⟩ := ob1S hF
  rcases (ifX hF).symm with ⟨b3, hF⟩ | ⟨b3, hF⟩
  · have hq := b3
    obtain ⟨n4, hF⟩ := ifO hF
    rcases (ifX hF).symm with ⟨b5, hF⟩ | ⟨b5, hF⟩
    · have hq := b5
      obtain ⟨n6, hF⟩ := ifO hF
      rcases (ifX hF).symm with ⟨b7, hF⟩ | ⟨b7, hF⟩
      · have hq := b7
        exact hO.trans (fw_X7_mean_46 _ hF)
      · have hq := b7
        obtain ⟨r9, M10, h8, hF⟩ := ob2S hF
        have hO := hO.mono (fr_X7_finds h8) (fun x j hx => hx.elim (fun h => Or.inr (Or.inl h)) (fun hx => Or.inr (Or.inr (hx))))
        cases hF; exact hO
    · have hq := b5
      obtain ⟨r12, M13, h11, hF⟩ := ob2S hF
      have hO := hO.mono (fr_X7_finds h11) (fun x j hx => hx.elim (fun h => Or.inr (Or.inl h)) (fun hx => Or.inr (Or.inr (hx))))
      cases hF; exact hO
  · have hq := b3
    cases hF; exact hO
abbrev P_X7_text : Nat → Nat → Prop := fun x j => (x = 86 ∧ j = 19) ∨ (x = 89) ∨ (x = 90) ∨ (x = 99)
set_option maxRecDepth 100000 in
set_option maxHeartbeats 4000000 in
theorem fw_X7_text_34 {fu : Nat} {r : Int32} {M' : Mm} : ∀ (n : Nat) {x1 : Int32} {x2 : Int32} {x3 : Int32} {M : Mm}, F_X7_text_34 fu n M x1 x2 x3 = some (r, M') → Out P_X7_text M M' := by
  intro n
  induction n with
  | zero =>
    intro x1 x2 x3 M hF
    cases hF
  | succ n ih =>
    intro x1 x2 x3 M hF
    have hO : Out P_X7_text M M := Out.rf
    unfold F_X7_text_34 at hF
    rcases ifX hF with ⟨b1, hF⟩ | ⟨b1, hF⟩
    · have hq := b1
      cases hF; exact hO
    · have hq := b1
      obtain ⟨n2, hF⟩ := ifO hF
      obtain ⟨M3, hO, hF⟩ := lt1W (P := fun q => Out P_X7_text M q) hF (by first | exact hO.pI (by simp [P_X7_text]) | exact hO.pL (by simp [P_X7_text]))
      exact hO.trans (ih hF)
set_option maxRecDepth 100000 in
set_option maxHeartbeats 4000000 in
theorem fr_X7_text {fu : Nat} {M : Mm} {x1 : Int32} {x2 : Int32} {r : Int32} {M' : Mm} (hF : F_X7_text fu M x1 x2 = some (r, M')) : Out P_X7_text M M' := by
  have hO : Out P_X7_text M M := Out.rf
  unfold F_X7_text at hF
  obtain ⟨r2, h1, hF⟩ := ob1S hF
  rcases ifX hF with ⟨b3, hF⟩ | ⟨b3, hF⟩
  · have hq := b3
    cases hF; exact hO
  · have hq := b3
    rcases ifX hF with ⟨b4, hF⟩ | ⟨b4, hF⟩
    · have hq := b4
      rcases ifX hF with ⟨b5, hF⟩ | ⟨b5, hF⟩
      · have hq := b5
        obtain ⟨n6, hF⟩ := ifO hF
        obtain ⟨M7, hO, hF⟩ := lt1W (P := fun q => Out P_X7_text M q) hF (by first | exact hO.pI (by simp [P_X7_text]) | exact hO.pL (by simp [P_X7_text]))
        exact hO.trans (fw_X7_text_34 _ hF)
      · have hq := b5
        obtain ⟨r9, M10, h8, hF⟩ := ob2S hF
        have hO := hO.mono (fr_X7_finds h8) (fun x j hx => hx.elim (fun h => Or.inl h) (fun hx => Or.inr (Or.inr (Or.inr (hx)))))
        cases hF; exact hO
    · have hq := b4
      cases hF; exact hO
abbrev P_X7_put : Nat → Nat → Prop := fun x j => (x = 86 ∧ j = 19) ∨ (x = 89) ∨ (x = 99)
set_option maxRecDepth 100000 in
set_option maxHeartbeats 4000000 in
theorem fr_X7_put {fu : Nat} {M : Mm} {x1 : Int32} {x2 : Int32} {x3 : Int32} {r : Int32} {M' : Mm} (hF : F_X7_put fu M x1 x2 x3 = some (r, M')) : Out P_X7_put M M' := by
  have hO : Out P_X7_put M M := Out.rf
  unfold F_X7_put at hF
  obtain ⟨r2, h1, hF⟩ := ob1S hF
  rcases (ifX hF).symm with ⟨b3, hF⟩ | ⟨b3, hF⟩
  · have hq := b3
    obtain ⟨n4, hF⟩ := ifO hF
    rcases (ifX hF).symm with ⟨b5, hF⟩ | ⟨b5, hF⟩
    · have hq := b5
      obtain ⟨n6, hF⟩ := ifO hF
      obtain ⟨r8, h7, hF⟩ := ob1S hF
      rcases (ifX hF).symm with ⟨b9, hF⟩ | ⟨b9, hF⟩
      · have hq := b9
        obtain ⟨n10, hF⟩ := ifO hF
        obtain ⟨y11, ey11, hF⟩ := lt1E hF
        obtain ⟨n12, hF⟩ := ifO hF
        obtain ⟨M13, hO, hF⟩ := lt1W (P := fun q => Out P_X7_put M q) hF (by first | exact hO.pI (by simp [P_X7_put]) | exact hO.pL (by simp [P_X7_put]))
        cases hF; exact hO
      · have hq := b9
        obtain ⟨r15, M16, h14, hF⟩ := ob2S hF
        have hO := hO.mono (fr_X7_finds h14) (fun x j hx => hx.elim (fun h => Or.inl h) (fun hx => Or.inr (Or.inr (hx))))
        cases hF; exact hO
    · have hq := b5
      obtain ⟨r18, M19, h17, hF⟩ := ob2S hF
      have hO := hO.mono (fr_X7_finds h17) (fun x j hx => hx.elim (fun h => Or.inl h) (fun hx => Or.inr (Or.inr (hx))))
      cases hF; exact hO
  · have hq := b3
    cases hF; exact hO
abbrev P_X7_skip : Nat → Nat → Prop := fun x j => (x = 86 ∧ j = 29)
set_option maxRecDepth 100000 in
set_option maxHeartbeats 4000000 in
theorem fw_X7_skip_0 {fu : Nat} {M' : Mm} : ∀ (n : Nat) {x1 : Int32} {M : Mm}, F_X7_skip_0 fu n M x1 = some M' → Out P_X7_skip M M' := by
  intro n
  induction n with
  | zero =>
    intro x1 M hF
    cases hF
  | succ n ih =>
    intro x1 M hF
    have hO : Out P_X7_skip M M := Out.rf
    unfold F_X7_skip_0 at hF
    obtain ⟨n1, hF⟩ := ifO hF
    rcases ifX hF with ⟨b2, hF⟩ | ⟨b2, hF⟩
    · have hq := b2
      cases hF; exact hO
    · have hq := b2
      obtain ⟨r4, h3, hF⟩ := ob1S hF
      rcases (ifX hF).symm with ⟨b5, hF⟩ | ⟨b5, hF⟩
      · have hq := b5
        cases hF; exact hO
      · have hq := b5
        obtain ⟨M6, hO, hF⟩ := lt1W (P := fun q => Out P_X7_skip M q) hF (by first | exact hO.pI (by simp [P_X7_skip]) | exact hO.pL (by simp [P_X7_skip]))
        exact hO.trans (ih hF)
set_option maxRecDepth 100000 in
set_option maxHeartbeats 4000000 in
theorem fr_X7_skip {fu : Nat} {M : Mm} {x1 : Int32} {M' : Mm} (hF : F_X7_skip fu M x1 = some M') : Out P_X7_skip M M' := by
  have hO : Out P_X7_skip M M := Out.rf
  unfold F_X7_skip at hF
  exact hO.trans (fw_X7_skip_0 _ hF)
abbrev P_X7_figure : Nat → Nat → Prop := fun x j => (x = 86 ∧ j = 29)
set_option maxRecDepth 100000 in
set_option maxHeartbeats 4000000 in
theorem fr_X7_figure {fu : Nat} {M : Mm} {x1 : Int32} {x2 : Int32} {x3 : Int32} {r : Int32} {M' : Mm} (hF : F_X7_figure fu M x1 x2 x3 = some (r, M')) : Out P_X7_figure M M' := by
  have hO : Out P_X7_figure M M := Out.rf
  unfold F_X7_figure at hF
  obtain ⟨r2, h1, hF⟩ := ob1S hF
  obtain ⟨r4, h3, hF⟩ := ob1S hF
  rcases (ifX hF).symm with ⟨b5, hF⟩ | ⟨b5, hF⟩
  · have hq := b5
    obtain ⟨M6, hO, hF⟩ := lt1W (P := fun q => Out P_X7_figure M q) hF (by first | exact hO.pI (by simp [P_X7_figure]) | exact hO.pL (by simp [P_X7_figure]))
    cases hF; exact hO
  · have hq := b5
    cases hF; exact hO
abbrev P_X7_readsSun : Nat → Nat → Prop := fun x j => (x = 105) ∨ (x = 86 ∧ j = 28) ∨ (x = 86 ∧ j = 29)
set_option maxRecDepth 100000 in
set_option maxHeartbeats 4000000 in
theorem fw_X7_readsSun_24 {fu : Nat} {r : Int32} {M' : Mm} : ∀ (n : Nat) {x1 : Int32} {x2 : Int32} {M : Mm}, F_X7_readsSun_24 fu n M x1 x2 = some (r, M') → Out P_X7_readsSun M M' := by
  intro n
  induction n with
  | zero =>
    intro x1 x2 M hF
    cases hF
  | succ n ih =>
    intro x1 x2 M hF
    have hO : Out P_X7_readsSun M M := Out.rf
    unfold F_X7_readsSun_24 at hF
    rcases ifX hF with ⟨b1, hF⟩ | ⟨b1, hF⟩
    · have hq := b1
      obtain ⟨r3, M4, h2, hF⟩ := ob2S hF
      have hO := hO.mono (fr_X7_figure h2) (fun x j hx => Or.inr (Or.inr (hx)))
      obtain ⟨M5, hO, hF⟩ := lt1W (P := fun q => Out P_X7_readsSun M q) hF (by first | exact hO.pI (by simp [P_X7_readsSun]) | exact hO.pL (by simp [P_X7_readsSun]))
      rcases ifX hF with ⟨b6, hF⟩ | ⟨b6, hF⟩
      · have hq := b6
        cases hF; exact hO
      · have hq := b6
        cases hF; exact hO
    · have hq := b1
      obtain ⟨r8, M9, h7, hF⟩ := ob2S hF
      have hO := hO.mono (fr_X7_figure h7) (fun x j hx => Or.inr (Or.inr (hx)))
      obtain ⟨n10, hF⟩ := ifO hF
      obtain ⟨M11, hO, hF⟩ := lt1W (P := fun q => Out P_X7_readsSun M q) hF (by first | exact hO.pI (by simp [P_X7_readsSun]) | exact hO.pL (by simp [P_X7_readsSun]))
      obtain ⟨n12, hF⟩ := ifO hF
      rcases (ifX hF).symm with ⟨b13, hF⟩ | ⟨b13, hF⟩
      · have hq := b13
        exact hO.trans (ih hF)
      · have hq := b13
        cases hF; exact hO
set_option maxRecDepth 100000 in
set_option maxHeartbeats 4000000 in
theorem fr_X7_readsSun {fu : Nat} {M : Mm} {x1 : Int32} {r : Int32} {M' : Mm} (hF : F_X7_readsSun fu M x1 = some (r, M')) : Out P_X7_readsSun M M' := by
  have hO : Out P_X7_readsSun M M := Out.rf
  unfold F_X7_readsSun at hF
  obtain ⟨r2, h1, hF⟩ := ob1S hF
  rcases ifX hF with ⟨b3, hF⟩ | ⟨b3, hF⟩
  · have hq := b3
    obtain ⟨M4, hO, hF⟩ := lt1W (P := fun q => Out P_X7_readsSun M q) hF (by first | exact hO.pI (by simp [P_X7_readsSun]) | exact hO.pL (by simp [P_X7_readsSun]))
    exact hO.trans (fw_X7_readsSun_24 _ hF)
  · have hq := b3
    cases hF; exact hO
abbrev P_X7_readsMan : Nat → Nat → Prop := fun x j => (x = 101) ∨ (x = 102) ∨ (x = 103) ∨ (x = 104) ∨ (x = 86 ∧ j = 22) ∨ (x = 86 ∧ j = 29)
set_option maxRecDepth 100000 in
set_option maxHeartbeats 4000000 in
theorem fw_X7_readsMan_64 {fu : Nat} {r : Int32} {M' : Mm} {x1 : Int32} {x2 : Int32} {x3 : Int32} {t1 : Int32} {t2 : Int32} {M : Mm} (hF : F_X7_readsMan_64 fu M x1 x2 x3 t1 t2 = some (r, M')) : Out P_X7_readsMan M M' := by
  have hO : Out P_X7_readsMan M M := Out.rf
  unfold F_X7_readsMan_64 at hF
  obtain ⟨r2, M3, h1, hF⟩ := ob2S hF
  have hO := hO.mono (fr_X7_figure h1) (fun x j hx => Or.inr (Or.inr (Or.inr (Or.inr (Or.inr (hx))))))
  rcases (ifX hF).symm with ⟨b4, hF⟩ | ⟨b4, hF⟩
  · have hq := b4
    obtain ⟨r6, M7, h5, hF⟩ := ob2S hF
    have hO := hO.mono (fr_X7_figure h5) (fun x j hx => Or.inr (Or.inr (Or.inr (Or.inr (Or.inr (hx))))))
    rcases (ifX hF).symm with ⟨b8, hF⟩ | ⟨b8, hF⟩
    · have hq := b8
      obtain ⟨r10, M11, h9, hF⟩ := ob2S hF
      have hO := hO.mono (fr_X7_figure h9) (fun x j hx => Or.inr (Or.inr (Or.inr (Or.inr (Or.inr (hx))))))
      rcases (ifX hF).symm with ⟨b12, hF⟩ | ⟨b12, hF⟩
      · have hq := b12
        obtain ⟨n13, hF⟩ := ifO hF
        obtain ⟨M14, hO, hF⟩ := lt1W (P := fun q => Out P_X7_readsMan M q) hF (by first | exact hO.pI (by simp [P_X7_readsMan]) | exact hO.pL (by simp [P_X7_readsMan]))
        obtain ⟨n15, hF⟩ := ifO hF
        obtain ⟨M16, hO, hF⟩ := lt1W (P := fun q => Out P_X7_readsMan M q) hF (by first | exact hO.pI (by simp [P_X7_readsMan]) | exact hO.pL (by simp [P_X7_readsMan]))
        obtain ⟨n17, hF⟩ := ifO hF
        obtain ⟨M18, hO, hF⟩ := lt1W (P := fun q => Out P_X7_readsMan M q) hF (by first | exact hO.pI (by simp [P_X7_readsMan]) | exact hO.pL (by simp [P_X7_readsMan]))
        obtain ⟨n19, hF⟩ := ifO hF
        obtain ⟨M20, hO, hF⟩ := lt1W (P := fun q => Out P_X7_readsMan M q) hF (by first | exact hO.pI (by simp [P_X7_readsMan]) | exact hO.pL (by simp [P_X7_readsMan]))
        obtain ⟨M21, hO, hF⟩ := lt1W (P := fun q => Out P_X7_readsMan M q) hF (by first | exact hO.pI (by simp [P_X7_readsMan]) | exact hO.pL (by simp [P_X7_readsMan]))
        cases hF; exact hO
      · have hq := b12
        cases hF; exact hO
    · have hq := b8
      cases hF; exact hO
  · have hq := b4
    cases hF; exact hO
set_option maxRecDepth 100000 in
set_option maxHeartbeats 4000000 in
theorem fr_X7_readsMan {fu : Nat} {M : Mm} {x1 : Int32} {r : Int32} {M' : Mm} (hF : F_X7_readsMan fu M x1 = some (r, M')) : Out P_X7_readsMan M M' := by
  have hO : Out P_X7_readsMan M M := Out.rf
  unfold F_X7_readsMan at hF
  obtain ⟨r2, h1, hF⟩ := ob1S hF
  obtain ⟨r4, h3, hF⟩ := ob1S hF
  rcases ifX hF with ⟨b5, hF⟩ | ⟨b5, hF⟩
  · have hq := b5
    cases hF; exact hO
  · have hq := b5
    rcases (ifX hF).symm with ⟨b6, hF⟩ | ⟨b6, hF⟩
    · have hq := b6
      obtain ⟨M7, hO, hF⟩ := lt1W (P := fun q => Out P_X7_readsMan M q) hF (by first | exact hO.pI (by simp [P_X7_readsMan]) | exact hO.pL (by simp [P_X7_readsMan]))
      obtain ⟨r9, M10, h8, hF⟩ := ob2S hF
      have hO := hO.mono (fr_X7_figure h8) (fun x j hx => Or.inr (Or.inr (Or.inr (Or.inr (Or.inr (hx))))))
      rcases (ifX hF).symm with ⟨b11, hF⟩ | ⟨b11, hF⟩
      · have hq := b11
        rcases (ifX hF).symm with ⟨b12, hF⟩ | ⟨b12, hF⟩
        · have hq := b12
          exact hO.trans (fw_X7_readsMan_64 hF)
        · have hq := b12
          exact hO.trans (fw_X7_readsMan_64 hF)
      · have hq := b11
        cases hF; exact hO
    · have hq := b6
      cases hF; exact hO
abbrev P_X7_reads : Nat → Nat → Prop := fun x j => (x = 101) ∨ (x = 102) ∨ (x = 103) ∨ (x = 104) ∨ (x = 105) ∨ (x = 86 ∧ j = 22) ∨ (x = 86 ∧ j = 28) ∨ (x = 86 ∧ j = 29)
set_option maxRecDepth 100000 in
set_option maxHeartbeats 4000000 in
theorem fw_X7_reads_53 {fu : Nat} {r : Int32} {M' : Mm} {k33 : Mm → Int32 → Option (Int32 × Mm)} (hk_33 : ∀ {x1 : Int32} {M : Mm}, k33 M x1 = some (r, M') → Out P_X7_reads M M') {x1 : Int32} {M : Mm} (hF : F_X7_reads_53 fu k33 M x1 = some (r, M')) : Out P_X7_reads M M' := by
  have hO : Out P_X7_reads M M := Out.rf
  unfold F_X7_reads_53 at hF
  obtain ⟨r2, M3, h1, hF⟩ := ob2S hF
  have hO := hO.mono (fr_X7_readsMan h1) (fun x j hx => hx.elim (fun h => Or.inl h) (fun hx => hx.elim (fun h => Or.inr (Or.inl h)) (fun hx => hx.elim (fun h => Or.inr (Or.inr (Or.inl h))) (fun hx => hx.elim (fun h => Or.inr (Or.inr (Or.inr (Or.inl h)))) (fun hx => hx.elim (fun h => Or.inr (Or.inr (Or.inr (Or.inr (Or.inr (Or.inl h)))))) (fun hx => Or.inr (Or.inr (Or.inr (Or.inr (Or.inr (Or.inr (Or.inr (hx)))))))))))))
  rcases (ifX hF).symm with ⟨b4, hF⟩ | ⟨b4, hF⟩
  · have hq := b4
    obtain ⟨M6, h5, hF⟩ := ob1S hF
    have hO := hO.mono (fr_X7_skip h5) (fun x j hx => Or.inr (Or.inr (Or.inr (Or.inr (Or.inr (Or.inr (Or.inr (hx))))))))
    exact hO.trans (hk_33 hF)
  · have hq := b4
    cases hF; exact hO
set_option maxRecDepth 100000 in
set_option maxHeartbeats 4000000 in
theorem fw_X7_reads_33 {fu : Nat} {r : Int32} {M' : Mm} : ∀ (n : Nat) {x1 : Int32} {M : Mm}, F_X7_reads_33 fu n M x1 = some (r, M') → Out P_X7_reads M M' := by
  intro n
  induction n with
  | zero =>
    intro x1 M hF
    cases hF
  | succ n ih =>
    intro x1 M hF
    have hO : Out P_X7_reads M M := Out.rf
    unfold F_X7_reads_33 at hF
    obtain ⟨n1, hF⟩ := ifO hF
    rcases ifX hF with ⟨b2, hF⟩ | ⟨b2, hF⟩
    · have hq := b2
      exact hO.trans (fw_X7_reads_53 (hk_33 := ih) hF)
    · have hq := b2
      rcases (ifX hF).symm with ⟨b3, hF⟩ | ⟨b3, hF⟩
      · have hq := b3
        cases hF; exact hO
      · have hq := b3
        exact hO.trans (fw_X7_reads_53 (hk_33 := ih) hF)
set_option maxRecDepth 100000 in
set_option maxHeartbeats 4000000 in
theorem fr_X7_reads {fu : Nat} {M : Mm} {x1 : Int32} {r : Int32} {M' : Mm} (hF : F_X7_reads fu M x1 = some (r, M')) : Out P_X7_reads M M' := by
  have hO : Out P_X7_reads M M := Out.rf
  unfold F_X7_reads at hF
  obtain ⟨M1, hO, hF⟩ := lt1W (P := fun q => Out P_X7_reads M q) hF (by first | exact hO.pI (by simp [P_X7_reads]) | exact hO.pL (by simp [P_X7_reads]))
  obtain ⟨M2, hO, hF⟩ := lt1W (P := fun q => Out P_X7_reads M q) hF (by first | exact hO.pI (by simp [P_X7_reads]) | exact hO.pL (by simp [P_X7_reads]))
  obtain ⟨M4, h3, hF⟩ := ob1S hF
  have hO := hO.mono (fr_X7_skip h3) (fun x j hx => Or.inr (Or.inr (Or.inr (Or.inr (Or.inr (Or.inr (Or.inr (hx))))))))
  obtain ⟨r6, M7, h5, hF⟩ := ob2S hF
  have hO := hO.mono (fr_X7_readsSun h5) (fun x j hx => hx.elim (fun h => Or.inr (Or.inr (Or.inr (Or.inr (Or.inl h))))) (fun hx => hx.elim (fun h => Or.inr (Or.inr (Or.inr (Or.inr (Or.inr (Or.inr (Or.inl h))))))) (fun hx => Or.inr (Or.inr (Or.inr (Or.inr (Or.inr (Or.inr (Or.inr (hx))))))))))
  rcases (ifX hF).symm with ⟨b8, hF⟩ | ⟨b8, hF⟩
  · have hq := b8
    obtain ⟨M10, h9, hF⟩ := ob1S hF
    have hO := hO.mono (fr_X7_skip h9) (fun x j hx => Or.inr (Or.inr (Or.inr (Or.inr (Or.inr (Or.inr (Or.inr (hx))))))))
    exact hO.trans (fw_X7_reads_33 _ hF)
  · have hq := b8
    cases hF; exact hO
abbrev P_X7_fault : Nat → Nat → Prop := fun x j => (x = 101) ∨ (x = 102) ∨ (x = 103) ∨ (x = 104) ∨ (x = 105) ∨ (x = 86 ∧ j = 19) ∨ (x = 86 ∧ j = 22) ∨ (x = 86 ∧ j = 28) ∨ (x = 86 ∧ j = 29) ∨ (x = 99)
set_option maxRecDepth 100000 in
set_option maxHeartbeats 4000000 in
theorem fr_X7_fault {fu : Nat} {M : Mm} {x1 : Int32} {r : Int32} {M' : Mm} (hF : F_X7_fault fu M x1 = some (r, M')) : Out P_X7_fault M M' := by
  have hO : Out P_X7_fault M M := Out.rf
  unfold F_X7_fault at hF
  obtain ⟨r2, h1, hF⟩ := ob1S hF
  rcases (ifX hF).symm with ⟨b3, hF⟩ | ⟨b3, hF⟩
  · have hq := b3
    obtain ⟨n4, hF⟩ := ifO hF
    rcases (ifX hF).symm with ⟨b5, hF⟩ | ⟨b5, hF⟩
    · have hq := b5
      obtain ⟨r7, M8, h6, hF⟩ := ob2S hF
      have hO := hO.mono (fr_X7_reads h6) (fun x j hx => hx.elim (fun h => Or.inl h) (fun hx => hx.elim (fun h => Or.inr (Or.inl h)) (fun hx => hx.elim (fun h => Or.inr (Or.inr (Or.inl h))) (fun hx => hx.elim (fun h => Or.inr (Or.inr (Or.inr (Or.inl h)))) (fun hx => hx.elim (fun h => Or.inr (Or.inr (Or.inr (Or.inr (Or.inl h))))) (fun hx => hx.elim (fun h => Or.inr (Or.inr (Or.inr (Or.inr (Or.inr (Or.inr (Or.inl h))))))) (fun hx => hx.elim (fun h => Or.inr (Or.inr (Or.inr (Or.inr (Or.inr (Or.inr (Or.inr (Or.inl h)))))))) (fun hx => Or.inr (Or.inr (Or.inr (Or.inr (Or.inr (Or.inr (Or.inr (Or.inr (Or.inl hx))))))))))))))))
      cases hF; exact hO
    · have hq := b5
      obtain ⟨r10, M11, h9, hF⟩ := ob2S hF
      have hO := hO.mono (fr_X7_finds h9) (fun x j hx => hx.elim (fun h => Or.inr (Or.inr (Or.inr (Or.inr (Or.inr (Or.inl h)))))) (fun hx => Or.inr (Or.inr (Or.inr (Or.inr (Or.inr (Or.inr (Or.inr (Or.inr (Or.inr (hx)))))))))))
      cases hF; exact hO
  · have hq := b3
    cases hF; exact hO
abbrev P_X7_north : Nat → Nat → Prop := fun x j => (x = 101) ∨ (x = 102) ∨ (x = 103) ∨ (x = 104) ∨ (x = 105) ∨ (x = 86 ∧ j = 10) ∨ (x = 86 ∧ j = 11) ∨ (x = 86 ∧ j = 12) ∨ (x = 86 ∧ j = 19) ∨ (x = 86 ∧ j = 22) ∨ (x = 86 ∧ j = 28) ∨ (x = 86 ∧ j = 29) ∨ (x = 86 ∧ j = 4) ∨ (x = 91) ∨ (x = 92) ∨ (x = 93) ∨ (x = 94) ∨ (x = 95) ∨ (x = 98) ∨ (x = 99)
set_option maxRecDepth 100000 in
set_option maxHeartbeats 4000000 in
theorem fw_X7_north_157 {fu : Nat} {r : Int32} {M' : Mm} : ∀ (n : Nat) {x2 : Int32} {M : Mm}, F_X7_north_157 fu n M x2 = some (r, M') → Out P_X7_north M M' := by
  intro n
  induction n with
  | zero =>
    intro x2 M hF
    cases hF
  | succ n ih =>
    intro x2 M hF
    have hO : Out P_X7_north M M := Out.rf
    unfold F_X7_north_157 at hF
    rcases ifX hF with ⟨b1, hF⟩ | ⟨b1, hF⟩
    · have hq := b1
      cases hF; exact hO
    · have hq := b1
      obtain ⟨n2, hF⟩ := ifO hF
      obtain ⟨M3, hO, hF⟩ := lt1W (P := fun q => Out P_X7_north M q) hF (by first | exact hO.pI (by simp [P_X7_north]) | exact hO.pL (by simp [P_X7_north]))
      exact hO.trans (ih hF)
set_option maxRecDepth 100000 in
set_option maxHeartbeats 4000000 in
theorem fw_X7_north_113 {fu : Nat} {r : Int32} {M' : Mm} : ∀ (n : Nat) {x2 : Int32} {M : Mm}, F_X7_north_113 fu n M x2 = some (r, M') → Out P_X7_north M M' := by
  intro n
  induction n with
  | zero =>
    intro x2 M hF
    cases hF
  | succ n ih =>
    intro x2 M hF
    have hO : Out P_X7_north M M := Out.rf
    unfold F_X7_north_113 at hF
    rcases ifX hF with ⟨b1, hF⟩ | ⟨b1, hF⟩
    · have hq := b1
      obtain ⟨M2, hO, hF⟩ := lt1W (P := fun q => Out P_X7_north M q) hF (by first | exact hO.pI (by simp [P_X7_north]) | exact hO.pL (by simp [P_X7_north]))
      obtain ⟨M3, hO, hF⟩ := lt1W (P := fun q => Out P_X7_north M q) hF (by first | exact hO.pI (by simp [P_X7_north]) | exact hO.pL (by simp [P_X7_north]))
      obtain ⟨M4, hO, hF⟩ := lt1W (P := fun q => Out P_X7_north M q) hF (by first | exact hO.pI (by simp [P_X7_north]) | exact hO.pL (by simp [P_X7_north]))
      exact hO.trans (fw_X7_north_157 _ hF)
    · have hq := b1
      obtain ⟨n5, hF⟩ := ifO hF
      obtain ⟨n6, hF⟩ := ifO hF
      obtain ⟨M7, hO, hF⟩ := lt1W (P := fun q => Out P_X7_north M q) hF (by first | exact hO.pI (by simp [P_X7_north]) | exact hO.pL (by simp [P_X7_north]))
      exact hO.trans (ih hF)
set_option maxRecDepth 100000 in
set_option maxHeartbeats 4000000 in
theorem fw_X7_north_49 {fu : Nat} {r : Int32} {M' : Mm} : ∀ (n : Nat) {x2 : Int32} {M : Mm}, F_X7_north_49 fu n M x2 = some (r, M') → Out P_X7_north M M' := by
  intro n
  induction n with
  | zero =>
    intro x2 M hF
    cases hF
  | succ n ih =>
    intro x2 M hF
    have hO : Out P_X7_north M M := Out.rf
    unfold F_X7_north_49 at hF
    rcases ifX hF with ⟨b1, hF⟩ | ⟨b1, hF⟩
    · have hq := b1
      exact hO.trans (fw_X7_north_113 _ hF)
    · have hq := b1
      obtain ⟨n2, hF⟩ := ifO hF
      obtain ⟨n3, hF⟩ := ifO hF
      obtain ⟨M4, hO, hF⟩ := lt1W (P := fun q => Out P_X7_north M q) hF (by first | exact hO.pI (by simp [P_X7_north]) | exact hO.pL (by simp [P_X7_north]))
      obtain ⟨n5, hF⟩ := ifO hF
      obtain ⟨n6, hF⟩ := ifO hF
      obtain ⟨M7, hO, hF⟩ := lt1W (P := fun q => Out P_X7_north M q) hF (by first | exact hO.pI (by simp [P_X7_north]) | exact hO.pL (by simp [P_X7_north]))
      obtain ⟨n8, hF⟩ := ifO hF
      obtain ⟨n9, hF⟩ := ifO hF
      obtain ⟨M10, hO, hF⟩ := lt1W (P := fun q => Out P_X7_north M q) hF (by first | exact hO.pI (by simp [P_X7_north]) | exact hO.pL (by simp [P_X7_north]))
      obtain ⟨n11, hF⟩ := ifO hF
      obtain ⟨n12, hF⟩ := ifO hF
      obtain ⟨M13, hO, hF⟩ := lt1W (P := fun q => Out P_X7_north M q) hF (by first | exact hO.pI (by simp [P_X7_north]) | exact hO.pL (by simp [P_X7_north]))
      exact hO.trans (ih hF)
set_option maxRecDepth 100000 in
set_option maxHeartbeats 4000000 in
theorem fr_X7_north {fu : Nat} {M : Mm} {x1 : Int32} {r : Int32} {M' : Mm} (hF : F_X7_north fu M x1 = some (r, M')) : Out P_X7_north M M' := by
  have hO : Out P_X7_north M M := Out.rf
  unfold F_X7_north at hF
  obtain ⟨r2, h1, hF⟩ := ob1S hF
  rcases (ifX hF).symm with ⟨b3, hF⟩ | ⟨b3, hF⟩
  · have hq := b3
    obtain ⟨n4, hF⟩ := ifO hF
    rcases (ifX hF).symm with ⟨b5, hF⟩ | ⟨b5, hF⟩
    · have hq := b5
      obtain ⟨r7, M8, h6, hF⟩ := ob2S hF
      have hO := hO.mono (fr_X7_reads h6) (fun x j hx => hx.elim (fun h => Or.inl h) (fun hx => hx.elim (fun h => Or.inr (Or.inl h)) (fun hx => hx.elim (fun h => Or.inr (Or.inr (Or.inl h))) (fun hx => hx.elim (fun h => Or.inr (Or.inr (Or.inr (Or.inl h)))) (fun hx => hx.elim (fun h => Or.inr (Or.inr (Or.inr (Or.inr (Or.inl h))))) (fun hx => hx.elim (fun h => Or.inr (Or.inr (Or.inr (Or.inr (Or.inr (Or.inr (Or.inr (Or.inr (Or.inr (Or.inl h)))))))))) (fun hx => hx.elim (fun h => Or.inr (Or.inr (Or.inr (Or.inr (Or.inr (Or.inr (Or.inr (Or.inr (Or.inr (Or.inr (Or.inl h))))))))))) (fun hx => Or.inr (Or.inr (Or.inr (Or.inr (Or.inr (Or.inr (Or.inr (Or.inr (Or.inr (Or.inr (Or.inr (Or.inl hx)))))))))))))))))))
      rcases ifX hF with ⟨b9, hF⟩ | ⟨b9, hF⟩
      · have hq := b9
        obtain ⟨M10, hO, hF⟩ := lt1W (P := fun q => Out P_X7_north M q) hF (by first | exact hO.pI (by simp [P_X7_north]) | exact hO.pL (by simp [P_X7_north]))
        exact hO.trans (fw_X7_north_49 _ hF)
      · have hq := b9
        cases hF; exact hO
    · have hq := b5
      obtain ⟨r12, M13, h11, hF⟩ := ob2S hF
      have hO := hO.mono (fr_X7_finds h11) (fun x j hx => hx.elim (fun h => Or.inr (Or.inr (Or.inr (Or.inr (Or.inr (Or.inr (Or.inr (Or.inr (Or.inl h))))))))) (fun hx => Or.inr (Or.inr (Or.inr (Or.inr (Or.inr (Or.inr (Or.inr (Or.inr (Or.inr (Or.inr (Or.inr (Or.inr (Or.inr (Or.inr (Or.inr (Or.inr (Or.inr (Or.inr (Or.inr (hx)))))))))))))))))))))
      cases hF; exact hO
  · have hq := b3
    cases hF; exact hO
abbrev P_X7_man : Nat → Nat → Prop := fun x j => (x = 86 ∧ j = 16)
set_option maxRecDepth 100000 in
set_option maxHeartbeats 4000000 in
theorem fw_X7_man_120 {fu : Nat} {r : Int32} {M' : Mm} {t1 : Int32} {M : Mm} (hF : F_X7_man_120 fu M t1 = some (r, M')) : Out P_X7_man M M' := by
  have hO : Out P_X7_man M M := Out.rf
  unfold F_X7_man_120 at hF
  obtain ⟨r2, M3, h1, hF⟩ := ob2S hF
  have hO := hO.mono (fr_X7_tells h1) (fun x j hx => hx)
  cases hF; exact hO
set_option maxRecDepth 100000 in
set_option maxHeartbeats 4000000 in
theorem fr_X7_man {fu : Nat} {M : Mm} {x1 : Int32} {x2 : Int32} {r : Int32} {M' : Mm} (hF : F_X7_man fu M x1 x2 = some (r, M')) : Out P_X7_man M M' := by
  have hO : Out P_X7_man M M := Out.rf
  unfold F_X7_man at hF
  obtain ⟨r2, h1, hF⟩ := ob1S hF
  rcases ifX hF with ⟨b3, hF⟩ | ⟨b3, hF⟩
  · have hq := b3
    cases hF; exact hO
  · have hq := b3
    obtain ⟨r5, h4, hF⟩ := ob1S hF
    rcases (ifX hF).symm with ⟨b6, hF⟩ | ⟨b6, hF⟩
    · have hq := b6
      rcases Classical.em (x2 = (0 : Int32)) with w7 | w7
      · have hF := ifP hF w7
        obtain ⟨n8, hF⟩ := ifO hF
        obtain ⟨r10, M11, h9, hF⟩ := ob2S hF
        have hO := hO.mono (fr_X7_tells h9) (fun x j hx => hx)
        cases hF; exact hO
      have hF := ifN hF w7
      rcases Classical.em (x2 = (1 : Int32)) with w12 | w12
      · have hF := ifP hF w12
        obtain ⟨n13, hF⟩ := ifO hF
        obtain ⟨r15, M16, h14, hF⟩ := ob2S hF
        have hO := hO.mono (fr_X7_tells h14) (fun x j hx => hx)
        cases hF; exact hO
      have hF := ifN hF w12
      rcases Classical.em (x2 = (2 : Int32)) with w17 | w17
      · have hF := ifP hF w17
        obtain ⟨n18, hF⟩ := ifO hF
        obtain ⟨r20, M21, h19, hF⟩ := ob2S hF
        have hO := hO.mono (fr_X7_tells h19) (fun x j hx => hx)
        cases hF; exact hO
      have hF := ifN hF w17
      rcases Classical.em (x2 = (3 : Int32)) with w22 | w22
      · have hF := ifP hF w22
        obtain ⟨n23, hF⟩ := ifO hF
        obtain ⟨r25, M26, h24, hF⟩ := ob2S hF
        have hO := hO.mono (fr_X7_tells h24) (fun x j hx => hx)
        cases hF; exact hO
      have hF := ifN hF w22
      rcases Classical.em (x2 = (4 : Int32)) with w27 | w27
      · have hF := ifP hF w27
        obtain ⟨n28, hF⟩ := ifO hF
        obtain ⟨r30, h29, hF⟩ := ob1S hF
        rcases ifX hF with ⟨b31, hF⟩ | ⟨b31, hF⟩
        · have hq := b31
          exact hO.trans (fw_X7_man_120 hF)
        · have hq := b31
          exact hO.trans (fw_X7_man_120 hF)
      have hF := ifN hF w27
      obtain ⟨r33, h32, hF⟩ := ob1S hF
      obtain ⟨r35, h34, hF⟩ := ob1S hF
      obtain ⟨r37, M38, h36, hF⟩ := ob2S hF
      have hO := hO.mono (fr_X7_tells h36) (fun x j hx => hx)
      cases hF; exact hO
    · have hq := b6
      cases hF; exact hO
abbrev P_X7_mark : Nat → Nat → Prop := fun x j => (x = 86 ∧ j = 19) ∨ (x = 99)
set_option maxRecDepth 100000 in
set_option maxHeartbeats 4000000 in
theorem fw_X7_mark_49 {fu : Nat} {r : Int32} {M' : Mm} {M : Mm} (hF : F_X7_mark_49 fu M = some (r, M')) : Out P_X7_mark M M' := by
  have hO : Out P_X7_mark M M := Out.rf
  unfold F_X7_mark_49 at hF
  obtain ⟨r2, M3, h1, hF⟩ := ob2S hF
  have hO := hO.mono (fr_X7_finds h1) (fun x j hx => hx.elim (fun h => Or.inl h) (fun hx => Or.inr (hx)))
  cases hF; exact hO
set_option maxRecDepth 100000 in
set_option maxHeartbeats 4000000 in
theorem fw_X7_mark_55 {fu : Nat} {r : Int32} {M' : Mm} {x1 : Int32} {x2 : Int32} {M : Mm} (hF : F_X7_mark_55 fu M x1 x2 = some (r, M')) : Out P_X7_mark M M' := by
  have hO : Out P_X7_mark M M := Out.rf
  unfold F_X7_mark_55 at hF
  rcases Classical.em (x2 = (1 : Int32)) with w1 | w1
  · have hF := ifP hF w1
    obtain ⟨n2, hF⟩ := ifO hF
    obtain ⟨r4, h3, hF⟩ := ob1S hF
    cases hF; exact hO
  have hF := ifN hF w1
  rcases Classical.em (x2 = (2 : Int32)) with w5 | w5
  · have hF := ifP hF w5
    obtain ⟨r7, h6, hF⟩ := ob1S hF
    cases hF; exact hO
  have hF := ifN hF w5
  rcases Classical.em (x2 = (3 : Int32)) with w8 | w8
  · have hF := ifP hF w8
    obtain ⟨r10, h9, hF⟩ := ob1S hF
    cases hF; exact hO
  have hF := ifN hF w8
  rcases Classical.em (x2 = (4 : Int32)) with w11 | w11
  · have hF := ifP hF w11
    obtain ⟨r13, h12, hF⟩ := ob1S hF
    cases hF; exact hO
  have hF := ifN hF w11
  obtain ⟨r15, h14, hF⟩ := ob1S hF
  cases hF; exact hO
set_option maxRecDepth 100000 in
set_option maxHeartbeats 4000000 in
theorem fr_X7_mark {fu : Nat} {M : Mm} {x1 : Int32} {x2 : Int32} {r : Int32} {M' : Mm} (hF : F_X7_mark fu M x1 x2 = some (r, M')) : Out P_X7_mark M M' := by
  have hO : Out P_X7_mark M M := Out.rf
  unfold F_X7_mark at hF
  obtain ⟨r2, h1, hF⟩ := ob1S hF
  rcases ifX hF with ⟨b3, hF⟩ | ⟨b3, hF⟩
  · have hq := b3
    cases hF; exact hO
  · have hq := b3
    obtain ⟨r5, h4, hF⟩ := ob1S hF
    rcases (ifX hF).symm with ⟨b6, hF⟩ | ⟨b6, hF⟩
    · have hq := b6
      obtain ⟨n7, hF⟩ := ifO hF
      rcases ifX hF with ⟨b8, hF⟩ | ⟨b8, hF⟩
      · have hq := b8
        exact hO.trans (fw_X7_mark_55 hF)
      · have hq := b8
        rcases (ifX hF).symm with ⟨b9, hF⟩ | ⟨b9, hF⟩
        · have hq := b9
          exact hO.trans (fw_X7_mark_49 hF)
        · have hq := b9
          obtain ⟨n10, hF⟩ := ifO hF
          obtain ⟨r12, h11, hF⟩ := ob1S hF
          rcases (ifX hF).symm with ⟨b13, hF⟩ | ⟨b13, hF⟩
          · have hq := b13
            exact hO.trans (fw_X7_mark_55 hF)
          · have hq := b13
            exact hO.trans (fw_X7_mark_49 hF)
    · have hq := b6
      cases hF; exact hO
abbrev P_X7_right : Nat → Nat → Prop := fun x j => (x = 86 ∧ j = 10)
set_option maxRecDepth 100000 in
set_option maxHeartbeats 4000000 in
theorem fr_X7_right {fu : Nat} {M : Mm} {x1 : Int32} {r : Int32} {M' : Mm} (hF : F_X7_right fu M x1 = some (r, M')) : Out P_X7_right M M' := by
  have hO : Out P_X7_right M M := Out.rf
  unfold F_X7_right at hF
  obtain ⟨r2, h1, hF⟩ := ob1S hF
  rcases (ifX hF).symm with ⟨b3, hF⟩ | ⟨b3, hF⟩
  · have hq := b3
    rcases (ifX hF).symm with ⟨b4, hF⟩ | ⟨b4, hF⟩
    · have hq := b4
      obtain ⟨M5, hO, hF⟩ := lt1W (P := fun q => Out P_X7_right M q) hF (by first | exact hO.pI (by simp [P_X7_right]) | exact hO.pL (by simp [P_X7_right]))
      cases hF; exact hO
    · have hq := b4
      cases hF; exact hO
  · have hq := b3
    cases hF; exact hO
abbrev P_X7_remember : Nat → Nat → Prop := fun x j => (x = 86 ∧ j = 12) ∨ (x = 96)
set_option maxRecDepth 100000 in
set_option maxHeartbeats 4000000 in
theorem fw_X7_remember_10 {fu : Nat} {M' : Mm} : ∀ (n : Nat) {x1 : Int32} {x2 : Int32} {M : Mm}, F_X7_remember_10 fu n M x1 x2 = some M' → Out P_X7_remember M M' := by
  intro n
  induction n with
  | zero =>
    intro x1 x2 M hF
    cases hF
  | succ n ih =>
    intro x1 x2 M hF
    have hO : Out P_X7_remember M M := Out.rf
    unfold F_X7_remember_10 at hF
    rcases ifX hF with ⟨b1, hF⟩ | ⟨b1, hF⟩
    · have hq := b1
      obtain ⟨n2, hF⟩ := ifO hF
      obtain ⟨M3, hO, hF⟩ := lt1W (P := fun q => Out P_X7_remember M q) hF (by first | exact hO.pI (by simp [P_X7_remember]) | exact hO.pL (by simp [P_X7_remember]))
      obtain ⟨M4, hO, hF⟩ := lt1W (P := fun q => Out P_X7_remember M q) hF (by first | exact hO.pI (by simp [P_X7_remember]) | exact hO.pL (by simp [P_X7_remember]))
      cases hF; exact hO
    · have hq := b1
      obtain ⟨n5, hF⟩ := ifO hF
      obtain ⟨n6, hF⟩ := ifO hF
      obtain ⟨M7, hO, hF⟩ := lt1W (P := fun q => Out P_X7_remember M q) hF (by first | exact hO.pI (by simp [P_X7_remember]) | exact hO.pL (by simp [P_X7_remember]))
      obtain ⟨n8, hF⟩ := ifO hF
      obtain ⟨n9, hF⟩ := ifO hF
      obtain ⟨M10, hO, hF⟩ := lt1W (P := fun q => Out P_X7_remember M q) hF (by first | exact hO.pI (by simp [P_X7_remember]) | exact hO.pL (by simp [P_X7_remember]))
      exact hO.trans (ih hF)
set_option maxRecDepth 100000 in
set_option maxHeartbeats 4000000 in
theorem fr_X7_remember {fu : Nat} {M : Mm} {M' : Mm} (hF : F_X7_remember fu M = some M') : Out P_X7_remember M M' := by
  have hO : Out P_X7_remember M M := Out.rf
  unfold F_X7_remember at hF
  exact hO.trans (fw_X7_remember_10 _ hF)
abbrev P_X7_pass : Nat → Nat → Prop := fun x j => (x = 86 ∧ j = 11) ∨ (x = 86 ∧ j = 12) ∨ (x = 94) ∨ (x = 96)
set_option maxRecDepth 100000 in
set_option maxHeartbeats 4000000 in
theorem fw_X7_pass_6 {fu : Nat} {M' : Mm} : ∀ (n : Nat) {x1 : Int32} {x2 : Int32} {M : Mm}, F_X7_pass_6 fu n M x1 x2 = some M' → Out P_X7_pass M M' := by
  intro n
  induction n with
  | zero =>
    intro x1 x2 M hF
    cases hF
  | succ n ih =>
    intro x1 x2 M hF
    have hO : Out P_X7_pass M M := Out.rf
    unfold F_X7_pass_6 at hF
    rcases ifX hF with ⟨b1, hF⟩ | ⟨b1, hF⟩
    · have hq := b1
      obtain ⟨M2, hO, hF⟩ := lt1W (P := fun q => Out P_X7_pass M q) hF (by first | exact hO.pI (by simp [P_X7_pass]) | exact hO.pL (by simp [P_X7_pass]))
      cases hF; exact hO
    · have hq := b1
      rcases ifX hF with ⟨b3, hF⟩ | ⟨b3, hF⟩
      · have hq := b3
        obtain ⟨M4, hO, hF⟩ := lt1W (P := fun q => Out P_X7_pass M q) hF (by first | exact hO.pI (by simp [P_X7_pass]) | exact hO.pL (by simp [P_X7_pass]))
        cases hF; exact hO
      · have hq := b3
        obtain ⟨r6, h5, hF⟩ := ob1S hF
        obtain ⟨n7, hF⟩ := ifO hF
        obtain ⟨M8, hO, hF⟩ := lt1W (P := fun q => Out P_X7_pass M q) hF (by first | exact hO.pI (by simp [P_X7_pass]) | exact hO.pL (by simp [P_X7_pass]))
        exact hO.trans (ih hF)
set_option maxRecDepth 100000 in
set_option maxHeartbeats 4000000 in
theorem fr_X7_pass {fu : Nat} {M : Mm} {x1 : Int32} {M' : Mm} (hF : F_X7_pass fu M x1 = some M') : Out P_X7_pass M M' := by
  have hO : Out P_X7_pass M M := Out.rf
  unfold F_X7_pass at hF
  obtain ⟨M2, h1, hF⟩ := ob1S hF
  have hO := hO.mono (fr_X7_remember h1) (fun x j hx => hx.elim (fun h => Or.inr (Or.inl h)) (fun hx => Or.inr (Or.inr (Or.inr (hx)))))
  exact hO.trans (fw_X7_pass_6 _ hF)
abbrev P_X7_day : Nat → Nat → Prop := fun x j => (x = 86 ∧ j = 11) ∨ (x = 86 ∧ j = 12) ∨ (x = 94) ∨ (x = 96)
set_option maxRecDepth 100000 in
set_option maxHeartbeats 4000000 in
theorem fr_X7_day {fu : Nat} {M : Mm} {r : Int32} {M' : Mm} (hF : F_X7_day fu M = some (r, M')) : Out P_X7_day M M' := by
  have hO : Out P_X7_day M M := Out.rf
  unfold F_X7_day at hF
  rcases (ifX hF).symm with ⟨b1, hF⟩ | ⟨b1, hF⟩
  · have hq := b1
    rcases (ifX hF).symm with ⟨b2, hF⟩ | ⟨b2, hF⟩
    · have hq := b2
      obtain ⟨M4, h3, hF⟩ := ob1S hF
      have hO := hO.mono (fr_X7_pass h3) (fun x j hx => hx.elim (fun h => Or.inl h) (fun hx => hx.elim (fun h => Or.inr (Or.inl h)) (fun hx => hx.elim (fun h => Or.inr (Or.inr (Or.inl h))) (fun hx => Or.inr (Or.inr (Or.inr (hx)))))))
      obtain ⟨r6, h5, hF⟩ := ob1S hF
      obtain ⟨r8, h7, hF⟩ := ob1S hF
      cases hF; exact hO
    · have hq := b2
      cases hF; exact hO
  · have hq := b1
    cases hF; exact hO
abbrev P_X7_shade : Nat → Nat → Prop := fun x j => (x = 86 ∧ j = 12) ∨ (x = 95) ∨ (x = 96)
set_option maxRecDepth 100000 in
set_option maxHeartbeats 4000000 in
theorem fr_X7_shade {fu : Nat} {M : Mm} {x1 : Int32} {x2 : Int32} {r : Int32} {M' : Mm} (hF : F_X7_shade fu M x1 x2 = some (r, M')) : Out P_X7_shade M M' := by
  have hO : Out P_X7_shade M M := Out.rf
  unfold F_X7_shade at hF
  obtain ⟨r2, h1, hF⟩ := ob1S hF
  rcases ifX hF with ⟨b3, hF⟩ | ⟨b3, hF⟩
  · have hq := b3
    cases hF; exact hO
  · have hq := b3
    obtain ⟨r5, h4, hF⟩ := ob1S hF
    rcases (ifX hF).symm with ⟨b6, hF⟩ | ⟨b6, hF⟩
    · have hq := b6
      rcases (ifX hF).symm with ⟨b7, hF⟩ | ⟨b7, hF⟩
      · have hq := b7
        obtain ⟨n8, hF⟩ := ifO hF
        obtain ⟨M10, h9, hF⟩ := ob1S hF
        have hO := hO.mono (fr_X7_remember h9) (fun x j hx => hx.elim (fun h => Or.inl h) (fun hx => Or.inr (Or.inr (hx))))
        obtain ⟨n11, hF⟩ := ifO hF
        obtain ⟨M12, hO, hF⟩ := lt1W (P := fun q => Out P_X7_shade M q) hF (by first | exact hO.pI (by simp [P_X7_shade]) | exact hO.pL (by simp [P_X7_shade]))
        cases hF; exact hO
      · have hq := b7
        cases hF; exact hO
    · have hq := b6
      cases hF; exact hO
abbrev P_X7_snow : Nat → Nat → Prop := fun x j => (x = 86 ∧ j = 12) ∨ (x = 94) ∨ (x = 96)
set_option maxRecDepth 100000 in
set_option maxHeartbeats 4000000 in
theorem fr_X7_snow {fu : Nat} {M : Mm} {x1 : Int32} {x2 : Int32} {r : Int32} {M' : Mm} (hF : F_X7_snow fu M x1 x2 = some (r, M')) : Out P_X7_snow M M' := by
  have hO : Out P_X7_snow M M := Out.rf
  unfold F_X7_snow at hF
  obtain ⟨r2, h1, hF⟩ := ob1S hF
  rcases ifX hF with ⟨b3, hF⟩ | ⟨b3, hF⟩
  · have hq := b3
    cases hF; exact hO
  · have hq := b3
    obtain ⟨r5, h4, hF⟩ := ob1S hF
    rcases (ifX hF).symm with ⟨b6, hF⟩ | ⟨b6, hF⟩
    · have hq := b6
      obtain ⟨n7, hF⟩ := ifO hF
      rcases (ifX hF).symm with ⟨b8, hF⟩ | ⟨b8, hF⟩
      · have hq := b8
        rcases (ifX hF).symm with ⟨b9, hF⟩ | ⟨b9, hF⟩
        · have hq := b9
          obtain ⟨M11, h10, hF⟩ := ob1S hF
          have hO := hO.mono (fr_X7_remember h10) (fun x j hx => hx.elim (fun h => Or.inl h) (fun hx => Or.inr (Or.inr (hx))))
          obtain ⟨n12, hF⟩ := ifO hF
          obtain ⟨r14, h13, hF⟩ := ob1S hF
          obtain ⟨n15, hF⟩ := ifO hF
          obtain ⟨M16, hO, hF⟩ := lt1W (P := fun q => Out P_X7_snow M q) hF (by first | exact hO.pI (by simp [P_X7_snow]) | exact hO.pL (by simp [P_X7_snow]))
          obtain ⟨n17, hF⟩ := ifO hF
          cases hF; exact hO
        · have hq := b9
          cases hF; exact hO
      · have hq := b8
        cases hF; exact hO
    · have hq := b6
      cases hF; exact hO
abbrev P_X7_undo : Nat → Nat → Prop := fun x j => (x = 86 ∧ j = 11) ∨ (x = 86 ∧ j = 12) ∨ (x = 94) ∨ (x = 95)
set_option maxRecDepth 100000 in
set_option maxHeartbeats 4000000 in
theorem fw_X7_undo_35 {fu : Nat} {r : Int32} {M' : Mm} : ∀ (n : Nat) {x1 : Int32} {x2 : Int32} {x3 : Int32} {x4 : Int32} {M : Mm}, F_X7_undo_35 fu n M x1 x2 x3 x4 = some (r, M') → Out P_X7_undo M M' := by
  intro n
  induction n with
  | zero =>
    intro x1 x2 x3 x4 M hF
    cases hF
  | succ n ih =>
    intro x1 x2 x3 x4 M hF
    have hO : Out P_X7_undo M M := Out.rf
    unfold F_X7_undo_35 at hF
    rcases ifX hF with ⟨b1, hF⟩ | ⟨b1, hF⟩
    · have hq := b1
      obtain ⟨n2, hF⟩ := ifO hF
      obtain ⟨M3, hO, hF⟩ := lt1W (P := fun q => Out P_X7_undo M q) hF (by first | exact hO.pI (by simp [P_X7_undo]) | exact hO.pL (by simp [P_X7_undo]))
      obtain ⟨M4, hO, hF⟩ := lt1W (P := fun q => Out P_X7_undo M q) hF (by first | exact hO.pI (by simp [P_X7_undo]) | exact hO.pL (by simp [P_X7_undo]))
      cases hF; exact hO
    · have hq := b1
      obtain ⟨n5, hF⟩ := ifO hF
      obtain ⟨n6, hF⟩ := ifO hF
      obtain ⟨M7, hO, hF⟩ := lt1W (P := fun q => Out P_X7_undo M q) hF (by first | exact hO.pI (by simp [P_X7_undo]) | exact hO.pL (by simp [P_X7_undo]))
      obtain ⟨n8, hF⟩ := ifO hF
      obtain ⟨n9, hF⟩ := ifO hF
      obtain ⟨M10, hO, hF⟩ := lt1W (P := fun q => Out P_X7_undo M q) hF (by first | exact hO.pI (by simp [P_X7_undo]) | exact hO.pL (by simp [P_X7_undo]))
      exact hO.trans (ih hF)
set_option maxRecDepth 100000 in
set_option maxHeartbeats 4000000 in
theorem fr_X7_undo {fu : Nat} {M : Mm} {x1 : Int32} {r : Int32} {M' : Mm} (hF : F_X7_undo fu M x1 = some (r, M')) : Out P_X7_undo M M' := by
  have hO : Out P_X7_undo M M := Out.rf
  unfold F_X7_undo at hF
  obtain ⟨r2, h1, hF⟩ := ob1S hF
  rcases (ifX hF).symm with ⟨b3, hF⟩ | ⟨b3, hF⟩
  · have hq := b3
    rcases ifX hF with ⟨b4, hF⟩ | ⟨b4, hF⟩
    · have hq := b4
      cases hF; exact hO
    · have hq := b4
      exact hO.trans (fw_X7_undo_35 _ hF)
  · have hq := b3
    cases hF; exact hO
abbrev P_X7_now : Nat → Nat → Prop := fun x j => (x = 86 ∧ j = 16)
set_option maxRecDepth 100000 in
set_option maxHeartbeats 4000000 in
theorem fr_X7_now {fu : Nat} {M : Mm} {r : Int32} {M' : Mm} (hF : F_X7_now fu M = some (r, M')) : Out P_X7_now M M' := by
  have hO : Out P_X7_now M M := Out.rf
  unfold F_X7_now at hF
  rcases (ifX hF).symm with ⟨b1, hF⟩ | ⟨b1, hF⟩
  · have hq := b1
    obtain ⟨r3, h2, hF⟩ := ob1S hF
    obtain ⟨M4, hO, hF⟩ := lt1W (P := fun q => Out P_X7_now M q) hF (by first | exact hO.pI (by simp [P_X7_now]) | exact hO.pL (by simp [P_X7_now]))
    cases hF; exact hO
  · have hq := b1
    cases hF; exact hO
abbrev P_X7_keep : Nat → Nat → Prop := fun x j => (x = 97) ∨ (x = 98)
set_option maxRecDepth 100000 in
set_option maxHeartbeats 4000000 in
theorem fw_X7_keep_113 {fu : Nat} {r : Int32} {M' : Mm} : ∀ (n : Nat) {x1 : Int32} {x2 : Int32} {x3 : Int32} {M : Mm}, F_X7_keep_113 fu n M x1 x2 x3 = some (r, M') → Out P_X7_keep M M' := by
  intro n
  induction n with
  | zero =>
    intro x1 x2 x3 M hF
    cases hF
  | succ n ih =>
    intro x1 x2 x3 M hF
    have hO : Out P_X7_keep M M := Out.rf
    unfold F_X7_keep_113 at hF
    rcases ifX hF with ⟨b1, hF⟩ | ⟨b1, hF⟩
    · have hq := b1
      obtain ⟨n2, hF⟩ := ifO hF
      obtain ⟨M3, hO, hF⟩ := lt1W (P := fun q => Out P_X7_keep M q) hF (by first | exact hO.pI (by simp [P_X7_keep]) | exact hO.pL (by simp [P_X7_keep]))
      cases hF; exact hO
    · have hq := b1
      obtain ⟨n4, hF⟩ := ifO hF
      obtain ⟨n5, hF⟩ := ifO hF
      obtain ⟨M6, hO, hF⟩ := lt1W (P := fun q => Out P_X7_keep M q) hF (by first | exact hO.pI (by simp [P_X7_keep]) | exact hO.pL (by simp [P_X7_keep]))
      exact hO.trans (ih hF)
set_option maxRecDepth 100000 in
set_option maxHeartbeats 4000000 in
theorem fw_X7_keep_66 {fu : Nat} {r : Int32} {M' : Mm} : ∀ (n : Nat) {x1 : Int32} {x2 : Int32} {x3 : Int32} {M : Mm}, F_X7_keep_66 fu n M x1 x2 x3 = some (r, M') → Out P_X7_keep M M' := by
  intro n
  induction n with
  | zero =>
    intro x1 x2 x3 M hF
    cases hF
  | succ n ih =>
    intro x1 x2 x3 M hF
    have hO : Out P_X7_keep M M := Out.rf
    unfold F_X7_keep_66 at hF
    rcases ifX hF with ⟨b1, hF⟩ | ⟨b1, hF⟩
    · have hq := b1
      exact hO.trans (fw_X7_keep_113 _ hF)
    · have hq := b1
      obtain ⟨n2, hF⟩ := ifO hF
      obtain ⟨n3, hF⟩ := ifO hF
      obtain ⟨M4, hO, hF⟩ := lt1W (P := fun q => Out P_X7_keep M q) hF (by first | exact hO.pI (by simp [P_X7_keep]) | exact hO.pL (by simp [P_X7_keep]))
      obtain ⟨n5, hF⟩ := ifO hF
      obtain ⟨n6, hF⟩ := ifO hF
      obtain ⟨M7, hO, hF⟩ := lt1W (P := fun q => Out P_X7_keep M q) hF (by first | exact hO.pI (by simp [P_X7_keep]) | exact hO.pL (by simp [P_X7_keep]))
      exact hO.trans (ih hF)
set_option maxRecDepth 100000 in
set_option maxHeartbeats 4000000 in
theorem fr_X7_keep {fu : Nat} {M : Mm} {x1 : Int32} {r : Int32} {M' : Mm} (hF : F_X7_keep fu M x1 = some (r, M')) : Out P_X7_keep M M' := by
  have hO : Out P_X7_keep M M := Out.rf
  unfold F_X7_keep at hF
  obtain ⟨r2, h1, hF⟩ := ob1S hF
  rcases (ifX hF).symm with ⟨b3, hF⟩ | ⟨b3, hF⟩
  · have hq := b3
    rcases (ifX hF).symm with ⟨b4, hF⟩ | ⟨b4, hF⟩
    · have hq := b4
      obtain ⟨n5, hF⟩ := ifO hF
      obtain ⟨M6, hO, hF⟩ := lt1W (P := fun q => Out P_X7_keep M q) hF (by first | exact hO.pI (by simp [P_X7_keep]) | exact hO.pL (by simp [P_X7_keep]))
      obtain ⟨n7, hF⟩ := ifO hF
      obtain ⟨M8, hO, hF⟩ := lt1W (P := fun q => Out P_X7_keep M q) hF (by first | exact hO.pI (by simp [P_X7_keep]) | exact hO.pL (by simp [P_X7_keep]))
      obtain ⟨n9, hF⟩ := ifO hF
      obtain ⟨M10, hO, hF⟩ := lt1W (P := fun q => Out P_X7_keep M q) hF (by first | exact hO.pI (by simp [P_X7_keep]) | exact hO.pL (by simp [P_X7_keep]))
      exact hO.trans (fw_X7_keep_66 _ hF)
    · have hq := b4
      cases hF; exact hO
  · have hq := b3
    cases hF; exact hO
abbrev P_X7_on : Nat → Nat → Prop := fun x j => (x = 86 ∧ j = 10) ∨ (x = 86 ∧ j = 11) ∨ (x = 86 ∧ j = 12) ∨ (x = 86 ∧ j = 19) ∨ (x = 94) ∨ (x = 95) ∨ (x = 96) ∨ (x = 99)
set_option maxRecDepth 100000 in
set_option maxHeartbeats 4000000 in
theorem fw_X7_on_118 {fu : Nat} {r : Int32} {M' : Mm} : ∀ (n : Nat) {x2 : Int32} {x3 : Int32} {M : Mm}, F_X7_on_118 fu n M x2 x3 = some (r, M') → Out P_X7_on M M' := by
  intro n
  induction n with
  | zero =>
    intro x2 x3 M hF
    cases hF
  | succ n ih =>
    intro x2 x3 M hF
    have hO : Out P_X7_on M M := Out.rf
    unfold F_X7_on_118 at hF
    rcases ifX hF with ⟨b1, hF⟩ | ⟨b1, hF⟩
    · have hq := b1
      cases hF; exact hO
    · have hq := b1
      obtain ⟨n2, hF⟩ := ifO hF
      obtain ⟨n3, hF⟩ := ifO hF
      obtain ⟨M4, hO, hF⟩ := lt1W (P := fun q => Out P_X7_on M q) hF (by first | exact hO.pI (by simp [P_X7_on]) | exact hO.pL (by simp [P_X7_on]))
      exact hO.trans (ih hF)
set_option maxRecDepth 100000 in
set_option maxHeartbeats 4000000 in
theorem fw_X7_on_71 {fu : Nat} {r : Int32} {M' : Mm} : ∀ (n : Nat) {x2 : Int32} {x3 : Int32} {M : Mm}, F_X7_on_71 fu n M x2 x3 = some (r, M') → Out P_X7_on M M' := by
  intro n
  induction n with
  | zero =>
    intro x2 x3 M hF
    cases hF
  | succ n ih =>
    intro x2 x3 M hF
    have hO : Out P_X7_on M M := Out.rf
    unfold F_X7_on_71 at hF
    rcases ifX hF with ⟨b1, hF⟩ | ⟨b1, hF⟩
    · have hq := b1
      exact hO.trans (fw_X7_on_118 _ hF)
    · have hq := b1
      obtain ⟨n2, hF⟩ := ifO hF
      obtain ⟨n3, hF⟩ := ifO hF
      obtain ⟨M4, hO, hF⟩ := lt1W (P := fun q => Out P_X7_on M q) hF (by first | exact hO.pI (by simp [P_X7_on]) | exact hO.pL (by simp [P_X7_on]))
      obtain ⟨n5, hF⟩ := ifO hF
      obtain ⟨n6, hF⟩ := ifO hF
      obtain ⟨M7, hO, hF⟩ := lt1W (P := fun q => Out P_X7_on M q) hF (by first | exact hO.pI (by simp [P_X7_on]) | exact hO.pL (by simp [P_X7_on]))
      exact hO.trans (ih hF)
set_option maxRecDepth 100000 in
set_option maxHeartbeats 4000000 in
theorem fr_X7_on {fu : Nat} {M : Mm} {x1 : Int32} {r : Int32} {M' : Mm} (hF : F_X7_on fu M x1 = some (r, M')) : Out P_X7_on M M' := by
  have hO : Out P_X7_on M M := Out.rf
  unfold F_X7_on at hF
  obtain ⟨r2, h1, hF⟩ := ob1S hF
  rcases (ifX hF).symm with ⟨b3, hF⟩ | ⟨b3, hF⟩
  · have hq := b3
    obtain ⟨n4, hF⟩ := ifO hF
    rcases (ifX hF).symm with ⟨b5, hF⟩ | ⟨b5, hF⟩
    · have hq := b5
      obtain ⟨n6, hF⟩ := ifO hF
      obtain ⟨M7, hO, hF⟩ := lt1W (P := fun q => Out P_X7_on M q) hF (by first | exact hO.pI (by simp [P_X7_on]) | exact hO.pL (by simp [P_X7_on]))
      obtain ⟨n8, hF⟩ := ifO hF
      obtain ⟨M9, hO, hF⟩ := lt1W (P := fun q => Out P_X7_on M q) hF (by first | exact hO.pI (by simp [P_X7_on]) | exact hO.pL (by simp [P_X7_on]))
      obtain ⟨n10, hF⟩ := ifO hF
      obtain ⟨M11, hO, hF⟩ := lt1W (P := fun q => Out P_X7_on M q) hF (by first | exact hO.pI (by simp [P_X7_on]) | exact hO.pL (by simp [P_X7_on]))
      exact hO.trans (fw_X7_on_71 _ hF)
    · have hq := b5
      obtain ⟨r13, M14, h12, hF⟩ := ob2S hF
      have hO := hO.mono (fr_X7_finds h12) (fun x j hx => hx.elim (fun h => Or.inr (Or.inr (Or.inr (Or.inl h)))) (fun hx => Or.inr (Or.inr (Or.inr (Or.inr (Or.inr (Or.inr (Or.inr (hx)))))))))
      cases hF; exact hO
  · have hq := b3
    cases hF; exact hO
abbrev P_X7_votes : Nat → Nat → Prop := fun x j => (x = 86 ∧ j = 16)
set_option maxRecDepth 100000 in
set_option maxHeartbeats 4000000 in
theorem fr_X7_votes {fu : Nat} {M : Mm} {x1 : Int32} {r : Int32} {M' : Mm} (hF : F_X7_votes fu M x1 = some (r, M')) : Out P_X7_votes M M' := by
  have hO : Out P_X7_votes M M := Out.rf
  unfold F_X7_votes at hF
  obtain ⟨r2, h1, hF⟩ := ob1S hF
  rcases (ifX hF).symm with ⟨b3, hF⟩ | ⟨b3, hF⟩
  · have hq := b3
    rcases (ifX hF).symm with ⟨b4, hF⟩ | ⟨b4, hF⟩
    · have hq := b4
      obtain ⟨r6, h5, hF⟩ := ob1S hF
      obtain ⟨r8, h7, hF⟩ := ob1S hF
      obtain ⟨M9, hO, hF⟩ := lt1W (P := fun q => Out P_X7_votes M q) hF (by first | exact hO.pI (by simp [P_X7_votes]) | exact hO.pL (by simp [P_X7_votes]))
      obtain ⟨r11, h10, hF⟩ := ob1S hF
      cases hF; exact hO
    · have hq := b4
      cases hF; exact hO
  · have hq := b3
    cases hF; exact hO
abbrev P_X7_widow : Nat → Nat → Prop := fun x j => (x = 86 ∧ j = 16)
set_option maxRecDepth 100000 in
set_option maxHeartbeats 4000000 in
theorem fw_X7_widow_61 {fu : Nat} {r : Int32} {M' : Mm} {k18 : Mm → Int32 → Int32 → Int32 → Option (Int32 × Mm)} (hk_18 : ∀ {x1 : Int32} {x2 : Int32} {x3 : Int32} {M : Mm}, k18 M x1 x2 x3 = some (r, M') → Out P_X7_widow M M') {x2 : Int32} {x3 : Int32} {x4 : Int32} {x5 : Int32} {t0 : Int32} {M : Mm} (hF : F_X7_widow_61 fu k18 M x2 x3 x4 x5 t0 = some (r, M')) : Out P_X7_widow M M' := by
  have hO : Out P_X7_widow M M := Out.rf
  unfold F_X7_widow_61 at hF
  rcases ifX hF with ⟨b1, hF⟩ | ⟨b1, hF⟩
  · have hq := b1
    exact hO.trans (hk_18 hF)
  · have hq := b1
    exact hO.trans (hk_18 hF)
set_option maxRecDepth 100000 in
set_option maxHeartbeats 4000000 in
theorem fw_X7_widow_49 {fu : Nat} {r : Int32} {M' : Mm} {k18 : Mm → Int32 → Int32 → Int32 → Option (Int32 × Mm)} (hk_18 : ∀ {x1 : Int32} {x2 : Int32} {x3 : Int32} {M : Mm}, k18 M x1 x2 x3 = some (r, M') → Out P_X7_widow M M') {x1 : Int32} {x2 : Int32} {x3 : Int32} {x4 : Int32} {t0 : Int32} {M : Mm} (hF : F_X7_widow_49 fu k18 M x1 x2 x3 x4 t0 = some (r, M')) : Out P_X7_widow M M' := by
  have hO : Out P_X7_widow M M := Out.rf
  unfold F_X7_widow_49 at hF
  rcases ifX hF with ⟨b1, hF⟩ | ⟨b1, hF⟩
  · have hq := b1
    exact hO.trans (fw_X7_widow_61 (hk_18 := hk_18) hF)
  · have hq := b1
    exact hO.trans (fw_X7_widow_61 (hk_18 := hk_18) hF)
set_option maxRecDepth 100000 in
set_option maxHeartbeats 4000000 in
theorem fw_X7_widow_48 {fu : Nat} {r : Int32} {M' : Mm} {k18 : Mm → Int32 → Int32 → Int32 → Option (Int32 × Mm)} (hk_18 : ∀ {x1 : Int32} {x2 : Int32} {x3 : Int32} {M : Mm}, k18 M x1 x2 x3 = some (r, M') → Out P_X7_widow M M') {x1 : Int32} {x2 : Int32} {x3 : Int32} {x4 : Int32} {M : Mm} (hF : F_X7_widow_48 fu k18 M x1 x2 x3 x4 = some (r, M')) : Out P_X7_widow M M' := by
  have hO : Out P_X7_widow M M := Out.rf
  unfold F_X7_widow_48 at hF
  exact hO.trans (fw_X7_widow_49 (hk_18 := hk_18) hF)
set_option maxRecDepth 100000 in
set_option maxHeartbeats 4000000 in
theorem fw_X7_widow_18 {fu : Nat} {r : Int32} {M' : Mm} : ∀ (n : Nat) {x1 : Int32} {x2 : Int32} {x3 : Int32} {M : Mm}, F_X7_widow_18 fu n M x1 x2 x3 = some (r, M') → Out P_X7_widow M M' := by
  intro n
  induction n with
  | zero =>
    intro x1 x2 x3 M hF
    cases hF
  | succ n ih =>
    intro x1 x2 x3 M hF
    have hO : Out P_X7_widow M M := Out.rf
    unfold F_X7_widow_18 at hF
    rcases ifX hF with ⟨b1, hF⟩ | ⟨b1, hF⟩
    · have hq := b1
      rcases (ifX hF).symm with ⟨b2, hF⟩ | ⟨b2, hF⟩
      · have hq := b2
        obtain ⟨M3, hO, hF⟩ := lt1W (P := fun q => Out P_X7_widow M q) hF (by first | exact hO.pI (by simp [P_X7_widow]) | exact hO.pL (by simp [P_X7_widow]))
        cases hF; exact hO
      · have hq := b2
        obtain ⟨M4, hO, hF⟩ := lt1W (P := fun q => Out P_X7_widow M q) hF (by first | exact hO.pI (by simp [P_X7_widow]) | exact hO.pL (by simp [P_X7_widow]))
        cases hF; exact hO
    · have hq := b1
      obtain ⟨r6, h5, hF⟩ := ob1S hF
      rcases ifX hF with ⟨b7, hF⟩ | ⟨b7, hF⟩
      · have hq := b7
        exact hO.trans (fw_X7_widow_48 (hk_18 := ih) hF)
      · have hq := b7
        rcases ifX hF with ⟨b8, hF⟩ | ⟨b8, hF⟩
        · have hq := b8
          exact hO.trans (fw_X7_widow_48 (hk_18 := ih) hF)
        · have hq := b8
          exact hO.trans (fw_X7_widow_49 (hk_18 := ih) hF)
set_option maxRecDepth 100000 in
set_option maxHeartbeats 4000000 in
theorem fr_X7_widow {fu : Nat} {M : Mm} {r : Int32} {M' : Mm} (hF : F_X7_widow fu M = some (r, M')) : Out P_X7_widow M M' := by
  have hO : Out P_X7_widow M M := Out.rf
  unfold F_X7_widow at hF
  rcases (ifX hF).symm with ⟨b1, hF⟩ | ⟨b1, hF⟩
  · have hq := b1
    exact hO.trans (fw_X7_widow_18 _ hF)
  · have hq := b1
    cases hF; exact hO
abbrev P_X7_tellShades : Nat → Nat → Prop := fun x j => (x = 87) ∨ (x = 88)
set_option maxRecDepth 100000 in
set_option maxHeartbeats 4000000 in
theorem fw_X7_tellShades_11 {fu : Nat} {M' : Mm} : ∀ (n : Nat) {x1 : Int32} {x2 : Int32} {M : Mm}, F_X7_tellShades_11 fu n M x1 x2 = some M' → Out P_X7_tellShades M M' := by
  intro n
  induction n with
  | zero =>
    intro x1 x2 M hF
    cases hF
  | succ n ih =>
    intro x1 x2 M hF
    have hO : Out P_X7_tellShades M M := Out.rf
    unfold F_X7_tellShades_11 at hF
    rcases ifX hF with ⟨b1, hF⟩ | ⟨b1, hF⟩
    · have hq := b1
      cases hF; exact hO
    · have hq := b1
      obtain ⟨n2, hF⟩ := ifO hF
      obtain ⟨n3, hF⟩ := ifO hF
      obtain ⟨M4, hO, hF⟩ := lt1W (P := fun q => Out P_X7_tellShades M q) hF (by first | exact hO.pI (by simp [P_X7_tellShades]) | exact hO.pL (by simp [P_X7_tellShades]))
      exact hO.trans (ih hF)
set_option maxRecDepth 100000 in
set_option maxHeartbeats 4000000 in
theorem fr_X7_tellShades {fu : Nat} {M : Mm} {x1 : Int32} {M' : Mm} (hF : F_X7_tellShades fu M x1 = some M') : Out P_X7_tellShades M M' := by
  have hO : Out P_X7_tellShades M M := Out.rf
  unfold F_X7_tellShades at hF
  obtain ⟨M2, h1, hF⟩ := ob1S hF
  have hO := hO.mono (fr_X7_layRow h1) (fun x j hx => hx.elim (fun h => Or.inl h) (fun hx => Or.inr (hx)))
  exact hO.trans (fw_X7_tellShades_11 _ hF)
abbrev P_X7_guard : Nat → Nat → Prop := fun x j => (x = 106) ∨ (x = 87) ∨ (x = 88)
set_option maxRecDepth 100000 in
set_option maxHeartbeats 4000000 in
theorem fw_X7_guard_105 {fu : Nat} {r : Int32} {M' : Mm} {k40 : Mm → Int32 → Int32 → Int32 → Int32 → Int32 → Option (Int32 × Mm)} (hk_40 : ∀ {x1 : Int32} {x2 : Int32} {x3 : Int32} {x4 : Int32} {x5 : Int32} {M : Mm}, k40 M x1 x2 x3 x4 x5 = some (r, M') → Out P_X7_guard M M') {x1 : Int32} {x2 : Int32} {x3 : Int32} {x4 : Int32} {x5 : Int32} {x6 : Int32} {M : Mm} (hF : F_X7_guard_105 fu k40 M x1 x2 x3 x4 x5 x6 = some (r, M')) : Out P_X7_guard M M' := by
  have hO : Out P_X7_guard M M := Out.rf
  unfold F_X7_guard_105 at hF
  rcases (ifX hF).symm with ⟨b1, hF⟩ | ⟨b1, hF⟩
  · have hq := b1
    obtain ⟨n2, hF⟩ := ifO hF
    obtain ⟨M3, hO, hF⟩ := lt1W (P := fun q => Out P_X7_guard M q) hF (by first | exact hO.pI (by simp [P_X7_guard]) | exact hO.pL (by simp [P_X7_guard]))
    obtain ⟨n4, hF⟩ := ifO hF
    exact hO.trans (hk_40 hF)
  · have hq := b1
    cases hF; exact hO
set_option maxRecDepth 100000 in
set_option maxHeartbeats 4000000 in
theorem fw_X7_guard_58 {fu : Nat} {r : Int32} {M' : Mm} {k40 : Mm → Int32 → Int32 → Int32 → Int32 → Int32 → Option (Int32 × Mm)} (hk_40 : ∀ {x1 : Int32} {x2 : Int32} {x3 : Int32} {x4 : Int32} {x5 : Int32} {M : Mm}, k40 M x1 x2 x3 x4 x5 = some (r, M') → Out P_X7_guard M M') : ∀ (n : Nat) {x1 : Int32} {x2 : Int32} {x3 : Int32} {x4 : Int32} {x5 : Int32} {x6 : Int32} {M : Mm}, F_X7_guard_58 fu k40 n M x1 x2 x3 x4 x5 x6 = some (r, M') → Out P_X7_guard M M' := by
  intro n
  induction n with
  | zero =>
    intro x1 x2 x3 x4 x5 x6 M hF
    cases hF
  | succ n ih =>
    intro x1 x2 x3 x4 x5 x6 M hF
    have hO : Out P_X7_guard M M := Out.rf
    unfold F_X7_guard_58 at hF
    rcases (ifX hF).symm with ⟨b1, hF⟩ | ⟨b1, hF⟩
    · have hq := b1
      exact hO.trans (fw_X7_guard_105 (hk_40 := hk_40) hF)
    · have hq := b1
      rcases ifX hF with ⟨b2, hF⟩ | ⟨b2, hF⟩
      · have hq := b2
        exact hO.trans (fw_X7_guard_105 (hk_40 := hk_40) hF)
      · have hq := b2
        obtain ⟨n3, hF⟩ := ifO hF
        obtain ⟨n4, hF⟩ := ifO hF
        obtain ⟨r6, h5, hF⟩ := ob1S hF
        rcases (ifX hF).symm with ⟨b7, hF⟩ | ⟨b7, hF⟩
        · have hq := b7
          exact hO.trans (fw_X7_guard_105 (hk_40 := hk_40) hF)
        · have hq := b7
          exact hO.trans (ih hF)
set_option maxRecDepth 100000 in
set_option maxHeartbeats 4000000 in
theorem fw_X7_guard_40 {fu : Nat} {r : Int32} {M' : Mm} : ∀ (n : Nat) {x1 : Int32} {x2 : Int32} {x3 : Int32} {x4 : Int32} {x5 : Int32} {M : Mm}, F_X7_guard_40 fu n M x1 x2 x3 x4 x5 = some (r, M') → Out P_X7_guard M M' := by
  intro n
  induction n with
  | zero =>
    intro x1 x2 x3 x4 x5 M hF
    cases hF
  | succ n ih =>
    intro x1 x2 x3 x4 x5 M hF
    have hO : Out P_X7_guard M M := Out.rf
    unfold F_X7_guard_40 at hF
    rcases ifX hF with ⟨b1, hF⟩ | ⟨b1, hF⟩
    · have hq := b1
      obtain ⟨M3, h2, hF⟩ := ob1S hF
      have hO := hO.mono (fr_X7_tellShades h2) (fun x j hx => hx.elim (fun h => Or.inr (Or.inl h)) (fun hx => Or.inr (Or.inr (hx))))
      cases hF; exact hO
    · have hq := b1
      obtain ⟨n4, hF⟩ := ifO hF
      exact hO.trans (fw_X7_guard_58 (hk_40 := ih) _ hF)
set_option maxRecDepth 100000 in
set_option maxHeartbeats 4000000 in
theorem fr_X7_guard {fu : Nat} {M : Mm} {x1 : Int32} {x2 : Int32} {x3 : Int32} {r : Int32} {M' : Mm} (hF : F_X7_guard fu M x1 x2 x3 = some (r, M')) : Out P_X7_guard M M' := by
  have hO : Out P_X7_guard M M := Out.rf
  unfold F_X7_guard at hF
  obtain ⟨r2, h1, hF⟩ := ob1S hF
  rcases ifX hF with ⟨b3, hF⟩ | ⟨b3, hF⟩
  · have hq := b3
    cases hF; exact hO
  · have hq := b3
    obtain ⟨r5, h4, hF⟩ := ob1S hF
    rcases ifX hF with ⟨b6, hF⟩ | ⟨b6, hF⟩
    · have hq := b6
      cases hF; exact hO
    · have hq := b6
      obtain ⟨r8, h7, hF⟩ := ob1S hF
      rcases (ifX hF).symm with ⟨b9, hF⟩ | ⟨b9, hF⟩
      · have hq := b9
        rcases (ifX hF).symm with ⟨b10, hF⟩ | ⟨b10, hF⟩
        · have hq := b10
          exact hO.trans (fw_X7_guard_40 _ hF)
        · have hq := b10
          cases hF; exact hO
      · have hq := b9
        cases hF; exact hO
abbrev P_X7_layShades : Nat → Nat → Prop := fun x j => (x = 107)
set_option maxRecDepth 100000 in
set_option maxHeartbeats 4000000 in
theorem fw_X7_layShades_123 {fu : Nat} {M' : Mm} {k2 : Mm → Int32 → Int32 → Option Mm} (hk_2 : ∀ {x1 : Int32} {x2 : Int32} {M : Mm}, k2 M x1 x2 = some M' → Out P_X7_layShades M M') {k34 : Mm → Int32 → Int32 → Int32 → Option Mm} (hk_34 : ∀ {x1 : Int32} {x2 : Int32} {x3 : Int32} {M : Mm}, k34 M x1 x2 x3 = some M' → Out P_X7_layShades M M') {x1 : Int32} {x2 : Int32} {x3 : Int32} {x4 : Int32} {t0 : Int32} {M : Mm} (hF : F_X7_layShades_123 fu k2 k34 M x1 x2 x3 x4 t0 = some M') : Out P_X7_layShades M M' := by
  have hO : Out P_X7_layShades M M := Out.rf
  unfold F_X7_layShades_123 at hF
  rcases ifX hF with ⟨b1, hF⟩ | ⟨b1, hF⟩
  · have hq := b1
    obtain ⟨n2, hF⟩ := ifO hF
    obtain ⟨n3, hF⟩ := ifO hF
    obtain ⟨M4, hO, hF⟩ := lt1W (P := fun q => Out P_X7_layShades M q) hF (by first | exact hO.pI (by simp [P_X7_layShades]) | exact hO.pL (by simp [P_X7_layShades]))
    exact hO.trans (hk_34 hF)
  · have hq := b1
    obtain ⟨n5, hF⟩ := ifO hF
    obtain ⟨M6, hO, hF⟩ := lt1W (P := fun q => Out P_X7_layShades M q) hF (by first | exact hO.pI (by simp [P_X7_layShades]) | exact hO.pL (by simp [P_X7_layShades]))
    exact hO.trans (hk_34 hF)
set_option maxRecDepth 100000 in
set_option maxHeartbeats 4000000 in
theorem fw_X7_layShades_118 {fu : Nat} {M' : Mm} {k2 : Mm → Int32 → Int32 → Option Mm} (hk_2 : ∀ {x1 : Int32} {x2 : Int32} {M : Mm}, k2 M x1 x2 = some M' → Out P_X7_layShades M M') {k34 : Mm → Int32 → Int32 → Int32 → Option Mm} (hk_34 : ∀ {x1 : Int32} {x2 : Int32} {x3 : Int32} {M : Mm}, k34 M x1 x2 x3 = some M' → Out P_X7_layShades M M') {x1 : Int32} {x2 : Int32} {x3 : Int32} {x4 : Int32} {M : Mm} (hF : F_X7_layShades_118 fu k2 k34 M x1 x2 x3 x4 = some M') : Out P_X7_layShades M M' := by
  have hO : Out P_X7_layShades M M := Out.rf
  unfold F_X7_layShades_118 at hF
  exact hO.trans (fw_X7_layShades_123 (hk_2 := hk_2) (hk_34 := hk_34) hF)
set_option maxRecDepth 100000 in
set_option maxHeartbeats 4000000 in
theorem fw_X7_layShades_74 {fu : Nat} {M' : Mm} {k2 : Mm → Int32 → Int32 → Option Mm} (hk_2 : ∀ {x1 : Int32} {x2 : Int32} {M : Mm}, k2 M x1 x2 = some M' → Out P_X7_layShades M M') {k34 : Mm → Int32 → Int32 → Int32 → Option Mm} (hk_34 : ∀ {x1 : Int32} {x2 : Int32} {x3 : Int32} {M : Mm}, k34 M x1 x2 x3 = some M' → Out P_X7_layShades M M') {x1 : Int32} {x2 : Int32} {x3 : Int32} {t0 : Int32} {t1 : Int32} {M : Mm} (hF : F_X7_layShades_74 fu k2 k34 M x1 x2 x3 t0 t1 = some M') : Out P_X7_layShades M M' := by
  have hO : Out P_X7_layShades M M := Out.rf
  unfold F_X7_layShades_74 at hF
  obtain ⟨n1, hF⟩ := ifO hF
  rcases ifX hF with ⟨b2, hF⟩ | ⟨b2, hF⟩
  · have hq := b2
    exact hO.trans (fw_X7_layShades_118 (hk_2 := hk_2) (hk_34 := hk_34) hF)
  · have hq := b2
    obtain ⟨n3, hF⟩ := ifO hF
    obtain ⟨r5, h4, hF⟩ := ob1S hF
    obtain ⟨n6, hF⟩ := ifO hF
    obtain ⟨n7, hF⟩ := ifO hF
    obtain ⟨r9, h8, hF⟩ := ob1S hF
    rcases ifX hF with ⟨b10, hF⟩ | ⟨b10, hF⟩
    · have hq := b10
      exact hO.trans (fw_X7_layShades_123 (hk_2 := hk_2) (hk_34 := hk_34) hF)
    · have hq := b10
      exact hO.trans (fw_X7_layShades_118 (hk_2 := hk_2) (hk_34 := hk_34) hF)
set_option maxRecDepth 100000 in
set_option maxHeartbeats 4000000 in
theorem fw_X7_layShades_34 {fu : Nat} {M' : Mm} {k2 : Mm → Int32 → Int32 → Option Mm} (hk_2 : ∀ {x1 : Int32} {x2 : Int32} {M : Mm}, k2 M x1 x2 = some M' → Out P_X7_layShades M M') : ∀ (n : Nat) {x1 : Int32} {x2 : Int32} {x3 : Int32} {M : Mm}, F_X7_layShades_34 fu k2 n M x1 x2 x3 = some M' → Out P_X7_layShades M M' := by
  intro n
  induction n with
  | zero =>
    intro x1 x2 x3 M hF
    cases hF
  | succ n ih =>
    intro x1 x2 x3 M hF
    have hO : Out P_X7_layShades M M := Out.rf
    unfold F_X7_layShades_34 at hF
    rcases ifX hF with ⟨b1, hF⟩ | ⟨b1, hF⟩
    · have hq := b1
      exact hO.trans (hk_2 hF)
    · have hq := b1
      obtain ⟨n2, hF⟩ := ifO hF
      obtain ⟨n3, hF⟩ := ifO hF
      obtain ⟨r5, h4, hF⟩ := ob1S hF
      obtain ⟨r7, h6, hF⟩ := ob1S hF
      rcases ifX hF with ⟨b8, hF⟩ | ⟨b8, hF⟩
      · have hq := b8
        exact hO.trans (fw_X7_layShades_74 (hk_2 := hk_2) (hk_34 := ih) hF)
      · have hq := b8
        exact hO.trans (fw_X7_layShades_74 (hk_2 := hk_2) (hk_34 := ih) hF)
set_option maxRecDepth 100000 in
set_option maxHeartbeats 4000000 in
theorem fw_X7_layShades_2 {fu : Nat} {M' : Mm} : ∀ (n : Nat) {x1 : Int32} {x2 : Int32} {M : Mm}, F_X7_layShades_2 fu n M x1 x2 = some M' → Out P_X7_layShades M M' := by
  intro n
  induction n with
  | zero =>
    intro x1 x2 M hF
    cases hF
  | succ n ih =>
    intro x1 x2 M hF
    have hO : Out P_X7_layShades M M := Out.rf
    unfold F_X7_layShades_2 at hF
    rcases ifX hF with ⟨b1, hF⟩ | ⟨b1, hF⟩
    · have hq := b1
      cases hF; exact hO
    · have hq := b1
      obtain ⟨n2, hF⟩ := ifO hF
      obtain ⟨M3, hO, hF⟩ := lt1W (P := fun q => Out P_X7_layShades M q) hF (by first | exact hO.pI (by simp [P_X7_layShades]) | exact hO.pL (by simp [P_X7_layShades]))
      obtain ⟨n4, hF⟩ := ifO hF
      obtain ⟨M5, hO, hF⟩ := lt1W (P := fun q => Out P_X7_layShades M q) hF (by first | exact hO.pI (by simp [P_X7_layShades]) | exact hO.pL (by simp [P_X7_layShades]))
      exact hO.trans (fw_X7_layShades_34 (hk_2 := ih) _ hF)
set_option maxRecDepth 100000 in
set_option maxHeartbeats 4000000 in
theorem fr_X7_layShades {fu : Nat} {M : Mm} {x1 : Int32} {M' : Mm} (hF : F_X7_layShades fu M x1 = some M') : Out P_X7_layShades M M' := by
  have hO : Out P_X7_layShades M M := Out.rf
  unfold F_X7_layShades at hF
  exact hO.trans (fw_X7_layShades_2 _ hF)
abbrev P_X7_bribe : Nat → Nat → Prop := fun x j => (x = 106) ∨ (x = 107) ∨ (x = 87) ∨ (x = 88)
set_option maxRecDepth 100000 in
set_option maxHeartbeats 4000000 in
theorem fw_X7_bribe_128 {fu : Nat} {r : Int32} {M' : Mm} {k52 : Mm → Int32 → Int32 → Int32 → Int32 → Int32 → Option (Int32 × Mm)} (hk_52 : ∀ {x1 : Int32} {x3 : Int32} {x4 : Int32} {x5 : Int32} {x6 : Int32} {M : Mm}, k52 M x1 x3 x4 x5 x6 = some (r, M') → Out P_X7_bribe M M') {x1 : Int32} {x3 : Int32} {x5 : Int32} {x6 : Int32} {x7 : Int32} {x8 : Int32} {t0 : Int32} {M : Mm} (hF : F_X7_bribe_128 fu k52 M x1 x3 x5 x6 x7 x8 t0 = some (r, M')) : Out P_X7_bribe M M' := by
  have hO : Out P_X7_bribe M M := Out.rf
  unfold F_X7_bribe_128 at hF
  rcases ifX hF with ⟨b1, hF⟩ | ⟨b1, hF⟩
  · have hq := b1
    exact hO.trans (hk_52 hF)
  · have hq := b1
    exact hO.trans (hk_52 hF)
set_option maxRecDepth 100000 in
set_option maxHeartbeats 4000000 in
theorem fw_X7_bribe_114 {fu : Nat} {r : Int32} {M' : Mm} {k52 : Mm → Int32 → Int32 → Int32 → Int32 → Int32 → Option (Int32 × Mm)} (hk_52 : ∀ {x1 : Int32} {x3 : Int32} {x4 : Int32} {x5 : Int32} {x6 : Int32} {M : Mm}, k52 M x1 x3 x4 x5 x6 = some (r, M') → Out P_X7_bribe M M') {x1 : Int32} {x3 : Int32} {x4 : Int32} {x5 : Int32} {x6 : Int32} {x7 : Int32} {t0 : Int32} {M : Mm} (hF : F_X7_bribe_114 fu k52 M x1 x3 x4 x5 x6 x7 t0 = some (r, M')) : Out P_X7_bribe M M' := by
  have hO : Out P_X7_bribe M M := Out.rf
  unfold F_X7_bribe_114 at hF
  rcases ifX hF with ⟨b1, hF⟩ | ⟨b1, hF⟩
  · have hq := b1
    exact hO.trans (fw_X7_bribe_128 (hk_52 := hk_52) hF)
  · have hq := b1
    exact hO.trans (fw_X7_bribe_128 (hk_52 := hk_52) hF)
set_option maxRecDepth 100000 in
set_option maxHeartbeats 4000000 in
theorem fw_X7_bribe_113 {fu : Nat} {r : Int32} {M' : Mm} {k52 : Mm → Int32 → Int32 → Int32 → Int32 → Int32 → Option (Int32 × Mm)} (hk_52 : ∀ {x1 : Int32} {x3 : Int32} {x4 : Int32} {x5 : Int32} {x6 : Int32} {M : Mm}, k52 M x1 x3 x4 x5 x6 = some (r, M') → Out P_X7_bribe M M') {x1 : Int32} {x3 : Int32} {x4 : Int32} {x5 : Int32} {x6 : Int32} {x7 : Int32} {M : Mm} (hF : F_X7_bribe_113 fu k52 M x1 x3 x4 x5 x6 x7 = some (r, M')) : Out P_X7_bribe M M' := by
  have hO : Out P_X7_bribe M M := Out.rf
  unfold F_X7_bribe_113 at hF
  exact hO.trans (fw_X7_bribe_114 (hk_52 := hk_52) hF)
set_option maxRecDepth 100000 in
set_option maxHeartbeats 4000000 in
theorem fw_X7_bribe_93 {fu : Nat} {r : Int32} {M' : Mm} {k52 : Mm → Int32 → Int32 → Int32 → Int32 → Int32 → Option (Int32 × Mm)} (hk_52 : ∀ {x1 : Int32} {x3 : Int32} {x4 : Int32} {x5 : Int32} {x6 : Int32} {M : Mm}, k52 M x1 x3 x4 x5 x6 = some (r, M') → Out P_X7_bribe M M') {x1 : Int32} {x3 : Int32} {x4 : Int32} {x5 : Int32} {x6 : Int32} {t0 : Int32} {M : Mm} (hF : F_X7_bribe_93 fu k52 M x1 x3 x4 x5 x6 t0 = some (r, M')) : Out P_X7_bribe M M' := by
  have hO : Out P_X7_bribe M M := Out.rf
  unfold F_X7_bribe_93 at hF
  rcases ifX hF with ⟨b1, hF⟩ | ⟨b1, hF⟩
  · have hq := b1
    exact hO.trans (fw_X7_bribe_113 (hk_52 := hk_52) hF)
  · have hq := b1
    rcases ifX hF with ⟨b2, hF⟩ | ⟨b2, hF⟩
    · have hq := b2
      exact hO.trans (fw_X7_bribe_113 (hk_52 := hk_52) hF)
    · have hq := b2
      exact hO.trans (fw_X7_bribe_114 (hk_52 := hk_52) hF)
set_option maxRecDepth 100000 in
set_option maxHeartbeats 4000000 in
theorem fw_X7_bribe_79 {fu : Nat} {r : Int32} {M' : Mm} {k52 : Mm → Int32 → Int32 → Int32 → Int32 → Int32 → Option (Int32 × Mm)} (hk_52 : ∀ {x1 : Int32} {x3 : Int32} {x4 : Int32} {x5 : Int32} {x6 : Int32} {M : Mm}, k52 M x1 x3 x4 x5 x6 = some (r, M') → Out P_X7_bribe M M') {x1 : Int32} {x3 : Int32} {x4 : Int32} {x5 : Int32} {x6 : Int32} {t0 : Int32} {t1 : Int32} {M : Mm} (hF : F_X7_bribe_79 fu k52 M x1 x3 x4 x5 x6 t0 t1 = some (r, M')) : Out P_X7_bribe M M' := by
  have hO : Out P_X7_bribe M M := Out.rf
  unfold F_X7_bribe_79 at hF
  rcases (ifX hF).symm with ⟨b1, hF⟩ | ⟨b1, hF⟩
  · have hq := b1
    exact hO.trans (fw_X7_bribe_93 (hk_52 := hk_52) hF)
  · have hq := b1
    obtain ⟨r3, h2, hF⟩ := ob1S hF
    exact hO.trans (fw_X7_bribe_93 (hk_52 := hk_52) hF)
set_option maxRecDepth 100000 in
set_option maxHeartbeats 4000000 in
theorem fw_X7_bribe_163 {fu : Nat} {r : Int32} {M' : Mm} : ∀ (n : Nat) {x3 : Int32} {x4 : Int32} {x5 : Int32} {x6 : Int32} {M : Mm}, F_X7_bribe_163 fu n M x3 x4 x5 x6 = some (r, M') → Out P_X7_bribe M M' := by
  intro n
  induction n with
  | zero =>
    intro x3 x4 x5 x6 M hF
    cases hF
  | succ n ih =>
    intro x3 x4 x5 x6 M hF
    have hO : Out P_X7_bribe M M := Out.rf
    unfold F_X7_bribe_163 at hF
    rcases ifX hF with ⟨b1, hF⟩ | ⟨b1, hF⟩
    · have hq := b1
      obtain ⟨M3, h2, hF⟩ := ob1S hF
      have hO := hO.mono (fr_X7_tellShades h2) (fun x j hx => hx.elim (fun h => Or.inr (Or.inr (Or.inl h))) (fun hx => Or.inr (Or.inr (Or.inr (hx)))))
      cases hF; exact hO
    · have hq := b1
      obtain ⟨n4, hF⟩ := ifO hF
      obtain ⟨n5, hF⟩ := ifO hF
      obtain ⟨M6, hO, hF⟩ := lt1W (P := fun q => Out P_X7_bribe M q) hF (by first | exact hO.pI (by simp [P_X7_bribe]) | exact hO.pL (by simp [P_X7_bribe]))
      exact hO.trans (ih hF)
set_option maxRecDepth 100000 in
set_option maxHeartbeats 4000000 in
theorem fw_X7_bribe_52 {fu : Nat} {r : Int32} {M' : Mm} : ∀ (n : Nat) {x1 : Int32} {x3 : Int32} {x4 : Int32} {x5 : Int32} {x6 : Int32} {M : Mm}, F_X7_bribe_52 fu n M x1 x3 x4 x5 x6 = some (r, M') → Out P_X7_bribe M M' := by
  intro n
  induction n with
  | zero =>
    intro x1 x3 x4 x5 x6 M hF
    cases hF
  | succ n ih =>
    intro x1 x3 x4 x5 x6 M hF
    have hO : Out P_X7_bribe M M := Out.rf
    unfold F_X7_bribe_52 at hF
    rcases ifX hF with ⟨b1, hF⟩ | ⟨b1, hF⟩
    · have hq := b1
      rcases (ifX hF).symm with ⟨b2, hF⟩ | ⟨b2, hF⟩
      · have hq := b2
        exact hO.trans (fw_X7_bribe_163 _ hF)
      · have hq := b2
        cases hF; exact hO
    · have hq := b1
      obtain ⟨r4, h3, hF⟩ := ob1S hF
      rcases (ifX hF).symm with ⟨b5, hF⟩ | ⟨b5, hF⟩
      · have hq := b5
        exact hO.trans (fw_X7_bribe_79 (hk_52 := ih) hF)
      · have hq := b5
        exact hO.trans (fw_X7_bribe_79 (hk_52 := ih) hF)
set_option maxRecDepth 100000 in
set_option maxHeartbeats 4000000 in
theorem fr_X7_bribe {fu : Nat} {M : Mm} {x1 : Int32} {x2 : Int32} {x3 : Int32} {r : Int32} {M' : Mm} (hF : F_X7_bribe fu M x1 x2 x3 = some (r, M')) : Out P_X7_bribe M M' := by
  have hO : Out P_X7_bribe M M := Out.rf
  unfold F_X7_bribe at hF
  obtain ⟨r2, h1, hF⟩ := ob1S hF
  rcases ifX hF with ⟨b3, hF⟩ | ⟨b3, hF⟩
  · have hq := b3
    cases hF; exact hO
  · have hq := b3
    obtain ⟨r5, h4, hF⟩ := ob1S hF
    rcases ifX hF with ⟨b6, hF⟩ | ⟨b6, hF⟩
    · have hq := b6
      cases hF; exact hO
    · have hq := b6
      obtain ⟨r8, h7, hF⟩ := ob1S hF
      rcases (ifX hF).symm with ⟨b9, hF⟩ | ⟨b9, hF⟩
      · have hq := b9
        rcases (ifX hF).symm with ⟨b10, hF⟩ | ⟨b10, hF⟩
        · have hq := b10
          obtain ⟨M12, h11, hF⟩ := ob1S hF
          have hO := hO.mono (fr_X7_layShades h11) (fun x j hx => Or.inr (Or.inl hx))
          exact hO.trans (fw_X7_bribe_52 _ hF)
        · have hq := b10
          cases hF; exact hO
      · have hq := b9
        cases hF; exact hO
abbrev P_X7_layGone : Nat → Nat → Prop := fun x j => (x = 108) ∨ (x = 109)
set_option maxRecDepth 100000 in
set_option maxHeartbeats 4000000 in
theorem fw_X7_layGone_2 {fu : Nat} {M' : Mm} : ∀ (n : Nat) {x1 : Int32} {M : Mm}, F_X7_layGone_2 fu n M x1 = some M' → Out P_X7_layGone M M' := by
  intro n
  induction n with
  | zero =>
    intro x1 M hF
    cases hF
  | succ n ih =>
    intro x1 M hF
    have hO : Out P_X7_layGone M M := Out.rf
    unfold F_X7_layGone_2 at hF
    rcases ifX hF with ⟨b1, hF⟩ | ⟨b1, hF⟩
    · have hq := b1
      cases hF; exact hO
    · have hq := b1
      obtain ⟨r3, h2, hF⟩ := ob1S hF
      rcases (ifX hF).symm with ⟨b4, hF⟩ | ⟨b4, hF⟩
      · have hq := b4
        obtain ⟨n5, hF⟩ := ifO hF
        obtain ⟨M6, hO, hF⟩ := lt1W (P := fun q => Out P_X7_layGone M q) hF (by first | exact hO.pI (by simp [P_X7_layGone]) | exact hO.pL (by simp [P_X7_layGone]))
        obtain ⟨n7, hF⟩ := ifO hF
        obtain ⟨M8, hO, hF⟩ := lt1W (P := fun q => Out P_X7_layGone M q) hF (by first | exact hO.pI (by simp [P_X7_layGone]) | exact hO.pL (by simp [P_X7_layGone]))
        exact hO.trans (ih hF)
      · have hq := b4
        obtain ⟨n9, hF⟩ := ifO hF
        obtain ⟨M10, hO, hF⟩ := lt1W (P := fun q => Out P_X7_layGone M q) hF (by first | exact hO.pI (by simp [P_X7_layGone]) | exact hO.pL (by simp [P_X7_layGone]))
        obtain ⟨n11, hF⟩ := ifO hF
        obtain ⟨M12, hO, hF⟩ := lt1W (P := fun q => Out P_X7_layGone M q) hF (by first | exact hO.pI (by simp [P_X7_layGone]) | exact hO.pL (by simp [P_X7_layGone]))
        exact hO.trans (ih hF)
set_option maxRecDepth 100000 in
set_option maxHeartbeats 4000000 in
theorem fr_X7_layGone {fu : Nat} {M : Mm} {M' : Mm} (hF : F_X7_layGone fu M = some M') : Out P_X7_layGone M M' := by
  have hO : Out P_X7_layGone M M := Out.rf
  unfold F_X7_layGone at hF
  exact hO.trans (fw_X7_layGone_2 _ hF)
abbrev P_X7_nextOrder : Nat → Nat → Prop := fun x j => (x = 109)
set_option maxRecDepth 100000 in
set_option maxHeartbeats 4000000 in
theorem fw_X7_nextOrder_107 {fu : Nat} {r : Int32} {M' : Mm} : ∀ (n : Nat) {x4 : Int32} {x5 : Int32} {M : Mm}, F_X7_nextOrder_107 fu n M x4 x5 = some (r, M') → Out P_X7_nextOrder M M' := by
  intro n
  induction n with
  | zero =>
    intro x4 x5 M hF
    cases hF
  | succ n ih =>
    intro x4 x5 M hF
    have hO : Out P_X7_nextOrder M M := Out.rf
    unfold F_X7_nextOrder_107 at hF
    rcases ifX hF with ⟨b1, hF⟩ | ⟨b1, hF⟩
    · have hq := b1
      cases hF; exact hO
    · have hq := b1
      obtain ⟨n2, hF⟩ := ifO hF
      obtain ⟨n3, hF⟩ := ifO hF
      obtain ⟨n4, hF⟩ := ifO hF
      obtain ⟨M5, hO, hF⟩ := lt1W (P := fun q => Out P_X7_nextOrder M q) hF (by first | exact hO.pI (by simp [P_X7_nextOrder]) | exact hO.pL (by simp [P_X7_nextOrder]))
      obtain ⟨n6, hF⟩ := ifO hF
      obtain ⟨M7, hO, hF⟩ := lt1W (P := fun q => Out P_X7_nextOrder M q) hF (by first | exact hO.pI (by simp [P_X7_nextOrder]) | exact hO.pL (by simp [P_X7_nextOrder]))
      exact hO.trans (ih hF)
set_option maxRecDepth 100000 in
set_option maxHeartbeats 4000000 in
theorem fw_X7_nextOrder_47 {fu : Nat} {r : Int32} {M' : Mm} : ∀ (n : Nat) {x1 : Int32} {x2 : Int32} {M : Mm}, F_X7_nextOrder_47 fu n M x1 x2 = some (r, M') → Out P_X7_nextOrder M M' := by
  intro n
  induction n with
  | zero =>
    intro x1 x2 M hF
    cases hF
  | succ n ih =>
    intro x1 x2 M hF
    have hO : Out P_X7_nextOrder M M := Out.rf
    unfold F_X7_nextOrder_47 at hF
    obtain ⟨n1, hF⟩ := ifO hF
    obtain ⟨n2, hF⟩ := ifO hF
    rcases ifX hF with ⟨b3, hF⟩ | ⟨b3, hF⟩
    · have hq := b3
      obtain ⟨n4, hF⟩ := ifO hF
      obtain ⟨n5, hF⟩ := ifO hF
      obtain ⟨n6, hF⟩ := ifO hF
      obtain ⟨M7, hO, hF⟩ := lt1W (P := fun q => Out P_X7_nextOrder M q) hF (by first | exact hO.pI (by simp [P_X7_nextOrder]) | exact hO.pL (by simp [P_X7_nextOrder]))
      obtain ⟨n8, hF⟩ := ifO hF
      obtain ⟨M9, hO, hF⟩ := lt1W (P := fun q => Out P_X7_nextOrder M q) hF (by first | exact hO.pI (by simp [P_X7_nextOrder]) | exact hO.pL (by simp [P_X7_nextOrder]))
      exact hO.trans (fw_X7_nextOrder_107 _ hF)
    · have hq := b3
      exact hO.trans (ih hF)
set_option maxRecDepth 100000 in
set_option maxHeartbeats 4000000 in
theorem fw_X7_nextOrder_34 {fu : Nat} {r : Int32} {M' : Mm} {x1 : Int32} {M : Mm} (hF : F_X7_nextOrder_34 fu M x1 = some (r, M')) : Out P_X7_nextOrder M M' := by
  have hO : Out P_X7_nextOrder M M := Out.rf
  unfold F_X7_nextOrder_34 at hF
  rcases ifX hF with ⟨b1, hF⟩ | ⟨b1, hF⟩
  · have hq := b1
    exact hO.trans (fw_X7_nextOrder_47 _ hF)
  · have hq := b1
    cases hF; exact hO
set_option maxRecDepth 100000 in
set_option maxHeartbeats 4000000 in
theorem fw_X7_nextOrder_7 {fu : Nat} {r : Int32} {M' : Mm} : ∀ (n : Nat) {x1 : Int32} {M : Mm}, F_X7_nextOrder_7 fu n M x1 = some (r, M') → Out P_X7_nextOrder M M' := by
  intro n
  induction n with
  | zero =>
    intro x1 M hF
    cases hF
  | succ n ih =>
    intro x1 M hF
    have hO : Out P_X7_nextOrder M M := Out.rf
    unfold F_X7_nextOrder_7 at hF
    rcases ifX hF with ⟨b1, hF⟩ | ⟨b1, hF⟩
    · have hq := b1
      exact hO.trans (fw_X7_nextOrder_34 hF)
    · have hq := b1
      obtain ⟨n2, hF⟩ := ifO hF
      obtain ⟨n3, hF⟩ := ifO hF
      rcases ifX hF with ⟨b4, hF⟩ | ⟨b4, hF⟩
      · have hq := b4
        exact hO.trans (fw_X7_nextOrder_34 hF)
      · have hq := b4
        exact hO.trans (ih hF)
set_option maxRecDepth 100000 in
set_option maxHeartbeats 4000000 in
theorem fr_X7_nextOrder {fu : Nat} {M : Mm} {r : Int32} {M' : Mm} (hF : F_X7_nextOrder fu M = some (r, M')) : Out P_X7_nextOrder M M' := by
  have hO : Out P_X7_nextOrder M M := Out.rf
  unfold F_X7_nextOrder at hF
  exact hO.trans (fw_X7_nextOrder_7 _ hF)
abbrev P_X7_census : Nat → Nat → Prop := fun x j => (x = 108) ∨ (x = 109) ∨ (x = 110) ∨ (x = 87) ∨ (x = 88)
set_option maxRecDepth 100000 in
set_option maxHeartbeats 4000000 in
theorem fw_X7_census_76 {fu : Nat} {r : Int32} {M' : Mm} {k28 : Mm → Int32 → Int32 → Int32 → Option (Int32 × Mm)} (hk_28 : ∀ {x1 : Int32} {x2 : Int32} {x3 : Int32} {M : Mm}, k28 M x1 x2 x3 = some (r, M') → Out P_X7_census M M') {x1 : Int32} {x2 : Int32} {x4 : Int32} {M : Mm} (hF : F_X7_census_76 fu k28 M x1 x2 x4 = some (r, M')) : Out P_X7_census M M' := by
  have hO : Out P_X7_census M M := Out.rf
  unfold F_X7_census_76 at hF
  obtain ⟨r2, h1, hF⟩ := ob1S hF
  obtain ⟨r4, M5, h3, hF⟩ := ob2S hF
  have hO := hO.mono (fr_X7_nextOrder h3) (fun x j hx => Or.inr (Or.inl hx))
  exact hO.trans (hk_28 hF)
set_option maxRecDepth 100000 in
set_option maxHeartbeats 4000000 in
theorem fw_X7_census_41 {fu : Nat} {r : Int32} {M' : Mm} {k28 : Mm → Int32 → Int32 → Int32 → Option (Int32 × Mm)} (hk_28 : ∀ {x1 : Int32} {x2 : Int32} {x3 : Int32} {M : Mm}, k28 M x1 x2 x3 = some (r, M') → Out P_X7_census M M') : ∀ (n : Nat) {x1 : Int32} {x2 : Int32} {x4 : Int32} {x5 : Int32} {M : Mm}, F_X7_census_41 fu k28 n M x1 x2 x4 x5 = some (r, M') → Out P_X7_census M M' := by
  intro n
  induction n with
  | zero =>
    intro x1 x2 x4 x5 M hF
    cases hF
  | succ n ih =>
    intro x1 x2 x4 x5 M hF
    have hO : Out P_X7_census M M := Out.rf
    unfold F_X7_census_41 at hF
    rcases ifX hF with ⟨b1, hF⟩ | ⟨b1, hF⟩
    · have hq := b1
      exact hO.trans (fw_X7_census_76 (hk_28 := hk_28) hF)
    · have hq := b1
      rcases ifX hF with ⟨b2, hF⟩ | ⟨b2, hF⟩
      · have hq := b2
        exact hO.trans (fw_X7_census_76 (hk_28 := hk_28) hF)
      · have hq := b2
        obtain ⟨n3, hF⟩ := ifO hF
        obtain ⟨n4, hF⟩ := ifO hF
        obtain ⟨M5, hO, hF⟩ := lt1W (P := fun q => Out P_X7_census M q) hF (by first | exact hO.pI (by simp [P_X7_census]) | exact hO.pL (by simp [P_X7_census]))
        exact hO.trans (ih hF)
set_option maxRecDepth 100000 in
set_option maxHeartbeats 4000000 in
theorem fw_X7_census_103 {fu : Nat} {r : Int32} {M' : Mm} : ∀ (n : Nat) {x1 : Int32} {x2 : Int32} {x4 : Int32} {M : Mm}, F_X7_census_103 fu n M x1 x2 x4 = some (r, M') → Out P_X7_census M M' := by
  intro n
  induction n with
  | zero =>
    intro x1 x2 x4 M hF
    cases hF
  | succ n ih =>
    intro x1 x2 x4 M hF
    have hO : Out P_X7_census M M := Out.rf
    unfold F_X7_census_103 at hF
    rcases ifX hF with ⟨b1, hF⟩ | ⟨b1, hF⟩
    · have hq := b1
      cases hF; exact hO
    · have hq := b1
      obtain ⟨n2, hF⟩ := ifO hF
      obtain ⟨n3, hF⟩ := ifO hF
      obtain ⟨M4, hO, hF⟩ := lt1W (P := fun q => Out P_X7_census M q) hF (by first | exact hO.pI (by simp [P_X7_census]) | exact hO.pL (by simp [P_X7_census]))
      exact hO.trans (ih hF)
set_option maxRecDepth 100000 in
set_option maxHeartbeats 4000000 in
theorem fw_X7_census_28 {fu : Nat} {r : Int32} {M' : Mm} : ∀ (n : Nat) {x1 : Int32} {x2 : Int32} {x3 : Int32} {M : Mm}, F_X7_census_28 fu n M x1 x2 x3 = some (r, M') → Out P_X7_census M M' := by
  intro n
  induction n with
  | zero =>
    intro x1 x2 x3 M hF
    cases hF
  | succ n ih =>
    intro x1 x2 x3 M hF
    have hO : Out P_X7_census M M := Out.rf
    unfold F_X7_census_28 at hF
    rcases ifX hF with ⟨b1, hF⟩ | ⟨b1, hF⟩
    · have hq := b1
      obtain ⟨M3, h2, hF⟩ := ob1S hF
      have hO := hO.mono (fr_X7_layRow h2) (fun x j hx => hx.elim (fun h => Or.inr (Or.inr (Or.inr (Or.inl h)))) (fun hx => Or.inr (Or.inr (Or.inr (Or.inr (hx))))))
      exact hO.trans (fw_X7_census_103 _ hF)
    · have hq := b1
      obtain ⟨r5, h4, hF⟩ := ob1S hF
      exact hO.trans (fw_X7_census_41 (hk_28 := ih) _ hF)
set_option maxRecDepth 100000 in
set_option maxHeartbeats 4000000 in
theorem fr_X7_census {fu : Nat} {M : Mm} {x1 : Int32} {r : Int32} {M' : Mm} (hF : F_X7_census fu M x1 = some (r, M')) : Out P_X7_census M M' := by
  have hO : Out P_X7_census M M := Out.rf
  unfold F_X7_census at hF
  obtain ⟨r2, h1, hF⟩ := ob1S hF
  rcases (ifX hF).symm with ⟨b3, hF⟩ | ⟨b3, hF⟩
  · have hq := b3
    rcases (ifX hF).symm with ⟨b4, hF⟩ | ⟨b4, hF⟩
    · have hq := b4
      obtain ⟨M6, h5, hF⟩ := ob1S hF
      have hO := hO.mono (fr_X7_layGone h5) (fun x j hx => hx.elim (fun h => Or.inl h) (fun hx => Or.inr (Or.inl hx)))
      exact hO.trans (fw_X7_census_28 _ hF)
    · have hq := b4
      cases hF; exact hO
  · have hq := b3
    cases hF; exact hO
abbrev P_X7_counted : Nat → Nat → Prop := fun x j => (x = 108) ∨ (x = 109) ∨ (x = 86 ∧ j = 19) ∨ (x = 99)
set_option maxRecDepth 100000 in
set_option maxHeartbeats 4000000 in
theorem fw_X7_counted_99 {fu : Nat} {r : Int32} {M' : Mm} {M : Mm} (hF : F_X7_counted_99 fu M = some (r, M')) : Out P_X7_counted M M' := by
  have hO : Out P_X7_counted M M := Out.rf
  unfold F_X7_counted_99 at hF
  obtain ⟨r2, M3, h1, hF⟩ := ob2S hF
  have hO := hO.mono (fr_X7_finds h1) (fun x j hx => hx.elim (fun h => Or.inr (Or.inr (Or.inl h))) (fun hx => Or.inr (Or.inr (Or.inr (hx)))))
  cases hF; exact hO
set_option maxRecDepth 100000 in
set_option maxHeartbeats 4000000 in
theorem fw_X7_counted_124 {fu : Nat} {r : Int32} {M' : Mm} : ∀ (n : Nat) {x1 : Int32} {x3 : Int32} {M : Mm}, F_X7_counted_124 fu n M x1 x3 = some (r, M') → Out P_X7_counted M M' := by
  intro n
  induction n with
  | zero =>
    intro x1 x3 M hF
    cases hF
  | succ n ih =>
    intro x1 x3 M hF
    have hO : Out P_X7_counted M M := Out.rf
    unfold F_X7_counted_124 at hF
    rcases ifX hF with ⟨b1, hF⟩ | ⟨b1, hF⟩
    · have hq := b1
      obtain ⟨r3, h2, hF⟩ := ob1S hF
      cases hF; exact hO
    · have hq := b1
      obtain ⟨n4, hF⟩ := ifO hF
      obtain ⟨n5, hF⟩ := ifO hF
      obtain ⟨M6, hO, hF⟩ := lt1W (P := fun q => Out P_X7_counted M q) hF (by first | exact hO.pI (by simp [P_X7_counted]) | exact hO.pL (by simp [P_X7_counted]))
      exact hO.trans (ih hF)
set_option maxRecDepth 100000 in
set_option maxHeartbeats 4000000 in
theorem fw_X7_counted_59 {fu : Nat} {r : Int32} {M' : Mm} : ∀ (n : Nat) {x1 : Int32} {x2 : Int32} {x3 : Int32} {M : Mm}, F_X7_counted_59 fu n M x1 x2 x3 = some (r, M') → Out P_X7_counted M M' := by
  intro n
  induction n with
  | zero =>
    intro x1 x2 x3 M hF
    cases hF
  | succ n ih =>
    intro x1 x2 x3 M hF
    have hO : Out P_X7_counted M M := Out.rf
    unfold F_X7_counted_59 at hF
    rcases ifX hF with ⟨b1, hF⟩ | ⟨b1, hF⟩
    · have hq := b1
      obtain ⟨M3, h2, hF⟩ := ob1S hF
      have hO := hO.mono (fr_X7_layGone h2) (fun x j hx => hx.elim (fun h => Or.inl h) (fun hx => Or.inr (Or.inl hx)))
      exact hO.trans (fw_X7_counted_124 _ hF)
    · have hq := b1
      obtain ⟨n4, hF⟩ := ifO hF
      obtain ⟨y5, ey5, hF⟩ := lt1E hF
      obtain ⟨r7, h6, hF⟩ := ob1S hF
      rcases ifX hF with ⟨b8, hF⟩ | ⟨b8, hF⟩
      · have hq := b8
        exact hO.trans (fw_X7_counted_99 hF)
      · have hq := b8
        rcases (ifX hF).symm with ⟨b9, hF⟩ | ⟨b9, hF⟩
        · have hq := b9
          exact hO.trans (ih hF)
        · have hq := b9
          exact hO.trans (fw_X7_counted_99 hF)
set_option maxRecDepth 100000 in
set_option maxHeartbeats 4000000 in
theorem fr_X7_counted {fu : Nat} {M : Mm} {x1 : Int32} {r : Int32} {M' : Mm} (hF : F_X7_counted fu M x1 = some (r, M')) : Out P_X7_counted M M' := by
  have hO : Out P_X7_counted M M := Out.rf
  unfold F_X7_counted at hF
  obtain ⟨r2, h1, hF⟩ := ob1S hF
  rcases (ifX hF).symm with ⟨b3, hF⟩ | ⟨b3, hF⟩
  · have hq := b3
    rcases (ifX hF).symm with ⟨b4, hF⟩ | ⟨b4, hF⟩
    · have hq := b4
      obtain ⟨n5, hF⟩ := ifO hF
      rcases (ifX hF).symm with ⟨b6, hF⟩ | ⟨b6, hF⟩
      · have hq := b6
        obtain ⟨n7, hF⟩ := ifO hF
        rcases ifX hF with ⟨b8, hF⟩ | ⟨b8, hF⟩
        · have hq := b8
          exact hO.trans (fw_X7_counted_59 _ hF)
        · have hq := b8
          obtain ⟨r10, M11, h9, hF⟩ := ob2S hF
          have hO := hO.mono (fr_X7_finds h9) (fun x j hx => hx.elim (fun h => Or.inr (Or.inr (Or.inl h))) (fun hx => Or.inr (Or.inr (Or.inr (hx)))))
          cases hF; exact hO
      · have hq := b6
        obtain ⟨r13, M14, h12, hF⟩ := ob2S hF
        have hO := hO.mono (fr_X7_finds h12) (fun x j hx => hx.elim (fun h => Or.inr (Or.inr (Or.inl h))) (fun hx => Or.inr (Or.inr (Or.inr (hx)))))
        cases hF; exact hO
    · have hq := b4
      cases hF; exact hO
  · have hq := b3
    cases hF; exact hO
abbrev P_X7_fits : Nat → Nat → Prop := fun x j => (x = 86 ∧ j = 16) ∨ (x = 86 ∧ j = 19) ∨ (x = 99)
set_option maxRecDepth 100000 in
set_option maxHeartbeats 4000000 in
theorem fw_X7_fits_45 {fu : Nat} {r : Int32} {M' : Mm} : ∀ (n : Nat) {x1 : Int32} {x2 : Int32} {x4 : Int32} {x5 : Int32} {x6 : Int32} {M : Mm}, F_X7_fits_45 fu n M x1 x2 x4 x5 x6 = some (r, M') → Out P_X7_fits M M' := by
  intro n
  induction n with
  | zero =>
    intro x1 x2 x4 x5 x6 M hF
    cases hF
  | succ n ih =>
    intro x1 x2 x4 x5 x6 M hF
    have hO : Out P_X7_fits M M := Out.rf
    unfold F_X7_fits_45 at hF
    rcases ifX hF with ⟨b1, hF⟩ | ⟨b1, hF⟩
    · have hq := b1
      obtain ⟨M2, hO, hF⟩ := lt1W (P := fun q => Out P_X7_fits M q) hF (by first | exact hO.pI (by simp [P_X7_fits]) | exact hO.pL (by simp [P_X7_fits]))
      cases hF; exact hO
    · have hq := b1
      obtain ⟨n3, hF⟩ := ifO hF
      obtain ⟨n4, hF⟩ := ifO hF
      obtain ⟨r6, h5, hF⟩ := ob1S hF
      rcases ifX hF with ⟨b7, hF⟩ | ⟨b7, hF⟩
      · have hq := b7
        exact hO.trans (ih hF)
      · have hq := b7
        rcases (ifX hF).symm with ⟨b8, hF⟩ | ⟨b8, hF⟩
        · have hq := b8
          exact hO.trans (ih hF)
        · have hq := b8
          exact hO.trans (ih hF)
set_option maxRecDepth 100000 in
set_option maxHeartbeats 4000000 in
theorem fr_X7_fits {fu : Nat} {M : Mm} {x1 : Int32} {x2 : Int32} {r : Int32} {M' : Mm} (hF : F_X7_fits fu M x1 x2 = some (r, M')) : Out P_X7_fits M M' := by
  have hO : Out P_X7_fits M M := Out.rf
  unfold F_X7_fits at hF
  obtain ⟨r2, h1, hF⟩ := ob1S hF
  rcases ifX hF with ⟨b3, hF⟩ | ⟨b3, hF⟩
  · have hq := b3
    cases hF; exact hO
  · have hq := b3
    obtain ⟨r5, h4, hF⟩ := ob1S hF
    rcases (ifX hF).symm with ⟨b6, hF⟩ | ⟨b6, hF⟩
    · have hq := b6
      obtain ⟨r8, h7, hF⟩ := ob1S hF
      rcases ifX hF with ⟨b9, hF⟩ | ⟨b9, hF⟩
      · have hq := b9
        exact hO.trans (fw_X7_fits_45 _ hF)
      · have hq := b9
        obtain ⟨r11, M12, h10, hF⟩ := ob2S hF
        have hO := hO.mono (fr_X7_finds h10) (fun x j hx => hx.elim (fun h => Or.inr (Or.inl h)) (fun hx => Or.inr (Or.inr (hx))))
        cases hF; exact hO
    · have hq := b6
      cases hF; exact hO
abbrev P_X7_kinds : Nat → Nat → Prop := fun x j => (x = 86 ∧ j = 19) ∨ (x = 99)
set_option maxRecDepth 100000 in
set_option maxHeartbeats 4000000 in
theorem fw_X7_kinds_41 {fu : Nat} {r : Int32} {M' : Mm} : ∀ (n : Nat) {x1 : Int32} {x2 : Int32} {x4 : Int32} {x5 : Int32} {M : Mm}, F_X7_kinds_41 fu n M x1 x2 x4 x5 = some (r, M') → Out P_X7_kinds M M' := by
  intro n
  induction n with
  | zero =>
    intro x1 x2 x4 x5 M hF
    cases hF
  | succ n ih =>
    intro x1 x2 x4 x5 M hF
    have hO : Out P_X7_kinds M M := Out.rf
    unfold F_X7_kinds_41 at hF
    rcases ifX hF with ⟨b1, hF⟩ | ⟨b1, hF⟩
    · have hq := b1
      cases hF; exact hO
    · have hq := b1
      obtain ⟨n2, hF⟩ := ifO hF
      obtain ⟨n3, hF⟩ := ifO hF
      obtain ⟨r5, h4, hF⟩ := ob1S hF
      rcases ifX hF with ⟨b6, hF⟩ | ⟨b6, hF⟩
      · have hq := b6
        exact hO.trans (ih hF)
      · have hq := b6
        exact hO.trans (ih hF)
set_option maxRecDepth 100000 in
set_option maxHeartbeats 4000000 in
theorem fr_X7_kinds {fu : Nat} {M : Mm} {x1 : Int32} {x2 : Int32} {r : Int32} {M' : Mm} (hF : F_X7_kinds fu M x1 x2 = some (r, M')) : Out P_X7_kinds M M' := by
  have hO : Out P_X7_kinds M M := Out.rf
  unfold F_X7_kinds at hF
  obtain ⟨r2, h1, hF⟩ := ob1S hF
  rcases ifX hF with ⟨b3, hF⟩ | ⟨b3, hF⟩
  · have hq := b3
    cases hF; exact hO
  · have hq := b3
    obtain ⟨r5, h4, hF⟩ := ob1S hF
    rcases (ifX hF).symm with ⟨b6, hF⟩ | ⟨b6, hF⟩
    · have hq := b6
      obtain ⟨r8, h7, hF⟩ := ob1S hF
      rcases ifX hF with ⟨b9, hF⟩ | ⟨b9, hF⟩
      · have hq := b9
        exact hO.trans (fw_X7_kinds_41 _ hF)
      · have hq := b9
        obtain ⟨r11, M12, h10, hF⟩ := ob2S hF
        have hO := hO.mono (fr_X7_finds h10) (fun x j hx => hx.elim (fun h => Or.inl h) (fun hx => Or.inr (hx)))
        cases hF; exact hO
    · have hq := b6
      cases hF; exact hO
abbrev P_X7_rights : Nat → Nat → Prop := fun x j => (x = 86 ∧ j = 10)
set_option maxRecDepth 100000 in
set_option maxHeartbeats 4000000 in
theorem fw_X7_rights_20 {fu : Nat} {r : Int32} {M' : Mm} : ∀ (n : Nat) {x1 : Int32} {x2 : Int32} {x3 : Int32} {x4 : Int32} {M : Mm}, F_X7_rights_20 fu n M x1 x2 x3 x4 = some (r, M') → Out P_X7_rights M M' := by
  intro n
  induction n with
  | zero =>
    intro x1 x2 x3 x4 M hF
    cases hF
  | succ n ih =>
    intro x1 x2 x3 x4 M hF
    have hO : Out P_X7_rights M M := Out.rf
    unfold F_X7_rights_20 at hF
    rcases ifX hF with ⟨b1, hF⟩ | ⟨b1, hF⟩
    · have hq := b1
      obtain ⟨M2, hO, hF⟩ := lt1W (P := fun q => Out P_X7_rights M q) hF (by first | exact hO.pI (by simp [P_X7_rights]) | exact hO.pL (by simp [P_X7_rights]))
      cases hF; exact hO
    · have hq := b1
      obtain ⟨M3, hO, hF⟩ := lt1W (P := fun q => Out P_X7_rights M q) hF (by first | exact hO.pI (by simp [P_X7_rights]) | exact hO.pL (by simp [P_X7_rights]))
      obtain ⟨r5, h4, hF⟩ := ob1S hF
      rcases (ifX hF).symm with ⟨b6, hF⟩ | ⟨b6, hF⟩
      · have hq := b6
        exact hO.trans (ih hF)
      · have hq := b6
        exact hO.trans (ih hF)
set_option maxRecDepth 100000 in
set_option maxHeartbeats 4000000 in
theorem fr_X7_rights {fu : Nat} {M : Mm} {x1 : Int32} {r : Int32} {M' : Mm} (hF : F_X7_rights fu M x1 = some (r, M')) : Out P_X7_rights M M' := by
  have hO : Out P_X7_rights M M := Out.rf
  unfold F_X7_rights at hF
  obtain ⟨r2, h1, hF⟩ := ob1S hF
  rcases (ifX hF).symm with ⟨b3, hF⟩ | ⟨b3, hF⟩
  · have hq := b3
    exact hO.trans (fw_X7_rights_20 _ hF)
  · have hq := b3
    cases hF; exact hO
abbrev P_X7_otherLast : Nat → Nat → Prop := fun x j => (x = 95)
set_option maxRecDepth 100000 in
set_option maxHeartbeats 4000000 in
theorem fw_X7_otherLast_29 {fu : Nat} {r : Int32} {M' : Mm} {k4 : Mm → Int32 → Int32 → Option (Int32 × Mm)} (hk_4 : ∀ {x1 : Int32} {x2 : Int32} {M : Mm}, k4 M x1 x2 = some (r, M') → Out P_X7_otherLast M M') {x1 : Int32} {x2 : Int32} {t0 : Int32} {M : Mm} (hF : F_X7_otherLast_29 fu k4 M x1 x2 t0 = some (r, M')) : Out P_X7_otherLast M M' := by
  have hO : Out P_X7_otherLast M M := Out.rf
  unfold F_X7_otherLast_29 at hF
  obtain ⟨n1, hF⟩ := ifO hF
  obtain ⟨r3, h2, hF⟩ := ob1S hF
  rcases ifX hF with ⟨b4, hF⟩ | ⟨b4, hF⟩
  · have hq := b4
    exact hO.trans (hk_4 hF)
  · have hq := b4
    obtain ⟨n5, hF⟩ := ifO hF
    obtain ⟨n6, hF⟩ := ifO hF
    obtain ⟨M7, hO, hF⟩ := lt1W (P := fun q => Out P_X7_otherLast M q) hF (by first | exact hO.pI (by simp [P_X7_otherLast]) | exact hO.pL (by simp [P_X7_otherLast]))
    obtain ⟨r9, h8, hF⟩ := ob1S hF
    obtain ⟨n10, hF⟩ := ifO hF
    obtain ⟨n11, hF⟩ := ifO hF
    obtain ⟨M12, hO, hF⟩ := lt1W (P := fun q => Out P_X7_otherLast M q) hF (by first | exact hO.pI (by simp [P_X7_otherLast]) | exact hO.pL (by simp [P_X7_otherLast]))
    exact hO.trans (hk_4 hF)
set_option maxRecDepth 100000 in
set_option maxHeartbeats 4000000 in
theorem fw_X7_otherLast_4 {fu : Nat} {r : Int32} {M' : Mm} : ∀ (n : Nat) {x1 : Int32} {x2 : Int32} {M : Mm}, F_X7_otherLast_4 fu n M x1 x2 = some (r, M') → Out P_X7_otherLast M M' := by
  intro n
  induction n with
  | zero =>
    intro x1 x2 M hF
    cases hF
  | succ n ih =>
    intro x1 x2 M hF
    have hO : Out P_X7_otherLast M M := Out.rf
    unfold F_X7_otherLast_4 at hF
    rcases ifX hF with ⟨b1, hF⟩ | ⟨b1, hF⟩
    · have hq := b1
      obtain ⟨z2, hF⟩ := ifO hF
      cases hF; exact hO
    · have hq := b1
      rcases ifX hF with ⟨b3, hF⟩ | ⟨b3, hF⟩
      · have hq := b3
        obtain ⟨z4, hF⟩ := ifO hF
        cases hF; exact hO
      · have hq := b3
        rcases (ifX hF).symm with ⟨b5, hF⟩ | ⟨b5, hF⟩
        · have hq := b5
          exact hO.trans (fw_X7_otherLast_29 (hk_4 := ih) hF)
        · have hq := b5
          exact hO.trans (fw_X7_otherLast_29 (hk_4 := ih) hF)
set_option maxRecDepth 100000 in
set_option maxHeartbeats 4000000 in
theorem fr_X7_otherLast {fu : Nat} {M : Mm} {r : Int32} {M' : Mm} (hF : F_X7_otherLast fu M = some (r, M')) : Out P_X7_otherLast M M' := by
  have hO : Out P_X7_otherLast M M := Out.rf
  unfold F_X7_otherLast at hF
  exact hO.trans (fw_X7_otherLast_4 _ hF)
abbrev P_X7_oneLast : Nat → Nat → Prop := fun x j => (x = 95)
set_option maxRecDepth 100000 in
set_option maxHeartbeats 4000000 in
theorem fw_X7_oneLast_29 {fu : Nat} {r : Int32} {M' : Mm} {k4 : Mm → Int32 → Int32 → Option (Int32 × Mm)} (hk_4 : ∀ {x1 : Int32} {x2 : Int32} {M : Mm}, k4 M x1 x2 = some (r, M') → Out P_X7_oneLast M M') {x1 : Int32} {x2 : Int32} {t0 : Int32} {M : Mm} (hF : F_X7_oneLast_29 fu k4 M x1 x2 t0 = some (r, M')) : Out P_X7_oneLast M M' := by
  have hO : Out P_X7_oneLast M M := Out.rf
  unfold F_X7_oneLast_29 at hF
  obtain ⟨n1, hF⟩ := ifO hF
  obtain ⟨r3, h2, hF⟩ := ob1S hF
  rcases ifX hF with ⟨b4, hF⟩ | ⟨b4, hF⟩
  · have hq := b4
    exact hO.trans (hk_4 hF)
  · have hq := b4
    obtain ⟨n5, hF⟩ := ifO hF
    obtain ⟨n6, hF⟩ := ifO hF
    obtain ⟨M7, hO, hF⟩ := lt1W (P := fun q => Out P_X7_oneLast M q) hF (by first | exact hO.pI (by simp [P_X7_oneLast]) | exact hO.pL (by simp [P_X7_oneLast]))
    obtain ⟨r9, M10, h8, hF⟩ := ob2S hF
    have hO := hO.mono (fr_X7_otherLast h8) (fun x j hx => hx)
    obtain ⟨n11, hF⟩ := ifO hF
    obtain ⟨n12, hF⟩ := ifO hF
    obtain ⟨M13, hO, hF⟩ := lt1W (P := fun q => Out P_X7_oneLast M q) hF (by first | exact hO.pI (by simp [P_X7_oneLast]) | exact hO.pL (by simp [P_X7_oneLast]))
    exact hO.trans (hk_4 hF)
set_option maxRecDepth 100000 in
set_option maxHeartbeats 4000000 in
theorem fw_X7_oneLast_4 {fu : Nat} {r : Int32} {M' : Mm} : ∀ (n : Nat) {x1 : Int32} {x2 : Int32} {M : Mm}, F_X7_oneLast_4 fu n M x1 x2 = some (r, M') → Out P_X7_oneLast M M' := by
  intro n
  induction n with
  | zero =>
    intro x1 x2 M hF
    cases hF
  | succ n ih =>
    intro x1 x2 M hF
    have hO : Out P_X7_oneLast M M := Out.rf
    unfold F_X7_oneLast_4 at hF
    rcases ifX hF with ⟨b1, hF⟩ | ⟨b1, hF⟩
    · have hq := b1
      obtain ⟨z2, hF⟩ := ifO hF
      cases hF; exact hO
    · have hq := b1
      rcases (ifX hF).symm with ⟨b3, hF⟩ | ⟨b3, hF⟩
      · have hq := b3
        obtain ⟨z4, hF⟩ := ifO hF
        cases hF; exact hO
      · have hq := b3
        rcases (ifX hF).symm with ⟨b5, hF⟩ | ⟨b5, hF⟩
        · have hq := b5
          exact hO.trans (fw_X7_oneLast_29 (hk_4 := ih) hF)
        · have hq := b5
          exact hO.trans (fw_X7_oneLast_29 (hk_4 := ih) hF)
set_option maxRecDepth 100000 in
set_option maxHeartbeats 4000000 in
theorem fr_X7_oneLast {fu : Nat} {M : Mm} {r : Int32} {M' : Mm} (hF : F_X7_oneLast fu M = some (r, M')) : Out P_X7_oneLast M M' := by
  have hO : Out P_X7_oneLast M M := Out.rf
  unfold F_X7_oneLast at hF
  exact hO.trans (fw_X7_oneLast_4 _ hF)
abbrev P_X7_otherFirst : Nat → Nat → Prop := fun x j => (x = 95)
set_option maxRecDepth 100000 in
set_option maxHeartbeats 4000000 in
theorem fw_X7_otherFirst_29 {fu : Nat} {r : Int32} {M' : Mm} {k4 : Mm → Int32 → Int32 → Option (Int32 × Mm)} (hk_4 : ∀ {x1 : Int32} {x2 : Int32} {M : Mm}, k4 M x1 x2 = some (r, M') → Out P_X7_otherFirst M M') {x1 : Int32} {x2 : Int32} {t0 : Int32} {M : Mm} (hF : F_X7_otherFirst_29 fu k4 M x1 x2 t0 = some (r, M')) : Out P_X7_otherFirst M M' := by
  have hO : Out P_X7_otherFirst M M := Out.rf
  unfold F_X7_otherFirst_29 at hF
  obtain ⟨n1, hF⟩ := ifO hF
  obtain ⟨r3, h2, hF⟩ := ob1S hF
  rcases ifX hF with ⟨b4, hF⟩ | ⟨b4, hF⟩
  · have hq := b4
    exact hO.trans (hk_4 hF)
  · have hq := b4
    obtain ⟨n5, hF⟩ := ifO hF
    obtain ⟨n6, hF⟩ := ifO hF
    obtain ⟨M7, hO, hF⟩ := lt1W (P := fun q => Out P_X7_otherFirst M q) hF (by first | exact hO.pI (by simp [P_X7_otherFirst]) | exact hO.pL (by simp [P_X7_otherFirst]))
    obtain ⟨r9, M10, h8, hF⟩ := ob2S hF
    have hO := hO.mono (fr_X7_oneLast h8) (fun x j hx => hx)
    obtain ⟨n11, hF⟩ := ifO hF
    obtain ⟨n12, hF⟩ := ifO hF
    obtain ⟨M13, hO, hF⟩ := lt1W (P := fun q => Out P_X7_otherFirst M q) hF (by first | exact hO.pI (by simp [P_X7_otherFirst]) | exact hO.pL (by simp [P_X7_otherFirst]))
    exact hO.trans (hk_4 hF)
set_option maxRecDepth 100000 in
set_option maxHeartbeats 4000000 in
theorem fw_X7_otherFirst_4 {fu : Nat} {r : Int32} {M' : Mm} : ∀ (n : Nat) {x1 : Int32} {x2 : Int32} {M : Mm}, F_X7_otherFirst_4 fu n M x1 x2 = some (r, M') → Out P_X7_otherFirst M M' := by
  intro n
  induction n with
  | zero =>
    intro x1 x2 M hF
    cases hF
  | succ n ih =>
    intro x1 x2 M hF
    have hO : Out P_X7_otherFirst M M := Out.rf
    unfold F_X7_otherFirst_4 at hF
    rcases ifX hF with ⟨b1, hF⟩ | ⟨b1, hF⟩
    · have hq := b1
      obtain ⟨z2, hF⟩ := ifO hF
      cases hF; exact hO
    · have hq := b1
      rcases ifX hF with ⟨b3, hF⟩ | ⟨b3, hF⟩
      · have hq := b3
        obtain ⟨z4, hF⟩ := ifO hF
        cases hF; exact hO
      · have hq := b3
        rcases (ifX hF).symm with ⟨b5, hF⟩ | ⟨b5, hF⟩
        · have hq := b5
          exact hO.trans (fw_X7_otherFirst_29 (hk_4 := ih) hF)
        · have hq := b5
          exact hO.trans (fw_X7_otherFirst_29 (hk_4 := ih) hF)
set_option maxRecDepth 100000 in
set_option maxHeartbeats 4000000 in
theorem fr_X7_otherFirst {fu : Nat} {M : Mm} {r : Int32} {M' : Mm} (hF : F_X7_otherFirst fu M = some (r, M')) : Out P_X7_otherFirst M M' := by
  have hO : Out P_X7_otherFirst M M := Out.rf
  unfold F_X7_otherFirst at hF
  exact hO.trans (fw_X7_otherFirst_4 _ hF)
abbrev P_X7_lastOther : Nat → Nat → Prop := fun x j => (x = 95)
set_option maxRecDepth 100000 in
set_option maxHeartbeats 4000000 in
theorem fr_X7_lastOther {fu : Nat} {M : Mm} {x1 : Int32} {r : Int32} {M' : Mm} (hF : F_X7_lastOther fu M x1 = some (r, M')) : Out P_X7_lastOther M M' := by
  have hO : Out P_X7_lastOther M M := Out.rf
  unfold F_X7_lastOther at hF
  rcases (ifX hF).symm with ⟨b1, hF⟩ | ⟨b1, hF⟩
  · have hq := b1
    obtain ⟨r3, M4, h2, hF⟩ := ob2S hF
    have hO := hO.mono (fr_X7_otherFirst h2) (fun x j hx => hx)
    obtain ⟨z5, hF⟩ := ifO hF
    cases hF; exact hO
  · have hq := b1
    obtain ⟨r7, M8, h6, hF⟩ := ob2S hF
    have hO := hO.mono (fr_X7_otherLast h6) (fun x j hx => hx)
    obtain ⟨z9, hF⟩ := ifO hF
    cases hF; exact hO
abbrev P_X7_winsOne : Nat → Nat → Prop := fun x j => (x = 95)
set_option maxRecDepth 100000 in
set_option maxHeartbeats 4000000 in
theorem fw_X7_winsOne_29 {fu : Nat} {r : Int32} {M' : Mm} {k4 : Mm → Int32 → Int32 → Int32 → Option (Int32 × Mm)} (hk_4 : ∀ {x1 : Int32} {x2 : Int32} {x3 : Int32} {M : Mm}, k4 M x1 x2 x3 = some (r, M') → Out P_X7_winsOne M M') {x1 : Int32} {x2 : Int32} {x3 : Int32} {t0 : Int32} {M : Mm} (hF : F_X7_winsOne_29 fu k4 M x1 x2 x3 t0 = some (r, M')) : Out P_X7_winsOne M M' := by
  have hO : Out P_X7_winsOne M M := Out.rf
  unfold F_X7_winsOne_29 at hF
  obtain ⟨n1, hF⟩ := ifO hF
  obtain ⟨r3, h2, hF⟩ := ob1S hF
  rcases ifX hF with ⟨b4, hF⟩ | ⟨b4, hF⟩
  · have hq := b4
    exact hO.trans (hk_4 hF)
  · have hq := b4
    obtain ⟨n5, hF⟩ := ifO hF
    obtain ⟨n6, hF⟩ := ifO hF
    obtain ⟨M7, hO, hF⟩ := lt1W (P := fun q => Out P_X7_winsOne M q) hF (by first | exact hO.pI (by simp [P_X7_winsOne]) | exact hO.pL (by simp [P_X7_winsOne]))
    obtain ⟨r9, M10, h8, hF⟩ := ob2S hF
    have hO := hO.mono (fr_X7_lastOther h8) (fun x j hx => hx)
    obtain ⟨n11, hF⟩ := ifO hF
    obtain ⟨n12, hF⟩ := ifO hF
    obtain ⟨M13, hO, hF⟩ := lt1W (P := fun q => Out P_X7_winsOne M q) hF (by first | exact hO.pI (by simp [P_X7_winsOne]) | exact hO.pL (by simp [P_X7_winsOne]))
    exact hO.trans (hk_4 hF)
set_option maxRecDepth 100000 in
set_option maxHeartbeats 4000000 in
theorem fw_X7_winsOne_4 {fu : Nat} {r : Int32} {M' : Mm} : ∀ (n : Nat) {x1 : Int32} {x2 : Int32} {x3 : Int32} {M : Mm}, F_X7_winsOne_4 fu n M x1 x2 x3 = some (r, M') → Out P_X7_winsOne M M' := by
  intro n
  induction n with
  | zero =>
    intro x1 x2 x3 M hF
    cases hF
  | succ n ih =>
    intro x1 x2 x3 M hF
    have hO : Out P_X7_winsOne M M := Out.rf
    unfold F_X7_winsOne_4 at hF
    rcases ifX hF with ⟨b1, hF⟩ | ⟨b1, hF⟩
    · have hq := b1
      obtain ⟨z2, hF⟩ := ifO hF
      cases hF; exact hO
    · have hq := b1
      rcases (ifX hF).symm with ⟨b3, hF⟩ | ⟨b3, hF⟩
      · have hq := b3
        obtain ⟨z4, hF⟩ := ifO hF
        cases hF; exact hO
      · have hq := b3
        rcases (ifX hF).symm with ⟨b5, hF⟩ | ⟨b5, hF⟩
        · have hq := b5
          exact hO.trans (fw_X7_winsOne_29 (hk_4 := ih) hF)
        · have hq := b5
          exact hO.trans (fw_X7_winsOne_29 (hk_4 := ih) hF)
set_option maxRecDepth 100000 in
set_option maxHeartbeats 4000000 in
theorem fr_X7_winsOne {fu : Nat} {M : Mm} {x1 : Int32} {r : Int32} {M' : Mm} (hF : F_X7_winsOne fu M x1 = some (r, M')) : Out P_X7_winsOne M M' := by
  have hO : Out P_X7_winsOne M M := Out.rf
  unfold F_X7_winsOne at hF
  exact hO.trans (fw_X7_winsOne_4 _ hF)
abbrev P_X7_game : Nat → Nat → Prop := fun x j => (x = 95)
set_option maxRecDepth 100000 in
set_option maxHeartbeats 4000000 in
theorem fw_X7_game_42 {fu : Nat} {r : Int32} {M' : Mm} {t0 : Int32} {M : Mm} (hF : F_X7_game_42 fu M t0 = some (r, M')) : Out P_X7_game M M' := by
  have hO : Out P_X7_game M M := Out.rf
  unfold F_X7_game_42 at hF
  rcases ifX hF with ⟨b1, hF⟩ | ⟨b1, hF⟩
  · have hq := b1
    cases hF; exact hO
  · have hq := b1
    cases hF; exact hO
set_option maxRecDepth 100000 in
set_option maxHeartbeats 4000000 in
theorem fr_X7_game {fu : Nat} {M : Mm} {x1 : Int32} {r : Int32} {M' : Mm} (hF : F_X7_game fu M x1 = some (r, M')) : Out P_X7_game M M' := by
  have hO : Out P_X7_game M M := Out.rf
  unfold F_X7_game at hF
  obtain ⟨r2, h1, hF⟩ := ob1S hF
  rcases (ifX hF).symm with ⟨b3, hF⟩ | ⟨b3, hF⟩
  · have hq := b3
    rcases (ifX hF).symm with ⟨b4, hF⟩ | ⟨b4, hF⟩
    · have hq := b4
      rcases (ifX hF).symm with ⟨b5, hF⟩ | ⟨b5, hF⟩
      · have hq := b5
        obtain ⟨r7, M8, h6, hF⟩ := ob2S hF
        have hO := hO.mono (fr_X7_winsOne h6) (fun x j hx => hx)
        exact hO.trans (fw_X7_game_42 hF)
      · have hq := b5
        obtain ⟨r10, h9, hF⟩ := ob1S hF
        exact hO.trans (fw_X7_game_42 hF)
    · have hq := b4
      cases hF; exact hO
  · have hq := b3
    cases hF; exact hO
abbrev P_X7_first : Nat → Nat → Prop := fun x j => (x = 95)
set_option maxRecDepth 100000 in
set_option maxHeartbeats 4000000 in
theorem fw_X7_first_47 {fu : Nat} {r : Int32} {M' : Mm} {k26 : Mm → Int32 → Int32 → Option (Int32 × Mm)} (hk_26 : ∀ {x1 : Int32} {x2 : Int32} {M : Mm}, k26 M x1 x2 = some (r, M') → Out P_X7_first M M') {x1 : Int32} {x2 : Int32} {t0 : Int32} {M : Mm} (hF : F_X7_first_47 fu k26 M x1 x2 t0 = some (r, M')) : Out P_X7_first M M' := by
  have hO : Out P_X7_first M M := Out.rf
  unfold F_X7_first_47 at hF
  obtain ⟨n1, hF⟩ := ifO hF
  obtain ⟨r3, h2, hF⟩ := ob1S hF
  rcases ifX hF with ⟨b4, hF⟩ | ⟨b4, hF⟩
  · have hq := b4
    exact hO.trans (hk_26 hF)
  · have hq := b4
    obtain ⟨n5, hF⟩ := ifO hF
    obtain ⟨n6, hF⟩ := ifO hF
    obtain ⟨M7, hO, hF⟩ := lt1W (P := fun q => Out P_X7_first M q) hF (by first | exact hO.pI (by simp [P_X7_first]) | exact hO.pL (by simp [P_X7_first]))
    obtain ⟨r9, M10, h8, hF⟩ := ob2S hF
    have hO := hO.mono (fr_X7_lastOther h8) (fun x j hx => hx)
    obtain ⟨n11, hF⟩ := ifO hF
    obtain ⟨n12, hF⟩ := ifO hF
    obtain ⟨M13, hO, hF⟩ := lt1W (P := fun q => Out P_X7_first M q) hF (by first | exact hO.pI (by simp [P_X7_first]) | exact hO.pL (by simp [P_X7_first]))
    rcases ifX hF with ⟨b14, hF⟩ | ⟨b14, hF⟩
    · have hq := b14
      exact hO.trans (hk_26 hF)
    · have hq := b14
      cases hF; exact hO
set_option maxRecDepth 100000 in
set_option maxHeartbeats 4000000 in
theorem fw_X7_first_26 {fu : Nat} {r : Int32} {M' : Mm} : ∀ (n : Nat) {x1 : Int32} {x2 : Int32} {M : Mm}, F_X7_first_26 fu n M x1 x2 = some (r, M') → Out P_X7_first M M' := by
  intro n
  induction n with
  | zero =>
    intro x1 x2 M hF
    cases hF
  | succ n ih =>
    intro x1 x2 M hF
    have hO : Out P_X7_first M M := Out.rf
    unfold F_X7_first_26 at hF
    rcases ifX hF with ⟨b1, hF⟩ | ⟨b1, hF⟩
    · have hq := b1
      cases hF; exact hO
    · have hq := b1
      rcases (ifX hF).symm with ⟨b2, hF⟩ | ⟨b2, hF⟩
      · have hq := b2
        exact hO.trans (fw_X7_first_47 (hk_26 := ih) hF)
      · have hq := b2
        exact hO.trans (fw_X7_first_47 (hk_26 := ih) hF)
set_option maxRecDepth 100000 in
set_option maxHeartbeats 4000000 in
theorem fr_X7_first {fu : Nat} {M : Mm} {x1 : Int32} {r : Int32} {M' : Mm} (hF : F_X7_first fu M x1 = some (r, M')) : Out P_X7_first M M' := by
  have hO : Out P_X7_first M M := Out.rf
  unfold F_X7_first at hF
  obtain ⟨r2, h1, hF⟩ := ob1S hF
  rcases (ifX hF).symm with ⟨b3, hF⟩ | ⟨b3, hF⟩
  · have hq := b3
    rcases (ifX hF).symm with ⟨b4, hF⟩ | ⟨b4, hF⟩
    · have hq := b4
      exact hO.trans (fw_X7_first_26 _ hF)
    · have hq := b4
      cases hF; exact hO
  · have hq := b3
    cases hF; exact hO
abbrev P_X7_layCases : Nat → Nat → Prop := fun x j => (x = 111) ∨ (x = 112)
set_option maxRecDepth 100000 in
set_option maxHeartbeats 4000000 in
theorem fw_X7_layCases_155 {fu : Nat} {M' : Mm} {k42 : Mm → Int32 → Int32 → Int32 → Int32 → Option Mm} (hk_42 : ∀ {x1 : Int32} {x2 : Int32} {x3 : Int32} {x4 : Int32} {M : Mm}, k42 M x1 x2 x3 x4 = some M' → Out P_X7_layCases M M') : ∀ (n : Nat) {x1 : Int32} {x2 : Int32} {x3 : Int32} {x4 : Int32} {x6 : Int32} {M : Mm}, F_X7_layCases_155 fu k42 n M x1 x2 x3 x4 x6 = some M' → Out P_X7_layCases M M' := by
  intro n
  induction n with
  | zero =>
    intro x1 x2 x3 x4 x6 M hF
    cases hF
  | succ n ih =>
    intro x1 x2 x3 x4 x6 M hF
    have hO : Out P_X7_layCases M M := Out.rf
    unfold F_X7_layCases_155 at hF
    rcases ifX hF with ⟨b1, hF⟩ | ⟨b1, hF⟩
    · have hq := b1
      exact hO.trans (hk_42 hF)
    · have hq := b1
      obtain ⟨n2, hF⟩ := ifO hF
      obtain ⟨n3, hF⟩ := ifO hF
      obtain ⟨M4, hO, hF⟩ := lt1W (P := fun q => Out P_X7_layCases M q) hF (by first | exact hO.pI (by simp [P_X7_layCases]) | exact hO.pL (by simp [P_X7_layCases]))
      exact hO.trans (ih hF)
set_option maxRecDepth 100000 in
set_option maxHeartbeats 4000000 in
theorem fw_X7_layCases_109 {fu : Nat} {M' : Mm} {k42 : Mm → Int32 → Int32 → Int32 → Int32 → Option Mm} (hk_42 : ∀ {x1 : Int32} {x2 : Int32} {x3 : Int32} {x4 : Int32} {M : Mm}, k42 M x1 x2 x3 x4 = some M' → Out P_X7_layCases M M') : ∀ (n : Nat) {x1 : Int32} {x2 : Int32} {x3 : Int32} {x4 : Int32} {x5 : Int32} {x6 : Int32} {M : Mm}, F_X7_layCases_109 fu k42 n M x1 x2 x3 x4 x5 x6 = some M' → Out P_X7_layCases M M' := by
  intro n
  induction n with
  | zero =>
    intro x1 x2 x3 x4 x5 x6 M hF
    cases hF
  | succ n ih =>
    intro x1 x2 x3 x4 x5 x6 M hF
    have hO : Out P_X7_layCases M M := Out.rf
    unfold F_X7_layCases_109 at hF
    rcases ifX hF with ⟨b1, hF⟩ | ⟨b1, hF⟩
    · have hq := b1
      exact hO.trans (fw_X7_layCases_155 (hk_42 := hk_42) _ hF)
    · have hq := b1
      obtain ⟨r3, h2, hF⟩ := ob1S hF
      obtain ⟨n4, hF⟩ := ifO hF
      obtain ⟨n5, hF⟩ := ifO hF
      obtain ⟨n6, hF⟩ := ifO hF
      obtain ⟨M7, hO, hF⟩ := lt1W (P := fun q => Out P_X7_layCases M q) hF (by first | exact hO.pI (by simp [P_X7_layCases]) | exact hO.pL (by simp [P_X7_layCases]))
      exact hO.trans (ih hF)
set_option maxRecDepth 100000 in
set_option maxHeartbeats 4000000 in
theorem fw_X7_layCases_76 {fu : Nat} {M' : Mm} {k42 : Mm → Int32 → Int32 → Int32 → Int32 → Option Mm} (hk_42 : ∀ {x1 : Int32} {x2 : Int32} {x3 : Int32} {x4 : Int32} {M : Mm}, k42 M x1 x2 x3 x4 = some M' → Out P_X7_layCases M M') : ∀ (n : Nat) {x1 : Int32} {x2 : Int32} {x3 : Int32} {x4 : Int32} {x5 : Int32} {x6 : Int32} {M : Mm}, F_X7_layCases_76 fu k42 n M x1 x2 x3 x4 x5 x6 = some M' → Out P_X7_layCases M M' := by
  intro n
  induction n with
  | zero =>
    intro x1 x2 x3 x4 x5 x6 M hF
    cases hF
  | succ n ih =>
    intro x1 x2 x3 x4 x5 x6 M hF
    have hO : Out P_X7_layCases M M := Out.rf
    unfold F_X7_layCases_76 at hF
    rcases ifX hF with ⟨b1, hF⟩ | ⟨b1, hF⟩
    · have hq := b1
      exact hO.trans (fw_X7_layCases_109 (hk_42 := hk_42) _ hF)
    · have hq := b1
      obtain ⟨n2, hF⟩ := ifO hF
      obtain ⟨n3, hF⟩ := ifO hF
      obtain ⟨M4, hO, hF⟩ := lt1W (P := fun q => Out P_X7_layCases M q) hF (by first | exact hO.pI (by simp [P_X7_layCases]) | exact hO.pL (by simp [P_X7_layCases]))
      exact hO.trans (ih hF)
set_option maxRecDepth 100000 in
set_option maxHeartbeats 4000000 in
theorem fw_X7_layCases_42 {fu : Nat} {M' : Mm} : ∀ (n : Nat) {x1 : Int32} {x2 : Int32} {x3 : Int32} {x4 : Int32} {M : Mm}, F_X7_layCases_42 fu n M x1 x2 x3 x4 = some M' → Out P_X7_layCases M M' := by
  intro n
  induction n with
  | zero =>
    intro x1 x2 x3 x4 M hF
    cases hF
  | succ n ih =>
    intro x1 x2 x3 x4 M hF
    have hO : Out P_X7_layCases M M := Out.rf
    unfold F_X7_layCases_42 at hF
    rcases ifX hF with ⟨b1, hF⟩ | ⟨b1, hF⟩
    · have hq := b1
      cases hF; exact hO
    · have hq := b1
      obtain ⟨n2, hF⟩ := ifO hF
      obtain ⟨n3, hF⟩ := ifO hF
      obtain ⟨r5, h4, hF⟩ := ob1S hF
      exact hO.trans (fw_X7_layCases_76 (hk_42 := ih) _ hF)
set_option maxRecDepth 100000 in
set_option maxHeartbeats 4000000 in
theorem fw_X7_layCases_3 {fu : Nat} {M' : Mm} : ∀ (n : Nat) {x1 : Int32} {x2 : Int32} {x3 : Int32} {x4 : Int32} {M : Mm}, F_X7_layCases_3 fu n M x1 x2 x3 x4 = some M' → Out P_X7_layCases M M' := by
  intro n
  induction n with
  | zero =>
    intro x1 x2 x3 x4 M hF
    cases hF
  | succ n ih =>
    intro x1 x2 x3 x4 M hF
    have hO : Out P_X7_layCases M M := Out.rf
    unfold F_X7_layCases_3 at hF
    rcases ifX hF with ⟨b1, hF⟩ | ⟨b1, hF⟩
    · have hq := b1
      exact hO.trans (fw_X7_layCases_42 _ hF)
    · have hq := b1
      obtain ⟨n2, hF⟩ := ifO hF
      rcases (ifX hF).symm with ⟨b3, hF⟩ | ⟨b3, hF⟩
      · have hq := b3
        obtain ⟨n4, hF⟩ := ifO hF
        obtain ⟨M5, hO, hF⟩ := lt1W (P := fun q => Out P_X7_layCases M q) hF (by first | exact hO.pI (by simp [P_X7_layCases]) | exact hO.pL (by simp [P_X7_layCases]))
        exact hO.trans (ih hF)
      · have hq := b3
        obtain ⟨n6, hF⟩ := ifO hF
        obtain ⟨M7, hO, hF⟩ := lt1W (P := fun q => Out P_X7_layCases M q) hF (by first | exact hO.pI (by simp [P_X7_layCases]) | exact hO.pL (by simp [P_X7_layCases]))
        exact hO.trans (ih hF)
set_option maxRecDepth 100000 in
set_option maxHeartbeats 4000000 in
theorem fr_X7_layCases {fu : Nat} {M : Mm} {x1 : Int32} {x2 : Int32} {x3 : Int32} {M' : Mm} (hF : F_X7_layCases fu M x1 x2 x3 = some M') : Out P_X7_layCases M M' := by
  have hO : Out P_X7_layCases M M := Out.rf
  unfold F_X7_layCases at hF
  exact hO.trans (fw_X7_layCases_3 _ hF)
abbrev P_X7_fraction : Nat → Nat → Prop := fun x j => (x = 86 ∧ j = 17) ∨ (x = 86 ∧ j = 18)
set_option maxRecDepth 100000 in
set_option maxHeartbeats 4000000 in
theorem fw_X7_fraction_33 {fu : Nat} {r : Int32} {M' : Mm} : ∀ (n : Nat) {x1 : Int64} {x4 : Int64} {x6 : Int64} {x8 : Int64} {M : Mm}, F_X7_fraction_33 fu n M x1 x4 x6 x8 = some (r, M') → Out P_X7_fraction M M' := by
  intro n
  induction n with
  | zero =>
    intro x1 x4 x6 x8 M hF
    cases hF
  | succ n ih =>
    intro x1 x4 x6 x8 M hF
    have hO : Out P_X7_fraction M M := Out.rf
    unfold F_X7_fraction_33 at hF
    rcases ifX hF with ⟨b1, hF⟩ | ⟨b1, hF⟩
    · have hq := b1
      obtain ⟨n2, hF⟩ := ifO hF
      obtain ⟨M3, hO, hF⟩ := lt1W (P := fun q => Out P_X7_fraction M q) hF (by first | exact hO.pI (by simp [P_X7_fraction]) | exact hO.pL (by simp [P_X7_fraction]))
      obtain ⟨n4, hF⟩ := ifO hF
      obtain ⟨M5, hO, hF⟩ := lt1W (P := fun q => Out P_X7_fraction M q) hF (by first | exact hO.pI (by simp [P_X7_fraction]) | exact hO.pL (by simp [P_X7_fraction]))
      cases hF; exact hO
    · have hq := b1
      obtain ⟨n6, hF⟩ := ifO hF
      exact hO.trans (ih hF)
set_option maxRecDepth 100000 in
set_option maxHeartbeats 4000000 in
theorem fw_X7_fraction_6 {fu : Nat} {r : Int32} {M' : Mm} : ∀ (n : Nat) {x1 : Int64} {x3 : Int32} {x4 : Int64} {x6 : Int32} {M : Mm}, F_X7_fraction_6 fu n M x1 x3 x4 x6 = some (r, M') → Out P_X7_fraction M M' := by
  intro n
  induction n with
  | zero =>
    intro x1 x3 x4 x6 M hF
    cases hF
  | succ n ih =>
    intro x1 x3 x4 x6 M hF
    have hO : Out P_X7_fraction M M := Out.rf
    unfold F_X7_fraction_6 at hF
    rcases ifX hF with ⟨b1, hF⟩ | ⟨b1, hF⟩
    · have hq := b1
      exact hO.trans (fw_X7_fraction_33 _ hF)
    · have hq := b1
      exact hO.trans (ih hF)
set_option maxRecDepth 100000 in
set_option maxHeartbeats 4000000 in
theorem fr_X7_fraction {fu : Nat} {M : Mm} {x1 : Int64} {x3 : Int32} {r : Int32} {M' : Mm} (hF : F_X7_fraction fu M x1 x3 = some (r, M')) : Out P_X7_fraction M M' := by
  have hO : Out P_X7_fraction M M := Out.rf
  unfold F_X7_fraction at hF
  exact hO.trans (fw_X7_fraction_6 _ hF)
abbrev P_X7_odds : Nat → Nat → Prop := fun x j => (x = 111) ∨ (x = 112) ∨ (x = 86 ∧ j = 17) ∨ (x = 86 ∧ j = 18)
set_option maxRecDepth 100000 in
set_option maxHeartbeats 4000000 in
theorem fw_X7_odds_25 {fu : Nat} {r : Int32} {M' : Mm} : ∀ (n : Nat) {x2 : Int32} {x4 : Int64} {x6 : Int32} {M : Mm}, F_X7_odds_25 fu n M x2 x4 x6 = some (r, M') → Out P_X7_odds M M' := by
  intro n
  induction n with
  | zero =>
    intro x2 x4 x6 M hF
    cases hF
  | succ n ih =>
    intro x2 x4 x6 M hF
    have hO : Out P_X7_odds M M := Out.rf
    unfold F_X7_odds_25 at hF
    rcases ifX hF with ⟨b1, hF⟩ | ⟨b1, hF⟩
    · have hq := b1
      obtain ⟨r3, M4, h2, hF⟩ := ob2S hF
      have hO := hO.mono (fr_X7_fraction h2) (fun x j hx => hx.elim (fun h => Or.inr (Or.inr (Or.inl h))) (fun hx => Or.inr (Or.inr (Or.inr (hx)))))
      cases hF; exact hO
    · have hq := b1
      obtain ⟨n5, hF⟩ := ifO hF
      exact hO.trans (ih hF)
set_option maxRecDepth 100000 in
set_option maxHeartbeats 4000000 in
theorem fr_X7_odds {fu : Nat} {M : Mm} {x1 : Int32} {x2 : Int32} {x3 : Int32} {r : Int32} {M' : Mm} (hF : F_X7_odds fu M x1 x2 x3 = some (r, M')) : Out P_X7_odds M M' := by
  have hO : Out P_X7_odds M M := Out.rf
  unfold F_X7_odds at hF
  obtain ⟨r2, h1, hF⟩ := ob1S hF
  rcases (ifX hF).symm with ⟨b3, hF⟩ | ⟨b3, hF⟩
  · have hq := b3
    obtain ⟨M5, h4, hF⟩ := ob1S hF
    have hO := hO.mono (fr_X7_layCases h4) (fun x j hx => hx.elim (fun h => Or.inl h) (fun hx => Or.inr (Or.inl hx)))
    exact hO.trans (fw_X7_odds_25 _ hF)
  · have hq := b3
    cases hF; exact hO
abbrev P_X7_mid : Nat → Nat → Prop := fun x j => (x = 111) ∨ (x = 112) ∨ (x = 86 ∧ j = 17) ∨ (x = 86 ∧ j = 18)
set_option maxRecDepth 100000 in
set_option maxHeartbeats 4000000 in
theorem fw_X7_mid_25 {fu : Nat} {r : Int32} {M' : Mm} : ∀ (n : Nat) {x2 : Int32} {x4 : Int64} {x6 : Int32} {M : Mm}, F_X7_mid_25 fu n M x2 x4 x6 = some (r, M') → Out P_X7_mid M M' := by
  intro n
  induction n with
  | zero =>
    intro x2 x4 x6 M hF
    cases hF
  | succ n ih =>
    intro x2 x4 x6 M hF
    have hO : Out P_X7_mid M M := Out.rf
    unfold F_X7_mid_25 at hF
    rcases ifX hF with ⟨b1, hF⟩ | ⟨b1, hF⟩
    · have hq := b1
      obtain ⟨r3, M4, h2, hF⟩ := ob2S hF
      have hO := hO.mono (fr_X7_fraction h2) (fun x j hx => hx.elim (fun h => Or.inr (Or.inr (Or.inl h))) (fun hx => Or.inr (Or.inr (Or.inr (hx)))))
      cases hF; exact hO
    · have hq := b1
      obtain ⟨n5, hF⟩ := ifO hF
      obtain ⟨y6, ey6, hF⟩ := lt1E hF
      exact hO.trans (ih hF)
set_option maxRecDepth 100000 in
set_option maxHeartbeats 4000000 in
theorem fr_X7_mid {fu : Nat} {M : Mm} {x1 : Int32} {x2 : Int32} {x3 : Int32} {r : Int32} {M' : Mm} (hF : F_X7_mid fu M x1 x2 x3 = some (r, M')) : Out P_X7_mid M M' := by
  have hO : Out P_X7_mid M M := Out.rf
  unfold F_X7_mid at hF
  obtain ⟨r2, h1, hF⟩ := ob1S hF
  rcases (ifX hF).symm with ⟨b3, hF⟩ | ⟨b3, hF⟩
  · have hq := b3
    obtain ⟨M5, h4, hF⟩ := ob1S hF
    have hO := hO.mono (fr_X7_layCases h4) (fun x j hx => hx.elim (fun h => Or.inl h) (fun hx => Or.inr (Or.inl hx)))
    exact hO.trans (fw_X7_mid_25 _ hF)
  · have hq := b3
    cases hF; exact hO
abbrev P_X7_lots : Nat → Nat → Prop := fun x j => (x = 86 ∧ j = 11) ∨ (x = 86 ∧ j = 12) ∨ (x = 94) ∨ (x = 96)
set_option maxRecDepth 100000 in
set_option maxHeartbeats 4000000 in
theorem fw_X7_lots_105 {fu : Nat} {r : Int32} {M' : Mm} {k69 : Mm → Int32 → Int32 → Int64 → Int32 → Option (Int32 × Mm)} (hk_69 : ∀ {x1 : Int32} {x2 : Int32} {x4 : Int64} {x6 : Int32} {M : Mm}, k69 M x1 x2 x4 x6 = some (r, M') → Out P_X7_lots M M') {x1 : Int32} {x2 : Int32} {x4 : Int64} {x6 : Int32} {t1 : Int32} {M : Mm} (hF : F_X7_lots_105 fu k69 M x1 x2 x4 x6 t1 = some (r, M')) : Out P_X7_lots M M' := by
  have hO : Out P_X7_lots M M := Out.rf
  unfold F_X7_lots_105 at hF
  obtain ⟨M2, h1, hF⟩ := ob1S hF
  have hO := hO.mono (fr_X7_pass h1) (fun x j hx => hx.elim (fun h => Or.inl h) (fun hx => hx.elim (fun h => Or.inr (Or.inl h)) (fun hx => hx.elim (fun h => Or.inr (Or.inr (Or.inl h))) (fun hx => Or.inr (Or.inr (Or.inr (hx)))))))
  exact hO.trans (hk_69 hF)
set_option maxRecDepth 100000 in
set_option maxHeartbeats 4000000 in
theorem fw_X7_lots_69 {fu : Nat} {r : Int32} {M' : Mm} : ∀ (n : Nat) {x1 : Int32} {x2 : Int32} {x4 : Int64} {x6 : Int32} {M : Mm}, F_X7_lots_69 fu n M x1 x2 x4 x6 = some (r, M') → Out P_X7_lots M M' := by
  intro n
  induction n with
  | zero =>
    intro x1 x2 x4 x6 M hF
    cases hF
  | succ n ih =>
    intro x1 x2 x4 x6 M hF
    have hO : Out P_X7_lots M M := Out.rf
    unfold F_X7_lots_69 at hF
    rcases ifX hF with ⟨b1, hF⟩ | ⟨b1, hF⟩
    · have hq := b1
      obtain ⟨r3, h2, hF⟩ := ob1S hF
      obtain ⟨r5, h4, hF⟩ := ob1S hF
      cases hF; exact hO
    · have hq := b1
      obtain ⟨y6, ey6, hF⟩ := lt1E hF
      rcases ifX hF with ⟨b7, hF⟩ | ⟨b7, hF⟩
      · have hq := b7
        exact hO.trans (fw_X7_lots_105 (hk_69 := ih) hF)
      · have hq := b7
        exact hO.trans (fw_X7_lots_105 (hk_69 := ih) hF)
set_option maxRecDepth 100000 in
set_option maxHeartbeats 4000000 in
theorem fr_X7_lots {fu : Nat} {M : Mm} {x1 : Int32} {x2 : Int32} {x3 : Int32} {r : Int32} {M' : Mm} (hF : F_X7_lots fu M x1 x2 x3 = some (r, M')) : Out P_X7_lots M M' := by
  have hO : Out P_X7_lots M M := Out.rf
  unfold F_X7_lots at hF
  obtain ⟨r2, h1, hF⟩ := ob1S hF
  rcases ifX hF with ⟨b3, hF⟩ | ⟨b3, hF⟩
  · have hq := b3
    cases hF; exact hO
  · have hq := b3
    obtain ⟨r5, h4, hF⟩ := ob1S hF
    rcases ifX hF with ⟨b6, hF⟩ | ⟨b6, hF⟩
    · have hq := b6
      cases hF; exact hO
    · have hq := b6
      obtain ⟨r8, h7, hF⟩ := ob1S hF
      rcases (ifX hF).symm with ⟨b9, hF⟩ | ⟨b9, hF⟩
      · have hq := b9
        rcases (ifX hF).symm with ⟨b10, hF⟩ | ⟨b10, hF⟩
        · have hq := b10
          rcases ifX hF with ⟨b11, hF⟩ | ⟨b11, hF⟩
          · have hq := b11
            exact hO.trans (fw_X7_lots_69 _ hF)
          · have hq := b11
            cases hF; exact hO
        · have hq := b10
          cases hF; exact hO
      · have hq := b9
        cases hF; exact hO
