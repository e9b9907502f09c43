/-! what each method leaves as it was -/
def Out (P : Nat → Nat → Prop) (M M' : Mm) : Prop := ∀ x j, ¬ P x j → M'.1 x j = M.1 x j ∧ M'.2 x j = M.2 x j
theorem Out.rf {P : Nat → Nat → Prop} {M : Mm} : Out P M M := fun _ _ _ => ⟨rfl, rfl⟩
theorem Out.trans {P : Nat → Nat → Prop} {M M1 M2 : Mm} (h : Out P M M1) (h1 : Out P M1 M2) : Out P M M2 := fun x j hp => ⟨(h1 x j hp).1.trans (h x j hp).1, (h1 x j hp).2.trans (h x j hp).2⟩
theorem Out.mono {P P1 : Nat → Nat → Prop} {M M1 M2 : Mm} (h : Out P M M1) (h1 : Out P1 M1 M2) (hp : ∀ x j, P1 x j → P x j) : Out P M M2 := h.trans fun x j hn => h1 x j fun q => hn (hp x j q)
theorem Out.wk {P P1 : Nat → Nat → Prop} {M M1 : Mm} (h1 : Out P1 M M1) (hp : ∀ x j, P1 x j → P x j) : Out P M M1 := fun x j hn => h1 x j fun q => hn (hp x j q)
theorem ifX {c : Prop} {h : Decidable c} {α : Type} {a b r : α} (e : ite c a b = r) : (c ∧ a = r) ∨ (¬ c ∧ b = r) := by
  by_cases hc : c
  · exact Or.inl ⟨hc, ifP e hc⟩
  · exact Or.inr ⟨hc, ifN e hc⟩
theorem Out.pI {P : Nat → Nat → Prop} {M M1 : Mm} {x j : Nat} {v : Int32} (h : Out P M M1) (hp : P x j) : Out P M (pI M1 x j v) := h.trans fun y i hn => ⟨by
  by_cases hy : y = x
  · subst hy
    rw [pI_at]
    have : i ≠ j := fun q => hn (q ▸ hp)
    simp [upd, this]
  · rw [(pI_off y hy).1], rfl⟩
theorem Out.pL {P : Nat → Nat → Prop} {M M1 : Mm} {x j : Nat} {v : Int64} (h : Out P M M1) (hp : P x j) : Out P M (pL M1 x j v) := h.trans fun y i hn => ⟨rfl, by
  by_cases hy : y = x
  · subst hy
    rw [pL_at]
    have : i ≠ j := fun q => hn (q ▸ hp)
    simp [vp_updL, this]
  · rw [(pL_off y hy).2]⟩
abbrev P_X0_clear (c0 : Nat) : Nat → Nat → Prop := fun x j => (x = c0)
set_option maxRecDepth 100000 in
set_option maxHeartbeats 4000000 in
theorem fw_X0_clear_2 {fu : Nat} {c0 : Nat} {M' : Mm} : ∀ (n : Nat) {x1 : Int32} {M : Mm}, F_X0_clear_2 fu n M c0 x1 = some M' → Out (P_X0_clear c0) M M' := by
  intro n
  induction n with
  | zero =>
    intro x1 M hF
    cases hF
  | succ n ih =>
    intro x1 M hF
    have hO : Out (P_X0_clear c0) M M := Out.rf
    unfold F_X0_clear_2 at hF
    rcases ifX hF with ⟨b1, hF⟩ | ⟨b1, hF⟩
    · have hq := b1
      cases hF; exact hO
    · have hq := b1
      obtain ⟨n2, hF⟩ := ifO hF
      obtain ⟨M3, hO, hF⟩ := lt1W (P := fun q => Out (P_X0_clear c0) M q) hF (by first | exact hO.pI (by simp [P_X0_clear]) | exact hO.pL (by simp [P_X0_clear]))
      exact hO.trans (ih hF)
set_option maxRecDepth 100000 in
set_option maxHeartbeats 4000000 in
theorem fr_X0_clear {fu : Nat} {M : Mm} {c0 : Nat} {M' : Mm} (hF : F_X0_clear fu M c0 = some M') : Out (P_X0_clear c0) M M' := by
  have hO : Out (P_X0_clear c0) M M := Out.rf
  unfold F_X0_clear at hF
  exact hO.trans (fw_X0_clear_2 _ hF)
abbrev P_X0_add (c0 : Nat) : Nat → Nat → Prop := fun x j => (x = c0)
set_option maxRecDepth 100000 in
set_option maxHeartbeats 4000000 in
theorem fr_X0_add {fu : Nat} {M : Mm} {c0 : Nat} {x1 : Int32} {x2 : Int64} {M' : Mm} (hF : F_X0_add fu M c0 x1 x2 = some M') : Out (P_X0_add c0) M M' := by
  have hO : Out (P_X0_add c0) M M := Out.rf
  unfold F_X0_add at hF
  rcases ifX hF with ⟨b1, hF⟩ | ⟨b1, hF⟩
  · have hq := b1
    cases hF; exact hO
  · have hq := b1
    rcases ifX hF with ⟨b2, hF⟩ | ⟨b2, hF⟩
    · have hq := b2
      cases hF; exact hO
    · have hq := b2
      obtain ⟨n3, hF⟩ := ifO hF
      obtain ⟨n4, hF⟩ := ifO hF
      obtain ⟨M5, hO, hF⟩ := lt1W (P := fun q => Out (P_X0_add c0) M q) hF (by first | exact hO.pI (by simp [P_X0_add]) | exact hO.pL (by simp [P_X0_add]))
      cases hF; exact hO
abbrev P_X0_pass : Nat → Nat → Prop := fun x j => (x = 78) ∨ (x = 79)
set_option maxRecDepth 100000 in
set_option maxHeartbeats 4000000 in
theorem fw_X0_pass_69 {fu : Nat} {M' : Mm} : ∀ (n : Nat) {x3 : Int32} {M : Mm}, F_X0_pass_69 fu n M x3 = some M' → Out P_X0_pass M M' := by
  intro n
  induction n with
  | zero =>
    intro x3 M hF
    cases hF
  | succ n ih =>
    intro x3 M hF
    have hO : Out P_X0_pass M M := Out.rf
    unfold F_X0_pass_69 at hF
    rcases ifX hF with ⟨b1, hF⟩ | ⟨b1, hF⟩
    · have hq := b1
      cases hF; exact hO
    · have hq := b1
      rcases ifX hF with ⟨b2, hF⟩ | ⟨b2, hF⟩
      · have hq := b2
        cases hF; exact hO
      · have hq := b2
        obtain ⟨n3, hF⟩ := ifO hF
        obtain ⟨n4, hF⟩ := ifO hF
        obtain ⟨M5, hO, hF⟩ := lt1W (P := fun q => Out P_X0_pass M q) hF (by first | exact hO.pI (by simp [P_X0_pass]) | exact hO.pL (by simp [P_X0_pass]))
        exact hO.trans (ih hF)
set_option maxRecDepth 100000 in
set_option maxHeartbeats 4000000 in
theorem fw_X0_pass_9 {fu : Nat} {M' : Mm} : ∀ (n : Nat) {x1 : Int32} {x2 : Int32} {x3 : Int32} {M : Mm}, F_X0_pass_9 fu n M x1 x2 x3 = some M' → Out P_X0_pass M M' := by
  intro n
  induction n with
  | zero =>
    intro x1 x2 x3 M hF
    cases hF
  | succ n ih =>
    intro x1 x2 x3 M hF
    have hO : Out P_X0_pass M M := Out.rf
    unfold F_X0_pass_9 at hF
    rcases ifX hF with ⟨b1, hF⟩ | ⟨b1, hF⟩
    · have hq := b1
      exact hO.trans (fw_X0_pass_69 _ hF)
    · have hq := b1
      obtain ⟨n2, hF⟩ := ifO hF
      obtain ⟨M4, h3, hF⟩ := ob1S hF
      have hO := hO.mono (fr_X0_add h3) (fun x j hx => Or.inr (hx))
      obtain ⟨n5, hF⟩ := ifO hF
      obtain ⟨M7, h6, hF⟩ := ob1S hF
      have hO := hO.mono (fr_X0_add h6) (fun x j hx => Or.inr (hx))
      exact hO.trans (ih hF)
set_option maxRecDepth 100000 in
set_option maxHeartbeats 4000000 in
theorem fr_X0_pass {fu : Nat} {M : Mm} {x1 : Int32} {x2 : Int32} {M' : Mm} (hF : F_X0_pass fu M x1 x2 = some M') : Out P_X0_pass M M' := by
  have hO : Out P_X0_pass M M := Out.rf
  unfold F_X0_pass at hF
  obtain ⟨M2, h1, hF⟩ := ob1S hF
  have hO := hO.mono (fr_X0_clear h1) (fun x j hx => Or.inr (hx))
  exact hO.trans (fw_X0_pass_9 _ hF)
abbrev P_X0_weigh : Nat → Nat → Prop := fun x j => (x = 77 ∧ j = 2) ∨ (x = 78) ∨ (x = 79)
set_option maxRecDepth 100000 in
set_option maxHeartbeats 4000000 in
theorem fw_X0_weigh_31 {fu : Nat} {M' : Mm} : ∀ (n : Nat) {c1 : Nat} {x2 : Int32} {x3 : Int32} {x4 : Int32} {x5 : Int32} {M : Mm}, F_X0_weigh_31 fu n M c1 x2 x3 x4 x5 = some M' → Out P_X0_weigh M M' := by
  intro n
  induction n with
  | zero =>
    intro c1 x2 x3 x4 x5 M hF
    cases hF
  | succ n ih =>
    intro c1 x2 x3 x4 x5 M hF
    have hO : Out P_X0_weigh M M := Out.rf
    unfold F_X0_weigh_31 at hF
    rcases ifX hF with ⟨b1, hF⟩ | ⟨b1, hF⟩
    · have hq := b1
      cases hF; exact hO
    · have hq := b1
      obtain ⟨r3, h2, hF⟩ := ob1S hF
      obtain ⟨M5, h4, hF⟩ := ob1S hF
      have hO := hO.mono (fr_X0_pass h4) (fun x j hx => hx.elim (fun h => Or.inr (Or.inl h)) (fun hx => Or.inr (Or.inr (hx))))
      obtain ⟨M6, hO, hF⟩ := lt1W (P := fun q => Out P_X0_weigh M q) hF (by first | exact hO.pI (by simp [P_X0_weigh]) | exact hO.pL (by simp [P_X0_weigh]))
      exact hO.trans (ih hF)
set_option maxRecDepth 100000 in
set_option maxHeartbeats 4000000 in
theorem fr_X0_weigh {fu : Nat} {M : Mm} {c1 : Nat} {x2 : Int32} {x3 : Int32} {x4 : Int32} {M' : Mm} (hF : F_X0_weigh fu M c1 x2 x3 x4 = some M') : Out P_X0_weigh M M' := by
  have hO : Out P_X0_weigh M M := Out.rf
  unfold F_X0_weigh at hF
  obtain ⟨M2, h1, hF⟩ := ob1S hF
  have hO := hO.mono (fr_X0_clear h1) (fun x j hx => Or.inr (Or.inl hx))
  obtain ⟨r4, h3, hF⟩ := ob1S hF
  obtain ⟨M6, h5, hF⟩ := ob1S hF
  have hO := hO.mono (fr_X0_add h5) (fun x j hx => Or.inr (Or.inl hx))
  obtain ⟨M7, hO, hF⟩ := lt1W (P := fun q => Out P_X0_weigh M q) hF (by first | exact hO.pI (by simp [P_X0_weigh]) | exact hO.pL (by simp [P_X0_weigh]))
  exact hO.trans (fw_X0_weigh_31 _ hF)
abbrev P_X6_writeAll (c0 : Nat) : Nat → Nat → Prop := fun x j => (x = c0)
set_option maxRecDepth 100000 in
set_option maxHeartbeats 4000000 in
theorem fw_X6_writeAll_2 {fu : Nat} {c0 : Nat} {M' : Mm} : ∀ (n : Nat) {c1 : Nat} {x2 : Int32} {M : Mm}, F_X6_writeAll_2 fu n M c0 c1 x2 = some M' → Out (P_X6_writeAll c0) M M' := by
  intro n
  induction n with
  | zero =>
    intro c1 x2 M hF
    cases hF
  | succ n ih =>
    intro c1 x2 M hF
    have hO : Out (P_X6_writeAll c0) M M := Out.rf
    unfold F_X6_writeAll_2 at hF
    rcases ifX hF with ⟨b1, hF⟩ | ⟨b1, hF⟩
    · have hq := b1
      cases hF; exact hO
    · have hq := b1
      rcases ifX hF with ⟨b2, hF⟩ | ⟨b2, hF⟩
      · have hq := b2
        cases hF; exact hO
      · have hq := b2
        obtain ⟨n3, hF⟩ := ifO hF
        obtain ⟨n4, hF⟩ := ifO hF
        obtain ⟨M5, hO, hF⟩ := lt1W (P := fun q => Out (P_X6_writeAll c0) M q) hF (by first | exact hO.pI (by simp [P_X6_writeAll]) | exact hO.pL (by simp [P_X6_writeAll]))
        exact hO.trans (ih hF)
set_option maxRecDepth 100000 in
set_option maxHeartbeats 4000000 in
theorem fr_X6_writeAll {fu : Nat} {M : Mm} {c0 : Nat} {c1 : Nat} {M' : Mm} (hF : F_X6_writeAll fu M c0 c1 = some M') : Out (P_X6_writeAll c0) M M' := by
  have hO : Out (P_X6_writeAll c0) M M := Out.rf
  unfold F_X6_writeAll at hF
  exact hO.trans (fw_X6_writeAll_2 _ hF)
abbrev P_X2_restart (c0 : Nat) : Nat → Nat → Prop := fun x j => (x = c0 ∧ j = 2) ∨ (x = c0 + 4) ∨ (x = c0 + 5)
set_option maxRecDepth 100000 in
set_option maxHeartbeats 4000000 in
theorem fr_X2_restart {fu : Nat} {M : Mm} {c0 : Nat} {M' : Mm} (hF : F_X2_restart fu M c0 = some M') : Out (P_X2_restart c0) M M' := by
  have hO : Out (P_X2_restart c0) M M := Out.rf
  unfold F_X2_restart at hF
  obtain ⟨M1, hO, hF⟩ := lt1W (P := fun q => Out (P_X2_restart c0) M q) hF (by first | exact hO.pI (by simp [P_X2_restart]) | exact hO.pL (by simp [P_X2_restart]))
  obtain ⟨M3, h2, hF⟩ := ob1S hF
  have hO := hO.mono (fr_X6_writeAll h2) (fun x j hx => Or.inr (Or.inl hx))
  obtain ⟨M5, h4, hF⟩ := ob1S hF
  have hO := hO.mono (fr_X6_writeAll h4) (fun x j hx => Or.inr (Or.inr (hx)))
  cases hF; exact hO
abbrev P_X2_settle (c0 : Nat) : Nat → Nat → Prop := fun x j => (x = c0 ∧ j = 0) ∨ (x = c0 ∧ j = 1) ∨ (x = c0 ∧ j = 2) ∨ (x = c0 ∧ j = 3) ∨ (x = c0 + 1) ∨ (x = c0 + 2) ∨ (x = c0 + 3) ∨ (x = c0 + 4) ∨ (x = c0 + 5) ∨ (x = c0 + 6) ∨ (x = c0 + 7)
set_option maxRecDepth 100000 in
set_option maxHeartbeats 4000000 in
theorem fr_X2_settle {fu : Nat} {M : Mm} {c0 : Nat} {M' : Mm} (hF : F_X2_settle fu M c0 = some M') : Out (P_X2_settle c0) M M' := by
  have hO : Out (P_X2_settle c0) M M := Out.rf
  unfold F_X2_settle at hF
  obtain ⟨M1, hO, hF⟩ := lt1W (P := fun q => Out (P_X2_settle c0) M q) hF (by first | exact hO.pI (by simp [P_X2_settle]) | exact hO.pL (by simp [P_X2_settle]))
  obtain ⟨M2, hO, hF⟩ := lt1W (P := fun q => Out (P_X2_settle c0) M q) hF (by first | exact hO.pI (by simp [P_X2_settle]) | exact hO.pL (by simp [P_X2_settle]))
  obtain ⟨M4, h3, hF⟩ := ob1S hF
  have hO := hO.mono (fr_X6_writeAll h3) (fun x j hx => Or.inr (Or.inr (Or.inr (Or.inr (Or.inl hx)))))
  obtain ⟨M6, h5, hF⟩ := ob1S hF
  have hO := hO.mono (fr_X6_writeAll h5) (fun x j hx => Or.inr (Or.inr (Or.inr (Or.inr (Or.inr (Or.inl hx))))))
  obtain ⟨M8, h7, hF⟩ := ob1S hF
  have hO := hO.mono (fr_X6_writeAll h7) (fun x j hx => Or.inr (Or.inr (Or.inr (Or.inr (Or.inr (Or.inr (Or.inl hx)))))))
  obtain ⟨M10, h9, hF⟩ := ob1S hF
  have hO := hO.mono (fr_X6_writeAll h9) (fun x j hx => Or.inr (Or.inr (Or.inr (Or.inr (Or.inr (Or.inr (Or.inr (Or.inr (Or.inr (Or.inl hx))))))))))
  obtain ⟨M12, h11, hF⟩ := ob1S hF
  have hO := hO.mono (fr_X6_writeAll h11) (fun x j hx => Or.inr (Or.inr (Or.inr (Or.inr (Or.inr (Or.inr (Or.inr (Or.inr (Or.inr (Or.inr (hx)))))))))))
  obtain ⟨M13, hO, hF⟩ := lt1W (P := fun q => Out (P_X2_settle c0) M q) hF (by first | exact hO.pI (by simp [P_X2_settle]) | exact hO.pL (by simp [P_X2_settle]))
  obtain ⟨M15, h14, hF⟩ := ob1S hF
  have hO := hO.mono (fr_X2_restart h14) (fun x j hx => hx.elim (fun h => Or.inr (Or.inr (Or.inl h))) (fun hx => hx.elim (fun h => Or.inr (Or.inr (Or.inr (Or.inr (Or.inr (Or.inr (Or.inr (Or.inl h)))))))) (fun hx => Or.inr (Or.inr (Or.inr (Or.inr (Or.inr (Or.inr (Or.inr (Or.inr (Or.inl hx)))))))))))
  cases hF; exact hO
abbrev P_X2_become (c0 : Nat) : Nat → Nat → Prop := fun x j => (x = c0 ∧ j = 0) ∨ (x = c0 ∧ j = 1) ∨ (x = c0 ∧ j = 2) ∨ (x = c0 ∧ j = 3) ∨ (x = c0 + 1) ∨ (x = c0 + 10) ∨ (x = c0 + 2) ∨ (x = c0 + 3) ∨ (x = c0 + 4) ∨ (x = c0 + 5) ∨ (x = c0 + 6) ∨ (x = c0 + 7) ∨ (x = c0 + 8) ∨ (x = c0 + 9)
set_option maxRecDepth 100000 in
set_option maxHeartbeats 4000000 in
theorem fr_X2_become {fu : Nat} {M : Mm} {c0 : Nat} {c1 : Nat} {M' : Mm} (hF : F_X2_become fu M c0 c1 = some M') : Out (P_X2_become c0) M M' := by
  have hO : Out (P_X2_become c0) M M := Out.rf
  unfold F_X2_become at hF
  obtain ⟨M1, hO, hF⟩ := lt1W (P := fun q => Out (P_X2_become c0) M q) hF (by first | exact hO.pI (by simp [P_X2_become]) | exact hO.pL (by simp [P_X2_become]))
  obtain ⟨M2, hO, hF⟩ := lt1W (P := fun q => Out (P_X2_become c0) M q) hF (by first | exact hO.pI (by simp [P_X2_become]) | exact hO.pL (by simp [P_X2_become]))
  obtain ⟨M3, hO, hF⟩ := lt1W (P := fun q => Out (P_X2_become c0) M q) hF (by first | exact hO.pI (by simp [P_X2_become]) | exact hO.pL (by simp [P_X2_become]))
  obtain ⟨M4, hO, hF⟩ := lt1W (P := fun q => Out (P_X2_become c0) M q) hF (by first | exact hO.pI (by simp [P_X2_become]) | exact hO.pL (by simp [P_X2_become]))
  obtain ⟨M6, h5, hF⟩ := ob1S hF
  have hO := hO.mono (fr_X6_writeAll h5) (fun x j hx => Or.inr (Or.inr (Or.inr (Or.inr (Or.inl hx)))))
  obtain ⟨M8, h7, hF⟩ := ob1S hF
  have hO := hO.mono (fr_X6_writeAll h7) (fun x j hx => Or.inr (Or.inr (Or.inr (Or.inr (Or.inr (Or.inr (Or.inl hx)))))))
  obtain ⟨M10, h9, hF⟩ := ob1S hF
  have hO := hO.mono (fr_X6_writeAll h9) (fun x j hx => Or.inr (Or.inr (Or.inr (Or.inr (Or.inr (Or.inr (Or.inr (Or.inl hx))))))))
  obtain ⟨M12, h11, hF⟩ := ob1S hF
  have hO := hO.mono (fr_X6_writeAll h11) (fun x j hx => Or.inr (Or.inr (Or.inr (Or.inr (Or.inr (Or.inr (Or.inr (Or.inr (Or.inl hx)))))))))
  obtain ⟨M14, h13, hF⟩ := ob1S hF
  have hO := hO.mono (fr_X6_writeAll h13) (fun x j hx => Or.inr (Or.inr (Or.inr (Or.inr (Or.inr (Or.inr (Or.inr (Or.inr (Or.inr (Or.inl hx))))))))))
  obtain ⟨M16, h15, hF⟩ := ob1S hF
  have hO := hO.mono (fr_X6_writeAll h15) (fun x j hx => Or.inr (Or.inr (Or.inr (Or.inr (Or.inr (Or.inr (Or.inr (Or.inr (Or.inr (Or.inr (Or.inl hx)))))))))))
  obtain ⟨M18, h17, hF⟩ := ob1S hF
  have hO := hO.mono (fr_X6_writeAll h17) (fun x j hx => Or.inr (Or.inr (Or.inr (Or.inr (Or.inr (Or.inr (Or.inr (Or.inr (Or.inr (Or.inr (Or.inr (Or.inl hx))))))))))))
  obtain ⟨M20, h19, hF⟩ := ob1S hF
  have hO := hO.mono (fr_X6_writeAll h19) (fun x j hx => Or.inr (Or.inr (Or.inr (Or.inr (Or.inr (Or.inr (Or.inr (Or.inr (Or.inr (Or.inr (Or.inr (Or.inr (Or.inl hx)))))))))))))
  obtain ⟨M22, h21, hF⟩ := ob1S hF
  have hO := hO.mono (fr_X6_writeAll h21) (fun x j hx => Or.inr (Or.inr (Or.inr (Or.inr (Or.inr (Or.inr (Or.inr (Or.inr (Or.inr (Or.inr (Or.inr (Or.inr (Or.inr (hx))))))))))))))
  obtain ⟨M24, h23, hF⟩ := ob1S hF
  have hO := hO.mono (fr_X6_writeAll h23) (fun x j hx => Or.inr (Or.inr (Or.inr (Or.inr (Or.inr (Or.inl hx))))))
  cases hF; exact hO
abbrev P_X6_write (c0 : Nat) : Nat → Nat → Prop := fun x j => (x = c0)
set_option maxRecDepth 100000 in
set_option maxHeartbeats 4000000 in
theorem fr_X6_write {fu : Nat} {M : Mm} {c0 : Nat} {x1 : Int32} {x2 : Int32} {M' : Mm} (hF : F_X6_write fu M c0 x1 x2 = some M') : Out (P_X6_write c0) M M' := by
  have hO : Out (P_X6_write c0) M M := Out.rf
  unfold F_X6_write at hF
  rcases ifX hF with ⟨b1, hF⟩ | ⟨b1, hF⟩
  · have hq := b1
    cases hF; exact hO
  · have hq := b1
    rcases ifX hF with ⟨b2, hF⟩ | ⟨b2, hF⟩
    · have hq := b2
      cases hF; exact hO
    · have hq := b2
      obtain ⟨n3, hF⟩ := ifO hF
      obtain ⟨M4, hO, hF⟩ := lt1W (P := fun q => Out (P_X6_write c0) M q) hF (by first | exact hO.pI (by simp [P_X6_write]) | exact hO.pL (by simp [P_X6_write]))
      cases hF; exact hO
abbrev P_X2_meltAll (c0 : Nat) : Nat → Nat → Prop := fun x j => (x = c0 + 4)
set_option maxRecDepth 100000 in
set_option maxHeartbeats 4000000 in
theorem fw_X2_meltAll_2 {fu : Nat} {c0 : Nat} {M' : Mm} : ∀ (n : Nat) {x1 : Int32} {M : Mm}, F_X2_meltAll_2 fu n M c0 x1 = some M' → Out (P_X2_meltAll c0) M M' := by
  intro n
  induction n with
  | zero =>
    intro x1 M hF
    cases hF
  | succ n ih =>
    intro x1 M hF
    have hO : Out (P_X2_meltAll c0) M M := Out.rf
    unfold F_X2_meltAll_2 at hF
    rcases ifX hF with ⟨b1, hF⟩ | ⟨b1, hF⟩
    · have hq := b1
      cases hF; exact hO
    · have hq := b1
      obtain ⟨r3, h2, hF⟩ := ob1S hF
      obtain ⟨r5, h4, hF⟩ := ob1S hF
      obtain ⟨M7, h6, hF⟩ := ob1S hF
      have hO := hO.mono (fr_X6_write h6) (fun x j hx => hx)
      exact hO.trans (ih hF)
set_option maxRecDepth 100000 in
set_option maxHeartbeats 4000000 in
theorem fr_X2_meltAll {fu : Nat} {M : Mm} {c0 : Nat} {M' : Mm} (hF : F_X2_meltAll fu M c0 = some M') : Out (P_X2_meltAll c0) M M' := by
  have hO : Out (P_X2_meltAll c0) M M := Out.rf
  unfold F_X2_meltAll at hF
  exact hO.trans (fw_X2_meltAll_2 _ hF)
abbrev P_X2_perform (c0 : Nat) : Nat → Nat → Prop := fun x j => (x = c0 ∧ j = 2) ∨ (x = c0 + 4) ∨ (x = c0 + 5)
set_option maxRecDepth 100000 in
set_option maxHeartbeats 4000000 in
theorem fr_X2_perform {fu : Nat} {M : Mm} {c0 : Nat} {x1 : Int32} {x2 : Int32} {x3 : Int32} {M' : Mm} (hF : F_X2_perform fu M c0 x1 x2 x3 = some M') : Out (P_X2_perform c0) M M' := by
  have hO : Out (P_X2_perform c0) M M := Out.rf
  unfold F_X2_perform at hF
  rcases Classical.em (x1 = (0 : Int32)) with w1 | w1
  · have hF := ifP hF w1
    obtain ⟨M3, h2, hF⟩ := ob1S hF
    have hO := hO.mono (fr_X2_meltAll h2) (fun x j hx => Or.inr (Or.inl hx))
    obtain ⟨M4, hO, hF⟩ := lt1W (P := fun q => Out (P_X2_perform c0) M q) hF (by first | exact hO.pI (by simp [P_X2_perform]) | exact hO.pL (by simp [P_X2_perform]))
    cases hF; exact hO
  have hF := ifN hF w1
  rcases Classical.em (x1 = (2 : Int32)) with w5 | w5
  · have hF := ifP hF w5
    obtain ⟨M7, h6, hF⟩ := ob1S hF
    have hO := hO.mono (fr_X6_write h6) (fun x j hx => Or.inr (Or.inr (hx)))
    cases hF; exact hO
  have hF := ifN hF w5
  rcases Classical.em (x1 = (3 : Int32)) with w8 | w8
  · have hF := ifP hF w8
    obtain ⟨r10, h9, hF⟩ := ob1S hF
    obtain ⟨M12, h11, hF⟩ := ob1S hF
    have hO := hO.mono (fr_X6_write h11) (fun x j hx => Or.inr (Or.inl hx))
    cases hF; exact hO
  have hF := ifN hF w8
  obtain ⟨M13, hO, hF⟩ := lt1W (P := fun q => Out (P_X2_perform c0) M q) hF (by first | exact hO.pI (by simp [P_X2_perform]) | exact hO.pL (by simp [P_X2_perform]))
  cases hF; exact hO
abbrev P_X2_act (c0 : Nat) : Nat → Nat → Prop := fun x j => (x = c0 ∧ j = 2) ∨ (x = c0 ∧ j = 3) ∨ (x = c0 + 10) ∨ (x = c0 + 4) ∨ (x = c0 + 5) ∨ (x = c0 + 8) ∨ (x = c0 + 9)
set_option maxRecDepth 100000 in
set_option maxHeartbeats 4000000 in
theorem fr_X2_act {fu : Nat} {M : Mm} {c0 : Nat} {x1 : Int32} {x2 : Int32} {x3 : Int32} {M' : Mm} (hF : F_X2_act fu M c0 x1 x2 x3 = some M') : Out (P_X2_act c0) M M' := by
  have hO : Out (P_X2_act c0) M M := Out.rf
  unfold F_X2_act at hF
  obtain ⟨M2, h1, hF⟩ := ob1S hF
  have hO := hO.mono (fr_X6_write h1) (fun x j hx => Or.inr (Or.inr (Or.inr (Or.inr (Or.inr (Or.inl hx))))))
  obtain ⟨M4, h3, hF⟩ := ob1S hF
  have hO := hO.mono (fr_X6_write h3) (fun x j hx => Or.inr (Or.inr (Or.inr (Or.inr (Or.inr (Or.inr (hx)))))))
  obtain ⟨M6, h5, hF⟩ := ob1S hF
  have hO := hO.mono (fr_X6_write h5) (fun x j hx => Or.inr (Or.inr (Or.inl hx)))
  obtain ⟨M7, hO, hF⟩ := lt1W (P := fun q => Out (P_X2_act c0) M q) hF (by first | exact hO.pI (by simp [P_X2_act]) | exact hO.pL (by simp [P_X2_act]))
  obtain ⟨M9, h8, hF⟩ := ob1S hF
  have hO := hO.mono (fr_X2_perform h8) (fun x j hx => hx.elim (fun h => Or.inl h) (fun hx => hx.elim (fun h => Or.inr (Or.inr (Or.inr (Or.inl h)))) (fun hx => Or.inr (Or.inr (Or.inr (Or.inr (Or.inl hx)))))))
  cases hF; exact hO
abbrev P_X2_undoFrom (c0 : Nat) : Nat → Nat → Prop := fun x j => (x = c0 ∧ j = 2) ∨ (x = c0 ∧ j = 3) ∨ (x = c0 + 4) ∨ (x = c0 + 5)
set_option maxRecDepth 100000 in
set_option maxHeartbeats 4000000 in
theorem fw_X2_undoFrom_11 {fu : Nat} {c0 : Nat} {M' : Mm} : ∀ (n : Nat) {x1 : Int32} {x2 : Int32} {M : Mm}, F_X2_undoFrom_11 fu n M c0 x1 x2 = some M' → Out (P_X2_undoFrom c0) M M' := by
  intro n
  induction n with
  | zero =>
    intro x1 x2 M hF
    cases hF
  | succ n ih =>
    intro x1 x2 M hF
    have hO : Out (P_X2_undoFrom c0) M M := Out.rf
    unfold F_X2_undoFrom_11 at hF
    rcases ifX hF with ⟨b1, hF⟩ | ⟨b1, hF⟩
    · have hq := b1
      cases hF; exact hO
    · have hq := b1
      obtain ⟨r3, h2, hF⟩ := ob1S hF
      obtain ⟨r5, h4, hF⟩ := ob1S hF
      obtain ⟨r7, h6, hF⟩ := ob1S hF
      obtain ⟨M9, h8, hF⟩ := ob1S hF
      have hO := hO.mono (fr_X2_perform h8) (fun x j hx => hx.elim (fun h => Or.inl h) (fun hx => hx.elim (fun h => Or.inr (Or.inr (Or.inl h))) (fun hx => Or.inr (Or.inr (Or.inr (hx))))))
      exact hO.trans (ih hF)
set_option maxRecDepth 100000 in
set_option maxHeartbeats 4000000 in
theorem fr_X2_undoFrom {fu : Nat} {M : Mm} {c0 : Nat} {x1 : Int32} {M' : Mm} (hF : F_X2_undoFrom fu M c0 x1 = some M') : Out (P_X2_undoFrom c0) M M' := by
  have hO : Out (P_X2_undoFrom c0) M M := Out.rf
  unfold F_X2_undoFrom at hF
  obtain ⟨M1, hO, hF⟩ := lt1W (P := fun q => Out (P_X2_undoFrom c0) M q) hF (by first | exact hO.pI (by simp [P_X2_undoFrom]) | exact hO.pL (by simp [P_X2_undoFrom]))
  obtain ⟨M3, h2, hF⟩ := ob1S hF
  have hO := hO.mono (fr_X2_restart h2) (fun x j hx => hx.elim (fun h => Or.inl h) (fun hx => hx.elim (fun h => Or.inr (Or.inr (Or.inl h))) (fun hx => Or.inr (Or.inr (Or.inr (hx))))))
  exact hO.trans (fw_X2_undoFrom_11 _ hF)
abbrev P_X2_foreseeVoters (c2 : Nat) : Nat → Nat → Prop := fun x j => (x = c2)
set_option maxRecDepth 100000 in
set_option maxHeartbeats 4000000 in
theorem fw_X2_foreseeVoters_77 {fu : Nat} {c2 : Nat} {M' : Mm} {k22 : Mm → Nat → Int32 → Nat → Int32 → Option Mm} (hk_22 : ∀ {c0 : Nat} {x1 : Int32} {x3 : Int32} {M : Mm}, k22 M c0 x1 c2 x3 = some M' → Out (P_X2_foreseeVoters c2) M M') {k43 : Mm → Nat → Int32 → Nat → Int32 → Int32 → Int32 → Option Mm} (hk_43 : ∀ {c0 : Nat} {x1 : Int32} {x3 : Int32} {x4 : Int32} {x5 : Int32} {M : Mm}, k43 M c0 x1 c2 x3 x4 x5 = some M' → Out (P_X2_foreseeVoters c2) M M') {c0 : Nat} {x1 : Int32} {x3 : Int32} {x4 : Int32} {x5 : Int32} {M : Mm} (hF : F_X2_foreseeVoters_77 fu k22 k43 M c0 x1 c2 x3 x4 x5 = some M') : Out (P_X2_foreseeVoters c2) M M' := by
  have hO : Out (P_X2_foreseeVoters c2) M M := Out.rf
  unfold F_X2_foreseeVoters_77 at hF
  obtain ⟨r2, h1, hF⟩ := ob1S hF
  exact hO.trans (hk_43 hF)
set_option maxRecDepth 100000 in
set_option maxHeartbeats 4000000 in
theorem fw_X2_foreseeVoters_43 {fu : Nat} {c2 : Nat} {M' : Mm} {k22 : Mm → Nat → Int32 → Nat → Int32 → Option Mm} (hk_22 : ∀ {c0 : Nat} {x1 : Int32} {x3 : Int32} {M : Mm}, k22 M c0 x1 c2 x3 = some M' → Out (P_X2_foreseeVoters c2) M M') : ∀ (n : Nat) {c0 : Nat} {x1 : Int32} {x3 : Int32} {x4 : Int32} {x5 : Int32} {M : Mm}, F_X2_foreseeVoters_43 fu k22 n M c0 x1 c2 x3 x4 x5 = some M' → Out (P_X2_foreseeVoters c2) M M' := by
  intro n
  induction n with
  | zero =>
    intro c0 x1 x3 x4 x5 M hF
    cases hF
  | succ n ih =>
    intro c0 x1 x3 x4 x5 M hF
    have hO : Out (P_X2_foreseeVoters c2) M M := Out.rf
    unfold F_X2_foreseeVoters_43 at hF
    rcases ifX hF with ⟨b1, hF⟩ | ⟨b1, hF⟩
    · have hq := b1
      exact hO.trans (hk_22 hF)
    · have hq := b1
      obtain ⟨r3, h2, hF⟩ := ob1S hF
      rcases ifX hF with ⟨b4, hF⟩ | ⟨b4, hF⟩
      · have hq := b4
        exact hO.trans (fw_X2_foreseeVoters_77 (hk_22 := hk_22) (hk_43 := ih) hF)
      · have hq := b4
        obtain ⟨r6, h5, hF⟩ := ob1S hF
        obtain ⟨M8, h7, hF⟩ := ob1S hF
        have hO := hO.mono (fr_X6_write h7) (fun x j hx => hx)
        exact hO.trans (fw_X2_foreseeVoters_77 (hk_22 := hk_22) (hk_43 := ih) hF)
set_option maxRecDepth 100000 in
set_option maxHeartbeats 4000000 in
theorem fw_X2_foreseeVoters_22 {fu : Nat} {c2 : Nat} {M' : Mm} : ∀ (n : Nat) {c0 : Nat} {x1 : Int32} {x3 : Int32} {M : Mm}, F_X2_foreseeVoters_22 fu n M c0 x1 c2 x3 = some M' → Out (P_X2_foreseeVoters c2) M M' := by
  intro n
  induction n with
  | zero =>
    intro c0 x1 x3 M hF
    cases hF
  | succ n ih =>
    intro c0 x1 x3 M hF
    have hO : Out (P_X2_foreseeVoters c2) M M := Out.rf
    unfold F_X2_foreseeVoters_22 at hF
    rcases ifX hF with ⟨b1, hF⟩ | ⟨b1, hF⟩
    · have hq := b1
      cases hF; exact hO
    · have hq := b1
      obtain ⟨r3, h2, hF⟩ := ob1S hF
      exact hO.trans (fw_X2_foreseeVoters_43 (hk_22 := ih) _ hF)
set_option maxRecDepth 100000 in
set_option maxHeartbeats 4000000 in
theorem fw_X2_foreseeVoters_2 {fu : Nat} {c2 : Nat} {M' : Mm} : ∀ (n : Nat) {c0 : Nat} {x1 : Int32} {x3 : Int32} {M : Mm}, F_X2_foreseeVoters_2 fu n M c0 x1 c2 x3 = some M' → Out (P_X2_foreseeVoters c2) M M' := by
  intro n
  induction n with
  | zero =>
    intro c0 x1 x3 M hF
    cases hF
  | succ n ih =>
    intro c0 x1 x3 M hF
    have hO : Out (P_X2_foreseeVoters c2) M M := Out.rf
    unfold F_X2_foreseeVoters_2 at hF
    rcases ifX hF with ⟨b1, hF⟩ | ⟨b1, hF⟩
    · have hq := b1
      exact hO.trans (fw_X2_foreseeVoters_22 _ hF)
    · have hq := b1
      obtain ⟨M3, h2, hF⟩ := ob1S hF
      have hO := hO.mono (fr_X6_write h2) (fun x j hx => hx)
      exact hO.trans (ih hF)
set_option maxRecDepth 100000 in
set_option maxHeartbeats 4000000 in
theorem fr_X2_foreseeVoters {fu : Nat} {M : Mm} {c0 : Nat} {x1 : Int32} {c2 : Nat} {M' : Mm} (hF : F_X2_foreseeVoters fu M c0 x1 c2 = some M') : Out (P_X2_foreseeVoters c2) M M' := by
  have hO : Out (P_X2_foreseeVoters c2) M M := Out.rf
  unfold F_X2_foreseeVoters at hF
  exact hO.trans (fw_X2_foreseeVoters_2 _ hF)
abbrev P_X2_foreseeLiving (c1 : Nat) : Nat → Nat → Prop := fun x j => (x = c1)
set_option maxRecDepth 100000 in
set_option maxHeartbeats 4000000 in
theorem fr_X2_foreseeLiving {fu : Nat} {M : Mm} {c0 : Nat} {c1 : Nat} {M' : Mm} (hF : F_X2_foreseeLiving fu M c0 c1 = some M') : Out (P_X2_foreseeLiving c1) M M' := by
  have hO : Out (P_X2_foreseeLiving c1) M M := Out.rf
  unfold F_X2_foreseeLiving at hF
  obtain ⟨M2, h1, hF⟩ := ob1S hF
  have hO := hO.mono (fr_X2_foreseeVoters h1) (fun x j hx => hx)
  cases hF; exact hO
abbrev P_X3_takesSun : Nat → Nat → Prop := fun x j => (x = 68 ∧ j = 0)
set_option maxRecDepth 100000 in
set_option maxHeartbeats 4000000 in
theorem fr_X3_takesSun {fu : Nat} {M : Mm} {x1 : Int32} {r : Int32} {M' : Mm} (hF : F_X3_takesSun fu M x1 = some (r, M')) : Out P_X3_takesSun M M' := by
  have hO : Out P_X3_takesSun M M := Out.rf
  unfold F_X3_takesSun at hF
  rcases ifX hF with ⟨b1, hF⟩ | ⟨b1, hF⟩
  · have hq := b1
    obtain ⟨M2, hO, hF⟩ := lt1W (P := fun q => Out P_X3_takesSun M q) hF (by first | exact hO.pI (by simp [P_X3_takesSun]) | exact hO.pL (by simp [P_X3_takesSun]))
    cases hF; exact hO
  · have hq := b1
    cases hF; exact hO
abbrev P_X3_takesLetter : Nat → Nat → Prop := fun x j => (x = 68 ∧ j = 0) ∨ (x = 70)
set_option maxRecDepth 100000 in
set_option maxHeartbeats 4000000 in
theorem fr_X3_takesLetter {fu : Nat} {M : Mm} {x1 : Int32} {r : Int32} {M' : Mm} (hF : F_X3_takesLetter fu M x1 = some (r, M')) : Out P_X3_takesLetter M M' := by
  have hO : Out P_X3_takesLetter M M := Out.rf
  unfold F_X3_takesLetter at hF
  obtain ⟨r2, h1, hF⟩ := ob1S hF
  rcases ifX hF with ⟨b3, hF⟩ | ⟨b3, hF⟩
  · have hq := b3
    cases hF; exact hO
  · have hq := b3
    rcases ifX hF with ⟨b4, hF⟩ | ⟨b4, hF⟩
    · have hq := b4
      obtain ⟨M6, h5, hF⟩ := ob1S hF
      have hO := hO.mono (fr_X6_write h5) (fun x j hx => Or.inr (hx))
      obtain ⟨M7, hO, hF⟩ := lt1W (P := fun q => Out P_X3_takesLetter M q) hF (by first | exact hO.pI (by simp [P_X3_takesLetter]) | exact hO.pL (by simp [P_X3_takesLetter]))
      cases hF; exact hO
    · have hq := b4
      cases hF; exact hO
abbrev P_X3_takesFigure : Nat → Nat → Prop := fun x j => (x = 68 ∧ j = 0) ∨ (x = 68 ∧ j = 1) ∨ (x = 68 ∧ j = 2) ∨ (x = 69) ∨ (x = 71) ∨ (x = 72) ∨ (x = 73)
set_option maxRecDepth 100000 in
set_option maxHeartbeats 4000000 in
theorem fw_X3_takesFigure_192 {fu : Nat} {r : Int32} {M' : Mm} {x2 : Int32} {M : Mm} (hF : F_X3_takesFigure_192 fu M x2 = some (r, M')) : Out P_X3_takesFigure M M' := by
  have hO : Out P_X3_takesFigure M M := Out.rf
  unfold F_X3_takesFigure_192 at hF
  rcases (ifX hF).symm with ⟨b1, hF⟩ | ⟨b1, hF⟩
  · have hq := b1
    obtain ⟨M2, hO, hF⟩ := lt1W (P := fun q => Out P_X3_takesFigure M q) hF (by first | exact hO.pI (by simp [P_X3_takesFigure]) | exact hO.pL (by simp [P_X3_takesFigure]))
    obtain ⟨z3, hF⟩ := ifO hF
    cases hF; exact hO
  · have hq := b1
    obtain ⟨M4, hO, hF⟩ := lt1W (P := fun q => Out P_X3_takesFigure M q) hF (by first | exact hO.pI (by simp [P_X3_takesFigure]) | exact hO.pL (by simp [P_X3_takesFigure]))
    obtain ⟨z5, hF⟩ := ifO hF
    cases hF; exact hO
set_option maxRecDepth 100000 in
set_option maxHeartbeats 4000000 in
theorem fw_X3_takesFigure_53 {fu : Nat} {r : Int32} {M' : Mm} {x1 : Int32} {t0 : Int32} {M : Mm} (hF : F_X3_takesFigure_53 fu M x1 t0 = some (r, M')) : Out P_X3_takesFigure M M' := by
  have hO : Out P_X3_takesFigure M M := Out.rf
  unfold F_X3_takesFigure_53 at hF
  obtain ⟨M1, hO, hF⟩ := lt1W (P := fun q => Out P_X3_takesFigure M q) hF (by first | exact hO.pI (by simp [P_X3_takesFigure]) | exact hO.pL (by simp [P_X3_takesFigure]))
  exact hO.trans (fw_X3_takesFigure_192 hF)
set_option maxRecDepth 100000 in
set_option maxHeartbeats 4000000 in
theorem fw_X3_takesFigure_123 {fu : Nat} {r : Int32} {M' : Mm} {t0 : Int32} {M : Mm} (hF : F_X3_takesFigure_123 fu M t0 = some (r, M')) : Out P_X3_takesFigure M M' := by
  have hO : Out P_X3_takesFigure M M := Out.rf
  unfold F_X3_takesFigure_123 at hF
  exact hO.trans (fw_X3_takesFigure_192 hF)
set_option maxRecDepth 100000 in
set_option maxHeartbeats 4000000 in
theorem fw_X3_takesFigure_152 {fu : Nat} {r : Int32} {M' : Mm} {x1 : Int32} {t0 : Int32} {M : Mm} (hF : F_X3_takesFigure_152 fu M x1 t0 = some (r, M')) : Out P_X3_takesFigure M M' := by
  have hO : Out P_X3_takesFigure M M := Out.rf
  unfold F_X3_takesFigure_152 at hF
  obtain ⟨M2, h1, hF⟩ := ob1S hF
  have hO := hO.mono (fr_X6_write h1) (fun x j hx => Or.inr (Or.inr (Or.inr (Or.inr (Or.inr (Or.inr (hx)))))))
  obtain ⟨M3, hO, hF⟩ := lt1W (P := fun q => Out P_X3_takesFigure M q) hF (by first | exact hO.pI (by simp [P_X3_takesFigure]) | exact hO.pL (by simp [P_X3_takesFigure]))
  exact hO.trans (fw_X3_takesFigure_192 hF)
set_option maxRecDepth 100000 in
set_option maxHeartbeats 4000000 in
theorem fr_X3_takesFigure {fu : Nat} {M : Mm} {x1 : Int32} {r : Int32} {M' : Mm} (hF : F_X3_takesFigure fu M x1 = some (r, M')) : Out P_X3_takesFigure M M' := by
  have hO : Out P_X3_takesFigure M M := Out.rf
  unfold F_X3_takesFigure at hF
  rcases Classical.em ((M.1 68 0) = (9 : Int32)) with w1 | w1
  · have hF := ifP hF w1
    rcases ifX hF with ⟨b2, hF⟩ | ⟨b2, hF⟩
    · have hq := b2
      exact hO.trans (fw_X3_takesFigure_53 hF)
    · have hq := b2
      exact hO.trans (fw_X3_takesFigure_53 hF)
  have hF := ifN hF w1
  rcases Classical.em ((M.1 68 0) = (11 : Int32)) with w3 | w3
  · have hF := ifP hF w3
    obtain ⟨M5, h4, hF⟩ := ob1S hF
    have hO := hO.mono (fr_X6_write h4) (fun x j hx => Or.inr (Or.inr (Or.inr (Or.inr (Or.inl hx)))))
    exact hO.trans (fw_X3_takesFigure_192 hF)
  have hF := ifN hF w3
  rcases Classical.em ((M.1 68 0) = (12 : Int32)) with w6 | w6
  · have hF := ifP hF w6
    obtain ⟨r8, h7, hF⟩ := ob1S hF
    obtain ⟨M10, h9, hF⟩ := ob1S hF
    have hO := hO.mono (fr_X6_write h9) (fun x j hx => Or.inr (Or.inr (Or.inr (Or.inr (Or.inl hx)))))
    obtain ⟨r12, h11, hF⟩ := ob1S hF
    rcases ifX hF with ⟨b13, hF⟩ | ⟨b13, hF⟩
    · have hq := b13
      exact hO.trans (fw_X3_takesFigure_123 hF)
    · have hq := b13
      exact hO.trans (fw_X3_takesFigure_123 hF)
  have hF := ifN hF w6
  rcases Classical.em ((M.1 68 0) = (13 : Int32)) with w14 | w14
  · have hF := ifP hF w14
    obtain ⟨M16, h15, hF⟩ := ob1S hF
    have hO := hO.mono (fr_X6_write h15) (fun x j hx => Or.inr (Or.inr (Or.inr (Or.inr (Or.inr (Or.inl hx))))))
    exact hO.trans (fw_X3_takesFigure_192 hF)
  have hF := ifN hF w14
  rcases Classical.em ((M.1 68 0) = (14 : Int32)) with w17 | w17
  · have hF := ifP hF w17
    rcases ifX hF with ⟨b18, hF⟩ | ⟨b18, hF⟩
    · have hq := b18
      exact hO.trans (fw_X3_takesFigure_152 hF)
    · have hq := b18
      exact hO.trans (fw_X3_takesFigure_152 hF)
  have hF := ifN hF w17
  obtain ⟨M20, h19, hF⟩ := ob1S hF
  have hO := hO.mono (fr_X6_write h19) (fun x j hx => Or.inr (Or.inr (Or.inr (Or.inl hx))))
  exact hO.trans (fw_X3_takesFigure_192 hF)
abbrev P_X3_takes : Nat → Nat → Prop := fun x j => (x = 68 ∧ j = 0) ∨ (x = 68 ∧ j = 1) ∨ (x = 68 ∧ j = 2) ∨ (x = 69) ∨ (x = 70) ∨ (x = 71) ∨ (x = 72) ∨ (x = 73)
set_option maxRecDepth 100000 in
set_option maxHeartbeats 4000000 in
theorem fw_X3_takes_16 {fu : Nat} {r : Int32} {M' : Mm} {x1 : Int32} {M : Mm} (hF : F_X3_takes_16 fu M x1 = some (r, M')) : Out P_X3_takes M M' := by
  have hO : Out P_X3_takes M M := Out.rf
  unfold F_X3_takes_16 at hF
  rcases ifX hF with ⟨b1, hF⟩ | ⟨b1, hF⟩
  · have hq := b1
    cases hF; exact hO
  · have hq := b1
    rcases (ifX hF).symm with ⟨b2, hF⟩ | ⟨b2, hF⟩
    · have hq := b2
      obtain ⟨r4, M5, h3, hF⟩ := ob2S hF
      have hO := hO.mono (fr_X3_takesLetter h3) (fun x j hx => hx.elim (fun h => Or.inl h) (fun hx => Or.inr (Or.inr (Or.inr (Or.inr (Or.inl hx))))))
      rcases ifX hF with ⟨b6, hF⟩ | ⟨b6, hF⟩
      · have hq := b6
        cases hF; exact hO
      · have hq := b6
        cases hF; exact hO
    · have hq := b2
      obtain ⟨r8, M9, h7, hF⟩ := ob2S hF
      have hO := hO.mono (fr_X3_takesSun h7) (fun x j hx => Or.inl hx)
      rcases ifX hF with ⟨b10, hF⟩ | ⟨b10, hF⟩
      · have hq := b10
        cases hF; exact hO
      · have hq := b10
        cases hF; exact hO
set_option maxRecDepth 100000 in
set_option maxHeartbeats 4000000 in
theorem fr_X3_takes {fu : Nat} {M : Mm} {x1 : Int32} {r : Int32} {M' : Mm} (hF : F_X3_takes fu M x1 = some (r, M')) : Out P_X3_takes M M' := by
  have hO : Out P_X3_takes M M := Out.rf
  unfold F_X3_takes at hF
  rcases ifX hF with ⟨b1, hF⟩ | ⟨b1, hF⟩
  · have hq := b1
    exact hO.trans (fw_X3_takes_16 hF)
  · have hq := b1
    rcases (ifX hF).symm with ⟨b2, hF⟩ | ⟨b2, hF⟩
    · have hq := b2
      rcases ifX hF with ⟨b3, hF⟩ | ⟨b3, hF⟩
      · have hq := b3
        cases hF; exact hO
      · have hq := b3
        rcases ifX hF with ⟨b4, hF⟩ | ⟨b4, hF⟩
        · have hq := b4
          cases hF; exact hO
        · have hq := b4
          obtain ⟨r6, M7, h5, hF⟩ := ob2S hF
          have hO := hO.mono (fr_X3_takesFigure h5) (fun x j hx => hx.elim (fun h => Or.inl h) (fun hx => hx.elim (fun h => Or.inr (Or.inl h)) (fun hx => hx.elim (fun h => Or.inr (Or.inr (Or.inl h))) (fun hx => hx.elim (fun h => Or.inr (Or.inr (Or.inr (Or.inl h)))) (fun hx => hx.elim (fun h => Or.inr (Or.inr (Or.inr (Or.inr (Or.inr (Or.inl h)))))) (fun hx => hx.elim (fun h => Or.inr (Or.inr (Or.inr (Or.inr (Or.inr (Or.inr (Or.inl h))))))) (fun hx => Or.inr (Or.inr (Or.inr (Or.inr (Or.inr (Or.inr (Or.inr (hx))))))))))))))
          rcases ifX hF with ⟨b8, hF⟩ | ⟨b8, hF⟩
          · have hq := b8
            cases hF; exact hO
          · have hq := b8
            cases hF; exact hO
    · have hq := b2
      exact hO.trans (fw_X3_takes_16 hF)
abbrev P_X3_faultIn : Nat → Nat → Prop := fun x j => (x = 68 ∧ j = 0) ∨ (x = 68 ∧ j = 1) ∨ (x = 68 ∧ j = 2) ∨ (x = 69) ∨ (x = 70) ∨ (x = 71) ∨ (x = 72) ∨ (x = 73)
set_option maxRecDepth 100000 in
set_option maxHeartbeats 4000000 in
theorem fw_X3_faultIn_12 {fu : Nat} {r : Int32} {M' : Mm} : ∀ (n : Nat) {c1 : Nat} {x2 : Int32} {M : Mm}, F_X3_faultIn_12 fu n M c1 x2 = some (r, M') → Out P_X3_faultIn M M' := by
  intro n
  induction n with
  | zero =>
    intro c1 x2 M hF
    cases hF
  | succ n ih =>
    intro c1 x2 M hF
    have hO : Out P_X3_faultIn M M := Out.rf
    unfold F_X3_faultIn_12 at hF
    rcases ifX hF with ⟨b1, hF⟩ | ⟨b1, hF⟩
    · have hq := b1
      rcases (ifX hF).symm with ⟨b2, hF⟩ | ⟨b2, hF⟩
      · have hq := b2
        cases hF; exact hO
      · have hq := b2
        rcases ifX hF with ⟨b3, hF⟩ | ⟨b3, hF⟩
        · have hq := b3
          cases hF; exact hO
        · have hq := b3
          cases hF; exact hO
    · have hq := b1
      obtain ⟨r5, h4, hF⟩ := ob1S hF
      obtain ⟨r7, M8, h6, hF⟩ := ob2S hF
      have hO := hO.mono (fr_X3_takes h6) (fun x j hx => hx.elim (fun h => Or.inl h) (fun hx => hx.elim (fun h => Or.inr (Or.inl h)) (fun hx => hx.elim (fun h => Or.inr (Or.inr (Or.inl h))) (fun hx => hx.elim (fun h => Or.inr (Or.inr (Or.inr (Or.inl h)))) (fun hx => hx.elim (fun h => Or.inr (Or.inr (Or.inr (Or.inr (Or.inl h))))) (fun hx => hx.elim (fun h => Or.inr (Or.inr (Or.inr (Or.inr (Or.inr (Or.inl h)))))) (fun hx => hx.elim (fun h => Or.inr (Or.inr (Or.inr (Or.inr (Or.inr (Or.inr (Or.inl h))))))) (fun hx => Or.inr (Or.inr (Or.inr (Or.inr (Or.inr (Or.inr (Or.inr (hx)))))))))))))))
      rcases (ifX hF).symm with ⟨b9, hF⟩ | ⟨b9, hF⟩
      · have hq := b9
        exact hO.trans (ih hF)
      · have hq := b9
        cases hF; exact hO
set_option maxRecDepth 100000 in
set_option maxHeartbeats 4000000 in
theorem fr_X3_faultIn {fu : Nat} {M : Mm} {c1 : Nat} {r : Int32} {M' : Mm} (hF : F_X3_faultIn fu M c1 = some (r, M')) : Out P_X3_faultIn M M' := by
  have hO : Out P_X3_faultIn M M := Out.rf
  unfold F_X3_faultIn at hF
  obtain ⟨M1, hO, hF⟩ := lt1W (P := fun q => Out P_X3_faultIn M q) hF (by first | exact hO.pI (by simp [P_X3_faultIn]) | exact hO.pL (by simp [P_X3_faultIn]))
  obtain ⟨M2, hO, hF⟩ := lt1W (P := fun q => Out P_X3_faultIn M q) hF (by first | exact hO.pI (by simp [P_X3_faultIn]) | exact hO.pL (by simp [P_X3_faultIn]))
  exact hO.trans (fw_X3_faultIn_12 _ hF)
abbrev P_X4_take (c0 : Nat) : Nat → Nat → Prop := fun x j => (x = c0 ∧ j = 0) ∨ (x = c0 ∧ j = 1) ∨ (x = c0 + 6)
set_option maxRecDepth 100000 in
set_option maxHeartbeats 4000000 in
theorem fr_X4_take {fu : Nat} {M : Mm} {c0 : Nat} {c1 : Nat} {x2 : Int32} {M' : Mm} (hF : F_X4_take fu M c0 c1 x2 = some M') : Out (P_X4_take c0) M M' := by
  have hO : Out (P_X4_take c0) M M := Out.rf
  unfold F_X4_take at hF
  obtain ⟨M1, hO, hF⟩ := lt1W (P := fun q => Out (P_X4_take c0) M q) hF (by first | exact hO.pI (by simp [P_X4_take]) | exact hO.pL (by simp [P_X4_take]))
  obtain ⟨M2, hO, hF⟩ := lt1W (P := fun q => Out (P_X4_take c0) M q) hF (by first | exact hO.pI (by simp [P_X4_take]) | exact hO.pL (by simp [P_X4_take]))
  obtain ⟨M4, h3, hF⟩ := ob1S hF
  have hO := hO.mono (fr_X6_writeAll h3) (fun x j hx => Or.inr (Or.inr (hx)))
  cases hF; exact hO
abbrev P_X5_renew (c0 : Nat) : Nat → Nat → Prop := fun x j => (x = c0 ∧ j = 0) ∨ (x = c0 ∧ j = 1) ∨ (x = c0 + 4)
set_option maxRecDepth 100000 in
set_option maxHeartbeats 4000000 in
theorem fw_X5_renew_12 {fu : Nat} {c0 : Nat} {M' : Mm} : ∀ (n : Nat) {x2 : Int32} {M : Mm}, F_X5_renew_12 fu n M c0 x2 = some M' → Out (P_X5_renew c0) M M' := by
  intro n
  induction n with
  | zero =>
    intro x2 M hF
    cases hF
  | succ n ih =>
    intro x2 M hF
    have hO : Out (P_X5_renew c0) M M := Out.rf
    unfold F_X5_renew_12 at hF
    rcases ifX hF with ⟨b1, hF⟩ | ⟨b1, hF⟩
    · have hq := b1
      cases hF; exact hO
    · have hq := b1
      obtain ⟨n2, hF⟩ := ifO hF
      obtain ⟨M3, hO, hF⟩ := lt1W (P := fun q => Out (P_X5_renew c0) M q) hF (by first | exact hO.pI (by simp [P_X5_renew]) | exact hO.pL (by simp [P_X5_renew]))
      exact hO.trans (ih hF)
set_option maxRecDepth 100000 in
set_option maxHeartbeats 4000000 in
theorem fr_X5_renew {fu : Nat} {M : Mm} {c0 : Nat} {x1 : Int32} {M' : Mm} (hF : F_X5_renew fu M c0 x1 = some M') : Out (P_X5_renew c0) M M' := by
  have hO : Out (P_X5_renew c0) M M := Out.rf
  unfold F_X5_renew at hF
  obtain ⟨M1, hO, hF⟩ := lt1W (P := fun q => Out (P_X5_renew c0) M q) hF (by first | exact hO.pI (by simp [P_X5_renew]) | exact hO.pL (by simp [P_X5_renew]))
  obtain ⟨M2, hO, hF⟩ := lt1W (P := fun q => Out (P_X5_renew c0) M q) hF (by first | exact hO.pI (by simp [P_X5_renew]) | exact hO.pL (by simp [P_X5_renew]))
  exact hO.trans (fw_X5_renew_12 _ hF)
abbrev P_X5_change (c0 : Nat) : Nat → Nat → Prop := fun x j => (x = c0 + 4)
set_option maxRecDepth 100000 in
set_option maxHeartbeats 4000000 in
theorem fr_X5_change {fu : Nat} {M : Mm} {c0 : Nat} {x1 : Int32} {x2 : Int32} {M' : Mm} (hF : F_X5_change fu M c0 x1 x2 = some M') : Out (P_X5_change c0) M M' := by
  have hO : Out (P_X5_change c0) M M := Out.rf
  unfold F_X5_change at hF
  rcases ifX hF with ⟨b1, hF⟩ | ⟨b1, hF⟩
  · have hq := b1
    cases hF; exact hO
  · have hq := b1
    rcases ifX hF with ⟨b2, hF⟩ | ⟨b2, hF⟩
    · have hq := b2
      cases hF; exact hO
    · have hq := b2
      obtain ⟨n3, hF⟩ := ifO hF
      obtain ⟨M4, hO, hF⟩ := lt1W (P := fun q => Out (P_X5_change c0) M q) hF (by first | exact hO.pI (by simp [P_X5_change]) | exact hO.pL (by simp [P_X5_change]))
      cases hF; exact hO
abbrev P_X6_found : Nat → Nat → Prop := fun x j => (x = 0 ∧ j = 8) ∨ (x = 80)
set_option maxRecDepth 100000 in
set_option maxHeartbeats 4000000 in
theorem fr_X6_found {fu : Nat} {M : Mm} {x1 : Int32} {r : Int32} {M' : Mm} (hF : F_X6_found fu M x1 = some (r, M')) : Out P_X6_found M M' := by
  have hO : Out P_X6_found M M := Out.rf
  unfold F_X6_found at hF
  obtain ⟨M1, hO, hF⟩ := lt1W (P := fun q => Out P_X6_found M q) hF (by first | exact hO.pI (by simp [P_X6_found]) | exact hO.pL (by simp [P_X6_found]))
  obtain ⟨r3, h2, hF⟩ := ob1S hF
  obtain ⟨M5, h4, hF⟩ := ob1S hF
  have hO := hO.mono (fr_X6_write h4) (fun x j hx => Or.inr (hx))
  cases hF; exact hO
abbrev P_X6_tell : Nat → Nat → Prop := fun x j => (x = 0 ∧ j = 9)
set_option maxRecDepth 100000 in
set_option maxHeartbeats 4000000 in
theorem fr_X6_tell {fu : Nat} {M : Mm} {x1 : Int32} {r : Int32} {M' : Mm} (hF : F_X6_tell fu M x1 = some (r, M')) : Out P_X6_tell M M' := by
  have hO : Out P_X6_tell M M := Out.rf
  unfold F_X6_tell at hF
  obtain ⟨M1, hO, hF⟩ := lt1W (P := fun q => Out P_X6_tell M q) hF (by first | exact hO.pI (by simp [P_X6_tell]) | exact hO.pL (by simp [P_X6_tell]))
  cases hF; exact hO
abbrev P_X6_at : Nat → Nat → Prop := fun x j => (x = 0 ∧ j = 8) ∨ (x = 0 ∧ j = 9) ∨ (x = 80)
set_option maxRecDepth 100000 in
set_option maxHeartbeats 4000000 in
theorem fw_X6_at_37 {fu : Nat} {r : Int32} {M' : Mm} {M : Mm} (hF : F_X6_at_37 fu M = some (r, M')) : Out P_X6_at M M' := by
  have hO : Out P_X6_at M M := Out.rf
  unfold F_X6_at_37 at hF
  obtain ⟨r2, M3, h1, hF⟩ := ob2S hF
  have hO := hO.mono (fr_X6_found h1) (fun x j hx => hx.elim (fun h => Or.inl h) (fun hx => Or.inr (Or.inr (hx))))
  cases hF; exact hO
set_option maxRecDepth 100000 in
set_option maxHeartbeats 4000000 in
theorem fr_X6_at {fu : Nat} {M : Mm} {x1 : Int32} {x2 : Int32} {r : Int32} {M' : Mm} (hF : F_X6_at fu M x1 x2 = some (r, M')) : Out P_X6_at M M' := by
  have hO : Out P_X6_at M M := Out.rf
  unfold F_X6_at at hF
  obtain ⟨r2, h1, hF⟩ := ob1S hF
  cases r2 with
  | none =>
    have hF := op1N hF
    cases hF; exact hO
  | some c3 =>
    obtain ⟨g4, hF⟩ := ifO (op1C hF)
    have g4 := Decidable.not_not.mp g4
    rcases (ifX hF).symm with ⟨b5, hF⟩ | ⟨b5, hF⟩
    · have hq := b5
      rcases ifX hF with ⟨b6, hF⟩ | ⟨b6, hF⟩
      · have hq := b6
        exact hO.trans (fw_X6_at_37 hF)
      · have hq := b6
        rcases ifX hF with ⟨b7, hF⟩ | ⟨b7, hF⟩
        · have hq := b7
          obtain ⟨r9, h8, hF⟩ := ob1S hF
          obtain ⟨r11, M12, h10, hF⟩ := ob2S hF
          have hO := hO.mono (fr_X6_tell h10) (fun x j hx => Or.inr (Or.inl hx))
          cases hF; exact hO
        · have hq := b7
          exact hO.trans (fw_X6_at_37 hF)
    · have hq := b5
      obtain ⟨r14, M15, h13, hF⟩ := ob2S hF
      have hO := hO.mono (fr_X6_found h13) (fun x j hx => hx.elim (fun h => Or.inl h) (fun hx => Or.inr (Or.inr (hx))))
      cases hF; exact hO
abbrev P_X6_fault : Nat → Nat → Prop := fun x j => (x = 0 ∧ j = 8) ∨ (x = 68 ∧ j = 0) ∨ (x = 68 ∧ j = 1) ∨ (x = 68 ∧ j = 2) ∨ (x = 69) ∨ (x = 70) ∨ (x = 71) ∨ (x = 72) ∨ (x = 73) ∨ (x = 80)
set_option maxRecDepth 100000 in
set_option maxHeartbeats 4000000 in
theorem fr_X6_fault {fu : Nat} {M : Mm} {x1 : Int32} {r : Int32} {M' : Mm} (hF : F_X6_fault fu M x1 = some (r, M')) : Out P_X6_fault M M' := by
  have hO : Out P_X6_fault M M := Out.rf
  unfold F_X6_fault at hF
  obtain ⟨r2, h1, hF⟩ := ob1S hF
  cases r2 with
  | none =>
    have hF := op1N hF
    cases hF; exact hO
  | some c3 =>
    obtain ⟨g4, hF⟩ := ifO (op1C hF)
    have g4 := Decidable.not_not.mp g4
    rcases (ifX hF).symm with ⟨b5, hF⟩ | ⟨b5, hF⟩
    · have hq := b5
      obtain ⟨r7, M8, h6, hF⟩ := ob2S hF
      have hO := hO.mono (fr_X3_faultIn h6) (fun x j hx => hx.elim (fun h => Or.inr (Or.inl h)) (fun hx => hx.elim (fun h => Or.inr (Or.inr (Or.inl h))) (fun hx => hx.elim (fun h => Or.inr (Or.inr (Or.inr (Or.inl h)))) (fun hx => hx.elim (fun h => Or.inr (Or.inr (Or.inr (Or.inr (Or.inl h))))) (fun hx => hx.elim (fun h => Or.inr (Or.inr (Or.inr (Or.inr (Or.inr (Or.inl h)))))) (fun hx => hx.elim (fun h => Or.inr (Or.inr (Or.inr (Or.inr (Or.inr (Or.inr (Or.inl h))))))) (fun hx => hx.elim (fun h => Or.inr (Or.inr (Or.inr (Or.inr (Or.inr (Or.inr (Or.inr (Or.inl h)))))))) (fun hx => Or.inr (Or.inr (Or.inr (Or.inr (Or.inr (Or.inr (Or.inr (Or.inr (Or.inl hx))))))))))))))))
      cases hF; exact hO
    · have hq := b5
      obtain ⟨r10, M11, h9, hF⟩ := ob2S hF
      have hO := hO.mono (fr_X6_found h9) (fun x j hx => hx.elim (fun h => Or.inl h) (fun hx => Or.inr (Or.inr (Or.inr (Or.inr (Or.inr (Or.inr (Or.inr (Or.inr (Or.inr (hx)))))))))))
      cases hF; exact hO
abbrev P_X6_man : Nat → Nat → Prop := fun x j => (x = 0 ∧ j = 9)
set_option maxRecDepth 100000 in
set_option maxHeartbeats 4000000 in
theorem fr_X6_man {fu : Nat} {M : Mm} {x1 : Int32} {x2 : Int32} {r : Int32} {M' : Mm} (hF : F_X6_man fu M x1 x2 = some (r, M')) : Out P_X6_man M M' := by
  have hO : Out P_X6_man M M := Out.rf
  unfold F_X6_man at hF
  obtain ⟨r2, h1, hF⟩ := ob1S hF
  rcases ifX hF with ⟨b3, hF⟩ | ⟨b3, hF⟩
  · have hq := b3
    cases hF; exact hO
  · have hq := b3
    rcases ifX hF with ⟨b4, hF⟩ | ⟨b4, hF⟩
    · have hq := b4
      cases hF; exact hO
    · have hq := b4
      rcases ifX hF with ⟨b5, hF⟩ | ⟨b5, hF⟩
      · have hq := b5
        obtain ⟨r7, h6, hF⟩ := ob1S hF
        obtain ⟨r9, M10, h8, hF⟩ := ob2S hF
        have hO := hO.mono (fr_X6_tell h8) (fun x j hx => hx)
        cases hF; exact hO
      · have hq := b5
        cases hF; exact hO
abbrev P_X6_day : Nat → Nat → Prop := fun x j => (x = 24 ∧ j = 2) ∨ (x = 24 ∧ j = 3) ∨ (x = 28) ∨ (x = 29) ∨ (x = 32) ∨ (x = 33) ∨ (x = 34)
set_option maxRecDepth 100000 in
set_option maxHeartbeats 4000000 in
theorem fr_X6_day {fu : Nat} {M : Mm} {r : Int32} {M' : Mm} (hF : F_X6_day fu M = some (r, M')) : Out P_X6_day M M' := by
  have hO : Out P_X6_day M M := Out.rf
  unfold F_X6_day at hF
  rcases (ifX hF).symm with ⟨b1, hF⟩ | ⟨b1, hF⟩
  · have hq := b1
    rcases ifX hF with ⟨b2, hF⟩ | ⟨b2, hF⟩
    · have hq := b2
      obtain ⟨M4, h3, hF⟩ := ob1S hF
      have hO := hO.mono (fr_X2_act h3) (fun x j hx => hx.elim (fun h => Or.inl h) (fun hx => hx.elim (fun h => Or.inr (Or.inl h)) (fun hx => hx.elim (fun h => Or.inr (Or.inr (Or.inr (Or.inr (Or.inr (Or.inr (h))))))) (fun hx => hx.elim (fun h => Or.inr (Or.inr (Or.inl h))) (fun hx => hx.elim (fun h => Or.inr (Or.inr (Or.inr (Or.inl h)))) (fun hx => hx.elim (fun h => Or.inr (Or.inr (Or.inr (Or.inr (Or.inl h))))) (fun hx => Or.inr (Or.inr (Or.inr (Or.inr (Or.inr (Or.inl hx))))))))))))
      obtain ⟨r6, h5, hF⟩ := ob1S hF
      obtain ⟨r8, h7, hF⟩ := ob1S hF
      cases hF; exact hO
    · have hq := b2
      cases hF; exact hO
  · have hq := b1
    cases hF; exact hO
abbrev P_X6_shade : Nat → Nat → Prop := fun x j => (x = 24 ∧ j = 2) ∨ (x = 24 ∧ j = 3) ∨ (x = 28) ∨ (x = 29) ∨ (x = 32) ∨ (x = 33) ∨ (x = 34)
set_option maxRecDepth 100000 in
set_option maxHeartbeats 4000000 in
theorem fr_X6_shade {fu : Nat} {M : Mm} {x1 : Int32} {x2 : Int32} {r : Int32} {M' : Mm} (hF : F_X6_shade fu M x1 x2 = some (r, M')) : Out P_X6_shade M M' := by
  have hO : Out P_X6_shade M M := Out.rf
  unfold F_X6_shade at hF
  obtain ⟨r2, h1, hF⟩ := ob1S hF
  rcases ifX hF with ⟨b3, hF⟩ | ⟨b3, hF⟩
  · have hq := b3
    cases hF; exact hO
  · have hq := b3
    rcases ifX hF with ⟨b4, hF⟩ | ⟨b4, hF⟩
    · have hq := b4
      cases hF; exact hO
    · have hq := b4
      rcases ifX hF with ⟨b5, hF⟩ | ⟨b5, hF⟩
      · have hq := b5
        rcases ifX hF with ⟨b6, hF⟩ | ⟨b6, hF⟩
        · have hq := b6
          obtain ⟨r8, h7, hF⟩ := ob1S hF
          obtain ⟨M10, h9, hF⟩ := ob1S hF
          have hO := hO.mono (fr_X2_act h9) (fun x j hx => hx.elim (fun h => Or.inl h) (fun hx => hx.elim (fun h => Or.inr (Or.inl h)) (fun hx => hx.elim (fun h => Or.inr (Or.inr (Or.inr (Or.inr (Or.inr (Or.inr (h))))))) (fun hx => hx.elim (fun h => Or.inr (Or.inr (Or.inl h))) (fun hx => hx.elim (fun h => Or.inr (Or.inr (Or.inr (Or.inl h)))) (fun hx => hx.elim (fun h => Or.inr (Or.inr (Or.inr (Or.inr (Or.inl h))))) (fun hx => Or.inr (Or.inr (Or.inr (Or.inr (Or.inr (Or.inl hx))))))))))))
          cases hF; exact hO
        · have hq := b6
          cases hF; exact hO
      · have hq := b5
        cases hF; exact hO
abbrev P_X6_snow : Nat → Nat → Prop := fun x j => (x = 24 ∧ j = 2) ∨ (x = 24 ∧ j = 3) ∨ (x = 28) ∨ (x = 29) ∨ (x = 32) ∨ (x = 33) ∨ (x = 34)
set_option maxRecDepth 100000 in
set_option maxHeartbeats 4000000 in
theorem fr_X6_snow {fu : Nat} {M : Mm} {x1 : Int32} {x2 : Int32} {r : Int32} {M' : Mm} (hF : F_X6_snow fu M x1 x2 = some (r, M')) : Out P_X6_snow M M' := by
  have hO : Out P_X6_snow M M := Out.rf
  unfold F_X6_snow at hF
  obtain ⟨r2, h1, hF⟩ := ob1S hF
  rcases ifX hF with ⟨b3, hF⟩ | ⟨b3, hF⟩
  · have hq := b3
    cases hF; exact hO
  · have hq := b3
    rcases ifX hF with ⟨b4, hF⟩ | ⟨b4, hF⟩
    · have hq := b4
      cases hF; exact hO
    · have hq := b4
      rcases ifX hF with ⟨b5, hF⟩ | ⟨b5, hF⟩
      · have hq := b5
        obtain ⟨r7, h6, hF⟩ := ob1S hF
        rcases (ifX hF).symm with ⟨b8, hF⟩ | ⟨b8, hF⟩
        · have hq := b8
          rcases ifX hF with ⟨b9, hF⟩ | ⟨b9, hF⟩
          · have hq := b9
            obtain ⟨M11, h10, hF⟩ := ob1S hF
            have hO := hO.mono (fr_X2_act h10) (fun x j hx => hx.elim (fun h => Or.inl h) (fun hx => hx.elim (fun h => Or.inr (Or.inl h)) (fun hx => hx.elim (fun h => Or.inr (Or.inr (Or.inr (Or.inr (Or.inr (Or.inr (h))))))) (fun hx => hx.elim (fun h => Or.inr (Or.inr (Or.inl h))) (fun hx => hx.elim (fun h => Or.inr (Or.inr (Or.inr (Or.inl h)))) (fun hx => hx.elim (fun h => Or.inr (Or.inr (Or.inr (Or.inr (Or.inl h))))) (fun hx => Or.inr (Or.inr (Or.inr (Or.inr (Or.inr (Or.inl hx))))))))))))
            obtain ⟨r13, h12, hF⟩ := ob1S hF
            cases hF; exact hO
          · have hq := b9
            cases hF; exact hO
        · have hq := b8
          cases hF; exact hO
      · have hq := b5
        cases hF; exact hO
abbrev P_X6_undo : Nat → Nat → Prop := fun x j => (x = 24 ∧ j = 2) ∨ (x = 24 ∧ j = 3) ∨ (x = 28) ∨ (x = 29)
set_option maxRecDepth 100000 in
set_option maxHeartbeats 4000000 in
theorem fr_X6_undo {fu : Nat} {M : Mm} {x1 : Int32} {r : Int32} {M' : Mm} (hF : F_X6_undo fu M x1 = some (r, M')) : Out P_X6_undo M M' := by
  have hO : Out P_X6_undo M M := Out.rf
  unfold F_X6_undo at hF
  rcases ifX hF with ⟨b1, hF⟩ | ⟨b1, hF⟩
  · have hq := b1
    cases hF; exact hO
  · have hq := b1
    rcases ifX hF with ⟨b2, hF⟩ | ⟨b2, hF⟩
    · have hq := b2
      obtain ⟨M4, h3, hF⟩ := ob1S hF
      have hO := hO.mono (fr_X2_undoFrom h3) (fun x j hx => hx.elim (fun h => Or.inl h) (fun hx => hx.elim (fun h => Or.inr (Or.inl h)) (fun hx => hx.elim (fun h => Or.inr (Or.inr (Or.inl h))) (fun hx => Or.inr (Or.inr (Or.inr (hx)))))))
      cases hF; exact hO
    · have hq := b2
      cases hF; exact hO
abbrev P_X6_on : Nat → Nat → Prop := fun x j => (x = 0 ∧ j = 8) ∨ (x = 24 ∧ j = 0) ∨ (x = 24 ∧ j = 1) ∨ (x = 24 ∧ j = 2) ∨ (x = 24 ∧ j = 3) ∨ (x = 25) ∨ (x = 26) ∨ (x = 27) ∨ (x = 28) ∨ (x = 29) ∨ (x = 30) ∨ (x = 31) ∨ (x = 32) ∨ (x = 33) ∨ (x = 34) ∨ (x = 80)
set_option maxRecDepth 100000 in
set_option maxHeartbeats 4000000 in
theorem fr_X6_on {fu : Nat} {M : Mm} {x1 : Int32} {r : Int32} {M' : Mm} (hF : F_X6_on fu M x1 = some (r, M')) : Out P_X6_on M M' := by
  have hO : Out P_X6_on M M := Out.rf
  unfold F_X6_on at hF
  obtain ⟨r2, h1, hF⟩ := ob1S hF
  cases r2 with
  | none =>
    have hF := op1N hF
    cases hF; exact hO
  | some c3 =>
    obtain ⟨g4, hF⟩ := ifO (op1C hF)
    have g4 := Decidable.not_not.mp g4
    rcases (ifX hF).symm with ⟨b5, hF⟩ | ⟨b5, hF⟩
    · have hq := b5
      obtain ⟨M7, h6, hF⟩ := ob1S hF
      have hO := hO.mono (fr_X2_become h6) (fun x j hx => hx.elim (fun h => Or.inr (Or.inl h)) (fun hx => hx.elim (fun h => Or.inr (Or.inr (Or.inl h))) (fun hx => hx.elim (fun h => Or.inr (Or.inr (Or.inr (Or.inl h)))) (fun hx => hx.elim (fun h => Or.inr (Or.inr (Or.inr (Or.inr (Or.inl h))))) (fun hx => hx.elim (fun h => Or.inr (Or.inr (Or.inr (Or.inr (Or.inr (Or.inl h)))))) (fun hx => hx.elim (fun h => Or.inr (Or.inr (Or.inr (Or.inr (Or.inr (Or.inr (Or.inr (Or.inr (Or.inr (Or.inr (Or.inr (Or.inr (Or.inr (Or.inr (Or.inl h))))))))))))))) (fun hx => hx.elim (fun h => Or.inr (Or.inr (Or.inr (Or.inr (Or.inr (Or.inr (Or.inl h))))))) (fun hx => hx.elim (fun h => Or.inr (Or.inr (Or.inr (Or.inr (Or.inr (Or.inr (Or.inr (Or.inl h)))))))) (fun hx => hx.elim (fun h => Or.inr (Or.inr (Or.inr (Or.inr (Or.inr (Or.inr (Or.inr (Or.inr (Or.inl h))))))))) (fun hx => hx.elim (fun h => Or.inr (Or.inr (Or.inr (Or.inr (Or.inr (Or.inr (Or.inr (Or.inr (Or.inr (Or.inl h)))))))))) (fun hx => hx.elim (fun h => Or.inr (Or.inr (Or.inr (Or.inr (Or.inr (Or.inr (Or.inr (Or.inr (Or.inr (Or.inr (Or.inl h))))))))))) (fun hx => hx.elim (fun h => Or.inr (Or.inr (Or.inr (Or.inr (Or.inr (Or.inr (Or.inr (Or.inr (Or.inr (Or.inr (Or.inr (Or.inl h)))))))))))) (fun hx => hx.elim (fun h => Or.inr (Or.inr (Or.inr (Or.inr (Or.inr (Or.inr (Or.inr (Or.inr (Or.inr (Or.inr (Or.inr (Or.inr (Or.inl h))))))))))))) (fun hx => Or.inr (Or.inr (Or.inr (Or.inr (Or.inr (Or.inr (Or.inr (Or.inr (Or.inr (Or.inr (Or.inr (Or.inr (Or.inr (Or.inl hx)))))))))))))))))))))))))))
      cases hF; exact hO
    · have hq := b5
      obtain ⟨r9, M10, h8, hF⟩ := ob2S hF
      have hO := hO.mono (fr_X6_found h8) (fun x j hx => hx.elim (fun h => Or.inl h) (fun hx => Or.inr (Or.inr (Or.inr (Or.inr (Or.inr (Or.inr (Or.inr (Or.inr (Or.inr (Or.inr (Or.inr (Or.inr (Or.inr (Or.inr (Or.inr (hx)))))))))))))))))
      cases hF; exact hO
abbrev P_X6_votes : Nat → Nat → Prop := fun x j => (x = 0 ∧ j = 9)
set_option maxRecDepth 100000 in
set_option maxHeartbeats 4000000 in
theorem fr_X6_votes {fu : Nat} {M : Mm} {x1 : Int32} {r : Int32} {M' : Mm} (hF : F_X6_votes fu M x1 = some (r, M')) : Out P_X6_votes M M' := by
  have hO : Out P_X6_votes M M := Out.rf
  unfold F_X6_votes at hF
  obtain ⟨r2, h1, hF⟩ := ob1S hF
  rcases (ifX hF).symm with ⟨b3, hF⟩ | ⟨b3, hF⟩
  · have hq := b3
    rcases (ifX hF).symm with ⟨b4, hF⟩ | ⟨b4, hF⟩
    · have hq := b4
      obtain ⟨r6, h5, hF⟩ := ob1S hF
      obtain ⟨r8, h7, hF⟩ := ob1S hF
      obtain ⟨r10, h9, hF⟩ := ob1S hF
      obtain ⟨r12, h11, hF⟩ := ob1S hF
      obtain ⟨M13, hO, hF⟩ := lt1W (P := fun q => Out P_X6_votes M q) hF (by first | exact hO.pI (by simp [P_X6_votes]) | exact hO.pL (by simp [P_X6_votes]))
      cases hF; exact hO
    · have hq := b4
      cases hF; exact hO
  · have hq := b3
    cases hF; exact hO
abbrev P_X6_widow : Nat → Nat → Prop := fun x j => (x = 0 ∧ j = 9)
set_option maxRecDepth 100000 in
set_option maxHeartbeats 4000000 in
theorem fw_X6_widow_21 {fu : Nat} {r : Int32} {M' : Mm} : ∀ (n : Nat) {x1 : Int32} {x2 : Int32} {x3 : Int32} {M : Mm}, F_X6_widow_21 fu n M x1 x2 x3 = some (r, M') → Out P_X6_widow M M' := by
  intro n
  induction n with
  | zero =>
    intro x1 x2 x3 M hF
    cases hF
  | succ n ih =>
    intro x1 x2 x3 M hF
    have hO : Out P_X6_widow M M := Out.rf
    unfold F_X6_widow_21 at hF
    rcases ifX hF with ⟨b1, hF⟩ | ⟨b1, hF⟩
    · have hq := b1
      rcases ifX hF with ⟨b2, hF⟩ | ⟨b2, hF⟩
      · have hq := b2
        cases hF; exact hO
      · have hq := b2
        obtain ⟨M3, hO, hF⟩ := lt1W (P := fun q => Out P_X6_widow M q) hF (by first | exact hO.pI (by simp [P_X6_widow]) | exact hO.pL (by simp [P_X6_widow]))
        cases hF; exact hO
    · have hq := b1
      obtain ⟨r5, h4, hF⟩ := ob1S hF
      rcases ifX hF with ⟨b6, hF⟩ | ⟨b6, hF⟩
      · have hq := b6
        exact hO.trans (ih hF)
      · have hq := b6
        rcases ifX hF with ⟨b7, hF⟩ | ⟨b7, hF⟩
        · have hq := b7
          exact hO.trans (ih hF)
        · have hq := b7
          exact hO.trans (ih hF)
set_option maxRecDepth 100000 in
set_option maxHeartbeats 4000000 in
theorem fr_X6_widow {fu : Nat} {M : Mm} {r : Int32} {M' : Mm} (hF : F_X6_widow fu M = some (r, M')) : Out P_X6_widow M M' := by
  have hO : Out P_X6_widow M M := Out.rf
  unfold F_X6_widow at hF
  rcases (ifX hF).symm with ⟨b1, hF⟩ | ⟨b1, hF⟩
  · have hq := b1
    exact hO.trans (fw_X6_widow_21 _ hF)
  · have hq := b1
    cases hF; exact hO
abbrev P_X6_fillMostCounted : Nat → Nat → Prop := fun x j => (x = 85)
set_option maxRecDepth 100000 in
set_option maxHeartbeats 4000000 in
theorem fw_X6_fillMostCounted_20 {fu : Nat} {M' : Mm} {k12 : Mm → Int32 → Option Mm} (hk_12 : ∀ {x1 : Int32} {M : Mm}, k12 M x1 = some M' → Out P_X6_fillMostCounted M M') : ∀ (n : Nat) {x1 : Int32} {x2 : Int32} {x3 : Int32} {M : Mm}, F_X6_fillMostCounted_20 fu k12 n M x1 x2 x3 = some M' → Out P_X6_fillMostCounted M M' := by
  intro n
  induction n with
  | zero =>
    intro x1 x2 x3 M hF
    cases hF
  | succ n ih =>
    intro x1 x2 x3 M hF
    have hO : Out P_X6_fillMostCounted M M := Out.rf
    unfold F_X6_fillMostCounted_20 at hF
    rcases ifX hF with ⟨b1, hF⟩ | ⟨b1, hF⟩
    · have hq := b1
      obtain ⟨M3, h2, hF⟩ := ob1S hF
      have hO := hO.mono (fr_X6_write h2) (fun x j hx => hx)
      exact hO.trans (hk_12 hF)
    · have hq := b1
      obtain ⟨r5, h4, hF⟩ := ob1S hF
      rcases (ifX hF).symm with ⟨b6, hF⟩ | ⟨b6, hF⟩
      · have hq := b6
        exact hO.trans (ih hF)
      · have hq := b6
        obtain ⟨r8, h7, hF⟩ := ob1S hF
        exact hO.trans (ih hF)
set_option maxRecDepth 100000 in
set_option maxHeartbeats 4000000 in
theorem fw_X6_fillMostCounted_12 {fu : Nat} {M' : Mm} : ∀ (n : Nat) {x1 : Int32} {M : Mm}, F_X6_fillMostCounted_12 fu n M x1 = some M' → Out P_X6_fillMostCounted M M' := by
  intro n
  induction n with
  | zero =>
    intro x1 M hF
    cases hF
  | succ n ih =>
    intro x1 M hF
    have hO : Out P_X6_fillMostCounted M M := Out.rf
    unfold F_X6_fillMostCounted_12 at hF
    rcases ifX hF with ⟨b1, hF⟩ | ⟨b1, hF⟩
    · have hq := b1
      cases hF; exact hO
    · have hq := b1
      exact hO.trans (fw_X6_fillMostCounted_20 (hk_12 := ih) _ hF)
set_option maxRecDepth 100000 in
set_option maxHeartbeats 4000000 in
theorem fr_X6_fillMostCounted {fu : Nat} {M : Mm} {M' : Mm} (hF : F_X6_fillMostCounted fu M = some M') : Out P_X6_fillMostCounted M M' := by
  have hO : Out P_X6_fillMostCounted M M := Out.rf
  unfold F_X6_fillMostCounted at hF
  obtain ⟨y1, ey1, hF⟩ := lt1E hF
  exact hO.trans (fw_X6_fillMostCounted_12 _ hF)
abbrev P_X6_counted : Nat → Nat → Prop := fun x j => (x = 0 ∧ j = 8) ∨ (x = 80) ∨ (x = 81)
set_option maxRecDepth 100000 in
set_option maxHeartbeats 4000000 in
theorem fw_X6_counted_121 {fu : Nat} {r : Int32} {M' : Mm} {M : Mm} (hF : F_X6_counted_121 fu M = some (r, M')) : Out P_X6_counted M M' := by
  have hO : Out P_X6_counted M M := Out.rf
  unfold F_X6_counted_121 at hF
  obtain ⟨r2, M3, h1, hF⟩ := ob2S hF
  have hO := hO.mono (fr_X6_found h1) (fun x j hx => hx.elim (fun h => Or.inl h) (fun hx => Or.inr (Or.inl hx)))
  cases hF; exact hO
set_option maxRecDepth 100000 in
set_option maxHeartbeats 4000000 in
theorem fw_X6_counted_77 {fu : Nat} {r : Int32} {M' : Mm} : ∀ (n : Nat) {c2 : Nat} {x3 : Int32} {x4 : Int32} {x5 : Int32} {M : Mm}, F_X6_counted_77 fu n M c2 x3 x4 x5 = some (r, M') → Out P_X6_counted M M' := by
  intro n
  induction n with
  | zero =>
    intro c2 x3 x4 x5 M hF
    cases hF
  | succ n ih =>
    intro c2 x3 x4 x5 M hF
    have hO : Out P_X6_counted M M := Out.rf
    unfold F_X6_counted_77 at hF
    rcases ifX hF with ⟨b1, hF⟩ | ⟨b1, hF⟩
    · have hq := b1
      cases hF; exact hO
    · have hq := b1
      obtain ⟨r3, h2, hF⟩ := ob1S hF
      obtain ⟨r5, h4, hF⟩ := ob1S hF
      rcases ifX hF with ⟨b6, hF⟩ | ⟨b6, hF⟩
      · have hq := b6
        exact hO.trans (fw_X6_counted_121 hF)
      · have hq := b6
        obtain ⟨r8, h7, hF⟩ := ob1S hF
        rcases ifX hF with ⟨b9, hF⟩ | ⟨b9, hF⟩
        · have hq := b9
          obtain ⟨r11, h10, hF⟩ := ob1S hF
          exact hO.trans (ih hF)
        · have hq := b9
          exact hO.trans (fw_X6_counted_121 hF)
set_option maxRecDepth 100000 in
set_option maxHeartbeats 4000000 in
theorem fr_X6_counted {fu : Nat} {M : Mm} {x1 : Int32} {r : Int32} {M' : Mm} (hF : F_X6_counted fu M x1 = some (r, M')) : Out P_X6_counted M M' := by
  have hO : Out P_X6_counted M M := Out.rf
  unfold F_X6_counted at hF
  obtain ⟨r2, h1, hF⟩ := ob1S hF
  cases r2 with
  | none =>
    have hF := op1N hF
    cases hF; exact hO
  | some c3 =>
    obtain ⟨g4, hF⟩ := ifO (op1C hF)
    have g4 := Decidable.not_not.mp g4
    rcases (ifX hF).symm with ⟨b5, hF⟩ | ⟨b5, hF⟩
    · have hq := b5
      rcases (ifX hF).symm with ⟨b6, hF⟩ | ⟨b6, hF⟩
      · have hq := b6
        rcases ifX hF with ⟨b7, hF⟩ | ⟨b7, hF⟩
        · have hq := b7
          obtain ⟨M9, h8, hF⟩ := ob1S hF
          have hO := hO.mono (fr_X2_foreseeLiving h8) (fun x j hx => Or.inr (Or.inr (hx)))
          exact hO.trans (fw_X6_counted_77 _ hF)
        · have hq := b7
          obtain ⟨r11, M12, h10, hF⟩ := ob2S hF
          have hO := hO.mono (fr_X6_found h10) (fun x j hx => hx.elim (fun h => Or.inl h) (fun hx => Or.inr (Or.inl hx)))
          cases hF; exact hO
      · have hq := b6
        obtain ⟨r14, M15, h13, hF⟩ := ob2S hF
        have hO := hO.mono (fr_X6_found h13) (fun x j hx => hx.elim (fun h => Or.inl h) (fun hx => Or.inr (Or.inl hx)))
        cases hF; exact hO
    · have hq := b5
      cases hF; exact hO
abbrev P_X6_tellChance : Nat → Nat → Prop := fun x j => (x = 0 ∧ j = 10) ∨ (x = 0 ∧ j = 11)
set_option maxRecDepth 100000 in
set_option maxHeartbeats 4000000 in
theorem fr_X6_tellChance {fu : Nat} {M : Mm} {x1 : Int64} {x3 : Int64} {M' : Mm} (hF : F_X6_tellChance fu M x1 x3 = some M') : Out P_X6_tellChance M M' := by
  have hO : Out P_X6_tellChance M M := Out.rf
  unfold F_X6_tellChance at hF
  obtain ⟨r2, h1, hF⟩ := ob1S hF
  rcases ifX hF with ⟨b3, hF⟩ | ⟨b3, hF⟩
  · have hq := b3
    cases hF; exact hO
  · have hq := b3
    obtain ⟨n4, hF⟩ := ifO hF
    obtain ⟨M5, hO, hF⟩ := lt1W (P := fun q => Out P_X6_tellChance M q) hF (by first | exact hO.pI (by simp [P_X6_tellChance]) | exact hO.pL (by simp [P_X6_tellChance]))
    obtain ⟨n6, hF⟩ := ifO hF
    obtain ⟨M7, hO, hF⟩ := lt1W (P := fun q => Out P_X6_tellChance M q) hF (by first | exact hO.pI (by simp [P_X6_tellChance]) | exact hO.pL (by simp [P_X6_tellChance]))
    cases hF; exact hO
abbrev P_X6_odds : Nat → Nat → Prop := fun x j => (x = 0 ∧ j = 10) ∨ (x = 0 ∧ j = 11) ∨ (x = 77 ∧ j = 2) ∨ (x = 78) ∨ (x = 79)
set_option maxRecDepth 100000 in
set_option maxHeartbeats 4000000 in
theorem fr_X6_odds {fu : Nat} {M : Mm} {x1 : Int32} {x2 : Int32} {x3 : Int32} {r : Int32} {M' : Mm} (hF : F_X6_odds fu M x1 x2 x3 = some (r, M')) : Out P_X6_odds M M' := by
  have hO : Out P_X6_odds M M := Out.rf
  unfold F_X6_odds at hF
  obtain ⟨r2, h1, hF⟩ := ob1S hF
  rcases ifX hF with ⟨b3, hF⟩ | ⟨b3, hF⟩
  · have hq := b3
    cases hF; exact hO
  · have hq := b3
    rcases ifX hF with ⟨b4, hF⟩ | ⟨b4, hF⟩
    · have hq := b4
      cases hF; exact hO
    · have hq := b4
      rcases ifX hF with ⟨b5, hF⟩ | ⟨b5, hF⟩
      · have hq := b5
        cases hF; exact hO
      · have hq := b5
        rcases ifX hF with ⟨b6, hF⟩ | ⟨b6, hF⟩
        · have hq := b6
          cases hF; exact hO
        · have hq := b6
          rcases ifX hF with ⟨b7, hF⟩ | ⟨b7, hF⟩
          · have hq := b7
            obtain ⟨M9, h8, hF⟩ := ob1S hF
            have hO := hO.mono (fr_X0_weigh h8) (fun x j hx => hx.elim (fun h => Or.inr (Or.inr (Or.inl h))) (fun hx => hx.elim (fun h => Or.inr (Or.inr (Or.inr (Or.inl h)))) (fun hx => Or.inr (Or.inr (Or.inr (Or.inr (hx)))))))
            obtain ⟨r11, h10, hF⟩ := ob1S hF
            obtain ⟨M13, h12, hF⟩ := ob1S hF
            have hO := hO.mono (fr_X6_tellChance h12) (fun x j hx => hx.elim (fun h => Or.inl h) (fun hx => Or.inr (Or.inl hx)))
            cases hF; exact hO
          · have hq := b7
            cases hF; exact hO
abbrev P_X6_mid : Nat → Nat → Prop := fun x j => (x = 0 ∧ j = 10) ∨ (x = 0 ∧ j = 11) ∨ (x = 77 ∧ j = 2) ∨ (x = 78) ∨ (x = 79)
set_option maxRecDepth 100000 in
set_option maxHeartbeats 4000000 in
theorem fr_X6_mid {fu : Nat} {M : Mm} {x1 : Int32} {x2 : Int32} {x3 : Int32} {r : Int32} {M' : Mm} (hF : F_X6_mid fu M x1 x2 x3 = some (r, M')) : Out P_X6_mid M M' := by
  have hO : Out P_X6_mid M M := Out.rf
  unfold F_X6_mid at hF
  obtain ⟨r2, h1, hF⟩ := ob1S hF
  rcases ifX hF with ⟨b3, hF⟩ | ⟨b3, hF⟩
  · have hq := b3
    cases hF; exact hO
  · have hq := b3
    rcases ifX hF with ⟨b4, hF⟩ | ⟨b4, hF⟩
    · have hq := b4
      cases hF; exact hO
    · have hq := b4
      rcases ifX hF with ⟨b5, hF⟩ | ⟨b5, hF⟩
      · have hq := b5
        cases hF; exact hO
      · have hq := b5
        rcases ifX hF with ⟨b6, hF⟩ | ⟨b6, hF⟩
        · have hq := b6
          cases hF; exact hO
        · have hq := b6
          rcases ifX hF with ⟨b7, hF⟩ | ⟨b7, hF⟩
          · have hq := b7
            obtain ⟨M9, h8, hF⟩ := ob1S hF
            have hO := hO.mono (fr_X0_weigh h8) (fun x j hx => hx.elim (fun h => Or.inr (Or.inr (Or.inl h))) (fun hx => hx.elim (fun h => Or.inr (Or.inr (Or.inr (Or.inl h)))) (fun hx => Or.inr (Or.inr (Or.inr (Or.inr (hx)))))))
            obtain ⟨r11, h10, hF⟩ := ob1S hF
            obtain ⟨M13, h12, hF⟩ := ob1S hF
            have hO := hO.mono (fr_X6_tellChance h12) (fun x j hx => hx.elim (fun h => Or.inl h) (fun hx => Or.inr (Or.inl hx)))
            cases hF; exact hO
          · have hq := b7
            cases hF; exact hO
abbrev P_X6_lots : Nat → Nat → Prop := fun x j => (x = 24 ∧ j = 2) ∨ (x = 24 ∧ j = 3) ∨ (x = 28) ∨ (x = 29) ∨ (x = 32) ∨ (x = 33) ∨ (x = 34)
set_option maxRecDepth 100000 in
set_option maxHeartbeats 4000000 in
theorem fw_X6_lots_111 {fu : Nat} {r : Int32} {M' : Mm} {k72 : Mm → Int32 → Int32 → Int64 → Int32 → Option (Int32 × Mm)} (hk_72 : ∀ {x1 : Int32} {x2 : Int32} {x4 : Int64} {x6 : Int32} {M : Mm}, k72 M x1 x2 x4 x6 = some (r, M') → Out P_X6_lots M M') {x1 : Int32} {x2 : Int32} {x4 : Int64} {x6 : Int32} {t1 : Int32} {M : Mm} (hF : F_X6_lots_111 fu k72 M x1 x2 x4 x6 t1 = some (r, M')) : Out P_X6_lots M M' := by
  have hO : Out P_X6_lots M M := Out.rf
  unfold F_X6_lots_111 at hF
  obtain ⟨M2, h1, hF⟩ := ob1S hF
  have hO := hO.mono (fr_X2_act h1) (fun x j hx => hx.elim (fun h => Or.inl h) (fun hx => hx.elim (fun h => Or.inr (Or.inl h)) (fun hx => hx.elim (fun h => Or.inr (Or.inr (Or.inr (Or.inr (Or.inr (Or.inr (h))))))) (fun hx => hx.elim (fun h => Or.inr (Or.inr (Or.inl h))) (fun hx => hx.elim (fun h => Or.inr (Or.inr (Or.inr (Or.inl h)))) (fun hx => hx.elim (fun h => Or.inr (Or.inr (Or.inr (Or.inr (Or.inl h))))) (fun hx => Or.inr (Or.inr (Or.inr (Or.inr (Or.inr (Or.inl hx))))))))))))
  exact hO.trans (hk_72 hF)
set_option maxRecDepth 100000 in
set_option maxHeartbeats 4000000 in
theorem fw_X6_lots_72 {fu : Nat} {r : Int32} {M' : Mm} : ∀ (n : Nat) {x1 : Int32} {x2 : Int32} {x4 : Int64} {x6 : Int32} {M : Mm}, F_X6_lots_72 fu n M x1 x2 x4 x6 = some (r, M') → Out P_X6_lots M M' := by
  intro n
  induction n with
  | zero =>
    intro x1 x2 x4 x6 M hF
    cases hF
  | succ n ih =>
    intro x1 x2 x4 x6 M hF
    have hO : Out P_X6_lots M M := Out.rf
    unfold F_X6_lots_72 at hF
    rcases ifX hF with ⟨b1, hF⟩ | ⟨b1, hF⟩
    · have hq := b1
      obtain ⟨r3, h2, hF⟩ := ob1S hF
      obtain ⟨r5, h4, hF⟩ := ob1S hF
      cases hF; exact hO
    · have hq := b1
      obtain ⟨y6, ey6, hF⟩ := lt1E hF
      rcases ifX hF with ⟨b7, hF⟩ | ⟨b7, hF⟩
      · have hq := b7
        exact hO.trans (fw_X6_lots_111 (hk_72 := ih) hF)
      · have hq := b7
        exact hO.trans (fw_X6_lots_111 (hk_72 := ih) hF)
set_option maxRecDepth 100000 in
set_option maxHeartbeats 4000000 in
theorem fr_X6_lots {fu : Nat} {M : Mm} {x1 : Int32} {x2 : Int32} {x3 : Int32} {r : Int32} {M' : Mm} (hF : F_X6_lots fu M x1 x2 x3 = some (r, M')) : Out P_X6_lots M M' := by
  have hO : Out P_X6_lots M M := Out.rf
  unfold F_X6_lots at hF
  rcases ifX hF with ⟨b1, hF⟩ | ⟨b1, hF⟩
  · have hq := b1
    cases hF; exact hO
  · have hq := b1
    rcases ifX hF with ⟨b2, hF⟩ | ⟨b2, hF⟩
    · have hq := b2
      cases hF; exact hO
    · have hq := b2
      rcases ifX hF with ⟨b3, hF⟩ | ⟨b3, hF⟩
      · have hq := b3
        cases hF; exact hO
      · have hq := b3
        rcases ifX hF with ⟨b4, hF⟩ | ⟨b4, hF⟩
        · have hq := b4
          cases hF; exact hO
        · have hq := b4
          rcases ifX hF with ⟨b5, hF⟩ | ⟨b5, hF⟩
          · have hq := b5
            cases hF; exact hO
          · have hq := b5
            rcases ifX hF with ⟨b6, hF⟩ | ⟨b6, hF⟩
            · have hq := b6
              rcases (ifX hF).symm with ⟨b7, hF⟩ | ⟨b7, hF⟩
              · have hq := b7
                rcases ifX hF with ⟨b8, hF⟩ | ⟨b8, hF⟩
                · have hq := b8
                  exact hO.trans (fw_X6_lots_72 _ hF)
                · have hq := b8
                  cases hF; exact hO
              · have hq := b7
                cases hF; exact hO
            · have hq := b6
              cases hF; exact hO
