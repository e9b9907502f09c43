/-! the law's own row, the kept north 0, the north: what stays, what a call makes of it -/
def SV (k : Ns) (M : Mm) : Prop := M.1 86 32 = nI k.2.2.2 ∧ ∀ i, i < vMen k.1 → M.1 86 (6 + i) = nI (vBulk k.1 i) ∧ M.1 86 (12 + i) = nI (vShade k.1 i) ∧ 1 ≤ vBulk k.1 i
def IV (k s : Ns) (M : Mm) : Prop := (okN k ∧ 0 < vMen k.1 ∧ k.2.2.1 = 0 ∧ CN 35 k M ∧ SV k M) ∧ okN s ∧ s.1 = k.1 ∧ s.2.2.2 = k.2.2.2 ∧ CN 24 s M
theorem SV.cg {k : Ns} {M M' : Mm} (h : SV k M) (g : M'.1 86 = M.1 86) : SV k M' := by
  unfold SV
  rw [g]
  exact h
theorem IV.out {P : Nat → Nat → Prop} {k s : Ns} {M M' : Mm} (h : IV k s M) (o : Out P M M') (hp : ∀ x j, P x j → ¬ (24 ≤ x ∧ x ≤ 45) ∧ x ≠ 86) : IV k s M' := by
  obtain ⟨⟨a1, a2, a3, a4, a5⟩, b1, b2, b3, b4⟩ := h
  exact ⟨⟨a1, a2, a3, a4.cg fun x h1 h2 => o.f fun j q => (hp x j q).1 (by omega), a5.cg (o.f fun j q => (hp 86 j q).2 rfl)⟩, b1, b2, b3, b4.cg fun x h1 h2 => o.f fun j q => (hp x j q).1 (by omega)⟩
/-- a call that writes the north -/
theorem IV.north {P : Nat → Nat → Prop} {k s s' : Ns} {M M' : Mm} (h : IV k s M) (o : Out P M M') (hp : ∀ x j, P x j → ¬ (35 ≤ x ∧ x ≤ 45) ∧ x ≠ 86) (b1 : okN s') (b2 : s'.1 = k.1) (b3 : s'.2.2.2 = k.2.2.2) (b4 : CN 24 s' M') : IV k s' M' := by
  obtain ⟨⟨a1, a2, a3, a4, a5⟩, -⟩ := h
  exact ⟨⟨a1, a2, a3, a4.cg fun x h1 h2 => o.f fun j q => (hp x j q).1 (by omega), a5.cg (o.f fun j q => (hp 86 j q).2 rfl)⟩, b1, b2, b3, b4⟩
theorem IV.v {k s : Ns} {M : Mm} (h : IV k s M) : okV (cur s) ∧ CV (cur s) M ∧ vMen (cur s) = vMen k.1 ∧ 0 < vMen (cur s) ∧ vMen k.1 ≤ 6 := by
  have b := (cur_sb s).1
  rw [h.2.2.1] at b
  exact ⟨h.2.1.v, h.2.2.2.2.cv, b, by rw [b]; exact h.1.2.1, h.1.1.1.1⟩
theorem cur_0 {k : Ns} (h : k.2.2.1 = 0) : cur k = wr k.2.2.2 k.1 := by
  unfold cur
  rw [h]
  rfl
theorem m_day {fu : Nat} (hf : 1000 ≤ fu) {k s : Ns} {M : Mm} (h : IV k s M) (h60 : s.2.2.1 < 60) : ∃ M', F_X6_day fu M = some (nI (pc (whoN (cur (nxt s (0, 0, 0))) 1 0)), M') ∧ IV k (nxt s (0, 0, 0)) M' ∧ Out pN M M' := by
  obtain ⟨hv, hcv, hm, h0, h6⟩ := h.v
  have hs := h.2.1
  have hc := h.2.2.2.2
  have hq : dOK (vMen s.1) (0, 0, 0) := ⟨by show 0 ≤ 3; omega, by show 0 < 6; omega, by show 0 ≤ 9; omega, by rw [h.2.2.1]; exact h.1.2.1⟩
  obtain ⟨M1, a1, a2, a3⟩ := act_C hf hs hc hq h60
  have hs' := nxt_ok hs hq h60
  refine ⟨M1, ?_, h.north a3 (fun x j q => by unfold pN at q; omega) hs' h.2.2.1 h.2.2.2.1 a2, a3⟩
  unfold F_X6_day
  rw [if_neg (by rw [men0_C hv hcv]; omega), hc.2.2.2.1, L60, if_pos (nI_lt h60 (by omega)), L0]
  rw [show F_X2_act fu M 24 (nI 0) (nI 0) (nI 0) = some M1 from a1, ob1_s, living_C hf hs'.v a2.cv, ob1_s, bc_who hs'.v, ob1_s]
theorem m_shade {fu : Nat} (hf : 1000 ≤ fu) {k s : Ns} {M : Mm} (h : IV k s M) (h60 : s.2.2.1 < 60) {i c : Nat} (hi : i < vMen k.1) (hc9 : c ≤ 9) : ∃ M', F_X6_shade fu M (nI i) (nI c) = some (nI (vShade (cur s) i), M') ∧ IV k (nxt s (2, i, c)) M' ∧ Out pN M M' := by
  obtain ⟨hv, hcv, hm, h0, h6⟩ := h.v
  have hs := h.2.1
  have hc := h.2.2.2.2
  have hq : dOK (vMen s.1) (2, i, c) := ⟨by show 2 ≤ 3; omega, by show i < 6; omega, hc9, by rw [h.2.2.1]; exact h.1.2.1⟩
  obtain ⟨M1, a1, a2, a3⟩ := act_C hf hs hc hq h60
  refine ⟨M1, ?_, h.north a3 (fun x j q => by unfold pN at q; omega) (nxt_ok hs hq h60) h.2.2.1 h.2.2.2.1 a2, a3⟩
  unfold F_X6_shade
  rw [isMan_C1 hv hcv (by omega), ob1_s, if_neg one_ne, if_neg (nI_pos (by omega)), L9, if_pos (nI_le (by omega) (by omega)), hc.2.2.2.1, L60, if_pos (nI_lt h60 (by omega)), rd29 (by omega), ob1_s, (hcv.2.2.2.2 i (by omega)).2.2.2, show F_X2_act fu M 24 2 (nI i) (nI c) = some M1 from a1, ob1_s]
theorem m_snow {fu : Nat} (hf : 1000 ≤ fu) {k s : Ns} {M : Mm} (h : IV k s M) (h60 : s.2.2.1 < 60) {i c : Nat} (hi : i < vMen k.1) (hc1 : 1 ≤ c) (hc9 : c ≤ 9) (hb : 0 < vBulk (cur s) i) : ∃ M', F_X6_snow fu M (nI i) (nI c) = some (nI (min 99 (vBulk (cur s) i + c)), M') ∧ IV k (nxt s (3, i, c)) M' ∧ Out pN M M' := by
  obtain ⟨hv, hcv, hm, h0, h6⟩ := h.v
  have hs := h.2.1
  have hc := h.2.2.2.2
  obtain ⟨g1, g2, g3, g4⟩ := hv.2.2.2.2.2 i (by omega)
  have hq : dOK (vMen s.1) (3, i, c) := ⟨by show 3 ≤ 3; omega, by show i < 6; omega, hc9, by rw [h.2.2.1]; exact h.1.2.1⟩
  obtain ⟨M1, a1, a2, a3⟩ := act_C hf hs hc hq h60
  have hi' : i < vMen (cur (nxt s (3, i, c))) := by rw [(cur_sb _).1]; show i < vMen s.1; rw [h.2.2.1]; exact hi
  have e28 : M1.1 28 i = nI (min 99 (vBulk (cur s) i + c)) := by
    rw [(a2.cv.2.2.2.2 i hi').2.2.1, nxt_cur]
    exact congrArg nI (if_pos rfl)
  refine ⟨M1, ?_, h.north a3 (fun x j q => by unfold pN at q; omega) (nxt_ok hs hq h60) h.2.2.1 h.2.2.2.1 a2, a3⟩
  have e1 : ¬ nI c < 1 := by rw [L1]; exact nI_nlt (by omega) (by omega)
  have e2 : nI c ≤ 9 := by rw [L9]; exact nI_le (by omega) (by omega)
  have e3 : ¬ nI (vBulk (cur s) i) = 0 := by rw [L0, eqN (by omega) (by omega)]; omega
  unfold F_X6_snow
  rw [isMan_C1 hv hcv (by omega), ob1_s, if_neg one_ne, if_neg e1, if_pos e2, rd28 (by omega), ob1_s, (hcv.2.2.2.2 i (by omega)).2.2.1, if_neg e3, hc.2.2.2.1, L60, if_pos (nI_lt h60 (by omega)), show F_X2_act fu M 24 3 (nI i) (nI c) = some M1 from a1, ob1_s, rd28 (by omega), ob1_s, e28]
theorem m_on {fu : Nat} (hf : 1000 ≤ fu) {k s : Ns} {M : Mm} (h : IV k s M) : ∃ M', F_X6_on fu M 0 = some (0, M') ∧ IV k k M' ∧ Out (fun x _ => 24 ≤ x ∧ x ≤ 34) M M' := by
  obtain ⟨M1, a1, a2, a3⟩ := become_C (fu := fu) hf (show kd 24 = 11 by decide) (show kd 35 = 11 by decide) (by omega) h.1.1 h.1.2.2.2.1
  refine ⟨M1, ?_, h.north a3 (fun x j q => by omega) h.1.1 rfl rfl a2, a3.wk fun x j q => by omega⟩
  have m1 : ¬ M.1 35 0 = 0 := by
    have h0 := h.1.2.1
    have h6 := h.1.1.1.1
    rw [h.1.2.2.2.1.1, L0, eqN (by omega) (by omega)]
    omega
  unfold F_X6_on
  rw [show (0 : Int32) = nI 0 from rfl, keptOf_C1 (r := 0) (by omega), ob1_s, op1_s, show 35 + 11 * 0 = 35 from rfl, if_neg (by decide), if_neg (by rw [← L0]; exact m1), a1, ob1_s, a2.2.2.2.1, h.1.2.2.1]
theorem m_undo {fu : Nat} (hf : 1000 ≤ fu) {k s : Ns} {M : Mm} (h : IV k s M) : ∃ M', F_X6_undo fu M 0 = some (nI s.2.2.1, M') ∧ IV k (s.1, s.2.1, 0, s.2.2.2) M' ∧ Out (fun x j => (x = 24 ∧ (j = 2 ∨ j = 3)) ∨ x = 28 ∨ x = 29) M M' := by
  have hs := h.2.1
  have hc := h.2.2.2.2
  have hD := hs.2.2.1
  obtain ⟨M1, a1, a2, a3⟩ := undoFrom_C hf hs hc (N := 0) (by omega) (by rw [h.2.2.1]; exact h.1.2.1)
  refine ⟨M1, ?_, h.north a3 (fun x j q => by omega) (hs.cut (Nat.zero_le _)) h.2.2.1 h.2.2.2.1 a2, a3⟩
  unfold F_X6_undo
  rw [show (0 : Int32) = nI 0 from rfl, hc.2.2.2.1, if_neg (show ¬ nI 0 < nI 0 from nI_nlt (Nat.le_refl _) (by decide)), if_pos (nI_le (by omega) (by omega)), pk_sub (by omega), a1, ob1_s]
  rfl
theorem m_keep {fu : Nat} (hf : 1000 ≤ fu) {s : Ns} {M : Mm} (hs : okN s) (hc : CN 24 s M) (h0 : 0 < vMen s.1) : ∃ M', F_X6_keep fu M 0 = some (nI s.2.2.1, M') ∧ CN 35 s M' ∧ Out (fun x _ => 35 ≤ x ∧ x ≤ 45) M M' := by
  obtain ⟨M1, a1, a2, a3⟩ := become_C (fu := fu) hf (show kd 35 = 11 by decide) (show kd 24 = 11 by decide) (by omega) hs hc
  refine ⟨M1, ?_, a2, a3.wk fun x j q => by omega⟩
  unfold F_X6_keep
  rw [show (0 : Int32) = nI 0 from rfl, keptOf_C1 (r := 0) (by omega), ob1_s, op1_s, show 35 + 11 * 0 = 35 from rfl, if_neg (by decide), if_neg (by rw [← L0, men0_C hs.v hc.cv, cur0]; omega), a1, ob1_s, a2.2.2.2.1]
theorem nxt_n (s : Ns) (q : Nat × Nat × Nat) : (nxt s q).2.2.1 = s.2.2.1 + 1 := rfl
