/-! a text is read: sign by sign, from its beginning to its end -/
theorem kindBy_C {fu : Nat} {M : Mm} (c : Int32) : F_X3_kindBy fu M c = some (match kindN c with | none => -9 | some k => nI k) := by
  unfold F_X3_kindBy kindN
  by_cases h1 : c = 104
  · rw [if_pos h1, if_pos h1]; rfl
  · rw [if_neg h1, if_neg h1]
    by_cases h2 : c = 105
    · rw [if_pos h2, if_pos h2]; rfl
    · rw [if_neg h2, if_neg h2]
      by_cases h3 : c = 108
      · rw [if_pos h3, if_pos h3]; rfl
      · rw [if_neg h3, if_neg h3]
        by_cases h4 : c = 109
        · rw [if_pos h4, if_pos h4]; rfl
        · rw [if_neg h4, if_neg h4]
          by_cases h5 : c = 115
          · rw [if_pos h5, if_pos h5]; rfl
          · rw [if_neg h5, if_neg h5]
            by_cases h6 : c = 119
            · rw [if_pos h6, if_pos h6]; rfl
            · rw [if_neg h6, if_neg h6]
theorem kindOf_X {fu : Nat} {M : Mm} (c : Int32) : F_X7_kindOf fu M c = some (match kindN c with | none => -9 | some k => nI k) := kindBy_C (fu := fu) (M := M) c
theorem kindN_le {c : Int32} {k : Nat} (h : kindN c = some k) : k ≤ 5 := by
  unfold kindN at h
  repeat' (split at h)
  all_goals first | (injection h with h; omega) | cases h
theorem let_C {fu : Nat} {M : Mm} {q : RS} (ho : okR q) (hc : CS q M) (h10 : rS q = 10) (c : Int32) : (letT q c = none ∧ F_X3_takesLetter fu M c = some (0, M)) ∨ ∃ q', letT q c = some q' ∧ ∃ M', F_X3_takesLetter fu M c = some (1, M') ∧ Out pS M M' ∧ CS q' M' ∧ okR q' := by
  obtain ⟨s, m, r, su, k, b, sh, v⟩ := q
  obtain ⟨o1, o2, o3, o4, o5, o6, o7, o8, o9, o10⟩ := ho
  obtain ⟨c1, c2, c3, c4, c5, c6, c7, c8⟩ := hc
  simp only [rS, rM, rR, rSu, rK, rB, rSh, rV] at *
  subst h10
  unfold F_X3_takesLetter letT
  rw [kindBy_C]
  cases hk : kindN c with
  | none => exact Or.inl ⟨rfl, rfl⟩
  | some k0 =>
    have hk5 := kindN_le hk
    show ((if m < 6 then some (11, m, r, su, setf k m k0, b, sh, v) else none) = none ∧ ob1 (some (nI k0)) _ = _) ∨ ∃ q', (if m < 6 then some (11, m, r, su, setf k m k0, b, sh, v) else none) = some q' ∧ _
    rw [ob1_s, if_neg (neg9' (by omega)), c2, L6]
    by_cases hm : m < 6
    · rw [if_pos hm, if_pos (nI_lt hm (by omega)), wr70 hm, ob1_s, lt1_s]
      refine Or.inr ⟨_, rfl, _, rfl, ((Out.rf).pI (by unfold pS; omega)).pI (by unfold pS; omega), ?_, ?_⟩
      · refine ⟨pI_s, by rw [pI_n (by omega), pI_n (by omega)]; exact c2, fun _ => by rw [pI_n (by omega), pI_n (by omega)]; exact c3 (by omega), fun j h1 h2 => by rw [pI_n (by omega), pI_n (by omega)]; exact c4 j h1 (by omega), fun i hi => ?_, fun _ => ?_, fun h => absurd h (by show ¬ 12 ≤ 11; omega), fun h => absurd h (by show ¬ 14 ≤ 11; omega)⟩
        · have hi : i < m := hi
          rw [pI_n (by omega), pI_n (by omega), pI_n (by omega), pI_n (by omega), pI_n (by omega), pI_n (by omega), pI_n (by omega), pI_n (by omega)]
          show _ = nI (setf k m k0 i) ∧ _
          rw [setf_n (by omega)]
          exact c5 i hi
        · show (pI (pI M 70 m (nI k0)) 68 0 11).1 70 m = nI (setf k m k0 m)
          rw [pI_n (by omega), pI_s, setf_s]
      · refine ⟨by show 11 ≤ 14; omega, o2, o3, fun _ => o4 (by omega), o5, fun i hi => ?_, fun _ => ⟨hm, ?_⟩, fun h => absurd h (by show ¬ 12 ≤ 11; omega), fun h => absurd h (by show ¬ 11 = 12; omega), fun h => absurd h (by show ¬ 14 ≤ 11; omega)⟩
        · have hi : i < m := hi
          show setf k m k0 i ≤ 5 ∧ _
          rw [setf_n (by omega)]
          exact o6 i hi
        · show setf k m k0 m ≤ 5
          rw [setf_s]; exact hk5
    · rw [if_neg hm, if_neg (nI_nlt (by omega) (by omega))]
      exact Or.inl ⟨rfl, rfl⟩
theorem takes_C {fu : Nat} {M : Mm} {q : RS} (ho : okR q) (hc : CS q M) (c : Int32) : (takeF q c = none ∧ ∃ M', F_X3_takes fu M c = some (0, M') ∧ Out pS M M') ∨ ∃ q', takeF q c = some q' ∧ ∃ M', F_X3_takes fu M c = some (1, M') ∧ Out pS M M' ∧ CS q' M' ∧ okR q' := by
  have ho' := ho
  have hc' := hc
  have s0 : (M.1 68 0 = (0 : Int32)) = (rS q = 0) := stE hc.1 ho.1 (n := 0) (by decide)
  have s10 : (M.1 68 0 = (10 : Int32)) = (rS q = 10) := stE hc.1 ho.1 (n := 10) (by decide)
  have e16 : ∀ c, F_X3_takes_16 fu M c = (if c = (32 : Int32) then some ((1 : Int32), M) else if M.1 68 0 = 0 then ob2 (F_X3_takesSun fu M c) (fun r8 M9 => if r8 = 0 then some ((0 : Int32), M9) else some ((1 : Int32), M9)) else ob2 (F_X3_takesLetter fu M c) (fun r4 M5 => if r4 = 0 then some ((0 : Int32), M5) else some ((1 : Int32), M5))) := fun _ => rfl
  unfold F_X3_takes takeF
  by_cases h0 : rS q = 0
  · rw [if_pos (show M.1 68 0 = (0 : Int32) by rw [s0]; exact h0), if_pos h0, e16]
    by_cases h32 : c = 32
    · rw [if_pos h32, if_pos h32]
      exact Or.inr ⟨q, rfl, M, rfl, Out.rf, hc, ho⟩
    · rw [if_neg h32, if_neg h32, if_pos (show M.1 68 0 = (0 : Int32) by rw [s0]; exact h0)]
      unfold F_X3_takesSun
      by_cases h122 : c = 122
      · rw [if_pos h122, if_pos h122, lt1_s, ob2_s, if_neg one_ne]
        obtain ⟨s, m, r, su, k, b, sh, v⟩ := q
        obtain ⟨o1, o2, o3, o4, o5, o6, o7, o8, o9, o10⟩ := ho
        obtain ⟨c1, c2, c3, c4, c5, c6, c7, c8⟩ := hc
        simp only [rS, rM, rR, rSu, rK, rB, rSh, rV] at *
        refine Or.inr ⟨_, rfl, _, rfl, (Out.rf).pI (by unfold pS; omega), ?_, ?_⟩
        · refine ⟨pI_s, by rw [pI_n (by omega)]; exact c2, fun h => absurd h (by show ¬ 10 ≤ 1; omega), fun j h1 h2 => absurd h2 (by show ¬ j + 1 < 1; omega), fun i hi => ?_, fun h => absurd h (by show ¬ 11 ≤ 1; omega), fun h => absurd h (by show ¬ 12 ≤ 1; omega), fun h => absurd h (by show ¬ 14 ≤ 1; omega)⟩
          rw [pI_n (by omega), pI_n (by omega), pI_n (by omega), pI_n (by omega)]
          exact c5 i hi
        · exact ⟨by show 1 ≤ 14; omega, o2, o3, fun h => absurd h (by show ¬ 10 ≤ 1; omega), o5, o6, fun h => absurd h (by show ¬ 11 ≤ 1; omega), fun h => absurd h (by show ¬ 12 ≤ 1; omega), fun h => absurd h (by show ¬ 1 = 12; omega), fun h => absurd h (by show ¬ 14 ≤ 1; omega)⟩
      · rw [if_neg h122, if_neg h122]
        exact Or.inl ⟨rfl, M, rfl, Out.rf⟩
  · rw [if_neg (show ¬ M.1 68 0 = (0 : Int32) by rw [s0]; exact h0), if_neg h0]
    by_cases h10 : rS q = 10
    · rw [if_pos (show M.1 68 0 = (10 : Int32) by rw [s10]; exact h10), if_pos h10, e16]
      by_cases h32 : c = 32
      · rw [if_pos h32, if_pos h32]
        exact Or.inr ⟨q, rfl, M, rfl, Out.rf, hc, ho⟩
      · rw [if_neg h32, if_neg h32, if_neg (show ¬ M.1 68 0 = (0 : Int32) by rw [s0]; exact h0)]
        rcases let_C (fu := fu) ho hc h10 c with ⟨e1, e2⟩ | ⟨q', e1, M', e2, e3, e4, e5⟩
        · rw [e1, e2]
          exact Or.inl ⟨rfl, M, rfl, Out.rf⟩
        · rw [e1, e2]
          exact Or.inr ⟨q', rfl, M', rfl, e3, e4, e5⟩
    · rw [if_neg (show ¬ M.1 68 0 = (10 : Int32) by rw [s10]; exact h10), if_neg h10]
      rcases dgF_c c with ⟨d1, d2, d3⟩ | ⟨d, hd, rfl⟩
      · rw [d1]
        refine Or.inl ⟨rfl, M, ?_, Out.rf⟩
        rcases d2 with d2 | ⟨d2, d4⟩
        · rw [if_pos d2]
        · rw [if_neg d2, if_pos d4]
      · obtain ⟨g1, g2⟩ := dgF_d hd
        rw [g1, g2, if_neg (nI_pos (by omega)), L9, if_neg (nI_nlt hd (by omega))]
        show (figT q d = none ∧ _) ∨ ∃ q', figT q d = some q' ∧ _
        rcases fig_C (fu := fu) ho hc hd h0 h10 with ⟨e1, M', e2, e3⟩ | ⟨q', e1, M', e2, e3, e4, e5⟩
        · rw [e1, e2]
          exact Or.inl ⟨rfl, M', rfl, e3⟩
        · rw [e1, e2]
          exact Or.inr ⟨q', rfl, M', rfl, e3, e4, e5⟩
/-- from place k on, m signs: the fault's place, or what was read -/
def rdF (f : Nat → Int32) : Nat → Nat → RS → Nat ⊕ RS
  | 0, k, q => if rS q = 10 ∧ 0 < rM q then .inr q else .inl k
  | m + 1, k, q => match takeF q (f k) with
    | none => .inl k
    | some q' => rdF f m (k + 1) q'
def rdI : Nat ⊕ RS → Int32
  | .inl k => nI k
  | .inr _ => -9
theorem faultIn_C12 {fu : Nat} {t N : Nat} (ht : t < 4) (hN : N ≤ 60) {f : Nat → Int32} : ∀ (m n : Nat) (M : Mm) (k : Nat) (q : RS), k + m = N → m < n → okR q → CS q M → M.1 (13 + t) 1 = nI N → (∀ j, j < N → M.1 (13 + t + 4) j = f j) → ∃ M', F_X3_faultIn_12 fu n M (13 + t) (nI k) = some (rdI (rdF f m k q), M') ∧ Out pS M M' ∧ ∀ q', rdF f m k q = .inr q' → CS q' M' ∧ okR q' ∧ rS q' = 10 ∧ 0 < rM q' := by
  intro m
  induction m with
  | zero =>
    intro n M k q hk hn ho hc h1 h2
    obtain ⟨n, rfl⟩ : ∃ q, n = q + 1 := ⟨n - 1, by omega⟩
    refine ⟨M, ?_, Out.rf, fun q' e => ?_⟩
    · unfold F_X3_faultIn_12 rdF
      rw [h1, if_pos (nI_le (by omega) (by omega))]
      have hm := ho.2.1
      by_cases h10 : rS q = 10
      · rw [if_pos (show M.1 68 0 = (10 : Int32) by rw [hc.1, h10]; rfl), hc.2.1]
        by_cases h0 : 0 < rM q
        · rw [if_neg (nI_nle h0 (by omega)), if_pos ⟨h10, h0⟩]
          rfl
        · rw [if_pos (le00 (by omega)), if_neg (fun z => h0 z.2), show N = k by omega]
          rfl
      · rw [if_neg (show ¬ M.1 68 0 = (10 : Int32) by rw [L10, stE hc.1 ho.1 (by decide)]; exact h10), if_neg (fun z => h10 z.1), show N = k by omega]
        rfl
    · unfold rdF at e
      by_cases h : rS q = 10 ∧ 0 < rM q
      · rw [if_pos h] at e
        injection e with e
        subst e
        exact ⟨hc, ho, h⟩
      · rw [if_neg h] at e
        cases e
  | succ m ih =>
    intro n M k q hk hn ho hc h1 h2
    obtain ⟨n, rfl⟩ : ∃ q, n = q + 1 := ⟨n - 1, by omega⟩
    unfold F_X3_faultIn_12 rdF
    rw [h1, if_neg (nI_ge (by omega) (by omega)), sign_C ht (by omega), ob1_s, h2 k (by omega)]
    rcases takes_C (fu := fu) ho hc (f k) with ⟨e1, M', e2, e3⟩ | ⟨q', e1, M', e2, e3, e4, e5⟩
    · rw [e1, e2, ob2_s, if_pos rfl]
      exact ⟨M', rfl, e3, fun q' e => by cases e⟩
    · rw [e1, e2, ob2_s, if_neg one_ne, nI_1]
      obtain ⟨M2, a1, a2, a3⟩ := ih n M' (k + 1) q' (by omega) (by omega) e5 e4 (by rw [(e3 _ _ (by unfold pS; omega)).1]; exact h1) (fun j hj => by rw [(e3 _ _ (by unfold pS; omega)).1]; exact h2 j hj)
      exact ⟨M2, a1, e3.trans a2, a3⟩
def q0 : RS := (0, 0, 0, fun _ => 0, fun _ => 0, fun _ => 0, fun _ => 0, fun _ => 0)
theorem q0_ok : okR q0 := ⟨Nat.zero_le _, Nat.zero_le _, Nat.zero_le _, fun h => absurd h (by show ¬ 10 ≤ 0; omega), fun _ => Nat.zero_le _, fun i hi => absurd hi (Nat.not_lt_zero i), fun h => absurd h (by show ¬ 11 ≤ 0; omega), fun h => absurd h (by show ¬ 12 ≤ 0; omega), fun h => absurd h (by show ¬ 0 = 12; omega), fun h => absurd h (by show ¬ 14 ≤ 0; omega)⟩
theorem faultIn_C {fu : Nat} (hf : 1000 ≤ fu) {M : Mm} {t N : Nat} (ht : t < 4) (hN : N ≤ 60) {f : Nat → Int32} (h1 : M.1 (13 + t) 1 = nI N) (h2 : ∀ j, j < N → M.1 (13 + t + 4) j = f j) : ∃ M', F_X3_faultIn fu M (13 + t) = some (rdI (rdF f N 0 q0), M') ∧ Out pS M M' ∧ ∀ q', rdF f N 0 q0 = .inr q' → CS q' M' ∧ okR q' ∧ rS q' = 10 ∧ 0 < rM q' := by
  have o1 : Out pS M (pI (pI M 68 0 0) 68 1 0) := ((Out.rf).pI (by unfold pS; omega)).pI (by unfold pS; omega)
  obtain ⟨M', a1, a2, a3⟩ := faultIn_C12 (fu := fu) ht hN (f := f) N fu (pI (pI M 68 0 0) 68 1 0) 0 q0 (by omega) (by omega) q0_ok ⟨by rw [pI_n (by omega), pI_s]; rfl, by rw [pI_s]; rfl, fun h => absurd h (by show ¬ 10 ≤ 0; omega), fun j _ h => absurd h (by show ¬ j + 1 < 0; omega), fun i hi => absurd hi (Nat.not_lt_zero i), fun h => absurd h (by show ¬ 11 ≤ 0; omega), fun h => absurd h (by show ¬ 12 ≤ 0; omega), fun h => absurd h (by show ¬ 14 ≤ 0; omega)⟩ (by rw [(o1 _ _ (by unfold pS; omega)).1]; exact h1) (fun j hj => by rw [(o1 _ _ (by unfold pS; omega)).1]; exact h2 j hj)
  refine ⟨M', ?_, o1.trans a2, a3⟩
  unfold F_X3_faultIn
  rw [lt1_s, lt1_s]
  exact a1
