/-! a text is read -/
/-- stage, men, right, suns, kinds, bulks, shades, votes -/
abbrev RS : Type := Nat × Nat × Nat × (Nat → Nat) × (Nat → Nat) × (Nat → Nat) × (Nat → Nat) × (Nat → Nat)
def rS (q : RS) : Nat := q.1
def rM (q : RS) : Nat := q.2.1
def rR (q : RS) : Nat := q.2.2.1
def rSu (q : RS) : Nat → Nat := q.2.2.2.1
def rK (q : RS) : Nat → Nat := q.2.2.2.2.1
def rB (q : RS) : Nat → Nat := q.2.2.2.2.2.1
def rSh (q : RS) : Nat → Nat := q.2.2.2.2.2.2.1
def rV (q : RS) : Nat → Nat := q.2.2.2.2.2.2.2
def setf (f : Nat → Nat) (i x : Nat) : Nat → Nat := fun j => if j = i then x else f j
theorem setf_s {f : Nat → Nat} {i x : Nat} : setf f i x i = x := if_pos rfl
theorem setf_n {f : Nat → Nat} {i x j : Nat} (h : j ≠ i) : setf f i x j = f j := if_neg h
def kindN (c : Int32) : Option Nat := if c = 104 then some 1 else if c = 105 then some 5 else if c = 108 then some 4 else if c = 109 then some 0 else if c = 115 then some 3 else if c = 119 then some 2 else none
def dgF (c : Int32) : Option Nat := if c - 48 < 0 then none else if (9 : Int32) < c - 48 then none else some (c - 48).toNatClampNeg
/-- a figure is taken -/
def figU (s m r : Nat) (su k b sh v : Nat → Nat) (d : Nat) : Option RS :=
  if s = 9 then (if 0 < d then some (10, m, d, su, k, b, sh, v) else none)
  else if s = 11 then some (12, m, r, su, k, setf b m (10 * d), sh, v)
  else if s = 12 then (if 0 < b m + d then some (13, m, r, su, k, setf b m (b m + d), sh, v) else none)
  else if s = 13 then some (14, m, r, su, k, b, setf sh m d, v)
  else if s = 14 then (if d ≤ 1 then some (10, m + 1, r, su, k, b, sh, setf v m d) else none)
  else some (s + 1, m, r, setf su (s - 1) d, k, b, sh, v)
def figT (q : RS) (d : Nat) : Option RS := figU (rS q) (rM q) (rR q) (rSu q) (rK q) (rB q) (rSh q) (rV q) d
def letT (q : RS) (c : Int32) : Option RS := match kindN c with
  | none => none
  | some k => if rM q < 6 then some (11, rM q, rR q, rSu q, setf (rK q) (rM q) k, rB q, rSh q, rV q) else none
def takeF (q : RS) (c : Int32) : Option RS :=
  if rS q = 0 then (if c = 32 then some q else if c = 122 then some (1, rM q, rR q, rSu q, rK q, rB q, rSh q, rV q) else none)
  else if rS q = 10 then (if c = 32 then some q else letT q c)
  else match dgF c with
    | none => none
    | some d => figT q d
def okR (q : RS) : Prop := rS q ≤ 14 ∧ rM q ≤ 6 ∧ rR q ≤ 9 ∧ (10 ≤ rS q → 1 ≤ rR q) ∧ (∀ j, rSu q j ≤ 9) ∧ (∀ i, i < rM q → rK q i ≤ 5 ∧ rB q i ≤ 99 ∧ rSh q i ≤ 9 ∧ rV q i ≤ 1) ∧ (11 ≤ rS q → rM q < 6 ∧ rK q (rM q) ≤ 5) ∧ (12 ≤ rS q → rB q (rM q) ≤ 99) ∧ (rS q = 12 → rB q (rM q) ≤ 90) ∧ (14 ≤ rS q → rSh q (rM q) ≤ 9)
/-- what the class has read -/
def CS (q : RS) (M : Mm) : Prop := M.1 68 0 = nI (rS q) ∧ M.1 68 1 = nI (rM q) ∧ (10 ≤ rS q → M.1 68 2 = nI (rR q)) ∧ (∀ j, j < 8 → j + 1 < rS q → M.1 69 j = nI (rSu q j)) ∧ (∀ i, i < rM q → M.1 70 i = nI (rK q i) ∧ M.1 71 i = nI (rB q i) ∧ M.1 72 i = nI (rSh q i) ∧ M.1 73 i = nI (rV q i)) ∧ (11 ≤ rS q → M.1 70 (rM q) = nI (rK q (rM q))) ∧ (12 ≤ rS q → M.1 71 (rM q) = nI (rB q (rM q))) ∧ (14 ≤ rS q → M.1 72 (rM q) = nI (rSh q (rM q)))
theorem dgF_d {d : Nat} (h : d ≤ 9) : dgF (nI (48 + d)) = some d ∧ nI (48 + d) - 48 = nI d := by
  have e : nI (48 + d) - 48 = nI d := by rw [L48, pk_sub (by omega)]; exact congrArg nI (by omega)
  refine ⟨?_, e⟩
  unfold dgF
  rw [e, if_neg (nI_pos (by omega)), L9, if_neg (nI_nlt h (by omega)), clN (by omega)]
theorem dgF_c (c : Int32) : (dgF c = none ∧ (c - 48 < 0 ∨ (¬ c - 48 < 0 ∧ (9 : Int32) < c - 48)) ∧ ∀ d, d ≤ 9 → ¬ c = nI (48 + d)) ∨ ∃ d, d ≤ 9 ∧ c = nI (48 + d) := by
  by_cases h : ∃ d, d ≤ 9 ∧ c = nI (48 + d)
  · exact Or.inr h
  · refine Or.inl ?_
    have hn : ∀ d, d ≤ 9 → ¬ c = nI (48 + d) := fun d hd e => h ⟨d, hd, e⟩
    have hc : c - 48 < 0 ∨ (¬ c - 48 < 0 ∧ (9 : Int32) < c - 48) := by
      by_cases h0 : c - 48 < 0
      · exact Or.inl h0
      · rcases pk_ix (c - 48) (n := 10) (by decide) with q | q | ⟨j, hj, q⟩
        · exact absurd q h0
        · refine Or.inr ⟨h0, ?_⟩
          have q1 := Int32.le_iff_toInt_le.mp q
          rw [nI_toInt (by decide)] at q1
          rw [Int32.lt_iff_toInt_lt, show (9 : Int32).toInt = 9 from rfl]
          omega
        · exfalso
          refine hn j (by omega) ?_
          rw [Nat.add_comm, ← nI_add, ← q, show nI 48 = (48 : Int32) from rfl, Int32.sub_add_cancel]
    refine ⟨?_, hc, hn⟩
    unfold dgF
    rcases hc with hc | ⟨h0, hc⟩
    · rw [if_pos hc]
    · rw [if_neg h0, if_pos hc]
def pS (x : Nat) (_ : Nat) : Prop := 68 ≤ x ∧ x ≤ 73
theorem stE {M : Mm} {s : Nat} (h : M.1 68 0 = nI s) (hs : s ≤ 14) {n : Nat} (hn : n < 100) : (M.1 68 0 = nI n) = (s = n) := by rw [h, eqN (by omega) (by omega)]
theorem fig192 {fu : Nat} {M : Mm} {s : Nat} (h : M.1 68 0 = nI s) (hs : s ≤ 14) (b : Bool) : F_X3_takesFigure_192 fu M (bI b) = some (bI b, pI M 68 0 (nI (if s = 14 then 10 else s + 1))) := by
  unfold F_X3_takesFigure_192
  by_cases h14 : s = 14
  · rw [if_pos (show M.1 68 0 = (14 : Int32) by rw [h, h14]; rfl), lt1_s, if_neg (bI_01 b), if_pos h14]
    rfl
  · rw [if_neg (show ¬ M.1 68 0 = (14 : Int32) by rw [L14, stE h hs (by decide)]; exact h14), lt1_s, if_neg (bI_01 b), if_neg h14, h, nI_1]
theorem fig_C {fu : Nat} {M : Mm} {q : RS} (ho : okR q) (hc : CS q M) {d : Nat} (hd : d ≤ 9) (h0 : rS q ≠ 0) (h10 : rS q ≠ 10) : (figT q d = none ∧ ∃ M', F_X3_takesFigure fu M (nI d) = some (0, M') ∧ Out pS M M') ∨ ∃ q', figT q d = some q' ∧ ∃ M', F_X3_takesFigure fu M (nI d) = some (1, M') ∧ Out pS M M' ∧ CS q' M' ∧ okR q' := by
  obtain ⟨s, m, r, su, k, b, sh, v⟩ := q
  obtain ⟨o1, o2, o3, o4, o5, o6, o7, o8, o9, o10⟩ := ho
  obtain ⟨c1, c2, c3, c4, c5, c6, c7, c8⟩ := hc
  simp only [rS, rM, rR, rSu, rK, rB, rSh, rV] at *
  have st : ∀ n, n < 100 → (M.1 68 0 = nI n) = (s = n) := fun n hn => stE c1 o1 hn
  show (figU s m r su k b sh v d = none ∧ ∃ M', F_X3_takesFigure fu M (nI d) = some (0, M') ∧ Out pS M M') ∨ ∃ q', figU s m r su k b sh v d = some q' ∧ ∃ M', F_X3_takesFigure fu M (nI d) = some (1, M') ∧ Out pS M M' ∧ CS q' M' ∧ okR q'
  unfold F_X3_takesFigure figU
  rw [L9, L11, L12, L13, L14]
  by_cases h9 : s = 9
  · rw [if_pos (show M.1 68 0 = nI 9 by rw [st 9 (by decide)]; exact h9), if_pos h9]
    have e53 : ∀ t0 : Int32, F_X3_takesFigure_53 fu M (nI d) t0 = F_X3_takesFigure_192 fu (pI M 68 2 (nI d)) t0 := fun _ => rfl
    rw [e53, e53]
    have hA : (pI M 68 2 (nI d)).1 68 0 = nI s := by rw [pI_n (by omega)]; exact c1
    by_cases hd0 : 0 < d
    · rw [if_neg (nI_nle hd0 (by omega)), if_pos hd0]
      refine Or.inr ⟨_, rfl, _, fig192 hA o1 true, ((Out.rf).pI (by unfold pS; omega)).pI (by unfold pS; omega), ?_, ?_⟩
      · rw [if_neg (by omega)]
        subst h9
        refine ⟨pI_s, by rw [pI_n (by omega), pI_n (by omega)]; exact c2, fun _ => by rw [pI_n (by omega), pI_s]; rfl, fun j h1 h2 => by rw [pI_n (by omega), pI_n (by omega)]; exact c4 j h1 (by omega), fun i hi => ?_, fun h => absurd h (by show ¬ 11 ≤ 10; omega), fun h => absurd h (by show ¬ 12 ≤ 10; omega), fun h => absurd h (by show ¬ 14 ≤ 10; omega)⟩
        rw [pI_n (by omega), pI_n (by omega), pI_n (by omega), pI_n (by omega), pI_n (by omega), pI_n (by omega), pI_n (by omega), pI_n (by omega)]
        exact c5 i hi
      · exact ⟨by show 10 ≤ 14; omega, o2, hd, fun _ => hd0, o5, o6, fun h => absurd h (by show ¬ 11 ≤ 10; omega), fun h => absurd h (by show ¬ 12 ≤ 10; omega), fun h => absurd h (by show ¬ 10 = 12; omega), fun h => absurd h (by show ¬ 14 ≤ 10; omega)⟩
    · rw [if_pos (le00 (by omega)), if_neg hd0]
      exact Or.inl ⟨rfl, _, fig192 hA o1 false, ((Out.rf).pI (by unfold pS; omega)).pI (by unfold pS; omega)⟩
  · rw [if_neg (show ¬ M.1 68 0 = nI 9 by rw [st 9 (by decide)]; exact h9), if_neg h9]
    by_cases h11 : s = 11
    · rw [if_pos (show M.1 68 0 = nI 11 by rw [st 11 (by decide)]; exact h11), if_pos h11]
      obtain ⟨hm6, hk5⟩ := o7 (by omega)
      rw [c2, L10, pk_mul, wr71 hm6, ob1_s]
      have hA : (pI M 71 m (nI (10 * d))).1 68 0 = nI s := by rw [pI_n (by omega)]; exact c1
      refine Or.inr ⟨_, rfl, _, fig192 hA o1 true, ((Out.rf).pI (by unfold pS; omega)).pI (by unfold pS; omega), ?_, ?_⟩
      · rw [if_neg (by omega)]
        subst h11
        refine ⟨pI_s, by rw [pI_n (by omega), pI_n (by omega)]; exact c2, fun h => by rw [pI_n (by omega), pI_n (by omega)]; exact c3 (by omega), fun j h1 h2 => by rw [pI_n (by omega), pI_n (by omega)]; exact c4 j h1 (by omega), fun i hi => ?_, fun h => by rw [pI_n (by omega), pI_n (by omega)]; exact c6 (by omega), fun h => ?_, fun h => absurd h (by show ¬ 14 ≤ 12; omega)⟩
        · have hi : i < m := hi
          rw [pI_n (by omega), pI_n (by omega), pI_n (by omega), pI_n (by omega), pI_n (by omega), pI_n (by omega), pI_n (by omega), pI_n (by omega)]
          show _ ∧ _ = nI (setf b m (10 * d) i) ∧ _
          rw [setf_n (by omega)]
          exact c5 i hi
        · show (pI (pI M 71 m (nI (10 * d))) 68 0 _).1 71 m = nI (setf b m (10 * d) m)
          rw [pI_n (by omega), pI_s, setf_s]
      · refine ⟨by show 12 ≤ 14; omega, o2, o3, fun _ => o4 (by omega), o5, fun i hi => ?_, fun _ => ⟨hm6, hk5⟩, fun _ => ?_, fun _ => ?_, fun h => absurd h (by show ¬ 14 ≤ 12; omega)⟩
        · have hi : i < m := hi
          show k i ≤ 5 ∧ setf b m (10 * d) i ≤ 99 ∧ _
          rw [setf_n (by omega)]
          exact o6 i hi
        · show setf b m (10 * d) m ≤ 99
          rw [setf_s]; omega
        · show setf b m (10 * d) m ≤ 90
          rw [setf_s]; omega
    · rw [if_neg (show ¬ M.1 68 0 = nI 11 by rw [st 11 (by decide)]; exact h11), if_neg h11]
      by_cases h12 : s = 12
      · rw [if_pos (show M.1 68 0 = nI 12 by rw [st 12 (by decide)]; exact h12), if_pos h12]
        obtain ⟨hm6, hk5⟩ := o7 (by omega)
        have hb90 := o9 h12
        unfold F_X3_takesFigure_123
        rw [c2, rd71 hm6, ob1_s, c7 (by omega), nI_add, wr71 hm6, ob1_s, pI_n (x := 71) (y := 68) (by omega), c2, rd71 hm6, ob1_s, pI_s]
        have hA : (pI M 71 m (nI (b m + d))).1 68 0 = nI s := by rw [pI_n (by omega)]; exact c1
        by_cases hp : 0 < b m + d
        · rw [if_neg (nI_nle hp (by omega)), if_pos hp]
          refine Or.inr ⟨_, rfl, _, fig192 hA o1 true, ((Out.rf).pI (by unfold pS; omega)).pI (by unfold pS; omega), ?_, ?_⟩
          · rw [if_neg (by omega)]
            subst h12
            refine ⟨pI_s, by rw [pI_n (by omega), pI_n (by omega)]; exact c2, fun h => by rw [pI_n (by omega), pI_n (by omega)]; exact c3 (by omega), fun j h1 h2 => by rw [pI_n (by omega), pI_n (by omega)]; exact c4 j h1 (by omega), fun i hi => ?_, fun h => by rw [pI_n (by omega), pI_n (by omega)]; exact c6 (by omega), fun h => ?_, fun h => absurd h (by show ¬ 14 ≤ 13; omega)⟩
            · have hi : i < m := hi
              rw [pI_n (by omega), pI_n (by omega), pI_n (by omega), pI_n (by omega), pI_n (by omega), pI_n (by omega), pI_n (by omega), pI_n (by omega)]
              show _ ∧ _ = nI (setf b m (b m + d) i) ∧ _
              rw [setf_n (by omega)]
              exact c5 i hi
            · show (pI (pI M 71 m (nI (b m + d))) 68 0 _).1 71 m = nI (setf b m (b m + d) m)
              rw [pI_n (by omega), pI_s, setf_s]
          · refine ⟨by show 13 ≤ 14; omega, o2, o3, fun _ => o4 (by omega), o5, fun i hi => ?_, fun _ => ⟨hm6, hk5⟩, fun _ => ?_, fun h => absurd h (by show ¬ 13 = 12; omega), fun h => absurd h (by show ¬ 14 ≤ 13; omega)⟩
            · have hi : i < m := hi
              show k i ≤ 5 ∧ setf b m (b m + d) i ≤ 99 ∧ _
              rw [setf_n (by omega)]
              exact o6 i hi
            · show setf b m (b m + d) m ≤ 99
              rw [setf_s]; omega
        · rw [if_pos (le00 (by omega)), if_neg hp]
          exact Or.inl ⟨rfl, _, fig192 hA o1 false, ((Out.rf).pI (by unfold pS; omega)).pI (by unfold pS; omega)⟩
      · rw [if_neg (show ¬ M.1 68 0 = nI 12 by rw [st 12 (by decide)]; exact h12), if_neg h12]
        by_cases h13 : s = 13
        · rw [if_pos (show M.1 68 0 = nI 13 by rw [st 13 (by decide)]; exact h13), if_pos h13]
          obtain ⟨hm6, hk5⟩ := o7 (by omega)
          rw [c2, wr72 hm6, ob1_s]
          have hA : (pI M 72 m (nI d)).1 68 0 = nI s := by rw [pI_n (by omega)]; exact c1
          refine Or.inr ⟨_, rfl, _, fig192 hA o1 true, ((Out.rf).pI (by unfold pS; omega)).pI (by unfold pS; omega), ?_, ?_⟩
          · rw [if_neg (by omega)]
            subst h13
            refine ⟨pI_s, by rw [pI_n (by omega), pI_n (by omega)]; exact c2, fun h => by rw [pI_n (by omega), pI_n (by omega)]; exact c3 (by omega), fun j h1 h2 => by rw [pI_n (by omega), pI_n (by omega)]; exact c4 j h1 (by omega), fun i hi => ?_, fun h => by rw [pI_n (by omega), pI_n (by omega)]; exact c6 (by omega), fun h => by rw [pI_n (by omega), pI_n (by omega)]; exact c7 (by omega), fun h => ?_⟩
            · have hi : i < m := hi
              rw [pI_n (by omega), pI_n (by omega), pI_n (by omega), pI_n (by omega), pI_n (by omega), pI_n (by omega), pI_n (by omega), pI_n (by omega)]
              show _ ∧ _ ∧ _ = nI (setf sh m d i) ∧ _
              rw [setf_n (by omega)]
              exact c5 i hi
            · show (pI (pI M 72 m (nI d)) 68 0 _).1 72 m = nI (setf sh m d m)
              rw [pI_n (by omega), pI_s, setf_s]
          · refine ⟨by show 14 ≤ 14; omega, o2, o3, fun _ => o4 (by omega), o5, fun i hi => ?_, fun _ => ⟨hm6, hk5⟩, fun _ => o8 (by omega), fun h => absurd h (by show ¬ 14 = 12; omega), fun _ => ?_⟩
            · have hi : i < m := hi
              show k i ≤ 5 ∧ b i ≤ 99 ∧ setf sh m d i ≤ 9 ∧ _
              rw [setf_n (by omega)]
              exact o6 i hi
            · show setf sh m d m ≤ 9
              rw [setf_s]; omega
        · rw [if_neg (show ¬ M.1 68 0 = nI 13 by rw [st 13 (by decide)]; exact h13), if_neg h13]
          by_cases h14 : s = 14
          · rw [if_pos (show M.1 68 0 = nI 14 by rw [st 14 (by decide)]; exact h14), if_pos h14]
            obtain ⟨hm6, hk5⟩ := o7 (by omega)
            have e152 : ∀ t0 : Int32, F_X3_takesFigure_152 fu M (nI d) t0 = F_X3_takesFigure_192 fu (pI (pI M 73 m (nI d)) 68 1 (nI (m + 1))) t0 := fun t0 => by
              unfold F_X3_takesFigure_152
              rw [c2, wr73 hm6, ob1_s, lt1_s, pI_n (x := 73) (y := 68) (by omega), c2, nI_1]
            rw [e152, e152]
            have hA : (pI (pI M 73 m (nI d)) 68 1 (nI (m + 1))).1 68 0 = nI s := by rw [pI_n (by omega), pI_n (by omega)]; exact c1
            by_cases hp : d ≤ 1
            · rw [if_neg (show ¬ (1 : Int32) < nI d by rw [L1]; exact nI_nlt hp (by omega)), if_pos hp]
              refine Or.inr ⟨_, rfl, _, fig192 hA o1 true, (((Out.rf).pI (by unfold pS; omega)).pI (by unfold pS; omega)).pI (by unfold pS; omega), ?_, ?_⟩
              · rw [if_pos h14]
                subst h14
                refine ⟨pI_s, by rw [pI_n (by omega), pI_s]; rfl, fun h => by rw [pI_n (by omega), pI_n (by omega), pI_n (by omega)]; exact c3 (by omega), fun j h1 h2 => by rw [pI_n (by omega), pI_n (by omega), pI_n (by omega)]; exact c4 j h1 (by omega), fun i hi => ?_, fun h => absurd h (by show ¬ 11 ≤ 10; omega), fun h => absurd h (by show ¬ 12 ≤ 10; omega), fun h => absurd h (by show ¬ 14 ≤ 10; omega)⟩
                have hi : i < m + 1 := hi
                show (pI (pI (pI M 73 m (nI d)) 68 1 (nI (m + 1))) 68 0 _).1 70 i = nI (k i) ∧ (pI (pI (pI M 73 m (nI d)) 68 1 (nI (m + 1))) 68 0 _).1 71 i = nI (b i) ∧ (pI (pI (pI M 73 m (nI d)) 68 1 (nI (m + 1))) 68 0 _).1 72 i = nI (sh i) ∧ (pI (pI (pI M 73 m (nI d)) 68 1 (nI (m + 1))) 68 0 _).1 73 i = nI (setf v m d i)
                rw [pI_n (y := 70) (by omega), pI_n (y := 70) (by omega), pI_n (y := 70) (by omega), pI_n (y := 71) (by omega), pI_n (y := 71) (by omega), pI_n (y := 71) (by omega), pI_n (y := 72) (by omega), pI_n (y := 72) (by omega), pI_n (y := 72) (by omega), pI_n (y := 73) (by omega), pI_n (y := 73) (by omega)]
                by_cases him : i = m
                · subst him
                  rw [pI_s, setf_s]
                  exact ⟨c6 (by omega), c7 (by omega), c8 (by omega), rfl⟩
                · rw [pI_n (by omega), setf_n him]
                  exact c5 i (by omega)
              · refine ⟨by show 10 ≤ 14; omega, by show m + 1 ≤ 6; omega, o3, fun _ => o4 (by omega), o5, fun i hi => ?_, fun h => absurd h (by show ¬ 11 ≤ 10; omega), fun h => absurd h (by show ¬ 12 ≤ 10; omega), fun h => absurd h (by show ¬ 10 = 12; omega), fun h => absurd h (by show ¬ 14 ≤ 10; omega)⟩
                have hi : i < m + 1 := hi
                show k i ≤ 5 ∧ b i ≤ 99 ∧ sh i ≤ 9 ∧ setf v m d i ≤ 1
                by_cases him : i = m
                · subst him
                  rw [setf_s]
                  exact ⟨hk5, o8 (by omega), o10 (by omega), hp⟩
                · rw [setf_n him]
                  exact o6 i (by omega)
            · rw [if_pos (show (1 : Int32) < nI d by rw [L1]; exact nI_lt (by omega) (by omega)), if_neg hp]
              exact Or.inl ⟨rfl, _, fig192 hA o1 false, (((Out.rf).pI (by unfold pS; omega)).pI (by unfold pS; omega)).pI (by unfold pS; omega)⟩
          · rw [if_neg (show ¬ M.1 68 0 = nI 14 by rw [st 14 (by decide)]; exact h14), if_neg h14]
            obtain ⟨s', rfl⟩ : ∃ s', s = s' + 1 := ⟨s - 1, by omega⟩
            rw [c1, nI_pred, wr69 (by omega), ob1_s]
            have hA : (pI M 69 s' (nI d)).1 68 0 = nI (s' + 1) := by rw [pI_n (by omega)]; exact c1
            refine Or.inr ⟨_, rfl, _, fig192 hA o1 true, ((Out.rf).pI (by unfold pS; omega)).pI (by unfold pS; omega), ?_, ?_⟩
            · rw [if_neg h14, show s' + 1 - 1 = s' from rfl]
              refine ⟨pI_s, by rw [pI_n (by omega), pI_n (by omega)]; exact c2, fun h => ?_, fun j h1 h2 => ?_, fun i hi => ?_, fun h => absurd h (by show ¬ 11 ≤ s' + 1 + 1; omega), fun h => absurd h (by show ¬ 12 ≤ s' + 1 + 1; omega), fun h => absurd h (by show ¬ 14 ≤ s' + 1 + 1; omega)⟩
              · have h : 10 ≤ s' + 1 + 1 := h
                omega
              · have h2 : j + 1 < s' + 1 + 1 := h2
                show (pI (pI M 69 s' (nI d)) 68 0 _).1 69 j = nI (setf su s' d j)
                rw [pI_n (by omega)]
                by_cases hjs : j = s'
                · rw [hjs, pI_s, setf_s]
                · rw [pI_n (by omega), setf_n hjs]
                  exact c4 j h1 (by omega)
              · have hi : i < m := hi
                rw [pI_n (by omega), pI_n (by omega), pI_n (by omega), pI_n (by omega), pI_n (by omega), pI_n (by omega), pI_n (by omega), pI_n (by omega)]
                exact c5 i hi
            · refine ⟨by show s' + 1 + 1 ≤ 14; omega, o2, o3, fun h => ?_, fun j => ?_, o6, fun h => absurd h (by show ¬ 11 ≤ s' + 1 + 1; omega), fun h => absurd h (by show ¬ 12 ≤ s' + 1 + 1; omega), fun h => absurd h (by show ¬ s' + 1 + 1 = 12; omega), fun h => absurd h (by show ¬ 14 ≤ s' + 1 + 1; omega)⟩
              · have h : 10 ≤ s' + 1 + 1 := h
                omega
              · show setf su (s' + 1 - 1) d j ≤ 9
                unfold setf
                split
                · exact hd
                · exact o5 j

/-! a text is read: sign by sign, from its beginning to its end -/
theorem kindBy_C {fu : Nat} {M : Mm} (c : Int32) : F_X3_kindBy fu M c = some (match kindN c with | none => -9 | some k => nI k) := by
  unfold F_X3_kindBy kindN
  by_cases h1 : c = 104
  · rw [if_pos h1, if_pos h1]; rfl
  · rw [if_neg h1, if_neg h1]
    by_cases h2 : c = 105
    · rw [if_pos h2, if_pos h2]; rfl
    · rw [if_neg h2, if_neg h2]
      by_cases h3 : c = 108
      · rw [if_pos h3, if_pos h3]; rfl
      · rw [if_neg h3, if_neg h3]
        by_cases h4 : c = 109
        · rw [if_pos h4, if_pos h4]; rfl
        · rw [if_neg h4, if_neg h4]
          by_cases h5 : c = 115
          · rw [if_pos h5, if_pos h5]; rfl
          · rw [if_neg h5, if_neg h5]
            by_cases h6 : c = 119
            · rw [if_pos h6, if_pos h6]; rfl
            · rw [if_neg h6, if_neg h6]
theorem kindN_le {c : Int32} {k : Nat} (h : kindN c = some k) : k ≤ 5 := by
  unfold kindN at h
  repeat' (split at h)
  all_goals first | (injection h with h; omega) | cases h
theorem let_C {fu : Nat} {M : Mm} {q : RS} (ho : okR q) (hc : CS q M) (h10 : rS q = 10) (c : Int32) : (letT q c = none ∧ F_X3_takesLetter fu M c = some (0, M)) ∨ ∃ q', letT q c = some q' ∧ ∃ M', F_X3_takesLetter fu M c = some (1, M') ∧ Out pS M M' ∧ CS q' M' ∧ okR q' := by
  obtain ⟨s, m, r, su, k, b, sh, v⟩ := q
  obtain ⟨o1, o2, o3, o4, o5, o6, o7, o8, o9, o10⟩ := ho
  obtain ⟨c1, c2, c3, c4, c5, c6, c7, c8⟩ := hc
  simp only [rS, rM, rR, rSu, rK, rB, rSh, rV] at *
  subst h10
  unfold F_X3_takesLetter letT
  rw [kindBy_C]
  cases hk : kindN c with
  | none => exact Or.inl ⟨rfl, rfl⟩
  | some k0 =>
    have hk5 := kindN_le hk
    show ((if m < 6 then some (11, m, r, su, setf k m k0, b, sh, v) else none) = none ∧ ob1 (some (nI k0)) _ = _) ∨ ∃ q', (if m < 6 then some (11, m, r, su, setf k m k0, b, sh, v) else none) = some q' ∧ _
    rw [ob1_s, if_neg (neg9' (by omega)), c2, L6]
    by_cases hm : m < 6
    · rw [if_pos hm, if_pos (nI_lt hm (by omega)), wr70 hm, ob1_s, lt1_s]
      refine Or.inr ⟨_, rfl, _, rfl, ((Out.rf).pI (by unfold pS; omega)).pI (by unfold pS; omega), ?_, ?_⟩
      · refine ⟨pI_s, by rw [pI_n (by omega), pI_n (by omega)]; exact c2, fun _ => by rw [pI_n (by omega), pI_n (by omega)]; exact c3 (by omega), fun j h1 h2 => by rw [pI_n (by omega), pI_n (by omega)]; exact c4 j h1 (by omega), fun i hi => ?_, fun _ => ?_, fun h => absurd h (by show ¬ 12 ≤ 11; omega), fun h => absurd h (by show ¬ 14 ≤ 11; omega)⟩
        · have hi : i < m := hi
          rw [pI_n (by omega), pI_n (by omega), pI_n (by omega), pI_n (by omega), pI_n (by omega), pI_n (by omega), pI_n (by omega), pI_n (by omega)]
          show _ = nI (setf k m k0 i) ∧ _
          rw [setf_n (by omega)]
          exact c5 i hi
        · show (pI (pI M 70 m (nI k0)) 68 0 11).1 70 m = nI (setf k m k0 m)
          rw [pI_n (by omega), pI_s, setf_s]
      · refine ⟨by show 11 ≤ 14; omega, o2, o3, fun _ => o4 (by omega), o5, fun i hi => ?_, fun _ => ⟨hm, ?_⟩, fun h => absurd h (by show ¬ 12 ≤ 11; omega), fun h => absurd h (by show ¬ 11 = 12; omega), fun h => absurd h (by show ¬ 14 ≤ 11; omega)⟩
        · have hi : i < m := hi
          show setf k m k0 i ≤ 5 ∧ _
          rw [setf_n (by omega)]
          exact o6 i hi
        · show setf k m k0 m ≤ 5
          rw [setf_s]; exact hk5
    · rw [if_neg hm, if_neg (nI_nlt (by omega) (by omega))]
      exact Or.inl ⟨rfl, rfl⟩
theorem takes_C {fu : Nat} {M : Mm} {q : RS} (ho : okR q) (hc : CS q M) (c : Int32) : (takeF q c = none ∧ ∃ M', F_X3_takes fu M c = some (0, M') ∧ Out pS M M') ∨ ∃ q', takeF q c = some q' ∧ ∃ M', F_X3_takes fu M c = some (1, M') ∧ Out pS M M' ∧ CS q' M' ∧ okR q' := by
  have ho' := ho
  have hc' := hc
  have s0 : (M.1 68 0 = (0 : Int32)) = (rS q = 0) := stE hc.1 ho.1 (n := 0) (by decide)
  have s10 : (M.1 68 0 = (10 : Int32)) = (rS q = 10) := stE hc.1 ho.1 (n := 10) (by decide)
  have e16 : ∀ c, F_X3_takes_16 fu M c = (if c = (32 : Int32) then some ((1 : Int32), M) else if M.1 68 0 = 0 then ob2 (F_X3_takesSun fu M c) (fun r8 M9 => if r8 = 0 then some ((0 : Int32), M9) else some ((1 : Int32), M9)) else ob2 (F_X3_takesLetter fu M c) (fun r4 M5 => if r4 = 0 then some ((0 : Int32), M5) else some ((1 : Int32), M5))) := fun _ => rfl
  unfold F_X3_takes takeF
  by_cases h0 : rS q = 0
  · rw [if_pos (show M.1 68 0 = (0 : Int32) by rw [s0]; exact h0), if_pos h0, e16]
    by_cases h32 : c = 32
    · rw [if_pos h32, if_pos h32]
      exact Or.inr ⟨q, rfl, M, rfl, Out.rf, hc, ho⟩
    · rw [if_neg h32, if_neg h32, if_pos (show M.1 68 0 = (0 : Int32) by rw [s0]; exact h0)]
      unfold F_X3_takesSun
      by_cases h122 : c = 122
      · rw [if_pos h122, if_pos h122, lt1_s, ob2_s, if_neg one_ne]
        obtain ⟨s, m, r, su, k, b, sh, v⟩ := q
        obtain ⟨o1, o2, o3, o4, o5, o6, o7, o8, o9, o10⟩ := ho
        obtain ⟨c1, c2, c3, c4, c5, c6, c7, c8⟩ := hc
        simp only [rS, rM, rR, rSu, rK, rB, rSh, rV] at *
        refine Or.inr ⟨_, rfl, _, rfl, (Out.rf).pI (by unfold pS; omega), ?_, ?_⟩
        · refine ⟨pI_s, by rw [pI_n (by omega)]; exact c2, fun h => absurd h (by show ¬ 10 ≤ 1; omega), fun j h1 h2 => absurd h2 (by show ¬ j + 1 < 1; omega), fun i hi => ?_, fun h => absurd h (by show ¬ 11 ≤ 1; omega), fun h => absurd h (by show ¬ 12 ≤ 1; omega), fun h => absurd h (by show ¬ 14 ≤ 1; omega)⟩
          rw [pI_n (by omega), pI_n (by omega), pI_n (by omega), pI_n (by omega)]
          exact c5 i hi
        · exact ⟨by show 1 ≤ 14; omega, o2, o3, fun h => absurd h (by show ¬ 10 ≤ 1; omega), o5, o6, fun h => absurd h (by show ¬ 11 ≤ 1; omega), fun h => absurd h (by show ¬ 12 ≤ 1; omega), fun h => absurd h (by show ¬ 1 = 12; omega), fun h => absurd h (by show ¬ 14 ≤ 1; omega)⟩
      · rw [if_neg h122, if_neg h122]
        exact Or.inl ⟨rfl, M, rfl, Out.rf⟩
  · rw [if_neg (show ¬ M.1 68 0 = (0 : Int32) by rw [s0]; exact h0), if_neg h0]
    by_cases h10 : rS q = 10
    · rw [if_pos (show M.1 68 0 = (10 : Int32) by rw [s10]; exact h10), if_pos h10, e16]
      by_cases h32 : c = 32
      · rw [if_pos h32, if_pos h32]
        exact Or.inr ⟨q, rfl, M, rfl, Out.rf, hc, ho⟩
      · rw [if_neg h32, if_neg h32, if_neg (show ¬ M.1 68 0 = (0 : Int32) by rw [s0]; exact h0)]
        rcases let_C (fu := fu) ho hc h10 c with ⟨e1, e2⟩ | ⟨q', e1, M', e2, e3, e4, e5⟩
        · rw [e1, e2]
          exact Or.inl ⟨rfl, M, rfl, Out.rf⟩
        · rw [e1, e2]
          exact Or.inr ⟨q', rfl, M', rfl, e3, e4, e5⟩
    · rw [if_neg (show ¬ M.1 68 0 = (10 : Int32) by rw [s10]; exact h10), if_neg h10]
      rcases dgF_c c with ⟨d1, d2, d3⟩ | ⟨d, hd, rfl⟩
      · rw [d1]
        refine Or.inl ⟨rfl, M, ?_, Out.rf⟩
        rcases d2 with d2 | ⟨d2, d4⟩
        · rw [if_pos d2]
        · rw [if_neg d2, if_pos d4]
      · obtain ⟨g1, g2⟩ := dgF_d hd
        rw [g1, g2, if_neg (nI_pos (by omega)), L9, if_neg (nI_nlt hd (by omega))]
        show (figT q d = none ∧ _) ∨ ∃ q', figT q d = some q' ∧ _
        rcases fig_C (fu := fu) ho hc hd h0 h10 with ⟨e1, M', e2, e3⟩ | ⟨q', e1, M', e2, e3, e4, e5⟩
        · rw [e1, e2]
          exact Or.inl ⟨rfl, M', rfl, e3⟩
        · rw [e1, e2]
          exact Or.inr ⟨q', rfl, M', rfl, e3, e4, e5⟩
/-- from place k on, m signs: the fault's place, or what was read -/
def rdF (f : Nat → Int32) : Nat → Nat → RS → Nat ⊕ RS
  | 0, k, q => if rS q = 10 ∧ 0 < rM q then .inr q else .inl k
  | m + 1, k, q => match takeF q (f k) with
    | none => .inl k
    | some q' => rdF f m (k + 1) q'
def rdI : Nat ⊕ RS → Int32
  | .inl k => nI k
  | .inr _ => -9
theorem faultIn_C12 {fu : Nat} {t N : Nat} (ht : t < 4) (hN : N ≤ 60) {f : Nat → Int32} : ∀ (m n : Nat) (M : Mm) (k : Nat) (q : RS), k + m = N → m < n → okR q → CS q M → M.1 (13 + t) 1 = nI N → (∀ j, j < N → M.1 (13 + t + 4) j = f j) → ∃ M', F_X3_faultIn_12 fu n M (13 + t) (nI k) = some (rdI (rdF f m k q), M') ∧ Out pS M M' ∧ ∀ q', rdF f m k q = .inr q' → CS q' M' ∧ okR q' ∧ rS q' = 10 ∧ 0 < rM q' := by
  intro m
  induction m with
  | zero =>
    intro n M k q hk hn ho hc h1 h2
    obtain ⟨n, rfl⟩ : ∃ q, n = q + 1 := ⟨n - 1, by omega⟩
    refine ⟨M, ?_, Out.rf, fun q' e => ?_⟩
    · unfold F_X3_faultIn_12 rdF
      rw [h1, if_pos (nI_le (by omega) (by omega))]
      have hm := ho.2.1
      by_cases h10 : rS q = 10
      · rw [if_pos (show M.1 68 0 = (10 : Int32) by rw [hc.1, h10]; rfl), hc.2.1]
        by_cases h0 : 0 < rM q
        · rw [if_neg (nI_nle h0 (by omega)), if_pos ⟨h10, h0⟩]
          rfl
        · rw [if_pos (le00 (by omega)), if_neg (fun z => h0 z.2), show N = k by omega]
          rfl
      · rw [if_neg (show ¬ M.1 68 0 = (10 : Int32) by rw [L10, stE hc.1 ho.1 (by decide)]; exact h10), if_neg (fun z => h10 z.1), show N = k by omega]
        rfl
    · unfold rdF at e
      by_cases h : rS q = 10 ∧ 0 < rM q
      · rw [if_pos h] at e
        injection e with e
        subst e
        exact ⟨hc, ho, h⟩
      · rw [if_neg h] at e
        cases e
  | succ m ih =>
    intro n M k q hk hn ho hc h1 h2
    obtain ⟨n, rfl⟩ : ∃ q, n = q + 1 := ⟨n - 1, by omega⟩
    unfold F_X3_faultIn_12 rdF
    rw [h1, if_neg (nI_ge (by omega) (by omega)), sign_C ht (by omega), ob1_s, h2 k (by omega)]
    rcases takes_C (fu := fu) ho hc (f k) with ⟨e1, M', e2, e3⟩ | ⟨q', e1, M', e2, e3, e4, e5⟩
    · rw [e1, e2, ob2_s, if_pos rfl]
      exact ⟨M', rfl, e3, fun q' e => by cases e⟩
    · rw [e1, e2, ob2_s, if_neg one_ne, nI_1]
      obtain ⟨M2, a1, a2, a3⟩ := ih n M' (k + 1) q' (by omega) (by omega) e5 e4 (by rw [(e3 _ _ (by unfold pS; omega)).1]; exact h1) (fun j hj => by rw [(e3 _ _ (by unfold pS; omega)).1]; exact h2 j hj)
      exact ⟨M2, a1, e3.trans a2, a3⟩
def q0 : RS := (0, 0, 0, fun _ => 0, fun _ => 0, fun _ => 0, fun _ => 0, fun _ => 0)
theorem q0_ok : okR q0 := ⟨Nat.zero_le _, Nat.zero_le _, Nat.zero_le _, fun h => absurd h (by show ¬ 10 ≤ 0; omega), fun _ => Nat.zero_le _, fun i hi => absurd hi (Nat.not_lt_zero i), fun h => absurd h (by show ¬ 11 ≤ 0; omega), fun h => absurd h (by show ¬ 12 ≤ 0; omega), fun h => absurd h (by show ¬ 0 = 12; omega), fun h => absurd h (by show ¬ 14 ≤ 0; omega)⟩
theorem faultIn_C {fu : Nat} (hf : 1000 ≤ fu) {M : Mm} {t N : Nat} (ht : t < 4) (hN : N ≤ 60) {f : Nat → Int32} (h1 : M.1 (13 + t) 1 = nI N) (h2 : ∀ j, j < N → M.1 (13 + t + 4) j = f j) : ∃ M', F_X3_faultIn fu M (13 + t) = some (rdI (rdF f N 0 q0), M') ∧ Out pS M M' ∧ ∀ q', rdF f N 0 q0 = .inr q' → CS q' M' ∧ okR q' ∧ rS q' = 10 ∧ 0 < rM q' := by
  have o1 : Out pS M (pI (pI M 68 0 0) 68 1 0) := ((Out.rf).pI (by unfold pS; omega)).pI (by unfold pS; omega)
  obtain ⟨M', a1, a2, a3⟩ := faultIn_C12 (fu := fu) ht hN (f := f) N fu (pI (pI M 68 0 0) 68 1 0) 0 q0 (by omega) (by omega) q0_ok ⟨by rw [pI_n (by omega), pI_s]; rfl, by rw [pI_s]; rfl, fun h => absurd h (by show ¬ 10 ≤ 0; omega), fun j _ h => absurd h (by show ¬ j + 1 < 0; omega), fun i hi => absurd hi (Nat.not_lt_zero i), fun h => absurd h (by show ¬ 11 ≤ 0; omega), fun h => absurd h (by show ¬ 12 ≤ 0; omega), fun h => absurd h (by show ¬ 14 ≤ 0; omega)⟩ (by rw [(o1 _ _ (by unfold pS; omega)).1]; exact h1) (fun j hj => by rw [(o1 _ _ (by unfold pS; omega)).1]; exact h2 j hj)
  refine ⟨M', ?_, o1.trans a2, a3⟩
  unfold F_X3_faultIn
  rw [lt1_s, lt1_s]
  exact a1

/-! a text is read: the reference -/
theorem figT_9 {m r : Nat} {su k b sh v : Nat → Nat} {d : Nat} : figT (9, m, r, su, k, b, sh, v) d = if 0 < d then some (10, m, d, su, k, b, sh, v) else none := rfl
theorem figT_11 {m r : Nat} {su k b sh v : Nat → Nat} {d : Nat} : figT (11, m, r, su, k, b, sh, v) d = some (12, m, r, su, k, setf b m (10 * d), sh, v) := rfl
theorem figT_12 {m r : Nat} {su k b sh v : Nat → Nat} {d : Nat} : figT (12, m, r, su, k, b, sh, v) d = if 0 < b m + d then some (13, m, r, su, k, setf b m (b m + d), sh, v) else none := rfl
theorem figT_13 {m r : Nat} {su k b sh v : Nat → Nat} {d : Nat} : figT (13, m, r, su, k, b, sh, v) d = some (14, m, r, su, k, b, setf sh m d, v) := rfl
theorem figT_14 {m r : Nat} {su k b sh v : Nat → Nat} {d : Nat} : figT (14, m, r, su, k, b, sh, v) d = if d ≤ 1 then some (10, m + 1, r, su, k, b, sh, setf v m d) else none := rfl
theorem figT_j {j m r : Nat} {su k b sh v : Nat → Nat} {d : Nat} (hj : j < 8) : figT (j + 1, m, r, su, k, b, sh, v) d = some (j + 2, m, r, setf su j d, k, b, sh, v) := by
  show figU (j + 1) m r su k b sh v d = _
  unfold figU
  rw [if_neg (by omega), if_neg (by omega), if_neg (by omega), if_neg (by omega), if_neg (by omega)]
  rfl
def pQ (x j : Nat) : Prop := (x = 86 ∧ (j = 22 ∨ j = 28 ∨ j = 29)) ∨ (101 ≤ x ∧ x ≤ 105)
def chr (f : Nat → Int32) (N k : Nat) : Int32 := if k < N then f k else -9
theorem rd_step {f : Nat → Int32} {N k : Nat} {q q' : RS} (hk : k < N) (h : takeF q (f k) = some q') : rdF f (N - k) k q = rdF f (N - (k + 1)) (k + 1) q' := by
  rw [show N - k = (N - (k + 1)) + 1 by omega, rdF, h]
theorem rd_stop {f : Nat → Int32} {N k : Nat} {q : RS} (hk : k < N) (h : takeF q (f k) = none) : rdF f (N - k) k q = .inl k := by
  rw [show N - k = (N - (k + 1)) + 1 by omega, rdF, h]
theorem rd_end {f : Nat → Int32} {N : Nat} {q : RS} (h : ¬ (rS q = 10 ∧ 0 < rM q)) : rdF f (N - N) N q = .inl N := by
  rw [Nat.sub_self, rdF, if_neg h]
theorem rd_fig {f : Nat → Int32} {N k d : Nat} {q q' : RS} (h0 : rS q ≠ 0) (h10 : rS q ≠ 10) (hk : k < N) (hd : d ≤ 9) (hc : f k = nI (48 + d)) (h : figT q d = some q') : rdF f (N - k) k q = rdF f (N - (k + 1)) (k + 1) q' := by
  refine rd_step hk ?_
  unfold takeF
  rw [if_neg h0, if_neg h10, hc, (dgF_d hd).1]
  exact h
theorem rd_nofig {f : Nat → Int32} {N k : Nat} {q : RS} (h0 : rS q ≠ 0) (h10 : rS q ≠ 10) (hk : k ≤ N) (h : ∀ d, d ≤ 9 → k < N → f k = nI (48 + d) → figT q d = none) : rdF f (N - k) k q = .inl k := by
  by_cases hkN : k < N
  · refine rd_stop hkN ?_
    unfold takeF
    rw [if_neg h0, if_neg h10]
    rcases dgF_c (f k) with ⟨d1, d2, d3⟩ | ⟨d, hd, e⟩
    · rw [d1]
    · rw [e, (dgF_d hd).1]
      exact h d hd hkN e
  · have : k = N := by omega
    subst this
    exact rd_end fun z => h10 z.1
/-! fault, north -/
theorem pS_s {x j : Nat} (h : pS x j) : scr x j := by unfold pS at h; unfold scr sT sR sX sN; omega
theorem pQ_s {x j : Nat} (h : pQ x j) : scr x j := by unfold pQ at h; unfold scr sT sR sX sN; omega
/-- the north that was read -/
def newV (q : RS) : NV := (rM q, rR q, 0, rSu q, rK q, rV q, rB q, rSh q)
def newN (q : RS) : Ns := (newV q, (fun _ => (0, 0, 0)), 0, rR q)
theorem newN_ok {q : RS} (h : okR q) (h10 : rS q = 10) (h0 : 0 < rM q) : okN (newN q) := by
  obtain ⟨o1, o2, o3, o4, o5, o6, -⟩ := h
  exact ⟨⟨o2, o5, fun i hi => ⟨(o6 i hi).1, (o6 i hi).2.2.2, (o6 i hi).2.1, (o6 i hi).2.2.1⟩⟩, rfl, Nat.zero_le _, fun k hk => absurd hk (Nat.not_lt_zero k), o3, fun _ => o4 (by omega), fun e => absurd e (by show ¬ rM q = 0; omega)⟩
theorem settle_C {fu : Nat} (hf : 1000 ≤ fu) {M : Mm} {q : RS} (ho : okR q) (h10 : rS q = 10) (hc : CS q M) : ∃ M', F_X2_settle fu M 24 = some M' ∧ CN 24 (newN q) M' ∧ Out (fun x _ => 24 ≤ x ∧ x ≤ 31) M M' := by
  obtain ⟨o1, o2, o3, o4, o5, o6, -⟩ := ho
  obtain ⟨c1, c2, c3, c4, c5, -⟩ := hc
  have oA : Out (fun x _ => 24 ≤ x ∧ x ≤ 31) M (pI (pI M 24 0 (M.1 68 1)) 24 1 (M.1 68 2)) := ((Out.rf).pI (by omega)).pI (by omega)
  obtain ⟨M1, a1, a2, a3⟩ := writeAll_C (a := 25) (b := 69) (N := 8) hf (by decide) (by decide) (by decide) (by decide) (pI (pI M 24 0 (M.1 68 1)) 24 1 (M.1 68 2))
  obtain ⟨M2, b1, b2, b3⟩ := writeAll_C (a := 26) (b := 70) (N := 6) hf (by decide) (by decide) (by decide) (by decide) M1
  obtain ⟨M3, d1, d2, d3⟩ := writeAll_C (a := 27) (b := 73) (N := 6) hf (by decide) (by decide) (by decide) (by decide) M2
  obtain ⟨M4, e1, e2, e3⟩ := writeAll_C (a := 30) (b := 71) (N := 6) hf (by decide) (by decide) (by decide) (by decide) M3
  obtain ⟨M5, f1, f2, f3⟩ := writeAll_C (a := 31) (b := 72) (N := 6) hf (by decide) (by decide) (by decide) (by decide) M4
  obtain ⟨M6, g1, g2, g3⟩ := writeAll_C (a := 28) (b := 30) (N := 6) hf (by decide) (by decide) (by decide) (by decide) (pI (pI M5 24 3 0) 24 2 0)
  obtain ⟨M7, k1, k2, k3⟩ := writeAll_C (a := 29) (b := 31) (N := 6) hf (by decide) (by decide) (by decide) (by decide) M6
  have o5' : Out (fun x _ => 24 ≤ x ∧ x ≤ 31) M M5 := ((((oA.trans (a3.wk fun x j q => by omega)).trans (b3.wk fun x j q => by omega)).trans (d3.wk fun x j q => by omega)).trans (e3.wk fun x j q => by omega)).trans (f3.wk fun x j q => by omega)
  have oP : Out (fun x j => x = 24 ∧ (j = 2 ∨ j = 3)) M5 (pI (pI M5 24 3 0) 24 2 0) := ((Out.rf).pI (by omega)).pI (by omega)
  have oR : Out (fun x j => (x = 24 ∧ (j = 2 ∨ j = 3)) ∨ x = 28 ∨ x = 29) M5 M7 := ((oP.wk fun x j q => by omega).trans (g3.wk fun x j q => by omega)).trans (k3.wk fun x j q => by omega)
  have v24 : ∀ j, M5.1 24 j = (pI (pI M 24 0 (M.1 68 1)) 24 1 (M.1 68 2)).1 24 j := fun j => by rw [(f3 _ _ (by omega)).1, (e3 _ _ (by omega)).1, (d3 _ _ (by omega)).1, (b3 _ _ (by omega)).1, (a3 _ _ (by omega)).1]
  have v25 : ∀ j, j < 8 → M5.1 25 j = M.1 69 j := fun j hj => by rw [(f3 _ _ (by omega)).1, (e3 _ _ (by omega)).1, (d3 _ _ (by omega)).1, (b3 _ _ (by omega)).1, a2 j hj, (oA _ _ (by omega)).1]
  have v26 : ∀ j, j < 6 → M5.1 26 j = M.1 70 j := fun j hj => by rw [(f3 _ _ (by omega)).1, (e3 _ _ (by omega)).1, (d3 _ _ (by omega)).1, b2 j hj, (a3 _ _ (by omega)).1, (oA _ _ (by omega)).1]
  have v27 : ∀ j, j < 6 → M5.1 27 j = M.1 73 j := fun j hj => by rw [(f3 _ _ (by omega)).1, (e3 _ _ (by omega)).1, d2 j hj, (b3 _ _ (by omega)).1, (a3 _ _ (by omega)).1, (oA _ _ (by omega)).1]
  have v30 : ∀ j, j < 6 → M5.1 30 j = M.1 71 j := fun j hj => by rw [(f3 _ _ (by omega)).1, e2 j hj, (d3 _ _ (by omega)).1, (b3 _ _ (by omega)).1, (a3 _ _ (by omega)).1, (oA _ _ (by omega)).1]
  have v31 : ∀ j, j < 6 → M5.1 31 j = M.1 72 j := fun j hj => by rw [f2 j hj, (e3 _ _ (by omega)).1, (d3 _ _ (by omega)).1, (b3 _ _ (by omega)).1, (a3 _ _ (by omega)).1, (oA _ _ (by omega)).1]
  refine ⟨M7, ?_, ?_, o5'.trans (oR.wk fun x j q => by omega)⟩
  · unfold F_X2_settle F_X2_restart
    rw [lt1_s, pI_n (x := 24) (y := 68) (by omega), lt1_s, show 24 + 1 = 25 from rfl, show 24 + 2 = 26 from rfl, show 24 + 3 = 27 from rfl, show 24 + 4 = 28 from rfl, show 24 + 5 = 29 from rfl, show 24 + 6 = 30 from rfl, show 24 + 7 = 31 from rfl, a1, ob1_s, b1, ob1_s, d1, ob1_s, e1, ob1_s, f1, ob1_s, lt1_s, lt1_s, g1, ob1_s, k1, ob1_s, ob1_s]
  · refine ⟨?_, ?_, ?_, ?_, fun j hj => ?_, fun i hi => ?_, fun k hk => absurd hk (Nat.not_lt_zero k)⟩
    · rw [(oR _ _ (by omega)).1, v24, pI_n (by omega), pI_s, c2]
      rfl
    · rw [(oR _ _ (by omega)).1, v24, pI_s, c3 (by omega)]
      rfl
    · rw [(k3 _ _ (by omega)).1, (g3 _ _ (by omega)).1, pI_s]
      rfl
    · rw [(k3 _ _ (by omega)).1, (g3 _ _ (by omega)).1, pI_n (by omega), pI_s]
      rfl
    · rw [(oR _ _ (by omega)).1, v25 j hj, c4 j hj (by omega)]
      rfl
    · have hi : i < rM q := hi
      have e := c5 i hi
      refine ⟨?_, ?_, ?_, ?_, ?_, ?_⟩
      · rw [(oR _ _ (by omega)).1, v26 i (by omega), e.1]
        rfl
      · rw [(oR _ _ (by omega)).1, v27 i (by omega), e.2.2.2]
        rfl
      · rw [(k3 _ _ (by omega)).1, g2 i (by omega), (oP _ _ (by omega)).1, v30 i (by omega), e.2.1]
        rfl
      · rw [k2 i (by omega), (g3 _ _ (by omega)).1, (oP _ _ (by omega)).1, v31 i (by omega), e.2.2.1]
        rfl
      · rw [(oR _ _ (by omega)).1, v30 i (by omega), e.2.1]
        rfl
      · rw [(oR _ _ (by omega)).1, v31 i (by omega), e.2.2.1]
        rfl
theorem north_C54 {fu : Nat} : ∀ (m n : Nat) (M : Mm) (k : Nat), k + m = 3 → m < n → (∀ j, j < k → M.1 (35 + 11 * j) 0 = 0) → ∃ M', F_X6_north_54 fu n M (nI k) = some (M.1 24 0, M') ∧ (∀ j, j < 3 → M'.1 (35 + 11 * j) 0 = 0) ∧ Out (fun x j => (x = 35 ∨ x = 46 ∨ x = 57) ∧ j = 0) M M' := by
  intro m
  induction m with
  | zero =>
    intro n M k hk hn h
    obtain ⟨n, rfl⟩ : ∃ q, n = q + 1 := ⟨n - 1, by omega⟩
    refine ⟨M, ?_, fun j hj => h j (by omega), Out.rf⟩
    unfold F_X6_north_54
    rw [L3, if_pos (nI_le (by omega) (by omega))]
  | succ m ih =>
    intro n M k hk hn h
    obtain ⟨n, rfl⟩ : ∃ q, n = q + 1 := ⟨n - 1, by omega⟩
    obtain ⟨M', a1, a2, a3⟩ := ih n (pI M (35 + 11 * k) 0 0) (k + 1) (by omega) (by omega) (fun j hj => by
      by_cases hjk : j = k
      · rw [hjk, pI_s]
      · rw [pI_n (by omega)]
        exact h j (by omega))
    rw [pI_n (by omega)] at a1
    refine ⟨M', ?_, a2, ((Out.rf).pI (by omega)).trans a3⟩
    unfold F_X6_north_54
    rw [L3, if_neg (nI_ge (by omega) (by omega)), keptOf_C1 (by omega), ob1_s, op1_s, kd_K (by omega), if_neg (by decide), lt1_s, nI_1]
    exact a1
