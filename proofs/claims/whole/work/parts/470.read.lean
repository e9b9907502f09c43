/-! a text is read -/
/-- stage, men, right, suns, kinds, bulks, shades, votes -/
abbrev RS : Type := Nat × Nat × Nat × (Nat → Nat) × (Nat → Nat) × (Nat → Nat) × (Nat → Nat) × (Nat → Nat)
def rS (q : RS) : Nat := q.1
def rM (q : RS) : Nat := q.2.1
def rR (q : RS) : Nat := q.2.2.1
def rSu (q : RS) : Nat → Nat := q.2.2.2.1
def rK (q : RS) : Nat → Nat := q.2.2.2.2.1
def rB (q : RS) : Nat → Nat := q.2.2.2.2.2.1
def rSh (q : RS) : Nat → Nat := q.2.2.2.2.2.2.1
def rV (q : RS) : Nat → Nat := q.2.2.2.2.2.2.2
def setf (f : Nat → Nat) (i x : Nat) : Nat → Nat := fun j => if j = i then x else f j
theorem setf_s {f : Nat → Nat} {i x : Nat} : setf f i x i = x := if_pos rfl
theorem setf_n {f : Nat → Nat} {i x j : Nat} (h : j ≠ i) : setf f i x j = f j := if_neg h
def kindN (c : Int32) : Option Nat := if c = 104 then some 1 else if c = 105 then some 5 else if c = 108 then some 4 else if c = 109 then some 0 else if c = 115 then some 3 else if c = 119 then some 2 else none
def dgF (c : Int32) : Option Nat := if c - 48 < 0 then none else if (9 : Int32) < c - 48 then none else some (c - 48).toNatClampNeg
/-- a figure is taken -/
def figU (s m r : Nat) (su k b sh v : Nat → Nat) (d : Nat) : Option RS :=
  if s = 9 then (if 0 < d then some (10, m, d, su, k, b, sh, v) else none)
  else if s = 11 then some (12, m, r, su, k, setf b m (10 * d), sh, v)
  else if s = 12 then (if 0 < b m + d then some (13, m, r, su, k, setf b m (b m + d), sh, v) else none)
  else if s = 13 then some (14, m, r, su, k, b, setf sh m d, v)
  else if s = 14 then (if d ≤ 1 then some (10, m + 1, r, su, k, b, sh, setf v m d) else none)
  else some (s + 1, m, r, setf su (s - 1) d, k, b, sh, v)
def figT (q : RS) (d : Nat) : Option RS := figU (rS q) (rM q) (rR q) (rSu q) (rK q) (rB q) (rSh q) (rV q) d
def letT (q : RS) (c : Int32) : Option RS := match kindN c with
  | none => none
  | some k => if rM q < 6 then some (11, rM q, rR q, rSu q, setf (rK q) (rM q) k, rB q, rSh q, rV q) else none
def takeF (q : RS) (c : Int32) : Option RS :=
  if rS q = 0 then (if c = 32 then some q else if c = 122 then some (1, rM q, rR q, rSu q, rK q, rB q, rSh q, rV q) else none)
  else if rS q = 10 then (if c = 32 then some q else letT q c)
  else match dgF c with
    | none => none
    | some d => figT q d
def okR (q : RS) : Prop := rS q ≤ 14 ∧ rM q ≤ 6 ∧ rR q ≤ 9 ∧ (10 ≤ rS q → 1 ≤ rR q) ∧ (∀ j, rSu q j ≤ 9) ∧ (∀ i, i < rM q → rK q i ≤ 5 ∧ rB q i ≤ 99 ∧ rSh q i ≤ 9 ∧ rV q i ≤ 1) ∧ (11 ≤ rS q → rM q < 6 ∧ rK q (rM q) ≤ 5) ∧ (12 ≤ rS q → rB q (rM q) ≤ 99) ∧ (rS q = 12 → rB q (rM q) ≤ 90) ∧ (14 ≤ rS q → rSh q (rM q) ≤ 9)
/-- what the class has read -/
def CS (q : RS) (M : Mm) : Prop := M.1 68 0 = nI (rS q) ∧ M.1 68 1 = nI (rM q) ∧ (10 ≤ rS q → M.1 68 2 = nI (rR q)) ∧ (∀ j, j < 8 → j + 1 < rS q → M.1 69 j = nI (rSu q j)) ∧ (∀ i, i < rM q → M.1 70 i = nI (rK q i) ∧ M.1 71 i = nI (rB q i) ∧ M.1 72 i = nI (rSh q i) ∧ M.1 73 i = nI (rV q i)) ∧ (11 ≤ rS q → M.1 70 (rM q) = nI (rK q (rM q))) ∧ (12 ≤ rS q → M.1 71 (rM q) = nI (rB q (rM q))) ∧ (14 ≤ rS q → M.1 72 (rM q) = nI (rSh q (rM q)))
theorem dgF_d {d : Nat} (h : d ≤ 9) : dgF (nI (48 + d)) = some d ∧ nI (48 + d) - 48 = nI d := by
  have e : nI (48 + d) - 48 = nI d := by rw [L48, pk_sub (by omega)]; exact congrArg nI (by omega)
  refine ⟨?_, e⟩
  unfold dgF
  rw [e, if_neg (nI_pos (by omega)), L9, if_neg (nI_nlt h (by omega)), clN (by omega)]
theorem dgF_c (c : Int32) : (dgF c = none ∧ (c - 48 < 0 ∨ (¬ c - 48 < 0 ∧ (9 : Int32) < c - 48)) ∧ ∀ d, d ≤ 9 → ¬ c = nI (48 + d)) ∨ ∃ d, d ≤ 9 ∧ c = nI (48 + d) := by
  by_cases h : ∃ d, d ≤ 9 ∧ c = nI (48 + d)
  · exact Or.inr h
  · refine Or.inl ?_
    have hn : ∀ d, d ≤ 9 → ¬ c = nI (48 + d) := fun d hd e => h ⟨d, hd, e⟩
    have hc : c - 48 < 0 ∨ (¬ c - 48 < 0 ∧ (9 : Int32) < c - 48) := by
      by_cases h0 : c - 48 < 0
      · exact Or.inl h0
      · rcases pk_ix (c - 48) (n := 10) (by decide) with q | q | ⟨j, hj, q⟩
        · exact absurd q h0
        · refine Or.inr ⟨h0, ?_⟩
          have q1 := Int32.le_iff_toInt_le.mp q
          rw [nI_toInt (by decide)] at q1
          rw [Int32.lt_iff_toInt_lt, show (9 : Int32).toInt = 9 from rfl]
          omega
        · exfalso
          refine hn j (by omega) ?_
          rw [Nat.add_comm, ← nI_add, ← q, show nI 48 = (48 : Int32) from rfl, Int32.sub_add_cancel]
    refine ⟨?_, hc, hn⟩
    unfold dgF
    rcases hc with hc | ⟨h0, hc⟩
    · rw [if_pos hc]
    · rw [if_neg h0, if_pos hc]
def pS (x : Nat) (_ : Nat) : Prop := 68 ≤ x ∧ x ≤ 73
theorem stE {M : Mm} {s : Nat} (h : M.1 68 0 = nI s) (hs : s ≤ 14) {n : Nat} (hn : n < 100) : (M.1 68 0 = nI n) = (s = n) := by rw [h, eqN (by omega) (by omega)]
theorem fig192 {fu : Nat} {M : Mm} {s : Nat} (h : M.1 68 0 = nI s) (hs : s ≤ 14) (b : Bool) : F_X3_takesFigure_192 fu M (bI b) = some (bI b, pI M 68 0 (nI (if s = 14 then 10 else s + 1))) := by
  unfold F_X3_takesFigure_192
  by_cases h14 : s = 14
  · rw [if_pos (show M.1 68 0 = (14 : Int32) by rw [h, h14]; rfl), lt1_s, if_neg (bI_01 b), if_pos h14]
    rfl
  · rw [if_neg (show ¬ M.1 68 0 = (14 : Int32) by rw [L14, stE h hs (by decide)]; exact h14), lt1_s, if_neg (bI_01 b), if_neg h14, h, nI_1]
theorem fig_C {fu : Nat} {M : Mm} {q : RS} (ho : okR q) (hc : CS q M) {d : Nat} (hd : d ≤ 9) (h0 : rS q ≠ 0) (h10 : rS q ≠ 10) : (figT q d = none ∧ ∃ M', F_X3_takesFigure fu M (nI d) = some (0, M') ∧ Out pS M M') ∨ ∃ q', figT q d = some q' ∧ ∃ M', F_X3_takesFigure fu M (nI d) = some (1, M') ∧ Out pS M M' ∧ CS q' M' ∧ okR q' := by
  obtain ⟨s, m, r, su, k, b, sh, v⟩ := q
  obtain ⟨o1, o2, o3, o4, o5, o6, o7, o8, o9, o10⟩ := ho
  obtain ⟨c1, c2, c3, c4, c5, c6, c7, c8⟩ := hc
  simp only [rS, rM, rR, rSu, rK, rB, rSh, rV] at *
  have st : ∀ n, n < 100 → (M.1 68 0 = nI n) = (s = n) := fun n hn => stE c1 o1 hn
  show (figU s m r su k b sh v d = none ∧ ∃ M', F_X3_takesFigure fu M (nI d) = some (0, M') ∧ Out pS M M') ∨ ∃ q', figU s m r su k b sh v d = some q' ∧ ∃ M', F_X3_takesFigure fu M (nI d) = some (1, M') ∧ Out pS M M' ∧ CS q' M' ∧ okR q'
  unfold F_X3_takesFigure figU
  rw [L9, L11, L12, L13, L14]
  by_cases h9 : s = 9
  · rw [if_pos (show M.1 68 0 = nI 9 by rw [st 9 (by decide)]; exact h9), if_pos h9]
    have e53 : ∀ t0 : Int32, F_X3_takesFigure_53 fu M (nI d) t0 = F_X3_takesFigure_192 fu (pI M 68 2 (nI d)) t0 := fun _ => rfl
    rw [e53, e53]
    have hA : (pI M 68 2 (nI d)).1 68 0 = nI s := by rw [pI_n (by omega)]; exact c1
    by_cases hd0 : 0 < d
    · rw [if_neg (nI_nle hd0 (by omega)), if_pos hd0]
      refine Or.inr ⟨_, rfl, _, fig192 hA o1 true, ((Out.rf).pI (by unfold pS; omega)).pI (by unfold pS; omega), ?_, ?_⟩
      · rw [if_neg (by omega)]
        subst h9
        refine ⟨pI_s, by rw [pI_n (by omega), pI_n (by omega)]; exact c2, fun _ => by rw [pI_n (by omega), pI_s]; rfl, fun j h1 h2 => by rw [pI_n (by omega), pI_n (by omega)]; exact c4 j h1 (by omega), fun i hi => ?_, fun h => absurd h (by show ¬ 11 ≤ 10; omega), fun h => absurd h (by show ¬ 12 ≤ 10; omega), fun h => absurd h (by show ¬ 14 ≤ 10; omega)⟩
        rw [pI_n (by omega), pI_n (by omega), pI_n (by omega), pI_n (by omega), pI_n (by omega), pI_n (by omega), pI_n (by omega), pI_n (by omega)]
        exact c5 i hi
      · exact ⟨by show 10 ≤ 14; omega, o2, hd, fun _ => hd0, o5, o6, fun h => absurd h (by show ¬ 11 ≤ 10; omega), fun h => absurd h (by show ¬ 12 ≤ 10; omega), fun h => absurd h (by show ¬ 10 = 12; omega), fun h => absurd h (by show ¬ 14 ≤ 10; omega)⟩
    · rw [if_pos (le00 (by omega)), if_neg hd0]
      exact Or.inl ⟨rfl, _, fig192 hA o1 false, ((Out.rf).pI (by unfold pS; omega)).pI (by unfold pS; omega)⟩
  · rw [if_neg (show ¬ M.1 68 0 = nI 9 by rw [st 9 (by decide)]; exact h9), if_neg h9]
    by_cases h11 : s = 11
    · rw [if_pos (show M.1 68 0 = nI 11 by rw [st 11 (by decide)]; exact h11), if_pos h11]
      obtain ⟨hm6, hk5⟩ := o7 (by omega)
      rw [c2, L10, pk_mul, wr71 hm6, ob1_s]
      have hA : (pI M 71 m (nI (10 * d))).1 68 0 = nI s := by rw [pI_n (by omega)]; exact c1
      refine Or.inr ⟨_, rfl, _, fig192 hA o1 true, ((Out.rf).pI (by unfold pS; omega)).pI (by unfold pS; omega), ?_, ?_⟩
      · rw [if_neg (by omega)]
        subst h11
        refine ⟨pI_s, by rw [pI_n (by omega), pI_n (by omega)]; exact c2, fun h => by rw [pI_n (by omega), pI_n (by omega)]; exact c3 (by omega), fun j h1 h2 => by rw [pI_n (by omega), pI_n (by omega)]; exact c4 j h1 (by omega), fun i hi => ?_, fun h => by rw [pI_n (by omega), pI_n (by omega)]; exact c6 (by omega), fun h => ?_, fun h => absurd h (by show ¬ 14 ≤ 12; omega)⟩
        · have hi : i < m := hi
          rw [pI_n (by omega), pI_n (by omega), pI_n (by omega), pI_n (by omega), pI_n (by omega), pI_n (by omega), pI_n (by omega), pI_n (by omega)]
          show _ ∧ _ = nI (setf b m (10 * d) i) ∧ _
          rw [setf_n (by omega)]
          exact c5 i hi
        · show (pI (pI M 71 m (nI (10 * d))) 68 0 _).1 71 m = nI (setf b m (10 * d) m)
          rw [pI_n (by omega), pI_s, setf_s]
      · refine ⟨by show 12 ≤ 14; omega, o2, o3, fun _ => o4 (by omega), o5, fun i hi => ?_, fun _ => ⟨hm6, hk5⟩, fun _ => ?_, fun _ => ?_, fun h => absurd h (by show ¬ 14 ≤ 12; omega)⟩
        · have hi : i < m := hi
          show k i ≤ 5 ∧ setf b m (10 * d) i ≤ 99 ∧ _
          rw [setf_n (by omega)]
          exact o6 i hi
        · show setf b m (10 * d) m ≤ 99
          rw [setf_s]; omega
        · show setf b m (10 * d) m ≤ 90
          rw [setf_s]; omega
    · rw [if_neg (show ¬ M.1 68 0 = nI 11 by rw [st 11 (by decide)]; exact h11), if_neg h11]
      by_cases h12 : s = 12
      · rw [if_pos (show M.1 68 0 = nI 12 by rw [st 12 (by decide)]; exact h12), if_pos h12]
        obtain ⟨hm6, hk5⟩ := o7 (by omega)
        have hb90 := o9 h12
        unfold F_X3_takesFigure_123
        rw [c2, rd71 hm6, ob1_s, c7 (by omega), nI_add, wr71 hm6, ob1_s, pI_n (x := 71) (y := 68) (by omega), c2, rd71 hm6, ob1_s, pI_s]
        have hA : (pI M 71 m (nI (b m + d))).1 68 0 = nI s := by rw [pI_n (by omega)]; exact c1
        by_cases hp : 0 < b m + d
        · rw [if_neg (nI_nle hp (by omega)), if_pos hp]
          refine Or.inr ⟨_, rfl, _, fig192 hA o1 true, ((Out.rf).pI (by unfold pS; omega)).pI (by unfold pS; omega), ?_, ?_⟩
          · rw [if_neg (by omega)]
            subst h12
            refine ⟨pI_s, by rw [pI_n (by omega), pI_n (by omega)]; exact c2, fun h => by rw [pI_n (by omega), pI_n (by omega)]; exact c3 (by omega), fun j h1 h2 => by rw [pI_n (by omega), pI_n (by omega)]; exact c4 j h1 (by omega), fun i hi => ?_, fun h => by rw [pI_n (by omega), pI_n (by omega)]; exact c6 (by omega), fun h => ?_, fun h => absurd h (by show ¬ 14 ≤ 13; omega)⟩
            · have hi : i < m := hi
              rw [pI_n (by omega), pI_n (by omega), pI_n (by omega), pI_n (by omega), pI_n (by omega), pI_n (by omega), pI_n (by omega), pI_n (by omega)]
              show _ ∧ _ = nI (setf b m (b m + d) i) ∧ _
              rw [setf_n (by omega)]
              exact c5 i hi
            · show (pI (pI M 71 m (nI (b m + d))) 68 0 _).1 71 m = nI (setf b m (b m + d) m)
              rw [pI_n (by omega), pI_s, setf_s]
          · refine ⟨by show 13 ≤ 14; omega, o2, o3, fun _ => o4 (by omega), o5, fun i hi => ?_, fun _ => ⟨hm6, hk5⟩, fun _ => ?_, fun h => absurd h (by show ¬ 13 = 12; omega), fun h => absurd h (by show ¬ 14 ≤ 13; omega)⟩
            · have hi : i < m := hi
              show k i ≤ 5 ∧ setf b m (b m + d) i ≤ 99 ∧ _
              rw [setf_n (by omega)]
              exact o6 i hi
            · show setf b m (b m + d) m ≤ 99
              rw [setf_s]; omega
        · rw [if_pos (le00 (by omega)), if_neg hp]
          exact Or.inl ⟨rfl, _, fig192 hA o1 false, ((Out.rf).pI (by unfold pS; omega)).pI (by unfold pS; omega)⟩
      · rw [if_neg (show ¬ M.1 68 0 = nI 12 by rw [st 12 (by decide)]; exact h12), if_neg h12]
        by_cases h13 : s = 13
        · rw [if_pos (show M.1 68 0 = nI 13 by rw [st 13 (by decide)]; exact h13), if_pos h13]
          obtain ⟨hm6, hk5⟩ := o7 (by omega)
          rw [c2, wr72 hm6, ob1_s]
          have hA : (pI M 72 m (nI d)).1 68 0 = nI s := by rw [pI_n (by omega)]; exact c1
          refine Or.inr ⟨_, rfl, _, fig192 hA o1 true, ((Out.rf).pI (by unfold pS; omega)).pI (by unfold pS; omega), ?_, ?_⟩
          · rw [if_neg (by omega)]
            subst h13
            refine ⟨pI_s, by rw [pI_n (by omega), pI_n (by omega)]; exact c2, fun h => by rw [pI_n (by omega), pI_n (by omega)]; exact c3 (by omega), fun j h1 h2 => by rw [pI_n (by omega), pI_n (by omega)]; exact c4 j h1 (by omega), fun i hi => ?_, fun h => by rw [pI_n (by omega), pI_n (by omega)]; exact c6 (by omega), fun h => by rw [pI_n (by omega), pI_n (by omega)]; exact c7 (by omega), fun h => ?_⟩
            · have hi : i < m := hi
              rw [pI_n (by omega), pI_n (by omega), pI_n (by omega), pI_n (by omega), pI_n (by omega), pI_n (by omega), pI_n (by omega), pI_n (by omega)]
              show _ ∧ _ ∧ _ = nI (setf sh m d i) ∧ _
              rw [setf_n (by omega)]
              exact c5 i hi
            · show (pI (pI M 72 m (nI d)) 68 0 _).1 72 m = nI (setf sh m d m)
              rw [pI_n (by omega), pI_s, setf_s]
          · refine ⟨by show 14 ≤ 14; omega, o2, o3, fun _ => o4 (by omega), o5, fun i hi => ?_, fun _ => ⟨hm6, hk5⟩, fun _ => o8 (by omega), fun h => absurd h (by show ¬ 14 = 12; omega), fun _ => ?_⟩
            · have hi : i < m := hi
              show k i ≤ 5 ∧ b i ≤ 99 ∧ setf sh m d i ≤ 9 ∧ _
              rw [setf_n (by omega)]
              exact o6 i hi
            · show setf sh m d m ≤ 9
              rw [setf_s]; omega
        · rw [if_neg (show ¬ M.1 68 0 = nI 13 by rw [st 13 (by decide)]; exact h13), if_neg h13]
          by_cases h14 : s = 14
          · rw [if_pos (show M.1 68 0 = nI 14 by rw [st 14 (by decide)]; exact h14), if_pos h14]
            obtain ⟨hm6, hk5⟩ := o7 (by omega)
            have e152 : ∀ t0 : Int32, F_X3_takesFigure_152 fu M (nI d) t0 = F_X3_takesFigure_192 fu (pI (pI M 73 m (nI d)) 68 1 (nI (m + 1))) t0 := fun t0 => by
              unfold F_X3_takesFigure_152
              rw [c2, wr73 hm6, ob1_s, lt1_s, pI_n (x := 73) (y := 68) (by omega), c2, nI_1]
            rw [e152, e152]
            have hA : (pI (pI M 73 m (nI d)) 68 1 (nI (m + 1))).1 68 0 = nI s := by rw [pI_n (by omega), pI_n (by omega)]; exact c1
            by_cases hp : d ≤ 1
            · rw [if_neg (show ¬ (1 : Int32) < nI d by rw [L1]; exact nI_nlt hp (by omega)), if_pos hp]
              refine Or.inr ⟨_, rfl, _, fig192 hA o1 true, (((Out.rf).pI (by unfold pS; omega)).pI (by unfold pS; omega)).pI (by unfold pS; omega), ?_, ?_⟩
              · rw [if_pos h14]
                subst h14
                refine ⟨pI_s, by rw [pI_n (by omega), pI_s]; rfl, fun h => by rw [pI_n (by omega), pI_n (by omega), pI_n (by omega)]; exact c3 (by omega), fun j h1 h2 => by rw [pI_n (by omega), pI_n (by omega), pI_n (by omega)]; exact c4 j h1 (by omega), fun i hi => ?_, fun h => absurd h (by show ¬ 11 ≤ 10; omega), fun h => absurd h (by show ¬ 12 ≤ 10; omega), fun h => absurd h (by show ¬ 14 ≤ 10; omega)⟩
                have hi : i < m + 1 := hi
                show (pI (pI (pI M 73 m (nI d)) 68 1 (nI (m + 1))) 68 0 _).1 70 i = nI (k i) ∧ (pI (pI (pI M 73 m (nI d)) 68 1 (nI (m + 1))) 68 0 _).1 71 i = nI (b i) ∧ (pI (pI (pI M 73 m (nI d)) 68 1 (nI (m + 1))) 68 0 _).1 72 i = nI (sh i) ∧ (pI (pI (pI M 73 m (nI d)) 68 1 (nI (m + 1))) 68 0 _).1 73 i = nI (setf v m d i)
                rw [pI_n (y := 70) (by omega), pI_n (y := 70) (by omega), pI_n (y := 70) (by omega), pI_n (y := 71) (by omega), pI_n (y := 71) (by omega), pI_n (y := 71) (by omega), pI_n (y := 72) (by omega), pI_n (y := 72) (by omega), pI_n (y := 72) (by omega), pI_n (y := 73) (by omega), pI_n (y := 73) (by omega)]
                by_cases him : i = m
                · subst him
                  rw [pI_s, setf_s]
                  exact ⟨c6 (by omega), c7 (by omega), c8 (by omega), rfl⟩
                · rw [pI_n (by omega), setf_n him]
                  exact c5 i (by omega)
              · refine ⟨by show 10 ≤ 14; omega, by show m + 1 ≤ 6; omega, o3, fun _ => o4 (by omega), o5, fun i hi => ?_, fun h => absurd h (by show ¬ 11 ≤ 10; omega), fun h => absurd h (by show ¬ 12 ≤ 10; omega), fun h => absurd h (by show ¬ 10 = 12; omega), fun h => absurd h (by show ¬ 14 ≤ 10; omega)⟩
                have hi : i < m + 1 := hi
                show k i ≤ 5 ∧ b i ≤ 99 ∧ sh i ≤ 9 ∧ setf v m d i ≤ 1
                by_cases him : i = m
                · subst him
                  rw [setf_s]
                  exact ⟨hk5, o8 (by omega), o10 (by omega), hp⟩
                · rw [setf_n him]
                  exact o6 i (by omega)
            · rw [if_pos (show (1 : Int32) < nI d by rw [L1]; exact nI_lt (by omega) (by omega)), if_neg hp]
              exact Or.inl ⟨rfl, _, fig192 hA o1 false, (((Out.rf).pI (by unfold pS; omega)).pI (by unfold pS; omega)).pI (by unfold pS; omega)⟩
          · rw [if_neg (show ¬ M.1 68 0 = nI 14 by rw [st 14 (by decide)]; exact h14), if_neg h14]
            obtain ⟨s', rfl⟩ : ∃ s', s = s' + 1 := ⟨s - 1, by omega⟩
            rw [c1, nI_pred, wr69 (by omega), ob1_s]
            have hA : (pI M 69 s' (nI d)).1 68 0 = nI (s' + 1) := by rw [pI_n (by omega)]; exact c1
            refine Or.inr ⟨_, rfl, _, fig192 hA o1 true, ((Out.rf).pI (by unfold pS; omega)).pI (by unfold pS; omega), ?_, ?_⟩
            · rw [if_neg h14, show s' + 1 - 1 = s' from rfl]
              refine ⟨pI_s, by rw [pI_n (by omega), pI_n (by omega)]; exact c2, fun h => ?_, fun j h1 h2 => ?_, fun i hi => ?_, fun h => absurd h (by show ¬ 11 ≤ s' + 1 + 1; omega), fun h => absurd h (by show ¬ 12 ≤ s' + 1 + 1; omega), fun h => absurd h (by show ¬ 14 ≤ s' + 1 + 1; omega)⟩
              · have h : 10 ≤ s' + 1 + 1 := h
                omega
              · have h2 : j + 1 < s' + 1 + 1 := h2
                show (pI (pI M 69 s' (nI d)) 68 0 _).1 69 j = nI (setf su s' d j)
                rw [pI_n (by omega)]
                by_cases hjs : j = s'
                · rw [hjs, pI_s, setf_s]
                · rw [pI_n (by omega), setf_n hjs]
                  exact c4 j h1 (by omega)
              · have hi : i < m := hi
                rw [pI_n (by omega), pI_n (by omega), pI_n (by omega), pI_n (by omega), pI_n (by omega), pI_n (by omega), pI_n (by omega), pI_n (by omega)]
                exact c5 i hi
            · refine ⟨by show s' + 1 + 1 ≤ 14; omega, o2, o3, fun h => ?_, fun j => ?_, o6, fun h => absurd h (by show ¬ 11 ≤ s' + 1 + 1; omega), fun h => absurd h (by show ¬ 12 ≤ s' + 1 + 1; omega), fun h => absurd h (by show ¬ s' + 1 + 1 = 12; omega), fun h => absurd h (by show ¬ 14 ≤ s' + 1 + 1; omega)⟩
              · have h : 10 ≤ s' + 1 + 1 := h
                omega
              · show setf su (s' + 1 - 1) d j ≤ 9
                unfold setf
                split
                · exact hd
                · exact o5 j
