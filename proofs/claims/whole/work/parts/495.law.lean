/-! the law's loop, on both memories -/
theorem it_u {p : Prop} [Decidable p] {a b c : Option Unit} (h1 : p → a = c) (h2 : ¬ p → b = c) : (if p then a else b) = c := by
  by_cases h : p
  · rw [if_pos h]; exact h1 h
  · rw [if_neg h]; exact h2 h
theorem lg_rf (r : Int64) : lg_cmp r r = 0 := (lg_cmp_eq _ _).mpr rfl
theorem gx1 {L i : Nat} {a : Option Unit} (hi : i + 6 ≤ L) (hL : L ≤ 3072) : (if (nI i + (1 : Int32)) < 0 ∨ L ≤ (nI i + (1 : Int32)).toNatClampNeg then none else a) = a := by
  rw [L1, nI_add, clN (by omega)]
  exact if_neg fun q => q.elim (fun q => absurd q (nI_pos (by omega))) fun q => by omega
theorem gx2 {L i : Nat} {a : Option Unit} (hi : i + 6 ≤ L) (hL : L ≤ 3072) : (if (nI i + (2 : Int32)) < 0 ∨ L ≤ (nI i + (2 : Int32)).toNatClampNeg then none else a) = a := by
  rw [L2, nI_add, clN (by omega)]
  exact if_neg fun q => q.elim (fun q => absurd q (nI_pos (by omega))) fun q => by omega
theorem gx3 {L i : Nat} {a : Option Unit} (hi : i + 6 ≤ L) (hL : L ≤ 3072) : (if (nI i + (3 : Int32)) < 0 ∨ L ≤ (nI i + (3 : Int32)).toNatClampNeg then none else a) = a := by
  rw [L3, nI_add, clN (by omega)]
  exact if_neg fun q => q.elim (fun q => absurd q (nI_pos (by omega))) fun q => by omega
theorem gx4 {L i : Nat} {a : Option Unit} (hi : i + 6 ≤ L) (hL : L ≤ 3072) : (if (nI i + (4 : Int32)) < 0 ∨ L ≤ (nI i + (4 : Int32)).toNatClampNeg then none else a) = a := by
  rw [L4, nI_add, clN (by omega)]
  exact if_neg fun q => q.elim (fun q => absurd q (nI_pos (by omega))) fun q => by omega
theorem gx5 {L i : Nat} {a : Option Unit} (hi : i + 6 ≤ L) (hL : L ≤ 3072) : (if (nI i + (5 : Int32)) < 0 ∨ L ≤ (nI i + (5 : Int32)).toNatClampNeg then none else a) = a := by
  rw [L5, nI_add, clN (by omega)]
  exact if_neg fun q => q.elim (fun q => absurd q (nI_pos (by omega))) fun q => by omega
theorem gx0 {L i : Nat} {a : Option Unit} (hi : i + 6 ≤ L) (hL : L ≤ 3072) : (if (nI i) < 0 ∨ L ≤ (nI i).toNatClampNeg then none else a) = a := by
  rw [clN (by omega)]
  exact if_neg fun q => q.elim (fun q => absurd q (nI_pos (by omega))) fun q => by omega
theorem op_row {fu : Nat} (hf : 1000 ≤ fu) {M : Mm} (h : Rel M) {L i : Nat} {xs : Nat → Int32} (hi : i + 6 ≤ L) (hL : L ≤ 3072) {K : Mm → Option Unit} (hK : ∀ M', Rel M' → K M' = some ()) : (
        if (nI i + (1 : Int32)) < 0 ∨ L ≤ (nI i + (1 : Int32)).toNatClampNeg then none else (
        if (nI i + (2 : Int32)) < 0 ∨ L ≤ (nI i + (2 : Int32)).toNatClampNeg then none else (
        ob2 (F_X6_row fu M (xs (nI i + (1 : Int32)).toNatClampNeg) (xs (nI i + (2 : Int32)).toNatClampNeg)) (fun r7 M8 =>
        if (nI i + (1 : Int32)) < 0 ∨ L ≤ (nI i + (1 : Int32)).toNatClampNeg then none else (
        if (nI i + (2 : Int32)) < 0 ∨ L ≤ (nI i + (2 : Int32)).toNatClampNeg then none else (
        ob2 (F_X7_row fu M8 (xs (nI i + (1 : Int32)).toNatClampNeg) (xs (nI i + (2 : Int32)).toNatClampNeg)) (fun r12 M13 =>
        if r7 = r12 then
          K M13
        else
          none))))))
    ) = some () := by
  obtain ⟨r, M1, M2, e1, e2, e3⟩ := call_row hf h (xs (nI i + (1 : Int32)).toNatClampNeg) (xs (nI i + (2 : Int32)).toNatClampNeg)
  have e2 : F_X7_row fu M1 (xs (nI i + (1 : Int32)).toNatClampNeg) (xs (nI i + (2 : Int32)).toNatClampNeg) = some (r, M2) := e2
  rw [gx1 hi hL, gx2 hi hL, e1, ob2_s, gx1 hi hL, gx2 hi hL, e2, ob2_s, if_pos rfl, hK _ e3]
theorem op_lay {fu : Nat} (hf : 1000 ≤ fu) {M : Mm} (h : Rel M) {L i : Nat} {xs : Nat → Int32} (hi : i + 6 ≤ L) (hL : L ≤ 3072) {K : Mm → Option Unit} (hK : ∀ M', Rel M' → K M' = some ()) : (
        if (nI i + (1 : Int32)) < 0 ∨ L ≤ (nI i + (1 : Int32)).toNatClampNeg then none else (
        if (nI i + (2 : Int32)) < 0 ∨ L ≤ (nI i + (2 : Int32)).toNatClampNeg then none else (
        if (nI i + (3 : Int32)) < 0 ∨ L ≤ (nI i + (3 : Int32)).toNatClampNeg then none else (
        ob2 (F_X6_lay fu M (xs (nI i + (1 : Int32)).toNatClampNeg) (xs (nI i + (2 : Int32)).toNatClampNeg) (xs (nI i + (3 : Int32)).toNatClampNeg)) (fun r20 M21 =>
        if (nI i + (1 : Int32)) < 0 ∨ L ≤ (nI i + (1 : Int32)).toNatClampNeg then none else (
        if (nI i + (2 : Int32)) < 0 ∨ L ≤ (nI i + (2 : Int32)).toNatClampNeg then none else (
        if (nI i + (3 : Int32)) < 0 ∨ L ≤ (nI i + (3 : Int32)).toNatClampNeg then none else (
        ob2 (F_X7_lay fu M21 (xs (nI i + (1 : Int32)).toNatClampNeg) (xs (nI i + (2 : Int32)).toNatClampNeg) (xs (nI i + (3 : Int32)).toNatClampNeg)) (fun r26 M27 =>
        if r20 = r26 then
          K M27
        else
          none))))))))
    ) = some () := by
  obtain ⟨r, M1, M2, e1, e2, e3⟩ := call_lay h (xs (nI i + (1 : Int32)).toNatClampNeg) (xs (nI i + (2 : Int32)).toNatClampNeg) (xs (nI i + (3 : Int32)).toNatClampNeg)
  have e2 : F_X7_lay fu M1 (xs (nI i + (1 : Int32)).toNatClampNeg) (xs (nI i + (2 : Int32)).toNatClampNeg) (xs (nI i + (3 : Int32)).toNatClampNeg) = some (r, M2) := e2
  rw [gx1 hi hL, gx2 hi hL, gx3 hi hL, e1, ob2_s, gx1 hi hL, gx2 hi hL, gx3 hi hL, e2, ob2_s, if_pos rfl, hK _ e3]
theorem op_at {fu : Nat} (hf : 1000 ≤ fu) {M : Mm} (h : Rel M) {L i : Nat} {xs : Nat → Int32} (hi : i + 6 ≤ L) (hL : L ≤ 3072) {K : Mm → Option Unit} (hK : ∀ M', Rel M' → K M' = some ()) : (
        if (nI i + (1 : Int32)) < 0 ∨ L ≤ (nI i + (1 : Int32)).toNatClampNeg then none else (
        if (nI i + (2 : Int32)) < 0 ∨ L ≤ (nI i + (2 : Int32)).toNatClampNeg then none else (
        ob2 (F_X6_at fu M (xs (nI i + (1 : Int32)).toNatClampNeg) (xs (nI i + (2 : Int32)).toNatClampNeg)) (fun r33 M34 =>
        if (nI i + (1 : Int32)) < 0 ∨ L ≤ (nI i + (1 : Int32)).toNatClampNeg then none else (
        if (nI i + (2 : Int32)) < 0 ∨ L ≤ (nI i + (2 : Int32)).toNatClampNeg then none else (
        ob2 (F_X7_at fu M34 (xs (nI i + (1 : Int32)).toNatClampNeg) (xs (nI i + (2 : Int32)).toNatClampNeg)) (fun r38 M39 =>
        if r33 = r38 then
          K M39
        else
          none))))))
    ) = some () := by
  obtain ⟨r, M1, M2, e1, e2, e3⟩ := call_at h (xs (nI i + (1 : Int32)).toNatClampNeg) (xs (nI i + (2 : Int32)).toNatClampNeg)
  have e2 : F_X7_at fu M1 (xs (nI i + (1 : Int32)).toNatClampNeg) (xs (nI i + (2 : Int32)).toNatClampNeg) = some (r, M2) := e2
  rw [gx1 hi hL, gx2 hi hL, e1, ob2_s, gx1 hi hL, gx2 hi hL, e2, ob2_s, if_pos rfl, hK _ e3]
theorem op_tear {fu : Nat} (hf : 1000 ≤ fu) {M : Mm} (h : Rel M) {L i : Nat} {xs : Nat → Int32} (hi : i + 6 ≤ L) (hL : L ≤ 3072) {K : Mm → Option Unit} (hK : ∀ M', Rel M' → K M' = some ()) : (
        if (nI i + (1 : Int32)) < 0 ∨ L ≤ (nI i + (1 : Int32)).toNatClampNeg then none else (
        ob2 (F_X6_tear fu M (xs (nI i + (1 : Int32)).toNatClampNeg)) (fun r44 M45 =>
        if (nI i + (1 : Int32)) < 0 ∨ L ≤ (nI i + (1 : Int32)).toNatClampNeg then none else (
        ob2 (F_X7_tear fu M45 (xs (nI i + (1 : Int32)).toNatClampNeg)) (fun r48 M49 =>
        if r44 = r48 then
          K M49
        else
          none))))
    ) = some () := by
  obtain ⟨r, M1, M2, e1, e2, e3⟩ := call_tear h (xs (nI i + (1 : Int32)).toNatClampNeg)
  have e2 : F_X7_tear fu M1 (xs (nI i + (1 : Int32)).toNatClampNeg) = some (r, M2) := e2
  rw [gx1 hi hL, e1, ob2_s, gx1 hi hL, e2, ob2_s, if_pos rfl, hK _ e3]
theorem op_copy {fu : Nat} (hf : 1000 ≤ fu) {M : Mm} (h : Rel M) {L i : Nat} {xs : Nat → Int32} (hi : i + 6 ≤ L) (hL : L ≤ 3072) {K : Mm → Option Unit} (hK : ∀ M', Rel M' → K M' = some ()) : (
        if (nI i + (1 : Int32)) < 0 ∨ L ≤ (nI i + (1 : Int32)).toNatClampNeg then none else (
        if (nI i + (2 : Int32)) < 0 ∨ L ≤ (nI i + (2 : Int32)).toNatClampNeg then none else (
        if (nI i + (3 : Int32)) < 0 ∨ L ≤ (nI i + (3 : Int32)).toNatClampNeg then none else (
        if (nI i + (4 : Int32)) < 0 ∨ L ≤ (nI i + (4 : Int32)).toNatClampNeg then none else (
        if (nI i + (5 : Int32)) < 0 ∨ L ≤ (nI i + (5 : Int32)).toNatClampNeg then none else (
        ob2 (F_X6_copy fu M (xs (nI i + (1 : Int32)).toNatClampNeg) (xs (nI i + (2 : Int32)).toNatClampNeg) (xs (nI i + (3 : Int32)).toNatClampNeg) (xs (nI i + (4 : Int32)).toNatClampNeg) (xs (nI i + (5 : Int32)).toNatClampNeg)) (fun r58 M59 =>
        if (nI i + (1 : Int32)) < 0 ∨ L ≤ (nI i + (1 : Int32)).toNatClampNeg then none else (
        if (nI i + (2 : Int32)) < 0 ∨ L ≤ (nI i + (2 : Int32)).toNatClampNeg then none else (
        if (nI i + (3 : Int32)) < 0 ∨ L ≤ (nI i + (3 : Int32)).toNatClampNeg then none else (
        if (nI i + (4 : Int32)) < 0 ∨ L ≤ (nI i + (4 : Int32)).toNatClampNeg then none else (
        if (nI i + (5 : Int32)) < 0 ∨ L ≤ (nI i + (5 : Int32)).toNatClampNeg then none else (
        ob2 (F_X7_copy fu M59 (xs (nI i + (1 : Int32)).toNatClampNeg) (xs (nI i + (2 : Int32)).toNatClampNeg) (xs (nI i + (3 : Int32)).toNatClampNeg) (xs (nI i + (4 : Int32)).toNatClampNeg) (xs (nI i + (5 : Int32)).toNatClampNeg)) (fun r66 M67 =>
        if r58 = r66 then
          K M67
        else
          none))))))))))))
    ) = some () := by
  obtain ⟨r, M1, M2, e1, e2, e3⟩ := call_copy hf h (xs (nI i + (1 : Int32)).toNatClampNeg) (xs (nI i + (2 : Int32)).toNatClampNeg) (xs (nI i + (3 : Int32)).toNatClampNeg) (xs (nI i + (4 : Int32)).toNatClampNeg) (xs (nI i + (5 : Int32)).toNatClampNeg)
  have e2 : F_X7_copy fu M1 (xs (nI i + (1 : Int32)).toNatClampNeg) (xs (nI i + (2 : Int32)).toNatClampNeg) (xs (nI i + (3 : Int32)).toNatClampNeg) (xs (nI i + (4 : Int32)).toNatClampNeg) (xs (nI i + (5 : Int32)).toNatClampNeg) = some (r, M2) := e2
  rw [gx1 hi hL, gx2 hi hL, gx3 hi hL, gx4 hi hL, gx5 hi hL, e1, ob2_s, gx1 hi hL, gx2 hi hL, gx3 hi hL, gx4 hi hL, gx5 hi hL, e2, ob2_s, if_pos rfl, hK _ e3]
theorem op_mean {fu : Nat} (hf : 1000 ≤ fu) {M : Mm} (h : Rel M) {L i : Nat} {xs : Nat → Int32} (hi : i + 6 ≤ L) (hL : L ≤ 3072) {K : Mm → Option Unit} (hK : ∀ M', Rel M' → K M' = some ()) : (
        if (nI i + (1 : Int32)) < 0 ∨ L ≤ (nI i + (1 : Int32)).toNatClampNeg then none else (
        ob2 (F_X6_mean fu M (xs (nI i + (1 : Int32)).toNatClampNeg)) (fun r72 M73 =>
        if (nI i + (1 : Int32)) < 0 ∨ L ≤ (nI i + (1 : Int32)).toNatClampNeg then none else (
        ob2 (F_X7_mean fu M73 (xs (nI i + (1 : Int32)).toNatClampNeg)) (fun r76 M77 =>
        if r72 = r76 then
          K M77
        else
          none))))
    ) = some () := by
  obtain ⟨r, M1, M2, e1, e2, e3⟩ := call_mean hf h (xs (nI i + (1 : Int32)).toNatClampNeg)
  have e2 : F_X7_mean fu M1 (xs (nI i + (1 : Int32)).toNatClampNeg) = some (r, M2) := e2
  rw [gx1 hi hL, e1, ob2_s, gx1 hi hL, e2, ob2_s, if_pos rfl, hK _ e3]
theorem op_text {fu : Nat} (hf : 1000 ≤ fu) {M : Mm} (h : Rel M) {L i : Nat} {xs : Nat → Int32} (hi : i + 6 ≤ L) (hL : L ≤ 3072) {K : Mm → Option Unit} (hK : ∀ M', Rel M' → K M' = some ()) : (
        if (nI i + (1 : Int32)) < 0 ∨ L ≤ (nI i + (1 : Int32)).toNatClampNeg then none else (
        if (nI i + (2 : Int32)) < 0 ∨ L ≤ (nI i + (2 : Int32)).toNatClampNeg then none else (
        ob2 (F_X6_text fu M (xs (nI i + (1 : Int32)).toNatClampNeg) (xs (nI i + (2 : Int32)).toNatClampNeg)) (fun r83 M84 =>
        if (nI i + (1 : Int32)) < 0 ∨ L ≤ (nI i + (1 : Int32)).toNatClampNeg then none else (
        if (nI i + (2 : Int32)) < 0 ∨ L ≤ (nI i + (2 : Int32)).toNatClampNeg then none else (
        ob2 (F_X7_text fu M84 (xs (nI i + (1 : Int32)).toNatClampNeg) (xs (nI i + (2 : Int32)).toNatClampNeg)) (fun r88 M89 =>
        if r83 = r88 then
          K M89
        else
          none))))))
    ) = some () := by
  obtain ⟨r, M1, M2, e1, e2, e3⟩ := call_text hf h (xs (nI i + (1 : Int32)).toNatClampNeg) (xs (nI i + (2 : Int32)).toNatClampNeg)
  have e2 : F_X7_text fu M1 (xs (nI i + (1 : Int32)).toNatClampNeg) (xs (nI i + (2 : Int32)).toNatClampNeg) = some (r, M2) := e2
  rw [gx1 hi hL, gx2 hi hL, e1, ob2_s, gx1 hi hL, gx2 hi hL, e2, ob2_s, if_pos rfl, hK _ e3]
theorem op_put {fu : Nat} (hf : 1000 ≤ fu) {M : Mm} (h : Rel M) {L i : Nat} {xs : Nat → Int32} (hi : i + 6 ≤ L) (hL : L ≤ 3072) {K : Mm → Option Unit} (hK : ∀ M', Rel M' → K M' = some ()) : (
        if (nI i + (1 : Int32)) < 0 ∨ L ≤ (nI i + (1 : Int32)).toNatClampNeg then none else (
        if (nI i + (2 : Int32)) < 0 ∨ L ≤ (nI i + (2 : Int32)).toNatClampNeg then none else (
        if (nI i + (3 : Int32)) < 0 ∨ L ≤ (nI i + (3 : Int32)).toNatClampNeg then none else (
        ob2 (F_X6_put fu M (xs (nI i + (1 : Int32)).toNatClampNeg) (xs (nI i + (2 : Int32)).toNatClampNeg) (xs (nI i + (3 : Int32)).toNatClampNeg)) (fun r96 M97 =>
        if (nI i + (1 : Int32)) < 0 ∨ L ≤ (nI i + (1 : Int32)).toNatClampNeg then none else (
        if (nI i + (2 : Int32)) < 0 ∨ L ≤ (nI i + (2 : Int32)).toNatClampNeg then none else (
        if (nI i + (3 : Int32)) < 0 ∨ L ≤ (nI i + (3 : Int32)).toNatClampNeg then none else (
        ob2 (F_X7_put fu M97 (xs (nI i + (1 : Int32)).toNatClampNeg) (xs (nI i + (2 : Int32)).toNatClampNeg) (xs (nI i + (3 : Int32)).toNatClampNeg)) (fun r102 M103 =>
        if r96 = r102 then
          K M103
        else
          none))))))))
    ) = some () := by
  obtain ⟨r, M1, M2, e1, e2, e3⟩ := call_put h (xs (nI i + (1 : Int32)).toNatClampNeg) (xs (nI i + (2 : Int32)).toNatClampNeg) (xs (nI i + (3 : Int32)).toNatClampNeg)
  have e2 : F_X7_put fu M1 (xs (nI i + (1 : Int32)).toNatClampNeg) (xs (nI i + (2 : Int32)).toNatClampNeg) (xs (nI i + (3 : Int32)).toNatClampNeg) = some (r, M2) := e2
  rw [gx1 hi hL, gx2 hi hL, gx3 hi hL, e1, ob2_s, gx1 hi hL, gx2 hi hL, gx3 hi hL, e2, ob2_s, if_pos rfl, hK _ e3]
theorem op_fault {fu : Nat} (hf : 1000 ≤ fu) {M : Mm} (h : Rel M) {L i : Nat} {xs : Nat → Int32} (hi : i + 6 ≤ L) (hL : L ≤ 3072) {K : Mm → Option Unit} (hK : ∀ M', Rel M' → K M' = some ()) : (
        if (nI i + (1 : Int32)) < 0 ∨ L ≤ (nI i + (1 : Int32)).toNatClampNeg then none else (
        ob2 (F_X6_fault fu M (xs (nI i + (1 : Int32)).toNatClampNeg)) (fun r108 M109 =>
        if (nI i + (1 : Int32)) < 0 ∨ L ≤ (nI i + (1 : Int32)).toNatClampNeg then none else (
        ob2 (F_X7_fault fu M109 (xs (nI i + (1 : Int32)).toNatClampNeg)) (fun r112 M113 =>
        if r108 = r112 then
          K M113
        else
          none))))
    ) = some () := by
  obtain ⟨r, M1, M2, e1, e2, e3⟩ := call_fault hf h (xs (nI i + (1 : Int32)).toNatClampNeg)
  have e2 : F_X7_fault fu M1 (xs (nI i + (1 : Int32)).toNatClampNeg) = some (r, M2) := e2
  rw [gx1 hi hL, e1, ob2_s, gx1 hi hL, e2, ob2_s, if_pos rfl, hK _ e3]
theorem op_north {fu : Nat} (hf : 1000 ≤ fu) {M : Mm} (h : Rel M) {L i : Nat} {xs : Nat → Int32} (hi : i + 6 ≤ L) (hL : L ≤ 3072) {K : Mm → Option Unit} (hK : ∀ M', Rel M' → K M' = some ()) : (
        if (nI i + (1 : Int32)) < 0 ∨ L ≤ (nI i + (1 : Int32)).toNatClampNeg then none else (
        ob2 (F_X6_north fu M (xs (nI i + (1 : Int32)).toNatClampNeg)) (fun r118 M119 =>
        if (nI i + (1 : Int32)) < 0 ∨ L ≤ (nI i + (1 : Int32)).toNatClampNeg then none else (
        ob2 (F_X7_north fu M119 (xs (nI i + (1 : Int32)).toNatClampNeg)) (fun r122 M123 =>
        if r118 = r122 then
          K M123
        else
          none))))
    ) = some () := by
  obtain ⟨r, M1, M2, e1, e2, e3⟩ := call_north hf h (xs (nI i + (1 : Int32)).toNatClampNeg)
  have e2 : F_X7_north fu M1 (xs (nI i + (1 : Int32)).toNatClampNeg) = some (r, M2) := e2
  rw [gx1 hi hL, e1, ob2_s, gx1 hi hL, e2, ob2_s, if_pos rfl, hK _ e3]
theorem op_man {fu : Nat} (hf : 1000 ≤ fu) {M : Mm} (h : Rel M) {L i : Nat} {xs : Nat → Int32} (hi : i + 6 ≤ L) (hL : L ≤ 3072) {K : Mm → Option Unit} (hK : ∀ M', Rel M' → K M' = some ()) : (
        if (nI i + (1 : Int32)) < 0 ∨ L ≤ (nI i + (1 : Int32)).toNatClampNeg then none else (
        if (nI i + (2 : Int32)) < 0 ∨ L ≤ (nI i + (2 : Int32)).toNatClampNeg then none else (
        ob2 (F_X6_man fu M (xs (nI i + (1 : Int32)).toNatClampNeg) (xs (nI i + (2 : Int32)).toNatClampNeg)) (fun r129 M130 =>
        if (nI i + (1 : Int32)) < 0 ∨ L ≤ (nI i + (1 : Int32)).toNatClampNeg then none else (
        if (nI i + (2 : Int32)) < 0 ∨ L ≤ (nI i + (2 : Int32)).toNatClampNeg then none else (
        ob2 (F_X7_man fu M130 (xs (nI i + (1 : Int32)).toNatClampNeg) (xs (nI i + (2 : Int32)).toNatClampNeg)) (fun r134 M135 =>
        if r129 = r134 then
          K M135
        else
          none))))))
    ) = some () := by
  obtain ⟨r, M1, M2, e1, e2, e3⟩ := call_man hf h (xs (nI i + (1 : Int32)).toNatClampNeg) (xs (nI i + (2 : Int32)).toNatClampNeg)
  have e2 : F_X7_man fu M1 (xs (nI i + (1 : Int32)).toNatClampNeg) (xs (nI i + (2 : Int32)).toNatClampNeg) = some (r, M2) := e2
  rw [gx1 hi hL, gx2 hi hL, e1, ob2_s, gx1 hi hL, gx2 hi hL, e2, ob2_s, if_pos rfl, hK _ e3]
theorem op_mark {fu : Nat} (hf : 1000 ≤ fu) {M : Mm} (h : Rel M) {L i : Nat} {xs : Nat → Int32} (hi : i + 6 ≤ L) (hL : L ≤ 3072) {K : Mm → Option Unit} (hK : ∀ M', Rel M' → K M' = some ()) : (
        if (nI i + (1 : Int32)) < 0 ∨ L ≤ (nI i + (1 : Int32)).toNatClampNeg then none else (
        if (nI i + (2 : Int32)) < 0 ∨ L ≤ (nI i + (2 : Int32)).toNatClampNeg then none else (
        ob2 (F_X6_mark fu M (xs (nI i + (1 : Int32)).toNatClampNeg) (xs (nI i + (2 : Int32)).toNatClampNeg)) (fun r141 M142 =>
        if (nI i + (1 : Int32)) < 0 ∨ L ≤ (nI i + (1 : Int32)).toNatClampNeg then none else (
        if (nI i + (2 : Int32)) < 0 ∨ L ≤ (nI i + (2 : Int32)).toNatClampNeg then none else (
        ob2 (F_X7_mark fu M142 (xs (nI i + (1 : Int32)).toNatClampNeg) (xs (nI i + (2 : Int32)).toNatClampNeg)) (fun r146 M147 =>
        if r141 = r146 then
          K M147
        else
          none))))))
    ) = some () := by
  obtain ⟨r, M1, M2, e1, e2, e3⟩ := call_mark hf h (xs (nI i + (1 : Int32)).toNatClampNeg) (xs (nI i + (2 : Int32)).toNatClampNeg)
  have e2 : F_X7_mark fu M1 (xs (nI i + (1 : Int32)).toNatClampNeg) (xs (nI i + (2 : Int32)).toNatClampNeg) = some (r, M2) := e2
  rw [gx1 hi hL, gx2 hi hL, e1, ob2_s, gx1 hi hL, gx2 hi hL, e2, ob2_s, if_pos rfl, hK _ e3]
theorem op_sun {fu : Nat} (hf : 1000 ≤ fu) {M : Mm} (h : Rel M) {L i : Nat} {xs : Nat → Int32} (hi : i + 6 ≤ L) (hL : L ≤ 3072) {K : Mm → Option Unit} (hK : ∀ M', Rel M' → K M' = some ()) : (
        if (nI i + (1 : Int32)) < 0 ∨ L ≤ (nI i + (1 : Int32)).toNatClampNeg then none else (
        ob1 (F_X6_sun fu M (xs (nI i + (1 : Int32)).toNatClampNeg)) (fun r152 =>
        if (nI i + (1 : Int32)) < 0 ∨ L ≤ (nI i + (1 : Int32)).toNatClampNeg then none else (
        ob1 (F_X7_sun fu M (xs (nI i + (1 : Int32)).toNatClampNeg)) (fun r155 =>
        if r152 = r155 then
          K M
        else
          none))))
    ) = some () := by
  obtain ⟨r, e1, e2⟩ := call_sun h (xs (nI i + (1 : Int32)).toNatClampNeg)
  rw [gx1 hi hL, e1, ob1_s, gx1 hi hL, e2, ob1_s, if_pos rfl, hK _ h]
theorem op_right {fu : Nat} (hf : 1000 ≤ fu) {M : Mm} (h : Rel M) {L i : Nat} {xs : Nat → Int32} (hi : i + 6 ≤ L) (hL : L ≤ 3072) {K : Mm → Option Unit} (hK : ∀ M', Rel M' → K M' = some ()) : (
        if (nI i + (1 : Int32)) < 0 ∨ L ≤ (nI i + (1 : Int32)).toNatClampNeg then none else (
        ob2 (F_X6_right fu M (xs (nI i + (1 : Int32)).toNatClampNeg)) (fun r160 M161 =>
        if (nI i + (1 : Int32)) < 0 ∨ L ≤ (nI i + (1 : Int32)).toNatClampNeg then none else (
        ob2 (F_X7_right fu M161 (xs (nI i + (1 : Int32)).toNatClampNeg)) (fun r164 M165 =>
        if r160 = r164 then
          K M165
        else
          none))))
    ) = some () := by
  obtain ⟨r, M1, M2, e1, e2, e3⟩ := call_right h (xs (nI i + (1 : Int32)).toNatClampNeg)
  have e2 : F_X7_right fu M1 (xs (nI i + (1 : Int32)).toNatClampNeg) = some (r, M2) := e2
  rw [gx1 hi hL, e1, ob2_s, gx1 hi hL, e2, ob2_s, if_pos rfl, hK _ e3]
theorem op_day {fu : Nat} (hf : 1000 ≤ fu) {M : Mm} (h : Rel M) {L i : Nat} {xs : Nat → Int32} (hi : i + 6 ≤ L) (hL : L ≤ 3072) {K : Mm → Option Unit} (hK : ∀ M', Rel M' → K M' = some ()) : (
        ob2 (F_X6_day fu M) (fun r169 M170 =>
        ob2 (F_X7_day fu M170) (fun r172 M173 =>
        if r169 = r172 then
          K M173
        else
          none))
    ) = some () := by
  obtain ⟨r, M1, M2, e1, e2, e3⟩ := call_day hf h 
  have e2 : F_X7_day fu M1  = some (r, M2) := e2
  rw [e1, ob2_s, e2, ob2_s, if_pos rfl, hK _ e3]
theorem op_shade {fu : Nat} (hf : 1000 ≤ fu) {M : Mm} (h : Rel M) {L i : Nat} {xs : Nat → Int32} (hi : i + 6 ≤ L) (hL : L ≤ 3072) {K : Mm → Option Unit} (hK : ∀ M', Rel M' → K M' = some ()) : (
        if (nI i + (1 : Int32)) < 0 ∨ L ≤ (nI i + (1 : Int32)).toNatClampNeg then none else (
        if (nI i + (2 : Int32)) < 0 ∨ L ≤ (nI i + (2 : Int32)).toNatClampNeg then none else (
        ob2 (F_X6_shade fu M (xs (nI i + (1 : Int32)).toNatClampNeg) (xs (nI i + (2 : Int32)).toNatClampNeg)) (fun r179 M180 =>
        if (nI i + (1 : Int32)) < 0 ∨ L ≤ (nI i + (1 : Int32)).toNatClampNeg then none else (
        if (nI i + (2 : Int32)) < 0 ∨ L ≤ (nI i + (2 : Int32)).toNatClampNeg then none else (
        ob2 (F_X7_shade fu M180 (xs (nI i + (1 : Int32)).toNatClampNeg) (xs (nI i + (2 : Int32)).toNatClampNeg)) (fun r184 M185 =>
        if r179 = r184 then
          K M185
        else
          none))))))
    ) = some () := by
  obtain ⟨r, M1, M2, e1, e2, e3⟩ := call_shade hf h (xs (nI i + (1 : Int32)).toNatClampNeg) (xs (nI i + (2 : Int32)).toNatClampNeg)
  have e2 : F_X7_shade fu M1 (xs (nI i + (1 : Int32)).toNatClampNeg) (xs (nI i + (2 : Int32)).toNatClampNeg) = some (r, M2) := e2
  rw [gx1 hi hL, gx2 hi hL, e1, ob2_s, gx1 hi hL, gx2 hi hL, e2, ob2_s, if_pos rfl, hK _ e3]
theorem op_snow {fu : Nat} (hf : 1000 ≤ fu) {M : Mm} (h : Rel M) {L i : Nat} {xs : Nat → Int32} (hi : i + 6 ≤ L) (hL : L ≤ 3072) {K : Mm → Option Unit} (hK : ∀ M', Rel M' → K M' = some ()) : (
        if (nI i + (1 : Int32)) < 0 ∨ L ≤ (nI i + (1 : Int32)).toNatClampNeg then none else (
        if (nI i + (2 : Int32)) < 0 ∨ L ≤ (nI i + (2 : Int32)).toNatClampNeg then none else (
        ob2 (F_X6_snow fu M (xs (nI i + (1 : Int32)).toNatClampNeg) (xs (nI i + (2 : Int32)).toNatClampNeg)) (fun r191 M192 =>
        if (nI i + (1 : Int32)) < 0 ∨ L ≤ (nI i + (1 : Int32)).toNatClampNeg then none else (
        if (nI i + (2 : Int32)) < 0 ∨ L ≤ (nI i + (2 : Int32)).toNatClampNeg then none else (
        ob2 (F_X7_snow fu M192 (xs (nI i + (1 : Int32)).toNatClampNeg) (xs (nI i + (2 : Int32)).toNatClampNeg)) (fun r196 M197 =>
        if r191 = r196 then
          K M197
        else
          none))))))
    ) = some () := by
  obtain ⟨r, M1, M2, e1, e2, e3⟩ := call_snow hf h (xs (nI i + (1 : Int32)).toNatClampNeg) (xs (nI i + (2 : Int32)).toNatClampNeg)
  have e2 : F_X7_snow fu M1 (xs (nI i + (1 : Int32)).toNatClampNeg) (xs (nI i + (2 : Int32)).toNatClampNeg) = some (r, M2) := e2
  rw [gx1 hi hL, gx2 hi hL, e1, ob2_s, gx1 hi hL, gx2 hi hL, e2, ob2_s, if_pos rfl, hK _ e3]
theorem op_undo {fu : Nat} (hf : 1000 ≤ fu) {M : Mm} (h : Rel M) {L i : Nat} {xs : Nat → Int32} (hi : i + 6 ≤ L) (hL : L ≤ 3072) {K : Mm → Option Unit} (hK : ∀ M', Rel M' → K M' = some ()) : (
        if (nI i + (1 : Int32)) < 0 ∨ L ≤ (nI i + (1 : Int32)).toNatClampNeg then none else (
        ob2 (F_X6_undo fu M (xs (nI i + (1 : Int32)).toNatClampNeg)) (fun r202 M203 =>
        if (nI i + (1 : Int32)) < 0 ∨ L ≤ (nI i + (1 : Int32)).toNatClampNeg then none else (
        ob2 (F_X7_undo fu M203 (xs (nI i + (1 : Int32)).toNatClampNeg)) (fun r206 M207 =>
        if r202 = r206 then
          K M207
        else
          none))))
    ) = some () := by
  obtain ⟨r, M1, M2, e1, e2, e3⟩ := call_undo hf h (xs (nI i + (1 : Int32)).toNatClampNeg)
  have e2 : F_X7_undo fu M1 (xs (nI i + (1 : Int32)).toNatClampNeg) = some (r, M2) := e2
  rw [gx1 hi hL, e1, ob2_s, gx1 hi hL, e2, ob2_s, if_pos rfl, hK _ e3]
theorem op_now {fu : Nat} (hf : 1000 ≤ fu) {M : Mm} (h : Rel M) {L i : Nat} {xs : Nat → Int32} (hi : i + 6 ≤ L) (hL : L ≤ 3072) {K : Mm → Option Unit} (hK : ∀ M', Rel M' → K M' = some ()) : (
        ob2 (F_X6_now fu M) (fun r211 M212 =>
        ob2 (F_X7_now fu M212) (fun r214 M215 =>
        if r211 = r214 then
          K M215
        else
          none))
    ) = some () := by
  obtain ⟨r, M1, M2, e1, e2, e3⟩ := call_now hf h 
  have e2 : F_X7_now fu M1  = some (r, M2) := e2
  rw [e1, ob2_s, e2, ob2_s, if_pos rfl, hK _ e3]
theorem op_keep {fu : Nat} (hf : 1000 ≤ fu) {M : Mm} (h : Rel M) {L i : Nat} {xs : Nat → Int32} (hi : i + 6 ≤ L) (hL : L ≤ 3072) {K : Mm → Option Unit} (hK : ∀ M', Rel M' → K M' = some ()) : (
        if (nI i + (1 : Int32)) < 0 ∨ L ≤ (nI i + (1 : Int32)).toNatClampNeg then none else (
        ob2 (F_X6_keep fu M (xs (nI i + (1 : Int32)).toNatClampNeg)) (fun r220 M221 =>
        if (nI i + (1 : Int32)) < 0 ∨ L ≤ (nI i + (1 : Int32)).toNatClampNeg then none else (
        ob2 (F_X7_keep fu M221 (xs (nI i + (1 : Int32)).toNatClampNeg)) (fun r224 M225 =>
        if r220 = r224 then
          K M225
        else
          none))))
    ) = some () := by
  obtain ⟨r, M1, M2, e1, e2, e3⟩ := call_keep hf h (xs (nI i + (1 : Int32)).toNatClampNeg)
  have e2 : F_X7_keep fu M1 (xs (nI i + (1 : Int32)).toNatClampNeg) = some (r, M2) := e2
  rw [gx1 hi hL, e1, ob2_s, gx1 hi hL, e2, ob2_s, if_pos rfl, hK _ e3]
theorem op_on {fu : Nat} (hf : 1000 ≤ fu) {M : Mm} (h : Rel M) {L i : Nat} {xs : Nat → Int32} (hi : i + 6 ≤ L) (hL : L ≤ 3072) {K : Mm → Option Unit} (hK : ∀ M', Rel M' → K M' = some ()) : (
        if (nI i + (1 : Int32)) < 0 ∨ L ≤ (nI i + (1 : Int32)).toNatClampNeg then none else (
        ob2 (F_X6_on fu M (xs (nI i + (1 : Int32)).toNatClampNeg)) (fun r230 M231 =>
        if (nI i + (1 : Int32)) < 0 ∨ L ≤ (nI i + (1 : Int32)).toNatClampNeg then none else (
        ob2 (F_X7_on fu M231 (xs (nI i + (1 : Int32)).toNatClampNeg)) (fun r234 M235 =>
        if r230 = r234 then
          K M235
        else
          none))))
    ) = some () := by
  obtain ⟨r, M1, M2, e1, e2, e3⟩ := call_on hf h (xs (nI i + (1 : Int32)).toNatClampNeg)
  have e2 : F_X7_on fu M1 (xs (nI i + (1 : Int32)).toNatClampNeg) = some (r, M2) := e2
  rw [gx1 hi hL, e1, ob2_s, gx1 hi hL, e2, ob2_s, if_pos rfl, hK _ e3]
theorem op_bulk {fu : Nat} (hf : 1000 ≤ fu) {M : Mm} (h : Rel M) {L i : Nat} {xs : Nat → Int32} (hi : i + 6 ≤ L) (hL : L ≤ 3072) {K : Mm → Option Unit} (hK : ∀ M', Rel M' → K M' = some ()) : (
        if (nI i + (1 : Int32)) < 0 ∨ L ≤ (nI i + (1 : Int32)).toNatClampNeg then none else (
        if (nI i + (2 : Int32)) < 0 ∨ L ≤ (nI i + (2 : Int32)).toNatClampNeg then none else (
        ob1 (F_X6_bulk fu M (xs (nI i + (1 : Int32)).toNatClampNeg) (xs (nI i + (2 : Int32)).toNatClampNeg)) (fun r241 =>
        if (nI i + (1 : Int32)) < 0 ∨ L ≤ (nI i + (1 : Int32)).toNatClampNeg then none else (
        if (nI i + (2 : Int32)) < 0 ∨ L ≤ (nI i + (2 : Int32)).toNatClampNeg then none else (
        ob1 (F_X7_bulk fu M (xs (nI i + (1 : Int32)).toNatClampNeg) (xs (nI i + (2 : Int32)).toNatClampNeg)) (fun r245 =>
        if r241 = r245 then
          K M
        else
          none))))))
    ) = some () := by
  obtain ⟨r, e1, e2⟩ := call_bulk hf h (xs (nI i + (1 : Int32)).toNatClampNeg) (xs (nI i + (2 : Int32)).toNatClampNeg)
  rw [gx1 hi hL, gx2 hi hL, e1, ob1_s, gx1 hi hL, gx2 hi hL, e2, ob1_s, if_pos rfl, hK _ h]
theorem op_gone {fu : Nat} (hf : 1000 ≤ fu) {M : Mm} (h : Rel M) {L i : Nat} {xs : Nat → Int32} (hi : i + 6 ≤ L) (hL : L ≤ 3072) {K : Mm → Option Unit} (hK : ∀ M', Rel M' → K M' = some ()) : (
        if (nI i + (1 : Int32)) < 0 ∨ L ≤ (nI i + (1 : Int32)).toNatClampNeg then none else (
        ob1 (F_X6_gone fu M (xs (nI i + (1 : Int32)).toNatClampNeg)) (fun r250 =>
        if (nI i + (1 : Int32)) < 0 ∨ L ≤ (nI i + (1 : Int32)).toNatClampNeg then none else (
        ob1 (F_X7_gone fu M (xs (nI i + (1 : Int32)).toNatClampNeg)) (fun r253 =>
        if r250 = r253 then
          K M
        else
          none))))
    ) = some () := by
  obtain ⟨r, e1, e2⟩ := call_gone hf h (xs (nI i + (1 : Int32)).toNatClampNeg)
  rw [gx1 hi hL, e1, ob1_s, gx1 hi hL, e2, ob1_s, if_pos rfl, hK _ h]
theorem op_votes {fu : Nat} (hf : 1000 ≤ fu) {M : Mm} (h : Rel M) {L i : Nat} {xs : Nat → Int32} (hi : i + 6 ≤ L) (hL : L ≤ 3072) {K : Mm → Option Unit} (hK : ∀ M', Rel M' → K M' = some ()) : (
        if (nI i + (1 : Int32)) < 0 ∨ L ≤ (nI i + (1 : Int32)).toNatClampNeg then none else (
        ob2 (F_X6_votes fu M (xs (nI i + (1 : Int32)).toNatClampNeg)) (fun r258 M259 =>
        if (nI i + (1 : Int32)) < 0 ∨ L ≤ (nI i + (1 : Int32)).toNatClampNeg then none else (
        ob2 (F_X7_votes fu M259 (xs (nI i + (1 : Int32)).toNatClampNeg)) (fun r262 M263 =>
        if r258 = r262 then
          K M263
        else
          none))))
    ) = some () := by
  obtain ⟨r, M1, M2, e1, e2, e3⟩ := call_votes hf h (xs (nI i + (1 : Int32)).toNatClampNeg)
  have e2 : F_X7_votes fu M1 (xs (nI i + (1 : Int32)).toNatClampNeg) = some (r, M2) := e2
  rw [gx1 hi hL, e1, ob2_s, gx1 hi hL, e2, ob2_s, if_pos rfl, hK _ e3]
theorem op_carried {fu : Nat} (hf : 1000 ≤ fu) {M : Mm} (h : Rel M) {L i : Nat} {xs : Nat → Int32} (hi : i + 6 ≤ L) (hL : L ≤ 3072) {K : Mm → Option Unit} (hK : ∀ M', Rel M' → K M' = some ()) : (
        if (nI i + (1 : Int32)) < 0 ∨ L ≤ (nI i + (1 : Int32)).toNatClampNeg then none else (
        ob2 (F_X6_carried fu M (xs (nI i + (1 : Int32)).toNatClampNeg)) (fun r268 M269 =>
        if (nI i + (1 : Int32)) < 0 ∨ L ≤ (nI i + (1 : Int32)).toNatClampNeg then none else (
        ob1 (F_X7_carried fu M269 (xs (nI i + (1 : Int32)).toNatClampNeg)) (fun r272 =>
        if r268 = r272 then
          K M269
        else
          none))))
    ) = some () := by
  obtain ⟨r, M1, e1, e2, e3⟩ := call_carried hf h (xs (nI i + (1 : Int32)).toNatClampNeg)
  have e2 : F_X7_carried fu M1 (xs (nI i + (1 : Int32)).toNatClampNeg) = some r := e2
  rw [gx1 hi hL, e1, ob2_s, gx1 hi hL, e2, ob1_s, if_pos rfl, hK _ e3]
theorem op_days {fu : Nat} (hf : 1000 ≤ fu) {M : Mm} (h : Rel M) {L i : Nat} {xs : Nat → Int32} (hi : i + 6 ≤ L) (hL : L ≤ 3072) {K : Mm → Option Unit} (hK : ∀ M', Rel M' → K M' = some ()) : (
        if (nI i + (1 : Int32)) < 0 ∨ L ≤ (nI i + (1 : Int32)).toNatClampNeg then none else (
        ob2 (F_X6_days fu M (xs (nI i + (1 : Int32)).toNatClampNeg)) (fun r277 M278 =>
        if (nI i + (1 : Int32)) < 0 ∨ L ≤ (nI i + (1 : Int32)).toNatClampNeg then none else (
        ob1 (F_X7_days fu M278 (xs (nI i + (1 : Int32)).toNatClampNeg)) (fun r281 =>
        if r277 = r281 then
          K M278
        else
          none))))
    ) = some () := by
  obtain ⟨r, M1, e1, e2, e3⟩ := call_days hf h (xs (nI i + (1 : Int32)).toNatClampNeg)
  have e2 : F_X7_days fu M1 (xs (nI i + (1 : Int32)).toNatClampNeg) = some r := e2
  rw [gx1 hi hL, e1, ob2_s, gx1 hi hL, e2, ob1_s, if_pos rfl, hK _ e3]
theorem op_widow {fu : Nat} (hf : 1000 ≤ fu) {M : Mm} (h : Rel M) {L i : Nat} {xs : Nat → Int32} (hi : i + 6 ≤ L) (hL : L ≤ 3072) {K : Mm → Option Unit} (hK : ∀ M', Rel M' → K M' = some ()) : (
        ob2 (F_X6_widow fu M) (fun r285 M286 =>
        ob2 (F_X7_widow fu M286) (fun r288 M289 =>
        if r285 = r288 then
          K M289
        else
          none))
    ) = some () := by
  obtain ⟨r, M1, M2, e1, e2, e3⟩ := call_widow hf h 
  have e2 : F_X7_widow fu M1  = some (r, M2) := e2
  rw [e1, ob2_s, e2, ob2_s, if_pos rfl, hK _ e3]
theorem op_heir {fu : Nat} (hf : 1000 ≤ fu) {M : Mm} (h : Rel M) {L i : Nat} {xs : Nat → Int32} (hi : i + 6 ≤ L) (hL : L ≤ 3072) {K : Mm → Option Unit} (hK : ∀ M', Rel M' → K M' = some ()) : (
        if (nI i + (1 : Int32)) < 0 ∨ L ≤ (nI i + (1 : Int32)).toNatClampNeg then none else (
        if (nI i + (2 : Int32)) < 0 ∨ L ≤ (nI i + (2 : Int32)).toNatClampNeg then none else (
        ob1 (F_X6_heir fu M (xs (nI i + (1 : Int32)).toNatClampNeg) (xs (nI i + (2 : Int32)).toNatClampNeg)) (fun r295 =>
        if (nI i + (1 : Int32)) < 0 ∨ L ≤ (nI i + (1 : Int32)).toNatClampNeg then none else (
        if (nI i + (2 : Int32)) < 0 ∨ L ≤ (nI i + (2 : Int32)).toNatClampNeg then none else (
        ob1 (F_X7_heir fu M (xs (nI i + (1 : Int32)).toNatClampNeg) (xs (nI i + (2 : Int32)).toNatClampNeg)) (fun r299 =>
        if r295 = r299 then
          K M
        else
          none))))))
    ) = some () := by
  obtain ⟨r, e1, e2⟩ := call_heir hf h (xs (nI i + (1 : Int32)).toNatClampNeg) (xs (nI i + (2 : Int32)).toNatClampNeg)
  rw [gx1 hi hL, gx2 hi hL, e1, ob1_s, gx1 hi hL, gx2 hi hL, e2, ob1_s, if_pos rfl, hK _ h]
theorem op_guard {fu : Nat} (hf : 1000 ≤ fu) {M : Mm} (h : Rel M) {L i : Nat} {xs : Nat → Int32} (hi : i + 6 ≤ L) (hL : L ≤ 3072) {K : Mm → Option Unit} (hK : ∀ M', Rel M' → K M' = some ()) : (
        if (nI i + (1 : Int32)) < 0 ∨ L ≤ (nI i + (1 : Int32)).toNatClampNeg then none else (
        if (nI i + (2 : Int32)) < 0 ∨ L ≤ (nI i + (2 : Int32)).toNatClampNeg then none else (
        if (nI i + (3 : Int32)) < 0 ∨ L ≤ (nI i + (3 : Int32)).toNatClampNeg then none else (
        ob2 (F_X6_guard fu M (xs (nI i + (1 : Int32)).toNatClampNeg) (xs (nI i + (2 : Int32)).toNatClampNeg) (xs (nI i + (3 : Int32)).toNatClampNeg)) (fun r306 M307 =>
        if (nI i + (1 : Int32)) < 0 ∨ L ≤ (nI i + (1 : Int32)).toNatClampNeg then none else (
        if (nI i + (2 : Int32)) < 0 ∨ L ≤ (nI i + (2 : Int32)).toNatClampNeg then none else (
        if (nI i + (3 : Int32)) < 0 ∨ L ≤ (nI i + (3 : Int32)).toNatClampNeg then none else (
        ob2 (F_X7_guard fu M307 (xs (nI i + (1 : Int32)).toNatClampNeg) (xs (nI i + (2 : Int32)).toNatClampNeg) (xs (nI i + (3 : Int32)).toNatClampNeg)) (fun r312 M313 =>
        if r306 = r312 then
          K M313
        else
          none))))))))
    ) = some () := by
  obtain ⟨r, M1, M2, e1, e2, e3⟩ := call_guard hf h (xs (nI i + (1 : Int32)).toNatClampNeg) (xs (nI i + (2 : Int32)).toNatClampNeg) (xs (nI i + (3 : Int32)).toNatClampNeg)
  have e2 : F_X7_guard fu M1 (xs (nI i + (1 : Int32)).toNatClampNeg) (xs (nI i + (2 : Int32)).toNatClampNeg) (xs (nI i + (3 : Int32)).toNatClampNeg) = some (r, M2) := e2
  rw [gx1 hi hL, gx2 hi hL, gx3 hi hL, e1, ob2_s, gx1 hi hL, gx2 hi hL, gx3 hi hL, e2, ob2_s, if_pos rfl, hK _ e3]
theorem op_bribe {fu : Nat} (hf : 1000 ≤ fu) {M : Mm} (h : Rel M) {L i : Nat} {xs : Nat → Int32} (hi : i + 6 ≤ L) (hL : L ≤ 3072) {K : Mm → Option Unit} (hK : ∀ M', Rel M' → K M' = some ()) : (
        if (nI i + (1 : Int32)) < 0 ∨ L ≤ (nI i + (1 : Int32)).toNatClampNeg then none else (
        if (nI i + (2 : Int32)) < 0 ∨ L ≤ (nI i + (2 : Int32)).toNatClampNeg then none else (
        if (nI i + (3 : Int32)) < 0 ∨ L ≤ (nI i + (3 : Int32)).toNatClampNeg then none else (
        ob2 (F_X6_bribe fu M (xs (nI i + (1 : Int32)).toNatClampNeg) (xs (nI i + (2 : Int32)).toNatClampNeg) (xs (nI i + (3 : Int32)).toNatClampNeg)) (fun r320 M321 =>
        if (nI i + (1 : Int32)) < 0 ∨ L ≤ (nI i + (1 : Int32)).toNatClampNeg then none else (
        if (nI i + (2 : Int32)) < 0 ∨ L ≤ (nI i + (2 : Int32)).toNatClampNeg then none else (
        if (nI i + (3 : Int32)) < 0 ∨ L ≤ (nI i + (3 : Int32)).toNatClampNeg then none else (
        ob2 (F_X7_bribe fu M321 (xs (nI i + (1 : Int32)).toNatClampNeg) (xs (nI i + (2 : Int32)).toNatClampNeg) (xs (nI i + (3 : Int32)).toNatClampNeg)) (fun r326 M327 =>
        if r320 = r326 then
          K M327
        else
          none))))))))
    ) = some () := by
  obtain ⟨r, M1, M2, e1, e2, e3⟩ := call_bribe hf h (xs (nI i + (1 : Int32)).toNatClampNeg) (xs (nI i + (2 : Int32)).toNatClampNeg) (xs (nI i + (3 : Int32)).toNatClampNeg)
  have e2 : F_X7_bribe fu M1 (xs (nI i + (1 : Int32)).toNatClampNeg) (xs (nI i + (2 : Int32)).toNatClampNeg) (xs (nI i + (3 : Int32)).toNatClampNeg) = some (r, M2) := e2
  rw [gx1 hi hL, gx2 hi hL, gx3 hi hL, e1, ob2_s, gx1 hi hL, gx2 hi hL, gx3 hi hL, e2, ob2_s, if_pos rfl, hK _ e3]
theorem op_carry {fu : Nat} (hf : 1000 ≤ fu) {M : Mm} (h : Rel M) {L i : Nat} {xs : Nat → Int32} (hi : i + 6 ≤ L) (hL : L ≤ 3072) {K : Mm → Option Unit} (hK : ∀ M', Rel M' → K M' = some ()) : (
        if (nI i + (1 : Int32)) < 0 ∨ L ≤ (nI i + (1 : Int32)).toNatClampNeg then none else (
        if (nI i + (2 : Int32)) < 0 ∨ L ≤ (nI i + (2 : Int32)).toNatClampNeg then none else (
        ob1 (F_X6_carry fu M (xs (nI i + (1 : Int32)).toNatClampNeg) (xs (nI i + (2 : Int32)).toNatClampNeg)) (fun r333 =>
        if (nI i + (1 : Int32)) < 0 ∨ L ≤ (nI i + (1 : Int32)).toNatClampNeg then none else (
        if (nI i + (2 : Int32)) < 0 ∨ L ≤ (nI i + (2 : Int32)).toNatClampNeg then none else (
        ob1 (F_X7_carry fu M (xs (nI i + (1 : Int32)).toNatClampNeg) (xs (nI i + (2 : Int32)).toNatClampNeg)) (fun r337 =>
        if r333 = r337 then
          K M
        else
          none))))))
    ) = some () := by
  obtain ⟨r, e1, e2⟩ := call_carry hf h (xs (nI i + (1 : Int32)).toNatClampNeg) (xs (nI i + (2 : Int32)).toNatClampNeg)
  rw [gx1 hi hL, gx2 hi hL, e1, ob1_s, gx1 hi hL, gx2 hi hL, e2, ob1_s, if_pos rfl, hK _ h]
theorem op_census {fu : Nat} (hf : 1000 ≤ fu) {M : Mm} (h : Rel M) {L i : Nat} {xs : Nat → Int32} (hi : i + 6 ≤ L) (hL : L ≤ 3072) {K : Mm → Option Unit} (hK : ∀ M', Rel M' → K M' = some ()) : (
        if (nI i + (1 : Int32)) < 0 ∨ L ≤ (nI i + (1 : Int32)).toNatClampNeg then none else (
        ob2 (F_X6_census fu M (xs (nI i + (1 : Int32)).toNatClampNeg)) (fun r342 M343 =>
        if (nI i + (1 : Int32)) < 0 ∨ L ≤ (nI i + (1 : Int32)).toNatClampNeg then none else (
        ob2 (F_X7_census fu M343 (xs (nI i + (1 : Int32)).toNatClampNeg)) (fun r346 M347 =>
        if r342 = r346 then
          K M347
        else
          none))))
    ) = some () := by
  obtain ⟨r, M1, M2, e1, e2, e3⟩ := call_census hf h (xs (nI i + (1 : Int32)).toNatClampNeg)
  have e2 : F_X7_census fu M1 (xs (nI i + (1 : Int32)).toNatClampNeg) = some (r, M2) := e2
  rw [gx1 hi hL, e1, ob2_s, gx1 hi hL, e2, ob2_s, if_pos rfl, hK _ e3]
theorem op_counted {fu : Nat} (hf : 1000 ≤ fu) {M : Mm} (h : Rel M) {L i : Nat} {xs : Nat → Int32} (hi : i + 6 ≤ L) (hL : L ≤ 3072) {K : Mm → Option Unit} (hK : ∀ M', Rel M' → K M' = some ()) : (
        if (nI i + (1 : Int32)) < 0 ∨ L ≤ (nI i + (1 : Int32)).toNatClampNeg then none else (
        ob2 (F_X6_counted fu M (xs (nI i + (1 : Int32)).toNatClampNeg)) (fun r352 M353 =>
        if (nI i + (1 : Int32)) < 0 ∨ L ≤ (nI i + (1 : Int32)).toNatClampNeg then none else (
        ob2 (F_X7_counted fu M353 (xs (nI i + (1 : Int32)).toNatClampNeg)) (fun r356 M357 =>
        if r352 = r356 then
          K M357
        else
          none))))
    ) = some () := by
  obtain ⟨r, M1, M2, e1, e2, e3⟩ := call_counted hf h (xs (nI i + (1 : Int32)).toNatClampNeg)
  have e2 : F_X7_counted fu M1 (xs (nI i + (1 : Int32)).toNatClampNeg) = some (r, M2) := e2
  rw [gx1 hi hL, e1, ob2_s, gx1 hi hL, e2, ob2_s, if_pos rfl, hK _ e3]
theorem op_fits {fu : Nat} (hf : 1000 ≤ fu) {M : Mm} (h : Rel M) {L i : Nat} {xs : Nat → Int32} (hi : i + 6 ≤ L) (hL : L ≤ 3072) {K : Mm → Option Unit} (hK : ∀ M', Rel M' → K M' = some ()) : (
        if (nI i + (1 : Int32)) < 0 ∨ L ≤ (nI i + (1 : Int32)).toNatClampNeg then none else (
        if (nI i + (2 : Int32)) < 0 ∨ L ≤ (nI i + (2 : Int32)).toNatClampNeg then none else (
        ob2 (F_X6_fits fu M (xs (nI i + (1 : Int32)).toNatClampNeg) (xs (nI i + (2 : Int32)).toNatClampNeg)) (fun r363 M364 =>
        if (nI i + (1 : Int32)) < 0 ∨ L ≤ (nI i + (1 : Int32)).toNatClampNeg then none else (
        if (nI i + (2 : Int32)) < 0 ∨ L ≤ (nI i + (2 : Int32)).toNatClampNeg then none else (
        ob2 (F_X7_fits fu M364 (xs (nI i + (1 : Int32)).toNatClampNeg) (xs (nI i + (2 : Int32)).toNatClampNeg)) (fun r368 M369 =>
        if r363 = r368 then
          K M369
        else
          none))))))
    ) = some () := by
  obtain ⟨r, M1, M2, e1, e2, e3⟩ := call_fits hf h (xs (nI i + (1 : Int32)).toNatClampNeg) (xs (nI i + (2 : Int32)).toNatClampNeg)
  have e2 : F_X7_fits fu M1 (xs (nI i + (1 : Int32)).toNatClampNeg) (xs (nI i + (2 : Int32)).toNatClampNeg) = some (r, M2) := e2
  rw [gx1 hi hL, gx2 hi hL, e1, ob2_s, gx1 hi hL, gx2 hi hL, e2, ob2_s, if_pos rfl, hK _ e3]
theorem op_kinds {fu : Nat} (hf : 1000 ≤ fu) {M : Mm} (h : Rel M) {L i : Nat} {xs : Nat → Int32} (hi : i + 6 ≤ L) (hL : L ≤ 3072) {K : Mm → Option Unit} (hK : ∀ M', Rel M' → K M' = some ()) : (
        if (nI i + (1 : Int32)) < 0 ∨ L ≤ (nI i + (1 : Int32)).toNatClampNeg then none else (
        if (nI i + (2 : Int32)) < 0 ∨ L ≤ (nI i + (2 : Int32)).toNatClampNeg then none else (
        ob2 (F_X6_kinds fu M (xs (nI i + (1 : Int32)).toNatClampNeg) (xs (nI i + (2 : Int32)).toNatClampNeg)) (fun r375 M376 =>
        if (nI i + (1 : Int32)) < 0 ∨ L ≤ (nI i + (1 : Int32)).toNatClampNeg then none else (
        if (nI i + (2 : Int32)) < 0 ∨ L ≤ (nI i + (2 : Int32)).toNatClampNeg then none else (
        ob2 (F_X7_kinds fu M376 (xs (nI i + (1 : Int32)).toNatClampNeg) (xs (nI i + (2 : Int32)).toNatClampNeg)) (fun r380 M381 =>
        if r375 = r380 then
          K M381
        else
          none))))))
    ) = some () := by
  obtain ⟨r, M1, M2, e1, e2, e3⟩ := call_kinds hf h (xs (nI i + (1 : Int32)).toNatClampNeg) (xs (nI i + (2 : Int32)).toNatClampNeg)
  have e2 : F_X7_kinds fu M1 (xs (nI i + (1 : Int32)).toNatClampNeg) (xs (nI i + (2 : Int32)).toNatClampNeg) = some (r, M2) := e2
  rw [gx1 hi hL, gx2 hi hL, e1, ob2_s, gx1 hi hL, gx2 hi hL, e2, ob2_s, if_pos rfl, hK _ e3]
theorem op_rights {fu : Nat} (hf : 1000 ≤ fu) {M : Mm} (h : Rel M) {L i : Nat} {xs : Nat → Int32} (hi : i + 6 ≤ L) (hL : L ≤ 3072) {K : Mm → Option Unit} (hK : ∀ M', Rel M' → K M' = some ()) : (
        if (nI i + (1 : Int32)) < 0 ∨ L ≤ (nI i + (1 : Int32)).toNatClampNeg then none else (
        ob1 (F_X6_rights fu M (xs (nI i + (1 : Int32)).toNatClampNeg)) (fun r386 =>
        if (nI i + (1 : Int32)) < 0 ∨ L ≤ (nI i + (1 : Int32)).toNatClampNeg then none else (
        ob2 (F_X7_rights fu M (xs (nI i + (1 : Int32)).toNatClampNeg)) (fun r389 M390 =>
        if r386 = r389 then
          K M390
        else
          none))))
    ) = some () := by
  obtain ⟨r, M1, e1, e2, e3⟩ := call_rights hf h (xs (nI i + (1 : Int32)).toNatClampNeg)
  rw [gx1 hi hL, e1, ob1_s, gx1 hi hL, e2, ob2_s, if_pos rfl, hK _ e3]
theorem op_game {fu : Nat} (hf : 1000 ≤ fu) {M : Mm} (h : Rel M) {L i : Nat} {xs : Nat → Int32} (hi : i + 6 ≤ L) (hL : L ≤ 3072) {K : Mm → Option Unit} (hK : ∀ M', Rel M' → K M' = some ()) : (
        if (nI i + (1 : Int32)) < 0 ∨ L ≤ (nI i + (1 : Int32)).toNatClampNeg then none else (
        ob2 (F_X6_game fu M (xs (nI i + (1 : Int32)).toNatClampNeg)) (fun r395 M396 =>
        if (nI i + (1 : Int32)) < 0 ∨ L ≤ (nI i + (1 : Int32)).toNatClampNeg then none else (
        ob2 (F_X7_game fu M396 (xs (nI i + (1 : Int32)).toNatClampNeg)) (fun r399 M400 =>
        if r395 = r399 then
          K M400
        else
          none))))
    ) = some () := by
  obtain ⟨r, M1, M2, e1, e2, e3⟩ := call_game hf h (xs (nI i + (1 : Int32)).toNatClampNeg)
  have e2 : F_X7_game fu M1 (xs (nI i + (1 : Int32)).toNatClampNeg) = some (r, M2) := e2
  rw [gx1 hi hL, e1, ob2_s, gx1 hi hL, e2, ob2_s, if_pos rfl, hK _ e3]
theorem op_first {fu : Nat} (hf : 1000 ≤ fu) {M : Mm} (h : Rel M) {L i : Nat} {xs : Nat → Int32} (hi : i + 6 ≤ L) (hL : L ≤ 3072) {K : Mm → Option Unit} (hK : ∀ M', Rel M' → K M' = some ()) : (
        if (nI i + (1 : Int32)) < 0 ∨ L ≤ (nI i + (1 : Int32)).toNatClampNeg then none else (
        ob2 (F_X6_first fu M (xs (nI i + (1 : Int32)).toNatClampNeg)) (fun r405 M406 =>
        if (nI i + (1 : Int32)) < 0 ∨ L ≤ (nI i + (1 : Int32)).toNatClampNeg then none else (
        ob2 (F_X7_first fu M406 (xs (nI i + (1 : Int32)).toNatClampNeg)) (fun r409 M410 =>
        if r405 = r409 then
          K M410
        else
          none))))
    ) = some () := by
  obtain ⟨r, M1, M2, e1, e2, e3⟩ := call_first hf h (xs (nI i + (1 : Int32)).toNatClampNeg)
  have e2 : F_X7_first fu M1 (xs (nI i + (1 : Int32)).toNatClampNeg) = some (r, M2) := e2
  rw [gx1 hi hL, e1, ob2_s, gx1 hi hL, e2, ob2_s, if_pos rfl, hK _ e3]
theorem op_odds {fu : Nat} (hf : 1000 ≤ fu) {M : Mm} (h : Rel M) {L i : Nat} {xs : Nat → Int32} (hi : i + 6 ≤ L) (hL : L ≤ 3072) {K : Mm → Option Unit} (hK : ∀ M', Rel M' → K M' = some ()) : (
        if (nI i + (1 : Int32)) < 0 ∨ L ≤ (nI i + (1 : Int32)).toNatClampNeg then none else (
        if (nI i + (2 : Int32)) < 0 ∨ L ≤ (nI i + (2 : Int32)).toNatClampNeg then none else (
        if (nI i + (3 : Int32)) < 0 ∨ L ≤ (nI i + (3 : Int32)).toNatClampNeg then none else (
        ob2 (F_X6_odds fu M (xs (nI i + (1 : Int32)).toNatClampNeg) (xs (nI i + (2 : Int32)).toNatClampNeg) (xs (nI i + (3 : Int32)).toNatClampNeg)) (fun r417 M418 =>
        if (nI i + (1 : Int32)) < 0 ∨ L ≤ (nI i + (1 : Int32)).toNatClampNeg then none else (
        if (nI i + (2 : Int32)) < 0 ∨ L ≤ (nI i + (2 : Int32)).toNatClampNeg then none else (
        if (nI i + (3 : Int32)) < 0 ∨ L ≤ (nI i + (3 : Int32)).toNatClampNeg then none else (
        ob2 (F_X7_odds fu M418 (xs (nI i + (1 : Int32)).toNatClampNeg) (xs (nI i + (2 : Int32)).toNatClampNeg) (xs (nI i + (3 : Int32)).toNatClampNeg)) (fun r423 M424 =>
        if r417 = r423 then
          K M424
        else
          none))))))))
    ) = some () := by
  obtain ⟨r, M1, M2, e1, e2, e3⟩ := call_odds hf h (xs (nI i + (1 : Int32)).toNatClampNeg) (xs (nI i + (2 : Int32)).toNatClampNeg) (xs (nI i + (3 : Int32)).toNatClampNeg)
  have e2 : F_X7_odds fu M1 (xs (nI i + (1 : Int32)).toNatClampNeg) (xs (nI i + (2 : Int32)).toNatClampNeg) (xs (nI i + (3 : Int32)).toNatClampNeg) = some (r, M2) := e2
  rw [gx1 hi hL, gx2 hi hL, gx3 hi hL, e1, ob2_s, gx1 hi hL, gx2 hi hL, gx3 hi hL, e2, ob2_s, if_pos rfl, hK _ e3]
theorem op_mid {fu : Nat} (hf : 1000 ≤ fu) {M : Mm} (h : Rel M) {L i : Nat} {xs : Nat → Int32} (hi : i + 6 ≤ L) (hL : L ≤ 3072) {K : Mm → Option Unit} (hK : ∀ M', Rel M' → K M' = some ()) : (
        if (nI i + (1 : Int32)) < 0 ∨ L ≤ (nI i + (1 : Int32)).toNatClampNeg then none else (
        if (nI i + (2 : Int32)) < 0 ∨ L ≤ (nI i + (2 : Int32)).toNatClampNeg then none else (
        if (nI i + (3 : Int32)) < 0 ∨ L ≤ (nI i + (3 : Int32)).toNatClampNeg then none else (
        ob2 (F_X6_mid fu M (xs (nI i + (1 : Int32)).toNatClampNeg) (xs (nI i + (2 : Int32)).toNatClampNeg) (xs (nI i + (3 : Int32)).toNatClampNeg)) (fun r431 M432 =>
        if (nI i + (1 : Int32)) < 0 ∨ L ≤ (nI i + (1 : Int32)).toNatClampNeg then none else (
        if (nI i + (2 : Int32)) < 0 ∨ L ≤ (nI i + (2 : Int32)).toNatClampNeg then none else (
        if (nI i + (3 : Int32)) < 0 ∨ L ≤ (nI i + (3 : Int32)).toNatClampNeg then none else (
        ob2 (F_X7_mid fu M432 (xs (nI i + (1 : Int32)).toNatClampNeg) (xs (nI i + (2 : Int32)).toNatClampNeg) (xs (nI i + (3 : Int32)).toNatClampNeg)) (fun r437 M438 =>
        if r431 = r437 then
          K M438
        else
          none))))))))
    ) = some () := by
  obtain ⟨r, M1, M2, e1, e2, e3⟩ := call_mid hf h (xs (nI i + (1 : Int32)).toNatClampNeg) (xs (nI i + (2 : Int32)).toNatClampNeg) (xs (nI i + (3 : Int32)).toNatClampNeg)
  have e2 : F_X7_mid fu M1 (xs (nI i + (1 : Int32)).toNatClampNeg) (xs (nI i + (2 : Int32)).toNatClampNeg) (xs (nI i + (3 : Int32)).toNatClampNeg) = some (r, M2) := e2
  rw [gx1 hi hL, gx2 hi hL, gx3 hi hL, e1, ob2_s, gx1 hi hL, gx2 hi hL, gx3 hi hL, e2, ob2_s, if_pos rfl, hK _ e3]
theorem op_lots {fu : Nat} (hf : 1000 ≤ fu) {M : Mm} (h : Rel M) {L i : Nat} {xs : Nat → Int32} (hi : i + 6 ≤ L) (hL : L ≤ 3072) {K : Mm → Option Unit} (hK : ∀ M', Rel M' → K M' = some ()) : (
        if (nI i + (1 : Int32)) < 0 ∨ L ≤ (nI i + (1 : Int32)).toNatClampNeg then none else (
        if (nI i + (2 : Int32)) < 0 ∨ L ≤ (nI i + (2 : Int32)).toNatClampNeg then none else (
        if (nI i + (3 : Int32)) < 0 ∨ L ≤ (nI i + (3 : Int32)).toNatClampNeg then none else (
        ob2 (F_X6_lots fu M (xs (nI i + (1 : Int32)).toNatClampNeg) (xs (nI i + (2 : Int32)).toNatClampNeg) (xs (nI i + (3 : Int32)).toNatClampNeg)) (fun r445 M446 =>
        if (nI i + (1 : Int32)) < 0 ∨ L ≤ (nI i + (1 : Int32)).toNatClampNeg then none else (
        if (nI i + (2 : Int32)) < 0 ∨ L ≤ (nI i + (2 : Int32)).toNatClampNeg then none else (
        if (nI i + (3 : Int32)) < 0 ∨ L ≤ (nI i + (3 : Int32)).toNatClampNeg then none else (
        ob2 (F_X7_lots fu M446 (xs (nI i + (1 : Int32)).toNatClampNeg) (xs (nI i + (2 : Int32)).toNatClampNeg) (xs (nI i + (3 : Int32)).toNatClampNeg)) (fun r451 M452 =>
        if r445 = r451 then
          K M452
        else
          none))))))))
    ) = some () := by
  obtain ⟨r, M1, M2, e1, e2, e3⟩ := call_lots hf h (xs (nI i + (1 : Int32)).toNatClampNeg) (xs (nI i + (2 : Int32)).toNatClampNeg) (xs (nI i + (3 : Int32)).toNatClampNeg)
  have e2 : F_X7_lots fu M1 (xs (nI i + (1 : Int32)).toNatClampNeg) (xs (nI i + (2 : Int32)).toNatClampNeg) (xs (nI i + (3 : Int32)).toNatClampNeg) = some (r, M2) := e2
  rw [gx1 hi hL, gx2 hi hL, gx3 hi hL, e1, ob2_s, gx1 hi hL, gx2 hi hL, gx3 hi hL, e2, ob2_s, if_pos rfl, hK _ e3]
theorem op_asked {fu : Nat} (hf : 1000 ≤ fu) {M : Mm} (h : Rel M) {L i : Nat} {xs : Nat → Int32} (hi : i + 6 ≤ L) (hL : L ≤ 3072) {K : Mm → Option Unit} (hK : ∀ M', Rel M' → K M' = some ()) : (
        ob1 (F_X6_asked fu M) (fun r456 =>
        ob1 (F_X7_asked fu M) (fun r458 =>
        if r456 = r458 then
          K M
        else
          none))
    ) = some () := by
  obtain ⟨r, e1, e2⟩ := call_asked h 
  rw [e1, ob1_s, e2, ob1_s, if_pos rfl, hK _ h]
theorem op_upper {fu : Nat} (hf : 1000 ≤ fu) {M : Mm} (h : Rel M) {L i : Nat} {xs : Nat → Int32} (hi : i + 6 ≤ L) (hL : L ≤ 3072) {K : Mm → Option Unit} (hK : ∀ M', Rel M' → K M' = some ()) : (
        ob1 (F_X6_upper fu M) (fun r462 =>
        ob1 (F_X7_upper fu M) (fun r464 =>
        if (lg_cmp r462 r464) = 0 then
          K M
        else
          none))
    ) = some () := by
  obtain ⟨r, e1, e2⟩ := call_upper h 
  rw [e1, ob1_s, e2, ob1_s, if_pos (lg_rf r), hK _ h]
theorem op_lower {fu : Nat} (hf : 1000 ≤ fu) {M : Mm} (h : Rel M) {L i : Nat} {xs : Nat → Int32} (hi : i + 6 ≤ L) (hL : L ≤ 3072) {K : Mm → Option Unit} (hK : ∀ M', Rel M' → K M' = some ()) : (
        ob1 (F_X6_lower fu M) (fun r468 =>
        ob1 (F_X7_lower fu M) (fun r470 =>
        if (lg_cmp r468 r470) = 0 then
          K M
        else
          none))
    ) = some () := by
  obtain ⟨r, e1, e2⟩ := call_lower h 
  rw [e1, ob1_s, e2, ob1_s, if_pos (lg_rf r), hK _ h]
theorem op_count {fu : Nat} (hf : 1000 ≤ fu) {M : Mm} (h : Rel M) {L i : Nat} {xs : Nat → Int32} (hi : i + 6 ≤ L) (hL : L ≤ 3072) {K : Mm → Option Unit} (hK : ∀ M', Rel M' → K M' = some ()) : (
        if (nI i + (1 : Int32)) < 0 ∨ L ≤ (nI i + (1 : Int32)).toNatClampNeg then none else (
        ob1 (F_X6_count fu M (xs (nI i + (1 : Int32)).toNatClampNeg)) (fun r475 =>
        if (nI i + (1 : Int32)) < 0 ∨ L ≤ (nI i + (1 : Int32)).toNatClampNeg then none else (
        ob1 (F_X7_count fu M (xs (nI i + (1 : Int32)).toNatClampNeg)) (fun r478 =>
        if r475 = r478 then
          K M
        else
          none))))
    ) = some () := by
  obtain ⟨r, e1, e2⟩ := call_count hf h (xs (nI i + (1 : Int32)).toNatClampNeg)
  rw [gx1 hi hL, e1, ob1_s, gx1 hi hL, e2, ob1_s, if_pos rfl, hK _ h]
theorem op_finding {fu : Nat} (hf : 1000 ≤ fu) {M : Mm} (h : Rel M) {L i : Nat} {xs : Nat → Int32} (hi : i + 6 ≤ L) (hL : L ≤ 3072) {K : Mm → Option Unit} (hK : ∀ M', Rel M' → K M' = some ()) : (
        ob1 (F_X6_finding fu M) (fun r482 =>
        ob1 (F_X7_finding fu M) (fun r484 =>
        if r482 = r484 then
          K M
        else
          none))
    ) = some () := by
  obtain ⟨r, e1, e2⟩ := call_finding h 
  rw [e1, ob1_s, e2, ob1_s, if_pos rfl, hK _ h]
theorem op_findings {fu : Nat} (hf : 1000 ≤ fu) {M : Mm} (h : Rel M) {L i : Nat} {xs : Nat → Int32} (hi : i + 6 ≤ L) (hL : L ≤ 3072) {K : Mm → Option Unit} (hK : ∀ M', Rel M' → K M' = some ()) : (
        if (nI i + (1 : Int32)) < 0 ∨ L ≤ (nI i + (1 : Int32)).toNatClampNeg then none else (
        ob1 (F_X6_findings fu M (xs (nI i + (1 : Int32)).toNatClampNeg)) (fun r489 =>
        if (nI i + (1 : Int32)) < 0 ∨ L ≤ (nI i + (1 : Int32)).toNatClampNeg then none else (
        ob1 (F_X7_findings fu M (xs (nI i + (1 : Int32)).toNatClampNeg)) (fun r492 =>
        if r489 = r492 then
          K M
        else
          none))))
    ) = some () := by
  obtain ⟨r, e1, e2⟩ := call_findings h (xs (nI i + (1 : Int32)).toNatClampNeg)
  rw [gx1 hi hL, e1, ob1_s, gx1 hi hL, e2, ob1_s, if_pos rfl, hK _ h]
theorem op_digest {fu : Nat} (hf : 1000 ≤ fu) {M : Mm} (h : Rel M) {L i : Nat} {xs : Nat → Int32} (hi : i + 6 ≤ L) (hL : L ≤ 3072) {K : Mm → Option Unit} (hK : ∀ M', Rel M' → K M' = some ()) : (
        ob1 (F_X6_digest fu M) (fun r496 =>
        ob1 (F_X7_digest fu M) (fun r498 =>
        if (lg_cmp r496 r498) = 0 then
          K M
        else
          none))
    ) = some () := by
  obtain ⟨r, e1, e2⟩ := call_digest hf h 
  rw [e1, ob1_s, e2, ob1_s, if_pos (lg_rf r), hK _ h]
theorem law_loop {fu : Nat} (hf : 1000 ≤ fu) {L : Nat} {xs : Nat → Int32} (hL : L ≤ 3072) : ∀ (n : Nat) (M : Mm) (i : Nat), Rel M → i ≤ L + 5 → L + 6 < i + 6 * n → F_L_law_18 L xs fu n M (nI i) = some () := by
  intro n
  induction n with
  | zero => intro M i h h1 h2; omega
  | succ n ih =>
    intro M i h h1 h2
    have e0 : (Int32.ofNat L - (6 : Int32) < nI i) ↔ L < i + 6 := by
      rw [Int32.lt_iff_toInt_lt, L6, show Int32.ofNat L = nI L from rfl, pk_sub_toInt (by omega) (by decide), nI_toInt (by omega)]
      omega
    rw [F_L_law_18]
    refine it_u (fun _ => rfl) (fun hn => ?_)
    have hi : i + 6 ≤ L := by
      rw [e0] at hn
      omega
    have hK : ∀ M', Rel M' → F_L_law_18 L xs fu n M' (nI i + (6 : Int32)) = some () := fun M' h' => by
      rw [L6, nI_add]
      exact ih M' (i + 6) h' (by omega) (by omega)
    refine (gx0 hi hL).trans ?_
    refine it_u (fun _ => op_row hf h hi hL (xs := xs) (K := fun M' => F_L_law_18 L xs fu n M' (nI i + (6 : Int32))) hK) (fun _ => ?_)
    refine it_u (fun _ => op_lay hf h hi hL (xs := xs) (K := fun M' => F_L_law_18 L xs fu n M' (nI i + (6 : Int32))) hK) (fun _ => ?_)
    refine it_u (fun _ => op_at hf h hi hL (xs := xs) (K := fun M' => F_L_law_18 L xs fu n M' (nI i + (6 : Int32))) hK) (fun _ => ?_)
    refine it_u (fun _ => op_tear hf h hi hL (xs := xs) (K := fun M' => F_L_law_18 L xs fu n M' (nI i + (6 : Int32))) hK) (fun _ => ?_)
    refine it_u (fun _ => op_copy hf h hi hL (xs := xs) (K := fun M' => F_L_law_18 L xs fu n M' (nI i + (6 : Int32))) hK) (fun _ => ?_)
    refine it_u (fun _ => op_mean hf h hi hL (xs := xs) (K := fun M' => F_L_law_18 L xs fu n M' (nI i + (6 : Int32))) hK) (fun _ => ?_)
    refine it_u (fun _ => op_text hf h hi hL (xs := xs) (K := fun M' => F_L_law_18 L xs fu n M' (nI i + (6 : Int32))) hK) (fun _ => ?_)
    refine it_u (fun _ => op_put hf h hi hL (xs := xs) (K := fun M' => F_L_law_18 L xs fu n M' (nI i + (6 : Int32))) hK) (fun _ => ?_)
    refine it_u (fun _ => op_fault hf h hi hL (xs := xs) (K := fun M' => F_L_law_18 L xs fu n M' (nI i + (6 : Int32))) hK) (fun _ => ?_)
    refine it_u (fun _ => op_north hf h hi hL (xs := xs) (K := fun M' => F_L_law_18 L xs fu n M' (nI i + (6 : Int32))) hK) (fun _ => ?_)
    refine it_u (fun _ => op_man hf h hi hL (xs := xs) (K := fun M' => F_L_law_18 L xs fu n M' (nI i + (6 : Int32))) hK) (fun _ => ?_)
    refine it_u (fun _ => op_mark hf h hi hL (xs := xs) (K := fun M' => F_L_law_18 L xs fu n M' (nI i + (6 : Int32))) hK) (fun _ => ?_)
    refine it_u (fun _ => op_sun hf h hi hL (xs := xs) (K := fun M' => F_L_law_18 L xs fu n M' (nI i + (6 : Int32))) hK) (fun _ => ?_)
    refine it_u (fun _ => op_right hf h hi hL (xs := xs) (K := fun M' => F_L_law_18 L xs fu n M' (nI i + (6 : Int32))) hK) (fun _ => ?_)
    refine it_u (fun _ => op_day hf h hi hL (xs := xs) (K := fun M' => F_L_law_18 L xs fu n M' (nI i + (6 : Int32))) hK) (fun _ => ?_)
    refine it_u (fun _ => op_shade hf h hi hL (xs := xs) (K := fun M' => F_L_law_18 L xs fu n M' (nI i + (6 : Int32))) hK) (fun _ => ?_)
    refine it_u (fun _ => op_snow hf h hi hL (xs := xs) (K := fun M' => F_L_law_18 L xs fu n M' (nI i + (6 : Int32))) hK) (fun _ => ?_)
    refine it_u (fun _ => op_undo hf h hi hL (xs := xs) (K := fun M' => F_L_law_18 L xs fu n M' (nI i + (6 : Int32))) hK) (fun _ => ?_)
    refine it_u (fun _ => op_now hf h hi hL (xs := xs) (K := fun M' => F_L_law_18 L xs fu n M' (nI i + (6 : Int32))) hK) (fun _ => ?_)
    refine it_u (fun _ => op_keep hf h hi hL (xs := xs) (K := fun M' => F_L_law_18 L xs fu n M' (nI i + (6 : Int32))) hK) (fun _ => ?_)
    refine it_u (fun _ => op_on hf h hi hL (xs := xs) (K := fun M' => F_L_law_18 L xs fu n M' (nI i + (6 : Int32))) hK) (fun _ => ?_)
    refine it_u (fun _ => op_bulk hf h hi hL (xs := xs) (K := fun M' => F_L_law_18 L xs fu n M' (nI i + (6 : Int32))) hK) (fun _ => ?_)
    refine it_u (fun _ => op_gone hf h hi hL (xs := xs) (K := fun M' => F_L_law_18 L xs fu n M' (nI i + (6 : Int32))) hK) (fun _ => ?_)
    refine it_u (fun _ => op_votes hf h hi hL (xs := xs) (K := fun M' => F_L_law_18 L xs fu n M' (nI i + (6 : Int32))) hK) (fun _ => ?_)
    refine it_u (fun _ => op_carried hf h hi hL (xs := xs) (K := fun M' => F_L_law_18 L xs fu n M' (nI i + (6 : Int32))) hK) (fun _ => ?_)
    refine it_u (fun _ => op_days hf h hi hL (xs := xs) (K := fun M' => F_L_law_18 L xs fu n M' (nI i + (6 : Int32))) hK) (fun _ => ?_)
    refine it_u (fun _ => op_widow hf h hi hL (xs := xs) (K := fun M' => F_L_law_18 L xs fu n M' (nI i + (6 : Int32))) hK) (fun _ => ?_)
    refine it_u (fun _ => op_heir hf h hi hL (xs := xs) (K := fun M' => F_L_law_18 L xs fu n M' (nI i + (6 : Int32))) hK) (fun _ => ?_)
    refine it_u (fun _ => op_guard hf h hi hL (xs := xs) (K := fun M' => F_L_law_18 L xs fu n M' (nI i + (6 : Int32))) hK) (fun _ => ?_)
    refine it_u (fun _ => op_bribe hf h hi hL (xs := xs) (K := fun M' => F_L_law_18 L xs fu n M' (nI i + (6 : Int32))) hK) (fun _ => ?_)
    refine it_u (fun _ => op_carry hf h hi hL (xs := xs) (K := fun M' => F_L_law_18 L xs fu n M' (nI i + (6 : Int32))) hK) (fun _ => ?_)
    refine it_u (fun _ => op_census hf h hi hL (xs := xs) (K := fun M' => F_L_law_18 L xs fu n M' (nI i + (6 : Int32))) hK) (fun _ => ?_)
    refine it_u (fun _ => op_counted hf h hi hL (xs := xs) (K := fun M' => F_L_law_18 L xs fu n M' (nI i + (6 : Int32))) hK) (fun _ => ?_)
    refine it_u (fun _ => op_fits hf h hi hL (xs := xs) (K := fun M' => F_L_law_18 L xs fu n M' (nI i + (6 : Int32))) hK) (fun _ => ?_)
    refine it_u (fun _ => op_kinds hf h hi hL (xs := xs) (K := fun M' => F_L_law_18 L xs fu n M' (nI i + (6 : Int32))) hK) (fun _ => ?_)
    refine it_u (fun _ => op_rights hf h hi hL (xs := xs) (K := fun M' => F_L_law_18 L xs fu n M' (nI i + (6 : Int32))) hK) (fun _ => ?_)
    refine it_u (fun _ => op_game hf h hi hL (xs := xs) (K := fun M' => F_L_law_18 L xs fu n M' (nI i + (6 : Int32))) hK) (fun _ => ?_)
    refine it_u (fun _ => op_first hf h hi hL (xs := xs) (K := fun M' => F_L_law_18 L xs fu n M' (nI i + (6 : Int32))) hK) (fun _ => ?_)
    refine it_u (fun _ => op_odds hf h hi hL (xs := xs) (K := fun M' => F_L_law_18 L xs fu n M' (nI i + (6 : Int32))) hK) (fun _ => ?_)
    refine it_u (fun _ => op_mid hf h hi hL (xs := xs) (K := fun M' => F_L_law_18 L xs fu n M' (nI i + (6 : Int32))) hK) (fun _ => ?_)
    refine it_u (fun _ => op_lots hf h hi hL (xs := xs) (K := fun M' => F_L_law_18 L xs fu n M' (nI i + (6 : Int32))) hK) (fun _ => ?_)
    refine it_u (fun _ => op_asked hf h hi hL (xs := xs) (K := fun M' => F_L_law_18 L xs fu n M' (nI i + (6 : Int32))) hK) (fun _ => ?_)
    refine it_u (fun _ => op_upper hf h hi hL (xs := xs) (K := fun M' => F_L_law_18 L xs fu n M' (nI i + (6 : Int32))) hK) (fun _ => ?_)
    refine it_u (fun _ => op_lower hf h hi hL (xs := xs) (K := fun M' => F_L_law_18 L xs fu n M' (nI i + (6 : Int32))) hK) (fun _ => ?_)
    refine it_u (fun _ => op_count hf h hi hL (xs := xs) (K := fun M' => F_L_law_18 L xs fu n M' (nI i + (6 : Int32))) hK) (fun _ => ?_)
    refine it_u (fun _ => op_finding hf h hi hL (xs := xs) (K := fun M' => F_L_law_18 L xs fu n M' (nI i + (6 : Int32))) hK) (fun _ => ?_)
    refine it_u (fun _ => op_findings hf h hi hL (xs := xs) (K := fun M' => F_L_law_18 L xs fu n M' (nI i + (6 : Int32))) hK) (fun _ => ?_)
    refine it_u (fun _ => op_digest hf h hi hL (xs := xs) (K := fun M' => F_L_law_18 L xs fu n M' (nI i + (6 : Int32))) hK) (fun _ => ?_)
    exact hK M h
def nv0 : NV := (0, 0, 0, (fun _ => 0), (fun _ => 0), (fun _ => 0), (fun _ => 0), (fun _ => 0))
def ns0 : Ns := (nv0, (fun _ => (0, 0, 0)), 0, 0)
theorem m0_t : M0.1 0 8 = M0.1 86 19 ∧ M0.1 0 9 = M0.1 86 16 ∧ M0.2 0 10 = M0.2 86 17 ∧ M0.2 0 11 = M0.2 86 18 ∧ ∀ f, f < 6 → M0.1 80 f = M0.1 99 f := by decide +kernel
theorem m0_r : ∀ r, r < 6 → M0.1 (1 + r) 0 = 0 ∧ M0.1 88 r = -9 := by decide +kernel
theorem m0_x : ∀ r, r < 4 → M0.1 (13 + r) 0 = 0 ∧ M0.1 90 r = -9 := by decide +kernel
theorem m0_c : M0.1 24 0 = nI 0 ∧ M0.1 24 1 = nI 0 ∧ M0.1 24 2 = nI 0 ∧ M0.1 24 3 = nI 0 ∧ ∀ j, j < 8 → M0.1 25 j = nI 0 := by decide +kernel
theorem m0_v : M0.1 86 4 = nI 0 ∧ M0.1 86 10 = nI 0 ∧ M0.1 86 11 = nI 0 ∧ M0.1 86 12 = nI 0 ∧ ∀ j, j < 8 → M0.1 93 j = nI 0 := by decide +kernel
theorem m0_k : ∀ k, k < 3 → M0.1 (35 + 11 * k) 0 = 0 ∧ M0.1 98 k = 0 := by decide +kernel
theorem rel_0 : Rel M0 := by
  refine ⟨m0_t, fun r hr => Or.inl (m0_r r hr), fun r hr => Or.inl (m0_x r hr), ns0, ?_, ?_, ?_, fun k hk => Or.inl (m0_k k hk)⟩
  · refine ⟨⟨Nat.zero_le _, fun j => Nat.zero_le _, fun i hi => absurd hi (Nat.not_lt_zero _)⟩, rfl, Nat.zero_le _, fun k hk => absurd hk (Nat.not_lt_zero _), Nat.zero_le _, fun q => absurd q (Nat.lt_irrefl _), fun _ => rfl⟩
  · obtain ⟨a, b, c, d, e⟩ := m0_c
    exact ⟨a, b, c, d, e, fun i hi => absurd hi (Nat.not_lt_zero _), fun k hk => absurd hk (Nat.not_lt_zero _)⟩
  · obtain ⟨a, b, c, d, e⟩ := m0_v
    exact ⟨⟨a, b, c, e, fun i hi => absurd hi (Nat.not_lt_zero _)⟩, d, fun k hk => absurd hk (Nat.not_lt_zero _)⟩
theorem law_pure (L : Nat) (xs : Nat → Int32) (hL : L ≤ 3072) : ∃ fu, F_L_law_18 L xs fu fu M0 (0 : Int32) = some () :=
  ⟨5000, law_loop (by decide) hL 5000 M0 0 rel_0 (by omega) (by omega)⟩
