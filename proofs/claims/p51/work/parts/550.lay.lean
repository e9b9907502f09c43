/-! what the law lays out of the script: numbers within their bounds -/
theorem and31 (x : Int32) : ∃ b, b < 2147483648 ∧ x &&& (2147483647 : Int32) = nI b := by
  refine ⟨x.toBitVec.toNat % 2 ^ 31, Nat.mod_lt _ (by decide), ?_⟩
  apply Int32.toBitVec_inj.mp
  apply BitVec.eq_of_toNat_eq
  rw [Int32.toBitVec_and, BitVec.toNat_and, show (2147483647 : Int32).toBitVec.toNat = 2 ^ 31 - 1 by decide, Nat.and_two_pow_sub_one_eq_mod]
  show _ = (BitVec.ofNat 32 (x.toBitVec.toNat % 2 ^ 31)).toNat
  rw [BitVec.toNat_ofNat]
  omega
theorem and1 (x : Int32) : ∃ b, b ≤ 1 ∧ x &&& (1 : Int32) = nI b := by
  refine ⟨x.toBitVec.toNat % 2 ^ 1, by omega, ?_⟩
  apply Int32.toBitVec_inj.mp
  apply BitVec.eq_of_toNat_eq
  rw [Int32.toBitVec_and, BitVec.toNat_and, show (1 : Int32).toBitVec.toNat = 2 ^ 1 - 1 by decide, Nat.and_two_pow_sub_one_eq_mod]
  show _ = (BitVec.ofNat 32 (x.toBitVec.toNat % 2 ^ 1)).toNat
  rw [BitVec.toNat_ofNat]
  omega
def RG (lo hi : Nat) (x : Int32) : Prop := ∃ a, lo ≤ a ∧ a ≤ hi ∧ x = nI a
theorem up_e (x : Int32) {n : Nat} (h0 : 0 < n) (hn : n < 1000) : ∃ a, a < n ∧ ∀ fu M, F_L_up fu M x (nI n) = some (nI a) := by
  obtain ⟨b, hb, e⟩ := and31 x
  refine ⟨b % n, Nat.mod_lt _ h0, fun fu M => ?_⟩
  unfold F_L_up
  rw [if_neg (nI_ne0 h0 (by omega)), e, nI_rem hb h0 (by omega)]
theorem cell_e {L : Nat} (hL : L ≤ 260) (xs : Nat → Int32) {j : Nat} (hj : j < 1000) : ∃ c, ∀ fu M, F_L_cell L xs fu M (nI j) = some c := by
  by_cases h : L ≤ j
  · refine ⟨(320440878 : Int32) * (nI j + (263 : Int32)), fun fu M => ?_⟩
    unfold F_L_cell
    exact if_pos (nI_le h (by omega))
  · refine ⟨xs j, fun fu M => ?_⟩
    unfold F_L_cell
    rw [show Int32.ofNat L = nI L from rfl, if_neg (nI_ge (by omega) (by omega)), if_neg (nI_rng (by omega) (by omega)), nI_tc (by omega)]
def o86 (p : Nat → Prop) (x j : Nat) : Prop := x = 86 ∧ p j
theorem lay_193 {L : Nat} {xs : Nat → Int32} {fu : Nat} {k104 : Mm → Int32 → Option Mm} {i n1 : Nat} (hi : i < 6) (h1 : 0 < n1) (h2 : n1 ≤ 10) (M : Mm) (c t2 : Int32) : ∃ M', F_L_lay_193 L xs fu k104 M (nI i) c (nI (12 + i)) t2 (nI n1) = k104 M' (nI (i + 1)) ∧ RG 0 9 (M'.1 86 (12 + i)) ∧ RG 0 1 (M'.1 86 (18 + i)) ∧ Out (o86 fun j => j = 12 + i ∨ j = 18 + i) M M' := by
  obtain ⟨a, ha, e⟩ := up_e t2 h1 (by omega)
  obtain ⟨b, hb, e2⟩ := and1 (c >>> ((15 : Int32) &&& 31))
  refine ⟨pI (pI M 86 (12 + i) (nI a)) 86 (18 + i) (nI b), ?_, ⟨a, by omega, by omega, ?_⟩, ⟨b, by omega, by omega, ?_⟩, ((Out.rf).pI ⟨rfl, Or.inl rfl⟩).pI ⟨rfl, Or.inr rfl⟩⟩
  · unfold F_L_lay_193
    rw [e, ob1_s, x86 (by omega), clN (by omega), lt1_s, L18, nI_add, x86 (by omega), clN (by omega), lt1_s, e2, nI_1]
  · rw [pI_n (by omega), pI_s]
  · rw [pI_s]
theorem lay_160 {L : Nat} {xs : Nat → Int32} {fu : Nat} {k104 : Mm → Int32 → Option Mm} {i n1 : Nat} (hi : i < 6) (h1 : 0 < n1) (h2 : n1 ≤ 99) (M : Mm) (c t2 : Int32) : ∃ M', F_L_lay_160 L xs fu k104 M (nI i) c (nI (6 + i)) (1 : Int32) t2 (nI n1) = k104 M' (nI (i + 1)) ∧ RG 1 99 (M'.1 86 (6 + i)) ∧ RG 0 9 (M'.1 86 (12 + i)) ∧ RG 0 1 (M'.1 86 (18 + i)) ∧ Out (o86 fun j => j = 6 + i ∨ j = 12 + i ∨ j = 18 + i) M M' := by
  obtain ⟨a, ha, e⟩ := up_e t2 h1 (by omega)
  obtain ⟨b, hb, e2⟩ := up_e (c >>> ((21 : Int32) &&& 31)) (n := 2) (by decide) (by decide)
  have o1 : Out (o86 fun j => j = 6 + i ∨ j = 12 + i ∨ j = 18 + i) M (pI M 86 (6 + i) (nI (1 + a))) := (Out.rf).pI ⟨rfl, Or.inl rfl⟩
  have key : ∀ n2, 0 < n2 → n2 ≤ 10 → ∃ M', F_L_lay_193 L xs fu k104 (pI M 86 (6 + i) (nI (1 + a))) (nI i) c (nI (12 + i)) (c >>> ((11 : Int32) &&& 31)) (nI n2) = k104 M' (nI (i + 1)) ∧ RG 1 99 (M'.1 86 (6 + i)) ∧ RG 0 9 (M'.1 86 (12 + i)) ∧ RG 0 1 (M'.1 86 (18 + i)) ∧ Out (o86 fun j => j = 6 + i ∨ j = 12 + i ∨ j = 18 + i) M M' := fun n2 q1 q2 => by
    obtain ⟨M', b1, b2, b3, b4⟩ := lay_193 (L := L) (xs := xs) (fu := fu) (k104 := k104) hi q1 q2 (pI M 86 (6 + i) (nI (1 + a))) c (c >>> ((11 : Int32) &&& 31))
    refine ⟨M', b1, ⟨1 + a, by omega, by omega, ?_⟩, b2, b3, o1.trans (b4.wk fun x j q => ⟨q.1, by have := q.2; omega⟩)⟩
    rw [(b4 86 (6 + i) (fun q => by have := q.2; omega)).1, pI_s]
  by_cases h0 : nI b = 0
  · obtain ⟨M', b1, b2, b3, b4, b5⟩ := key 10 (by decide) (by decide)
    refine ⟨M', ?_, b2, b3, b4, b5⟩
    unfold F_L_lay_160
    rw [e, ob1_s, L1, nI_add, x86 (by omega), clN (by omega), lt1_s, L2, e2, ob1_s, if_pos h0, L12, nI_add]
    exact b1
  · obtain ⟨M', b1, b2, b3, b4, b5⟩ := key 3 (by decide) (by decide)
    refine ⟨M', ?_, b2, b3, b4, b5⟩
    unfold F_L_lay_160
    rw [e, ob1_s, L1, nI_add, x86 (by omega), clN (by omega), lt1_s, L2, e2, ob1_s, if_neg h0, L12, nI_add]
    exact b1
def RM (i : Nat) (M : Mm) : Prop := RG 0 5 (M.1 86 i) ∧ RG 1 99 (M.1 86 (6 + i)) ∧ RG 0 9 (M.1 86 (12 + i)) ∧ RG 0 1 (M.1 86 (18 + i))
theorem lay_104 {L : Nat} (hL : L ≤ 260) {xs : Nat → Int32} {fu : Nat} {N : Nat} (hN : N ≤ 6) : ∀ (m n : Nat) (M : Mm) (i : Nat), i + m = N → m < n → M.1 86 34 = nI N → (∀ j, j < i → RM j M) → ∃ M', F_L_lay_104 L xs fu n M (nI i) = some M' ∧ (∀ j, j < N → RM j M') ∧ Out (o86 fun j => j < 24) M M' := by
  intro m
  induction m with
  | zero =>
    intro n M i hi hn h34 h
    obtain ⟨n, rfl⟩ : ∃ q, n = q + 1 := ⟨n - 1, by omega⟩
    refine ⟨M, ?_, fun j hj => h j (by omega), Out.rf⟩
    unfold F_L_lay_104
    rw [L34, x86 (by omega), clN (by omega), h34, if_pos (nI_le (by omega) (by omega))]
  | succ m ih =>
    intro n M i hi hn h34 h
    obtain ⟨n, rfl⟩ : ∃ q, n = q + 1 := ⟨n - 1, by omega⟩
    obtain ⟨c, ec⟩ := cell_e hL xs (j := 2 + i) (by omega)
    obtain ⟨a, ha, ea⟩ := up_e c (n := 6) (by decide) (by decide)
    obtain ⟨b, hb, eb⟩ := up_e (c >>> ((20 : Int32) &&& 31)) (n := 3) (by decide) (by decide)
    have e0 : ∀ n2, F_L_lay_104 L xs fu (n + 1) M (nI i) = (if nI b = 0 then F_L_lay_160 L xs fu (F_L_lay_104 L xs fu n) (pI M 86 i (nI a)) (nI i) c (nI (6 + i)) (1 : Int32) (c >>> ((4 : Int32) &&& 31)) (99 : Int32) else F_L_lay_160 L xs fu (F_L_lay_104 L xs fu n) (pI M 86 i (nI a)) (nI i) c (nI (6 + i)) (1 : Int32) (c >>> ((4 : Int32) &&& 31)) (15 : Int32)) ∨ n2 = 1 := fun n2 => Or.inl (by
      rw [F_L_lay_104, L34, x86 (by omega), clN (by omega), h34, if_neg (nI_ge (by omega) (by omega)), L2, nI_add, ec, ob1_s, show (6 : Int32) = nI 6 from rfl, ea, ob1_s, x86 (by omega), clN (by omega), lt1_s, L3, eb, ob1_s, nI_add])
    have e1 := (e0 0).resolve_right (by decide)
    have key : ∃ M1, F_L_lay_104 L xs fu (n + 1) M (nI i) = F_L_lay_104 L xs fu n M1 (nI (i + 1)) ∧ RM i M1 ∧ Out (o86 fun j => j = i ∨ j = 6 + i ∨ j = 12 + i ∨ j = 18 + i) M M1 := by
      have fin : ∀ n1, 0 < n1 → n1 ≤ 99 → F_L_lay_104 L xs fu (n + 1) M (nI i) = F_L_lay_160 L xs fu (F_L_lay_104 L xs fu n) (pI M 86 i (nI a)) (nI i) c (nI (6 + i)) (1 : Int32) (c >>> ((4 : Int32) &&& 31)) (nI n1) → ∃ M1, F_L_lay_104 L xs fu (n + 1) M (nI i) = F_L_lay_104 L xs fu n M1 (nI (i + 1)) ∧ RM i M1 ∧ Out (o86 fun j => j = i ∨ j = 6 + i ∨ j = 12 + i ∨ j = 18 + i) M M1 := fun n1 q1 q2 q => by
        obtain ⟨M1, b1, b2, b3, b4, b5⟩ := lay_160 (L := L) (xs := xs) (fu := fu) (k104 := F_L_lay_104 L xs fu n) (show i < 6 by omega) q1 q2 (pI M 86 i (nI a)) c (c >>> ((4 : Int32) &&& 31))
        refine ⟨M1, q.trans b1, ⟨⟨a, by omega, by omega, ?_⟩, b2, b3, b4⟩, ((Out.rf).pI ⟨rfl, Or.inl rfl⟩).trans (b5.wk fun x j q => ⟨q.1, Or.inr q.2⟩)⟩
        rw [(b5 86 i (fun q => by have := q.2; omega)).1, pI_s]
      by_cases h0 : nI b = 0
      · rw [if_pos h0] at e1
        exact fin 99 (by decide) (by decide) e1
      · rw [if_neg h0] at e1
        exact fin 15 (by decide) (by decide) e1
    obtain ⟨M1, q1, q2, q3⟩ := key
    obtain ⟨M2, r1, r2, r3⟩ := ih n M1 (i + 1) (by omega) (by omega) (by rw [(q3 86 34 (fun q => by have := q.2; omega)).1]; exact h34) (fun j hj => by
      by_cases hji : j = i
      · rw [hji]; exact q2
      · have g : ∀ p, p = j ∨ p = 6 + j ∨ p = 12 + j ∨ p = 18 + j → M1.1 86 p = M.1 86 p := fun p hp => (q3 86 p (fun q => by have := q.2; omega)).1
        have hj' := h j (by omega)
        unfold RM
        rw [g j (by omega), g (6 + j) (by omega), g (12 + j) (by omega), g (18 + j) (by omega)]
        exact hj')
    exact ⟨M2, q1.trans r1, r2, (q3.wk fun x j q => ⟨q.1, by have := q.2; omega⟩).trans r3⟩
theorem lay_92 {L : Nat} {xs : Nat → Int32} {fu : Nat} {k62 : Mm → Int32 → Int32 → Option Mm} {j n1 : Nat} (hj : j < 8) (h1 : 0 < n1) (h2 : n1 ≤ 10) (M : Mm) (x2 t2 : Int32) : ∃ M', F_L_lay_92 L xs fu k62 M x2 (nI j) (nI (24 + j)) t2 (nI n1) = k62 M' x2 (nI (j + 1)) ∧ RG 0 9 (M'.1 86 (24 + j)) ∧ Out (o86 fun p => p = 24 + j) M M' := by
  obtain ⟨a, ha, e⟩ := up_e t2 h1 (by omega)
  refine ⟨pI M 86 (24 + j) (nI a), ?_, ⟨a, by omega, by omega, by rw [pI_s]⟩, (Out.rf).pI ⟨rfl, rfl⟩⟩
  unfold F_L_lay_92
  rw [e, ob1_s, x86 (by omega), clN (by omega), lt1_s, nI_1]
theorem lay_62 {L : Nat} (hL : L ≤ 260) {xs : Nat → Int32} {fu : Nat} (hf : 1000 ≤ fu) {N : Nat} (hN : N ≤ 6) {x2 : Int32} : ∀ (m n : Nat) (M : Mm) (j : Nat), j + m = 8 → m < n → M.1 86 34 = nI N → (∀ i, i < j → RG 0 9 (M.1 86 (24 + i))) → ∃ M', F_L_lay_62 L xs fu n M x2 (nI j) = some M' ∧ (∀ i, i < 8 → RG 0 9 (M'.1 86 (24 + i))) ∧ (∀ i, i < N → RM i M') ∧ Out (o86 fun p => p < 32) M M' := by
  intro m
  induction m with
  | zero =>
    intro n M j hj hn h34 h
    obtain ⟨n, rfl⟩ : ∃ q, n = q + 1 := ⟨n - 1, by omega⟩
    obtain ⟨M1, a1, a2, a3⟩ := lay_104 hL (xs := xs) (fu := fu) hN N fu M 0 (by omega) (by omega) h34 (fun i hi => by omega)
    refine ⟨M1, ?_, fun i hi => by rw [(a3 86 (24 + i) (fun q => by have := q.2; omega)).1]; exact h i (by omega), a2, a3.wk fun x p q => ⟨q.1, by have := q.2; omega⟩⟩
    unfold F_L_lay_62
    rw [L8, if_pos (nI_le (by omega) (by omega))]
    exact a1
  | succ m ih =>
    intro n M j hj hn h34 h
    obtain ⟨n, rfl⟩ : ∃ q, n = q + 1 := ⟨n - 1, by omega⟩
    obtain ⟨c, ec⟩ := cell_e hL xs (j := 1) (by omega)
    have key : ∃ M1, F_L_lay_62 L xs fu (n + 1) M x2 (nI j) = F_L_lay_62 L xs fu n M1 x2 (nI (j + 1)) ∧ RG 0 9 (M1.1 86 (24 + j)) ∧ Out (o86 fun p => p = 24 + j) M M1 := by
      rw [F_L_lay_62, L8, if_neg (nI_ge (by omega) (by omega)), L1, ec, ob1_s, L24, nI_add]
      by_cases h0 : x2 = 0
      · rw [if_pos h0]
        exact lay_92 (n1 := 10) (by omega) (by decide) (by decide) M x2 _
      · rw [if_neg h0]
        exact lay_92 (n1 := 4) (by omega) (by decide) (by decide) M x2 _
    obtain ⟨M1, q1, q2, q3⟩ := key
    obtain ⟨M2, r1, r2, r3, r4⟩ := ih n M1 (j + 1) (by omega) (by omega) (by rw [(q3 86 34 (fun q => by have := q.2; omega)).1]; exact h34) (fun i hi => by
      by_cases hij : i = j
      · rw [hij]; exact q2
      · rw [(q3 86 (24 + i) (fun q => by have := q.2; omega)).1]
        exact h i (by omega))
    exact ⟨M2, q1.trans r1, r2, r3, (q3.wk fun x p q => ⟨q.1, by have := q.2; omega⟩).trans r4⟩
theorem RG.n {lo hi : Nat} {x : Int32} (h : RG lo hi x) (hh : hi < 1000) : lo ≤ x.toNatClampNeg ∧ x.toNatClampNeg ≤ hi ∧ x = nI x.toNatClampNeg := by
  obtain ⟨a, h1, h2, rfl⟩ := h
  rw [clN (by omega)]
  exact ⟨h1, h2, rfl⟩
theorem lay_e {L : Nat} (hL : L ≤ 260) {xs : Nat → Int32} {fu : Nat} (hf : 1000 ≤ fu) (M : Mm) : ∃ v M', F_L_lay L xs fu M = some M' ∧ okL1 v ∧ SQ v M' ∧ Out (fun x _ => x = 86) M M' := by
  obtain ⟨c, ec⟩ := cell_e hL xs (j := 0) (by omega)
  obtain ⟨a, ha, ea⟩ := up_e c (n := 6) (by decide) (by decide)
  obtain ⟨b, hb, eb⟩ := up_e (c >>> ((4 : Int32) &&& 31)) (n := 9) (by decide) (by decide)
  obtain ⟨d, hd, ed⟩ := up_e (c >>> ((10 : Int32) &&& 31)) (n := 2) (by decide) (by decide)
  have o0 : Out (fun x _ => x = 86) M (pI (pI (pI M 86 34 (nI (1 + a))) 86 32 (nI (1 + b))) 86 33 0) := (((Out.rf).pI (by omega)).pI (by omega)).pI (by omega)
  have h34 : (pI (pI (pI M 86 34 (nI (1 + a))) 86 32 (nI (1 + b))) 86 33 0).1 86 34 = nI (1 + a) := by rw [pI_n (by omega), pI_n (by omega), pI_s]
  have h32 : (pI (pI (pI M 86 34 (nI (1 + a))) 86 32 (nI (1 + b))) 86 33 0).1 86 32 = nI (1 + b) := by rw [pI_n (by omega), pI_s]
  have key : ∃ M', F_L_lay L xs fu M = some M' ∧ (∀ i, i < 8 → RG 0 9 (M'.1 86 (24 + i))) ∧ (∀ i, i < 1 + a → RM i M') ∧ Out (o86 fun p => p < 32) (pI (pI (pI M 86 34 (nI (1 + a))) 86 32 (nI (1 + b))) 86 33 0) M' := by
    have ec0 : ∀ fu M, F_L_cell L xs fu M 0 = some c := ec
    unfold F_L_lay
    rw [ec0, ob1_s, L6, ea, ob1_s, L34, x86 (by omega), clN (by omega), L1, nI_add, lt1_s, ec0, ob1_s, L9, eb, ob1_s, L32, x86 (by omega), clN (by omega), nI_add, lt1_s, L33, x86 (by omega), clN (by omega), lt1_s, ec0, ob1_s, L2, ed, ob1_s]
    by_cases h0 : nI d = 0
    · rw [if_pos h0]
      exact lay_62 hL hf (N := 1 + a) (by omega) 8 fu _ 0 (by omega) (by omega) h34 (fun i hi => by omega)
    · rw [if_neg h0]
      exact lay_62 hL hf (N := 1 + a) (by omega) 8 fu _ 0 (by omega) (by omega) h34 (fun i hi => by omega)
  obtain ⟨M', k1, k2, k3, k4⟩ := key
  have e34 : M'.1 86 34 = nI (1 + a) := by rw [(k4 86 34 (fun q => by have := q.2; omega)).1]; exact h34
  have e32 : M'.1 86 32 = nI (1 + b) := by rw [(k4 86 32 (fun q => by have := q.2; omega)).1]; exact h32
  refine ⟨(1 + a, 1 + b, 0, (fun j => if j < 8 then (M'.1 86 (24 + j)).toNatClampNeg else 0), (fun i => (M'.1 86 i).toNatClampNeg), (fun i => (M'.1 86 (18 + i)).toNatClampNeg), (fun i => (M'.1 86 (6 + i)).toNatClampNeg), (fun i => (M'.1 86 (12 + i)).toNatClampNeg)), M', k1, ⟨⟨by show 1 + a ≤ 6; omega, fun _ => by show 1 ≤ 1 + b; omega, by show 1 + b ≤ 9; omega, Nat.zero_le _, fun j => ?_, fun i hi => ?_⟩, by show 0 < 1 + a; omega, rfl, by show 1 ≤ 1 + b; omega, fun i hi => ((k3 i hi).2.1.n (by decide)).1⟩, ⟨e34, e32, fun j hj => ?_, fun i hi => ?_⟩, o0.trans (k4.wk fun x j q => q.1)⟩
  · show (if j < 8 then (M'.1 86 (24 + j)).toNatClampNeg else 0) ≤ 9
    by_cases hj : j < 8
    · rw [if_pos hj]
      exact ((k2 j hj).n (by decide)).2.1
    · rw [if_neg hj]
      exact Nat.zero_le _
  · obtain ⟨r1, r2, r3, r4⟩ := k3 i hi
    exact ⟨(r1.n (by decide)).2.1, (r4.n (by decide)).2.1, (r2.n (by decide)).2.1, (r3.n (by decide)).2.1⟩
  · show _ = nI (if j < 8 then (M'.1 86 (24 + j)).toNatClampNeg else 0)
    rw [if_pos hj]
    exact ((k2 j hj).n (by decide)).2.2
  · obtain ⟨r1, r2, r3, r4⟩ := k3 i hi
    exact ⟨(r1.n (by decide)).2.2, (r2.n (by decide)).2.2, (r3.n (by decide)).2.2, (r4.n (by decide)).2.2⟩
