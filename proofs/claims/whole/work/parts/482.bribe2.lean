/-! bribe: the reference's shades; the rows -/
theorem apart_X {fu : Nat} {M : Mm} {a b : Nat} (ha : a < 1000) (hb : b < 1000) : F_X7_apart fu M (nI a) (nI b) = some (nI (ap a b)) := by
  unfold F_X7_apart ap
  by_cases hq : a ≤ b
  · rw [if_pos (nI_le hq (by omega)), if_pos hq, pk_sub hq]
  · rw [if_neg (nI_ge (by omega) (by omega)), if_neg hq, pk_sub (by omega)]
def lsB (v : NV) (N i : Nat) (b : Bool) (k : Nat) : Option Nat := lsP (fun x => rgtP v i N x == b) (vShade v i) k
theorem layShades_X34 {fu : Nat} (hf : 1000 ≤ fu) {v : NV} (hv : okV v) {N i : Nat} (hN : N ≤ 60) (hi : i < vMen v) (k2 : Mm → Int32 → Int32 → Option Mm) : ∀ (m n : Nat) (M : Mm) (s : Nat), s + m = 10 → m < n → XV v M → M.1 107 (2 * i) = oI (lsB v N i false s) → M.1 107 (2 * i + 1) = oI (lsB v N i true s) → ∃ M', XV v M' ∧ M'.1 107 (2 * i) = oI (lsB v N i false 10) ∧ M'.1 107 (2 * i + 1) = oI (lsB v N i true 10) ∧ Out (fun x j => x = 107 ∧ (j = 2 * i ∨ j = 2 * i + 1)) M M' ∧ F_X7_layShades_34 fu k2 n M (nI N) (nI i) (nI s) = k2 M' (nI N) (nI (i + 1)) := by
  intro m
  have hm := hv.1
  obtain ⟨g1, g2, g3, g4⟩ := hv.2.2.2.2.2 i hi
  induction m with
  | zero =>
    intro n M s hs hn hc h0 h1
    obtain ⟨n, rfl⟩ : ∃ q, n = q + 1 := ⟨n - 1, by omega⟩
    have hs10 : s = 10 := by omega
    subst hs10
    refine ⟨M, hc, h0, h1, Out.rf, ?_⟩
    unfold F_X7_layShades_34
    rw [if_pos (show (10 : Int32) ≤ nI 10 by decide), nI_1]
  | succ m ih =>
    intro n M s hs hn hc h0 h1
    obtain ⟨n, rfl⟩ : ∃ q, n = q + 1 := ⟨n - 1, by omega⟩
    obtain ⟨c1, c2, c3, c4⟩ := hc.2.2.2.2 i hi
    have hsame : ∀ b : Bool, ¬ (rgtP v i N s == b) = true → lsB v N i b (s + 1) = lsB v N i b s := fun b hb => if_neg hb
    -- one step, for the one of the two that is due
    have key : ∀ b : Bool, rgtP v i N s = b → ∀ (t : Nat), t = 2 * i + (if b then 1 else 0) → M.1 107 t = oI (lsB v N i b s) → ∀ (u : Int32), u = nI (2 * i) → ∀ w : Int32, u + w = nI t → ∃ M', XV v M' ∧ M'.1 107 t = oI (lsB v N i b (s + 1)) ∧ Out (fun x j => x = 107 ∧ j = t) M M' ∧ F_X7_layShades_74 fu k2 (F_X7_layShades_34 fu k2 n) M (nI N) (nI i) (nI s) u w = F_X7_layShades_34 fu k2 n M' (nI N) (nI i) (nI (s + 1)) := by
      intro b hb t ht hM u hu w hw
      have ht11 : t < 12 := by rw [ht]; split <;> omega
      have hcp : ∀ x : Int32, XV v (pI M 107 t x) := fun x => hc.cg (fun c h1 h2 => (pI_off c (by omega)).1) (pI_n (by omega)) (pI_n (by omega)) (pI_n (by omega))
      have hst : lsB v N i b (s + 1) = (match lsB v N i b s with | none => some s | some d => if ap s (vShade v i) < ap d (vShade v i) then some s else some d) := if_pos (show (rgtP v i N s == b) = true by rw [hb]; exact beq_self_eq_true b)
      have e118 : F_X7_layShades_118 fu k2 (F_X7_layShades_34 fu k2 n) M (nI N) (nI i) (nI s) (nI t) = F_X7_layShades_34 fu k2 n (pI M 107 t (nI s)) (nI N) (nI i) (nI (s + 1)) := by
        unfold F_X7_layShades_118 F_X7_layShades_123
        rw [if_neg one_ne, xr107 ht11, clN (by omega), lt1_s, nI_1]
      have e123 : F_X7_layShades_123 fu k2 (F_X7_layShades_34 fu k2 n) M (nI N) (nI i) (nI s) (nI t) 0 = F_X7_layShades_34 fu k2 n (pI M 107 t (M.1 107 t)) (nI N) (nI i) (nI (s + 1)) := by
        unfold F_X7_layShades_123
        rw [if_pos rfl, xr107 ht11, xr107 ht11, clN (by omega), lt1_s, nI_1]
      unfold F_X7_layShades_74
      rw [hw, xr107 ht11, xr95 (by omega), clN (by omega), clN (by omega), hM, c4, apart_X (by omega) (by omega), ob1_s, e118]
      cases hd : lsB v N i b s with
      | none =>
        rw [hd] at hst
        refine ⟨pI M 107 t (nI s), hcp _, by rw [pI_s, hst]; rfl, (Out.rf).pI ⟨rfl, rfl⟩, ?_⟩
        rw [if_pos (show oI none = (-9 : Int32) from rfl)]
      | some d =>
        rw [hd] at hst
        have hd10 := lsP_le _ hd
        have hap : ap d (vShade v i) ≤ 100 := by unfold ap; split <;> omega
        have hap2 : ap s (vShade v i) ≤ 100 := by unfold ap; split <;> omega
        rw [if_neg (show ¬ oI (some d) = (-9 : Int32) from neg9' (by omega))]
        have exr : ∀ {α : Type} {a : Option α}, (if nI t < 0 ∨ ln 107 ≤ t then none else a) = a := by
          intro α a
          have := xr107 (i := t) (a := a) ht11
          rwa [clN (by omega)] at this
        have exi : ∀ {α : Type} {a : Option α}, (if nI i < 0 ∨ ln 95 ≤ i then none else a) = a := by
          intro α a
          have := xr95 (i := i) (a := a) (by omega)
          rwa [clN (by omega)] at this
        rw [exr, exi, show oI (some d) = nI d from rfl, apart_X (by omega) (by omega), ob1_s]
        by_cases hlt : ap s (vShade v i) < ap d (vShade v i)
        · refine ⟨pI M 107 t (nI s), hcp _, by rw [pI_s, hst]; show nI s = oI (if ap s (vShade v i) < ap d (vShade v i) then some s else some d); rw [if_pos hlt]; rfl, (Out.rf).pI ⟨rfl, rfl⟩, ?_⟩
          rw [if_neg (nI_ge hlt (by omega))]
        · refine ⟨pI M 107 t (M.1 107 t), hcp _, by rw [pI_s, hM, hd, hst]; show oI (some d) = oI (if ap s (vShade v i) < ap d (vShade v i) then some s else some d); rw [if_neg hlt], (Out.rf).pI ⟨rfl, rfl⟩, ?_⟩
          rw [if_pos (nI_le (by omega) (by omega)), e123]
    have e34 : F_X7_layShades_34 fu k2 (n + 1) M (nI N) (nI i) (nI s) = (if bI (rgtP v i N s) = 0 then F_X7_layShades_74 fu k2 (F_X7_layShades_34 fu k2 n) M (nI N) (nI i) (nI s) (nI (2 * i)) (0 : Int32) else F_X7_layShades_74 fu k2 (F_X7_layShades_34 fu k2 n) M (nI N) (nI i) (nI s) (nI (2 * i)) (1 : Int32)) := by
      rw [F_X7_layShades_34, L10, if_neg (nI_ge (by omega) (by omega)), xr91 (by omega), xr94 (by omega), clN (by omega), c1, c3, bulkAfter_X hf hv hc g1 (by omega) hN (by omega), ob1_s, mayVote_X hv hc hi (by omega), ob1_s, L2, pk_mul]
      rfl
    rw [e34]
    cases hb : rgtP v i N s
    · rw [if_pos (show bI false = 0 from rfl)]
      obtain ⟨M1, a1, a2, a3, a4⟩ := key false hb (2 * i) rfl h0 (nI (2 * i)) rfl 0 (Int32.add_zero _)
      obtain ⟨M', d1, d2, d3, d4, d5⟩ := ih n M1 (s + 1) (by omega) (by omega) a1 a2 (by rw [(a3 _ _ (by omega)).1, h1, hsame true (by rw [hb]; decide)])
      exact ⟨M', d1, d2, d3, (a3.wk fun x j q => by omega).trans d4, a4.trans d5⟩
    · rw [if_neg (show ¬ bI true = 0 by decide)]
      obtain ⟨M1, a1, a2, a3, a4⟩ := key true hb (2 * i + 1) rfl h1 (nI (2 * i)) rfl 1 (nI_add _ 1)
      obtain ⟨M', d1, d2, d3, d4, d5⟩ := ih n M1 (s + 1) (by omega) (by omega) a1 (by rw [(a3 _ _ (by omega)).1, h0, hsame false (by rw [hb]; decide)]) a2
      exact ⟨M', d1, d2, d3, (a3.wk fun x j q => by omega).trans d4, a4.trans d5⟩
theorem nr_ls {v : NV} (hv : okV v) {N i : Nat} (hi : i < vMen v) (b : Bool) : lsB v N i b 10 = nr v N i b := (near_eq _ (hv.2.2.2.2.2 i hi).2.2.2).symm
theorem layShades_X2 {fu : Nat} (hf : 1000 ≤ fu) {v : NV} (hv : okV v) {N : Nat} (hN : N ≤ 60) : ∀ (m n : Nat) (M : Mm) (i : Nat), i + m = vMen v → m < n → XV v M → (∀ j, j < i → M.1 107 (2 * j) = oI (nr v N j false) ∧ M.1 107 (2 * j + 1) = oI (nr v N j true)) → ∃ M', XV v M' ∧ (∀ j, j < vMen v → M'.1 107 (2 * j) = oI (nr v N j false) ∧ M'.1 107 (2 * j + 1) = oI (nr v N j true)) ∧ Out (fun x _ => x = 107) M M' ∧ F_X7_layShades_2 fu n M (nI N) (nI i) = some M' := by
  intro m
  have hm := hv.1
  induction m with
  | zero =>
    intro n M i hi hn hc h
    obtain ⟨n, rfl⟩ : ∃ q, n = q + 1 := ⟨n - 1, by omega⟩
    refine ⟨M, hc, fun j hj => h j (by omega), Out.rf, ?_⟩
    unfold F_X7_layShades_2
    rw [hc.1, if_pos (nI_le (by omega) (by omega))]
  | succ m ih =>
    intro n M i hi hn hc h
    obtain ⟨n, rfl⟩ : ∃ q, n = q + 1 := ⟨n - 1, by omega⟩
    have o1 : Out (fun x j => x = 107 ∧ (j = 2 * i ∨ j = 2 * i + 1)) M (pI (pI M 107 (2 * i) (-9)) 107 (2 * i + 1) (-9)) := ((Out.rf).pI (by omega)).pI (by omega)
    have hc1 : XV v (pI (pI M 107 (2 * i) (-9)) 107 (2 * i + 1) (-9)) := hc.cg (fun c h1 h2 => o1.f fun j q => by omega) (o1 _ _ (by omega)).1 (o1 _ _ (by omega)).1 (o1 _ _ (by omega)).1
    obtain ⟨M1, a1, a2, a3, a4, a5⟩ := layShades_X34 hf hv hN (show i < vMen v by omega) (F_X7_layShades_2 fu n) 10 fu (pI (pI M 107 (2 * i) (-9)) 107 (2 * i + 1) (-9)) 0 (by omega) (by omega) hc1 (by rw [pI_n (by omega), pI_s]; rfl) (by rw [pI_s]; rfl)
    rw [nr_ls hv (by omega)] at a2 a3
    have o2 := o1.trans a4
    obtain ⟨M', b1, b2, b3, b4⟩ := ih n M1 (i + 1) (by omega) (by omega) a1 (fun j hj => by
      by_cases hji : j = i
      · rw [hji]; exact ⟨a2, a3⟩
      · rw [(o2 _ _ (by omega)).1, (o2 _ _ (by omega)).1]
        exact h j (by omega))
    refine ⟨M', b1, b2, (o2.wk fun x j q => q.1).trans b3, ?_⟩
    unfold F_X7_layShades_2
    rw [hc.1, if_neg (nI_ge (by omega) (by omega)), L1, L2, pk_mul, nI_add, xr107 (by omega), lt1_s, xr107 (by omega), clN (by omega), clN (by omega), lt1_s]
    exact a5.trans b4
theorem bribe_C206 {fu : Nat} {v : NV} (hv : okV v) {N c s : Nat} {x5 : Int32} (hs : s < 64) : ∀ (m n : Nat) (M : Mm) (i : Nat), i + m = vMen v → m < n → CV v M → (∀ j, j < vMen v → M.1 83 j = oI (nr v N j true) ∧ M.1 84 j = oI (nr v N j false)) → (∀ j, j < i → M.1 82 j = oI (nr v N j (s.testBit j))) → ∃ M1, (∀ j, j < vMen v → M1.1 82 j = oI (nr v N j (s.testBit j))) ∧ Out (fun x _ => x = 82) M M1 ∧ F_X6_bribe_206 fu n M c x5 (nI s) (nI i) = ob1 (F_X4_take fu M1 c 82 (nI (vMen v))) (fun M3 => some (x5, M3)) := by
  intro m
  have hm := hv.1
  induction m with
  | zero =>
    intro n M i hi hn hc h g
    obtain ⟨n, rfl⟩ : ∃ q, n = q + 1 := ⟨n - 1, by omega⟩
    refine ⟨M, fun j hj => g j (by omega), Out.rf, ?_⟩
    unfold F_X6_bribe_206
    rw [hc.1, if_pos (nI_le (by omega) (by omega))]
  | succ m ih =>
    intro n M i hi hn hc h g
    obtain ⟨n, rfl⟩ : ∃ q, n = q + 1 := ⟨n - 1, by omega⟩
    obtain ⟨M1, a1, a2, a3⟩ := ih n (pI M 82 i (oI (nr v N i (s.testBit i)))) (i + 1) (by omega) (by omega) (hc.p (by omega)) (fun j hj => by rw [pI_n (by omega), pI_n (by omega)]; exact h j hj) (fun j hj => by
      by_cases hji : j = i
      · rw [hji, pI_s]
      · rw [pI_n (by omega)]
        exact g j (by omega))
    refine ⟨M1, a1, (Out.pI (P := fun x _ => x = 82) Out.rf rfl).trans a2, ?_⟩
    unfold F_X6_bribe_206
    rw [hc.1, if_neg (nI_ge (by omega) (by omega)), sbv_C hv hs (by omega) h, ob1_s, wr82 (by omega), ob1_s, nI_1]
    exact a3
theorem bribe_X163 {fu : Nat} {v : NV} (hv : okV v) {N r s : Nat} {x5 : Int32} (hs : s < 64) : ∀ (m n : Nat) (M : Mm) (i : Nat), i + m = vMen v → m < n → XV v M → (∀ j, j < vMen v → M.1 107 (2 * j) = oI (nr v N j false) ∧ M.1 107 (2 * j + 1) = oI (nr v N j true)) → (∀ j, j < i → M.1 106 j = oI (nr v N j (s.testBit j))) → ∃ M1, M1.1 86 4 = nI (vMen v) ∧ (∀ j, j < vMen v → M1.1 106 j = oI (nr v N j (s.testBit j))) ∧ Out (fun x _ => x = 106) M M1 ∧ F_X7_bribe_163 fu n M (nI r) (nI s) x5 (nI i) = ob1 (F_X7_tellShades fu M1 (nI r)) (fun M3 => some (x5, M3)) := by
  intro m
  have hm := hv.1
  induction m with
  | zero =>
    intro n M i hi hn hc h g
    obtain ⟨n, rfl⟩ : ∃ q, n = q + 1 := ⟨n - 1, by omega⟩
    refine ⟨M, hc.1, fun j hj => g j (by omega), Out.rf, ?_⟩
    unfold F_X7_bribe_163
    rw [hc.1, if_pos (nI_le (by omega) (by omega))]
  | succ m ih =>
    intro n M i hi hn hc h g
    obtain ⟨n, rfl⟩ : ∃ q, n = q + 1 := ⟨n - 1, by omega⟩
    have hc1 : XV v (pI M 106 i (oI (nr v N i (s.testBit i)))) := hc.cg (fun c h1 h2 => (pI_off c (by omega)).1) (pI_n (by omega)) (pI_n (by omega)) (pI_n (by omega))
    obtain ⟨M1, a0, a1, a2, a3⟩ := ih n (pI M 106 i (oI (nr v N i (s.testBit i)))) (i + 1) (by omega) (by omega) hc1 (fun j hj => by rw [pI_n (by omega), pI_n (by omega)]; exact h j hj) (fun j hj => by
      by_cases hji : j = i
      · rw [hji, pI_s]
      · rw [pI_n (by omega)]
        exact g j (by omega))
    refine ⟨M1, a0, a1, (Out.pI (P := fun x _ => x = 106) Out.rf rfl).trans a2, ?_⟩
    have e : M.1 107 (2 * i + (if s.testBit i = true then 1 else 0)) = oI (nr v N i (s.testBit i)) := by
      cases s.testBit i
      · exact (h i (by omega)).1
      · exact (h i (by omega)).2
    have e2 : (2 : Int32) * nI i + bI (s.testBit i) = nI (2 * i + (if s.testBit i = true then 1 else 0)) := by
      rw [L2, pk_mul]
      cases s.testBit i
      · exact Int32.add_zero _
      · exact nI_add _ 1
    have hle : (if s.testBit i = true then 1 else 0) ≤ 1 := by split <;> omega
    unfold F_X7_bribe_163
    rw [hc.1, if_neg (nI_ge (by omega) (by omega)), isInE hs (by omega), e2, xr107 (by omega), xr106 (by omega), clN (by omega), clN (by omega), e, lt1_s, nI_1]
    exact a3
theorem sc83 {x j : Nat} (h : x = 83 ∨ x = 84) : scr x j := by unfold scr sT sR sX sN; omega
theorem sc107 {x j : Nat} (h : x = 107) : scr x j := by subst h; unfold scr sT sR sX sN; omega
theorem call_bribe {fu : Nat} (hf : 1000 ≤ fu) {M : Mm} (h : Rel M) (x y z : Int32) : Two2 (F_X6_bribe fu M x y z) (fun M1 => F_X7_bribe fu M1 x y z) := by
  obtain ⟨v, hv, hc, hx⟩ := h.v
  have hm := hv.1
  have h64 := p2le hv
  rcases rng3 x (n := 2) (by omega) with hi | ⟨w, hw, rfl⟩
  · obtain ⟨h0, h1⟩ := not01 hi
    refine Two2.same h (r := -1) ?_ (by unfold F_X7_bribe; rw [in_no (n := 1) hi I1 (by decide)]; rfl)
    unfold F_X6_bribe
    rcases rng3 z (n := 6) (by omega) with hz | ⟨r, hr, rfl⟩
    · rw [rowOf_C0 hz]; rfl
    · rw [rowOf_C1 hr, ob1_s, op1_s, kd_R hr, if_neg (by decide), if_neg h0, if_neg h1]
  · obtain ⟨b, hb⟩ := two_b hw
    rw [hb]
    rcases rng3 z (n := 6) (by omega) with hz | ⟨r, hr, rfl⟩
    · refine Two2.same h (r := -1) (by unfold F_X6_bribe; rw [rowOf_C0 hz]; rfl) ?_
      unfold F_X7_bribe
      rw [in01_X, ob1_s, if_neg one_ne]
      rcases rng3 y (n := 61) (by omega) with hy | ⟨n, hn, rfl⟩
      · rw [isAhead_X0 hy]; rfl
      · rw [isAhead_X1 hn, ob1_s, if_neg one_ne, isRow_X0 hz]; rfl
    · have hC : F_X6_bribe fu M (bI b) y (nI r) = F_X6_bribe_21 fu M (bI b) y (1 + r) := by
        unfold F_X6_bribe
        rw [rowOf_C1 hr, ob1_s, op1_s, kd_R hr, if_neg (by decide)]
        cases b <;> rfl
      rw [hC]
      unfold F_X6_bribe_21
      rcases rng3 y (n := 61) (by omega) with hy | ⟨n, hn, rfl⟩
      · exact Two2.same h (r := -1) (by rw [isAhead_C0 hy]; rfl) (by unfold F_X7_bribe; rw [in01_X, ob1_s, if_neg one_ne, isAhead_X0 hy]; rfl)
      · have hX : ∀ M1 : Mm, XV v M1 → F_X7_bribe fu M1 (bI b) (nI n) (nI r) = (if vMen v = 0 then some ((-4 : Int32), M1) else ob1 (F_X7_layShades fu M1 (nI n)) (fun M12 => F_X7_bribe_52 fu fu M12 (bI b) (nI r) (-9 : Int32) (1000000 : Int32) (0 : Int32))) := fun M1 hx1 => by
          unfold F_X7_bribe
          rw [in01_X, ob1_s, if_neg one_ne, isAhead_X1 hn, ob1_s, if_neg one_ne, isRow_X1 hr, ob1_s, if_neg one_ne, men0_Xe hv hx1]
        rw [isAhead_C1 hn, ob1_s, if_neg one_ne]
        by_cases h0 : vMen v = 0
        · exact Two2.same h (r := -4) (by rw [if_pos (by rw [men0_C hv hc]; exact h0)]) (by rw [hX M hx, if_pos h0])
        · rw [if_neg (by rw [men0_C hv hc]; exact h0)]
          have ha0 : okA none := fun c s e => by cases e
          have hpos := Nat.two_pow_pos (vMen v)
          obtain ⟨M1, a1, a2, a3, a4⟩ := bribe_C46 hf hv (N := n) (c := 1 + r) (x1 := bI b) (by omega) (vMen v) fu M 0 (by omega) (by omega) hc (fun j hj => by omega)
          have a5 := bribe_C114 hf hv a1 (c := 1 + r) b a2 (2 ^ vMen v) fu 0 none (by omega) (by omega) ha0
          have e1 : F_X6_bribe_46 fu fu M (bI b) (nI n) (1 + r) 0 = _ := a4.trans a5
          have xr : ∀ MX : Mm, XV v MX → ∃ M12, XV v M12 ∧ (∀ j, j < vMen v → M12.1 107 (2 * j) = oI (nr v n j false) ∧ M12.1 107 (2 * j + 1) = oI (nr v n j true)) ∧ Out (fun x _ => x = 107) MX M12 ∧ F_X7_bribe fu MX (bI b) (nI n) (nI r) = (match bst v n b (2 ^ vMen v) 0 none with | none => some ((-9 : Int32), M12) | some (c0, s0) => F_X7_bribe_163 fu fu M12 (nI r) (nI s0) (nI c0) (0 : Int32)) := by
            intro MX hxm
            obtain ⟨M12, b1, b2, b3, b4⟩ := layShades_X2 hf hv (N := n) (by omega) (vMen v) fu MX 0 (by omega) (by omega) hxm (fun j hj => by omega)
            have b5 := bribe_X52 hf hv b1 (x3 := nI r) b b2 (2 ^ vMen v) fu 0 none (by omega) (by omega) ha0
            refine ⟨M12, b1, b2, b3, ?_⟩
            rw [hX MX hxm, if_neg h0]
            unfold F_X7_layShades
            have b4' : F_X7_layShades_2 fu fu MX (nI n) 0 = some M12 := b4
            rw [b4', ob1_s]
            exact b5
          have lo1 : Lo M M1 := Lo.of a3 fun x j q => by omega
          have hbst : okA (bst v n b (2 ^ vMen v) 0 none) := by
            have : ∀ m s a, s + m = 2 ^ vMen v → okA a → okA (bst v n b m s a) := by
              intro m
              induction m with
              | zero => intro s a _ h; exact h
              | succ m ih => intro s a hs h; exact ih (s + 1) _ (by omega) (stp_ok hv (by omega) h)
            exact this _ _ _ (by omega) ha0
          cases hbs : bst v n b (2 ^ vMen v) 0 none with
          | none =>
            rw [hbs] at e1 xr
            obtain ⟨M12, b1, b2, b3, b4⟩ := xr M1 (hx.lo lo1)
            refine ⟨-9, M1, M12, e1, b4, h.out ((a3.wk (P := fun x _ => (x = 83 ∨ x = 84) ∨ x = 107) fun x j q => Or.inl q).trans (b3.wk fun x j q => Or.inr q)) fun x j q => ?_⟩
            rcases q with q | q
            · exact sc83 q
            · exact sc107 q
          | some q =>
            obtain ⟨c0, s0⟩ := q
            rw [hbs] at e1 xr hbst
            have hs0 := (hbst c0 s0 rfl).2
            obtain ⟨M2, p1, p2, p3⟩ := bribe_C206 (fu := fu) hv (N := n) (c := 1 + r) (x5 := nI c0) hs0 (vMen v) fu M1 0 (by omega) (by omega) a1 a2 (fun j hj => by omega)
            obtain ⟨M3, t1, t2, t3, t4, t5⟩ := take_C hf (M := M2) hr (nI (vMen v))
            have oa : Out (fun x _ => x = 82 ∨ x = 83 ∨ x = 84) M M2 := (a3.wk fun x j q => by omega).trans (p2.wk fun x j q => by omega)
            have lo3 : Lo M M3 := Lo.of ((oa.wk (P := fun x _ => (x = 82 ∨ x = 83 ∨ x = 84) ∨ x = 1 + r ∨ x = 1 + r + 6) fun x j q => Or.inl q).trans (t5.wk fun x j q => Or.inr q)) fun x j q => by omega
            obtain ⟨M12, b1, b2, b3, b4⟩ := xr M3 (hx.lo lo3)
            obtain ⟨M4, d0, d1, d2, d3⟩ := bribe_X163 (fu := fu) hv (N := n) (r := r) (x5 := nI c0) hs0 (vMen v) fu M12 0 (by omega) (by omega) b1 b2 (fun j hj => by omega)
            obtain ⟨M5, u1, u2, u3, u4⟩ := tellShades_X hf (M := M4) hr hm d0
            refine ⟨nI c0, M3, M5, ?_, ?_, Rel.tell (g := fun j => M2.1 82 j) hr hm h oa (fun x j q => by
              rcases q with q | q
              · exact sc82 q
              · exact sc83 q) t2 t3 (fun j hj => t4 j (by omega)) t5 ((b3.wk (P := fun x _ => x = 106 ∨ x = 107) fun x j q => Or.inr q).trans (d2.wk fun x j q => Or.inl q)) (fun x j q => by
              rcases q with q | q
              · exact sc106 q
              · exact sc107 q) u2 (fun j hj => by rw [u3 j hj, d1 j hj, p1 j hj]) u4⟩
            · have p3' : F_X6_bribe_206 fu fu M1 (1 + r) (nI c0) (nI s0) 0 = _ := p3
              rw [e1]
              show F_X6_bribe_206 fu fu M1 (1 + r) (nI c0) (nI s0) 0 = _
              rw [p3', t1, ob1_s]
            · dsimp only
              rw [b4]
              show F_X7_bribe_163 fu fu M12 (nI r) (nI s0) (nI c0) 0 = _
              have d3' : F_X7_bribe_163 fu fu M12 (nI r) (nI s0) (nI c0) 0 = _ := d3
              rw [d3', u1, ob1_s]
