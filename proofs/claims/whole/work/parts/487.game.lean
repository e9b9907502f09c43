/-! by turns: the class -/
def mv (sh : Nat → Nat) (c : Nat) : Option (Nat → Nat) := if c % 2 = 0 then (if sh (c / 2) + 1 ≤ 9 then some (setf sh (c / 2) (sh (c / 2) + 1)) else none) else (if 1 ≤ sh (c / 2) then some (setf sh (c / 2) (sh (c / 2) - 1)) else none)
def gv (v : NV) (sh : Nat → Nat) : Nat := bset (fun i => rgtP v i 3 (sh i)) (vMen v)
def lp (W : (Nat → Nat) → Bool) (sh : Nat → Nat) (wanted : Bool) : Nat → Nat → Bool
  | 0, _ => !wanted
  | m + 1, c => match mv sh c with
    | none => lp W sh wanted m (c + 1)
    | some sh' => if (W sh' == wanted) = true then wanted else lp W sh wanted m (c + 1)
def Wn (v : NV) : Nat → (Nat → Nat) → Bool
  | 0, sh => carr v (gv v sh)
  | t + 1, sh => lp (Wn v t) sh (decide ((t + 1) % 2 = 0)) (2 * vMen v) 0
def okS (v : NV) (sh : Nat → Nat) : Prop := ∀ i, i < vMen v → sh i ≤ 9
def mB (x : Int64) (s : Nat) : Bool := decide (lg_cmp ((x.toUInt64 >>> ((nI s).toInt64.toUInt64 &&& Int64.toUInt64 63)).toInt64 &&& (1 : Int64)) (1 : Int64) = 0)
def GQ (v : NV) (sh : Nat → Nat) (M : Mm) : Prop := M.1 74 0 = nI (vMen v) ∧ M.1 74 1 = nI (gv v sh) ∧ (∀ i, i < vMen v → M.1 75 i = nI (sh i) ∧ M.1 76 i = nI (bset (rgtP v i 3) 10)) ∧ ∀ s, s < 2 ^ vMen v → mB (M.2 74 2) s = carr v s
set_option maxRecDepth 100000 in
theorem isIn10 : ∀ i, i < 10 → ∀ s, s < 1024 → (nI s >>> (nI i &&& 31)) &&& (1 : Int32) = bI (s.testBit i) := by decide +kernel
set_option maxRecDepth 100000 in
theorem setb_all : ∀ i, i < 6 → ∀ s, s < 64 → (nI s ||| ((1 : Int32) <<< (nI i &&& 31)) = nI (bset (fun j => j == i || s.testBit j) 6)) ∧ (nI s &&& (((1 : Int32) <<< (nI i &&& 31)) ^^^ (-1 : Int32)) = nI (bset (fun j => j != i && s.testBit j) 6)) := by decide +kernel
theorem bset_6 {n : Nat} (hn : n ≤ 6) (f : Nat → Bool) : bset f n = bset (fun j => decide (j < n) && f j) 6 := by
  apply Nat.eq_of_testBit_eq
  intro i
  rw [bset_bit, bset_bit]
  by_cases h : i < n
  · rw [decide_eq_true h, decide_eq_true (show i < 6 by omega)]; rfl
  · rw [decide_eq_false h]
    cases decide (i < 6) <;> rfl
theorem gv_lt {v : NV} (hv : okV v) (sh : Nat → Nat) : gv v sh < 64 := set_lt hv _ (Nat.le_refl _)
theorem gv_bit {v : NV} (sh : Nat → Nat) (j : Nat) : (gv v sh).testBit j = (decide (j < vMen v) && rgtP v j 3 (sh j)) := bset_bit _ _ _
theorem gv_set {v : NV} (hv : okV v) {sh : Nat → Nat} {i x : Nat} (hi : i < vMen v) : (if rgtP v i 3 x = true then nI (gv v sh) ||| ((1 : Int32) <<< (nI i &&& 31)) else nI (gv v sh) &&& (((1 : Int32) <<< (nI i &&& 31)) ^^^ (-1 : Int32))) = nI (gv v (setf sh i x)) := by
  have hm := hv.1
  obtain ⟨e1, e2⟩ := setb_all i (by omega) (gv v sh) (gv_lt hv sh)
  have e3 : gv v (setf sh i x) = bset (fun j => decide (j < vMen v) && rgtP v j 3 (setf sh i x j)) 6 := bset_6 hm _
  rw [e1, e2, e3]
  by_cases h : rgtP v i 3 x = true
  · rw [if_pos h]
    refine congrArg nI (bset_cg 6 fun j hj => ?_)
    rw [gv_bit]
    by_cases hji : j = i
    · subst hji
      rw [setf_s, h, decide_eq_true hi, beq_self_eq_true]
      rfl
    · rw [setf_n hji, show (j == i) = false from by simpa using hji, Bool.false_or]
  · rw [if_neg h]
    refine congrArg nI (bset_cg 6 fun j hj => ?_)
    rw [gv_bit]
    by_cases hji : j = i
    · subst hji
      rw [setf_s, Bool.eq_false_iff.mpr h, Bool.and_false]
      simp
    · rw [setf_n hji, show (j != i) = true from by simpa using hji, Bool.true_and]
theorem place_C {fu : Nat} {M : Mm} {v : NV} (hv : okV v) {sh : Nat → Nat} {i x : Nat} (hi : i < vMen v) (hx : x ≤ 9) (h1 : M.1 74 1 = nI (gv v sh)) (h6 : M.1 76 i = nI (bset (rgtP v i 3) 10)) : F_X1_place fu M (nI i) (nI x) = some (pI (pI M 75 i (nI x)) 74 1 (nI (gv v (setf sh i x)))) := by
  have hm := hv.1
  have hb : (bset (rgtP v i 3) 10).testBit x = rgtP v i 3 x := by rw [bset_bit, decide_eq_true (show x < 10 by omega), Bool.true_and]
  unfold F_X1_place F_X6_isIn
  rw [wr75 (by omega), ob1_s, rd76 (by omega), ob1_s, pI_n (x := 75) (y := 76) (by omega), h6, isIn10 x (by omega) _ (bset_lt _ _), hb, pI_n (x := 75) (y := 74) (by omega), h1, ← gv_set hv hi]
  cases rgtP v i 3 x <;> rfl
theorem pI_back {M : Mm} {i : Nat} {a b : Int32} : pI (pI (pI (pI M 75 i a) 74 1 b) 75 i (M.1 75 i)) 74 1 (M.1 74 1) = M := by
  unfold pI
  refine Prod.ext (funext fun c => ?_) rfl
  by_cases h4 : c = 74
  · subst h4
    simp only [if_pos, if_neg (show ¬ 74 = 75 by decide)]
    funext k
    unfold upd
    split
    · next h => rw [h]
    · rfl
  · by_cases h5 : c = 75
    · subst h5
      simp only [if_pos, if_neg (show ¬ 75 = 74 by decide)]
      funext k
      unfold upd
      split
      · next h => rw [h]
      · rfl
    · simp only [if_neg h4, if_neg h5]
theorem xor1 : ∀ c, c < 12 → nI c ^^^ (1 : Int32) = nI (if c % 2 = 0 then c + 1 else c - 1) := by decide +kernel
theorem makes_e {fu : Nat} {M : Mm} {v : NV} (hv : okV v) {sh : Nat → Nat} (ho : okS v sh) (hg : GQ v sh M) {c : Nat} (hc : c < 2 * vMen v) : F_X1_makes fu M (nI c) = (match mv sh c with | none => some (0, M) | some sh' => some (1, pI (pI M 75 (c / 2) (nI (sh' (c / 2)))) 74 1 (nI (gv v sh')))) := by
  have hm := hv.1
  have hi : c / 2 < vMen v := by omega
  obtain ⟨g0, g1, g2, g3⟩ := hg
  have hs := ho (c / 2) hi
  have er : nI c - nI c / (2 : Int32) * (2 : Int32) = nI (c % 2) := nI_rem (d := 2) (by omega) (by decide) (by decide)
  have ed : nI c / (2 : Int32) = nI (c / 2) := pk_div (d := 2) (by omega) (by decide) (by decide)
  unfold F_X1_makes F_X1_makes_23 mv
  rw [er, ed, rd75 (by omega), ob1_s, (g2 _ hi).1]
  by_cases h2 : c % 2 = 0
  · rw [h2, if_pos (show nI 0 = 0 from rfl), if_pos rfl, nI_1, if_neg (nI_pos (by omega))]
    by_cases h9 : sh (c / 2) + 1 ≤ 9
    · rw [L9, if_pos (nI_le h9 (by omega)), if_pos h9, place_C hv hi h9 g1 (g2 _ hi).2, ob1_s]
      show _ = some (1, pI (pI M 75 (c / 2) (nI (setf sh (c / 2) (sh (c / 2) + 1) (c / 2)))) 74 1 (nI (gv v (setf sh (c / 2) (sh (c / 2) + 1)))))
      rw [setf_s]
    · rw [L9, if_neg (nI_ge (by omega) (by omega)), if_neg h9]
  · rw [if_neg (nI_ne0 (by omega) (by omega)), if_neg h2]
    by_cases h1 : 1 ≤ sh (c / 2)
    · obtain ⟨k, hk⟩ : ∃ k, sh (c / 2) = k + 1 := ⟨sh (c / 2) - 1, by omega⟩
      rw [hk, pk_m1, if_neg (nI_pos (by omega)), L9, if_pos (nI_le (by omega) (by omega)), if_pos (by omega), place_C hv hi (by omega) g1 (g2 _ hi).2, ob1_s, show k + 1 - 1 = k from rfl]
      show _ = some (1, pI (pI M 75 (c / 2) (nI (setf sh (c / 2) k (c / 2)))) 74 1 (nI (gv v (setf sh (c / 2) k))))
      rw [setf_s]
    · rw [show sh (c / 2) = 0 by omega, if_pos (show nI 0 + -1 < 0 by decide), if_neg (by omega)]
theorem GQ.mv {v : NV} {sh : Nat → Nat} {M : Mm} (hg : GQ v sh M) {i x : Nat} : GQ v (setf sh i x) (pI (pI M 75 i (nI x)) 74 1 (nI (gv v (setf sh i x)))) := by
  obtain ⟨g0, g1, g2, g3⟩ := hg
  refine ⟨by rw [pI_n (by omega), pI_n (by omega)]; exact g0, pI_s, fun j hj => ⟨?_, by rw [pI_n (by omega), pI_n (by omega)]; exact (g2 j hj).2⟩, g3⟩
  rw [pI_n (by omega)]
  by_cases hji : j = i
  · rw [hji, pI_s, setf_s]
  · rw [pI_n (by omega), setf_n hji]
    exact (g2 j hj).1
theorem gv_cg {v : NV} {a b : Nat → Nat} (h : ∀ j, a j = b j) : gv v a = gv v b := by rw [funext h]
/-- a move, and back -/
theorem makes_C {fu : Nat} {M : Mm} {v : NV} (hv : okV v) {sh : Nat → Nat} (ho : okS v sh) (hg : GQ v sh M) {c : Nat} (hc : c < 2 * vMen v) : (mv sh c = none ∧ F_X1_makes fu M (nI c) = some (0, M)) ∨ ∃ sh' M', mv sh c = some sh' ∧ okS v sh' ∧ F_X1_makes fu M (nI c) = some (1, M') ∧ GQ v sh' M' ∧ F_X1_makes fu M' (nI c ^^^ (1 : Int32)) = some (1, M) := by
  have hm := hv.1
  have hi : c / 2 < vMen v := by omega
  have e := makes_e (fu := fu) hv ho hg hc
  have hs := ho (c / 2) hi
  cases hmv : mv sh c with
  | none => exact Or.inl ⟨rfl, by rw [e, hmv]⟩
  | some sh' =>
    rw [hmv] at e
    have hx : ∃ x, x ≤ 9 ∧ sh' = setf sh (c / 2) x ∧ ((c % 2 = 0 ∧ x = sh (c / 2) + 1) ∨ (c % 2 = 1 ∧ x + 1 = sh (c / 2))) := by
      unfold mv at hmv
      split at hmv
      · split at hmv
        · injection hmv with h; exact ⟨_, by assumption, h.symm, Or.inl ⟨by assumption, rfl⟩⟩
        · cases hmv
      · split at hmv
        · injection hmv with h; exact ⟨_, by omega, h.symm, Or.inr ⟨by omega, by omega⟩⟩
        · cases hmv
    obtain ⟨x, hx9, hsh, hcase⟩ := hx
    have ho' : okS v sh' := fun j hj => by
      rw [hsh]
      unfold setf
      split
      · exact hx9
      · exact ho j hj
    have e' : F_X1_makes fu M (nI c) = some (1, pI (pI M 75 (c / 2) (nI x)) 74 1 (nI (gv v (setf sh (c / 2) x)))) := by
      rw [e, hsh]
      show some (1, pI (pI M 75 (c / 2) (nI (setf sh (c / 2) x (c / 2)))) 74 1 (nI (gv v (setf sh (c / 2) x)))) = _
      rw [setf_s]
    have hg' : GQ v sh' (pI (pI M 75 (c / 2) (nI x)) 74 1 (nI (gv v (setf sh (c / 2) x)))) := by rw [hsh]; exact hg.mv
    refine Or.inr ⟨sh', _, rfl, ho', e', hg', ?_⟩
    have hc12 : c < 12 := by omega
    rw [xor1 c hc12]
    have hback : setf sh' (c / 2) (sh (c / 2)) = sh := by
      funext j
      unfold setf
      split
      · next h => rw [h]
      · next h => rw [hsh, setf_n h]
    have hsx : sh' (c / 2) = x := by rw [hsh, setf_s]
    have hmv2 : ∀ c2, c2 = (if c % 2 = 0 then c + 1 else c - 1) → c2 / 2 = c / 2 ∧ c2 < 2 * vMen v ∧ mv sh' c2 = some sh := by
      intro c2 h2
      rcases hcase with ⟨h0, hx0⟩ | ⟨h0, hx0⟩
      · rw [if_pos h0] at h2
        have hd : c2 / 2 = c / 2 := by omega
        refine ⟨hd, by omega, ?_⟩
        unfold mv
        rw [if_neg (by omega), hd, hsx, if_pos (by omega), show x - 1 = sh (c / 2) by omega, hback]
      · rw [if_neg (by omega)] at h2
        have hd : c2 / 2 = c / 2 := by omega
        refine ⟨hd, by omega, ?_⟩
        unfold mv
        rw [if_pos (by omega), hd, hsx, if_pos (by omega), hx0, hback]
    obtain ⟨q1, q2, q3⟩ := hmv2 _ rfl
    have e2 := makes_e (fu := fu) hv ho' hg' q2
    rw [q3] at e2
    rw [e2, q1]
    show some (1, pI (pI (pI (pI M 75 (c / 2) (nI x)) 74 1 (nI (gv v (setf sh (c / 2) x)))) 75 (c / 2) (nI (sh (c / 2)))) 74 1 (nI (gv v sh))) = _
    rw [← (hg.2.2.1 _ hi).1, ← hg.2.1, pI_back]
theorem ends_C45 {fu : Nat} {M : Mm} {v : NV} (hv : okV v) {sh : Nat → Nat} (ho : okS v sh) (hg : GQ v sh M) {t : Nat} {rc : Mm → Int32 → Option (Int32 × Mm)} (hrc : ∀ sh' M', okS v sh' → GQ v sh' M' → rc M' (nI t) = some (bI (Wn v t sh'), M')) (b : Bool) : ∀ (m n c : Nat), c + m = 2 * vMen v → m < n → F_X1_endsCarried_45 fu rc n M (nI (t + 1)) (bI b) (nI c) = some (bI (lp (Wn v t) sh b m c), M) := by
  intro m
  have hm := hv.1
  induction m with
  | zero =>
    intro n c hc hn
    obtain ⟨n, rfl⟩ : ∃ q, n = q + 1 := ⟨n - 1, by omega⟩
    unfold F_X1_endsCarried_45
    rw [hg.1, L2, pk_mul, if_pos (nI_le (by omega) (by omega))]
    cases b <;> rfl
  | succ m ih =>
    intro n c hc hn
    obtain ⟨n, rfl⟩ : ∃ q, n = q + 1 := ⟨n - 1, by omega⟩
    have ih1 := ih n (c + 1) (by omega) (by omega)
    unfold F_X1_endsCarried_45 lp
    rw [hg.1, L2, pk_mul, if_neg (nI_ge (by omega) (by omega))]
    rcases makes_C (fu := fu) hv ho hg (show c < 2 * vMen v by omega) with ⟨e1, e2⟩ | ⟨sh', M', e1, e2, e3, e4, e5⟩
    · rw [e1, e2, ob2_s, if_pos rfl, nI_1]
      exact ih1
    · rw [e1, e3, ob2_s, if_neg one_ne, nI_pred, hrc sh' M' e2 e4, ob2_s, e5, ob2_s, nI_1]
      show (if bI (Wn v t sh') = bI b then _ else _) = some (bI (if (Wn v t sh' == b) = true then b else lp (Wn v t) sh b m (c + 1)), M)
      by_cases hq : (Wn v t sh' == b) = true
      · rw [if_pos (by rw [bIe]; exact hq), if_neg (bI_01 b), if_pos hq]
      · rw [if_neg (by rw [bIe]; exact hq), if_neg hq]
        exact ih1
theorem ends_C {fu : Nat} (hf : 1000 ≤ fu) {v : NV} (hv : okV v) : ∀ (t d : Nat) (M : Mm) (sh : Nat → Nat), t ≤ 4 → t < d → okS v sh → GQ v sh M → F_X1_endsCarried_d fu d M (nI t) = some (bI (Wn v t sh), M) := by
  have hm := hv.1
  intro t
  induction t with
  | zero =>
    intro d M sh ht hd ho hg
    obtain ⟨d, rfl⟩ : ∃ q, d = q + 1 := ⟨d - 1, by omega⟩
    unfold F_X1_endsCarried_d F_X1_endsCarried_b F_X1_endsCarried_9
    rw [if_pos (show nI 0 ≤ 0 by decide), hg.2.1]
    have hb := hg.2.2.2 (gv v sh) (bset_lt _ _)
    unfold mB at hb
    show _ = some (bI (carr v (gv v sh)), M)
    by_cases hq : lg_cmp (((M.2 74 2).toUInt64 >>> ((nI (gv v sh)).toInt64.toUInt64 &&& Int64.toUInt64 63)).toInt64 &&& (1 : Int64)) (1 : Int64) = 0
    · rw [if_pos hq, ← hb, decide_eq_true hq]
      rfl
    · rw [if_neg hq, ← hb, decide_eq_false hq]
      rfl
  | succ t ih =>
    intro d M sh ht hd ho hg
    obtain ⟨d, rfl⟩ : ∃ q, d = q + 1 := ⟨d - 1, by omega⟩
    have h45 := fun b => ends_C45 (fu := fu) hv ho hg (t := t) (rc := fun M x1 => F_X1_endsCarried_d fu d M x1) (fun sh' M' h1 h2 => ih d M' sh' (by omega) (by omega) h1 h2) b (2 * vMen v) fu 0 (by omega) (by omega)
    have er : nI (t + 1) - nI (t + 1) / (2 : Int32) * (2 : Int32) = nI ((t + 1) % 2) := nI_rem (d := 2) (by omega) (by decide) (by decide)
    unfold F_X1_endsCarried_d F_X1_endsCarried_b
    rw [if_neg (nI_nle (by omega) (by omega)), L4, if_pos (nI_le (by omega) (by omega)), er]
    by_cases h2 : (t + 1) % 2 = 0
    · rw [h2, if_pos (show nI 0 = 0 from rfl)]
      refine (h45 true).trans ?_
      show _ = some (bI (lp (Wn v t) sh (decide ((t + 1) % 2 = 0)) (2 * vMen v) 0), M)
      rw [decide_eq_true h2]
    · rw [if_neg (nI_ne0 (by omega) (by omega))]
      refine (h45 false).trans ?_
      show _ = some (bI (lp (Wn v t) sh (decide ((t + 1) % 2 = 0)) (2 * vMen v) 0), M)
      rw [decide_eq_false h2]
/-- the first winning move -/
def wmv (W : (Nat → Nat) → Bool) (sh : Nat → Nat) : Nat → Nat → Int32
  | 0, _ => -9
  | m + 1, c => match mv sh c with
    | none => wmv W sh m (c + 1)
    | some sh' => if W sh' = true then nI c else wmv W sh m (c + 1)
theorem win_C2 {fu : Nat} (hf : 1000 ≤ fu) {M : Mm} {v : NV} (hv : okV v) {sh : Nat → Nat} (ho : okS v sh) (hg : GQ v sh M) {t : Nat} (ht : t ≤ 4) : ∀ (m n c : Nat), c + m = 2 * vMen v → m < n → F_X1_winningMove_2 fu n M (nI (t + 1)) (nI c) = some (wmv (Wn v t) sh m c, M) := by
  intro m
  have hm := hv.1
  induction m with
  | zero =>
    intro n c hc hn
    obtain ⟨n, rfl⟩ : ∃ q, n = q + 1 := ⟨n - 1, by omega⟩
    unfold F_X1_winningMove_2
    rw [hg.1, L2, pk_mul, if_pos (nI_le (by omega) (by omega))]
    rfl
  | succ m ih =>
    intro n c hc hn
    obtain ⟨n, rfl⟩ : ∃ q, n = q + 1 := ⟨n - 1, by omega⟩
    have ih1 := ih n (c + 1) (by omega) (by omega)
    unfold F_X1_winningMove_2 wmv
    rw [hg.1, L2, pk_mul, if_neg (nI_ge (by omega) (by omega))]
    rcases makes_C (fu := fu) hv ho hg (show c < 2 * vMen v by omega) with ⟨e1, e2⟩ | ⟨sh', M', e1, e2, e3, e4, e5⟩
    · rw [e1, e2, ob2_s, if_pos rfl, nI_1]
      exact ih1
    · have hen : F_X1_endsCarried fu M' (nI t) = some (bI (Wn v t sh'), M') := ends_C hf hv t 6 M' sh' ht (by omega) e2 e4
      rw [e1, e3, ob2_s, if_neg one_ne, nI_pred, hen, ob2_s, e5, ob2_s, nI_1]
      show (if bI (Wn v t sh') = 0 then _ else _) = some (if Wn v t sh' = true then nI c else wmv (Wn v t) sh m (c + 1), M)
      cases Wn v t sh'
      · exact ih1
      · rfl
