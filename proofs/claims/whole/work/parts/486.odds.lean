/-! chances in lowest terms -/
theorem gcd_st (a b : Nat) : Nat.gcd a b = Nat.gcd b (a % b) := by
  rw [Nat.gcd_comm a b, Nat.gcd_rec b a, Nat.gcd_comm]
theorem cmp0 {b : Nat} (hb : b < 2 ^ 62) : (lg_cmp (lN b) (0 : Int64) = 0) ↔ b = 0 := by
  rw [lg_cmp_eq, J0, pk_lEQ (by omega) (by omega)]
theorem lN0 {b : Nat} (hb : b < 2 ^ 62) : (lN b = 0) ↔ b = 0 := by
  rw [J0, pk_lEQ (by omega) (by omega)]
theorem mod_half {a b : Nat} (h : 0 < a % b) (hb : 0 < b) : 2 * (b % (a % b)) < b := by
  have h1 := Nat.mod_lt a hb
  have h2 := Nat.mod_lt b h
  by_cases hc : 2 * (a % b) ≤ b
  · omega
  · have : b % (a % b) = b - a % b := by
      rw [Nat.mod_eq_sub_mod (by omega), Nat.mod_eq_of_lt (by omega)]
    omega
theorem gcd_C3 {fu : Nat} {M : Mm} : ∀ (k n a b x : Nat), a < 2 ^ 62 → b < 2 ^ 62 → b < 2 ^ k → x + 2 * k + 1 ≤ 100 → 2 * k + 1 < n → F_X6_commonDivisor_3 fu M n (lN a) (lN b) (nI x) = some (lN (Nat.gcd a b)) := by
  have z : ∀ (n a x : Nat), a < 2 ^ 62 → x < 100 → F_X6_commonDivisor_3 fu M (n + 1) (lN a) (lN 0) (nI x) = some (lN (Nat.gcd a 0)) := by
    intro n a x ha hx
    unfold F_X6_commonDivisor_3
    rw [L100, if_neg (nI_ge hx (by omega)), if_pos ((cmp0 (by decide)).mpr rfl), Nat.gcd_zero_right]
  have st : ∀ (n a b x : Nat), a < 2 ^ 62 → b < 2 ^ 62 → 0 < b → x < 100 → F_X6_commonDivisor_3 fu M (n + 1) (lN a) (lN b) (nI x) = F_X6_commonDivisor_3 fu M n (lN b) (lN (a % b)) (nI (x + 1)) := by
    intro n a b x ha hb h0 hx
    rw [F_X6_commonDivisor_3, L100, if_neg (nI_ge hx (by omega)), if_neg (fun q => by have := (cmp0 hb).mp q; omega), if_neg (fun q => by have := (lN0 hb).mp q; omega), pk_lRem (by omega) h0 (by omega), nI_1]
  intro k
  induction k with
  | zero =>
    intro n a b x ha hb hk hx hn
    have : b = 0 := by simpa using hk
    subst this
    obtain ⟨n, rfl⟩ : ∃ q, n = q + 1 := ⟨n - 1, by omega⟩
    exact z n a x ha (by omega)
  | succ k ih =>
    intro n a b x ha hb hk hx hn
    by_cases h0 : b = 0
    · subst h0
      obtain ⟨n, rfl⟩ : ∃ q, n = q + 1 := ⟨n - 1, by omega⟩
      exact z n a x ha (by omega)
    · obtain ⟨n, rfl⟩ : ∃ q, n = q + 2 := ⟨n - 2, by omega⟩
      have hr := Nat.mod_lt a (show 0 < b by omega)
      rw [st (n + 1) a b x ha hb (by omega) (by omega), gcd_st a b]
      by_cases hr0 : a % b = 0
      · rw [hr0]
        exact z n b (x + 1) hb (by omega)
      · have hh := mod_half (a := a) (b := b) (by omega) (by omega)
        have h2 := Nat.mod_lt b (show 0 < a % b by omega)
        rw [st n b (a % b) (x + 1) hb (by omega) (by omega) (by omega), gcd_st b (a % b)]
        refine ih n (a % b) (b % (a % b)) (x + 1 + 1) (by omega) (by omega) ?_ (by omega) (by omega)
        rw [Nat.pow_succ] at hk
        omega
theorem frac_X33 {fu : Nat} {M : Mm} {A B : Nat} : ∀ (k n a b : Nat), a < 2 ^ 62 → b < 2 ^ 62 → b < 2 ^ k → 2 * k + 1 < n → 0 < Nat.gcd a b → F_X7_fraction_33 fu n M (lN A) (lN B) (lN a) (lN b) = some (1, pL (pL M 86 17 (lN A / lN (Nat.gcd a b))) 86 18 (lN B / lN (Nat.gcd a b))) := by
  have z : ∀ (n a : Nat), a < 2 ^ 62 → 0 < Nat.gcd a 0 → F_X7_fraction_33 fu (n + 1) M (lN A) (lN B) (lN a) (lN 0) = some (1, pL (pL M 86 17 (lN A / lN (Nat.gcd a 0))) 86 18 (lN B / lN (Nat.gcd a 0))) := by
    intro n a ha hg
    rw [Nat.gcd_zero_right] at hg ⊢
    have e : ¬ lN a = 0 := fun q => by have := (lN0 ha).mp q; omega
    unfold F_X7_fraction_33
    rw [if_pos ((cmp0 (by decide)).mpr rfl), if_neg e, lt1_s, if_neg e, lt1_s]
  have st : ∀ (n a b : Nat), a < 2 ^ 62 → b < 2 ^ 62 → 0 < b → F_X7_fraction_33 fu (n + 1) M (lN A) (lN B) (lN a) (lN b) = F_X7_fraction_33 fu n M (lN A) (lN B) (lN b) (lN (a % b)) := by
    intro n a b ha hb h0
    rw [F_X7_fraction_33, if_neg (fun q => by have := (cmp0 hb).mp q; omega), if_neg (fun q => by have := (lN0 hb).mp q; omega), pk_lRem (by omega) h0 (by omega)]
  intro k
  induction k with
  | zero =>
    intro n a b ha hb hk hn hg
    have : b = 0 := by simpa using hk
    subst this
    obtain ⟨n, rfl⟩ : ∃ q, n = q + 1 := ⟨n - 1, by omega⟩
    exact z n a ha hg
  | succ k ih =>
    intro n a b ha hb hk hn hg
    by_cases h0 : b = 0
    · subst h0
      obtain ⟨n, rfl⟩ : ∃ q, n = q + 1 := ⟨n - 1, by omega⟩
      exact z n a ha hg
    · obtain ⟨n, rfl⟩ : ∃ q, n = q + 2 := ⟨n - 2, by omega⟩
      have hr := Nat.mod_lt a (show 0 < b by omega)
      rw [st (n + 1) a b ha hb (by omega)]
      rw [gcd_st a b] at hg ⊢
      by_cases hr0 : a % b = 0
      · rw [hr0] at hg ⊢
        exact z n b hb hg
      · have hh := mod_half (a := a) (b := b) (by omega) (by omega)
        have h2 := Nat.mod_lt b (show 0 < a % b by omega)
        rw [st n b (a % b) hb (by omega) (by omega)]
        rw [gcd_st b (a % b)] at hg ⊢
        refine ih n (a % b) (b % (a % b)) (by omega) (by omega) ?_ (by omega) hg
        rw [Nat.pow_succ] at hk
        omega
theorem frac_X6 {fu : Nat} (hf : 1000 ≤ fu) {M : Mm} {A N : Nat} (hA : A < 2 ^ 62) (hN : N ≤ 8) : ∀ (m n k : Nat), k + m = N → m < n → F_X7_fraction_6 fu n M (lN A) (nI N) (lN (12 ^ k)) (nI k) = some (1, pL (pL M 86 17 (lN A / lN (Nat.gcd A (12 ^ N)))) 86 18 (lN (12 ^ N) / lN (Nat.gcd A (12 ^ N)))) := by
  have hp := p12 hN
  have h0 : 0 < 12 ^ N := Nat.pow_pos (by decide)
  intro m
  induction m with
  | zero =>
    intro n k hk hn
    obtain ⟨n, rfl⟩ : ∃ q, n = q + 1 := ⟨n - 1, by omega⟩
    have : k = N := by omega
    subst this
    unfold F_X7_fraction_6
    rw [if_pos (nI_le (by omega) (by omega))]
    exact frac_X33 29 fu A (12 ^ k) hA (by omega) (by omega) (by omega) (Nat.gcd_pos_of_pos_right _ h0)
  | succ m ih =>
    intro n k hk hn
    obtain ⟨n, rfl⟩ : ∃ q, n = q + 1 := ⟨n - 1, by omega⟩
    unfold F_X7_fraction_6
    rw [if_neg (nI_ge (by omega) (by omega)), show (12 : Int64) = lN 12 from rfl, lN_mul, ← Nat.pow_succ, nI_1]
    exact ih n (k + 1) (by omega) (by omega)
theorem tellCh_C {fu : Nat} (hf : 1000 ≤ fu) {M : Mm} {A N : Nat} (hA : A < 2 ^ 62) (hN : N ≤ 8) : F_X6_tellChance fu M (lN A) (lN (12 ^ N)) = some (pL (pL M 0 10 (lN A / lN (Nat.gcd A (12 ^ N)))) 0 11 (lN (12 ^ N) / lN (Nat.gcd A (12 ^ N)))) := by
  have hp := p12 hN
  have h0 : 0 < 12 ^ N := Nat.pow_pos (by decide)
  have hg := Nat.gcd_pos_of_pos_right A h0
  have hgl : Nat.gcd A (12 ^ N) ≤ 12 ^ N := Nat.le_of_dvd h0 (Nat.gcd_dvd_right _ _)
  have e : ¬ lN (Nat.gcd A (12 ^ N)) = 0 := fun q => by have := (lN0 (by omega)).mp q; omega
  unfold F_X6_tellChance F_X6_commonDivisor
  rw [L0, gcd_C3 29 fu A (12 ^ N) 0 hA (by omega) (by omega) (by omega) (by omega), ob1_s, ← L0, if_neg, if_neg e, lt1_s, if_neg e, lt1_s]
  rw [lg_cmp_le, J0, pk_lLE (by omega) (by omega)]
  omega
theorem Rel.chance {M M1 M2 M3 M4 : Mm} {P Q : Nat → Nat → Prop} (h : Rel M) {A B : Int64} (o1 : Out P M M1) (hp : ∀ x j, P x j → scr x j) (e2 : M2 = pL (pL M1 0 10 A) 0 11 B) (o3 : Out Q M2 M3) (hq : ∀ x j, Q x j → scr x j) (e4 : M4 = pL (pL M3 86 17 A) 86 18 B) : Rel M4 := by
  have r1 := h.out o1 hp
  have o2 : Out (fun x j => x = 0 ∧ (j = 10 ∨ j = 11)) M1 M2 := by rw [e2]; exact ((Out.rf).pL (by omega)).pL (by omega)
  have o4 : Out (fun x j => x = 86 ∧ (j = 17 ∨ j = 18)) M3 M4 := by rw [e4]; exact ((Out.rf).pL (by omega)).pL (by omega)
  have o : Out (fun x j => scr x j ∨ (x = 0 ∧ (j = 10 ∨ j = 11)) ∨ (x = 86 ∧ (j = 17 ∨ j = 18))) M1 M4 := ((o2.wk fun x j q => Or.inr (Or.inl q)).trans (o3.wk fun x j q => Or.inl (hq x j q))).trans (o4.wk fun x j q => Or.inr (Or.inr q))
  refine r1.told o (fun x j q => ?_) ?_
  · unfold scr at q
    unfold sR sX sN at q ⊢
    omega
  · obtain ⟨a, b, c, d, e⟩ := r1.1
    have s : ∀ x j, sT x j → ¬ (x = 0 ∧ (j = 10 ∨ j = 11)) → ¬ (x = 86 ∧ (j = 17 ∨ j = 18)) → M4.1 x j = M1.1 x j := fun x j h1 h2 h3 => (o x j fun q => by
      rcases q with q | q | q
      · exact q (Or.inl h1)
      · exact h2 q
      · exact h3 q).1
    refine ⟨?_, ?_, ?_, ?_, fun f hf => ?_⟩
    · rw [s 0 8 (by unfold sT; omega) (by omega) (by omega), s 86 19 (by unfold sT; omega) (by omega) (by omega), a]
    · rw [s 0 9 (by unfold sT; omega) (by omega) (by omega), s 86 16 (by unfold sT; omega) (by omega) (by omega), b]
    · have q1 : M4.2 0 10 = A := by
        rw [(o4 _ _ (by omega)).2, (o3 _ _ (fun q => by have := hq _ _ q; unfold scr sT at this; omega)).2, e2, pL_n (by omega), pL_s]
      rw [q1, e4, pL_n (by omega), pL_s]
    · have q1 : M4.2 0 11 = B := by
        rw [(o4 _ _ (by omega)).2, (o3 _ _ (fun q => by have := hq _ _ q; unfold scr sT at this; omega)).2, e2, pL_s]
      rw [q1, e4, pL_s]
    · rw [s 80 f (by unfold sT; omega) (by omega) (by omega), s 99 f (by unfold sT; omega) (by omega) (by omega), e f hf]
theorem odds_X25 {fu : Nat} {M : Mm} {w : Nat → Nat} {x2 : Int32} (h : ∀ j, j < 100 → M.2 111 j = lN (w j)) : ∀ (m n d a : Nat), d + m = 100 → m < n → F_X7_odds_25 fu n M x2 (lN a) (nI d) = ob2 (F_X7_fraction fu M (lN (a + sf w m d)) x2) (fun r3 M4 => some (r3, M4)) := by
  intro m
  induction m with
  | zero =>
    intro n d a hd hn
    obtain ⟨n, rfl⟩ : ∃ q, n = q + 1 := ⟨n - 1, by omega⟩
    unfold F_X7_odds_25
    rw [L100, if_pos (nI_le (by omega) (by omega))]
    rfl
  | succ m ih =>
    intro n d a hd hn
    obtain ⟨n, rfl⟩ : ∃ q, n = q + 1 := ⟨n - 1, by omega⟩
    unfold F_X7_odds_25 sf
    rw [L100, if_neg (nI_ge (by omega) (by omega)), xr111 (by omega), clN (by omega), h d (by omega), lN_add, nI_1, ih n (d + 1) _ (by omega) (by omega), Nat.add_assoc]
theorem mid_X25 {fu : Nat} {M : Mm} {w : Nat → Nat} {x2 : Int32} (h : ∀ j, j < 100 → M.2 111 j = lN (w j)) : ∀ (m n d a : Nat), d + m = 100 → m < n → F_X7_mid_25 fu n M x2 (lN a) (nI d) = ob2 (F_X7_fraction fu M (lN (a + sf (fun b => b * w b) m d)) x2) (fun r3 M4 => some (r3, M4)) := by
  intro m
  induction m with
  | zero =>
    intro n d a hd hn
    obtain ⟨n, rfl⟩ : ∃ q, n = q + 1 := ⟨n - 1, by omega⟩
    unfold F_X7_mid_25
    rw [L100, if_pos (nI_le (by omega) (by omega))]
    rfl
  | succ m ih =>
    intro n d a hd hn
    obtain ⟨n, rfl⟩ : ∃ q, n = q + 1 := ⟨n - 1, by omega⟩
    unfold F_X7_mid_25 sf
    rw [L100, if_neg (nI_ge (by omega) (by omega)), xr111 (by omega), clN (by omega), h d (by omega), nI_l (by omega), lN_mul, lN_add, lt1_s, nI_1, ih n (d + 1) _ (by omega) (by omega), Nat.add_assoc]
theorem scC {x j : Nat} (h : x = 78 ∨ x = 79 ∨ (x = 77 ∧ j = 2)) : scr x j := by unfold scr sT sR sX sN; omega
theorem scX {x j : Nat} (h : x = 111 ∨ x = 112) : scr x j := by unfold scr sT sR sX sN; omega
/-- the refusals of both -/
theorem cloudArgs {fu : Nat} (v : NV) (hv : okV v) (x y z : Int32) {M : Mm} (hc : CV v M) (hx : XV v M) : ((∀ G : Option (Int32 × Mm), ob1 (F_X2_isMan fu M 24 x) (fun r2 => if r2 = 0 then some ((-1 : Int32), M) else if y < 0 then some ((-1 : Int32), M) else if (8 : Int32) < y then some ((-1 : Int32), M) else if z < 0 then some ((-1 : Int32), M) else if z ≤ (12 : Int32) then G else some ((-1 : Int32), M)) = some (-1, M)) ∧ F_X7_isCloud fu M x y z = some 0) ∨ ∃ i n p, i < vMen v ∧ n ≤ 8 ∧ p ≤ 12 ∧ x = nI i ∧ y = nI n ∧ z = nI p ∧ (∀ G : Option (Int32 × Mm), ob1 (F_X2_isMan fu M 24 x) (fun r2 => if r2 = 0 then some ((-1 : Int32), M) else if y < 0 then some ((-1 : Int32), M) else if (8 : Int32) < y then some ((-1 : Int32), M) else if z < 0 then some ((-1 : Int32), M) else if z ≤ (12 : Int32) then G else some ((-1 : Int32), M)) = G) ∧ ∀ M1, XV v M1 → F_X7_isCloud fu M1 x y z = some 1 := by
  have hm := hv.1
  rcases rng3 x (n := vMen v) (by omega) with hi | ⟨i, hi, rfl⟩
  · refine Or.inl ⟨fun G => by rw [isMan_C0 hc hi]; rfl, ?_⟩
    unfold F_X7_isCloud
    rw [isMan_X0 hv hx hi]
    rfl
  · rcases rng3 y (n := 9) (by omega) with hy | ⟨n, hn, rfl⟩
    · refine Or.inl ⟨fun G => ?_, ?_⟩
      · rw [isMan_C1 hv hc hi, ob1_s, if_neg one_ne]
        rcases hy with hy | hy
        · rw [if_pos hy]
        · rw [if_pos (c := (8 : Int32) < y) (by rw [Int32.le_iff_toInt_le, nI_toInt (by decide)] at hy; rw [Int32.lt_iff_toInt_lt, show (8 : Int32).toInt = 8 from rfl]; omega), ite_self]
      · unfold F_X7_isCloud
        rw [isMan_X1 hv hx hi, ob1_s, if_neg one_ne, in_no (n := 8) hy I8 (by decide)]
        rfl
    · rcases rng3 z (n := 13) (by omega) with hz | ⟨p, hp, rfl⟩
      · refine Or.inl ⟨fun G => ?_, ?_⟩
        · rw [isMan_C1 hv hc hi, ob1_s, if_neg one_ne, if_neg (nI_pos (by omega)), L8, if_neg (nI_nlt (by omega) (by omega))]
          rcases hz with hz | hz
          · rw [if_pos hz]
          · rw [L12, if_neg (gt_hi hz (by decide)), ite_self]
        · unfold F_X7_isCloud
          rw [isMan_X1 hv hx hi, ob1_s, if_neg one_ne, in_ok (k := 0) (n := 8) (by omega) (by omega) I0 I8 (by decide), ob1_s, if_neg one_ne, in_no (n := 12) hz I12 (by decide)]
          rfl
      · refine Or.inr ⟨i, n, p, hi, by omega, by omega, rfl, rfl, rfl, fun G => ?_, fun M1 hx1 => ?_⟩
        · rw [isMan_C1 hv hc hi, ob1_s, if_neg one_ne, if_neg (nI_pos (by omega)), L8, if_neg (nI_nlt (by omega) (by omega)), if_neg (nI_pos (by omega)), L12, if_pos (nI_le (by omega) (by omega))]
        · unfold F_X7_isCloud
          rw [isMan_X1 hv hx1 hi, ob1_s, if_neg one_ne, in_ok (k := 0) (n := 8) (by omega) (by omega) I0 I8 (by decide), ob1_s, if_neg one_ne, in_ok (k := 0) (n := 12) (by omega) (by omega) I0 I12 (by decide)]
          rfl
theorem call_odds {fu : Nat} (hf : 1000 ≤ fu) {M : Mm} (h : Rel M) (x y z : Int32) : Two2 (F_X6_odds fu M x y z) (fun M1 => F_X7_odds fu M1 x y z) := by
  obtain ⟨v, hv, hc, hx⟩ := h.v
  unfold F_X6_odds F_X7_odds
  rcases cloudArgs (fu := fu) v hv x y z hc hx with ⟨e1, e2⟩ | ⟨i, n, p, hi, hn, hp, rfl, rfl, rfl, e1, e2⟩
  · exact Two2.same h (e1 _) (by rw [e2]; rfl)
  · have ht := tot_wk hv hi hp n
    have hsf := sf_le (wk v i p n)
    have hp12 := p12 hn
    obtain ⟨M1, a1, a2, a3, a4⟩ := weigh_C hf hv hc hi hn hp
    have hw := ways_C4 (fu := fu) a2 99 fu 1 0 (by decide) (by omega)
    rw [Nat.zero_add] at hw
    have htc := tellCh_C hf (M := M1) (A := sf (wk v i p n) 99 1) (N := n) (by omega) hn
    have lo : Lo M (pL (pL M1 0 10 (lN (sf (wk v i p n) 99 1) / lN (Nat.gcd (sf (wk v i p n) 99 1) (12 ^ n)))) 0 11 (lN (12 ^ n) / lN (Nat.gcd (sf (wk v i p n) 99 1) (12 ^ n)))) := Lo.of (P := fun x j => (x = 78 ∨ x = 79 ∨ (x = 77 ∧ j = 2)) ∨ x = 0) (((a4.wk fun x j q => Or.inl q).pL (by omega)).pL (by omega)) fun x j q => by omega
    have hx2 := hx.lo lo
    obtain ⟨M3, b1, b2, b3⟩ := cases_X3 hf hv hi hn hp 100 fu (pL (pL M1 0 10 (lN (sf (wk v i p n) 99 1) / lN (Nat.gcd (sf (wk v i p n) 99 1) (12 ^ n)))) 0 11 (lN (12 ^ n) / lN (Nat.gcd (sf (wk v i p n) 99 1) (12 ^ n)))) 0 (by omega) (by omega) hx2 (fun j hj => by omega)
    have hox := odds_X25 (fu := fu) (x2 := nI n) b2 99 fu 1 0 (by decide) (by omega)
    have hfr := frac_X6 hf (M := M3) (A := sf (wk v i p n) 99 1) (N := n) (by omega) hn n fu 0 (by omega) (by omega)
    refine ⟨1, pL (pL M1 0 10 (lN (sf (wk v i p n) 99 1) / lN (Nat.gcd (sf (wk v i p n) 99 1) (12 ^ n)))) 0 11 (lN (12 ^ n) / lN (Nat.gcd (sf (wk v i p n) 99 1) (12 ^ n))), _, ?_, ?_, h.chance a4 (fun x j q => scC q) rfl b3 (fun x j q => scX q) rfl⟩
    · rw [e1, a1, ob1_s]
      unfold F_X0_waysToLast
      rw [J0, show (1 : Int32) = nI 1 from rfl, hw, ob1_s, a3, htc, ob1_s]
    · dsimp only
      have b1' : F_X7_layCases fu (pL (pL M1 0 10 (lN (sf (wk v i p n) 99 1) / lN (Nat.gcd (sf (wk v i p n) 99 1) (12 ^ n)))) 0 11 (lN (12 ^ n) / lN (Nat.gcd (sf (wk v i p n) 99 1) (12 ^ n)))) (nI i) (nI n) (nI p) = some M3 := b1
      rw [e2 _ hx2, ob1_s, if_neg one_ne, b1', ob1_s, J0, show (1 : Int32) = nI 1 from rfl, hox, Nat.zero_add]
      unfold F_X7_fraction
      have hfr' : F_X7_fraction_6 fu fu M3 (lN (sf (wk v i p n) 99 1)) (nI n) 1 0 = _ := hfr
      rw [hfr']
      rfl
theorem call_mid {fu : Nat} (hf : 1000 ≤ fu) {M : Mm} (h : Rel M) (x y z : Int32) : Two2 (F_X6_mid fu M x y z) (fun M1 => F_X7_mid fu M1 x y z) := by
  obtain ⟨v, hv, hc, hx⟩ := h.v
  unfold F_X6_mid F_X7_mid
  rcases cloudArgs (fu := fu) v hv x y z hc hx with ⟨e1, e2⟩ | ⟨i, n, p, hi, hn, hp, rfl, rfl, rfl, e1, e2⟩
  · exact Two2.same h (e1 _) (by rw [e2]; rfl)
  · have ht := tot_wk hv hi hp n
    have hsf := midB (wk v i p n)
    have hp12 := p12 hn
    obtain ⟨M1, a1, a2, a3, a4⟩ := weigh_C hf hv hc hi hn hp
    have hw := bulkW_C4 (fu := fu) a2 99 fu 1 0 (by decide) (by omega)
    rw [Nat.zero_add] at hw
    have htc := tellCh_C hf (M := M1) (A := sf (fun b => b * wk v i p n b) 99 1) (N := n) (by omega) hn
    have lo : Lo M (pL (pL M1 0 10 (lN (sf (fun b => b * wk v i p n b) 99 1) / lN (Nat.gcd (sf (fun b => b * wk v i p n b) 99 1) (12 ^ n)))) 0 11 (lN (12 ^ n) / lN (Nat.gcd (sf (fun b => b * wk v i p n b) 99 1) (12 ^ n)))) := Lo.of (P := fun x j => (x = 78 ∨ x = 79 ∨ (x = 77 ∧ j = 2)) ∨ x = 0) (((a4.wk fun x j q => Or.inl q).pL (by omega)).pL (by omega)) fun x j q => by omega
    have hx2 := hx.lo lo
    obtain ⟨M3, b1, b2, b3⟩ := cases_X3 hf hv hi hn hp 100 fu (pL (pL M1 0 10 (lN (sf (fun b => b * wk v i p n b) 99 1) / lN (Nat.gcd (sf (fun b => b * wk v i p n b) 99 1) (12 ^ n)))) 0 11 (lN (12 ^ n) / lN (Nat.gcd (sf (fun b => b * wk v i p n b) 99 1) (12 ^ n)))) 0 (by omega) (by omega) hx2 (fun j hj => by omega)
    have hox := mid_X25 (fu := fu) (x2 := nI n) b2 99 fu 1 0 (by decide) (by omega)
    have hfr := frac_X6 hf (M := M3) (A := sf (fun b => b * wk v i p n b) 99 1) (N := n) (by omega) hn n fu 0 (by omega) (by omega)
    refine ⟨1, pL (pL M1 0 10 (lN (sf (fun b => b * wk v i p n b) 99 1) / lN (Nat.gcd (sf (fun b => b * wk v i p n b) 99 1) (12 ^ n)))) 0 11 (lN (12 ^ n) / lN (Nat.gcd (sf (fun b => b * wk v i p n b) 99 1) (12 ^ n))), _, ?_, ?_, h.chance a4 (fun x j q => scC q) rfl b3 (fun x j q => scX q) rfl⟩
    · rw [e1, a1, ob1_s]
      unfold F_X0_bulkOfWays
      rw [J0, show (1 : Int32) = nI 1 from rfl, hw, ob1_s, a3, htc, ob1_s]
    · dsimp only
      have b1' : F_X7_layCases fu (pL (pL M1 0 10 (lN (sf (fun b => b * wk v i p n b) 99 1) / lN (Nat.gcd (sf (fun b => b * wk v i p n b) 99 1) (12 ^ n)))) 0 11 (lN (12 ^ n) / lN (Nat.gcd (sf (fun b => b * wk v i p n b) 99 1) (12 ^ n)))) (nI i) (nI n) (nI p) = some M3 := b1
      rw [e2 _ hx2, ob1_s, if_neg one_ne, b1', ob1_s, J0, show (1 : Int32) = nI 1 from rfl, hox, Nat.zero_add]
      unfold F_X7_fraction
      have hfr' : F_X7_fraction_6 fu fu M3 (lN (sf (fun b => b * wk v i p n b) 99 1)) (nI n) 1 0 = _ := hfr
      rw [hfr']
      rfl
