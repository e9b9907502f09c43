/-! what was seen: fits, kinds, rights -/
theorem in_dec {fu : Nat} {M : Mm} {y : Int32} {b : Int64} {n : Nat} (hb : b = lN n) (hn : n < 1000) : F_X7_in fu M y.toInt64 (0 : Int64) b = some (bI (decide (0 ≤ y.toInt ∧ y.toInt ≤ n))) := by
  subst hb
  rcases rng3 y (n := n + 1) (by omega) with h | ⟨j, hj, rfl⟩
  · rw [in_no h rfl (by omega), decide_eq_false]
    · rfl
    · intro q
      rcases h with h | h
      · rw [lt0i] at h; omega
      · rw [Int32.le_iff_toInt_le, nI_toInt (by omega)] at h; omega
  · rw [in_ok (k := 0) (n := n) (by omega) (by omega) I0 rfl (by omega), decide_eq_true (by rw [nI_toInt (by omega)]; omega)]
    rfl
theorem ahead_dec {fu : Nat} {M : Mm} {y : Int32} : F_X6_isAhead fu M y = some (bI (decide (0 ≤ y.toInt ∧ y.toInt ≤ 60))) := by
  rcases rng3 y (n := 61) (by omega) with h | ⟨j, hj, rfl⟩
  · rw [isAhead_C0 h, decide_eq_false]
    · rfl
    · intro q
      rcases h with h | h
      · rw [lt0i] at h; omega
      · rw [Int32.le_iff_toInt_le, nI_toInt (by omega)] at h; omega
  · rw [isAhead_C1 hj, decide_eq_true (by rw [nI_toInt (by omega)]; omega)]
    rfl
def dP (n : Nat) (x : Int32) : Bool := decide (0 ≤ x.toInt ∧ x.toInt ≤ n)
theorem dP_n {n : Nat} {x : Int32} (h : dP n x = true) (hn : n < 1000) : ∃ j, j ≤ n ∧ x = nI j := by
  have h := of_decide_eq_true h
  obtain ⟨j, hj, rfl⟩ := nI_of (x := x) (by rw [lt0i]; omega)
  rw [nI_toInt hj] at h
  exact ⟨j, by omega, rfl⟩
def okp (f : Nat → Int32) : Nat → Nat → Bool
  | 0, _ => true
  | m + 1, p => (dP 60 (f p) && dP 99 (f (p + 1))) && okp f m (p + 2)
theorem okp_cg {f g : Nat → Int32} : ∀ m p, (∀ j, p ≤ j → j < p + 2 * m → f j = g j) → okp f m p = okp g m p := by
  intro m
  induction m with
  | zero => intro p _; rfl
  | succ m ih =>
    intro p h
    unfold okp
    rw [h p (by omega) (by omega), h (p + 1) (by omega) (by omega), ih (p + 2) (fun j h1 h2 => h j (by omega) (by omega))]
theorem refus_C54 {fu : Nat} {M : Mm} {r N : Nat} (hr : r < 6) (hN : N ≤ 40) (hs : M.1 (1 + r) 1 = nI N) : ∀ (m n p : Nat), p + 2 * m = N → m < n → F_X6_refusalOfSeen_54 fu n M (1 + r) (nI p) = (if okp (M.1 (1 + r + 6)) m p = true then some ((0 : Int32), M) else some (-3, fC 3 M)) := by
  intro m
  induction m with
  | zero =>
    intro n p hp hn
    obtain ⟨n, rfl⟩ : ∃ q, n = q + 1 := ⟨n - 1, by omega⟩
    unfold F_X6_refusalOfSeen_54
    rw [hs, nI_1, if_pos (nI_le (by omega) (by omega))]
    rfl
  | succ m ih =>
    intro n p hp hn
    obtain ⟨n, rfl⟩ : ∃ q, n = q + 1 := ⟨n - 1, by omega⟩
    have e105 : F_X6_refusalOfSeen_105 fu M = some (-3, fC 3 M) := by unfold F_X6_refusalOfSeen_105; rw [fnd3_C]; rfl
    unfold F_X6_refusalOfSeen_54 okp
    rw [hs, nI_1, if_neg (nI_ge (by omega) (by omega)), rdR hr (by omega), ob1_s, rdR hr (by omega), ob1_s, ahead_dec, ob1_s, e105, L2, nI_add, ih n (p + 2) (by omega) (by omega)]
    cases h1 : dP 60 (M.1 (1 + r + 6) p)
    · rw [show decide (0 ≤ (M.1 (1 + r + 6) p).toInt ∧ (M.1 (1 + r + 6) p).toInt ≤ 60) = false from h1, if_pos (by decide)]
      rfl
    · rw [show decide (0 ≤ (M.1 (1 + r + 6) p).toInt ∧ (M.1 (1 + r + 6) p).toInt ≤ 60) = true from h1, if_neg (by decide), Bool.true_and]
      cases h2 : dP 99 (M.1 (1 + r + 6) (p + 1))
      · have h3 := of_decide_eq_false h2
        rw [Bool.false_and, if_neg (c := false = true) (by decide)]
        by_cases h4 : M.1 (1 + r + 6) (p + 1) < 0
        · rw [if_pos h4]
        · rw [if_neg h4, if_neg]
          rw [lt0i] at h4
          rw [Int32.le_iff_toInt_le, show (99 : Int32).toInt = 99 from rfl]
          omega
      · have h3 := of_decide_eq_true h2
        rw [Bool.true_and, if_neg (c := M.1 (1 + r + 6) (p + 1) < 0) (by rw [lt0i]; omega), if_pos (c := M.1 (1 + r + 6) (p + 1) ≤ 99) (by rw [Int32.le_iff_toInt_le, show (99 : Int32).toInt = 99 from rfl]; omega)]
theorem wrong_X29 {fu : Nat} {M : Mm} {r N : Nat} (hr : r < 6) (hN : N ≤ 40) (hs : M.1 88 r = nI N) : ∀ (m n p : Nat), p % 2 = 0 → p + 2 * m = N → 2 * m < n → F_X7_wrongPairs_29 fu M n (nI r) (nI p) = some (if okp (fun j => M.1 87 (40 * r + j)) m p = true then -9 else 3) := by
  intro m
  induction m with
  | zero =>
    intro n p h2 hp hn
    obtain ⟨n, rfl⟩ : ∃ q, n = q + 1 := ⟨n - 1, by omega⟩
    unfold F_X7_wrongPairs_29
    rw [xr88 hr, clN (by omega), hs, if_pos (nI_le (by omega) (by omega))]
    rfl
  | succ m ih =>
    intro n p h2 hp hn
    obtain ⟨n, rfl⟩ : ∃ q, n = q + 2 := ⟨n - 2, by omega⟩
    have e1 : F_X7_wrongPairs_29 fu M (n + 1) (nI r) (nI (p + 1)) = (if dP 99 (M.1 87 (40 * r + (p + 1))) = true then F_X7_wrongPairs_29 fu M n (nI r) (nI (p + 2)) else some 3) := by
      rw [F_X7_wrongPairs_29, xr88 hr, clN (by omega), hs, if_neg (nI_ge (by omega) (by omega)), L40, pk_mul, nI_add, xr87 (by omega), show nI (p + 1) - nI (p + 1) / (2 : Int32) * (2 : Int32) = nI ((p + 1) % 2) from nI_rem (d := 2) (by omega) (by decide) (by decide), if_neg (nI_ne0 (by omega) (by omega))]
      unfold F_X7_wrongPairs_67
      rw [in_dec I99 (by decide), ob1_s, nI_1, clN (by omega)]
      show (if bI (dP 99 (M.1 87 (40 * r + (p + 1)))) = 0 then _ else _) = _
      cases dP 99 (M.1 87 (40 * r + (p + 1))) <;> rfl
    have e0 : F_X7_wrongPairs_29 fu M (n + 2) (nI r) (nI p) = (if dP 60 (M.1 87 (40 * r + p)) = true then F_X7_wrongPairs_29 fu M (n + 1) (nI r) (nI (p + 1)) else some 3) := by
      rw [F_X7_wrongPairs_29, xr88 hr, clN (by omega), hs, if_neg (nI_ge (by omega) (by omega)), L40, pk_mul, nI_add, xr87 (by omega), show nI p - nI p / (2 : Int32) * (2 : Int32) = nI (p % 2) from nI_rem (d := 2) (by omega) (by decide) (by decide), h2, if_pos (show nI 0 = 0 from rfl)]
      unfold F_X7_wrongPairs_67
      rw [in_dec I60 (by decide), ob1_s, nI_1, clN (by omega)]
      show (if bI (dP 60 (M.1 87 (40 * r + p))) = 0 then _ else _) = _
      cases dP 60 (M.1 87 (40 * r + p)) <;> rfl
    rw [e0, e1, ih n (p + 2) (by omega) (by omega) (by omega), show okp (fun j => M.1 87 (40 * r + j)) (m + 1) p = ((dP 60 (M.1 87 (40 * r + p)) && dP 99 (M.1 87 (40 * r + (p + 1)))) && okp (fun j => M.1 87 (40 * r + j)) m (p + 2)) from rfl]
    cases dP 60 (M.1 87 (40 * r + p))
    · rfl
    · cases dP 99 (M.1 87 (40 * r + (p + 1)))
      · rfl
      · cases okp (fun j => M.1 87 (40 * r + j)) m (p + 2) <;> rfl
/-- whether all pairs fit -/
def snB (v : NV) (k s : Nat) (f : Nat → Int32) (z : Nat) : Nat → Nat → Bool
  | 0, _ => true
  | m + 1, p => decide (nI (z - melF v k s 0 (f p).toNatClampNeg) = f (p + 1)) && snB v k s f z m (p + 2)
theorem snB_cg {v : NV} {k s z : Nat} {f g : Nat → Int32} : ∀ m p, (∀ j, p ≤ j → j < p + 2 * m → f j = g j) → snB v k s f z m p = snB v k s g z m p := by
  intro m
  induction m with
  | zero => intro p _; rfl
  | succ m ih =>
    intro p h
    unfold snB
    rw [h p (by omega) (by omega), h (p + 1) (by omega) (by omega), ih (p + 2) (fun j h1 h2 => h j (by omega) (by omega))]
theorem asSeen_C2 {fu : Nat} {M : Mm} {v : NV} (hv : okV v) {r N k s z : Nat} (hr : r < 6) (hN : N ≤ 40) (hs : M.1 (1 + r) 1 = nI N) (hz : z ≤ 100) (hm : ∀ j, j < 61 → M.1 81 j = nI (melF v k s 0 j)) : ∀ (m n p : Nat), p + 2 * m = N → m < n → okp (M.1 (1 + r + 6)) m p = true → F_X6_isAsSeen_2 fu M n (1 + r) (nI z) (nI p) = some (bI (snB v k s (M.1 (1 + r + 6)) z m p)) := by
  intro m
  induction m with
  | zero =>
    intro n p hp hn _
    obtain ⟨n, rfl⟩ : ∃ q, n = q + 1 := ⟨n - 1, by omega⟩
    unfold F_X6_isAsSeen_2
    rw [hs, nI_1, if_pos (nI_le (by omega) (by omega))]
    rfl
  | succ m ih =>
    intro n p hp hn hok
    obtain ⟨n, rfl⟩ : ∃ q, n = q + 1 := ⟨n - 1, by omega⟩
    unfold okp at hok
    rw [Bool.and_eq_true, Bool.and_eq_true] at hok
    obtain ⟨⟨k1, k2⟩, k3⟩ := hok
    obtain ⟨d, hd, e⟩ := dP_n k1 (by decide)
    have hml := melF_le hv k s d 0
    unfold F_X6_isAsSeen_2 snB
    rw [hs, nI_1, if_neg (nI_ge (by omega) (by omega)), rdR hr (by omega), ob1_s, rdR hr (by omega), e, rd81 (by omega), ob1_s, hm d (by omega), ob1_s, clN (by omega), nI_subT (by omega) (by omega), L2, nI_add, ih n (p + 2) (by omega) (by omega) k3]
    by_cases hq : nI (z - melF v k s 0 d) = M.1 (1 + r + 6) (p + 1)
    · rw [if_pos hq, decide_eq_true hq, Bool.true_and]
    · rw [if_neg hq, decide_eq_false hq]
      rfl
theorem isSeen_X6 {fu : Nat} (hf : 1000 ≤ fu) {M : Mm} {v : NV} (hv : okV v) (hx : XV v M) {r N k s z : Nat} (hr : r < 6) (hN : N ≤ 40) (hs : M.1 88 r = nI N) (hz : z ≤ 100) (hk : k ≤ 5) (hs9 : s ≤ 9) : ∀ (m n p : Nat), p + 2 * m = N → m + 1 < n → okp (fun j => M.1 87 (40 * r + j)) m p = true → F_X7_isSeen_6 fu M n (nI k) (nI z) (nI s) (nI r) (1 : Int32) (nI p) = some (bI (snB v k s (fun j => M.1 87 (40 * r + j)) z m p)) := by
  intro m
  induction m with
  | zero =>
    intro n p hp hn _
    obtain ⟨n, rfl⟩ : ∃ q, n = q + 1 := ⟨n - 1, by omega⟩
    unfold F_X7_isSeen_6
    rw [xr88 hr, clN (by omega), hs, if_pos (nI_le (by omega) (by omega))]
    rfl
  | succ m ih =>
    intro n p hp hn hok
    obtain ⟨n, rfl⟩ : ∃ q, n = q + 1 := ⟨n - 1, by omega⟩
    unfold okp at hok
    rw [Bool.and_eq_true, Bool.and_eq_true] at hok
    obtain ⟨⟨k1, k2⟩, k3⟩ := hok
    obtain ⟨d, hd, e⟩ := dP_n k1 (by decide)
    have e : M.1 87 (40 * r + p) = nI d := e
    unfold F_X7_isSeen_6 snB
    rw [xr88 hr, clN (by omega), hs, if_neg (nI_ge (by omega) (by omega)), if_neg one_ne, L40, pk_mul, nI_add, xr87 (by omega), clN (by omega), e, bulkAfter_X hf hv hx hk hs9 (by omega) (by omega), ob1_s, L1, nI_add, xr87 (by omega), clN (by omega), clN (by omega), L2, nI_add, show nI 1 = (1 : Int32) from rfl, ih n (p + 2) (by omega) (by omega) k3]
    by_cases hq : nI (z - melF v k s 0 d) = M.1 87 (40 * r + p + 1)
    · rw [if_pos hq, decide_eq_true (show nI (z - melF v k s 0 d) = M.1 87 (40 * r + (p + 1)) from hq), Bool.true_and]
    · rw [if_neg hq, decide_eq_false (show ¬ nI (z - melF v k s 0 d) = M.1 87 (40 * r + (p + 1)) from hq), Bool.false_and]
      obtain ⟨n', rfl⟩ : ∃ q, n = q + 1 := ⟨n - 1, by omega⟩
      unfold F_X7_isSeen_6
      rw [xr88 hr, clN (by omega), hs, if_pos rfl]
      show (if nI N ≤ nI (p + 2) then some 0 else some 0) = some 0
      rw [ite_self]
theorem cnt_s (p : Nat → Bool) (n : Nat) : cnt p (n + 1) = cnt p n + (if p n then 1 else 0) := rfl
theorem srO_last (p : Nat → Bool) : ∀ m d, srO p (m + 1) d = (match srO p m d with | some x => some x | none => if p (d + m) then some (d + m) else none) := by
  intro m
  induction m with
  | zero => intro d; rfl
  | succ m ih =>
    intro d
    rw [srO, ih (d + 1)]
    conv => rhs; rw [srO]
    by_cases h : p d = true
    · rw [if_pos h, if_pos h]
    · rw [if_neg h, if_neg h, show d + 1 + m = d + (m + 1) by omega]
theorem cnt_srO (p : Nat → Bool) : ∀ n, cnt p n = 0 ↔ srO p n 0 = none := by
  intro n
  induction n with
  | zero => exact ⟨fun _ => rfl, fun _ => rfl⟩
  | succ n ih =>
    rw [cnt_s, srO_last, Nat.zero_add]
    by_cases h : p n = true
    · rw [if_pos h, if_pos h]
      constructor
      · intro q; omega
      · intro q
        split at q <;> cases q
    · rw [if_neg h, if_neg h, Nat.add_zero, ih]
      constructor
      · intro q; rw [q]
      · intro q
        split at q
        · cases q
        · next h2 => exact h2
def orO (a l : Option Nat) : Option Nat := match a with | some d => some d | none => l
theorem orO_n (a : Option Nat) : orO a none = a := by cases a <;> rfl
theorem fits_C69 {fu : Nat} {M : Mm} {c : Nat} {p : Nat → Bool} (h : ∀ z, z < 100 → F_X6_isAsSeen fu M c (nI z) = some (bI (p z))) : ∀ (j n a : Nat) (l : Option Nat), j ≤ 100 → j < n → F_X6_fits_69 fu n M c (nI a) (oI l) (nI j - 1) = some (nI (a + cnt p j), tC (oI (orO (srO p j 0) l)) M) := by
  intro j
  induction j with
  | zero =>
    intro n a l hj hn
    obtain ⟨n, rfl⟩ : ∃ q, n = q + 1 := ⟨n - 1, by omega⟩
    unfold F_X6_fits_69
    rw [if_pos (by decide)]
    rfl
  | succ j ih =>
    intro n a l hj hn
    obtain ⟨n, rfl⟩ : ∃ q, n = q + 1 := ⟨n - 1, by omega⟩
    unfold F_X6_fits_69
    rw [nI_pred, if_neg (nI_pos (by omega)), h j (by omega), ob1_s, nI_1, show nI j + (-1) = nI j - 1 by rw [Int32.sub_eq_add_neg], cnt_s, srO_last, Nat.zero_add]
    cases hp : p j
    · rw [if_pos (by decide), ih n a l (by omega) (by omega)]
      cases srO p j 0 <;> rfl
    · have e9 : F_X6_fits_69 fu n M c (nI (a + 1)) (nI j) (nI j - 1) = _ := ih n (a + 1) (some j) (by omega) (by omega)
      rw [if_neg (by decide), e9]
      cases srO p j 0
      · rw [show a + 1 + cnt p j = a + (cnt p j + 1) by omega]; rfl
      · rw [show a + 1 + cnt p j = a + (cnt p j + 1) by omega]; rfl
theorem fits_X45 {fu : Nat} {M : Mm} {i r k s : Nat} {p : Nat → Bool} (hi : i < 6) (h1 : M.1 91 i = nI k) (h2 : M.1 95 i = nI s) (h : ∀ z, z < 100 → F_X7_isSeen fu M (nI k) (nI z) (nI s) (nI r) = some (bI (p z))) : ∀ (m n z : Nat), z + m = 100 → m < n → F_X7_fits_45 fu n M (nI i) (nI r) (nI (cnt p z)) (oI (srO p z 0)) (nI z) = some (nI (cnt p 100), tX (oI (srO p 100 0)) M) := by
  intro m
  induction m with
  | zero =>
    intro n z hz hn
    obtain ⟨n, rfl⟩ : ∃ q, n = q + 1 := ⟨n - 1, by omega⟩
    have : z = 100 := by omega
    subst this
    unfold F_X7_fits_45
    rw [if_pos (by decide)]
    rfl
  | succ m ih =>
    intro n z hz hn
    obtain ⟨n, rfl⟩ : ∃ q, n = q + 1 := ⟨n - 1, by omega⟩
    have ih1 := ih n (z + 1) (by omega) (by omega)
    have hcl := cnt_le p z
    unfold F_X7_fits_45
    rw [L100, if_neg (nI_ge (by omega) (by omega)), xr91 hi, xr95 hi, clN (by omega), h1, h2, h z (by omega), ob1_s, nI_1, nI_1]
    rw [cnt_s, srO_last, Nat.zero_add] at ih1
    cases hp : p z
    · rw [hp] at ih1
      rw [if_pos (by decide)]
      have e : (match srO p z 0 with | some x => some x | none => if false = true then some z else none) = srO p z 0 := by
        cases srO p z 0 <;> rfl
      rw [e] at ih1
      exact ih1
    · rw [hp] at ih1
      rw [if_neg (by decide)]
      by_cases hc : cnt p z = 0
      · rw [(cnt_srO p z).mp hc] at ih1
        rw [if_pos (by rw [hc]; rfl)]
        exact ih1
      · rw [if_neg (by rw [L0, eqN (by omega) (by omega)]; exact hc)]
        cases hs : srO p z 0 with
        | none => exact absurd ((cnt_srO p z).mpr hs) hc
        | some d =>
          rw [hs] at ih1
          exact ih1
theorem sc81 {x j : Nat} (h : x = 81) : scr x j := by subst h; unfold scr sT sR sX sN; omega
/-- the refusals, and what is left: a man, and a row of pairs -/
theorem refus {fu : Nat} (hf : 1000 ≤ fu) {M : Mm} (h : Rel M) {v : NV} (hv : okV v) (hc : CV v M) (hx : XV v M) (x y : Int32) : (∃ M1 M2 : Mm, ∃ e : Int32, e ≠ 0 ∧ F_X6_refusalOfSeen fu M x y = some (e, M1) ∧ Rel M2 ∧ ((M1 = M ∧ M2 = M ∧ e = -1 ∧ ((F_X7_isMan fu M x = some 0) ∨ (F_X7_isMan fu M x = some 1 ∧ F_X7_isRow fu M y = some 0))) ∨ (∃ f : Nat, F_X7_isMan fu M1 x = some 1 ∧ F_X7_isRow fu M1 y = some 1 ∧ F_X7_wrongPairs fu M1 y = some (nI f) ∧ f < 6 ∧ e = -3 ∧ F_X7_finds fu M1 (nI f) = some (-3, M2)))) ∨ ∃ i r n m, i < vMen v ∧ r < 6 ∧ x = nI i ∧ y = nI r ∧ n ≤ 40 ∧ n = 2 * m ∧ M.1 (1 + r) 1 = nI n ∧ M.1 88 r = nI n ∧ (∀ j, j < n → M.1 (1 + r + 6) j = M.1 87 (40 * r + j)) ∧ okp (M.1 (1 + r + 6)) m 0 = true ∧ F_X6_refusalOfSeen fu M x y = some (0, M) ∧ ∀ M1, Lo M M1 → XV v M1 → F_X7_isMan fu M1 x = some 1 ∧ F_X7_isRow fu M1 y = some 1 ∧ F_X7_wrongPairs fu M1 y = some (-9) := by
  have hm := hv.1
  unfold F_X6_refusalOfSeen
  rcases rng3 y (n := 6) (by omega) with hy | ⟨r, hr, rfl⟩
  · refine Or.inl ⟨M, M, -1, by decide, by rw [rowOf_C0 hy]; rfl, h, Or.inl ⟨rfl, rfl, rfl, ?_⟩⟩
    rcases rng3 x (n := vMen v) (by omega) with hi | ⟨i, hi, rfl⟩
    · exact Or.inl (isMan_X0 hv hx hi)
    · exact Or.inr ⟨isMan_X1 hv hx hi, isRow_X0 hy⟩
  · rcases rng3 x (n := vMen v) (by omega) with hi | ⟨i, hi, rfl⟩
    · exact Or.inl ⟨M, M, -1, by decide, by rw [rowOf_C1 hr, ob1_s, op1_s, kd_R hr, if_neg (by decide), isMan_C0 hc hi]; rfl, h, Or.inl ⟨rfl, rfl, rfl, Or.inl (isMan_X0 hv hx hi)⟩⟩
    · have hw : ∀ M1 : Mm, F_X7_wrongPairs fu M1 (nI r) = (if M1.1 88 r = (-9 : Int32) then some (1 : Int32) else if (M1.1 88 r - M1.1 88 r / (2 : Int32) * (2 : Int32)) = (1 : Int32) then some (5 : Int32) else F_X7_wrongPairs_29 fu M1 fu (nI r) (0 : Int32)) := fun M1 => by
        unfold F_X7_wrongPairs
        rw [xr88 hr, xr88 hr, clN (by omega)]
      rcases h.2.1 r hr with ⟨c1, c2⟩ | ⟨c1, n, hn, c2, c3, c4⟩
      · refine Or.inl ⟨fC 1 M, fX 1 (fC 1 M), -3, by decide, ?_, h.f (by decide), Or.inr ⟨1, isMan_X1 hv (hx.lo (fC_lo 1 M)) hi, isRow_X1 hr, ?_, by decide, rfl, finds_X (by decide)⟩⟩
        · rw [rowOf_C1 hr, ob1_s, op1_s, kd_R hr, if_neg (by decide), isMan_C1 hv hc hi, ob1_s, if_neg one_ne, if_pos c1, fnd1_C]
          rfl
        · rw [hw, (fC_lo 1 M 88 r (by decide)).1, if_pos c2]
          rfl
      · have e2 : nI n - nI n / (2 : Int32) * (2 : Int32) = nI (n % 2) := nI_rem (d := 2) (by omega) (by decide) (by decide)
        by_cases h2 : n % 2 = 0
        · obtain ⟨m, rfl⟩ : ∃ m, n = 2 * m := ⟨n / 2, by omega⟩
          have e54 := refus_C54 (fu := fu) hr hn c2 m fu 0 (by omega) (by omega)
          have hokx : okp (fun j => M.1 87 (40 * r + j)) m 0 = okp (M.1 (1 + r + 6)) m 0 := okp_cg m 0 (fun j h1 h2 => (c4 j (by omega)).symm)
          have e0 : F_X6_refusalOfSeen fu M (nI i) (nI r) = (if okp (M.1 (1 + r + 6)) m 0 = true then some ((0 : Int32), M) else some (-3, fC 3 M)) := by
            unfold F_X6_refusalOfSeen
            rw [rowOf_C1 hr, ob1_s, op1_s, kd_R hr, if_neg (by decide), isMan_C1 hv hc hi, ob1_s, if_neg one_ne, c1, if_neg one_ne, c2, e2, h2, if_pos (show nI 0 = 0 from rfl)]
            exact e54
          have w29 : ∀ M1 : Mm, Lo M M1 → F_X7_wrongPairs fu M1 (nI r) = some (if okp (M.1 (1 + r + 6)) m 0 = true then -9 else 3) := fun M1 lo => by
            have q := wrong_X29 (fu := fu) (M := M1) hr hn ((lo 88 r (by decide)).1.trans c3) m fu 0 (by decide) (by omega) (by omega)
            rw [show (fun j => M1.1 87 (40 * r + j)) = (fun j => M.1 87 (40 * r + j)) from funext fun j => (lo 87 _ (by decide)).1, hokx] at q
            rw [hw, (lo 88 r (by decide)).1, c3, if_neg (no9 (by omega)), e2, h2, if_neg (by decide)]
            exact q
          unfold F_X6_refusalOfSeen at e0
          rw [e0]
          cases hok : okp (M.1 (1 + r + 6)) m 0
          · refine Or.inl ⟨fC 3 M, fX 3 (fC 3 M), -3, by decide, rfl, h.f (by decide), Or.inr ⟨3, isMan_X1 hv (hx.lo (fC_lo 3 M)) hi, isRow_X1 hr, ?_, by decide, rfl, finds_X (by decide)⟩⟩
            rw [w29 _ (fC_lo 3 M), hok]
            rfl
          · refine Or.inr ⟨i, r, 2 * m, m, hi, hr, rfl, rfl, hn, rfl, c2, c3, c4, hok, rfl, fun M1 lo hx1 => ⟨isMan_X1 hv hx1 hi, isRow_X1 hr, ?_⟩⟩
            rw [w29 M1 lo, hok]
            rfl
        · refine Or.inl ⟨fC 5 M, fX 5 (fC 5 M), -3, by decide, ?_, h.f (by decide), Or.inr ⟨5, isMan_X1 hv (hx.lo (fC_lo 5 M)) hi, isRow_X1 hr, ?_, by decide, rfl, finds_X (by decide)⟩⟩
          · rw [rowOf_C1 hr, ob1_s, op1_s, kd_R hr, if_neg (by decide), isMan_C1 hv hc hi, ob1_s, if_neg one_ne, c1, if_neg one_ne, c2, e2, if_neg (nI_ne0 (by omega) (by omega)), fnd5_C]
            rfl
          · rw [hw, (fC_lo 5 M 88 r (by decide)).1, c3, if_neg (no9 (by omega)), e2, show n % 2 = 1 by omega, if_pos (show nI 1 = 1 from rfl)]
            rfl
