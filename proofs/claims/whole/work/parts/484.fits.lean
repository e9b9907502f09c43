/-! fits, kinds, rights; counted -/
theorem fits_bad {fu : Nat} {M1 M2 : Mm} {x y e : Int32} {f : Nat} (h1 : F_X7_isMan fu M1 x = some 1) (h2 : F_X7_isRow fu M1 y = some 1) (h3 : F_X7_wrongPairs fu M1 y = some (nI f)) (hf : f < 6) (h4 : F_X7_finds fu M1 (nI f) = some (-3, M2)) : F_X7_fits fu M1 x y = some (-3, M2) ∧ F_X7_kinds fu M1 x y = some (-3, M2) := by
  constructor
  · unfold F_X7_fits
    rw [h1, ob1_s, if_neg one_ne, h2, ob1_s, if_neg one_ne, h3, ob1_s, if_neg (neg9' (by omega)), h4]
    rfl
  · unfold F_X7_kinds
    rw [h1, ob1_s, if_neg one_ne, h2, ob1_s, if_neg one_ne, h3, ob1_s, if_neg (neg9' (by omega)), h4]
    rfl
theorem fits_e {fu : Nat} {M M1 : Mm} {x y e : Int32} (h : F_X6_refusalOfSeen fu M x y = some (e, M1)) (he : e ≠ 0) : F_X6_fits fu M x y = some (e, M1) ∧ F_X6_kinds fu M x y = some (e, M1) := by
  constructor
  · unfold F_X6_fits
    rw [h, ob2_s, if_neg he]
    rcases rng3 y (n := 6) (by omega) with hy | ⟨r, hr, rfl⟩
    · rw [rowOf_C0 hy]; rfl
    · rw [rowOf_C1 hr, ob1_s, op1_s, kd_R hr, if_neg (by decide), if_neg he]
  · unfold F_X6_kinds
    rw [h, ob2_s, if_neg he]
    rcases rng3 y (n := 6) (by omega) with hy | ⟨r, hr, rfl⟩
    · rw [rowOf_C0 hy]; rfl
    · rw [rowOf_C1 hr, ob1_s, op1_s, kd_R hr, if_neg (by decide), if_neg he]
theorem call_fits {fu : Nat} (hf : 1000 ≤ fu) {M : Mm} (h : Rel M) (x y : Int32) : Two2 (F_X6_fits fu M x y) (fun M1 => F_X7_fits fu M1 x y) := by
  obtain ⟨v, hv, hc, hx⟩ := h.v
  have hm := hv.1
  rcases refus hf h hv hc hx x y with ⟨M1, M2, e, he, e1, hR, q⟩ | ⟨i, r, n, m, hi, hr, rfl, rfl, hn, hn2, c2, c3, c4, hok, e0, hw⟩
  · have hC := (fits_e e1 he).1
    rcases q with ⟨rfl, rfl, rfl, q⟩ | ⟨f, q1, q2, q3, q4, rfl, q5⟩
    · refine ⟨-1, _, _, hC, ?_, h⟩
      dsimp only
      unfold F_X7_fits
      rcases q with q | ⟨q, q'⟩
      · rw [q]; rfl
      · rw [q, ob1_s, if_neg one_ne, q']; rfl
    · exact ⟨-3, M1, M2, hC, (fits_bad (e := 0) q1 q2 q3 q4 q5).1, hR⟩
  · obtain ⟨g1, g2, g3, g4⟩ := hv.2.2.2.2.2 i hi
    obtain ⟨k1, k2, k3, k4⟩ := hc.2.2.2.2 i hi
    obtain ⟨M15, a1, a2, a3⟩ := foreseeMelted_C hf hv hc g1 g4
    have o := fr_X2_foreseeMelted a3
    have o' : Out (fun x _ => x = 81) M M15 := o
    have hR := h.out o' fun x j q => sc81 q
    have lo15 : Lo M M15 := Lo.of o' fun x j q => by omega
    have hs15 : M15.1 (1 + r) 1 = nI n := by rw [(o' _ _ (by omega)).1]; exact c2
    have cells : M15.1 (1 + r + 6) = M.1 (1 + r + 6) := o'.f fun j q => by omega
    have hsee : ∀ z, z < 100 → F_X6_isAsSeen fu M15 (1 + r) (nI z) = some (bI (snB v (vKind v i) (vShade v i) (M.1 (1 + r + 6)) z m 0)) := fun z hz => by
      have q := asSeen_C2 (fu := fu) hv (k := vKind v i) (s := vShade v i) (z := z) hr hn hs15 (by omega) a2 m fu 0 (by omega) (by omega) (by rw [cells]; exact hok)
      rw [cells] at q
      exact q
    have hfc := fits_C69 hsee 100 fu 0 none (Nat.le_refl _) (by omega)
    rw [orO_n, Nat.zero_add] at hfc
    have hR2 := hR.t (oI (srO (fun z => snB v (vKind v i) (vShade v i) (M.1 (1 + r + 6)) z m 0) 100 0))
    refine ⟨nI (cnt (fun z => snB v (vKind v i) (vShade v i) (M.1 (1 + r + 6)) z m 0) 100), tC (oI (srO (fun z => snB v (vKind v i) (vShade v i) (M.1 (1 + r + 6)) z m 0) 100 0)) M15, _, ?_, ?_, hR2⟩
    · unfold F_X6_fits
      rw [e0, ob2_s, rowOf_C1 hr, ob1_s, op1_s, kd_R hr, if_neg (by decide), if_pos rfl, rd26 (by omega), ob1_s, rd29 (by omega), ob1_s, k1, k4, a3, ob1_s]
      exact hfc
    · dsimp only
      have lo2 : Lo M (tC (oI (srO (fun z => snB v (vKind v i) (vShade v i) (M.1 (1 + r + 6)) z m 0) 100 0)) M15) := fun x j hx => by
        have p1 := lo15 x j hx
        have p2 := tC_lo (oI (srO (fun z => snB v (vKind v i) (vShade v i) (M.1 (1 + r + 6)) z m 0) 100 0)) M15 x j hx
        exact ⟨p2.1.trans p1.1, p2.2.trans p1.2⟩
      have hx2 := hx.lo lo2
      obtain ⟨w1, w2, w3⟩ := hw _ lo2 hx2
      obtain ⟨d1, d2, d3, d4⟩ := hx2.2.2.2.2 i hi
      have hseX : ∀ z, z < 100 → F_X7_isSeen fu (tC (oI (srO (fun z => snB v (vKind v i) (vShade v i) (M.1 (1 + r + 6)) z m 0) 100 0)) M15) (nI (vKind v i)) (nI z) (nI (vShade v i)) (nI r) = some (bI (snB v (vKind v i) (vShade v i) (M.1 (1 + r + 6)) z m 0)) := fun z hz => by
        have ec : ∀ j, 0 ≤ j → j < 0 + 2 * m → (fun j => (tC (oI (srO (fun z => snB v (vKind v i) (vShade v i) (M.1 (1 + r + 6)) z m 0) 100 0)) M15).1 87 (40 * r + j)) j = M.1 (1 + r + 6) j := fun j _ hj => by
          dsimp only
          rw [(lo2 87 _ (by decide)).1, c4 j (by omega)]
        have q := isSeen_X6 hf hv hx2 (k := vKind v i) (s := vShade v i) (z := z) hr hn ((lo2 88 r (by decide)).1.trans c3) (by omega) g1 g4 m fu 0 (by omega) (by omega) (by rw [okp_cg m 0 ec]; exact hok)
        rw [snB_cg m 0 ec] at q
        exact q
      unfold F_X7_fits
      rw [w1, ob1_s, if_neg one_ne, w2, ob1_s, if_neg one_ne, w3, ob1_s, if_pos rfl]
      exact fits_X45 (show i < 6 by omega) d1 d4 hseX 100 fu 0 (by omega) (by omega)
theorem kinds_C31 {fu : Nat} (hf : 1000 ≤ fu) {v : NV} (hv : okV v) {i r n m : Nat} (hi : i < vMen v) (hr : r < 6) (hn : n ≤ 40) (hn2 : n = 2 * m) {g : Nat → Int32} (hok : okp g m 0 = true) : ∀ (q fn : Nat) (M : Mm) (k : Nat), k + q = 6 → q < fn → CV v M → M.1 (1 + r) 1 = nI n → (∀ j, M.1 (1 + r + 6) j = g j) → ∃ M', F_X6_kinds_31 fu fn M (nI i) (1 + r) (nI (bset (fun kd => snB v kd (vShade v i) g (vBulk v i) m 0) k)) (nI k) = some (nI (bset (fun kd => snB v kd (vShade v i) g (vBulk v i) m 0) 6), M') ∧ Out (fun x _ => x = 81) M M' := by
  intro q
  have hm := hv.1
  obtain ⟨g1, g2, g3, g4⟩ := hv.2.2.2.2.2 i hi
  induction q with
  | zero =>
    intro fn M k hk hfn hc hs hg
    obtain ⟨fn, rfl⟩ : ∃ q, fn = q + 1 := ⟨fn - 1, by omega⟩
    refine ⟨M, ?_, Out.rf⟩
    unfold F_X6_kinds_31
    rw [L6, if_pos (nI_le (by omega) (by omega)), show k = 6 by omega]
  | succ q ih =>
    intro fn M k hk hfn hc hs hg
    obtain ⟨fn, rfl⟩ : ∃ q, fn = q + 1 := ⟨fn - 1, by omega⟩
    obtain ⟨k1, k2, k3, k4⟩ := hc.2.2.2.2 i hi
    obtain ⟨M15, a1, a2, a3⟩ := foreseeMelted_C hf hv hc (show k ≤ 5 by omega) g4
    have o' : Out (fun x _ => x = 81) M M15 := fr_X2_foreseeMelted a3
    have hs15 : M15.1 (1 + r) 1 = nI n := by rw [(o' _ _ (by omega)).1]; exact hs
    have hg15 : ∀ j, M15.1 (1 + r + 6) j = g j := fun j => by rw [(o' _ _ (by omega)).1]; exact hg j
    have cells : M15.1 (1 + r + 6) = g := funext hg15
    have hset := bset_lt (fun kd => snB v kd (vShade v i) g (vBulk v i) m 0) k
    obtain ⟨M', b1, b2⟩ := ih fn M15 (k + 1) (by omega) (by omega) a1 hs15 hg15
    have qq := asSeen_C2 (fu := fu) hv (k := k) (s := vShade v i) (z := vBulk v i) hr hn hs15 (by omega) a2 m fu 0 (by omega) (by omega) (by rw [cells]; exact hok)
    rw [cells] at qq
    refine ⟨M', ?_, o'.trans b2⟩
    unfold F_X6_kinds_31 F_X6_isAsSeen
    rw [L6, if_neg (nI_ge (by omega) (by omega)), rd29 (by omega), ob1_s, k4, a3, ob1_s, rd28 (by omega), ob1_s, (a1.2.2.2.2 i hi).2.2.1, L0, qq, ob1_s, nI_1]
    cases hb : snB v k (vShade v i) g (vBulk v i) m 0
    · rw [if_pos (show bI false = nI 0 from rfl)]
      have e : bset (fun kd => snB v kd (vShade v i) g (vBulk v i) m 0) (k + 1) = bset (fun kd => snB v kd (vShade v i) g (vBulk v i) m 0) k := by
        show bset _ k + (if snB v k (vShade v i) g (vBulk v i) m 0 = true then 2 ^ k else 0) = _
        rw [hb, if_neg (by decide), Nat.add_zero]
      rw [e] at b1
      exact b1
    · rw [if_neg (show ¬ bI true = nI 0 by decide), or_bit k (by omega) _ hset]
      have e : bset (fun kd => snB v kd (vShade v i) g (vBulk v i) m 0) (k + 1) = bset (fun kd => snB v kd (vShade v i) g (vBulk v i) m 0) k + 2 ^ k := by
        show bset _ k + (if snB v k (vShade v i) g (vBulk v i) m 0 = true then 2 ^ k else 0) = _
        rw [hb, if_pos rfl]
      rw [e] at b1
      exact b1
theorem kinds_X41 {fu : Nat} {M : Mm} {v : NV} {i r m : Nat} (hi : i < 6) {s z : Nat} (h1 : M.1 94 i = nI z) (h2 : M.1 95 i = nI s) {g : Nat → Int32} (h : ∀ k, k < 6 → F_X7_isSeen fu M (nI k) (nI z) (nI s) (nI r) = some (bI (snB v k s g z m 0))) : ∀ (q fn k : Nat), k + q = 6 → q < fn → F_X7_kinds_41 fu fn M (nI i) (nI r) (nI (bset (fun kd => snB v kd s g z m 0) k)) (nI k) = some (nI (bset (fun kd => snB v kd s g z m 0) 6), M) := by
  intro q
  induction q with
  | zero =>
    intro fn k hk hfn
    obtain ⟨fn, rfl⟩ : ∃ q, fn = q + 1 := ⟨fn - 1, by omega⟩
    unfold F_X7_kinds_41
    rw [L5, if_pos (nI_lt (by omega) (by omega)), show k = 6 by omega]
  | succ q ih =>
    intro fn k hk hfn
    obtain ⟨fn, rfl⟩ : ∃ q, fn = q + 1 := ⟨fn - 1, by omega⟩
    have hset := bset_lt (fun kd => snB v kd s g z m 0) k
    have b1 := ih fn (k + 1) (by omega) (by omega)
    unfold F_X7_kinds_41
    rw [L5, if_neg (nI_nlt (by omega) (by omega)), xr94 hi, xr95 hi, clN (by omega), h1, h2, h k (by omega), ob1_s, nI_1]
    cases hb : snB v k s g z m 0
    · rw [if_pos (show bI false = 0 from rfl), or_0]
      have e : bset (fun kd => snB v kd s g z m 0) (k + 1) = bset (fun kd => snB v kd s g z m 0) k := by
        show bset _ k + (if snB v k s g z m 0 = true then 2 ^ k else 0) = _
        rw [hb, if_neg (by decide), Nat.add_zero]
      rw [e] at b1
      exact b1
    · rw [if_neg (show ¬ bI true = 0 by decide), or_bit k (by omega) _ hset]
      have e : bset (fun kd => snB v kd s g z m 0) (k + 1) = bset (fun kd => snB v kd s g z m 0) k + 2 ^ k := by
        show bset _ k + (if snB v k s g z m 0 = true then 2 ^ k else 0) = _
        rw [hb, if_pos rfl]
      rw [e] at b1
      exact b1
theorem call_kinds {fu : Nat} (hf : 1000 ≤ fu) {M : Mm} (h : Rel M) (x y : Int32) : Two2 (F_X6_kinds fu M x y) (fun M1 => F_X7_kinds fu M1 x y) := by
  obtain ⟨v, hv, hc, hx⟩ := h.v
  have hm := hv.1
  rcases refus hf h hv hc hx x y with ⟨M1, M2, e, he, e1, hR, q⟩ | ⟨i, r, n, m, hi, hr, rfl, rfl, hn, hn2, c2, c3, c4, hok, e0, hw⟩
  · have hC := (fits_e e1 he).2
    rcases q with ⟨rfl, rfl, rfl, q⟩ | ⟨f, q1, q2, q3, q4, rfl, q5⟩
    · refine ⟨-1, _, _, hC, ?_, h⟩
      dsimp only
      unfold F_X7_kinds
      rcases q with q | ⟨q, q'⟩
      · rw [q]; rfl
      · rw [q, ob1_s, if_neg one_ne, q']; rfl
    · exact ⟨-3, M1, M2, hC, (fits_bad (e := 0) q1 q2 q3 q4 q5).2, hR⟩
  · obtain ⟨g1, g2, g3, g4⟩ := hv.2.2.2.2.2 i hi
    obtain ⟨M1, a1, a2⟩ := kinds_C31 hf hv hi hr hn hn2 (g := M.1 (1 + r + 6)) hok 6 fu M 0 (by omega) (by omega) hc c2 (fun j => rfl)
    have lo : Lo M M1 := Lo.of a2 fun x j q => by omega
    have hx1 := hx.lo lo
    obtain ⟨w1, w2, w3⟩ := hw _ lo hx1
    obtain ⟨d1, d2, d3, d4⟩ := hx1.2.2.2.2 i hi
    refine ⟨nI (bset (fun kd => snB v kd (vShade v i) (M.1 (1 + r + 6)) (vBulk v i) m 0) 6), M1, M1, ?_, ?_, h.out a2 fun x j q => sc81 q⟩
    · unfold F_X6_kinds
      rw [e0, ob2_s, rowOf_C1 hr, ob1_s, op1_s, kd_R hr, if_neg (by decide), if_pos rfl]
      exact a1
    · dsimp only
      have hseX : ∀ k, k < 6 → F_X7_isSeen fu M1 (nI k) (nI (vBulk v i)) (nI (vShade v i)) (nI r) = some (bI (snB v k (vShade v i) (M.1 (1 + r + 6)) (vBulk v i) m 0)) := fun k hk => by
        have ec : ∀ j, 0 ≤ j → j < 0 + 2 * m → (fun j => M1.1 87 (40 * r + j)) j = M.1 (1 + r + 6) j := fun j _ hj => by
          dsimp only
          rw [(lo 87 _ (by decide)).1, c4 j (by omega)]
        have q := isSeen_X6 hf hv hx1 (k := k) (s := vShade v i) (z := vBulk v i) hr hn ((lo 88 r (by decide)).1.trans c3) (by omega) (by omega) g4 m fu 0 (by omega) (by omega) (by rw [okp_cg m 0 ec]; exact hok)
        rw [snB_cg m 0 ec] at q
        exact q
      unfold F_X7_kinds
      rw [w1, ob1_s, if_neg one_ne, w2, ob1_s, if_neg one_ne, w3, ob1_s, if_pos rfl]
      exact kinds_X41 (show i < 6 by omega) d3 d4 hseX 6 fu 0 (by omega) (by omega)
def rgF (v : NV) (s : Nat) : Nat → Bool := fun w => decide (1 ≤ w ∧ whoN v w 0 = s)
theorem rg_s {v : NV} {s w : Nat} (h : 1 ≤ w) : bset (rgF v s) (w + 1) = bset (rgF v s) w + (if whoN v w 0 = s then 2 ^ w else 0) := by
  show bset (rgF v s) w + (if rgF v s w = true then 2 ^ w else 0) = _
  by_cases hq : whoN v w 0 = s
  · rw [if_pos hq, if_pos (show rgF v s w = true from decide_eq_true ⟨h, hq⟩)]
  · rw [if_neg hq, if_neg (show ¬ rgF v s w = true from fun z => hq (of_decide_eq_true z).2)]
theorem rights_C17 {fu : Nat} (hf : 1000 ≤ fu) {M : Mm} {v : NV} (hv : okV v) (hc : CV v M) {s : Nat} (hs : s < 64) : ∀ (m n w : Nat), w + m = 10 → m < n → 1 ≤ w → F_X6_rights_17 fu M n (nI s) (nI (bset (rgF v s) w)) (nI w) = some (nI (bset (rgF v s) 10)) := by
  intro m
  induction m with
  | zero =>
    intro n w hw hn h1
    obtain ⟨n, rfl⟩ : ∃ q, n = q + 1 := ⟨n - 1, by omega⟩
    unfold F_X6_rights_17
    rw [L9, if_pos (nI_lt (by omega) (by omega)), show w = 10 by omega]
  | succ m ih =>
    intro n w hw hn h1
    obtain ⟨n, rfl⟩ : ∃ q, n = q + 1 := ⟨n - 1, by omega⟩
    have hset := bset_lt (rgF v s) w
    have hwl := whoN_lt hv w 0
    have b1 := ih n (w + 1) (by omega) (by omega) (by omega)
    unfold F_X6_rights_17
    rw [L9, if_neg (nI_nlt (by omega) (by omega)), votersBy_C hf hv hc h1 (by omega), ob1_s, nI_1]
    rw [rg_s h1] at b1
    by_cases hq : whoN v w 0 = s
    · rw [if_pos hq] at b1
      rw [if_pos (by rw [hq]), or_bit w (by omega) _ hset]
      exact b1
    · rw [if_neg hq, Nat.add_zero] at b1
      rw [if_neg (by rw [eqN (by omega) (by omega)]; exact hq)]
      exact b1
theorem rights_X20 {fu : Nat} (hf : 1000 ≤ fu) {v : NV} (hv : okV v) {s : Nat} (hs : s < 64) : ∀ (m n : Nat) (M : Mm) (w : Nat), w + m = 10 → m < n → 1 ≤ w → (∀ r, XV (wr r v) (pI M 86 10 (nI r))) → F_X7_rights_20 fu n M (nI s) (nI (bset (rgF v s) w)) (nI (vRight v)) (nI w) = some (nI (bset (rgF v s) 10), pI M 86 10 (nI (vRight v))) := by
  intro m
  induction m with
  | zero =>
    intro n M w hw hn h1 h
    obtain ⟨n, rfl⟩ : ∃ q, n = q + 1 := ⟨n - 1, by omega⟩
    unfold F_X7_rights_20
    rw [L10, if_pos (nI_le (by omega) (by omega)), show w = 10 by omega]
    rfl
  | succ m ih =>
    intro n M w hw hn h1 h
    obtain ⟨n, rfl⟩ : ∃ q, n = q + 1 := ⟨n - 1, by omega⟩
    have hset := bset_lt (rgF v s) w
    have hwl := whoN_lt hv w 0
    have hvw : okV (wr w v) := ⟨hv.1, fun _ => h1, by show w ≤ 9; omega, hv.2.2.2.1, hv.2.2.2.2.1, hv.2.2.2.2.2⟩
    have e2 : ∀ r, pI (pI M 86 10 (nI w)) 86 10 (nI r) = pI M 86 10 (nI r) := fun r => by
      unfold pI
      refine Prod.ext (funext fun a => ?_) rfl
      by_cases ha : a = 86
      · subst ha
        simp only [if_pos]
        funext j
        unfold upd
        split <;> rfl
      · simp only [if_neg ha]
    have b1 := ih n (pI M 86 10 (nI w)) (w + 1) (by omega) (by omega) (by omega) (fun r => by rw [e2]; exact h r)
    rw [e2] at b1
    have hwt := whoThen_X hf hvw (h w) (N := 0) (by omega)
    have ewho : whoN (wr w v) (vRight (wr w v)) 0 = whoN v w 0 := rfl
    unfold F_X7_rights_20
    rw [L10, if_neg (nI_ge (by omega) (by omega)), lt1_s, L0, hwt, ob1_s, ewho, nI_1, or_z]
    rw [rg_s h1] at b1
    by_cases hq : whoN v w 0 = s
    · rw [if_pos hq] at b1
      rw [if_pos (by rw [hq]), or_bit w (by omega) _ hset]
      exact b1
    · rw [if_neg hq, Nat.add_zero] at b1
      rw [if_neg (by rw [eqN (by omega) (by omega)]; exact hq)]
      exact b1
theorem call_rights {fu : Nat} (hf : 1000 ≤ fu) {M : Mm} (h : Rel M) (x : Int32) : TwoR (F_X6_rights fu M x) (F_X7_rights fu M x) := by
  obtain ⟨v, hv, hc, hx⟩ := h.v
  have h64 := p2le hv
  unfold F_X6_rights F_X7_rights
  rcases rng3 x (n := 2 ^ vMen v) (by omega) with hi | ⟨s, hs, rfl⟩
  · exact ⟨-1, M, by rw [isSet_C0 hv hc hi]; rfl, by rw [areMen_X0 hv hx hi]; rfl, h⟩
  · have hXr : ∀ r, XV (wr r v) (pI M 86 10 (nI r)) := fun r => by
      obtain ⟨a, b, c, d, e⟩ := hx
      exact ⟨by rw [pI_n (by omega)]; exact a, by rw [pI_s]; rfl, by rw [pI_n (by omega)]; exact c, fun j hj => by rw [pI_n (by omega)]; exact d j hj, fun j hj => ⟨by rw [pI_n (by omega)]; exact (e j hj).1, by rw [pI_n (by omega)]; exact (e j hj).2.1, by rw [pI_n (by omega)]; exact (e j hj).2.2.1, by rw [pI_n (by omega)]; exact (e j hj).2.2.2⟩⟩
    have e1 := rights_C17 hf hv hc (show s < 64 by omega) 9 fu 1 (by omega) (by omega) (by omega)
    have e2 := rights_X20 hf hv (show s < 64 by omega) 9 fu M 1 (by omega) (by omega) (by omega) hXr
    have e0 : bset (rgF v s) 1 = 0 := by
      show 0 + (if rgF v s 0 = true then 2 ^ 0 else 0) = 0
      rw [if_neg (show ¬ rgF v s 0 = true from fun z => absurd (of_decide_eq_true z).1 (by omega))]
    rw [e0] at e1 e2
    have eM : pI M 86 10 (nI (vRight v)) = M := by
      rw [← hx.2.1]
      exact pI_self
    rw [eM] at e2
    refine ⟨_, M, by rw [isSet_C1 hv hc hs, ob1_s, if_neg one_ne]; exact e1, ?_, h⟩
    rw [areMen_X1 hv hx hs, ob1_s, if_neg one_ne, hx.2.1]
    exact e2
