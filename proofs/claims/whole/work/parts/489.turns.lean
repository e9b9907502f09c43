/-! by turns: the reference -/
def shV (v : NV) (sh : Nat → Nat) : NV := (vMen v, vRight v, vDay v, vSun v, vKind v, vVote v, vBulk v, sh)
theorem shV_ok {v : NV} (hv : okV v) {sh : Nat → Nat} (ho : okS v sh) : okV (shV v sh) := ⟨hv.1, hv.2.1, hv.2.2.1, hv.2.2.2.1, hv.2.2.2.2.1, fun i hi => ⟨(hv.2.2.2.2.2 i hi).1, (hv.2.2.2.2.2 i hi).2.1, (hv.2.2.2.2.2 i hi).2.2.1, ho i hi⟩⟩
theorem v1_sh (v : NV) (sh : Nat → Nat) (s : Nat) : ∀ i, v1 (shV v sh) s i = v1 v s i := by
  intro i
  induction i with
  | zero => rfl
  | succ i ih =>
    rw [v1, v1, ih]
    rfl
theorem carr_sh (v : NV) (sh : Nat → Nat) (s : Nat) : carr (shV v sh) s = carr v s := by
  unfold carr onesN
  rw [show onesF (shV v sh) s = onesF v s from funext fun i => by unfold onesF; rw [v1_sh]]
  rfl
theorem melF_sh (v : NV) (sh : Nat → Nat) (k s : Nat) : ∀ m d, melF (shV v sh) k s d m = melF v k s d m := by
  intro m
  induction m with
  | zero => intro d; rfl
  | succ m ih =>
    intro d
    rw [melF, melF, ih]
    rfl
theorem who_sh (v : NV) (sh : Nat → Nat) : whoN (shV v sh) (vRight (shV v sh)) 3 = gv v sh := by
  unfold whoN gv
  refine bset_cg _ fun i _ => ?_
  unfold whoF rgtP
  rw [melF_sh]
  rfl
theorem carriedThen_X {fu : Nat} (hf : 1000 ≤ fu) {M : Mm} {v : NV} (hv : okV v) {sh : Nat → Nat} (ho : okS v sh) (hx : XV (shV v sh) M) : F_X7_isCarriedThen fu M = some (bI (Wn v 0 sh)) := by
  unfold F_X7_isCarriedThen
  rw [L3, whoThen_X hf (shV_ok hv ho) hx (by omega), ob1_s, who_sh, isCarried_X hf (shV_ok hv ho) hx (s := gv v sh) (bset_lt _ _), ob1_s, carr_sh]
  exact if_neg (bI_01 _)
def stG (c : Nat) : Int32 := if c % 2 = 0 then 1 else -1
theorem pI_bk {M : Mm} {i : Nat} {a : Int32} : pI (pI M 95 i a) 95 i (M.1 95 i) = M := by
  unfold pI
  refine Prod.ext (funext fun c => ?_) rfl
  by_cases h5 : c = 95
  · subst h5
    simp only [if_pos]
    funext k
    unfold upd
    split
    · next h => rw [h]
    · rfl
  · simp only [if_neg h5]
theorem move_X {fu : Nat} {M : Mm} {v : NV} (hv : okV v) {sh : Nat → Nat} (ho : okS v sh) (hx : XV (shV v sh) M) {c : Nat} (hc : c < 2 * vMen v) : (mv sh c = none ∧ F_X7_in fu M ((M.1 95 (c / 2)) + stG c).toInt64 (0 : Int64) (9 : Int64) = some 0) ∨ ∃ sh', mv sh c = some sh' ∧ okS v sh' ∧ F_X7_in fu M ((M.1 95 (c / 2)) + stG c).toInt64 (0 : Int64) (9 : Int64) = some 1 ∧ XV (shV v sh') (pI M 95 (c / 2) ((M.1 95 (c / 2)) + stG c)) := by
  have hm := hv.1
  have hi : c / 2 < vMen v := by omega
  have hs := ho (c / 2) hi
  have h95 : M.1 95 (c / 2) = nI (sh (c / 2)) := (hx.2.2.2.2 _ hi).2.2.2
  have key : ∀ x, x ≤ 9 → okS v (setf sh (c / 2) x) ∧ XV (shV v (setf sh (c / 2) x)) (pI M 95 (c / 2) (nI x)) := by
    intro x hx9
    refine ⟨fun j hj => ?_, ?_⟩
    · unfold setf
      split
      · exact hx9
      · exact ho j hj
    · obtain ⟨a, b, d, e, f⟩ := hx
      refine ⟨a, b, d, e, fun j hj => ⟨(f j hj).1, (f j hj).2.1, (f j hj).2.2.1, ?_⟩⟩
      show (pI M 95 (c / 2) (nI x)).1 95 j = nI (setf sh (c / 2) x j)
      by_cases hji : j = c / 2
      · rw [hji, pI_s, setf_s]
      · rw [pI_n (Or.inr hji), setf_n hji]
        exact (f j hj).2.2.2
  unfold mv stG
  rw [h95]
  by_cases h2 : c % 2 = 0
  · rw [if_pos h2, if_pos h2, nI_1]
    by_cases h9 : sh (c / 2) + 1 ≤ 9
    · rw [if_pos h9]
      exact Or.inr ⟨_, rfl, (key _ h9).1, in_ok (k := 0) (n := 9) (by omega) (by omega) I0 I9 (by decide), (key _ h9).2⟩
    · rw [if_neg h9]
      exact Or.inl ⟨rfl, in_no (n := 9) (Or.inr (nI_le (by omega) (by omega))) I9 (by decide)⟩
  · rw [if_neg h2, if_neg h2]
    by_cases h1 : 1 ≤ sh (c / 2)
    · rw [if_pos h1]
      obtain ⟨k, hk⟩ : ∃ k, sh (c / 2) = k + 1 := ⟨sh (c / 2) - 1, by omega⟩
      rw [hk, pk_m1]
      exact Or.inr ⟨_, rfl, (key k (by omega)).1, in_ok (k := 0) (n := 9) (by omega) (by omega) I0 I9 (by decide), (key k (by omega)).2⟩
    · rw [if_neg h1, show sh (c / 2) = 0 by omega]
      exact Or.inl ⟨rfl, in_no (n := 9) (Or.inl (by decide)) I9 (by decide)⟩
theorem xq95 {α : Type} {i : Nat} {a : Option α} (h : i < 6) : (if nI i < 0 ∨ ln 95 ≤ i then none else a) = a := if_neg fun q => q.elim (fun q => absurd q (nI_pos (by omega))) fun q => by have : ln 95 = 6 := rfl; omega
theorem b01 {α : Type} (b : Bool) {x : Option α} : (if ¬ (bI b = 0 ∨ bI b = 1) then none else x) = x := if_neg (bI_01 b)
theorem otherLast_X29 {fu : Nat} (hf : 1000 ≤ fu) {M : Mm} {v : NV} (hv : okV v) {sh : Nat → Nat} (ho : okS v sh) (hx : XV (shV v sh) M) {c : Nat} (hc : c < 2 * vMen v) (k4 : Mm → Int32 → Int32 → Option (Int32 × Mm)) {x1 : Int32} : F_X7_otherLast_29 fu k4 M x1 (nI c) (stG c) = (match mv sh c with | none => k4 M x1 (nI (c + 1)) | some sh' => k4 M (bI (Wn v 0 sh')) (nI (c + 1))) := by
  have hm := hv.1
  have ed : nI c / (2 : Int32) = nI (c / 2) := pk_div (d := 2) (by omega) (by decide) (by decide)
  unfold F_X7_otherLast_29
  rw [ed, xr95 (by omega), xr95 (by omega), xr95 (by omega), clN (by omega), nI_1]
  rcases move_X (fu := fu) hv ho hx hc with ⟨e1, e2⟩ | ⟨sh', e1, e2, e3, e4⟩
  · rw [e1, e2, ob1_s, if_pos rfl]
  · rw [e1, e3, ob1_s, if_neg one_ne, lt1_s, carriedThen_X hf hv e2 e4, ob1_s, xq95 (by omega), xq95 (by omega), lt1_s, pI_s, Int32.add_sub_cancel, pI_bk]
theorem otherLast_X4w {fu : Nat} {M : Mm} {v : NV} (h86 : M.1 86 4 = nI (vMen v)) {x0 : Int32} : ∀ (n c : Nat), 0 < n → F_X7_otherLast_4 fu n M (bI false) (nI c) = some (bI false, M) := by
  intro n c hn
  obtain ⟨n, rfl⟩ : ∃ q, n = q + 1 := ⟨n - 1, by omega⟩
  unfold F_X7_otherLast_4
  rw [b01]
  by_cases h : (2 : Int32) * (M.1 86 4) ≤ nI c
  · rw [if_pos h]
  · rw [if_neg h]
    rfl
theorem otherLast_X4 {fu : Nat} (hf : 1000 ≤ fu) {M : Mm} {v : NV} (hv : okV v) {sh : Nat → Nat} (ho : okS v sh) (hx : XV (shV v sh) M) : ∀ (m n c : Nat), c + m = 2 * vMen v → m + 1 < n → F_X7_otherLast_4 fu n M (bI true) (nI c) = some (bI (lp (Wn v 0) sh false m c), M) := by
  intro m
  have hm := hv.1
  have h86 : M.1 86 4 = nI (vMen v) := hx.1
  induction m with
  | zero =>
    intro n c hc hn
    obtain ⟨n, rfl⟩ : ∃ q, n = q + 1 := ⟨n - 1, by omega⟩
    unfold F_X7_otherLast_4
    rw [h86, L2, pk_mul, if_pos (nI_le (by omega) (by omega)), b01]
    rfl
  | succ m ih =>
    intro n c hc hn
    obtain ⟨n, rfl⟩ : ∃ q, n = q + 1 := ⟨n - 1, by omega⟩
    have ih1 := ih n (c + 1) (by omega) (by omega)
    have er : nI c - nI c / (2 : Int32) * (2 : Int32) = nI (c % 2) := nI_rem (d := 2) (by omega) (by decide) (by decide)
    rw [L2] at er
    have hb := otherLast_X29 hf hv ho hx (show c < 2 * vMen v by omega) (F_X7_otherLast_4 fu n) (x1 := bI true)
    have hw := otherLast_X4w (fu := fu) (x0 := 0) h86 n (c + 1) (by omega)
    have e : F_X7_otherLast_4 fu (n + 1) M (bI true) (nI c) = F_X7_otherLast_29 fu (F_X7_otherLast_4 fu n) M (bI true) (nI c) (stG c) := by
      rw [F_X7_otherLast_4, h86, L2, pk_mul, if_neg (nI_ge (by omega) (by omega)), b01, er]
      unfold stG
      by_cases h2 : c % 2 = 0
      · rw [h2, if_pos (show nI 0 = 0 from rfl), if_pos rfl]
        exact if_neg (by decide)
      · rw [if_neg (nI_ne0 (by omega) (by omega)), if_neg h2]
        exact if_neg (by decide)
    rw [e, hb]
    unfold lp
    cases hq : mv sh c with
    | none => exact ih1
    | some sh' =>
      show F_X7_otherLast_4 fu n M (bI (Wn v 0 sh')) (nI (c + 1)) = some (bI (if (Wn v 0 sh' == false) = true then false else lp (Wn v 0) sh false m (c + 1)), M)
      cases hq2 : Wn v 0 sh'
      · exact hw
      · exact ih1
theorem otherLast_X {fu : Nat} (hf : 1000 ≤ fu) {M : Mm} {v : NV} (hv : okV v) {sh : Nat → Nat} (ho : okS v sh) (hx : XV (shV v sh) M) : F_X7_otherLast fu M = some (bI (Wn v 1 sh), M) :=
  otherLast_X4 hf hv ho hx (2 * vMen v) fu 0 (by omega) (by have := hv.1; omega)
theorem oneLast_X29 {fu : Nat} (hf : 1000 ≤ fu) {M : Mm} {v : NV} (hv : okV v) {sh : Nat → Nat} (ho : okS v sh) (hx : XV (shV v sh) M) {c : Nat} (hc : c < 2 * vMen v) (k4 : Mm → Int32 → Int32 → Option (Int32 × Mm)) {x1 : Int32} : F_X7_oneLast_29 fu k4 M x1 (nI c) (stG c) = (match mv sh c with | none => k4 M x1 (nI (c + 1)) | some sh' => k4 M (bI (Wn v 1 sh')) (nI (c + 1))) := by
  have hm := hv.1
  have ed : nI c / (2 : Int32) = nI (c / 2) := pk_div (d := 2) (by omega) (by decide) (by decide)
  unfold F_X7_oneLast_29
  rw [ed, xr95 (by omega), xr95 (by omega), xr95 (by omega), clN (by omega), nI_1]
  rcases move_X (fu := fu) hv ho hx hc with ⟨e1, e2⟩ | ⟨sh', e1, e2, e3, e4⟩
  · rw [e1, e2, ob1_s, if_pos rfl]
  · rw [e1, e3, ob1_s, if_neg one_ne, lt1_s, otherLast_X hf hv e2 e4, ob2_s, xq95 (by omega), xq95 (by omega), lt1_s, pI_s, Int32.add_sub_cancel, pI_bk]
theorem oneLast_X4w {fu : Nat} {M : Mm} {v : NV} (h86 : M.1 86 4 = nI (vMen v)) {x0 : Int32} : ∀ (n c : Nat), 0 < n → F_X7_oneLast_4 fu n M (bI true) (nI c) = some (bI true, M) := by
  intro n c hn
  obtain ⟨n, rfl⟩ : ∃ q, n = q + 1 := ⟨n - 1, by omega⟩
  unfold F_X7_oneLast_4
  rw [b01]
  by_cases h : (2 : Int32) * (M.1 86 4) ≤ nI c
  · rw [if_pos h]
  · rw [if_neg h]
    rfl
theorem oneLast_X4 {fu : Nat} (hf : 1000 ≤ fu) {M : Mm} {v : NV} (hv : okV v) {sh : Nat → Nat} (ho : okS v sh) (hx : XV (shV v sh) M) : ∀ (m n c : Nat), c + m = 2 * vMen v → m + 1 < n → F_X7_oneLast_4 fu n M (bI false) (nI c) = some (bI (lp (Wn v 1) sh true m c), M) := by
  intro m
  have hm := hv.1
  have h86 : M.1 86 4 = nI (vMen v) := hx.1
  induction m with
  | zero =>
    intro n c hc hn
    obtain ⟨n, rfl⟩ : ∃ q, n = q + 1 := ⟨n - 1, by omega⟩
    unfold F_X7_oneLast_4
    rw [h86, L2, pk_mul, if_pos (nI_le (by omega) (by omega)), b01]
    rfl
  | succ m ih =>
    intro n c hc hn
    obtain ⟨n, rfl⟩ : ∃ q, n = q + 1 := ⟨n - 1, by omega⟩
    have ih1 := ih n (c + 1) (by omega) (by omega)
    have er : nI c - nI c / (2 : Int32) * (2 : Int32) = nI (c % 2) := nI_rem (d := 2) (by omega) (by decide) (by decide)
    rw [L2] at er
    have hb := oneLast_X29 hf hv ho hx (show c < 2 * vMen v by omega) (F_X7_oneLast_4 fu n) (x1 := bI false)
    have hw := oneLast_X4w (fu := fu) (x0 := 0) h86 n (c + 1) (by omega)
    have e : F_X7_oneLast_4 fu (n + 1) M (bI false) (nI c) = F_X7_oneLast_29 fu (F_X7_oneLast_4 fu n) M (bI false) (nI c) (stG c) := by
      rw [F_X7_oneLast_4, h86, L2, pk_mul, if_neg (nI_ge (by omega) (by omega)), b01, er]
      unfold stG
      by_cases h2 : c % 2 = 0
      · rw [h2, if_pos (show nI 0 = 0 from rfl), if_pos rfl]
        exact if_pos (by decide)
      · rw [if_neg (nI_ne0 (by omega) (by omega)), if_neg h2]
        exact if_pos (by decide)
    rw [e, hb]
    unfold lp
    cases hq : mv sh c with
    | none => exact ih1
    | some sh' =>
      show F_X7_oneLast_4 fu n M (bI (Wn v 1 sh')) (nI (c + 1)) = some (bI (if (Wn v 1 sh' == true) = true then true else lp (Wn v 1) sh true m (c + 1)), M)
      cases hq2 : Wn v 1 sh'
      · exact ih1
      · exact hw
theorem oneLast_X {fu : Nat} (hf : 1000 ≤ fu) {M : Mm} {v : NV} (hv : okV v) {sh : Nat → Nat} (ho : okS v sh) (hx : XV (shV v sh) M) : F_X7_oneLast fu M = some (bI (Wn v 2 sh), M) :=
  oneLast_X4 hf hv ho hx (2 * vMen v) fu 0 (by omega) (by have := hv.1; omega)
theorem otherFirst_X29 {fu : Nat} (hf : 1000 ≤ fu) {M : Mm} {v : NV} (hv : okV v) {sh : Nat → Nat} (ho : okS v sh) (hx : XV (shV v sh) M) {c : Nat} (hc : c < 2 * vMen v) (k4 : Mm → Int32 → Int32 → Option (Int32 × Mm)) {x1 : Int32} : F_X7_otherFirst_29 fu k4 M x1 (nI c) (stG c) = (match mv sh c with | none => k4 M x1 (nI (c + 1)) | some sh' => k4 M (bI (Wn v 2 sh')) (nI (c + 1))) := by
  have hm := hv.1
  have ed : nI c / (2 : Int32) = nI (c / 2) := pk_div (d := 2) (by omega) (by decide) (by decide)
  unfold F_X7_otherFirst_29
  rw [ed, xr95 (by omega), xr95 (by omega), xr95 (by omega), clN (by omega), nI_1]
  rcases move_X (fu := fu) hv ho hx hc with ⟨e1, e2⟩ | ⟨sh', e1, e2, e3, e4⟩
  · rw [e1, e2, ob1_s, if_pos rfl]
  · rw [e1, e3, ob1_s, if_neg one_ne, lt1_s, oneLast_X hf hv e2 e4, ob2_s, xq95 (by omega), xq95 (by omega), lt1_s, pI_s, Int32.add_sub_cancel, pI_bk]
theorem otherFirst_X4w {fu : Nat} {M : Mm} {v : NV} (h86 : M.1 86 4 = nI (vMen v)) {x0 : Int32} : ∀ (n c : Nat), 0 < n → F_X7_otherFirst_4 fu n M (bI false) (nI c) = some (bI false, M) := by
  intro n c hn
  obtain ⟨n, rfl⟩ : ∃ q, n = q + 1 := ⟨n - 1, by omega⟩
  unfold F_X7_otherFirst_4
  rw [b01]
  by_cases h : (2 : Int32) * (M.1 86 4) ≤ nI c
  · rw [if_pos h]
  · rw [if_neg h]
    rfl
theorem otherFirst_X4 {fu : Nat} (hf : 1000 ≤ fu) {M : Mm} {v : NV} (hv : okV v) {sh : Nat → Nat} (ho : okS v sh) (hx : XV (shV v sh) M) : ∀ (m n c : Nat), c + m = 2 * vMen v → m + 1 < n → F_X7_otherFirst_4 fu n M (bI true) (nI c) = some (bI (lp (Wn v 2) sh false m c), M) := by
  intro m
  have hm := hv.1
  have h86 : M.1 86 4 = nI (vMen v) := hx.1
  induction m with
  | zero =>
    intro n c hc hn
    obtain ⟨n, rfl⟩ : ∃ q, n = q + 1 := ⟨n - 1, by omega⟩
    unfold F_X7_otherFirst_4
    rw [h86, L2, pk_mul, if_pos (nI_le (by omega) (by omega)), b01]
    rfl
  | succ m ih =>
    intro n c hc hn
    obtain ⟨n, rfl⟩ : ∃ q, n = q + 1 := ⟨n - 1, by omega⟩
    have ih1 := ih n (c + 1) (by omega) (by omega)
    have er : nI c - nI c / (2 : Int32) * (2 : Int32) = nI (c % 2) := nI_rem (d := 2) (by omega) (by decide) (by decide)
    rw [L2] at er
    have hb := otherFirst_X29 hf hv ho hx (show c < 2 * vMen v by omega) (F_X7_otherFirst_4 fu n) (x1 := bI true)
    have hw := otherFirst_X4w (fu := fu) (x0 := 0) h86 n (c + 1) (by omega)
    have e : F_X7_otherFirst_4 fu (n + 1) M (bI true) (nI c) = F_X7_otherFirst_29 fu (F_X7_otherFirst_4 fu n) M (bI true) (nI c) (stG c) := by
      rw [F_X7_otherFirst_4, h86, L2, pk_mul, if_neg (nI_ge (by omega) (by omega)), b01, er]
      unfold stG
      by_cases h2 : c % 2 = 0
      · rw [h2, if_pos (show nI 0 = 0 from rfl), if_pos rfl]
        exact if_neg (by decide)
      · rw [if_neg (nI_ne0 (by omega) (by omega)), if_neg h2]
        exact if_neg (by decide)
    rw [e, hb]
    unfold lp
    cases hq : mv sh c with
    | none => exact ih1
    | some sh' =>
      show F_X7_otherFirst_4 fu n M (bI (Wn v 2 sh')) (nI (c + 1)) = some (bI (if (Wn v 2 sh' == false) = true then false else lp (Wn v 2) sh false m (c + 1)), M)
      cases hq2 : Wn v 2 sh'
      · exact hw
      · exact ih1
theorem otherFirst_X {fu : Nat} (hf : 1000 ≤ fu) {M : Mm} {v : NV} (hv : okV v) {sh : Nat → Nat} (ho : okS v sh) (hx : XV (shV v sh) M) : F_X7_otherFirst fu M = some (bI (Wn v 3 sh), M) :=
  otherFirst_X4 hf hv ho hx (2 * vMen v) fu 0 (by omega) (by have := hv.1; omega)
theorem lastOther_X {fu : Nat} (hf : 1000 ≤ fu) {v : NV} (hv : okV v) {t : Nat} (ht : t = 1 ∨ t = 3) : ∀ (sh : Nat → Nat) (M : Mm), okS v sh → XV (shV v sh) M → F_X7_lastOther fu M (nI t) = some (bI (Wn v t sh), M) := by
  intro sh M ho hx
  unfold F_X7_lastOther
  rcases ht with rfl | rfl
  · rw [if_pos (show nI 1 = 1 from rfl), otherLast_X hf hv ho hx, ob2_s, b01]
  · rw [if_neg (show ¬ nI 3 = 1 by decide), otherFirst_X hf hv ho hx, ob2_s, b01]
theorem winsOne_X29 {fu : Nat} (hf : 1000 ≤ fu) {M : Mm} {v : NV} (hv : okV v) {sh : Nat → Nat} (ho : okS v sh) (hx : XV (shV v sh) M) {c : Nat} (hc : c < 2 * vMen v) (k4 : Mm → Int32 → Int32 → Int32 → Option (Int32 × Mm)) {x1 : Int32} {t : Nat} (hr : ∀ sh' M', okS v sh' → XV (shV v sh') M' → F_X7_lastOther fu M' (nI t) = some (bI (Wn v t sh'), M')) : F_X7_winsOne_29 fu k4 M (nI (t + 1)) x1 (nI c) (stG c) = (match mv sh c with | none => k4 M (nI (t + 1)) x1 (nI (c + 1)) | some sh' => k4 M (nI (t + 1)) (bI (Wn v t sh')) (nI (c + 1))) := by
  have hm := hv.1
  have ed : nI c / (2 : Int32) = nI (c / 2) := pk_div (d := 2) (by omega) (by decide) (by decide)
  unfold F_X7_winsOne_29
  rw [ed, xr95 (by omega), xr95 (by omega), xr95 (by omega), clN (by omega), nI_1, nI_pred]
  rcases move_X (fu := fu) hv ho hx hc with ⟨e1, e2⟩ | ⟨sh', e1, e2, e3, e4⟩
  · rw [e1, e2, ob1_s, if_pos rfl]
  · rw [e1, e3, ob1_s, if_neg one_ne, lt1_s, hr sh' _ e2 e4, ob2_s, xq95 (by omega), xq95 (by omega), lt1_s, pI_s, Int32.add_sub_cancel, pI_bk]
theorem winsOne_X4w {fu : Nat} {M : Mm} {v : NV} (h86 : M.1 86 4 = nI (vMen v)) {x0 : Int32} : ∀ (n c : Nat), 0 < n → F_X7_winsOne_4 fu n M x0 (bI true) (nI c) = some (bI true, M) := by
  intro n c hn
  obtain ⟨n, rfl⟩ : ∃ q, n = q + 1 := ⟨n - 1, by omega⟩
  unfold F_X7_winsOne_4
  rw [b01]
  by_cases h : (2 : Int32) * (M.1 86 4) ≤ nI c
  · rw [if_pos h]
  · rw [if_neg h]
    rfl
theorem winsOne_X4 {fu : Nat} (hf : 1000 ≤ fu) {M : Mm} {v : NV} (hv : okV v) {sh : Nat → Nat} (ho : okS v sh) (hx : XV (shV v sh) M) {t : Nat} (hr : ∀ sh' M', okS v sh' → XV (shV v sh') M' → F_X7_lastOther fu M' (nI t) = some (bI (Wn v t sh'), M')) : ∀ (m n c : Nat), c + m = 2 * vMen v → m + 1 < n → F_X7_winsOne_4 fu n M (nI (t + 1)) (bI false) (nI c) = some (bI (lp (Wn v t) sh true m c), M) := by
  intro m
  have hm := hv.1
  have h86 : M.1 86 4 = nI (vMen v) := hx.1
  induction m with
  | zero =>
    intro n c hc hn
    obtain ⟨n, rfl⟩ : ∃ q, n = q + 1 := ⟨n - 1, by omega⟩
    unfold F_X7_winsOne_4
    rw [h86, L2, pk_mul, if_pos (nI_le (by omega) (by omega)), b01]
    rfl
  | succ m ih =>
    intro n c hc hn
    obtain ⟨n, rfl⟩ : ∃ q, n = q + 1 := ⟨n - 1, by omega⟩
    have ih1 := ih n (c + 1) (by omega) (by omega)
    have er : nI c - nI c / (2 : Int32) * (2 : Int32) = nI (c % 2) := nI_rem (d := 2) (by omega) (by decide) (by decide)
    rw [L2] at er
    have hb := winsOne_X29 hf hv ho hx (show c < 2 * vMen v by omega) (F_X7_winsOne_4 fu n) (x1 := bI false) hr
    have hw := winsOne_X4w (fu := fu) (x0 := nI (t + 1)) h86 n (c + 1) (by omega)
    have e : F_X7_winsOne_4 fu (n + 1) M (nI (t + 1)) (bI false) (nI c) = F_X7_winsOne_29 fu (F_X7_winsOne_4 fu n) M (nI (t + 1)) (bI false) (nI c) (stG c) := by
      rw [F_X7_winsOne_4, h86, L2, pk_mul, if_neg (nI_ge (by omega) (by omega)), b01, er]
      unfold stG
      by_cases h2 : c % 2 = 0
      · rw [h2, if_pos (show nI 0 = 0 from rfl), if_pos rfl]
        exact if_pos (by decide)
      · rw [if_neg (nI_ne0 (by omega) (by omega)), if_neg h2]
        exact if_pos (by decide)
    rw [e, hb]
    unfold lp
    cases hq : mv sh c with
    | none => exact ih1
    | some sh' =>
      show F_X7_winsOne_4 fu n M (nI (t + 1)) (bI (Wn v t sh')) (nI (c + 1)) = some (bI (if (Wn v t sh' == true) = true then true else lp (Wn v t) sh true m (c + 1)), M)
      cases hq2 : Wn v t sh'
      · exact ih1
      · exact hw
theorem winsOne_X {fu : Nat} (hf : 1000 ≤ fu) {M : Mm} {v : NV} (hv : okV v) {sh : Nat → Nat} (ho : okS v sh) (hx : XV (shV v sh) M) {t : Nat} (ht : t = 1 ∨ t = 3) : F_X7_winsOne fu M (nI (t + 1)) = some (bI (Wn v (t + 1) sh), M) := by
  have h := winsOne_X4 hf hv ho hx (lastOther_X hf hv ht) (2 * vMen v) fu 0 (by omega) (by have := hv.1; omega)
  unfold F_X7_winsOne
  refine h.trans ?_
  show _ = some (bI (lp (Wn v t) sh (decide ((t + 1) % 2 = 0)) (2 * vMen v) 0), M)
  rw [decide_eq_true (show (t + 1) % 2 = 0 by omega)]
theorem first_X47 {fu : Nat} (hf : 1000 ≤ fu) {M : Mm} {v : NV} (hv : okV v) {sh : Nat → Nat} (ho : okS v sh) (hx : XV (shV v sh) M) {c : Nat} (hc : c < 2 * vMen v) (k26 : Mm → Int32 → Int32 → Option (Int32 × Mm)) {N : Nat} (hN : 1 ≤ N) (hN2 : N ≤ 2) : F_X7_first_47 fu k26 M (nI N) (nI c) (stG c) = (match mv sh c with | none => k26 M (nI N) (nI (c + 1)) | some sh' => if Wn v (2 * N - 1) sh' = true then some (nI c, M) else k26 M (nI N) (nI (c + 1))) := by
  have hm := hv.1
  have ed : nI c / (2 : Int32) = nI (c / 2) := pk_div (d := 2) (by omega) (by decide) (by decide)
  have e2n : (2 : Int32) * nI N - 1 = nI (2 * N - 1) := by
    rw [L2, pk_mul, show 2 * N = (2 * N - 1) + 1 by omega, nI_pred]
    rfl
  unfold F_X7_first_47
  rw [ed, xr95 (by omega), xr95 (by omega), xr95 (by omega), clN (by omega), nI_1, e2n]
  rcases move_X (fu := fu) hv ho hx hc with ⟨e1, e2⟩ | ⟨sh', e1, e2, e3, e4⟩
  · rw [e1, e2, ob1_s, if_pos rfl]
  · rw [e1, e3, ob1_s, if_neg one_ne, lt1_s, lastOther_X hf hv (t := 2 * N - 1) (by omega) sh' _ e2 e4, ob2_s, xq95 (by omega), xq95 (by omega), lt1_s, pI_s, Int32.add_sub_cancel, pI_bk]
    show (if bI (Wn v (2 * N - 1) sh') = 0 then _ else _) = if Wn v (2 * N - 1) sh' = true then _ else _
    cases Wn v (2 * N - 1) sh' <;> rfl
theorem first_X26 {fu : Nat} (hf : 1000 ≤ fu) {M : Mm} {v : NV} (hv : okV v) {sh : Nat → Nat} (ho : okS v sh) (hx : XV (shV v sh) M) {N : Nat} (hN : 1 ≤ N) (hN2 : N ≤ 2) : ∀ (m n c : Nat), c + m = 2 * vMen v → m < n → F_X7_first_26 fu n M (nI N) (nI c) = some (wmv (Wn v (2 * N - 1)) sh m c, M) := by
  intro m
  have hm := hv.1
  have h86 : M.1 86 4 = nI (vMen v) := hx.1
  induction m with
  | zero =>
    intro n c hc hn
    obtain ⟨n, rfl⟩ : ∃ q, n = q + 1 := ⟨n - 1, by omega⟩
    unfold F_X7_first_26
    rw [h86, L2, pk_mul, if_pos (nI_le (by omega) (by omega))]
    rfl
  | succ m ih =>
    intro n c hc hn
    obtain ⟨n, rfl⟩ : ∃ q, n = q + 1 := ⟨n - 1, by omega⟩
    have ih1 := ih n (c + 1) (by omega) (by omega)
    have er : nI c - nI c / (2 : Int32) * (2 : Int32) = nI (c % 2) := nI_rem (d := 2) (by omega) (by decide) (by decide)
    rw [L2] at er
    have hb := first_X47 hf hv ho hx (show c < 2 * vMen v by omega) (F_X7_first_26 fu n) hN hN2
    have e : F_X7_first_26 fu (n + 1) M (nI N) (nI c) = F_X7_first_47 fu (F_X7_first_26 fu n) M (nI N) (nI c) (stG c) := by
      rw [F_X7_first_26, h86, L2, pk_mul, if_neg (nI_ge (by omega) (by omega)), er]
      unfold stG
      by_cases h2 : c % 2 = 0
      · rw [h2, if_pos (show nI 0 = 0 from rfl), if_pos rfl]
      · rw [if_neg (nI_ne0 (by omega) (by omega)), if_neg h2]
    rw [e, hb]
    unfold wmv
    cases mv sh c with
    | none => exact ih1
    | some sh' =>
      show (if Wn v (2 * N - 1) sh' = true then _ else _) = _
      rw [ih1]
      show _ = some (if Wn v (2 * N - 1) sh' = true then nI c else wmv (Wn v (2 * N - 1)) sh m (c + 1), M)
      cases Wn v (2 * N - 1) sh' <;> rfl
theorem shV_self (v : NV) : shV v (vShade v) = v := rfl
theorem scG {x j : Nat} (h : x = 74 ∨ x = 75 ∨ x = 76) : scr x j := by unfold scr sT sR sX sN; omega
theorem gt2 {x : Int32} (h : nI 3 ≤ x) : ¬ x < 0 ∧ ¬ x ≤ 2 ∧ ¬ x < 1 := by
  rw [Int32.le_iff_toInt_le, show (nI 3).toInt = 3 from by decide] at h
  rw [Int32.lt_iff_toInt_lt, Int32.le_iff_toInt_le, Int32.lt_iff_toInt_lt, show (0 : Int32).toInt = 0 from by decide, show (2 : Int32).toInt = 2 from by decide, show (1 : Int32).toInt = 1 from by decide]
  omega
theorem ltZ1 {x : Int32} (h : x < 0) : x < 1 := by
  rw [Int32.lt_iff_toInt_lt, show (0 : Int32).toInt = 0 from by decide] at h
  rw [Int32.lt_iff_toInt_lt, show (1 : Int32).toInt = 1 from by decide]
  omega
theorem call_game {fu : Nat} (hf : 1000 ≤ fu) {M : Mm} (h : Rel M) (x : Int32) : Two2 (F_X6_game fu M x) (fun M1 => F_X7_game fu M1 x) := by
  obtain ⟨v, hv, hc, hx⟩ := h.v
  have hm := hv.1
  have ho : okS v (vShade v) := fun i hi => (hv.2.2.2.2.2 i hi).2.2.2
  unfold F_X6_game F_X7_game
  rcases rng3 x (n := 3) (by decide) with (hr | hr) | ⟨N, hN, rfl⟩
  · refine Two2.same h (r := -1) (by rw [if_pos hr]) ?_
    rw [in_no (n := 2) (Or.inl hr) I2 (by decide), ob1_s, if_pos rfl]
  · refine Two2.same h (r := -1) ?_ ?_
    · rw [if_neg (gt2 hr).1, if_neg (gt2 hr).2.1]
    · rw [in_no (n := 2) (Or.inr hr) I2 (by decide), ob1_s, if_pos rfl]
  · rw [if_neg (nI_pos (by omega)), L2, if_pos (nI_le (by omega) (by omega)), hc.1]
    by_cases h0 : vMen v = 0
    · refine Two2.same h (r := -4) (by rw [h0, if_pos (show nI 0 = 0 from rfl)]) ?_
      rw [in_ok (k := 0) (n := 2) (by omega) (by omega) I0 I2 (by decide), ob1_s, if_neg one_ne, hx.1, h0, if_pos (show nI 0 = 0 from rfl)]
    · obtain ⟨M1, a1, a2, a3⟩ := prepare_C hf hv hc
      have hrel : Rel M1 := h.out a3 fun x j q => scG q
      have lo : Lo M M1 := Lo.of a3 fun x j q => by omega
      have hx1 : XV (shV v (vShade v)) M1 := hx.lo lo
      have h86 : M1.1 86 4 = nI (vMen v) := hx1.1
      have he : F_X1_endsCarried fu M1 (nI (2 * N)) = some (bI (Wn v (2 * N) (vShade v)), M1) := ends_C hf hv (2 * N) 6 M1 _ (by omega) (by omega) ho a2
      refine ⟨bI (Wn v (2 * N) (vShade v)), M1, M1, ?_, ?_, hrel⟩
      · rw [if_neg (nI_ne0 (by omega) (by omega)), a1, ob1_s, pk_mul, he, ob2_s]
        cases Wn v (2 * N) (vShade v) <;> rfl
      · dsimp only
        rw [in_ok (k := 0) (n := 2) (by omega) (by omega) I0 I2 (by decide), ob1_s, if_neg one_ne, h86, if_neg (nI_ne0 (by omega) (by omega))]
        by_cases hN0 : N = 0
        · subst hN0
          rw [if_pos (show nI 0 = 0 from rfl), carriedThen_X hf hv ho hx1, ob1_s]
          unfold F_X7_game_42
          show _ = some (bI (Wn v 0 (vShade v)), M1)
          cases Wn v 0 (vShade v) <;> rfl
        · have hw := winsOne_X hf hv ho hx1 (t := 2 * N - 1) (by omega)
          rw [show 2 * N - 1 + 1 = 2 * N by omega] at hw
          rw [if_neg (nI_ne0 (by omega) (by omega)), pk_mul, hw, ob2_s]
          unfold F_X7_game_42
          cases Wn v (2 * N) (vShade v) <;> rfl
theorem call_first {fu : Nat} (hf : 1000 ≤ fu) {M : Mm} (h : Rel M) (x : Int32) : Two2 (F_X6_first fu M x) (fun M1 => F_X7_first fu M1 x) := by
  obtain ⟨v, hv, hc, hx⟩ := h.v
  have hm := hv.1
  have ho : okS v (vShade v) := fun i hi => (hv.2.2.2.2.2 i hi).2.2.2
  unfold F_X6_first F_X7_first
  rcases rng3 x (n := 3) (by decide) with (hr | hr) | ⟨N, hN, rfl⟩
  · refine Two2.same h (r := -1) (by rw [if_pos (ltZ1 hr)]) ?_
    rw [in_lo (a := 1) (k := 1) (ltZ1 hr) rfl (by decide), ob1_s, if_pos rfl]
  · refine Two2.same h (r := -1) ?_ ?_
    · rw [if_neg (gt2 hr).2.2, if_neg (gt2 hr).2.1]
    · rw [in_hi (n := 2) hr I2 (by decide), ob1_s, if_pos rfl]
  · by_cases hN0 : N = 0
    · subst hN0
      refine Two2.same h (r := -1) (by rw [if_pos (show nI 0 < 1 by decide)]) ?_
      rw [in_lo (a := 1) (k := 1) (show nI 0 < nI 1 by decide) rfl (by decide), ob1_s, if_pos rfl]
    rw [L1, if_neg (nI_nlt (by omega) (by omega)), L2, if_pos (nI_le (by omega) (by omega)), hc.1]
    have hin : ∀ M', F_X7_in fu M' (nI N).toInt64 1 2 = some 1 := fun M' => in_ok (k := 1) (n := 2) (by omega) (by omega) rfl I2 (by decide)
    by_cases h0 : vMen v = 0
    · refine Two2.same h (r := -4) (by rw [h0, if_pos (show nI 0 = 0 from rfl)]) ?_
      rw [hin, ob1_s, if_neg one_ne, hx.1, h0, if_pos (show nI 0 = 0 from rfl)]
    · obtain ⟨M1, a1, a2, a3⟩ := prepare_C hf hv hc
      have hrel : Rel M1 := h.out a3 fun x j q => scG q
      have lo : Lo M M1 := Lo.of a3 fun x j q => by omega
      have hx1 : XV (shV v (vShade v)) M1 := hx.lo lo
      have h86 : M1.1 86 4 = nI (vMen v) := hx1.1
      have he := win_C2 hf hv ho a2 (t := 2 * N - 1) (by omega) (2 * vMen v) fu 0 (by omega) (by omega)
      have hw := first_X26 hf hv ho hx1 (N := N) (by omega) (by omega) (2 * vMen v) fu 0 (by omega) (by omega)
      rw [show 2 * N - 1 + 1 = 2 * N by omega] at he
      refine ⟨wmv (Wn v (2 * N - 1)) (vShade v) (2 * vMen v) 0, M1, M1, ?_, ?_, hrel⟩
      · unfold F_X1_winningMove
        rw [if_neg (nI_ne0 (by omega) (by omega)), a1, ob1_s, pk_mul]
        show ob2 (F_X1_winningMove_2 fu fu M1 (nI (2 * N)) (nI 0)) _ = _
        rw [he, ob2_s]
      · dsimp only
        rw [hin, ob1_s, if_neg one_ne, h86, if_neg (nI_ne0 (by omega) (by omega))]
        exact hw
