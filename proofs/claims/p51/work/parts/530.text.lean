/-! the north's text: laid by the law, read by the class -/
def lttr (k : Nat) : Int32 := if k = 0 then 109 else if k = 1 then 104 else if k = 2 then 119 else if k = 3 then 115 else if k = 4 then 108 else 105
def txF (v : NV) (p : Nat) : Int32 := if p = 0 then 122 else if p < 9 then nI (48 + vSun v (p - 1)) else if p = 9 then nI (48 + vRight v) else if (p - 10) % 5 = 0 then lttr (vKind v ((p - 10) / 5)) else if (p - 10) % 5 = 1 then nI (48 + vBulk v ((p - 10) / 5) / 10) else if (p - 10) % 5 = 2 then nI (48 + vBulk v ((p - 10) / 5) % 10) else if (p - 10) % 5 = 3 then nI (48 + vShade v ((p - 10) / 5)) else nI (48 + vVote v ((p - 10) / 5))
theorem tx_0 (v : NV) : txF v 0 = 122 := rfl
theorem tx_s (v : NV) {j : Nat} (h : j < 8) : txF v (1 + j) = nI (48 + vSun v j) := by
  unfold txF
  rw [if_neg (by omega), if_pos (by omega), Nat.add_sub_cancel_left]
theorem tx_r (v : NV) : txF v 9 = nI (48 + vRight v) := rfl
theorem tx_k (v : NV) (i : Nat) : txF v (10 + 5 * i) = lttr (vKind v i) := by
  unfold txF
  rw [if_neg (by omega), if_neg (by omega), if_neg (by omega), if_pos (by omega), show (10 + 5 * i - 10) / 5 = i by omega]
theorem tx_1 (v : NV) (i : Nat) : txF v (10 + 5 * i + 1) = nI (48 + vBulk v i / 10) := by
  unfold txF
  rw [if_neg (by omega), if_neg (by omega), if_neg (by omega), if_neg (by omega), if_pos (by omega), show (10 + 5 * i + 1 - 10) / 5 = i by omega]
theorem tx_2 (v : NV) (i : Nat) : txF v (10 + 5 * i + 2) = nI (48 + vBulk v i % 10) := by
  unfold txF
  rw [if_neg (by omega), if_neg (by omega), if_neg (by omega), if_neg (by omega), if_neg (by omega), if_pos (by omega), show (10 + 5 * i + 2 - 10) / 5 = i by omega]
theorem tx_3 (v : NV) (i : Nat) : txF v (10 + 5 * i + 3) = nI (48 + vShade v i) := by
  unfold txF
  rw [if_neg (by omega), if_neg (by omega), if_neg (by omega), if_neg (by omega), if_neg (by omega), if_neg (by omega), if_pos (by omega), show (10 + 5 * i + 3 - 10) / 5 = i by omega]
theorem tx_4 (v : NV) (i : Nat) : txF v (10 + 5 * i + 4) = nI (48 + vVote v i) := by
  unfold txF
  rw [if_neg (by omega), if_neg (by omega), if_neg (by omega), if_neg (by omega), if_neg (by omega), if_neg (by omega), if_neg (by omega), show (10 + 5 * i + 4 - 10) / 5 = i by omega]
/-- a north as the law lays it -/
def okL1 (v : NV) : Prop := okV v ∧ 0 < vMen v ∧ vDay v = 0 ∧ 1 ≤ vRight v ∧ ∀ i, i < vMen v → 1 ≤ vBulk v i
def agr (v : NV) (i : Nat) (k b sh vo : Nat → Nat) : Prop := ∀ j, j < i → k j = vKind v j ∧ b j = vBulk v j ∧ sh j = vShade v j ∧ vo j = vVote v j
theorem kind_lt {k : Nat} (h : k ≤ 5) : kindN (lttr k) = some k ∧ ¬ lttr k = 32 := by
  have : ∀ k, k < 6 → kindN (lttr k) = some k ∧ ¬ lttr k = 32 := by decide
  exact this k (by omega)
theorem rd_men {v : NV} (hv : okL1 v) {su : Nat → Nat} : ∀ (n i : Nat) (k b sh vo : Nat → Nat), i + n = vMen v → agr v i k b sh vo → ∃ k' b' sh' vo', rdF (txF v) (10 + 5 * vMen v - (10 + 5 * i)) (10 + 5 * i) (10, i, vRight v, su, k, b, sh, vo) = .inr (10, vMen v, vRight v, su, k', b', sh', vo') ∧ agr v (vMen v) k' b' sh' vo' := by
  intro n
  obtain ⟨hv, h0, -, -, hb1⟩ := hv
  have hm := hv.1
  induction n with
  | zero =>
    intro i k b sh vo hi ha
    have : i = vMen v := by omega
    subst this
    refine ⟨k, b, sh, vo, ?_, ha⟩
    rw [Nat.sub_self]
    show (if (10 : Nat) = 10 ∧ 0 < vMen v then _ else _) = _
    rw [if_pos ⟨rfl, h0⟩]
  | succ n ih =>
    intro i k b sh vo hi ha
    have hiv : i < vMen v := by omega
    obtain ⟨g1, g2, g3, g4⟩ := hv.2.2.2.2.2 i hiv
    have hb := hb1 i hiv
    obtain ⟨l1, l2⟩ := kind_lt g1
    have e0 : takeF (10, i, vRight v, su, k, b, sh, vo) (txF v (10 + 5 * i)) = some (11, i, vRight v, su, setf k i (vKind v i), b, sh, vo) := by
      rw [tx_k]
      unfold takeF
      rw [if_neg (show ¬ rS (10, i, vRight v, su, k, b, sh, vo) = 0 by show ¬ 10 = 0; decide), if_pos (show rS (10, i, vRight v, su, k, b, sh, vo) = 10 from rfl), if_neg l2]
      unfold letT
      rw [l1]
      exact if_pos (show i < 6 by omega)
    have e1 := rd_step (f := txF v) (N := 10 + 5 * vMen v) (k := 10 + 5 * i) (by omega) e0
    have e2 := rd_fig (f := txF v) (N := 10 + 5 * vMen v) (k := 10 + 5 * i + 1) (d := vBulk v i / 10) (q := (11, i, vRight v, su, setf k i (vKind v i), b, sh, vo)) (show (11 : Nat) ≠ 0 by decide) (show (11 : Nat) ≠ 10 by decide) (by omega) (by omega) (tx_1 v i) figT_11
    have e3 := rd_fig (f := txF v) (N := 10 + 5 * vMen v) (k := 10 + 5 * i + 2) (d := vBulk v i % 10) (q := (12, i, vRight v, su, setf k i (vKind v i), setf b i (10 * (vBulk v i / 10)), sh, vo)) (show (12 : Nat) ≠ 0 by decide) (show (12 : Nat) ≠ 10 by decide) (by omega) (by omega) (tx_2 v i) (by rw [figT_12, setf_s, if_pos (by omega)])
    have e4 := rd_fig (f := txF v) (N := 10 + 5 * vMen v) (k := 10 + 5 * i + 3) (d := vShade v i) (q := (13, i, vRight v, su, setf k i (vKind v i), setf (setf b i (10 * (vBulk v i / 10))) i (10 * (vBulk v i / 10) + vBulk v i % 10), sh, vo)) (show (13 : Nat) ≠ 0 by decide) (show (13 : Nat) ≠ 10 by decide) (by omega) (by omega) (tx_3 v i) figT_13
    have e5 := rd_fig (f := txF v) (N := 10 + 5 * vMen v) (k := 10 + 5 * i + 4) (d := vVote v i) (q := (14, i, vRight v, su, setf k i (vKind v i), setf (setf b i (10 * (vBulk v i / 10))) i (10 * (vBulk v i / 10) + vBulk v i % 10), setf sh i (vShade v i), vo)) (show (14 : Nat) ≠ 0 by decide) (show (14 : Nat) ≠ 10 by decide) (by omega) (by omega) (tx_4 v i) (by rw [figT_14, if_pos (by omega)])
    obtain ⟨k', b', sh', vo', q1, q2⟩ := ih (i + 1) (setf k i (vKind v i)) (setf (setf b i (10 * (vBulk v i / 10))) i (10 * (vBulk v i / 10) + vBulk v i % 10)) (setf sh i (vShade v i)) (setf vo i (vVote v i)) (by omega) (fun j hj => by
      by_cases hji : j = i
      · subst hji
        rw [setf_s, setf_s, setf_s, setf_s]
        exact ⟨rfl, by omega, rfl, rfl⟩
      · rw [setf_n hji, setf_n hji, setf_n hji, setf_n hji, setf_n hji]
        exact ha j (by omega))
    refine ⟨k', b', sh', vo', ?_, q2⟩
    rw [e1, e2, e3, e4, e5]
    exact q1
theorem rd_suns {v : NV} (hv : okL1 v) : ∀ (n j : Nat) (su : Nat → Nat), j + n = 8 → (∀ i, i < j → su i = vSun v i) → ∃ su', rdF (txF v) (10 + 5 * vMen v - (1 + j)) (1 + j) (j + 1, 0, 0, su, fun _ => 0, fun _ => 0, fun _ => 0, fun _ => 0) = rdF (txF v) (10 + 5 * vMen v - 9) 9 (9, 0, 0, su', fun _ => 0, fun _ => 0, fun _ => 0, fun _ => 0) ∧ ∀ i, i < 8 → su' i = vSun v i := by
  intro n
  induction n with
  | zero =>
    intro j su hj h
    have : j = 8 := by omega
    subst this
    exact ⟨su, rfl, h⟩
  | succ n ih =>
    intro j su hj h
    have hs := hv.1.2.2.2.2.1 j
    have e := rd_fig (f := txF v) (N := 10 + 5 * vMen v) (k := 1 + j) (d := vSun v j) (q := (j + 1, 0, 0, su, fun _ => 0, fun _ => 0, fun _ => 0, fun _ => 0)) (show j + 1 ≠ 0 by omega) (show j + 1 ≠ 10 by omega) (by omega) hs (tx_s v (by omega)) (figT_j (by omega))
    obtain ⟨su', q1, q2⟩ := ih (j + 1) (setf su j (vSun v j)) (by omega) (fun i hi => by
      by_cases hij : i = j
      · rw [hij, setf_s]
      · rw [setf_n hij]
        exact h i (by omega))
    refine ⟨su', ?_, q2⟩
    rw [e]
    exact q1
theorem rd_all {v : NV} (hv : okL1 v) : ∃ q, rdF (txF v) (10 + 5 * vMen v) 0 q0 = .inr q ∧ rM q = vMen v ∧ rR q = vRight v ∧ (∀ i, i < 8 → rSu q i = vSun v i) ∧ agr v (vMen v) (rK q) (rB q) (rSh q) (rV q) := by
  have h9 := hv.1.2.2.1
  have e0 := rd_step (f := txF v) (N := 10 + 5 * vMen v) (k := 0) (q := q0) (q' := (1, 0, 0, fun _ => 0, fun _ => 0, fun _ => 0, fun _ => 0, fun _ => 0)) (by omega) rfl
  obtain ⟨su, e1, hsu⟩ := rd_suns hv 8 0 (fun _ => 0) (by omega) (fun i hi => by omega)
  have e2 := rd_fig (f := txF v) (N := 10 + 5 * vMen v) (k := 9) (d := vRight v) (q := (9, 0, 0, su, fun _ => 0, fun _ => 0, fun _ => 0, fun _ => 0)) (show (9 : Nat) ≠ 0 by decide) (show (9 : Nat) ≠ 10 by decide) (by omega) h9 (tx_r v) (by rw [figT_9, if_pos (show 0 < vRight v from hv.2.2.2.1)])
  obtain ⟨k', b', sh', vo', e3, ha⟩ := rd_men hv (su := su) (vMen v) 0 (fun _ => 0) (fun _ => 0) (fun _ => 0) (fun _ => 0) (by omega) (fun j hj => by omega)
  refine ⟨(10, vMen v, vRight v, su, k', b', sh', vo'), ?_, rfl, rfl, hsu, ha⟩
  rw [Nat.sub_zero] at e0
  rw [e0]
  refine e1.trans ?_
  rw [e2]
  exact e3
/-- the text under the law's pen -/
def TXI (v : NV) (w : Nat → Bool) (M : Mm) : Prop := M.1 13 0 = 1 ∧ M.1 13 1 = nI (10 + 5 * vMen v) ∧ ∀ p, p < 10 + 5 * vMen v → M.1 17 p = if w p then txF v p else 32
theorem byte_ok : ∀ a, a < 128 → (nI a).toInt8.toInt32 = nI a := by decide +kernel
theorem m_text {fu : Nat} (hf : 1000 ≤ fu) {M : Mm} {v : NV} (hm : vMen v ≤ 6) : ∃ M', F_X6_text fu M 0 (nI (10 + 5 * vMen v)) = some (nI (10 + 5 * vMen v), M') ∧ TXI v (fun _ => false) M' ∧ Out (fun x _ => x = 13 ∨ x = 17) M M' := by
  obtain ⟨M1, a1, a2, a3, a4, a5⟩ := renewT_C hf (M := M) (r := 0) (by decide) (nI (10 + 5 * vMen v))
  refine ⟨M1, ?_, ⟨a2, a3, fun p hp => a4 p (by omega)⟩, a5.wk fun x j q => by omega⟩
  unfold F_X6_text
  rw [L0, textOf_C1 (r := 0) (by decide), ob1_s, op1_s, if_neg (by decide), L60, if_pos (nI_le (by omega) (by omega)), if_pos (nI_le (by omega) (by omega)), a1, ob1_s]
theorem m_put {fu : Nat} {M : Mm} {v : NV} {w : Nat → Bool} (hm : vMen v ≤ 6) (h : TXI v w M) {p : Nat} (hp : p < 10 + 5 * vMen v) (hw : w p = false) {z : Int32} {a : Nat} (ha : a < 128) (hz : z = nI a) (ht : txF v p = nI a) : ∃ M', F_X6_put fu M 0 (nI p) z = some (1032, M') ∧ TXI v (fun x => x == p || w x) M' ∧ Out (fun x _ => x = 17) M M' := by
  obtain ⟨h1, h2, h3⟩ := h
  have e := h3 p hp
  rw [hw, if_neg (by decide)] at e
  have eb : z.toInt8.toInt32 = nI a := by rw [hz]; exact byte_ok a ha
  refine ⟨pI M 17 p z.toInt8.toInt32, ?_, ⟨by rw [pI_n (by omega)]; exact h1, by rw [pI_n (by omega)]; exact h2, fun x hx => ?_⟩, (Out.rf).pI rfl⟩
  · unfold F_X6_put
    rw [L0, textOf_C1 (r := 0) (by decide), ob1_s, op1_s, if_neg (by decide), if_neg (by rw [show M.1 (13 + 0) 0 = 1 from h1]; decide), if_neg (show ¬ nI p < nI 0 from nI_nlt (Nat.zero_le _) (by omega)), show M.1 (13 + 0) 1 = nI (10 + 5 * vMen v) from h2, if_pos (nI_lt hp (by omega)), sign_C (r := 0) (by decide) (by omega), ob1_s, change_C (r := 0) (by decide) (by omega), ob1_s, show M.1 (13 + 0 + 4) p = 32 from e]
    rfl
  · by_cases hxp : x = p
    · subst hxp
      rw [pI_s, eb, ht]
      simp
    · rw [pI_n (Or.inr hxp), h3 x hx]
      have : (x == p || w x) = w x := by simp [hxp]
      show (if w x = true then txF v x else 32) = (if (x == p || w x) = true then txF v x else 32)
      rw [this]
theorem m_fault {fu : Nat} (hf : 1000 ≤ fu) {M : Mm} {v : NV} (hv : okL1 v) (h1 : M.1 13 0 = 1) (h2 : M.1 13 1 = nI (10 + 5 * vMen v)) (h3 : ∀ p, p < 10 + 5 * vMen v → M.1 17 p = txF v p) : ∃ M', F_X6_fault fu M 0 = some (-9, M') ∧ Out pS M M' := by
  have hm := hv.1.1
  obtain ⟨q, e, -⟩ := rd_all hv
  obtain ⟨M1, a1, a2, a3⟩ := faultIn_C hf (t := 0) (by decide) (show 10 + 5 * vMen v ≤ 60 by omega) h2 (f := txF v) h3
  rw [e] at a1
  refine ⟨M1, ?_, a2⟩
  unfold F_X6_fault
  rw [L0, textOf_C1 (r := 0) (by decide), ob1_s, op1_s, if_neg (by decide), if_neg (by rw [show M.1 (13 + 0) 0 = 1 from h1]; decide), a1]
  rfl
theorem m_north {fu : Nat} (hf : 1000 ≤ fu) {M : Mm} {v : NV} (hv : okL1 v) (h1 : M.1 13 0 = 1) (h2 : M.1 13 1 = nI (10 + 5 * vMen v)) (h3 : ∀ p, p < 10 + 5 * vMen v → M.1 17 p = txF v p) : ∃ q M', F_X6_north fu M 0 = some (nI (vMen v), M') ∧ rM q = vMen v ∧ rR q = vRight v ∧ agr v (vMen v) (rK q) (rB q) (rSh q) (rV q) ∧ okN (newN q) ∧ CN 24 (newN q) M' ∧ Out (fun x _ => (24 ≤ x ∧ x ≤ 31) ∨ x = 35 ∨ x = 46 ∨ x = 57 ∨ (68 ≤ x ∧ x ≤ 73)) M M' := by
  have hm := hv.1.1
  obtain ⟨q, e, em, er, -, ea⟩ := rd_all hv
  obtain ⟨M1, a1, a2, a3⟩ := faultIn_C hf (t := 0) (by decide) (show 10 + 5 * vMen v ≤ 60 by omega) h2 (f := txF v) h3
  obtain ⟨b1, b2, b3, b4⟩ := a3 q e
  rw [e] at a1
  obtain ⟨M2, c1, c2, c3⟩ := settle_C hf b2 b3 b1
  obtain ⟨M3, d1, d2, d3⟩ := north_C54 (fu := fu) 3 fu M2 0 (by omega) (by omega) (fun j hj => by omega)
  refine ⟨q, M3, ?_, em, er, ea, newN_ok b2 b3 b4, c2.cg fun x h1 h2 => d3.f fun j => by omega, ((a2.wk fun x j q => by unfold pS at q; omega).trans (c3.wk fun x j q => by omega)).trans (d3.wk fun x j q => by omega)⟩
  unfold F_X6_north
  rw [L0, textOf_C1 (r := 0) (by decide), ob1_s, op1_s, if_neg (by decide), if_neg (by rw [show M.1 (13 + 0) 0 = 1 from h1]; decide), a1, ob2_s, show rdI (.inr q) = (-9 : Int32) from rfl, if_pos rfl, c1, ob1_s]
  rw [c2.1] at d1
  rw [d1]
  exact congrArg (fun x => some (nI x, M3)) em
