/-! how the two memories stand to each other -/
/-- a north's beginning, its deeds, how many, the right -/
abbrev Ns : Type := NV × (Nat → Nat × Nat × Nat) × Nat × Nat
def perf (v : NV) (q : Nat × Nat × Nat) : NV :=
  if q.1 = 0 then (vMen v, vRight v, vDay v + 1, vSun v, vKind v, vVote v, (fun j => vBulk v j - melD v (vKind v j) (vShade v j) 0), vShade v)
  else if q.1 = 2 then (vMen v, vRight v, vDay v, vSun v, vKind v, vVote v, vBulk v, (fun j => if j = q.2.1 then q.2.2 else vShade v j))
  else if q.1 = 3 then (vMen v, vRight v, vDay v, vSun v, vKind v, vVote v, (fun j => if j = q.2.1 then min 99 (vBulk v j + q.2.2) else vBulk v j), vShade v)
  else (vMen v, vRight v, vDay v + 1, vSun v, vKind v, vVote v, vBulk v, vShade v)
def rp (v : NV) (ds : Nat → Nat × Nat × Nat) : Nat → NV
  | 0 => v
  | k + 1 => perf (rp v ds k) (ds k)
def wr (r : Nat) (v : NV) : NV := (vMen v, r, vDay v, vSun v, vKind v, vVote v, vBulk v, vShade v)
def cur (s : Ns) : NV := wr s.2.2.2 (rp s.1 s.2.1 s.2.2.1)
def okB (v : NV) : Prop := vMen v ≤ 6 ∧ (∀ j, vSun v j ≤ 9) ∧ ∀ i, i < vMen v → vKind v i ≤ 5 ∧ vVote v i ≤ 1 ∧ vBulk v i ≤ 99 ∧ vShade v i ≤ 9
def dOK (m : Nat) (q : Nat × Nat × Nat) : Prop := q.1 ≤ 3 ∧ q.2.1 < 6 ∧ q.2.2 ≤ 9 ∧ 0 < m
def okN (s : Ns) : Prop := okB s.1 ∧ vDay s.1 = 0 ∧ s.2.2.1 ≤ 60 ∧ (∀ k, k < s.2.2.1 → dOK (vMen s.1) (s.2.1 k)) ∧ s.2.2.2 ≤ 9 ∧ (0 < vMen s.1 → 1 ≤ s.2.2.2) ∧ (vMen s.1 = 0 → s.2.2.2 = 0)
def sb (v w : NV) : Prop := vMen v = vMen w ∧ vSun v = vSun w ∧ vKind v = vKind w ∧ vVote v = vVote w
theorem perf_sb (v : NV) (q : Nat × Nat × Nat) : sb (perf v q) v := by
  unfold perf sb
  split
  · exact ⟨rfl, rfl, rfl, rfl⟩
  · split
    · exact ⟨rfl, rfl, rfl, rfl⟩
    · split <;> exact ⟨rfl, rfl, rfl, rfl⟩
theorem sb.trans {u v w : NV} (h : sb u v) (g : sb v w) : sb u w := ⟨h.1.trans g.1, h.2.1.trans g.2.1, h.2.2.1.trans g.2.2.1, h.2.2.2.trans g.2.2.2⟩
theorem sb.symm {v w : NV} (h : sb v w) : sb w v := ⟨h.1.symm, h.2.1.symm, h.2.2.1.symm, h.2.2.2.symm⟩
theorem sb.rf (v : NV) : sb v v := ⟨rfl, rfl, rfl, rfl⟩
theorem rp_sb (v : NV) (ds : Nat → Nat × Nat × Nat) : ∀ k, sb (rp v ds k) v := by
  intro k
  induction k with
  | zero => exact sb.rf _
  | succ k ih => exact (perf_sb _ _).trans ih
theorem wr_sb (r : Nat) (v : NV) : sb (wr r v) v := ⟨rfl, rfl, rfl, rfl⟩
theorem cur_sb (s : Ns) : sb (cur s) s.1 := (wr_sb _ _).trans (rp_sb _ _ _)
theorem perf_wr (r : Nat) (v : NV) (q : Nat × Nat × Nat) : wr r (perf v q) = perf (wr r v) q := by
  unfold perf
  split
  · rfl
  · split
    · rfl
    · split <;> rfl
theorem perf_ok {v : NV} {q : Nat × Nat × Nat} (hv : okB v) (hq : dOK (vMen v) q) : okB (perf v q) ∧ vDay (perf v q) ≤ vDay v + 1 := by
  obtain ⟨h1, h2, h3⟩ := hv
  obtain ⟨q1, q2, q3, q4⟩ := hq
  unfold perf
  split
  · exact ⟨⟨h1, h2, fun i hi => ⟨(h3 i hi).1, (h3 i hi).2.1, Nat.le_trans (Nat.sub_le _ _) (h3 i hi).2.2.1, (h3 i hi).2.2.2⟩⟩, Nat.le_refl _⟩
  · split
    · refine ⟨⟨h1, h2, fun i hi => ⟨(h3 i hi).1, (h3 i hi).2.1, (h3 i hi).2.2.1, ?_⟩⟩, Nat.le_succ _⟩
      show (if i = q.2.1 then q.2.2 else vShade v i) ≤ 9
      split
      · exact q3
      · exact (h3 i hi).2.2.2
    · split
      · refine ⟨⟨h1, h2, fun i hi => ⟨(h3 i hi).1, (h3 i hi).2.1, ?_, (h3 i hi).2.2.2⟩⟩, Nat.le_succ _⟩
        show (if i = q.2.1 then min 99 (vBulk v i + q.2.2) else vBulk v i) ≤ 99
        split
        · exact Nat.min_le_left _ _
        · exact (h3 i hi).2.2.1
      · exact ⟨⟨h1, h2, h3⟩, Nat.le_refl _⟩
theorem rp_ok {s : Ns} (h : okN s) : ∀ k, k ≤ s.2.2.1 → okB (rp s.1 s.2.1 k) ∧ vDay (rp s.1 s.2.1 k) ≤ k := by
  intro k
  induction k with
  | zero => intro _; exact ⟨h.1, by rw [show rp s.1 s.2.1 0 = s.1 from rfl, h.2.1]; exact Nat.le_refl _⟩
  | succ k ih =>
    intro hk
    obtain ⟨a, b⟩ := ih (by omega)
    have := perf_ok a (q := s.2.1 k) (by rw [(rp_sb s.1 s.2.1 k).1]; exact h.2.2.2.1 k (by omega))
    exact ⟨this.1, Nat.le_trans this.2 (by omega)⟩
theorem okB.v {v : NV} (h : okB v) {r : Nat} (hr : r ≤ 9) (h0 : 0 < vMen v → 1 ≤ r) (hd : vDay v ≤ 60) : okV (wr r v) := ⟨h.1, h0, hr, hd, h.2.1, h.2.2⟩
theorem okN.k {s : Ns} (h : okN s) {k : Nat} (hk : k ≤ s.2.2.1) : okV (wr s.2.2.2 (rp s.1 s.2.1 k)) := by
  obtain ⟨a, b⟩ := rp_ok h k hk
  have := h.2.2.1
  exact a.v h.2.2.2.2.1 (by rw [(rp_sb s.1 s.2.1 k).1]; exact h.2.2.2.2.2.1) (by omega)
theorem okN.v {s : Ns} (h : okN s) : okV (cur s) := h.k (Nat.le_refl _)
/-- the class's north at a code -/
def CN (c : Nat) (s : Ns) (M : Mm) : Prop :=
  M.1 c 0 = nI (vMen s.1) ∧ M.1 c 1 = nI s.2.2.2 ∧ M.1 c 2 = nI (vDay (cur s)) ∧ M.1 c 3 = nI s.2.2.1 ∧
  (∀ j, j < 8 → M.1 (c + 1) j = nI (vSun s.1 j)) ∧
  (∀ i, i < vMen s.1 → M.1 (c + 2) i = nI (vKind s.1 i) ∧ M.1 (c + 3) i = nI (vVote s.1 i) ∧ M.1 (c + 4) i = nI (vBulk (cur s) i) ∧ M.1 (c + 5) i = nI (vShade (cur s) i) ∧ M.1 (c + 6) i = nI (vBulk s.1 i) ∧ M.1 (c + 7) i = nI (vShade s.1 i)) ∧
  ∀ k, k < s.2.2.1 → M.1 (c + 8) k = nI (s.2.1 k).1 ∧ M.1 (c + 9) k = nI (s.2.1 k).2.1 ∧ M.1 (c + 10) k = nI (s.2.1 k).2.2
/-- what was ahead of each deed, in a row from a place on -/
def PA (c o : Nat) (s : Ns) (M : Mm) : Prop := ∀ k, k < s.2.2.1 → M.1 c (o + 13 * k + 12) = nI (vDay (rp s.1 s.2.1 k)) ∧ ∀ i, i < vMen s.1 → M.1 c (o + 13 * k + i) = nI (vBulk (rp s.1 s.2.1 k) i) ∧ M.1 c (o + 13 * k + 6 + i) = nI (vShade (rp s.1 s.2.1 k) i)
def XN (s : Ns) (M : Mm) : Prop := XV (cur s) M ∧ M.1 86 12 = nI s.2.2.1 ∧ PA 96 0 s M
def XK (k : Nat) (s : Ns) (M : Mm) : Prop := M.1 97 (795 * k) = nI s.2.2.2 ∧ M.1 97 (795 * k + 1) = nI (vDay (cur s)) ∧ M.1 97 (795 * k + 2) = nI s.2.2.1 ∧ (∀ i, i < vMen s.1 → M.1 97 (795 * k + 3 + i) = nI (vBulk (cur s) i) ∧ M.1 97 (795 * k + 9 + i) = nI (vShade (cur s) i)) ∧ PA 97 (795 * k + 15) s M
def KP (s : Ns) (M : Mm) (k : Nat) : Prop := (M.1 (35 + 11 * k) 0 = 0 ∧ M.1 98 k = 0) ∨ (M.1 98 k = 1 ∧ 0 < vMen s.1 ∧ ∃ s', okN s' ∧ sb s'.1 s.1 ∧ CN (35 + 11 * k) s' M ∧ XK k s' M)
def RN (M : Mm) : Prop := ∃ s, okN s ∧ CN 24 s M ∧ XN s M ∧ ∀ k, k < 3 → KP s M k
def RT (M : Mm) : Prop := M.1 0 8 = M.1 86 19 ∧ M.1 0 9 = M.1 86 16 ∧ M.2 0 10 = M.2 86 17 ∧ M.2 0 11 = M.2 86 18 ∧ ∀ f, f < 6 → M.1 80 f = M.1 99 f
def RRi (M : Mm) (r : Nat) : Prop := (M.1 (1 + r) 0 = 0 ∧ M.1 88 r = -9) ∨ (M.1 (1 + r) 0 = 1 ∧ ∃ n, n ≤ 40 ∧ M.1 (1 + r) 1 = nI n ∧ M.1 88 r = nI n ∧ ∀ j, j < n → M.1 (1 + r + 6) j = M.1 87 (40 * r + j))
def RR (M : Mm) : Prop := ∀ r, r < 6 → RRi M r
def RXi (M : Mm) (r : Nat) : Prop := (M.1 (13 + r) 0 = 0 ∧ M.1 90 r = -9) ∨ (M.1 (13 + r) 0 = 1 ∧ ∃ n, n ≤ 60 ∧ M.1 (13 + r) 1 = nI n ∧ M.1 90 r = nI n ∧ ∀ j, j < n → M.1 (13 + r + 4) j = M.1 89 (60 * r + j))
def RX (M : Mm) : Prop := ∀ r, r < 4 → RXi M r
def Rel (M : Mm) : Prop := RT M ∧ RR M ∧ RX M ∧ RN M
def sT (x j : Nat) : Prop := (x = 0 ∧ (j = 8 ∨ j = 9 ∨ j = 10 ∨ j = 11)) ∨ x = 80 ∨ (x = 86 ∧ (j = 16 ∨ j = 17 ∨ j = 18 ∨ j = 19)) ∨ x = 99
def sR (x : Nat) : Prop := (1 ≤ x ∧ x ≤ 12) ∨ x = 87 ∨ x = 88
def sX (x : Nat) : Prop := (13 ≤ x ∧ x ≤ 20) ∨ x = 89 ∨ x = 90
def sN (x j : Nat) : Prop := (24 ≤ x ∧ x ≤ 67) ∨ (x = 86 ∧ (j = 4 ∨ j = 10 ∨ j = 11 ∨ j = 12)) ∨ (91 ≤ x ∧ x ≤ 98)
theorem RT.out {P : Nat → Nat → Prop} {M M' : Mm} (h : RT M) (o : Out P M M') (hp : ∀ x j, P x j → ¬ sT x j) : RT M' := by
  have g : ∀ x j, sT x j → M'.1 x j = M.1 x j ∧ M'.2 x j = M.2 x j := fun x j s => o x j fun q => hp x j q s
  obtain ⟨a, b, c, d, e⟩ := h
  refine ⟨?_, ?_, ?_, ?_, fun f hf => ?_⟩
  · rw [(g 0 8 (by unfold sT; omega)).1, (g 86 19 (by unfold sT; omega)).1, a]
  · rw [(g 0 9 (by unfold sT; omega)).1, (g 86 16 (by unfold sT; omega)).1, b]
  · rw [(g 0 10 (by unfold sT; omega)).2, (g 86 17 (by unfold sT; omega)).2, c]
  · rw [(g 0 11 (by unfold sT; omega)).2, (g 86 18 (by unfold sT; omega)).2, d]
  · rw [(g 80 f (by unfold sT; omega)).1, (g 99 f (by unfold sT; omega)).1, e f hf]
theorem RRi.out {P : Nat → Nat → Prop} {M M' : Mm} {r : Nat} (hr : r < 6) (h : RRi M r) (o : Out P M M') (hp : ∀ x j, P x j → ¬ (x = 1 + r ∨ x = 1 + r + 6 ∨ (x = 88 ∧ j = r) ∨ (x = 87 ∧ 40 * r ≤ j ∧ j < 40 * r + 40))) : RRi M' r := by
  have g1 : ∀ j, M'.1 (1 + r) j = M.1 (1 + r) j := fun j => (o _ j fun q => hp _ _ q (Or.inl rfl)).1
  have g2 : ∀ j, M'.1 (1 + r + 6) j = M.1 (1 + r + 6) j := fun j => (o _ j fun q => hp _ _ q (Or.inr (Or.inl rfl))).1
  have g3 : M'.1 88 r = M.1 88 r := (o _ _ fun q => hp _ _ q (by omega)).1
  have g4 : ∀ j, j < 40 → M'.1 87 (40 * r + j) = M.1 87 (40 * r + j) := fun j hj => (o _ _ fun q => hp _ _ q (by omega)).1
  rcases h with ⟨a, b⟩ | ⟨a, n, hn, b, c, d⟩
  · exact Or.inl ⟨(g1 0).trans a, g3.trans b⟩
  · exact Or.inr ⟨(g1 0).trans a, n, hn, (g1 1).trans b, g3.trans c, fun j hj => by rw [g2, g4 j (by omega), d j hj]⟩
theorem RR.out {P : Nat → Nat → Prop} {M M' : Mm} (h : RR M) (o : Out P M M') (hp : ∀ x j, P x j → ¬ sR x) : RR M' := fun r hr => (h r hr).out hr o fun x j q s => hp x j q (by unfold sR; omega)
theorem RXi.out {P : Nat → Nat → Prop} {M M' : Mm} {r : Nat} (hr : r < 4) (h : RXi M r) (o : Out P M M') (hp : ∀ x j, P x j → ¬ (x = 13 + r ∨ x = 13 + r + 4 ∨ (x = 90 ∧ j = r) ∨ (x = 89 ∧ 60 * r ≤ j ∧ j < 60 * r + 60))) : RXi M' r := by
  have g1 : ∀ j, M'.1 (13 + r) j = M.1 (13 + r) j := fun j => (o _ j fun q => hp _ _ q (Or.inl rfl)).1
  have g2 : ∀ j, M'.1 (13 + r + 4) j = M.1 (13 + r + 4) j := fun j => (o _ j fun q => hp _ _ q (Or.inr (Or.inl rfl))).1
  have g3 : M'.1 90 r = M.1 90 r := (o _ _ fun q => hp _ _ q (by omega)).1
  have g4 : ∀ j, j < 60 → M'.1 89 (60 * r + j) = M.1 89 (60 * r + j) := fun j hj => (o _ _ fun q => hp _ _ q (by omega)).1
  rcases h with ⟨a, b⟩ | ⟨a, n, hn, b, c, d⟩
  · exact Or.inl ⟨(g1 0).trans a, g3.trans b⟩
  · exact Or.inr ⟨(g1 0).trans a, n, hn, (g1 1).trans b, g3.trans c, fun j hj => by rw [g2, g4 j (by omega), d j hj]⟩
theorem RX.out {P : Nat → Nat → Prop} {M M' : Mm} (h : RX M) (o : Out P M M') (hp : ∀ x j, P x j → ¬ sX x) : RX M' := fun r hr => (h r hr).out hr o fun x j q s => hp x j q (by unfold sX; omega)
theorem CN.cg {c : Nat} {s : Ns} {M M' : Mm} (h : CN c s M) (g : ∀ x, c ≤ x → x ≤ c + 10 → M'.1 x = M.1 x) : CN c s M' := by
  unfold CN
  rw [g c (by omega) (by omega), g (c + 1) (by omega) (by omega), g (c + 2) (by omega) (by omega), g (c + 3) (by omega) (by omega), g (c + 4) (by omega) (by omega), g (c + 5) (by omega) (by omega), g (c + 6) (by omega) (by omega), g (c + 7) (by omega) (by omega), g (c + 8) (by omega) (by omega), g (c + 9) (by omega) (by omega), g (c + 10) (by omega) (by omega)]
  exact h
theorem PA.cg {c o : Nat} {s : Ns} {M M' : Mm} (h : PA c o s M) (g : M'.1 c = M.1 c) : PA c o s M' := by
  unfold PA
  rw [g]
  exact h
theorem XV.cg {v : NV} {M M' : Mm} (h : XV v M) (g : ∀ c, 91 ≤ c → c ≤ 95 → M'.1 c = M.1 c) (g4 : M'.1 86 4 = M.1 86 4) (g10 : M'.1 86 10 = M.1 86 10) (g11 : M'.1 86 11 = M.1 86 11) : XV v M' := by
  unfold XV
  rw [g 91 (by decide) (by decide), g 92 (by decide) (by decide), g 93 (by decide) (by decide), g 94 (by decide) (by decide), g 95 (by decide) (by decide), g4, g10, g11]
  exact h
theorem XN.cg {s : Ns} {M M' : Mm} (h : XN s M) (g : ∀ c, 91 ≤ c → c ≤ 96 → M'.1 c = M.1 c) (g4 : M'.1 86 4 = M.1 86 4) (g10 : M'.1 86 10 = M.1 86 10) (g11 : M'.1 86 11 = M.1 86 11) (g12 : M'.1 86 12 = M.1 86 12) : XN s M' :=
  ⟨h.1.cg (fun c h1 h2 => g c h1 (by omega)) g4 g10 g11, g12.trans h.2.1, h.2.2.cg (g 96 (by decide) (by decide))⟩
theorem XK.cg {k : Nat} {s : Ns} {M M' : Mm} (h : XK k s M) (g : M'.1 97 = M.1 97) : XK k s M' := by
  unfold XK PA
  rw [g]
  exact h
theorem KP.cg {k : Nat} (hk : k < 3) {s : Ns} {M M' : Mm} (h : KP s M k) (g : ∀ c, 35 ≤ c → c ≤ 67 → M'.1 c = M.1 c) (g7 : M'.1 97 = M.1 97) (g8 : M'.1 98 = M.1 98) : KP s M' k := by
  unfold KP
  rw [g8]
  rcases h with ⟨a, b⟩ | ⟨a, b, s', c1, c2, c3, c4⟩
  · exact Or.inl ⟨by rw [g _ (by omega) (by omega)]; exact a, b⟩
  · exact Or.inr ⟨a, b, s', c1, c2, c3.cg (fun x h1 h2 => g x (by omega) (by omega)), c4.cg g7⟩
theorem Out.f {P : Nat → Nat → Prop} {M M' : Mm} (o : Out P M M') {c : Nat} (h : ∀ j, ¬ P c j) : M'.1 c = M.1 c := funext fun j => (o c j (h j)).1
theorem RN.out {P : Nat → Nat → Prop} {M M' : Mm} (h : RN M) (o : Out P M M') (hp : ∀ x j, P x j → ¬ sN x j) : RN M' := by
  have g1 : ∀ c, 24 ≤ c → c ≤ 67 → M'.1 c = M.1 c := fun c h1 h2 => o.f fun j q => hp c j q (by unfold sN; omega)
  have g2 : ∀ c, 91 ≤ c → c ≤ 98 → M'.1 c = M.1 c := fun c h1 h2 => o.f fun j q => hp c j q (by unfold sN; omega)
  have g3 : ∀ j, (j = 4 ∨ j = 10 ∨ j = 11 ∨ j = 12) → M'.1 86 j = M.1 86 j := fun j hj => (o 86 j fun q => hp 86 j q (by unfold sN; omega)).1
  obtain ⟨s, a, b, c, d⟩ := h
  exact ⟨s, a, b.cg (fun x h1 h2 => g1 x h1 (by omega)), c.cg (fun x h1 h2 => g2 x h1 (by omega)) (g3 4 (by omega)) (g3 10 (by omega)) (g3 11 (by omega)) (g3 12 (by omega)), fun k hk => (d k hk).cg hk (fun x h1 h2 => g1 x (by omega) h2) (g2 97 (by decide) (by decide)) (g2 98 (by decide) (by decide))⟩
theorem CN.cv {s : Ns} {M : Mm} (h : CN 24 s M) : CV (cur s) M := by
  have b := cur_sb s
  obtain ⟨h1, h2, h3, h4, h5, h6, h7⟩ := h
  unfold CV
  rw [b.1, b.2.1, b.2.2.1, b.2.2.2]
  exact ⟨h1, h2, h3, h5, fun i hi => ⟨(h6 i hi).1, (h6 i hi).2.1, (h6 i hi).2.2.1, (h6 i hi).2.2.2.1⟩⟩
/-- all above stays; all below stays -/
def Lo (M M' : Mm) : Prop := ∀ x j, 86 ≤ x → M'.1 x j = M.1 x j ∧ M'.2 x j = M.2 x j
def Hi (M M' : Mm) : Prop := ∀ x j, x < 86 → M'.1 x j = M.1 x j ∧ M'.2 x j = M.2 x j
theorem Lo.of {P : Nat → Nat → Prop} {M M' : Mm} (o : Out P M M') (hp : ∀ x j, P x j → x < 86) : Lo M M' := fun x j hx => o x j fun q => by have := hp x j q; omega
theorem Hi.of {P : Nat → Nat → Prop} {M M' : Mm} (o : Out P M M') (hp : ∀ x j, P x j → 86 ≤ x) : Hi M M' := fun x j hx => o x j fun q => by have := hp x j q; omega
theorem Lo.rf (M : Mm) : Lo M M := fun _ _ _ => ⟨rfl, rfl⟩
theorem Lo.f {M M' : Mm} (o : Lo M M') {c : Nat} (h : 86 ≤ c) : M'.1 c = M.1 c := funext fun j => (o c j h).1
theorem Hi.f {M M' : Mm} (o : Hi M M') {c : Nat} (h : c < 86) : M'.1 c = M.1 c := funext fun j => (o c j h).1
theorem XV.lo {v : NV} {M M' : Mm} (h : XV v M) (o : Lo M M') : XV v M' := h.cg (fun c h1 _ => o.f (by omega)) (o 86 4 (by decide)).1 (o 86 10 (by decide)).1 (o 86 11 (by decide)).1
theorem XN.lo {s : Ns} {M M' : Mm} (h : XN s M) (o : Lo M M') : XN s M' := h.cg (fun c h1 _ => o.f (by omega)) (o 86 4 (by decide)).1 (o 86 10 (by decide)).1 (o 86 11 (by decide)).1 (o 86 12 (by decide)).1
theorem CV.hi {v : NV} {M M' : Mm} (h : CV v M) (o : Hi M M') : CV v M' := h.cg fun c _ h2 => o.f (by omega)
theorem CN.hi {c : Nat} (hc : c ≤ 60) {s : Ns} {M M' : Mm} (h : CN c s M) (o : Hi M M') : CN c s M' := h.cg fun x _ h2 => o.f (by omega)
/-- Rel, where neither what is told nor the rest that lasts changes -/
theorem Rel.out {P : Nat → Nat → Prop} {M M' : Mm} (h : Rel M) (o : Out P M M') (hp : ∀ x j, P x j → ¬ (sT x j ∨ sR x ∨ sX x ∨ sN x j)) : Rel M' :=
  ⟨h.1.out o fun x j q s => hp x j q (Or.inl s), h.2.1.out o fun x j q s => hp x j q (Or.inr (Or.inl s)), h.2.2.1.out o fun x j q s => hp x j q (Or.inr (Or.inr (Or.inl s))), h.2.2.2.out o fun x j q s => hp x j q (Or.inr (Or.inr (Or.inr s)))⟩
/-- Rel, where only what is told changes -/
theorem Rel.told {P : Nat → Nat → Prop} {M M' : Mm} (h : Rel M) (o : Out P M M') (hp : ∀ x j, P x j → ¬ (sR x ∨ sX x ∨ sN x j)) (ht : RT M') : Rel M' :=
  ⟨ht, h.2.1.out o fun x j q s => hp x j q (Or.inl s), h.2.2.1.out o fun x j q s => hp x j q (Or.inr (Or.inl s)), h.2.2.2.out o fun x j q s => hp x j q (Or.inr (Or.inr s))⟩
/-- what a finding does -/
def fC (f : Nat) (M : Mm) : Mm := pI (pI M 0 8 (nI f)) 80 f (M.1 80 f + 1)
def fX (f : Nat) (M : Mm) : Mm := pI (pI M 86 19 (nI f)) 99 f (M.1 99 f + 1)
def tC (x : Int32) (M : Mm) : Mm := pI M 0 9 x
def tX (x : Int32) (M : Mm) : Mm := pI M 86 16 x
theorem found_C {fu : Nat} {M : Mm} {f : Nat} (hf : f < 6) : F_X6_found fu M (nI f) = some (-3, fC f M) := by
  unfold F_X6_found
  rw [lt1_s, rd80 hf, ob1_s, wr80 hf, ob1_s, pI_n (by omega)]
  rfl
theorem finds_X {fu : Nat} {M : Mm} {f : Nat} (hf : f < 6) : F_X7_finds fu M (nI f) = some (-3, fX f M) := by
  unfold F_X7_finds
  rw [lt1_s, xr99 hf, xr99 hf, clN (by omega), lt1_s, pI_n (by omega)]
  rfl
theorem tell_C {fu : Nat} {M : Mm} {x : Int32} : F_X6_tell fu M x = some (1, tC x M) := rfl
theorem tells_X {fu : Nat} {M : Mm} {x : Int32} : F_X7_tells fu M x = some (1, tX x M) := rfl
theorem fC_out (f : Nat) (M : Mm) : Out (fun x j => (x = 0 ∧ j = 8) ∨ x = 80) M (fC f M) := ((Out.rf).pI (by omega)).pI (by omega)
theorem fX_out (f : Nat) (M : Mm) : Out (fun x j => (x = 86 ∧ j = 19) ∨ x = 99) M (fX f M) := ((Out.rf).pI (by omega)).pI (by omega)
theorem tC_out (x : Int32) (M : Mm) : Out (fun x j => x = 0 ∧ j = 9) M (tC x M) := (Out.rf).pI (by omega)
theorem tX_out (x : Int32) (M : Mm) : Out (fun x j => x = 86 ∧ j = 16) M (tX x M) := (Out.rf).pI (by omega)
theorem fC_lo (f : Nat) (M : Mm) : Lo M (fC f M) := Lo.of (fC_out f M) fun x j q => by omega
theorem tC_lo (x : Int32) (M : Mm) : Lo M (tC x M) := Lo.of (tC_out x M) fun x j q => by omega
theorem Rel.f {M : Mm} (h : Rel M) {f : Nat} (hf : f < 6) : Rel (fX f (fC f M)) := by
  have o : Out (fun x j => (x = 0 ∧ j = 8) ∨ x = 80 ∨ (x = 86 ∧ j = 19) ∨ x = 99) M (fX f (fC f M)) := ((fC_out f M).wk fun x j q => by omega).trans ((fX_out f (fC f M)).wk fun x j q => by omega)
  refine h.told o (fun x j q => by unfold sR sX sN; omega) ?_
  obtain ⟨a, b, c, d, e⟩ := h.1
  have lo := fC_lo f M
  refine ⟨?_, ?_, ?_, ?_, fun g hg => ?_⟩
  · unfold fX
    rw [pI_n (by omega), pI_n (by omega), pI_n (by omega), pI_s]
    unfold fC
    rw [pI_n (by omega), pI_s]
  · rw [(o 0 9 (by omega)).1, (o 86 16 (by omega)).1, b]
  · rw [(o 0 10 (by omega)).2, (o 86 17 (by omega)).2, c]
  · rw [(o 0 11 (by omega)).2, (o 86 18 (by omega)).2, d]
  · unfold fX
    rw [pI_n (by omega), pI_n (by omega), (lo 99 f (by decide)).1, ← e f hf]
    by_cases hgf : g = f
    · subst hgf
      rw [pI_s]
      unfold fC
      rw [pI_s]
    · rw [pI_n (by omega), pI_n (by omega), (lo 99 g (by decide)).1, ← e g hg]
      unfold fC
      rw [pI_n (by omega), pI_n (by omega)]
theorem Rel.t {M : Mm} (h : Rel M) (x : Int32) : Rel (tX x (tC x M)) := by
  have o : Out (fun x j => (x = 0 ∧ j = 9) ∨ (x = 86 ∧ j = 16)) M (tX x (tC x M)) := ((tC_out x M).wk fun x j q => by omega).trans ((tX_out x (tC x M)).wk fun x j q => by omega)
  refine h.told o (fun x j q => by unfold sR sX sN; omega) ?_
  obtain ⟨a, b, c, d, e⟩ := h.1
  refine ⟨?_, ?_, ?_, ?_, fun g hg => ?_⟩
  · rw [(o 0 8 (by omega)).1, (o 86 19 (by omega)).1, a]
  · unfold tX
    rw [pI_n (by omega), pI_s]
    unfold tC
    rw [pI_s]
  · rw [(o 0 10 (by omega)).2, (o 86 17 (by omega)).2, c]
  · rw [(o 0 11 (by omega)).2, (o 86 18 (by omega)).2, d]
  · rw [(o 80 g (by omega)).1, (o 99 g (by omega)).1, e g hg]
