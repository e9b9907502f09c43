/-! THE FLAT MEMORY: every object and row of the two systems has a number (its code); nothing is made after the two constructors. M.1 x j: the int in slot j of code x; M.2 x j: the long there. -/
abbrev Gv : Type := va_G × (Nat → Nat) × (Nat → ClassId)
abbrev Mm : Type := (Nat → Nat → Int32) × (Nat → Nat → Int64)
def zNC : Nat := 87
def zkL : List Nat := [10, 12, 12, 12, 12, 12, 12, 1, 1, 1, 1, 1, 1, 13, 13, 13, 13, 0, 0, 0, 0, 5, 6, 4, 11, 1, 1, 1, 1, 1, 1, 1, 1, 1, 1, 11, 1, 1, 1, 1, 1, 1, 1, 1, 1, 1, 11, 1, 1, 1, 1, 1, 1, 1, 1, 1, 1, 11, 1, 1, 1, 1, 1, 1, 1, 1, 1, 1, 14, 1, 1, 1, 1, 1, 15, 1, 1, 16, 2, 2, 1, 1, 1, 1, 1, 1, 1]
def zlL : List Nat := [0, 0, 0, 0, 0, 0, 0, 40, 40, 40, 40, 40, 40, 0, 0, 0, 0, 60, 60, 60, 60, 0, 0, 0, 0, 8, 6, 6, 6, 6, 6, 6, 60, 60, 60, 0, 8, 6, 6, 6, 6, 6, 6, 60, 60, 60, 0, 8, 6, 6, 6, 6, 6, 6, 60, 60, 60, 0, 8, 6, 6, 6, 6, 6, 6, 60, 60, 60, 0, 8, 6, 6, 6, 6, 0, 6, 6, 0, 100, 100, 6, 61, 6, 6, 6, 64, 40]
/-- kind of a code: 0 bytes, 1 ints, 2 longs, 3 booleans, 4 5 6 rows of norths, rows, texts; 10 the first system, 11 a north, 12 a row, 13 a text, 14 the reading, 15 the game, 16 the clouds, 17 the second system -/
def kd (x : Nat) : Nat := zkL.getD x 99
def ln (x : Nat) : Nat := zlL.getD x 0
def ad (G : Gv) (x : Nat) : Nat := G.2.1 x
def zfS (G : Gv) (f : Nat → Int32) (g : Nat → Int64) : List Value := [.ref (ad G 21), .ref (ad G 22), .ref (ad G 24), .ref (ad G 23), .ref (ad G 68), .ref (ad G 74), .ref (ad G 77), .ref (ad G 80), .int (f 8), .int (f 9), .long (g 10), .long (g 11), .ref (ad G 81), .ref (ad G 82), .ref (ad G 83), .ref (ad G 84), .ref (ad G 85)]
def zfN (G : Gv) (x : Nat) (f : Nat → Int32) (_ : Nat → Int64) : List Value := [.int (f 0), .int (f 1), .int (f 2), .int (f 3), .ref (ad G (x + 1)), .ref (ad G (x + 2)), .ref (ad G (x + 3)), .ref (ad G (x + 4)), .ref (ad G (x + 5)), .ref (ad G (x + 6)), .ref (ad G (x + 7)), .ref (ad G (x + 8)), .ref (ad G (x + 9)), .ref (ad G (x + 10))]
def zfR (G : Gv) (x : Nat) (f : Nat → Int32) (_ : Nat → Int64) : List Value := [.int (f 0), .int (f 1), .ref (ad G (x + 6))]
def zfT (G : Gv) (x : Nat) (f : Nat → Int32) (_ : Nat → Int64) : List Value := [.int (f 0), .int (f 1), .ref (ad G (x + 4))]
def zfD (G : Gv) (f : Nat → Int32) (_ : Nat → Int64) : List Value := [.int (f 0), .int (f 1), .int (f 2), .ref (ad G 69), .ref (ad G 70), .ref (ad G 71), .ref (ad G 72), .ref (ad G 73)]
def zfG (G : Gv) (f : Nat → Int32) (g : Nat → Int64) : List Value := [.int (f 0), .int (f 1), .long (g 2), .ref (ad G 75), .ref (ad G 76)]
def zfC (G : Gv) (_ : Nat → Int32) (g : Nat → Int64) : List Value := [.ref (ad G 78), .ref (ad G 79), .long (g 2)]
def zE (G : Gv) (f : Nat → Int32) (g : Nat → Int64) (x : Nat) : va_E := match kd x with
  | 0 => .inl (G.2.2 0, ln x, .inl f)
  | 1 => .inl (G.2.2 1, ln x, .inl f)
  | 2 => .inl (G.2.2 2, ln x, .inr (.inl g))
  | 3 => .inl (G.2.2 3, ln x, .inl f)
  | 4 => .inl (G.2.2 4, 3, .inr (.inr (.inr (.inr (fun i => some (ad G (35 + 11 * i)))))))
  | 5 => .inl (G.2.2 5, 6, .inr (.inr (.inr (.inr (fun i => some (ad G (1 + i)))))))
  | 6 => .inl (G.2.2 6, 4, .inr (.inr (.inr (.inr (fun i => some (ad G (13 + i)))))))
  | 10 => .inr (6, zfS G f g)
  | 11 => .inr (2, zfN G x f g)
  | 12 => .inr (4, zfR G x f g)
  | 13 => .inr (5, zfT G x f g)
  | 14 => .inr (3, zfD G f g)
  | 15 => .inr (1, zfG G f g)
  | _ => .inr (0, zfC G f g)
def zwL (G : Gv) (M : Mm) : va_W := (List.range zNC).map (fun x => (ad G x, zE G (M.1 x) (M.2 x) x))
def zA (G : Gv) : Nat → Prop := fun q => ∃ x, x < zNC ∧ q = ad G x
def ztyL (G : Gv) : List (ClassId × FieldType) := [(G.2.2 0, .byte), (G.2.2 1, .int), (G.2.2 2, .long), (G.2.2 3, .int), (G.2.2 4, .object "SnowCitizens$North"), (G.2.2 5, .object "SnowCitizens$Row"), (G.2.2 6, .object "SnowCitizens$Text")]
def znw : List (String × Nat × MethodName) := [(RX6, 23, yX2_init), (RX6, 34, yX3_init), (RX6, 41, yX1_init), (RX6, 48, yX0_init), (RX6, 76, yX4_init), (RX6, 77, yX5_init), (RX2, 81, yX6_read), (RX2, 125, yX6_isIn), (RX2, 73, yX6_write), (RX2, 56, yX6_writeAll), (RX4, 23, yX6_writeAll), (RX0, 28, yX6_read), (RX2, 143, yX6_isOfKind), (RX3, 59, yX6_write), (RX3, 66, yX6_read)]
def zNW (U : State) : Prop := ∀ (i : Nat) (q : String × Nat × MethodName), znw[i]? = some q → va_Nw (.methodLinkNest q.1 q.2.1 q.2.2 "SnowCitizens") U
/-- the world of a start or an end -/
def Wd (G : Gv) (M : Mm) (U : State) : Prop := va_K G.1 vwCl (ztyL G) U ∧ va_P G.1 vwCl (zwL G M) U.heap ∧ va_D (zA G) (zwL G M) ∧ zNW U
/-- the world on the way -/
def St (G : Gv) (s : State) (H : Heap) (locs : List Loc) (M : Mm) : Prop := va_K G.1 vwCl (ztyL G) s ∧ va_P G.1 vwCl (zwL G M) H ∧ va_D (zA G) (zwL G M) ∧ zNW s ∧ va_S (zA G) s.heap H locs
def pI (M : Mm) (x j : Nat) (v : Int32) : Mm := (fun a => if a = x then upd (M.1 x) j v else M.1 a, M.2)
def pL (M : Mm) (x j : Nat) (v : Int64) : Mm := (M.1, fun a => if a = x then vp_updL (M.2 x) j v else M.2 a)
def pC (M : Mm) (x y sp dp n : Nat) : Mm := (fun a => if a = y then va_cpy (M.1 x) (M.1 y) sp dp n else M.1 a, M.2)
theorem kd_lt {x k : Nat} (h : kd x = k) (hk : k ≠ 99) : x < zNC := by
  refine Nat.lt_of_not_le fun q => hk ?_
  rw [← h]
  unfold kd
  rw [List.getD_eq_getElem?_getD, List.getElem?_eq_none (by exact q)]
  rfl
theorem zkeys {P : Nat → Prop} (h : ∀ x, x < zNC → P x) {x k : Nat} (hx : kd x = k) (hk : k ≠ 99) : P x := h x (kd_lt hx hk)
theorem kdN {b : Nat} (h : kd b = 11) : b = 24 ∨ b = 35 ∨ b = 46 ∨ b = 57 := zkeys (P := fun b => kd b = 11 → b = 24 ∨ b = 35 ∨ b = 46 ∨ b = 57) (by decide +kernel) h (by decide) h
theorem kdR {b : Nat} (h : kd b = 12) : b = 1 ∨ b = 2 ∨ b = 3 ∨ b = 4 ∨ b = 5 ∨ b = 6 := zkeys (P := fun b => kd b = 12 → b = 1 ∨ b = 2 ∨ b = 3 ∨ b = 4 ∨ b = 5 ∨ b = 6) (by decide +kernel) h (by decide) h
theorem kdT {b : Nat} (h : kd b = 13) : b = 13 ∨ b = 14 ∨ b = 15 ∨ b = 16 := zkeys (P := fun b => kd b = 13 → b = 13 ∨ b = 14 ∨ b = 15 ∨ b = 16) (by decide +kernel) h (by decide) h
theorem kdRc {b : Nat} (h : kd b = 12) : kd (b + 6) = 1 := by rcases kdR h with rfl | rfl | rfl | rfl | rfl | rfl <;> rfl
theorem kdTc {b : Nat} (h : kd b = 13) : kd (b + 4) = 0 := by rcases kdT h with rfl | rfl | rfl | rfl <;> rfl
theorem lnRc {b : Nat} (h : kd b = 12) : ln (b + 6) = 40 := by rcases kdR h with rfl | rfl | rfl | rfl | rfl | rfl <;> rfl
theorem lnTc {b : Nat} (h : kd b = 13) : ln (b + 4) = 60 := by rcases kdT h with rfl | rfl | rfl | rfl <;> rfl
theorem kdN1 {b : Nat} (h : kd b = 11) : kd (b + 1) = 1 := by rcases kdN h with rfl | rfl | rfl | rfl <;> rfl
theorem lnN1 {b : Nat} (h : kd b = 11) : ln (b + 1) = 8 := by rcases kdN h with rfl | rfl | rfl | rfl <;> rfl
theorem kdN2 {b : Nat} (h : kd b = 11) : kd (b + 2) = 1 := by rcases kdN h with rfl | rfl | rfl | rfl <;> rfl
theorem lnN2 {b : Nat} (h : kd b = 11) : ln (b + 2) = 6 := by rcases kdN h with rfl | rfl | rfl | rfl <;> rfl
theorem kdN3 {b : Nat} (h : kd b = 11) : kd (b + 3) = 1 := by rcases kdN h with rfl | rfl | rfl | rfl <;> rfl
theorem lnN3 {b : Nat} (h : kd b = 11) : ln (b + 3) = 6 := by rcases kdN h with rfl | rfl | rfl | rfl <;> rfl
theorem kdN4 {b : Nat} (h : kd b = 11) : kd (b + 4) = 1 := by rcases kdN h with rfl | rfl | rfl | rfl <;> rfl
theorem lnN4 {b : Nat} (h : kd b = 11) : ln (b + 4) = 6 := by rcases kdN h with rfl | rfl | rfl | rfl <;> rfl
theorem kdN5 {b : Nat} (h : kd b = 11) : kd (b + 5) = 1 := by rcases kdN h with rfl | rfl | rfl | rfl <;> rfl
theorem lnN5 {b : Nat} (h : kd b = 11) : ln (b + 5) = 6 := by rcases kdN h with rfl | rfl | rfl | rfl <;> rfl
theorem kdN6 {b : Nat} (h : kd b = 11) : kd (b + 6) = 1 := by rcases kdN h with rfl | rfl | rfl | rfl <;> rfl
theorem lnN6 {b : Nat} (h : kd b = 11) : ln (b + 6) = 6 := by rcases kdN h with rfl | rfl | rfl | rfl <;> rfl
theorem kdN7 {b : Nat} (h : kd b = 11) : kd (b + 7) = 1 := by rcases kdN h with rfl | rfl | rfl | rfl <;> rfl
theorem lnN7 {b : Nat} (h : kd b = 11) : ln (b + 7) = 6 := by rcases kdN h with rfl | rfl | rfl | rfl <;> rfl
theorem kdN8 {b : Nat} (h : kd b = 11) : kd (b + 8) = 1 := by rcases kdN h with rfl | rfl | rfl | rfl <;> rfl
theorem lnN8 {b : Nat} (h : kd b = 11) : ln (b + 8) = 60 := by rcases kdN h with rfl | rfl | rfl | rfl <;> rfl
theorem kdN9 {b : Nat} (h : kd b = 11) : kd (b + 9) = 1 := by rcases kdN h with rfl | rfl | rfl | rfl <;> rfl
theorem lnN9 {b : Nat} (h : kd b = 11) : ln (b + 9) = 60 := by rcases kdN h with rfl | rfl | rfl | rfl <;> rfl
theorem kdN10 {b : Nat} (h : kd b = 11) : kd (b + 10) = 1 := by rcases kdN h with rfl | rfl | rfl | rfl <;> rfl
theorem lnN10 {b : Nat} (h : kd b = 11) : ln (b + 10) = 60 := by rcases kdN h with rfl | rfl | rfl | rfl <;> rfl
theorem kdRi {i : Int32} (h : ¬ (i < 0 ∨ 6 ≤ i.toNatClampNeg)) : kd (1 + i.toNatClampNeg) = 12 := by
  have h2 : i.toNatClampNeg < 6 := by omega
  have : ∀ j, j < 6 → kd (1 + j) = 12 := by decide +kernel
  exact this _ h2
theorem kdTi {i : Int32} (h : ¬ (i < 0 ∨ 4 ≤ i.toNatClampNeg)) : kd (13 + i.toNatClampNeg) = 13 := by
  have h2 : i.toNatClampNeg < 4 := by omega
  have : ∀ j, j < 4 → kd (13 + j) = 13 := by decide +kernel
  exact this _ h2
theorem kdNi {i : Int32} (h : ¬ (i < 0 ∨ 3 ≤ i.toNatClampNeg)) : kd (35 + 11 * i.toNatClampNeg) = 11 := by
  have h2 : i.toNatClampNeg < 3 := by omega
  have : ∀ j, j < 3 → kd (35 + 11 * j) = 11 := by decide +kernel
  exact this _ h2
theorem ln_lt (x : Nat) : ln x < 2 ^ 31 := by
  by_cases h : x < zNC
  · have : ∀ x, x < zNC → ln x < 2 ^ 31 := by decide +kernel
    exact this x h
  · unfold ln
    rw [List.getD_eq_getElem?_getD, List.getElem?_eq_none (by exact Nat.not_lt.mp h)]
    decide
theorem zwL_get {G : Gv} {M : Mm} {x : Nat} (hx : x < zNC) : (zwL G M)[x]? = some (ad G x, zE G (M.1 x) (M.2 x) x) := by
  unfold zwL
  rw [List.getElem?_map, List.getElem?_range hx]
  rfl
theorem zwL_set {G : Gv} {M M' : Mm} {x : Nat} (hx : x < zNC) (h : ∀ a, a ≠ x → M'.1 a = M.1 a ∧ M'.2 a = M.2 a) : (zwL G M).set x (ad G x, zE G (M'.1 x) (M'.2 x) x) = zwL G M' := by
  apply List.ext_getElem?
  intro j
  by_cases hj : j = x
  · subst hj
    rw [zwL_get hx, List.getElem?_set_self (by unfold zwL; simpa using hx)]
  · rw [List.getElem?_set_ne (Ne.symm hj)]
    by_cases hz : j < zNC
    · rw [zwL_get hz, zwL_get hz, (h j hj).1, (h j hj).2]
    · rw [List.getElem?_eq_none (by unfold zwL; simpa using hz), List.getElem?_eq_none (by unfold zwL; simpa using hz)]
theorem zD_of {G : Gv} {M M' : Mm} {A : Nat → Prop} (h : va_D A (zwL G M)) : va_D A (zwL G M') := by
  have key : ∀ (k : Nat) (q : Nat × va_E), (zwL G M')[k]? = some q → ∃ q0, (zwL G M)[k]? = some q0 ∧ q0.1 = q.1 := by
    intro k q hk
    have hl := (List.getElem?_eq_some_iff.mp hk).1
    have hx : k < zNC := by unfold zwL at hl; simpa using hl
    rw [zwL_get hx] at hk
    cases hk
    exact ⟨_, zwL_get hx, rfl⟩
  refine ⟨fun i j x y hi hj hxy => ?_, fun k q hk => ?_⟩
  · obtain ⟨x0, h1, h2⟩ := key i x hi
    obtain ⟨y0, h3, h4⟩ := key j y hj
    exact h.1 i j x0 y0 h1 h3 (h2.trans (hxy.trans h4.symm))
  · obtain ⟨q0, h1, h2⟩ := key k q hk
    rw [← h2]
    exact h.2 k q0 h1
theorem zA_in {G : Gv} {x : Nat} (hx : x < zNC) : zA G (ad G x) := ⟨x, hx, rfl⟩
theorem St.wd {G : Gv} {s t : State} {H : Heap} {locs : List Loc} {M : Mm} (h : St G s H locs M) (ht : t.heap = H) (hW : s.WarmedH t.vm) : Wd G M t := by
  obtain ⟨h1, h2, h3, h4, -⟩ := h
  refine ⟨va_K.moved hW.alike h1, by rw [ht]; exact h2, h3, fun i w hw => ?_⟩
  have h5 := h4 i w hw
  exact va_Nw.warmM hW h5
theorem St.F {G : Gv} {s t : State} {H : Heap} {locs : List Loc} {M : Mm} (h : St G s H locs M) (ht : t.heap = H) : va_F (zA G) s t := h.2.2.2.2.F ht
theorem Wd.blind {G : Gv} {M : Mm} {As : List Value} : FrameBlind (va_Pc As (Wd G M)) := fun a U g mk q => by
  obtain ⟨q0, q1, q2, q3, q4⟩ := q
  exact ⟨q0, va_K.moved (u := U) (U := U.calling g mk a) (Vm.Alike.refl U.vm) q1, q2, q3, fun i w hw => va_Nw.same rfl rfl (q4 i w hw)⟩
