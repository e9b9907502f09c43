/-! from the makers' cells to the flat memory; the law from its entry -/
def zoL : List Nat := [0, 33, 35, 37, 39, 41, 43, 34, 36, 38, 40, 42, 44, 45, 47, 49, 51, 46, 48, 50, 52, 1, 2, 14, 3, 4, 5, 6, 7, 8, 9, 10, 11, 12, 13, 53, 54, 55, 56, 57, 58, 59, 60, 61, 62, 63, 64, 65, 66, 67, 68, 69, 70, 71, 72, 73, 74, 75, 76, 77, 78, 79, 80, 81, 82, 83, 84, 85, 15, 16, 17, 18, 19, 20, 21, 22, 23, 24, 25, 26, 27, 28, 29, 30, 31, 32, 86]
def zoI : List Nat := [0, 21, 22, 24, 25, 26, 27, 28, 29, 30, 31, 32, 33, 34, 23, 68, 69, 70, 71, 72, 73, 74, 75, 76, 77, 78, 79, 80, 81, 82, 83, 84, 85, 1, 7, 2, 8, 3, 9, 4, 10, 5, 11, 6, 12, 13, 17, 14, 18, 15, 19, 16, 20, 35, 36, 37, 38, 39, 40, 41, 42, 43, 44, 45, 46, 47, 48, 49, 50, 51, 52, 53, 54, 55, 56, 57, 58, 59, 60, 61, 62, 63, 64, 65, 66, 67, 86]
def zo (x : Nat) : Nat := zoL.getD x 0
theorem zo_inv : ∀ x, x < zNC → zoI.getD (zo x) 0 = x := by decide +kernel
theorem zo_lt : ∀ x, x < zNC → zo x < 87 := by decide +kernel
theorem arrV_cg {cI : ClassId} {N : Nat} {f g : Nat → Value} (h : ∀ j, j < N → f j = g j) : arrV cI N f = arrV cI N g := by
  unfold arrV
  have : (fun j : Fin N => f j.val) = (fun j : Fin N => g j.val) := funext fun j => h _ j.isLt
  rw [this]
theorem zq_cg {cI : ClassId} {N : Nat} {f g : Nat → Option Nat} (h : ∀ j, j < N → f j = g j) : vp_cell cI (N, .inr (.inr (.inr (.inr f)))) = vp_cell cI (N, .inr (.inr (.inr (.inr g)))) := by
  rw [vp_cell_q, vp_cell_q]
  exact arrV_cg fun j hj => by rw [h j hj]
def es_all (G : Gv) (z : Nat) : List va_E := [.inr (6, [.ref (z + 1), .ref (z + 2), .ref (z + 3), .ref (z + 14), .ref (z + 15), .ref (z + 21), .ref (z + 24), .ref (z + 27), .int 0, .int 0, .long 0, .long (1 : Int64), .ref (z + 28), .ref (z + 29), .ref (z + 30), .ref (z + 31), .ref (z + 32)]), .inl (G.2.2 5, 6, .inr (.inr (.inr (.inr (va_up (va_up (va_up (va_up (va_up (va_up (fun _ => none) (0 : Int32).toNatClampNeg (some (z + 33))) (1 : Int32).toNatClampNeg (some (z + 35))) (2 : Int32).toNatClampNeg (some (z + 37))) (3 : Int32).toNatClampNeg (some (z + 39))) (4 : Int32).toNatClampNeg (some (z + 41))) (5 : Int32).toNatClampNeg (some (z + 43))))))), .inl (G.2.2 6, 4, .inr (.inr (.inr (.inr (va_up (va_up (va_up (va_up (fun _ => none) (0 : Int32).toNatClampNeg (some (z + 45))) (1 : Int32).toNatClampNeg (some (z + 47))) (2 : Int32).toNatClampNeg (some (z + 49))) (3 : Int32).toNatClampNeg (some (z + 51))))))), .inr (2, [.int 0, .int 0, .int 0, .int 0, .ref (z + 4), .ref (z + 5), .ref (z + 6), .ref (z + 7), .ref (z + 8), .ref (z + 9), .ref (z + 10), .ref (z + 11), .ref (z + 12), .ref (z + 13)]), .inl (G.2.2 1, 8, .inl (fun _ => 0)), .inl (G.2.2 1, 6, .inl (fun _ => 0)), .inl (G.2.2 1, 6, .inl (fun _ => 0)), .inl (G.2.2 1, 6, .inl (fun _ => 0)), .inl (G.2.2 1, 6, .inl (fun _ => 0)), .inl (G.2.2 1, 6, .inl (fun _ => 0)), .inl (G.2.2 1, 6, .inl (fun _ => 0)), .inl (G.2.2 1, 60, .inl (fun _ => 0)), .inl (G.2.2 1, 60, .inl (fun _ => 0)), .inl (G.2.2 1, 60, .inl (fun _ => 0)), .inl (G.2.2 4, 3, .inr (.inr (.inr (.inr (va_up (va_up (va_up (fun _ => none) (0 : Int32).toNatClampNeg (some (z + 53))) (1 : Int32).toNatClampNeg (some (z + 64))) (2 : Int32).toNatClampNeg (some (z + 75))))))), .inr (3, [.int 0, .int 0, .int 0, .ref (z + 16), .ref (z + 17), .ref (z + 18), .ref (z + 19), .ref (z + 20)]), .inl (G.2.2 1, 8, .inl (fun _ => 0)), .inl (G.2.2 1, 6, .inl (fun _ => 0)), .inl (G.2.2 1, 6, .inl (fun _ => 0)), .inl (G.2.2 1, 6, .inl (fun _ => 0)), .inl (G.2.2 1, 6, .inl (fun _ => 0)), .inr (1, [.int 0, .int 0, .long 0, .ref (z + 22), .ref (z + 23)]), .inl (G.2.2 1, 6, .inl (fun _ => 0)), .inl (G.2.2 1, 6, .inl (fun _ => 0)), .inr (0, [.ref (z + 25), .ref (z + 26), .long 0]), .inl (G.2.2 2, 100, .inr (.inl (fun _ => 0))), .inl (G.2.2 2, 100, .inr (.inl (fun _ => 0))), .inl (G.2.2 1, 6, .inl (fun _ => 0)), .inl (G.2.2 1, 61, .inl (fun _ => 0)), .inl (G.2.2 1, 6, .inl (fun _ => 0)), .inl (G.2.2 1, 6, .inl (fun _ => 0)), .inl (G.2.2 1, 6, .inl (fun _ => 0)), .inl (G.2.2 1, 64, .inl (fun _ => 0)), .inr (4, [.int 0, .int 0, .ref (z + 34)]), .inl (G.2.2 1, 40, .inl (fun _ => 0)), .inr (4, [.int 0, .int 0, .ref (z + 36)]), .inl (G.2.2 1, 40, .inl (fun _ => 0)), .inr (4, [.int 0, .int 0, .ref (z + 38)]), .inl (G.2.2 1, 40, .inl (fun _ => 0)), .inr (4, [.int 0, .int 0, .ref (z + 40)]), .inl (G.2.2 1, 40, .inl (fun _ => 0)), .inr (4, [.int 0, .int 0, .ref (z + 42)]), .inl (G.2.2 1, 40, .inl (fun _ => 0)), .inr (4, [.int 0, .int 0, .ref (z + 44)]), .inl (G.2.2 1, 40, .inl (fun _ => 0)), .inr (5, [.int 0, .int 0, .ref (z + 46)]), .inl (G.2.2 0, 60, .inl (fun _ => 0)), .inr (5, [.int 0, .int 0, .ref (z + 48)]), .inl (G.2.2 0, 60, .inl (fun _ => 0)), .inr (5, [.int 0, .int 0, .ref (z + 50)]), .inl (G.2.2 0, 60, .inl (fun _ => 0)), .inr (5, [.int 0, .int 0, .ref (z + 52)]), .inl (G.2.2 0, 60, .inl (fun _ => 0)), .inr (2, [.int 0, .int 0, .int 0, .int 0, .ref (z + 54), .ref (z + 55), .ref (z + 56), .ref (z + 57), .ref (z + 58), .ref (z + 59), .ref (z + 60), .ref (z + 61), .ref (z + 62), .ref (z + 63)]), .inl (G.2.2 1, 8, .inl (fun _ => 0)), .inl (G.2.2 1, 6, .inl (fun _ => 0)), .inl (G.2.2 1, 6, .inl (fun _ => 0)), .inl (G.2.2 1, 6, .inl (fun _ => 0)), .inl (G.2.2 1, 6, .inl (fun _ => 0)), .inl (G.2.2 1, 6, .inl (fun _ => 0)), .inl (G.2.2 1, 6, .inl (fun _ => 0)), .inl (G.2.2 1, 60, .inl (fun _ => 0)), .inl (G.2.2 1, 60, .inl (fun _ => 0)), .inl (G.2.2 1, 60, .inl (fun _ => 0)), .inr (2, [.int 0, .int 0, .int 0, .int 0, .ref (z + 65), .ref (z + 66), .ref (z + 67), .ref (z + 68), .ref (z + 69), .ref (z + 70), .ref (z + 71), .ref (z + 72), .ref (z + 73), .ref (z + 74)]), .inl (G.2.2 1, 8, .inl (fun _ => 0)), .inl (G.2.2 1, 6, .inl (fun _ => 0)), .inl (G.2.2 1, 6, .inl (fun _ => 0)), .inl (G.2.2 1, 6, .inl (fun _ => 0)), .inl (G.2.2 1, 6, .inl (fun _ => 0)), .inl (G.2.2 1, 6, .inl (fun _ => 0)), .inl (G.2.2 1, 6, .inl (fun _ => 0)), .inl (G.2.2 1, 60, .inl (fun _ => 0)), .inl (G.2.2 1, 60, .inl (fun _ => 0)), .inl (G.2.2 1, 60, .inl (fun _ => 0)), .inr (2, [.int 0, .int 0, .int 0, .int 0, .ref (z + 76), .ref (z + 77), .ref (z + 78), .ref (z + 79), .ref (z + 80), .ref (z + 81), .ref (z + 82), .ref (z + 83), .ref (z + 84), .ref (z + 85)]), .inl (G.2.2 1, 8, .inl (fun _ => 0)), .inl (G.2.2 1, 6, .inl (fun _ => 0)), .inl (G.2.2 1, 6, .inl (fun _ => 0)), .inl (G.2.2 1, 6, .inl (fun _ => 0)), .inl (G.2.2 1, 6, .inl (fun _ => 0)), .inl (G.2.2 1, 6, .inl (fun _ => 0)), .inl (G.2.2 1, 6, .inl (fun _ => 0)), .inl (G.2.2 1, 60, .inl (fun _ => 0)), .inl (G.2.2 1, 60, .inl (fun _ => 0)), .inl (G.2.2 1, 60, .inl (fun _ => 0)), .inl (G.2.2 1, 40, .inl (fun _ => 0))]
/-- the memory of the beginning -/
def M0 : Mm := (fun _ => fun _ => 0, fun x => if x = 0 then vp_updL (fun _ => 0) 11 1 else fun _ => 0)
def Gz (D : va_G) (cy : Nat → ClassId) (z : Nat) : Gv := (D, (fun x => z + zo x), cy)
set_option maxRecDepth 100000 in
set_option maxHeartbeats 4000000 in
theorem es_of {D : va_G} {cy : Nat → ClassId} {z : Nat} : ∀ x, x < zNC → x ≠ 21 → x ≠ 22 → x ≠ 23 → (es_all (Gz D cy z) z)[zo x]? = some (zE (Gz D cy z) (M0.1 x) (M0.2 x) x)
  | 0, _, _, _, _ => rfl
  | 1, _, _, _, _ => rfl
  | 2, _, _, _, _ => rfl
  | 3, _, _, _, _ => rfl
  | 4, _, _, _, _ => rfl
  | 5, _, _, _, _ => rfl
  | 6, _, _, _, _ => rfl
  | 7, _, _, _, _ => rfl
  | 8, _, _, _, _ => rfl
  | 9, _, _, _, _ => rfl
  | 10, _, _, _, _ => rfl
  | 11, _, _, _, _ => rfl
  | 12, _, _, _, _ => rfl
  | 13, _, _, _, _ => rfl
  | 14, _, _, _, _ => rfl
  | 15, _, _, _, _ => rfl
  | 16, _, _, _, _ => rfl
  | 17, _, _, _, _ => rfl
  | 18, _, _, _, _ => rfl
  | 19, _, _, _, _ => rfl
  | 20, _, _, _, _ => rfl
  | 21, _, h1, h2, h3 => by first | exact absurd rfl h1 | exact absurd rfl h2 | exact absurd rfl h3
  | 22, _, h1, h2, h3 => by first | exact absurd rfl h1 | exact absurd rfl h2 | exact absurd rfl h3
  | 23, _, h1, h2, h3 => by first | exact absurd rfl h1 | exact absurd rfl h2 | exact absurd rfl h3
  | 24, _, _, _, _ => rfl
  | 25, _, _, _, _ => rfl
  | 26, _, _, _, _ => rfl
  | 27, _, _, _, _ => rfl
  | 28, _, _, _, _ => rfl
  | 29, _, _, _, _ => rfl
  | 30, _, _, _, _ => rfl
  | 31, _, _, _, _ => rfl
  | 32, _, _, _, _ => rfl
  | 33, _, _, _, _ => rfl
  | 34, _, _, _, _ => rfl
  | 35, _, _, _, _ => rfl
  | 36, _, _, _, _ => rfl
  | 37, _, _, _, _ => rfl
  | 38, _, _, _, _ => rfl
  | 39, _, _, _, _ => rfl
  | 40, _, _, _, _ => rfl
  | 41, _, _, _, _ => rfl
  | 42, _, _, _, _ => rfl
  | 43, _, _, _, _ => rfl
  | 44, _, _, _, _ => rfl
  | 45, _, _, _, _ => rfl
  | 46, _, _, _, _ => rfl
  | 47, _, _, _, _ => rfl
  | 48, _, _, _, _ => rfl
  | 49, _, _, _, _ => rfl
  | 50, _, _, _, _ => rfl
  | 51, _, _, _, _ => rfl
  | 52, _, _, _, _ => rfl
  | 53, _, _, _, _ => rfl
  | 54, _, _, _, _ => rfl
  | 55, _, _, _, _ => rfl
  | 56, _, _, _, _ => rfl
  | 57, _, _, _, _ => rfl
  | 58, _, _, _, _ => rfl
  | 59, _, _, _, _ => rfl
  | 60, _, _, _, _ => rfl
  | 61, _, _, _, _ => rfl
  | 62, _, _, _, _ => rfl
  | 63, _, _, _, _ => rfl
  | 64, _, _, _, _ => rfl
  | 65, _, _, _, _ => rfl
  | 66, _, _, _, _ => rfl
  | 67, _, _, _, _ => rfl
  | 68, _, _, _, _ => rfl
  | 69, _, _, _, _ => rfl
  | 70, _, _, _, _ => rfl
  | 71, _, _, _, _ => rfl
  | 72, _, _, _, _ => rfl
  | 73, _, _, _, _ => rfl
  | 74, _, _, _, _ => rfl
  | 75, _, _, _, _ => rfl
  | 76, _, _, _, _ => rfl
  | 77, _, _, _, _ => rfl
  | 78, _, _, _, _ => rfl
  | 79, _, _, _, _ => rfl
  | 80, _, _, _, _ => rfl
  | 81, _, _, _, _ => rfl
  | 82, _, _, _, _ => rfl
  | 83, _, _, _, _ => rfl
  | 84, _, _, _, _ => rfl
  | 85, _, _, _, _ => rfl
  | 86, _, _, _, _ => rfl
  | n + 87, h, _, _, _ => absurd h (by unfold zNC; omega)
theorem zo_at {D : va_G} {cy : Nat → ClassId} {z : Nat} {H : Heap} (h : GL (Gz D cy z) z (es_all (Gz D cy z) z) H) : va_P D vwCl (zwL (Gz D cy z) M0) H := by
  intro k q hk
  have hx : k < zNC := by
    have := (List.getElem?_eq_some_iff.mp hk).1
    unfold zwL at this
    simpa using this
  rw [zwL_get hx] at hk
  cases hk
  by_cases h1 : k = 21
  · subst h1
    have h4 := h.2 1 _ rfl
    show H[z + zo 21]? = some (vp_cell _ _)
    have h5 : H[z + 1]? = some (vp_cell _ _) := h4
    rw [show z + zo 21 = z + 1 from rfl, h5]
    refine congrArg some (zq_cg (N := 6) fun j hj => ?_)
    match j, hj with
    | 0, _ => rfl
    | 1, _ => rfl
    | 2, _ => rfl
    | 3, _ => rfl
    | 4, _ => rfl
    | 5, _ => rfl
    | n + 6, h => exact absurd h (by omega)
  by_cases h2 : k = 22
  · subst h2
    have h4 := h.2 2 _ rfl
    show H[z + zo 22]? = some (vp_cell _ _)
    have h5 : H[z + 2]? = some (vp_cell _ _) := h4
    rw [show z + zo 22 = z + 2 from rfl, h5]
    refine congrArg some (zq_cg (N := 4) fun j hj => ?_)
    match j, hj with
    | 0, _ => rfl
    | 1, _ => rfl
    | 2, _ => rfl
    | 3, _ => rfl
    | n + 4, h => exact absurd h (by omega)
  by_cases h3 : k = 23
  · subst h3
    have h4 := h.2 14 _ rfl
    show H[z + zo 23]? = some (vp_cell _ _)
    have h5 : H[z + 14]? = some (vp_cell _ _) := h4
    rw [show z + zo 23 = z + 14 from rfl, h5]
    refine congrArg some (zq_cg (N := 3) fun j hj => ?_)
    match j, hj with
    | 0, _ => rfl
    | 1, _ => rfl
    | 2, _ => rfl
    | n + 3, h => exact absurd h (by omega)
  exact h.2 (zo k) _ (es_of k hx h1 h2 h3)
theorem zo_D {D : va_G} {cy : Nat → ClassId} {z : Nat} : va_D (zA (Gz D cy z)) (zwL (Gz D cy z) M0) := by
  have key : ∀ (k : Nat) (q : Nat × va_E), (zwL (Gz D cy z) M0)[k]? = some q → k < zNC ∧ q.1 = z + zo k := by
    intro k q hk
    have hx : k < zNC := by
      have := (List.getElem?_eq_some_iff.mp hk).1
      unfold zwL at this
      simpa using this
    rw [zwL_get hx] at hk
    cases hk
    exact ⟨hx, rfl⟩
  refine ⟨fun i j x y hi hj hxy => ?_, fun k q hk => ?_⟩
  · obtain ⟨h1, h2⟩ := key i x hi
    obtain ⟨h3, h4⟩ := key j y hj
    have h5 : zo i = zo j := by omega
    have := zo_inv i h1
    rw [h5, zo_inv j h3] at this
    exact this.symm
  · obtain ⟨h1, h2⟩ := key k q hk
    exact ⟨k, h1, h2⟩
theorem GS.st {D : va_G} {cy : Nat → ClassId} {s : State} {H : Heap} {locs : List Loc} (hw : GS (Gz D cy s.heap.size) s s.heap.size (es_all (Gz D cy s.heap.size) s.heap.size) H locs) : St (Gz D cy s.heap.size) s H [] M0 :=
  ⟨hw.1, zo_at hw.2.1, zo_D, hw.2.2.1, hw.2.2.2.2.1, fun q h1 _ => hw.2.2.2.2.2.1 q h1 (Nat.not_le.mpr h1), fun _ h => absurd h List.not_mem_nil⟩
theorem zm1 {i : Nat} {w : Cond} (h0 : tables_1_1[i]? = some w) : w ∈ lw_tbl := by
  have h := List.mem_of_getElem? h0
  exact List.mem_append_right _ (List.mem_append_left _ h)
theorem zm2 {i : Nat} {w : Cond} (h0 : tables_1_2[i]? = some w) : w ∈ lw_tbl := by
  have h := List.mem_of_getElem? h0
  exact List.mem_append_right _ (List.mem_append_right _ (List.mem_append_left _ h))
theorem zm3 {i : Nat} {w : Cond} (h0 : tables_1_3[i]? = some w) : w ∈ lw_tbl := by
  have h := List.mem_of_getElem? h0
  exact List.mem_append_right _ (List.mem_append_right _ (List.mem_append_right _ h))
theorem zNW_of {s : State} {A : Array Value} (hts : ∀ w ∈ lw_tbl, w.before A s = true) : zNW s
  | 0, _, h => by
    cases h
    exact va_Nw.of rfl (hts _ (zm1 (i := 24) rfl))
  | 1, _, h => by
    cases h
    exact va_Nw.of rfl (hts _ (zm1 (i := 83) rfl))
  | 2, _, h => by
    cases h
    exact va_Nw.of rfl (hts _ (zm1 (i := 121) rfl))
  | 3, _, h => by
    cases h
    exact va_Nw.of rfl (hts _ (zm1 (i := 140) rfl))
  | 4, _, h => by
    cases h
    exact va_Nw.of rfl (hts _ (zm1 (i := 157) rfl))
  | 5, _, h => by
    cases h
    exact va_Nw.of rfl (hts _ (zm1 (i := 175) rfl))
  | 6, _, h => by
    cases h
    exact va_Nw.of rfl (hts _ (zm2 (i := 39) rfl))
  | 7, _, h => by
    cases h
    exact va_Nw.of rfl (hts _ (zm2 (i := 48) rfl))
  | 8, _, h => by
    cases h
    exact va_Nw.of rfl (hts _ (zm2 (i := 71) rfl))
  | 9, _, h => by
    cases h
    exact va_Nw.of rfl (hts _ (zm2 (i := 124) rfl))
  | 10, _, h => by
    cases h
    exact va_Nw.of rfl (hts _ (zm2 (i := 208) rfl))
  | 11, _, h => by
    cases h
    exact va_Nw.of rfl (hts _ (zm3 (i := 48) rfl))
  | 12, _, h => by
    cases h
    exact va_Nw.of rfl (hts _ (zm3 (i := 114) rfl))
  | 13, _, h => by
    cases h
    exact va_Nw.of rfl (hts _ (zm3 (i := 197) rfl))
  | 14, _, h => by
    cases h
    exact va_Nw.of rfl (hts _ (zm3 (i := 202) rfl))
  | n + 15, _, h => by
    have := (List.getElem?_eq_some_iff.mp h).1
    exact absurd this (by show ¬ n + 15 < 15; omega)
theorem zty_int {s : State} {A : Array Value} (h : (Cond.arrayClass .int).before A s = true) : ∃ c, ArrOfT s c .int ∧ va_RA s c .int := by
  obtain ⟨c, k, comp, h1, h2, h3⟩ := Cond.arrayClass_spec h
  exact ⟨c, fun n z => ⟨fun k h => (by cases h), k, h2, comp, h3⟩, h1⟩
theorem zty_long {s : State} {A : Array Value} (h : (Cond.arrayClass .long).before A s = true) : ∃ c, ArrOfT s c .long ∧ va_RA s c .long := by
  obtain ⟨c, k, comp, h1, h2, h3⟩ := Cond.arrayClass_spec h
  exact ⟨c, fun n z => ⟨fun k h => (by cases h), k, h2, comp, h3⟩, h1⟩
theorem zty_byte {s : State} {A : Array Value} (h : (Cond.arrayClass .byte).before A s = true) : ∃ c, ArrOfT s c .byte ∧ va_RA s c .byte := by
  obtain ⟨c, k, comp, h1, h2, h3⟩ := Cond.arrayClass_spec h
  exact ⟨c, fun n z => ⟨fun k h => (by cases h), k, h2, comp, h3⟩, h1⟩
theorem zty_obj {s : State} {A : Array Value} {C : String} (h : (Cond.arrayOver (.object C)).before A s = true) : ∃ c, ArrOfT s c (.object C) ∧ va_RA s c (.object C) := by
  obtain ⟨comp, c, k, h1, h2, h3, h4, h5⟩ := Cond.arrayOver_spec h
  exact ⟨c, fun n z => ⟨fun k h => (by cases h), k, h3, comp, h4⟩, k, comp, h3, h4, h1, h5⟩
theorem zK_of {s : State} {A : Array Value} (hts : ∀ w ∈ lw_tbl, w.before A s = true) : ∃ (D : va_G) (cy : Nat → ClassId), ∀ z, va_K D vwCl (ztyL (Gz D cy z)) s := by
  have hU : ∀ w ∈ zU, w.before A s = true := fun w h => hts w (List.mem_filter.mp h).1
  obtain ⟨c0, i0, hk0⟩ := u_known (C := RX0) (T := TX0) (N := 3) hU inU0 (hU _ q1_139)
  obtain ⟨c1, i1, hk1⟩ := u_known (C := RX1) (T := TX1) (N := 5) hU inU1 (hU _ q1_120)
  obtain ⟨c2, i2, hk2⟩ := u_known (C := RX2) (T := TX2) (N := 14) hU inU2 (hU _ q1_23)
  obtain ⟨c3, i3, hk3⟩ := u_known (C := RX3) (T := TX3) (N := 8) hU inU3 (hU _ q1_82)
  obtain ⟨c4, i4, hk4⟩ := u_known (C := RX4) (T := TX4) (N := 3) hU inU4 (hU _ q1_156)
  obtain ⟨c5, i5, hk5⟩ := u_known (C := RX5) (T := TX5) (N := 3) hU inU5 (hU _ q1_174)
  obtain ⟨c6, i6, hk6⟩ := u_known (C := RX6) (T := TX6) (N := 17) hU inU6 (hU _ q1_11)
  obtain ⟨a0, ha0⟩ := zty_byte (hU _ q1_192)
  obtain ⟨a1, ha1⟩ := zty_int (hU _ q1_79)
  obtain ⟨a2, ha2⟩ := zty_long (hU _ q1_155)
  obtain ⟨a3, ha3⟩ := zty_int (hU _ q1_79)
  obtain ⟨a4, ha4⟩ := zty_obj (hts _ (zm1 (i := 80) rfl))
  obtain ⟨a5, ha5⟩ := zty_obj (hts _ (zm1 (i := 19) rfl))
  obtain ⟨a6, ha6⟩ := zty_obj (hts _ (zm1 (i := 21) rfl))
  refine ⟨(fun k => match k with | 0 => c0 | 1 => c1 | 2 => c2 | 3 => c3 | 4 => c4 | 5 => c5 | _ => c6, fun k => match k with | 0 => i0 | 1 => i1 | 2 => i2 | 3 => i3 | 4 => i4 | 5 => i5 | _ => i6), fun k => match k with | 0 => a0 | 1 => a1 | 2 => a2 | 3 => a3 | 4 => a4 | 5 => a5 | _ => a6, fun z => ⟨fun k q h => ?_, fun k q h => ?_⟩⟩
  · match k, h with
    | 0, h => cases h; exact hk0
    | 1, h => cases h; exact hk1
    | 2, h => cases h; exact hk2
    | 3, h => cases h; exact hk3
    | 4, h => cases h; exact hk4
    | 5, h => cases h; exact hk5
    | 6, h => cases h; exact hk6
    | k + 7, h => exact absurd (List.getElem?_eq_some_iff.mp h).1 (by show ¬ k + 7 < 7; omega)
  · match k, h with
    | 0, h => cases h; exact ha0
    | 1, h => cases h; exact ha1
    | 2, h => cases h; exact ha2
    | 3, h => cases h; exact ha3
    | 4, h => cases h; exact ha4
    | 5, h => cases h; exact ha5
    | 6, h => cases h; exact ha6
    | k + 7, h => exact absurd (List.getElem?_eq_some_iff.mp h).1 (by show ¬ k + 7 < 7; omega)
set_option maxRecDepth 100000 in
set_option maxHeartbeats 40000000 in
theorem whole_from {p : Program} {e : Env} {s : State} {m : MethodId} {below : List Frame} {meth : Method} {c : Code} (l : Launch) {b L : Nat} {xs : Nat → Int32} {fu : Nat} (hF : F_L_law_13 L xs fu M0 = some ()) (C0 : lw_At p s m meth c b L xs) : W p l e room_1 s m #[Value.ref b] below meth c s.heap [] 0 0 (lw_Z below #[Value.ref b] s) (entryFrame m ([Value.ref b] : List Value).toArray 24) := by
  obtain ⟨hx, hb, hr, hml, hown, hts, hX, hbl, hlocks, hgv⟩ := id C0
  have hC : Cx p s m #[Value.ref b] meth c cL_law 24 (some .boolean) RL := ⟨hx, hb, hml, hown, fun w h => hts w (List.mem_filter.mp h).1, hr, hlocks⟩
  obtain ⟨D, cy, hK⟩ := zK_of hts
  have hw : GS (Gz D cy s.heap.size) s s.heap.size [] s.heap [] := ⟨hK _, ⟨rfl, fun k e h => by simp at h⟩, zNW_of hts, ⟨va_AO.of (hts _ (zm1 (i := 19) rfl)), va_AO.of (hts _ (zm1 (i := 21) rfl)), va_AO.of (hts _ (zm1 (i := 80) rfl))⟩, va_S.rf⟩
  have hl := lv_entry ([.ref b]) (n := 24) (Nat.le_of_ble_eq_true rfl)
  rw [lg_entry_eq]
  generalize (lg_sl ([.ref b]) ++ List.replicate (24 - (lg_sl ([.ref b])).length) Slot.unset).toArray = ls at hl ⊢
  have hl : lv_has ls 24 [(0, .ref b)] := hl
  refine gs_new (ci := 6) (fs := [.null, .null, .null, .null, .null, .null, .null, .null, .int 0, .int 0, .long 0, .long 0, .null, .null, .null, .null, .null]) hC hw inU6 tyX6 tyX6_ok q1_10 q1_11 q1_1 rfl blk_6 (Nat.le_of_ble_eq_true rfl) (Nat.le_of_ble_eq_true rfl) (k1 := 0) rfl dL_law_0 (fun H hw => ?_)
  have hw : GS (Gz D cy s.heap.size) s s.heap.size [.inr (6, [.null, .null, .null, .null, .null, .null, .null, .null, .int 0, .int 0, .long 0, .long 0, .null, .null, .null, .null, .null])] _ _ := hw
  refine lv_dup hC.1 hC.2.1 dL_law_3 rfl ?_
  refine gs_callI (es := []) (rest := [.ref (s.heap.size + 0)]) hC hw (c_X6_init (z := s.heap.size + 0)) yi_X6 q1_12 ⟨rfl, rfl⟩ ⟨(Nat.le_of_ble_eq_true rfl), (Nat.le_of_ble_eq_true rfl)⟩ ⟨(Nat.le_of_ble_eq_true rfl), (Nat.le_of_ble_eq_true rfl)⟩ rfl (Nat.le_of_ble_eq_true rfl) hl dL_law_4 (fun H locs hw => ?_)
  have hw : GS (Gz D cy s.heap.size) s s.heap.size [.inr (6, [.ref (s.heap.size + 1), .ref (s.heap.size + 2), .ref (s.heap.size + 3), .ref (s.heap.size + 14), .ref (s.heap.size + 15), .ref (s.heap.size + 21), .ref (s.heap.size + 24), .ref (s.heap.size + 27), .int 0, .int 0, .long 0, .long (1 : Int64), .ref (s.heap.size + 28), .ref (s.heap.size + 29), .ref (s.heap.size + 30), .ref (s.heap.size + 31), .ref (s.heap.size + 32)]), .inl ((Gz D cy s.heap.size).2.2 5, 6, .inr (.inr (.inr (.inr (va_up (va_up (va_up (va_up (va_up (va_up (fun _ => none) (0 : Int32).toNatClampNeg (some (s.heap.size + 33))) (1 : Int32).toNatClampNeg (some (s.heap.size + 35))) (2 : Int32).toNatClampNeg (some (s.heap.size + 37))) (3 : Int32).toNatClampNeg (some (s.heap.size + 39))) (4 : Int32).toNatClampNeg (some (s.heap.size + 41))) (5 : Int32).toNatClampNeg (some (s.heap.size + 43))))))), .inl ((Gz D cy s.heap.size).2.2 6, 4, .inr (.inr (.inr (.inr (va_up (va_up (va_up (va_up (fun _ => none) (0 : Int32).toNatClampNeg (some (s.heap.size + 45))) (1 : Int32).toNatClampNeg (some (s.heap.size + 47))) (2 : Int32).toNatClampNeg (some (s.heap.size + 49))) (3 : Int32).toNatClampNeg (some (s.heap.size + 51))))))), .inr (2, [.int 0, .int 0, .int 0, .int 0, .ref (s.heap.size + 4), .ref (s.heap.size + 5), .ref (s.heap.size + 6), .ref (s.heap.size + 7), .ref (s.heap.size + 8), .ref (s.heap.size + 9), .ref (s.heap.size + 10), .ref (s.heap.size + 11), .ref (s.heap.size + 12), .ref (s.heap.size + 13)]), .inl ((Gz D cy s.heap.size).2.2 1, 8, .inl (fun _ => 0)), .inl ((Gz D cy s.heap.size).2.2 1, 6, .inl (fun _ => 0)), .inl ((Gz D cy s.heap.size).2.2 1, 6, .inl (fun _ => 0)), .inl ((Gz D cy s.heap.size).2.2 1, 6, .inl (fun _ => 0)), .inl ((Gz D cy s.heap.size).2.2 1, 6, .inl (fun _ => 0)), .inl ((Gz D cy s.heap.size).2.2 1, 6, .inl (fun _ => 0)), .inl ((Gz D cy s.heap.size).2.2 1, 6, .inl (fun _ => 0)), .inl ((Gz D cy s.heap.size).2.2 1, 60, .inl (fun _ => 0)), .inl ((Gz D cy s.heap.size).2.2 1, 60, .inl (fun _ => 0)), .inl ((Gz D cy s.heap.size).2.2 1, 60, .inl (fun _ => 0)), .inl ((Gz D cy s.heap.size).2.2 4, 3, .inr (.inr (.inr (.inr (va_up (va_up (va_up (fun _ => none) (0 : Int32).toNatClampNeg (some (s.heap.size + 53))) (1 : Int32).toNatClampNeg (some (s.heap.size + 64))) (2 : Int32).toNatClampNeg (some (s.heap.size + 75))))))), .inr (3, [.int 0, .int 0, .int 0, .ref (s.heap.size + 16), .ref (s.heap.size + 17), .ref (s.heap.size + 18), .ref (s.heap.size + 19), .ref (s.heap.size + 20)]), .inl ((Gz D cy s.heap.size).2.2 1, 8, .inl (fun _ => 0)), .inl ((Gz D cy s.heap.size).2.2 1, 6, .inl (fun _ => 0)), .inl ((Gz D cy s.heap.size).2.2 1, 6, .inl (fun _ => 0)), .inl ((Gz D cy s.heap.size).2.2 1, 6, .inl (fun _ => 0)), .inl ((Gz D cy s.heap.size).2.2 1, 6, .inl (fun _ => 0)), .inr (1, [.int 0, .int 0, .long 0, .ref (s.heap.size + 22), .ref (s.heap.size + 23)]), .inl ((Gz D cy s.heap.size).2.2 1, 6, .inl (fun _ => 0)), .inl ((Gz D cy s.heap.size).2.2 1, 6, .inl (fun _ => 0)), .inr (0, [.ref (s.heap.size + 25), .ref (s.heap.size + 26), .long 0]), .inl ((Gz D cy s.heap.size).2.2 2, 100, .inr (.inl (fun _ => 0))), .inl ((Gz D cy s.heap.size).2.2 2, 100, .inr (.inl (fun _ => 0))), .inl ((Gz D cy s.heap.size).2.2 1, 6, .inl (fun _ => 0)), .inl ((Gz D cy s.heap.size).2.2 1, 61, .inl (fun _ => 0)), .inl ((Gz D cy s.heap.size).2.2 1, 6, .inl (fun _ => 0)), .inl ((Gz D cy s.heap.size).2.2 1, 6, .inl (fun _ => 0)), .inl ((Gz D cy s.heap.size).2.2 1, 6, .inl (fun _ => 0)), .inl ((Gz D cy s.heap.size).2.2 1, 64, .inl (fun _ => 0)), .inr (4, [.int 0, .int 0, .ref (s.heap.size + 34)]), .inl ((Gz D cy s.heap.size).2.2 1, 40, .inl (fun _ => 0)), .inr (4, [.int 0, .int 0, .ref (s.heap.size + 36)]), .inl ((Gz D cy s.heap.size).2.2 1, 40, .inl (fun _ => 0)), .inr (4, [.int 0, .int 0, .ref (s.heap.size + 38)]), .inl ((Gz D cy s.heap.size).2.2 1, 40, .inl (fun _ => 0)), .inr (4, [.int 0, .int 0, .ref (s.heap.size + 40)]), .inl ((Gz D cy s.heap.size).2.2 1, 40, .inl (fun _ => 0)), .inr (4, [.int 0, .int 0, .ref (s.heap.size + 42)]), .inl ((Gz D cy s.heap.size).2.2 1, 40, .inl (fun _ => 0)), .inr (4, [.int 0, .int 0, .ref (s.heap.size + 44)]), .inl ((Gz D cy s.heap.size).2.2 1, 40, .inl (fun _ => 0)), .inr (5, [.int 0, .int 0, .ref (s.heap.size + 46)]), .inl ((Gz D cy s.heap.size).2.2 0, 60, .inl (fun _ => 0)), .inr (5, [.int 0, .int 0, .ref (s.heap.size + 48)]), .inl ((Gz D cy s.heap.size).2.2 0, 60, .inl (fun _ => 0)), .inr (5, [.int 0, .int 0, .ref (s.heap.size + 50)]), .inl ((Gz D cy s.heap.size).2.2 0, 60, .inl (fun _ => 0)), .inr (5, [.int 0, .int 0, .ref (s.heap.size + 52)]), .inl ((Gz D cy s.heap.size).2.2 0, 60, .inl (fun _ => 0)), .inr (2, [.int 0, .int 0, .int 0, .int 0, .ref (s.heap.size + 54), .ref (s.heap.size + 55), .ref (s.heap.size + 56), .ref (s.heap.size + 57), .ref (s.heap.size + 58), .ref (s.heap.size + 59), .ref (s.heap.size + 60), .ref (s.heap.size + 61), .ref (s.heap.size + 62), .ref (s.heap.size + 63)]), .inl ((Gz D cy s.heap.size).2.2 1, 8, .inl (fun _ => 0)), .inl ((Gz D cy s.heap.size).2.2 1, 6, .inl (fun _ => 0)), .inl ((Gz D cy s.heap.size).2.2 1, 6, .inl (fun _ => 0)), .inl ((Gz D cy s.heap.size).2.2 1, 6, .inl (fun _ => 0)), .inl ((Gz D cy s.heap.size).2.2 1, 6, .inl (fun _ => 0)), .inl ((Gz D cy s.heap.size).2.2 1, 6, .inl (fun _ => 0)), .inl ((Gz D cy s.heap.size).2.2 1, 6, .inl (fun _ => 0)), .inl ((Gz D cy s.heap.size).2.2 1, 60, .inl (fun _ => 0)), .inl ((Gz D cy s.heap.size).2.2 1, 60, .inl (fun _ => 0)), .inl ((Gz D cy s.heap.size).2.2 1, 60, .inl (fun _ => 0)), .inr (2, [.int 0, .int 0, .int 0, .int 0, .ref (s.heap.size + 65), .ref (s.heap.size + 66), .ref (s.heap.size + 67), .ref (s.heap.size + 68), .ref (s.heap.size + 69), .ref (s.heap.size + 70), .ref (s.heap.size + 71), .ref (s.heap.size + 72), .ref (s.heap.size + 73), .ref (s.heap.size + 74)]), .inl ((Gz D cy s.heap.size).2.2 1, 8, .inl (fun _ => 0)), .inl ((Gz D cy s.heap.size).2.2 1, 6, .inl (fun _ => 0)), .inl ((Gz D cy s.heap.size).2.2 1, 6, .inl (fun _ => 0)), .inl ((Gz D cy s.heap.size).2.2 1, 6, .inl (fun _ => 0)), .inl ((Gz D cy s.heap.size).2.2 1, 6, .inl (fun _ => 0)), .inl ((Gz D cy s.heap.size).2.2 1, 6, .inl (fun _ => 0)), .inl ((Gz D cy s.heap.size).2.2 1, 6, .inl (fun _ => 0)), .inl ((Gz D cy s.heap.size).2.2 1, 60, .inl (fun _ => 0)), .inl ((Gz D cy s.heap.size).2.2 1, 60, .inl (fun _ => 0)), .inl ((Gz D cy s.heap.size).2.2 1, 60, .inl (fun _ => 0)), .inr (2, [.int 0, .int 0, .int 0, .int 0, .ref (s.heap.size + 76), .ref (s.heap.size + 77), .ref (s.heap.size + 78), .ref (s.heap.size + 79), .ref (s.heap.size + 80), .ref (s.heap.size + 81), .ref (s.heap.size + 82), .ref (s.heap.size + 83), .ref (s.heap.size + 84), .ref (s.heap.size + 85)]), .inl ((Gz D cy s.heap.size).2.2 1, 8, .inl (fun _ => 0)), .inl ((Gz D cy s.heap.size).2.2 1, 6, .inl (fun _ => 0)), .inl ((Gz D cy s.heap.size).2.2 1, 6, .inl (fun _ => 0)), .inl ((Gz D cy s.heap.size).2.2 1, 6, .inl (fun _ => 0)), .inl ((Gz D cy s.heap.size).2.2 1, 6, .inl (fun _ => 0)), .inl ((Gz D cy s.heap.size).2.2 1, 6, .inl (fun _ => 0)), .inl ((Gz D cy s.heap.size).2.2 1, 6, .inl (fun _ => 0)), .inl ((Gz D cy s.heap.size).2.2 1, 60, .inl (fun _ => 0)), .inl ((Gz D cy s.heap.size).2.2 1, 60, .inl (fun _ => 0)), .inl ((Gz D cy s.heap.size).2.2 1, 60, .inl (fun _ => 0))] _ _ := hw
  refine lv_astore_n (lv' := [(1, .ref (s.heap.size + 0)), (0, .ref b)]) hC.1 hC.2.1 dL_law_7 rfl hl (by decide) rfl (fun ls hl => ?_)
  refine lv_bipush (v := (40 : Int32)) hC.1 hC.2.1 dL_law_8 (by decide) ?_
  refine gs_newa (atype := .int) (N' := 40) (a0 := (40, .inl (fun _ => 0))) hC hw q1_79 (zRA_int hw.1) (fun _ => rfl) (by decide) (by decide) (Nat.le_of_ble_eq_true rfl) (Nat.le_of_ble_eq_true rfl) (Nat.le_of_ble_eq_true rfl) (k1 := 86) rfl dL_law_10 (fun H hw => ?_)
  have hw : GS (Gz D cy s.heap.size) s s.heap.size [.inr (6, [.ref (s.heap.size + 1), .ref (s.heap.size + 2), .ref (s.heap.size + 3), .ref (s.heap.size + 14), .ref (s.heap.size + 15), .ref (s.heap.size + 21), .ref (s.heap.size + 24), .ref (s.heap.size + 27), .int 0, .int 0, .long 0, .long (1 : Int64), .ref (s.heap.size + 28), .ref (s.heap.size + 29), .ref (s.heap.size + 30), .ref (s.heap.size + 31), .ref (s.heap.size + 32)]), .inl ((Gz D cy s.heap.size).2.2 5, 6, .inr (.inr (.inr (.inr (va_up (va_up (va_up (va_up (va_up (va_up (fun _ => none) (0 : Int32).toNatClampNeg (some (s.heap.size + 33))) (1 : Int32).toNatClampNeg (some (s.heap.size + 35))) (2 : Int32).toNatClampNeg (some (s.heap.size + 37))) (3 : Int32).toNatClampNeg (some (s.heap.size + 39))) (4 : Int32).toNatClampNeg (some (s.heap.size + 41))) (5 : Int32).toNatClampNeg (some (s.heap.size + 43))))))), .inl ((Gz D cy s.heap.size).2.2 6, 4, .inr (.inr (.inr (.inr (va_up (va_up (va_up (va_up (fun _ => none) (0 : Int32).toNatClampNeg (some (s.heap.size + 45))) (1 : Int32).toNatClampNeg (some (s.heap.size + 47))) (2 : Int32).toNatClampNeg (some (s.heap.size + 49))) (3 : Int32).toNatClampNeg (some (s.heap.size + 51))))))), .inr (2, [.int 0, .int 0, .int 0, .int 0, .ref (s.heap.size + 4), .ref (s.heap.size + 5), .ref (s.heap.size + 6), .ref (s.heap.size + 7), .ref (s.heap.size + 8), .ref (s.heap.size + 9), .ref (s.heap.size + 10), .ref (s.heap.size + 11), .ref (s.heap.size + 12), .ref (s.heap.size + 13)]), .inl ((Gz D cy s.heap.size).2.2 1, 8, .inl (fun _ => 0)), .inl ((Gz D cy s.heap.size).2.2 1, 6, .inl (fun _ => 0)), .inl ((Gz D cy s.heap.size).2.2 1, 6, .inl (fun _ => 0)), .inl ((Gz D cy s.heap.size).2.2 1, 6, .inl (fun _ => 0)), .inl ((Gz D cy s.heap.size).2.2 1, 6, .inl (fun _ => 0)), .inl ((Gz D cy s.heap.size).2.2 1, 6, .inl (fun _ => 0)), .inl ((Gz D cy s.heap.size).2.2 1, 6, .inl (fun _ => 0)), .inl ((Gz D cy s.heap.size).2.2 1, 60, .inl (fun _ => 0)), .inl ((Gz D cy s.heap.size).2.2 1, 60, .inl (fun _ => 0)), .inl ((Gz D cy s.heap.size).2.2 1, 60, .inl (fun _ => 0)), .inl ((Gz D cy s.heap.size).2.2 4, 3, .inr (.inr (.inr (.inr (va_up (va_up (va_up (fun _ => none) (0 : Int32).toNatClampNeg (some (s.heap.size + 53))) (1 : Int32).toNatClampNeg (some (s.heap.size + 64))) (2 : Int32).toNatClampNeg (some (s.heap.size + 75))))))), .inr (3, [.int 0, .int 0, .int 0, .ref (s.heap.size + 16), .ref (s.heap.size + 17), .ref (s.heap.size + 18), .ref (s.heap.size + 19), .ref (s.heap.size + 20)]), .inl ((Gz D cy s.heap.size).2.2 1, 8, .inl (fun _ => 0)), .inl ((Gz D cy s.heap.size).2.2 1, 6, .inl (fun _ => 0)), .inl ((Gz D cy s.heap.size).2.2 1, 6, .inl (fun _ => 0)), .inl ((Gz D cy s.heap.size).2.2 1, 6, .inl (fun _ => 0)), .inl ((Gz D cy s.heap.size).2.2 1, 6, .inl (fun _ => 0)), .inr (1, [.int 0, .int 0, .long 0, .ref (s.heap.size + 22), .ref (s.heap.size + 23)]), .inl ((Gz D cy s.heap.size).2.2 1, 6, .inl (fun _ => 0)), .inl ((Gz D cy s.heap.size).2.2 1, 6, .inl (fun _ => 0)), .inr (0, [.ref (s.heap.size + 25), .ref (s.heap.size + 26), .long 0]), .inl ((Gz D cy s.heap.size).2.2 2, 100, .inr (.inl (fun _ => 0))), .inl ((Gz D cy s.heap.size).2.2 2, 100, .inr (.inl (fun _ => 0))), .inl ((Gz D cy s.heap.size).2.2 1, 6, .inl (fun _ => 0)), .inl ((Gz D cy s.heap.size).2.2 1, 61, .inl (fun _ => 0)), .inl ((Gz D cy s.heap.size).2.2 1, 6, .inl (fun _ => 0)), .inl ((Gz D cy s.heap.size).2.2 1, 6, .inl (fun _ => 0)), .inl ((Gz D cy s.heap.size).2.2 1, 6, .inl (fun _ => 0)), .inl ((Gz D cy s.heap.size).2.2 1, 64, .inl (fun _ => 0)), .inr (4, [.int 0, .int 0, .ref (s.heap.size + 34)]), .inl ((Gz D cy s.heap.size).2.2 1, 40, .inl (fun _ => 0)), .inr (4, [.int 0, .int 0, .ref (s.heap.size + 36)]), .inl ((Gz D cy s.heap.size).2.2 1, 40, .inl (fun _ => 0)), .inr (4, [.int 0, .int 0, .ref (s.heap.size + 38)]), .inl ((Gz D cy s.heap.size).2.2 1, 40, .inl (fun _ => 0)), .inr (4, [.int 0, .int 0, .ref (s.heap.size + 40)]), .inl ((Gz D cy s.heap.size).2.2 1, 40, .inl (fun _ => 0)), .inr (4, [.int 0, .int 0, .ref (s.heap.size + 42)]), .inl ((Gz D cy s.heap.size).2.2 1, 40, .inl (fun _ => 0)), .inr (4, [.int 0, .int 0, .ref (s.heap.size + 44)]), .inl ((Gz D cy s.heap.size).2.2 1, 40, .inl (fun _ => 0)), .inr (5, [.int 0, .int 0, .ref (s.heap.size + 46)]), .inl ((Gz D cy s.heap.size).2.2 0, 60, .inl (fun _ => 0)), .inr (5, [.int 0, .int 0, .ref (s.heap.size + 48)]), .inl ((Gz D cy s.heap.size).2.2 0, 60, .inl (fun _ => 0)), .inr (5, [.int 0, .int 0, .ref (s.heap.size + 50)]), .inl ((Gz D cy s.heap.size).2.2 0, 60, .inl (fun _ => 0)), .inr (5, [.int 0, .int 0, .ref (s.heap.size + 52)]), .inl ((Gz D cy s.heap.size).2.2 0, 60, .inl (fun _ => 0)), .inr (2, [.int 0, .int 0, .int 0, .int 0, .ref (s.heap.size + 54), .ref (s.heap.size + 55), .ref (s.heap.size + 56), .ref (s.heap.size + 57), .ref (s.heap.size + 58), .ref (s.heap.size + 59), .ref (s.heap.size + 60), .ref (s.heap.size + 61), .ref (s.heap.size + 62), .ref (s.heap.size + 63)]), .inl ((Gz D cy s.heap.size).2.2 1, 8, .inl (fun _ => 0)), .inl ((Gz D cy s.heap.size).2.2 1, 6, .inl (fun _ => 0)), .inl ((Gz D cy s.heap.size).2.2 1, 6, .inl (fun _ => 0)), .inl ((Gz D cy s.heap.size).2.2 1, 6, .inl (fun _ => 0)), .inl ((Gz D cy s.heap.size).2.2 1, 6, .inl (fun _ => 0)), .inl ((Gz D cy s.heap.size).2.2 1, 6, .inl (fun _ => 0)), .inl ((Gz D cy s.heap.size).2.2 1, 6, .inl (fun _ => 0)), .inl ((Gz D cy s.heap.size).2.2 1, 60, .inl (fun _ => 0)), .inl ((Gz D cy s.heap.size).2.2 1, 60, .inl (fun _ => 0)), .inl ((Gz D cy s.heap.size).2.2 1, 60, .inl (fun _ => 0)), .inr (2, [.int 0, .int 0, .int 0, .int 0, .ref (s.heap.size + 65), .ref (s.heap.size + 66), .ref (s.heap.size + 67), .ref (s.heap.size + 68), .ref (s.heap.size + 69), .ref (s.heap.size + 70), .ref (s.heap.size + 71), .ref (s.heap.size + 72), .ref (s.heap.size + 73), .ref (s.heap.size + 74)]), .inl ((Gz D cy s.heap.size).2.2 1, 8, .inl (fun _ => 0)), .inl ((Gz D cy s.heap.size).2.2 1, 6, .inl (fun _ => 0)), .inl ((Gz D cy s.heap.size).2.2 1, 6, .inl (fun _ => 0)), .inl ((Gz D cy s.heap.size).2.2 1, 6, .inl (fun _ => 0)), .inl ((Gz D cy s.heap.size).2.2 1, 6, .inl (fun _ => 0)), .inl ((Gz D cy s.heap.size).2.2 1, 6, .inl (fun _ => 0)), .inl ((Gz D cy s.heap.size).2.2 1, 6, .inl (fun _ => 0)), .inl ((Gz D cy s.heap.size).2.2 1, 60, .inl (fun _ => 0)), .inl ((Gz D cy s.heap.size).2.2 1, 60, .inl (fun _ => 0)), .inl ((Gz D cy s.heap.size).2.2 1, 60, .inl (fun _ => 0)), .inr (2, [.int 0, .int 0, .int 0, .int 0, .ref (s.heap.size + 76), .ref (s.heap.size + 77), .ref (s.heap.size + 78), .ref (s.heap.size + 79), .ref (s.heap.size + 80), .ref (s.heap.size + 81), .ref (s.heap.size + 82), .ref (s.heap.size + 83), .ref (s.heap.size + 84), .ref (s.heap.size + 85)]), .inl ((Gz D cy s.heap.size).2.2 1, 8, .inl (fun _ => 0)), .inl ((Gz D cy s.heap.size).2.2 1, 6, .inl (fun _ => 0)), .inl ((Gz D cy s.heap.size).2.2 1, 6, .inl (fun _ => 0)), .inl ((Gz D cy s.heap.size).2.2 1, 6, .inl (fun _ => 0)), .inl ((Gz D cy s.heap.size).2.2 1, 6, .inl (fun _ => 0)), .inl ((Gz D cy s.heap.size).2.2 1, 6, .inl (fun _ => 0)), .inl ((Gz D cy s.heap.size).2.2 1, 6, .inl (fun _ => 0)), .inl ((Gz D cy s.heap.size).2.2 1, 60, .inl (fun _ => 0)), .inl ((Gz D cy s.heap.size).2.2 1, 60, .inl (fun _ => 0)), .inl ((Gz D cy s.heap.size).2.2 1, 60, .inl (fun _ => 0)), .inl ((Gz D cy s.heap.size).2.2 1, 40, .inl (fun _ => 0))] _ _ := hw
  refine lv_astore_n (lv' := [(2, .ref (s.heap.size + 86)), (1, .ref (s.heap.size + 0)), (0, .ref b)]) hC.1 hC.2.1 dL_law_12 rfl hl (by decide) rfl (fun ls hl => ?_)
  refine va_forget (fun q hq => hw.2.2.2.2.2.2 q hq) ?_
  have hw := GS.st hw
  exact w_L_law_13 hC hX hbl (fun h => by
    obtain ⟨x, -, h⟩ := h
    have h : b = s.heap.size + zo x := h
    omega) (fun x _ => Nat.le_add_right _ _) ⟨Nat.le_of_ble_eq_true rfl, Nat.le_of_ble_eq_true rfl⟩ hF hw (lv_sub hl [2, 1, 0] rfl)
