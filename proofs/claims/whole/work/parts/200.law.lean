/-! THE CLAIM OUT OF ONE WALK OF THE LAW'S BODY. Your part is whole_start (and what it stands on); all else here is the same for every law, but numbers. -/
def R_law : String := "SnowCitizensLaw"
def lw_P (b : Addr) (xs : List Int32) (args : Array Value) (s : State) : Prop := args = #[.ref b] ∧ s.IntsAt b xs ∧ xs.length ≤ 3072 ∧ (Jvm.Cond.and given_1 narrow_1).before args s = true
def lw_Q (_ : Array Value) (s : State) (o : Outcome) (t : State) : Prop := o = .returned (some (.int 1)) ∧ Framed s o t [] 600000 7302249
def lw_Z (below : List Frame) (a : Array Value) (s : State) : State → Prop := fun t => ∃ o, t.status = .running ∧ Ended t below o ∧ lw_Q a s o t
/-- the law's own end, with 1 on the stack, nothing written that was there before, its room as the claim has it -/
theorem lw_ret {p : Program} {l : Launch} {e : Env} {s : State} {m : MethodId} {below : List Frame} {meth : Method} {c : Code} {b : Nat} (hx : p.tables.exec = Jvm.exec) (hb : c.code = code) (hr : meth.sig.returnType = ret) (hlocks : meth.locks = false) {pc : Nat} {H : Heap} {ls : Array Slot} (hdg : decode code pc = .ok (.ireturn, 1)) : W p l e room_1 s m #[Value.ref b] below meth c H [] 600000 7302249 (lw_Z below #[Value.ref b] s) (F0 m pc ls [.int 1]) := by
  intro T hT X
  obtain ⟨fs, hret, hrun, hended, hW, hframe⟩ := X.leave (v := some (.int 1)) (hlocks := hlocks) (fun h => by rw [hr] at h; cases h)
  have hmeth' : T.vm.method? m = some meth := X.method'
  refine ⟨T.setFrames fs, ?_, .returned (some (.int 1)), hrun, hended, rfl, ⟨_, rfl⟩, hW, hframe⟩
  jvm_step X.here [X.here.top, hx, hb, hdg, hmeth', hr, ret, narrow_b1]
  (try refine ⟨rfl, ?_⟩); (try refine ⟨rfl, ?_⟩)
  first | (intro acts; rw [hret _ acts rfl rfl rfl]) | rw [hret _ _ rfl rfl rfl]
  exact Steps.refl _
/-- what holds at the law's entry: the machine, the code, the tables' words (any of lw_tbl by 'hts w (by decide +kernel)'), the script of L ints xs at the cell b, what the Statement gives of the start (any of its parts by flat_of_before) -/
def lw_At (p : Program) (s : State) (m : MethodId) (meth : Method) (c : Code) (b L : Nat) (xs : Nat → Int32) : Prop :=
  p.tables.exec = Jvm.exec ∧ c.code = code ∧ meth.sig.returnType = ret ∧ c.maxLocals = 4 ∧ s.vm.findClass R_law = some m.cls ∧ (∀ w ∈ lw_tbl, w.before #[Value.ref b] s = true) ∧ va_X b L xs s s.heap ∧ b < s.heap.size ∧ meth.locks = false ∧ (Jvm.Cond.and given_1 narrow_1).before #[Value.ref b] s = true

/-- the law's end: 1 on the stack -/
theorem law_end {p : Program} {l : Launch} {e : Env} {s : State} {m : MethodId} {below : List Frame} {meth : Method} {c : Code} {G : Gv} {b : Nat} {cells slots : Nat} {H : Heap} {locs : List Loc} {M : Mm} {pc : Nat} {ls : Array Slot} {ret0 : Option FieldType} (hC : Cx p s m #[Value.ref b] meth c cL_law 4 ret0 RL) (hAd : ∀ x, x < zNC → s.heap.size ≤ ad G x) (hw : St G s H locs M) (hz : cells ≤ 600000 ∧ slots ≤ 7302249) (hdg : decode cL_law pc = .ok (.ireturn, 1)) (hr0 : ret0 = ret := by rfl) : W p l e room_1 s m #[Value.ref b] below meth c H locs cells slots (lw_Z below #[Value.ref b] s) (F0 m pc ls [.int (1 : Int32)]) := by
  refine va_forget (fun q hq => ?_) ?_
  · obtain ⟨x, hx, h⟩ := hw.2.2.2.2.2.2 q hq
    rw [h]
    exact hAd x hx
  · refine W.widen (k := 600000) (n := 7302249) hz.1 hz.2 ?_
    exact lw_ret hC.1 hC.2.1 (by rw [← hr0]; exact hC.2.2.2.2.2.1) hC.2.2.2.2.2.2 hdg
def F_L_law_18 (L : Nat) (xs : Nat → Int32) (fu : Nat) : Nat → Mm → Int32 → Option Unit
  | 0, _, _ => none
  | n + 1, M, x3 =>
    if ((Int32.ofNat L) - (6 : Int32)) < x3 then
      some ()
    else
      if x3 < 0 ∨ L ≤ x3.toNatClampNeg then none else (
      if ((xs x3.toNatClampNeg) &&& (63 : Int32)) = (0 : Int32) then
        if (x3 + (1 : Int32)) < 0 ∨ L ≤ (x3 + (1 : Int32)).toNatClampNeg then none else (
        if (x3 + (2 : Int32)) < 0 ∨ L ≤ (x3 + (2 : Int32)).toNatClampNeg then none else (
        ob2 (F_X6_row fu M (xs (x3 + (1 : Int32)).toNatClampNeg) (xs (x3 + (2 : Int32)).toNatClampNeg)) (fun r7 M8 =>
        if (x3 + (1 : Int32)) < 0 ∨ L ≤ (x3 + (1 : Int32)).toNatClampNeg then none else (
        if (x3 + (2 : Int32)) < 0 ∨ L ≤ (x3 + (2 : Int32)).toNatClampNeg then none else (
        ob2 (F_X7_row fu M8 (xs (x3 + (1 : Int32)).toNatClampNeg) (xs (x3 + (2 : Int32)).toNatClampNeg)) (fun r12 M13 =>
        if r7 = r12 then
          F_L_law_18 L xs fu n M13 (x3 + (6 : Int32))
        else
          none))))))
      else
      if ((xs x3.toNatClampNeg) &&& (63 : Int32)) = (1 : Int32) then
        if (x3 + (1 : Int32)) < 0 ∨ L ≤ (x3 + (1 : Int32)).toNatClampNeg then none else (
        if (x3 + (2 : Int32)) < 0 ∨ L ≤ (x3 + (2 : Int32)).toNatClampNeg then none else (
        if (x3 + (3 : Int32)) < 0 ∨ L ≤ (x3 + (3 : Int32)).toNatClampNeg then none else (
        ob2 (F_X6_lay fu M (xs (x3 + (1 : Int32)).toNatClampNeg) (xs (x3 + (2 : Int32)).toNatClampNeg) (xs (x3 + (3 : Int32)).toNatClampNeg)) (fun r20 M21 =>
        if (x3 + (1 : Int32)) < 0 ∨ L ≤ (x3 + (1 : Int32)).toNatClampNeg then none else (
        if (x3 + (2 : Int32)) < 0 ∨ L ≤ (x3 + (2 : Int32)).toNatClampNeg then none else (
        if (x3 + (3 : Int32)) < 0 ∨ L ≤ (x3 + (3 : Int32)).toNatClampNeg then none else (
        ob2 (F_X7_lay fu M21 (xs (x3 + (1 : Int32)).toNatClampNeg) (xs (x3 + (2 : Int32)).toNatClampNeg) (xs (x3 + (3 : Int32)).toNatClampNeg)) (fun r26 M27 =>
        if r20 = r26 then
          F_L_law_18 L xs fu n M27 (x3 + (6 : Int32))
        else
          none))))))))
      else
      if ((xs x3.toNatClampNeg) &&& (63 : Int32)) = (2 : Int32) then
        if (x3 + (1 : Int32)) < 0 ∨ L ≤ (x3 + (1 : Int32)).toNatClampNeg then none else (
        if (x3 + (2 : Int32)) < 0 ∨ L ≤ (x3 + (2 : Int32)).toNatClampNeg then none else (
        ob2 (F_X6_at fu M (xs (x3 + (1 : Int32)).toNatClampNeg) (xs (x3 + (2 : Int32)).toNatClampNeg)) (fun r33 M34 =>
        if (x3 + (1 : Int32)) < 0 ∨ L ≤ (x3 + (1 : Int32)).toNatClampNeg then none else (
        if (x3 + (2 : Int32)) < 0 ∨ L ≤ (x3 + (2 : Int32)).toNatClampNeg then none else (
        ob2 (F_X7_at fu M34 (xs (x3 + (1 : Int32)).toNatClampNeg) (xs (x3 + (2 : Int32)).toNatClampNeg)) (fun r38 M39 =>
        if r33 = r38 then
          F_L_law_18 L xs fu n M39 (x3 + (6 : Int32))
        else
          none))))))
      else
      if ((xs x3.toNatClampNeg) &&& (63 : Int32)) = (3 : Int32) then
        if (x3 + (1 : Int32)) < 0 ∨ L ≤ (x3 + (1 : Int32)).toNatClampNeg then none else (
        ob2 (F_X6_tear fu M (xs (x3 + (1 : Int32)).toNatClampNeg)) (fun r44 M45 =>
        if (x3 + (1 : Int32)) < 0 ∨ L ≤ (x3 + (1 : Int32)).toNatClampNeg then none else (
        ob2 (F_X7_tear fu M45 (xs (x3 + (1 : Int32)).toNatClampNeg)) (fun r48 M49 =>
        if r44 = r48 then
          F_L_law_18 L xs fu n M49 (x3 + (6 : Int32))
        else
          none))))
      else
      if ((xs x3.toNatClampNeg) &&& (63 : Int32)) = (4 : Int32) then
        if (x3 + (1 : Int32)) < 0 ∨ L ≤ (x3 + (1 : Int32)).toNatClampNeg then none else (
        if (x3 + (2 : Int32)) < 0 ∨ L ≤ (x3 + (2 : Int32)).toNatClampNeg then none else (
        if (x3 + (3 : Int32)) < 0 ∨ L ≤ (x3 + (3 : Int32)).toNatClampNeg then none else (
        if (x3 + (4 : Int32)) < 0 ∨ L ≤ (x3 + (4 : Int32)).toNatClampNeg then none else (
        if (x3 + (5 : Int32)) < 0 ∨ L ≤ (x3 + (5 : Int32)).toNatClampNeg then none else (
        ob2 (F_X6_copy fu M (xs (x3 + (1 : Int32)).toNatClampNeg) (xs (x3 + (2 : Int32)).toNatClampNeg) (xs (x3 + (3 : Int32)).toNatClampNeg) (xs (x3 + (4 : Int32)).toNatClampNeg) (xs (x3 + (5 : Int32)).toNatClampNeg)) (fun r58 M59 =>
        if (x3 + (1 : Int32)) < 0 ∨ L ≤ (x3 + (1 : Int32)).toNatClampNeg then none else (
        if (x3 + (2 : Int32)) < 0 ∨ L ≤ (x3 + (2 : Int32)).toNatClampNeg then none else (
        if (x3 + (3 : Int32)) < 0 ∨ L ≤ (x3 + (3 : Int32)).toNatClampNeg then none else (
        if (x3 + (4 : Int32)) < 0 ∨ L ≤ (x3 + (4 : Int32)).toNatClampNeg then none else (
        if (x3 + (5 : Int32)) < 0 ∨ L ≤ (x3 + (5 : Int32)).toNatClampNeg then none else (
        ob2 (F_X7_copy fu M59 (xs (x3 + (1 : Int32)).toNatClampNeg) (xs (x3 + (2 : Int32)).toNatClampNeg) (xs (x3 + (3 : Int32)).toNatClampNeg) (xs (x3 + (4 : Int32)).toNatClampNeg) (xs (x3 + (5 : Int32)).toNatClampNeg)) (fun r66 M67 =>
        if r58 = r66 then
          F_L_law_18 L xs fu n M67 (x3 + (6 : Int32))
        else
          none))))))))))))
      else
      if ((xs x3.toNatClampNeg) &&& (63 : Int32)) = (5 : Int32) then
        if (x3 + (1 : Int32)) < 0 ∨ L ≤ (x3 + (1 : Int32)).toNatClampNeg then none else (
        ob2 (F_X6_mean fu M (xs (x3 + (1 : Int32)).toNatClampNeg)) (fun r72 M73 =>
        if (x3 + (1 : Int32)) < 0 ∨ L ≤ (x3 + (1 : Int32)).toNatClampNeg then none else (
        ob2 (F_X7_mean fu M73 (xs (x3 + (1 : Int32)).toNatClampNeg)) (fun r76 M77 =>
        if r72 = r76 then
          F_L_law_18 L xs fu n M77 (x3 + (6 : Int32))
        else
          none))))
      else
      if ((xs x3.toNatClampNeg) &&& (63 : Int32)) = (6 : Int32) then
        if (x3 + (1 : Int32)) < 0 ∨ L ≤ (x3 + (1 : Int32)).toNatClampNeg then none else (
        if (x3 + (2 : Int32)) < 0 ∨ L ≤ (x3 + (2 : Int32)).toNatClampNeg then none else (
        ob2 (F_X6_text fu M (xs (x3 + (1 : Int32)).toNatClampNeg) (xs (x3 + (2 : Int32)).toNatClampNeg)) (fun r83 M84 =>
        if (x3 + (1 : Int32)) < 0 ∨ L ≤ (x3 + (1 : Int32)).toNatClampNeg then none else (
        if (x3 + (2 : Int32)) < 0 ∨ L ≤ (x3 + (2 : Int32)).toNatClampNeg then none else (
        ob2 (F_X7_text fu M84 (xs (x3 + (1 : Int32)).toNatClampNeg) (xs (x3 + (2 : Int32)).toNatClampNeg)) (fun r88 M89 =>
        if r83 = r88 then
          F_L_law_18 L xs fu n M89 (x3 + (6 : Int32))
        else
          none))))))
      else
      if ((xs x3.toNatClampNeg) &&& (63 : Int32)) = (7 : Int32) then
        if (x3 + (1 : Int32)) < 0 ∨ L ≤ (x3 + (1 : Int32)).toNatClampNeg then none else (
        if (x3 + (2 : Int32)) < 0 ∨ L ≤ (x3 + (2 : Int32)).toNatClampNeg then none else (
        if (x3 + (3 : Int32)) < 0 ∨ L ≤ (x3 + (3 : Int32)).toNatClampNeg then none else (
        ob2 (F_X6_put fu M (xs (x3 + (1 : Int32)).toNatClampNeg) (xs (x3 + (2 : Int32)).toNatClampNeg) (xs (x3 + (3 : Int32)).toNatClampNeg)) (fun r96 M97 =>
        if (x3 + (1 : Int32)) < 0 ∨ L ≤ (x3 + (1 : Int32)).toNatClampNeg then none else (
        if (x3 + (2 : Int32)) < 0 ∨ L ≤ (x3 + (2 : Int32)).toNatClampNeg then none else (
        if (x3 + (3 : Int32)) < 0 ∨ L ≤ (x3 + (3 : Int32)).toNatClampNeg then none else (
        ob2 (F_X7_put fu M97 (xs (x3 + (1 : Int32)).toNatClampNeg) (xs (x3 + (2 : Int32)).toNatClampNeg) (xs (x3 + (3 : Int32)).toNatClampNeg)) (fun r102 M103 =>
        if r96 = r102 then
          F_L_law_18 L xs fu n M103 (x3 + (6 : Int32))
        else
          none))))))))
      else
      if ((xs x3.toNatClampNeg) &&& (63 : Int32)) = (8 : Int32) then
        if (x3 + (1 : Int32)) < 0 ∨ L ≤ (x3 + (1 : Int32)).toNatClampNeg then none else (
        ob2 (F_X6_fault fu M (xs (x3 + (1 : Int32)).toNatClampNeg)) (fun r108 M109 =>
        if (x3 + (1 : Int32)) < 0 ∨ L ≤ (x3 + (1 : Int32)).toNatClampNeg then none else (
        ob2 (F_X7_fault fu M109 (xs (x3 + (1 : Int32)).toNatClampNeg)) (fun r112 M113 =>
        if r108 = r112 then
          F_L_law_18 L xs fu n M113 (x3 + (6 : Int32))
        else
          none))))
      else
      if ((xs x3.toNatClampNeg) &&& (63 : Int32)) = (9 : Int32) then
        if (x3 + (1 : Int32)) < 0 ∨ L ≤ (x3 + (1 : Int32)).toNatClampNeg then none else (
        ob2 (F_X6_north fu M (xs (x3 + (1 : Int32)).toNatClampNeg)) (fun r118 M119 =>
        if (x3 + (1 : Int32)) < 0 ∨ L ≤ (x3 + (1 : Int32)).toNatClampNeg then none else (
        ob2 (F_X7_north fu M119 (xs (x3 + (1 : Int32)).toNatClampNeg)) (fun r122 M123 =>
        if r118 = r122 then
          F_L_law_18 L xs fu n M123 (x3 + (6 : Int32))
        else
          none))))
      else
      if ((xs x3.toNatClampNeg) &&& (63 : Int32)) = (10 : Int32) then
        if (x3 + (1 : Int32)) < 0 ∨ L ≤ (x3 + (1 : Int32)).toNatClampNeg then none else (
        if (x3 + (2 : Int32)) < 0 ∨ L ≤ (x3 + (2 : Int32)).toNatClampNeg then none else (
        ob2 (F_X6_man fu M (xs (x3 + (1 : Int32)).toNatClampNeg) (xs (x3 + (2 : Int32)).toNatClampNeg)) (fun r129 M130 =>
        if (x3 + (1 : Int32)) < 0 ∨ L ≤ (x3 + (1 : Int32)).toNatClampNeg then none else (
        if (x3 + (2 : Int32)) < 0 ∨ L ≤ (x3 + (2 : Int32)).toNatClampNeg then none else (
        ob2 (F_X7_man fu M130 (xs (x3 + (1 : Int32)).toNatClampNeg) (xs (x3 + (2 : Int32)).toNatClampNeg)) (fun r134 M135 =>
        if r129 = r134 then
          F_L_law_18 L xs fu n M135 (x3 + (6 : Int32))
        else
          none))))))
      else
      if ((xs x3.toNatClampNeg) &&& (63 : Int32)) = (11 : Int32) then
        if (x3 + (1 : Int32)) < 0 ∨ L ≤ (x3 + (1 : Int32)).toNatClampNeg then none else (
        if (x3 + (2 : Int32)) < 0 ∨ L ≤ (x3 + (2 : Int32)).toNatClampNeg then none else (
        ob2 (F_X6_mark fu M (xs (x3 + (1 : Int32)).toNatClampNeg) (xs (x3 + (2 : Int32)).toNatClampNeg)) (fun r141 M142 =>
        if (x3 + (1 : Int32)) < 0 ∨ L ≤ (x3 + (1 : Int32)).toNatClampNeg then none else (
        if (x3 + (2 : Int32)) < 0 ∨ L ≤ (x3 + (2 : Int32)).toNatClampNeg then none else (
        ob2 (F_X7_mark fu M142 (xs (x3 + (1 : Int32)).toNatClampNeg) (xs (x3 + (2 : Int32)).toNatClampNeg)) (fun r146 M147 =>
        if r141 = r146 then
          F_L_law_18 L xs fu n M147 (x3 + (6 : Int32))
        else
          none))))))
      else
      if ((xs x3.toNatClampNeg) &&& (63 : Int32)) = (12 : Int32) then
        if (x3 + (1 : Int32)) < 0 ∨ L ≤ (x3 + (1 : Int32)).toNatClampNeg then none else (
        ob1 (F_X6_sun fu M (xs (x3 + (1 : Int32)).toNatClampNeg)) (fun r152 =>
        if (x3 + (1 : Int32)) < 0 ∨ L ≤ (x3 + (1 : Int32)).toNatClampNeg then none else (
        ob1 (F_X7_sun fu M (xs (x3 + (1 : Int32)).toNatClampNeg)) (fun r155 =>
        if r152 = r155 then
          F_L_law_18 L xs fu n M (x3 + (6 : Int32))
        else
          none))))
      else
      if ((xs x3.toNatClampNeg) &&& (63 : Int32)) = (13 : Int32) then
        if (x3 + (1 : Int32)) < 0 ∨ L ≤ (x3 + (1 : Int32)).toNatClampNeg then none else (
        ob2 (F_X6_right fu M (xs (x3 + (1 : Int32)).toNatClampNeg)) (fun r160 M161 =>
        if (x3 + (1 : Int32)) < 0 ∨ L ≤ (x3 + (1 : Int32)).toNatClampNeg then none else (
        ob2 (F_X7_right fu M161 (xs (x3 + (1 : Int32)).toNatClampNeg)) (fun r164 M165 =>
        if r160 = r164 then
          F_L_law_18 L xs fu n M165 (x3 + (6 : Int32))
        else
          none))))
      else
      if ((xs x3.toNatClampNeg) &&& (63 : Int32)) = (14 : Int32) then
        ob2 (F_X6_day fu M) (fun r169 M170 =>
        ob2 (F_X7_day fu M170) (fun r172 M173 =>
        if r169 = r172 then
          F_L_law_18 L xs fu n M173 (x3 + (6 : Int32))
        else
          none))
      else
      if ((xs x3.toNatClampNeg) &&& (63 : Int32)) = (15 : Int32) then
        if (x3 + (1 : Int32)) < 0 ∨ L ≤ (x3 + (1 : Int32)).toNatClampNeg then none else (
        if (x3 + (2 : Int32)) < 0 ∨ L ≤ (x3 + (2 : Int32)).toNatClampNeg then none else (
        ob2 (F_X6_shade fu M (xs (x3 + (1 : Int32)).toNatClampNeg) (xs (x3 + (2 : Int32)).toNatClampNeg)) (fun r179 M180 =>
        if (x3 + (1 : Int32)) < 0 ∨ L ≤ (x3 + (1 : Int32)).toNatClampNeg then none else (
        if (x3 + (2 : Int32)) < 0 ∨ L ≤ (x3 + (2 : Int32)).toNatClampNeg then none else (
        ob2 (F_X7_shade fu M180 (xs (x3 + (1 : Int32)).toNatClampNeg) (xs (x3 + (2 : Int32)).toNatClampNeg)) (fun r184 M185 =>
        if r179 = r184 then
          F_L_law_18 L xs fu n M185 (x3 + (6 : Int32))
        else
          none))))))
      else
      if ((xs x3.toNatClampNeg) &&& (63 : Int32)) = (16 : Int32) then
        if (x3 + (1 : Int32)) < 0 ∨ L ≤ (x3 + (1 : Int32)).toNatClampNeg then none else (
        if (x3 + (2 : Int32)) < 0 ∨ L ≤ (x3 + (2 : Int32)).toNatClampNeg then none else (
        ob2 (F_X6_snow fu M (xs (x3 + (1 : Int32)).toNatClampNeg) (xs (x3 + (2 : Int32)).toNatClampNeg)) (fun r191 M192 =>
        if (x3 + (1 : Int32)) < 0 ∨ L ≤ (x3 + (1 : Int32)).toNatClampNeg then none else (
        if (x3 + (2 : Int32)) < 0 ∨ L ≤ (x3 + (2 : Int32)).toNatClampNeg then none else (
        ob2 (F_X7_snow fu M192 (xs (x3 + (1 : Int32)).toNatClampNeg) (xs (x3 + (2 : Int32)).toNatClampNeg)) (fun r196 M197 =>
        if r191 = r196 then
          F_L_law_18 L xs fu n M197 (x3 + (6 : Int32))
        else
          none))))))
      else
      if ((xs x3.toNatClampNeg) &&& (63 : Int32)) = (17 : Int32) then
        if (x3 + (1 : Int32)) < 0 ∨ L ≤ (x3 + (1 : Int32)).toNatClampNeg then none else (
        ob2 (F_X6_undo fu M (xs (x3 + (1 : Int32)).toNatClampNeg)) (fun r202 M203 =>
        if (x3 + (1 : Int32)) < 0 ∨ L ≤ (x3 + (1 : Int32)).toNatClampNeg then none else (
        ob2 (F_X7_undo fu M203 (xs (x3 + (1 : Int32)).toNatClampNeg)) (fun r206 M207 =>
        if r202 = r206 then
          F_L_law_18 L xs fu n M207 (x3 + (6 : Int32))
        else
          none))))
      else
      if ((xs x3.toNatClampNeg) &&& (63 : Int32)) = (18 : Int32) then
        ob2 (F_X6_now fu M) (fun r211 M212 =>
        ob2 (F_X7_now fu M212) (fun r214 M215 =>
        if r211 = r214 then
          F_L_law_18 L xs fu n M215 (x3 + (6 : Int32))
        else
          none))
      else
      if ((xs x3.toNatClampNeg) &&& (63 : Int32)) = (19 : Int32) then
        if (x3 + (1 : Int32)) < 0 ∨ L ≤ (x3 + (1 : Int32)).toNatClampNeg then none else (
        ob2 (F_X6_keep fu M (xs (x3 + (1 : Int32)).toNatClampNeg)) (fun r220 M221 =>
        if (x3 + (1 : Int32)) < 0 ∨ L ≤ (x3 + (1 : Int32)).toNatClampNeg then none else (
        ob2 (F_X7_keep fu M221 (xs (x3 + (1 : Int32)).toNatClampNeg)) (fun r224 M225 =>
        if r220 = r224 then
          F_L_law_18 L xs fu n M225 (x3 + (6 : Int32))
        else
          none))))
      else
      if ((xs x3.toNatClampNeg) &&& (63 : Int32)) = (20 : Int32) then
        if (x3 + (1 : Int32)) < 0 ∨ L ≤ (x3 + (1 : Int32)).toNatClampNeg then none else (
        ob2 (F_X6_on fu M (xs (x3 + (1 : Int32)).toNatClampNeg)) (fun r230 M231 =>
        if (x3 + (1 : Int32)) < 0 ∨ L ≤ (x3 + (1 : Int32)).toNatClampNeg then none else (
        ob2 (F_X7_on fu M231 (xs (x3 + (1 : Int32)).toNatClampNeg)) (fun r234 M235 =>
        if r230 = r234 then
          F_L_law_18 L xs fu n M235 (x3 + (6 : Int32))
        else
          none))))
      else
      if ((xs x3.toNatClampNeg) &&& (63 : Int32)) = (21 : Int32) then
        if (x3 + (1 : Int32)) < 0 ∨ L ≤ (x3 + (1 : Int32)).toNatClampNeg then none else (
        if (x3 + (2 : Int32)) < 0 ∨ L ≤ (x3 + (2 : Int32)).toNatClampNeg then none else (
        ob1 (F_X6_bulk fu M (xs (x3 + (1 : Int32)).toNatClampNeg) (xs (x3 + (2 : Int32)).toNatClampNeg)) (fun r241 =>
        if (x3 + (1 : Int32)) < 0 ∨ L ≤ (x3 + (1 : Int32)).toNatClampNeg then none else (
        if (x3 + (2 : Int32)) < 0 ∨ L ≤ (x3 + (2 : Int32)).toNatClampNeg then none else (
        ob1 (F_X7_bulk fu M (xs (x3 + (1 : Int32)).toNatClampNeg) (xs (x3 + (2 : Int32)).toNatClampNeg)) (fun r245 =>
        if r241 = r245 then
          F_L_law_18 L xs fu n M (x3 + (6 : Int32))
        else
          none))))))
      else
      if ((xs x3.toNatClampNeg) &&& (63 : Int32)) = (22 : Int32) then
        if (x3 + (1 : Int32)) < 0 ∨ L ≤ (x3 + (1 : Int32)).toNatClampNeg then none else (
        ob1 (F_X6_gone fu M (xs (x3 + (1 : Int32)).toNatClampNeg)) (fun r250 =>
        if (x3 + (1 : Int32)) < 0 ∨ L ≤ (x3 + (1 : Int32)).toNatClampNeg then none else (
        ob1 (F_X7_gone fu M (xs (x3 + (1 : Int32)).toNatClampNeg)) (fun r253 =>
        if r250 = r253 then
          F_L_law_18 L xs fu n M (x3 + (6 : Int32))
        else
          none))))
      else
      if ((xs x3.toNatClampNeg) &&& (63 : Int32)) = (23 : Int32) then
        if (x3 + (1 : Int32)) < 0 ∨ L ≤ (x3 + (1 : Int32)).toNatClampNeg then none else (
        ob2 (F_X6_votes fu M (xs (x3 + (1 : Int32)).toNatClampNeg)) (fun r258 M259 =>
        if (x3 + (1 : Int32)) < 0 ∨ L ≤ (x3 + (1 : Int32)).toNatClampNeg then none else (
        ob2 (F_X7_votes fu M259 (xs (x3 + (1 : Int32)).toNatClampNeg)) (fun r262 M263 =>
        if r258 = r262 then
          F_L_law_18 L xs fu n M263 (x3 + (6 : Int32))
        else
          none))))
      else
      if ((xs x3.toNatClampNeg) &&& (63 : Int32)) = (24 : Int32) then
        if (x3 + (1 : Int32)) < 0 ∨ L ≤ (x3 + (1 : Int32)).toNatClampNeg then none else (
        ob2 (F_X6_carried fu M (xs (x3 + (1 : Int32)).toNatClampNeg)) (fun r268 M269 =>
        if (x3 + (1 : Int32)) < 0 ∨ L ≤ (x3 + (1 : Int32)).toNatClampNeg then none else (
        ob1 (F_X7_carried fu M269 (xs (x3 + (1 : Int32)).toNatClampNeg)) (fun r272 =>
        if r268 = r272 then
          F_L_law_18 L xs fu n M269 (x3 + (6 : Int32))
        else
          none))))
      else
      if ((xs x3.toNatClampNeg) &&& (63 : Int32)) = (25 : Int32) then
        if (x3 + (1 : Int32)) < 0 ∨ L ≤ (x3 + (1 : Int32)).toNatClampNeg then none else (
        ob2 (F_X6_days fu M (xs (x3 + (1 : Int32)).toNatClampNeg)) (fun r277 M278 =>
        if (x3 + (1 : Int32)) < 0 ∨ L ≤ (x3 + (1 : Int32)).toNatClampNeg then none else (
        ob1 (F_X7_days fu M278 (xs (x3 + (1 : Int32)).toNatClampNeg)) (fun r281 =>
        if r277 = r281 then
          F_L_law_18 L xs fu n M278 (x3 + (6 : Int32))
        else
          none))))
      else
      if ((xs x3.toNatClampNeg) &&& (63 : Int32)) = (26 : Int32) then
        ob2 (F_X6_widow fu M) (fun r285 M286 =>
        ob2 (F_X7_widow fu M286) (fun r288 M289 =>
        if r285 = r288 then
          F_L_law_18 L xs fu n M289 (x3 + (6 : Int32))
        else
          none))
      else
      if ((xs x3.toNatClampNeg) &&& (63 : Int32)) = (27 : Int32) then
        if (x3 + (1 : Int32)) < 0 ∨ L ≤ (x3 + (1 : Int32)).toNatClampNeg then none else (
        if (x3 + (2 : Int32)) < 0 ∨ L ≤ (x3 + (2 : Int32)).toNatClampNeg then none else (
        ob1 (F_X6_heir fu M (xs (x3 + (1 : Int32)).toNatClampNeg) (xs (x3 + (2 : Int32)).toNatClampNeg)) (fun r295 =>
        if (x3 + (1 : Int32)) < 0 ∨ L ≤ (x3 + (1 : Int32)).toNatClampNeg then none else (
        if (x3 + (2 : Int32)) < 0 ∨ L ≤ (x3 + (2 : Int32)).toNatClampNeg then none else (
        ob1 (F_X7_heir fu M (xs (x3 + (1 : Int32)).toNatClampNeg) (xs (x3 + (2 : Int32)).toNatClampNeg)) (fun r299 =>
        if r295 = r299 then
          F_L_law_18 L xs fu n M (x3 + (6 : Int32))
        else
          none))))))
      else
      if ((xs x3.toNatClampNeg) &&& (63 : Int32)) = (28 : Int32) then
        if (x3 + (1 : Int32)) < 0 ∨ L ≤ (x3 + (1 : Int32)).toNatClampNeg then none else (
        if (x3 + (2 : Int32)) < 0 ∨ L ≤ (x3 + (2 : Int32)).toNatClampNeg then none else (
        if (x3 + (3 : Int32)) < 0 ∨ L ≤ (x3 + (3 : Int32)).toNatClampNeg then none else (
        ob2 (F_X6_guard fu M (xs (x3 + (1 : Int32)).toNatClampNeg) (xs (x3 + (2 : Int32)).toNatClampNeg) (xs (x3 + (3 : Int32)).toNatClampNeg)) (fun r306 M307 =>
        if (x3 + (1 : Int32)) < 0 ∨ L ≤ (x3 + (1 : Int32)).toNatClampNeg then none else (
        if (x3 + (2 : Int32)) < 0 ∨ L ≤ (x3 + (2 : Int32)).toNatClampNeg then none else (
        if (x3 + (3 : Int32)) < 0 ∨ L ≤ (x3 + (3 : Int32)).toNatClampNeg then none else (
        ob2 (F_X7_guard fu M307 (xs (x3 + (1 : Int32)).toNatClampNeg) (xs (x3 + (2 : Int32)).toNatClampNeg) (xs (x3 + (3 : Int32)).toNatClampNeg)) (fun r312 M313 =>
        if r306 = r312 then
          F_L_law_18 L xs fu n M313 (x3 + (6 : Int32))
        else
          none))))))))
      else
      if ((xs x3.toNatClampNeg) &&& (63 : Int32)) = (29 : Int32) then
        if (x3 + (1 : Int32)) < 0 ∨ L ≤ (x3 + (1 : Int32)).toNatClampNeg then none else (
        if (x3 + (2 : Int32)) < 0 ∨ L ≤ (x3 + (2 : Int32)).toNatClampNeg then none else (
        if (x3 + (3 : Int32)) < 0 ∨ L ≤ (x3 + (3 : Int32)).toNatClampNeg then none else (
        ob2 (F_X6_bribe fu M (xs (x3 + (1 : Int32)).toNatClampNeg) (xs (x3 + (2 : Int32)).toNatClampNeg) (xs (x3 + (3 : Int32)).toNatClampNeg)) (fun r320 M321 =>
        if (x3 + (1 : Int32)) < 0 ∨ L ≤ (x3 + (1 : Int32)).toNatClampNeg then none else (
        if (x3 + (2 : Int32)) < 0 ∨ L ≤ (x3 + (2 : Int32)).toNatClampNeg then none else (
        if (x3 + (3 : Int32)) < 0 ∨ L ≤ (x3 + (3 : Int32)).toNatClampNeg then none else (
        ob2 (F_X7_bribe fu M321 (xs (x3 + (1 : Int32)).toNatClampNeg) (xs (x3 + (2 : Int32)).toNatClampNeg) (xs (x3 + (3 : Int32)).toNatClampNeg)) (fun r326 M327 =>
        if r320 = r326 then
          F_L_law_18 L xs fu n M327 (x3 + (6 : Int32))
        else
          none))))))))
      else
      if ((xs x3.toNatClampNeg) &&& (63 : Int32)) = (30 : Int32) then
        if (x3 + (1 : Int32)) < 0 ∨ L ≤ (x3 + (1 : Int32)).toNatClampNeg then none else (
        if (x3 + (2 : Int32)) < 0 ∨ L ≤ (x3 + (2 : Int32)).toNatClampNeg then none else (
        ob1 (F_X6_carry fu M (xs (x3 + (1 : Int32)).toNatClampNeg) (xs (x3 + (2 : Int32)).toNatClampNeg)) (fun r333 =>
        if (x3 + (1 : Int32)) < 0 ∨ L ≤ (x3 + (1 : Int32)).toNatClampNeg then none else (
        if (x3 + (2 : Int32)) < 0 ∨ L ≤ (x3 + (2 : Int32)).toNatClampNeg then none else (
        ob1 (F_X7_carry fu M (xs (x3 + (1 : Int32)).toNatClampNeg) (xs (x3 + (2 : Int32)).toNatClampNeg)) (fun r337 =>
        if r333 = r337 then
          F_L_law_18 L xs fu n M (x3 + (6 : Int32))
        else
          none))))))
      else
      if ((xs x3.toNatClampNeg) &&& (63 : Int32)) = (31 : Int32) then
        if (x3 + (1 : Int32)) < 0 ∨ L ≤ (x3 + (1 : Int32)).toNatClampNeg then none else (
        ob2 (F_X6_census fu M (xs (x3 + (1 : Int32)).toNatClampNeg)) (fun r342 M343 =>
        if (x3 + (1 : Int32)) < 0 ∨ L ≤ (x3 + (1 : Int32)).toNatClampNeg then none else (
        ob2 (F_X7_census fu M343 (xs (x3 + (1 : Int32)).toNatClampNeg)) (fun r346 M347 =>
        if r342 = r346 then
          F_L_law_18 L xs fu n M347 (x3 + (6 : Int32))
        else
          none))))
      else
      if ((xs x3.toNatClampNeg) &&& (63 : Int32)) = (32 : Int32) then
        if (x3 + (1 : Int32)) < 0 ∨ L ≤ (x3 + (1 : Int32)).toNatClampNeg then none else (
        ob2 (F_X6_counted fu M (xs (x3 + (1 : Int32)).toNatClampNeg)) (fun r352 M353 =>
        if (x3 + (1 : Int32)) < 0 ∨ L ≤ (x3 + (1 : Int32)).toNatClampNeg then none else (
        ob2 (F_X7_counted fu M353 (xs (x3 + (1 : Int32)).toNatClampNeg)) (fun r356 M357 =>
        if r352 = r356 then
          F_L_law_18 L xs fu n M357 (x3 + (6 : Int32))
        else
          none))))
      else
      if ((xs x3.toNatClampNeg) &&& (63 : Int32)) = (33 : Int32) then
        if (x3 + (1 : Int32)) < 0 ∨ L ≤ (x3 + (1 : Int32)).toNatClampNeg then none else (
        if (x3 + (2 : Int32)) < 0 ∨ L ≤ (x3 + (2 : Int32)).toNatClampNeg then none else (
        ob2 (F_X6_fits fu M (xs (x3 + (1 : Int32)).toNatClampNeg) (xs (x3 + (2 : Int32)).toNatClampNeg)) (fun r363 M364 =>
        if (x3 + (1 : Int32)) < 0 ∨ L ≤ (x3 + (1 : Int32)).toNatClampNeg then none else (
        if (x3 + (2 : Int32)) < 0 ∨ L ≤ (x3 + (2 : Int32)).toNatClampNeg then none else (
        ob2 (F_X7_fits fu M364 (xs (x3 + (1 : Int32)).toNatClampNeg) (xs (x3 + (2 : Int32)).toNatClampNeg)) (fun r368 M369 =>
        if r363 = r368 then
          F_L_law_18 L xs fu n M369 (x3 + (6 : Int32))
        else
          none))))))
      else
      if ((xs x3.toNatClampNeg) &&& (63 : Int32)) = (34 : Int32) then
        if (x3 + (1 : Int32)) < 0 ∨ L ≤ (x3 + (1 : Int32)).toNatClampNeg then none else (
        if (x3 + (2 : Int32)) < 0 ∨ L ≤ (x3 + (2 : Int32)).toNatClampNeg then none else (
        ob2 (F_X6_kinds fu M (xs (x3 + (1 : Int32)).toNatClampNeg) (xs (x3 + (2 : Int32)).toNatClampNeg)) (fun r375 M376 =>
        if (x3 + (1 : Int32)) < 0 ∨ L ≤ (x3 + (1 : Int32)).toNatClampNeg then none else (
        if (x3 + (2 : Int32)) < 0 ∨ L ≤ (x3 + (2 : Int32)).toNatClampNeg then none else (
        ob2 (F_X7_kinds fu M376 (xs (x3 + (1 : Int32)).toNatClampNeg) (xs (x3 + (2 : Int32)).toNatClampNeg)) (fun r380 M381 =>
        if r375 = r380 then
          F_L_law_18 L xs fu n M381 (x3 + (6 : Int32))
        else
          none))))))
      else
      if ((xs x3.toNatClampNeg) &&& (63 : Int32)) = (35 : Int32) then
        if (x3 + (1 : Int32)) < 0 ∨ L ≤ (x3 + (1 : Int32)).toNatClampNeg then none else (
        ob1 (F_X6_rights fu M (xs (x3 + (1 : Int32)).toNatClampNeg)) (fun r386 =>
        if (x3 + (1 : Int32)) < 0 ∨ L ≤ (x3 + (1 : Int32)).toNatClampNeg then none else (
        ob2 (F_X7_rights fu M (xs (x3 + (1 : Int32)).toNatClampNeg)) (fun r389 M390 =>
        if r386 = r389 then
          F_L_law_18 L xs fu n M390 (x3 + (6 : Int32))
        else
          none))))
      else
      if ((xs x3.toNatClampNeg) &&& (63 : Int32)) = (36 : Int32) then
        if (x3 + (1 : Int32)) < 0 ∨ L ≤ (x3 + (1 : Int32)).toNatClampNeg then none else (
        ob2 (F_X6_game fu M (xs (x3 + (1 : Int32)).toNatClampNeg)) (fun r395 M396 =>
        if (x3 + (1 : Int32)) < 0 ∨ L ≤ (x3 + (1 : Int32)).toNatClampNeg then none else (
        ob2 (F_X7_game fu M396 (xs (x3 + (1 : Int32)).toNatClampNeg)) (fun r399 M400 =>
        if r395 = r399 then
          F_L_law_18 L xs fu n M400 (x3 + (6 : Int32))
        else
          none))))
      else
      if ((xs x3.toNatClampNeg) &&& (63 : Int32)) = (37 : Int32) then
        if (x3 + (1 : Int32)) < 0 ∨ L ≤ (x3 + (1 : Int32)).toNatClampNeg then none else (
        ob2 (F_X6_first fu M (xs (x3 + (1 : Int32)).toNatClampNeg)) (fun r405 M406 =>
        if (x3 + (1 : Int32)) < 0 ∨ L ≤ (x3 + (1 : Int32)).toNatClampNeg then none else (
        ob2 (F_X7_first fu M406 (xs (x3 + (1 : Int32)).toNatClampNeg)) (fun r409 M410 =>
        if r405 = r409 then
          F_L_law_18 L xs fu n M410 (x3 + (6 : Int32))
        else
          none))))
      else
      if ((xs x3.toNatClampNeg) &&& (63 : Int32)) = (38 : Int32) then
        if (x3 + (1 : Int32)) < 0 ∨ L ≤ (x3 + (1 : Int32)).toNatClampNeg then none else (
        if (x3 + (2 : Int32)) < 0 ∨ L ≤ (x3 + (2 : Int32)).toNatClampNeg then none else (
        if (x3 + (3 : Int32)) < 0 ∨ L ≤ (x3 + (3 : Int32)).toNatClampNeg then none else (
        ob2 (F_X6_odds fu M (xs (x3 + (1 : Int32)).toNatClampNeg) (xs (x3 + (2 : Int32)).toNatClampNeg) (xs (x3 + (3 : Int32)).toNatClampNeg)) (fun r417 M418 =>
        if (x3 + (1 : Int32)) < 0 ∨ L ≤ (x3 + (1 : Int32)).toNatClampNeg then none else (
        if (x3 + (2 : Int32)) < 0 ∨ L ≤ (x3 + (2 : Int32)).toNatClampNeg then none else (
        if (x3 + (3 : Int32)) < 0 ∨ L ≤ (x3 + (3 : Int32)).toNatClampNeg then none else (
        ob2 (F_X7_odds fu M418 (xs (x3 + (1 : Int32)).toNatClampNeg) (xs (x3 + (2 : Int32)).toNatClampNeg) (xs (x3 + (3 : Int32)).toNatClampNeg)) (fun r423 M424 =>
        if r417 = r423 then
          F_L_law_18 L xs fu n M424 (x3 + (6 : Int32))
        else
          none))))))))
      else
      if ((xs x3.toNatClampNeg) &&& (63 : Int32)) = (39 : Int32) then
        if (x3 + (1 : Int32)) < 0 ∨ L ≤ (x3 + (1 : Int32)).toNatClampNeg then none else (
        if (x3 + (2 : Int32)) < 0 ∨ L ≤ (x3 + (2 : Int32)).toNatClampNeg then none else (
        if (x3 + (3 : Int32)) < 0 ∨ L ≤ (x3 + (3 : Int32)).toNatClampNeg then none else (
        ob2 (F_X6_mid fu M (xs (x3 + (1 : Int32)).toNatClampNeg) (xs (x3 + (2 : Int32)).toNatClampNeg) (xs (x3 + (3 : Int32)).toNatClampNeg)) (fun r431 M432 =>
        if (x3 + (1 : Int32)) < 0 ∨ L ≤ (x3 + (1 : Int32)).toNatClampNeg then none else (
        if (x3 + (2 : Int32)) < 0 ∨ L ≤ (x3 + (2 : Int32)).toNatClampNeg then none else (
        if (x3 + (3 : Int32)) < 0 ∨ L ≤ (x3 + (3 : Int32)).toNatClampNeg then none else (
        ob2 (F_X7_mid fu M432 (xs (x3 + (1 : Int32)).toNatClampNeg) (xs (x3 + (2 : Int32)).toNatClampNeg) (xs (x3 + (3 : Int32)).toNatClampNeg)) (fun r437 M438 =>
        if r431 = r437 then
          F_L_law_18 L xs fu n M438 (x3 + (6 : Int32))
        else
          none))))))))
      else
      if ((xs x3.toNatClampNeg) &&& (63 : Int32)) = (40 : Int32) then
        if (x3 + (1 : Int32)) < 0 ∨ L ≤ (x3 + (1 : Int32)).toNatClampNeg then none else (
        if (x3 + (2 : Int32)) < 0 ∨ L ≤ (x3 + (2 : Int32)).toNatClampNeg then none else (
        if (x3 + (3 : Int32)) < 0 ∨ L ≤ (x3 + (3 : Int32)).toNatClampNeg then none else (
        ob2 (F_X6_lots fu M (xs (x3 + (1 : Int32)).toNatClampNeg) (xs (x3 + (2 : Int32)).toNatClampNeg) (xs (x3 + (3 : Int32)).toNatClampNeg)) (fun r445 M446 =>
        if (x3 + (1 : Int32)) < 0 ∨ L ≤ (x3 + (1 : Int32)).toNatClampNeg then none else (
        if (x3 + (2 : Int32)) < 0 ∨ L ≤ (x3 + (2 : Int32)).toNatClampNeg then none else (
        if (x3 + (3 : Int32)) < 0 ∨ L ≤ (x3 + (3 : Int32)).toNatClampNeg then none else (
        ob2 (F_X7_lots fu M446 (xs (x3 + (1 : Int32)).toNatClampNeg) (xs (x3 + (2 : Int32)).toNatClampNeg) (xs (x3 + (3 : Int32)).toNatClampNeg)) (fun r451 M452 =>
        if r445 = r451 then
          F_L_law_18 L xs fu n M452 (x3 + (6 : Int32))
        else
          none))))))))
      else
      if ((xs x3.toNatClampNeg) &&& (63 : Int32)) = (41 : Int32) then
        ob1 (F_X6_asked fu M) (fun r456 =>
        ob1 (F_X7_asked fu M) (fun r458 =>
        if r456 = r458 then
          F_L_law_18 L xs fu n M (x3 + (6 : Int32))
        else
          none))
      else
      if ((xs x3.toNatClampNeg) &&& (63 : Int32)) = (42 : Int32) then
        ob1 (F_X6_upper fu M) (fun r462 =>
        ob1 (F_X7_upper fu M) (fun r464 =>
        if (lg_cmp r462 r464) = 0 then
          F_L_law_18 L xs fu n M (x3 + (6 : Int32))
        else
          none))
      else
      if ((xs x3.toNatClampNeg) &&& (63 : Int32)) = (43 : Int32) then
        ob1 (F_X6_lower fu M) (fun r468 =>
        ob1 (F_X7_lower fu M) (fun r470 =>
        if (lg_cmp r468 r470) = 0 then
          F_L_law_18 L xs fu n M (x3 + (6 : Int32))
        else
          none))
      else
      if ((xs x3.toNatClampNeg) &&& (63 : Int32)) = (44 : Int32) then
        if (x3 + (1 : Int32)) < 0 ∨ L ≤ (x3 + (1 : Int32)).toNatClampNeg then none else (
        ob1 (F_X6_count fu M (xs (x3 + (1 : Int32)).toNatClampNeg)) (fun r475 =>
        if (x3 + (1 : Int32)) < 0 ∨ L ≤ (x3 + (1 : Int32)).toNatClampNeg then none else (
        ob1 (F_X7_count fu M (xs (x3 + (1 : Int32)).toNatClampNeg)) (fun r478 =>
        if r475 = r478 then
          F_L_law_18 L xs fu n M (x3 + (6 : Int32))
        else
          none))))
      else
      if ((xs x3.toNatClampNeg) &&& (63 : Int32)) = (45 : Int32) then
        ob1 (F_X6_finding fu M) (fun r482 =>
        ob1 (F_X7_finding fu M) (fun r484 =>
        if r482 = r484 then
          F_L_law_18 L xs fu n M (x3 + (6 : Int32))
        else
          none))
      else
      if ((xs x3.toNatClampNeg) &&& (63 : Int32)) = (46 : Int32) then
        if (x3 + (1 : Int32)) < 0 ∨ L ≤ (x3 + (1 : Int32)).toNatClampNeg then none else (
        ob1 (F_X6_findings fu M (xs (x3 + (1 : Int32)).toNatClampNeg)) (fun r489 =>
        if (x3 + (1 : Int32)) < 0 ∨ L ≤ (x3 + (1 : Int32)).toNatClampNeg then none else (
        ob1 (F_X7_findings fu M (xs (x3 + (1 : Int32)).toNatClampNeg)) (fun r492 =>
        if r489 = r492 then
          F_L_law_18 L xs fu n M (x3 + (6 : Int32))
        else
          none))))
      else
      if ((xs x3.toNatClampNeg) &&& (63 : Int32)) = (47 : Int32) then
        ob1 (F_X6_digest fu M) (fun r496 =>
        ob1 (F_X7_digest fu M) (fun r498 =>
        if (lg_cmp r496 r498) = 0 then
          F_L_law_18 L xs fu n M (x3 + (6 : Int32))
        else
          none))
      else
      F_L_law_18 L xs fu n M (x3 + (6 : Int32)))
set_option maxRecDepth 100000 in
set_option maxHeartbeats 40000000 in
theorem w_L_law_18 {p : Program} {l : Launch} {e : Env} {s : State} {m : MethodId} {below : List Frame} {meth : Method} {c : Code} {G : Gv} {b L : Nat} {xs : Nat → Int32} {cells slots : Nat} (hC : Cx p s m #[Value.ref b] meth c cL_law 4 (some .boolean) RL) (hX : va_X b L xs s s.heap) (hbl : b < s.heap.size) (hbA : ¬ zA G b) (hAd : ∀ x, x < zNC → s.heap.size ≤ ad G x) (hz : cells ≤ 600000 ∧ slots ≤ 7302249) {fu : Nat} : ∀ (n : Nat) {x3 : Int32} {M : Mm} {H : Heap} {locs : List Loc} {ls : Array Slot}, F_L_law_18 L xs fu n M x3 = some () → St G s H locs M → lv_has ls 4 [(0, .ref b), (1, .ref (ad G 0)), (2, .ref (ad G 86)), (3, .int x3)] → W p l e room_1 s m #[Value.ref b] below meth c H locs cells slots (lw_Z below #[Value.ref b] s) (F0 m 18 ls []) := by
  intro n
  induction n with
  | zero =>
    intro x3 M H locs ls hF hw hl
    cases hF
  | succ n ih =>
    intro x3 M H locs ls hF hw hl
    unfold F_L_law_18 at hF
    refine lv_iload_n hC.1 hC.2.1 dL_law_18 rfl (lv_at hl 3 rfl) ?_
    refine lv_aload_n hC.1 hC.2.1 dL_law_19 rfl (lv_at hl 0 rfl) ?_
    refine va_slen hC.1 hC.2.1 hX hbl hbA hw.2.2.2.2 dL_law_20 ?_
    refine lv_bipush (v := (6 : Int32)) hC.1 hC.2.1 dL_law_21 (by decide) ?_
    refine lv_isub hC.1 hC.2.1 dL_law_23 ?_
    refine lv_icmp_gt (tgt := 1573) hC.1 hC.2.1 dL_law_24 (by decide) (fun b1 => ?_) (fun b1 => ?_)
    · have hF := ifP hF b1
      refine lv_iconst (v := (1 : Int32)) hC.1 hC.2.1 dL_law_1573 (by decide) ?_
      exact law_end hC hAd hw hz dL_law_1574
    · have hF := ifN hF b1
      refine lv_aload_n hC.1 hC.2.1 dL_law_27 rfl (lv_at hl 0 rfl) ?_
      refine lv_iload_n hC.1 hC.2.1 dL_law_28 rfl (lv_at hl 3 rfl) ?_
      obtain ⟨n2, hF⟩ := ifO hF
      refine va_sld hC.1 hC.2.1 hX hbl hbA hw.2.2.2.2 n2 dL_law_29 ?_
      refine lv_bipush (v := (63 : Int32)) hC.1 hC.2.1 dL_law_30 (by decide) ?_
      refine lv_iand hC.1 hC.2.1 dL_law_32 ?_
      rcases Classical.em (((xs x3.toNatClampNeg) &&& (63 : Int32)) = (0 : Int32)) with w3 | w3
      · have hF := ifP hF w3
        refine r_swI (v := (0 : Int32)) (off := 207) (tgt := 240) hC.1 hC.2.1 w3 dL_law_33 (by decide) (by decide) rfl (by decide) ?_
        refine lv_aload_n hC.1 hC.2.1 dL_law_240 rfl (lv_at hl 1 rfl) ?_
        refine lv_aload_n hC.1 hC.2.1 dL_law_241 rfl (lv_at hl 0 rfl) ?_
        refine lv_iload_n hC.1 hC.2.1 dL_law_242 rfl (lv_at hl 3 rfl) ?_
        refine lv_iconst (v := (1 : Int32)) hC.1 hC.2.1 dL_law_243 (by decide) ?_
        refine lv_iadd hC.1 hC.2.1 dL_law_244 ?_
        obtain ⟨n4, hF⟩ := ifO hF
        refine va_sld hC.1 hC.2.1 hX hbl hbA hw.2.2.2.2 n4 dL_law_245 ?_
        refine lv_aload_n hC.1 hC.2.1 dL_law_246 rfl (lv_at hl 0 rfl) ?_
        refine lv_iload_n hC.1 hC.2.1 dL_law_247 rfl (lv_at hl 3 rfl) ?_
        refine lv_iconst (v := (2 : Int32)) hC.1 hC.2.1 dL_law_248 (by decide) ?_
        refine lv_iadd hC.1 hC.2.1 dL_law_249 ?_
        obtain ⟨n5, hF⟩ := ifO hF
        refine va_sld hC.1 hC.2.1 hX hbl hbA hw.2.2.2.2 n5 dL_law_250 ?_
        obtain ⟨r7, M8, h6, hF⟩ := ob2S hF
        refine k_Vi (As := [.int (xs (x3 + (1 : Int32)).toNatClampNeg), .int (xs (x3 + (2 : Int32)).toNatClampNeg)]) (rest := []) hC hw (c_X6_row (M := M) h6) RC_S yv_X6_row q2_12 ⟨rfl, rfl⟩ ⟨Nat.le_of_ble_eq_true rfl, Nat.le_of_ble_eq_true rfl⟩ hz rfl rfl (Nat.le_of_ble_eq_true rfl) hl dL_law_251 (fun H locs hw => ?_)
        refine lv_aload_n hC.1 hC.2.1 dL_law_254 rfl (lv_at hl 2 rfl) ?_
        refine lv_aload_n hC.1 hC.2.1 dL_law_255 rfl (lv_at hl 0 rfl) ?_
        refine lv_iload_n hC.1 hC.2.1 dL_law_256 rfl (lv_at hl 3 rfl) ?_
        refine lv_iconst (v := (1 : Int32)) hC.1 hC.2.1 dL_law_257 (by decide) ?_
        refine lv_iadd hC.1 hC.2.1 dL_law_258 ?_
        obtain ⟨n9, hF⟩ := ifO hF
        refine va_sld hC.1 hC.2.1 hX hbl hbA hw.2.2.2.2 n9 dL_law_259 ?_
        refine lv_aload_n hC.1 hC.2.1 dL_law_260 rfl (lv_at hl 0 rfl) ?_
        refine lv_iload_n hC.1 hC.2.1 dL_law_261 rfl (lv_at hl 3 rfl) ?_
        refine lv_iconst (v := (2 : Int32)) hC.1 hC.2.1 dL_law_262 (by decide) ?_
        refine lv_iadd hC.1 hC.2.1 dL_law_263 ?_
        obtain ⟨n10, hF⟩ := ifO hF
        refine va_sld hC.1 hC.2.1 hX hbl hbA hw.2.2.2.2 n10 dL_law_264 ?_
        obtain ⟨r12, M13, h11, hF⟩ := ob2S hF
        refine k_Vi (As := [.int (xs (x3 + (1 : Int32)).toNatClampNeg), .int (xs (x3 + (2 : Int32)).toNatClampNeg)]) (rest := [.int r7]) hC hw (c_X7_row (M := M8) h11) RC_X yv_X7_row q4_235 ⟨rfl, rfl⟩ ⟨Nat.le_of_ble_eq_true rfl, Nat.le_of_ble_eq_true rfl⟩ hz rfl rfl (Nat.le_of_ble_eq_true rfl) hl dL_law_265 (fun H locs hw => ?_)
        refine lv_icmp_eq (tgt := 1567) hC.1 hC.2.1 dL_law_268 (by decide) (fun b14 => ?_) (fun b14 => ?_)
        · have hF := ifP hF b14
          refine lv_iinc (v := (x3 + (6 : Int32))) (lv' := [(3, .int (x3 + (6 : Int32))), (0, .ref b), (1, .ref (ad G 0)), (2, .ref (ad G 86))]) hC.1 hC.2.1 dL_law_1567 hl (k := 3) rfl rfl (by decide) rfl (fun ls hl => ?_)
          refine lv_goto (tgt := 18) hC.1 hC.2.1 dL_law_1570 (by decide) ?_
          exact ih hF hw (lv_sub hl [1, 2, 3, 0] rfl)
        · have hF := ifN hF b14
          refine lv_iconst (v := (0 : Int32)) hC.1 hC.2.1 dL_law_271 (by decide) ?_
          cases hF
      have hF := ifN hF w3
      rcases Classical.em (((xs x3.toNatClampNeg) &&& (63 : Int32)) = (1 : Int32)) with w15 | w15
      · have hF := ifP hF w15
        refine r_swI (v := (1 : Int32)) (off := 240) (tgt := 273) hC.1 hC.2.1 w15 dL_law_33 (by decide) (by decide) rfl (by decide) ?_
        refine lv_aload_n hC.1 hC.2.1 dL_law_273 rfl (lv_at hl 1 rfl) ?_
        refine lv_aload_n hC.1 hC.2.1 dL_law_274 rfl (lv_at hl 0 rfl) ?_
        refine lv_iload_n hC.1 hC.2.1 dL_law_275 rfl (lv_at hl 3 rfl) ?_
        refine lv_iconst (v := (1 : Int32)) hC.1 hC.2.1 dL_law_276 (by decide) ?_
        refine lv_iadd hC.1 hC.2.1 dL_law_277 ?_
        obtain ⟨n16, hF⟩ := ifO hF
        refine va_sld hC.1 hC.2.1 hX hbl hbA hw.2.2.2.2 n16 dL_law_278 ?_
        refine lv_aload_n hC.1 hC.2.1 dL_law_279 rfl (lv_at hl 0 rfl) ?_
        refine lv_iload_n hC.1 hC.2.1 dL_law_280 rfl (lv_at hl 3 rfl) ?_
        refine lv_iconst (v := (2 : Int32)) hC.1 hC.2.1 dL_law_281 (by decide) ?_
        refine lv_iadd hC.1 hC.2.1 dL_law_282 ?_
        obtain ⟨n17, hF⟩ := ifO hF
        refine va_sld hC.1 hC.2.1 hX hbl hbA hw.2.2.2.2 n17 dL_law_283 ?_
        refine lv_aload_n hC.1 hC.2.1 dL_law_284 rfl (lv_at hl 0 rfl) ?_
        refine lv_iload_n hC.1 hC.2.1 dL_law_285 rfl (lv_at hl 3 rfl) ?_
        refine lv_iconst (v := (3 : Int32)) hC.1 hC.2.1 dL_law_286 (by decide) ?_
        refine lv_iadd hC.1 hC.2.1 dL_law_287 ?_
        obtain ⟨n18, hF⟩ := ifO hF
        refine va_sld hC.1 hC.2.1 hX hbl hbA hw.2.2.2.2 n18 dL_law_288 ?_
        obtain ⟨r20, M21, h19, hF⟩ := ob2S hF
        refine k_Vi (As := [.int (xs (x3 + (1 : Int32)).toNatClampNeg), .int (xs (x3 + (2 : Int32)).toNatClampNeg), .int (xs (x3 + (3 : Int32)).toNatClampNeg)]) (rest := []) hC hw (c_X6_lay (M := M) h19) RC_S yv_X6_lay q2_34 ⟨rfl, rfl⟩ ⟨Nat.le_of_ble_eq_true rfl, Nat.le_of_ble_eq_true rfl⟩ hz rfl rfl (Nat.le_of_ble_eq_true rfl) hl dL_law_289 (fun H locs hw => ?_)
        refine lv_aload_n hC.1 hC.2.1 dL_law_292 rfl (lv_at hl 2 rfl) ?_
        refine lv_aload_n hC.1 hC.2.1 dL_law_293 rfl (lv_at hl 0 rfl) ?_
        refine lv_iload_n hC.1 hC.2.1 dL_law_294 rfl (lv_at hl 3 rfl) ?_
        refine lv_iconst (v := (1 : Int32)) hC.1 hC.2.1 dL_law_295 (by decide) ?_
        refine lv_iadd hC.1 hC.2.1 dL_law_296 ?_
        obtain ⟨n22, hF⟩ := ifO hF
        refine va_sld hC.1 hC.2.1 hX hbl hbA hw.2.2.2.2 n22 dL_law_297 ?_
        refine lv_aload_n hC.1 hC.2.1 dL_law_298 rfl (lv_at hl 0 rfl) ?_
        refine lv_iload_n hC.1 hC.2.1 dL_law_299 rfl (lv_at hl 3 rfl) ?_
        refine lv_iconst (v := (2 : Int32)) hC.1 hC.2.1 dL_law_300 (by decide) ?_
        refine lv_iadd hC.1 hC.2.1 dL_law_301 ?_
        obtain ⟨n23, hF⟩ := ifO hF
        refine va_sld hC.1 hC.2.1 hX hbl hbA hw.2.2.2.2 n23 dL_law_302 ?_
        refine lv_aload_n hC.1 hC.2.1 dL_law_303 rfl (lv_at hl 0 rfl) ?_
        refine lv_iload_n hC.1 hC.2.1 dL_law_304 rfl (lv_at hl 3 rfl) ?_
        refine lv_iconst (v := (3 : Int32)) hC.1 hC.2.1 dL_law_305 (by decide) ?_
        refine lv_iadd hC.1 hC.2.1 dL_law_306 ?_
        obtain ⟨n24, hF⟩ := ifO hF
        refine va_sld hC.1 hC.2.1 hX hbl hbA hw.2.2.2.2 n24 dL_law_307 ?_
        obtain ⟨r26, M27, h25, hF⟩ := ob2S hF
        refine k_Vi (As := [.int (xs (x3 + (1 : Int32)).toNatClampNeg), .int (xs (x3 + (2 : Int32)).toNatClampNeg), .int (xs (x3 + (3 : Int32)).toNatClampNeg)]) (rest := [.int r20]) hC hw (c_X7_lay (M := M21) h25) RC_X yv_X7_lay q5_14 ⟨rfl, rfl⟩ ⟨Nat.le_of_ble_eq_true rfl, Nat.le_of_ble_eq_true rfl⟩ hz rfl rfl (Nat.le_of_ble_eq_true rfl) hl dL_law_308 (fun H locs hw => ?_)
        refine lv_icmp_eq (tgt := 1567) hC.1 hC.2.1 dL_law_311 (by decide) (fun b28 => ?_) (fun b28 => ?_)
        · have hF := ifP hF b28
          refine lv_iinc (v := (x3 + (6 : Int32))) (lv' := [(3, .int (x3 + (6 : Int32))), (0, .ref b), (1, .ref (ad G 0)), (2, .ref (ad G 86))]) hC.1 hC.2.1 dL_law_1567 hl (k := 3) rfl rfl (by decide) rfl (fun ls hl => ?_)
          refine lv_goto (tgt := 18) hC.1 hC.2.1 dL_law_1570 (by decide) ?_
          exact ih hF hw (lv_sub hl [1, 2, 3, 0] rfl)
        · have hF := ifN hF b28
          refine lv_iconst (v := (0 : Int32)) hC.1 hC.2.1 dL_law_314 (by decide) ?_
          cases hF
      have hF := ifN hF w15
      rcases Classical.em (((xs x3.toNatClampNeg) &&& (63 : Int32)) = (2 : Int32)) with w29 | w29
      · have hF := ifP hF w29
        refine r_swI (v := (2 : Int32)) (off := 283) (tgt := 316) hC.1 hC.2.1 w29 dL_law_33 (by decide) (by decide) rfl (by decide) ?_
        refine lv_aload_n hC.1 hC.2.1 dL_law_316 rfl (lv_at hl 1 rfl) ?_
        refine lv_aload_n hC.1 hC.2.1 dL_law_317 rfl (lv_at hl 0 rfl) ?_
        refine lv_iload_n hC.1 hC.2.1 dL_law_318 rfl (lv_at hl 3 rfl) ?_
        refine lv_iconst (v := (1 : Int32)) hC.1 hC.2.1 dL_law_319 (by decide) ?_
        refine lv_iadd hC.1 hC.2.1 dL_law_320 ?_
        obtain ⟨n30, hF⟩ := ifO hF
        refine va_sld hC.1 hC.2.1 hX hbl hbA hw.2.2.2.2 n30 dL_law_321 ?_
        refine lv_aload_n hC.1 hC.2.1 dL_law_322 rfl (lv_at hl 0 rfl) ?_
        refine lv_iload_n hC.1 hC.2.1 dL_law_323 rfl (lv_at hl 3 rfl) ?_
        refine lv_iconst (v := (2 : Int32)) hC.1 hC.2.1 dL_law_324 (by decide) ?_
        refine lv_iadd hC.1 hC.2.1 dL_law_325 ?_
        obtain ⟨n31, hF⟩ := ifO hF
        refine va_sld hC.1 hC.2.1 hX hbl hbA hw.2.2.2.2 n31 dL_law_326 ?_
        obtain ⟨r33, M34, h32, hF⟩ := ob2S hF
        refine k_Vi (As := [.int (xs (x3 + (1 : Int32)).toNatClampNeg), .int (xs (x3 + (2 : Int32)).toNatClampNeg)]) (rest := []) hC hw (c_X6_at (M := M) h32) RC_S yv_X6_at q2_42 ⟨rfl, rfl⟩ ⟨Nat.le_of_ble_eq_true rfl, Nat.le_of_ble_eq_true rfl⟩ hz rfl rfl (Nat.le_of_ble_eq_true rfl) hl dL_law_327 (fun H locs hw => ?_)
        refine lv_aload_n hC.1 hC.2.1 dL_law_330 rfl (lv_at hl 2 rfl) ?_
        refine lv_aload_n hC.1 hC.2.1 dL_law_331 rfl (lv_at hl 0 rfl) ?_
        refine lv_iload_n hC.1 hC.2.1 dL_law_332 rfl (lv_at hl 3 rfl) ?_
        refine lv_iconst (v := (1 : Int32)) hC.1 hC.2.1 dL_law_333 (by decide) ?_
        refine lv_iadd hC.1 hC.2.1 dL_law_334 ?_
        obtain ⟨n35, hF⟩ := ifO hF
        refine va_sld hC.1 hC.2.1 hX hbl hbA hw.2.2.2.2 n35 dL_law_335 ?_
        refine lv_aload_n hC.1 hC.2.1 dL_law_336 rfl (lv_at hl 0 rfl) ?_
        refine lv_iload_n hC.1 hC.2.1 dL_law_337 rfl (lv_at hl 3 rfl) ?_
        refine lv_iconst (v := (2 : Int32)) hC.1 hC.2.1 dL_law_338 (by decide) ?_
        refine lv_iadd hC.1 hC.2.1 dL_law_339 ?_
        obtain ⟨n36, hF⟩ := ifO hF
        refine va_sld hC.1 hC.2.1 hX hbl hbA hw.2.2.2.2 n36 dL_law_340 ?_
        obtain ⟨r38, M39, h37, hF⟩ := ob2S hF
        refine k_Vi (As := [.int (xs (x3 + (1 : Int32)).toNatClampNeg), .int (xs (x3 + (2 : Int32)).toNatClampNeg)]) (rest := [.int r33]) hC hw (c_X7_at (M := M34) h37) RC_X yv_X7_at q5_22 ⟨rfl, rfl⟩ ⟨Nat.le_of_ble_eq_true rfl, Nat.le_of_ble_eq_true rfl⟩ hz rfl rfl (Nat.le_of_ble_eq_true rfl) hl dL_law_341 (fun H locs hw => ?_)
        refine lv_icmp_eq (tgt := 1567) hC.1 hC.2.1 dL_law_344 (by decide) (fun b40 => ?_) (fun b40 => ?_)
        · have hF := ifP hF b40
          refine lv_iinc (v := (x3 + (6 : Int32))) (lv' := [(3, .int (x3 + (6 : Int32))), (0, .ref b), (1, .ref (ad G 0)), (2, .ref (ad G 86))]) hC.1 hC.2.1 dL_law_1567 hl (k := 3) rfl rfl (by decide) rfl (fun ls hl => ?_)
          refine lv_goto (tgt := 18) hC.1 hC.2.1 dL_law_1570 (by decide) ?_
          exact ih hF hw (lv_sub hl [1, 2, 3, 0] rfl)
        · have hF := ifN hF b40
          refine lv_iconst (v := (0 : Int32)) hC.1 hC.2.1 dL_law_347 (by decide) ?_
          cases hF
      have hF := ifN hF w29
      rcases Classical.em (((xs x3.toNatClampNeg) &&& (63 : Int32)) = (3 : Int32)) with w41 | w41
      · have hF := ifP hF w41
        refine r_swI (v := (3 : Int32)) (off := 316) (tgt := 349) hC.1 hC.2.1 w41 dL_law_33 (by decide) (by decide) rfl (by decide) ?_
        refine lv_aload_n hC.1 hC.2.1 dL_law_349 rfl (lv_at hl 1 rfl) ?_
        refine lv_aload_n hC.1 hC.2.1 dL_law_350 rfl (lv_at hl 0 rfl) ?_
        refine lv_iload_n hC.1 hC.2.1 dL_law_351 rfl (lv_at hl 3 rfl) ?_
        refine lv_iconst (v := (1 : Int32)) hC.1 hC.2.1 dL_law_352 (by decide) ?_
        refine lv_iadd hC.1 hC.2.1 dL_law_353 ?_
        obtain ⟨n42, hF⟩ := ifO hF
        refine va_sld hC.1 hC.2.1 hX hbl hbA hw.2.2.2.2 n42 dL_law_354 ?_
        obtain ⟨r44, M45, h43, hF⟩ := ob2S hF
        refine k_Vi (As := [.int (xs (x3 + (1 : Int32)).toNatClampNeg)]) (rest := []) hC hw (c_X6_tear (M := M) h43) RC_S yv_X6_tear q2_46 ⟨rfl, rfl⟩ ⟨Nat.le_of_ble_eq_true rfl, Nat.le_of_ble_eq_true rfl⟩ hz rfl rfl (Nat.le_of_ble_eq_true rfl) hl dL_law_355 (fun H locs hw => ?_)
        refine lv_aload_n hC.1 hC.2.1 dL_law_358 rfl (lv_at hl 2 rfl) ?_
        refine lv_aload_n hC.1 hC.2.1 dL_law_359 rfl (lv_at hl 0 rfl) ?_
        refine lv_iload_n hC.1 hC.2.1 dL_law_360 rfl (lv_at hl 3 rfl) ?_
        refine lv_iconst (v := (1 : Int32)) hC.1 hC.2.1 dL_law_361 (by decide) ?_
        refine lv_iadd hC.1 hC.2.1 dL_law_362 ?_
        obtain ⟨n46, hF⟩ := ifO hF
        refine va_sld hC.1 hC.2.1 hX hbl hbA hw.2.2.2.2 n46 dL_law_363 ?_
        obtain ⟨r48, M49, h47, hF⟩ := ob2S hF
        refine k_Vi (As := [.int (xs (x3 + (1 : Int32)).toNatClampNeg)]) (rest := [.int r44]) hC hw (c_X7_tear (M := M45) h47) RC_X yv_X7_tear q5_26 ⟨rfl, rfl⟩ ⟨Nat.le_of_ble_eq_true rfl, Nat.le_of_ble_eq_true rfl⟩ hz rfl rfl (Nat.le_of_ble_eq_true rfl) hl dL_law_364 (fun H locs hw => ?_)
        refine lv_icmp_eq (tgt := 1567) hC.1 hC.2.1 dL_law_367 (by decide) (fun b50 => ?_) (fun b50 => ?_)
        · have hF := ifP hF b50
          refine lv_iinc (v := (x3 + (6 : Int32))) (lv' := [(3, .int (x3 + (6 : Int32))), (0, .ref b), (1, .ref (ad G 0)), (2, .ref (ad G 86))]) hC.1 hC.2.1 dL_law_1567 hl (k := 3) rfl rfl (by decide) rfl (fun ls hl => ?_)
          refine lv_goto (tgt := 18) hC.1 hC.2.1 dL_law_1570 (by decide) ?_
          exact ih hF hw (lv_sub hl [1, 2, 3, 0] rfl)
        · have hF := ifN hF b50
          refine lv_iconst (v := (0 : Int32)) hC.1 hC.2.1 dL_law_370 (by decide) ?_
          cases hF
      have hF := ifN hF w41
      rcases Classical.em (((xs x3.toNatClampNeg) &&& (63 : Int32)) = (4 : Int32)) with w51 | w51
      · have hF := ifP hF w51
        refine r_swI (v := (4 : Int32)) (off := 339) (tgt := 372) hC.1 hC.2.1 w51 dL_law_33 (by decide) (by decide) rfl (by decide) ?_
        refine lv_aload_n hC.1 hC.2.1 dL_law_372 rfl (lv_at hl 1 rfl) ?_
        refine lv_aload_n hC.1 hC.2.1 dL_law_373 rfl (lv_at hl 0 rfl) ?_
        refine lv_iload_n hC.1 hC.2.1 dL_law_374 rfl (lv_at hl 3 rfl) ?_
        refine lv_iconst (v := (1 : Int32)) hC.1 hC.2.1 dL_law_375 (by decide) ?_
        refine lv_iadd hC.1 hC.2.1 dL_law_376 ?_
        obtain ⟨n52, hF⟩ := ifO hF
        refine va_sld hC.1 hC.2.1 hX hbl hbA hw.2.2.2.2 n52 dL_law_377 ?_
        refine lv_aload_n hC.1 hC.2.1 dL_law_378 rfl (lv_at hl 0 rfl) ?_
        refine lv_iload_n hC.1 hC.2.1 dL_law_379 rfl (lv_at hl 3 rfl) ?_
        refine lv_iconst (v := (2 : Int32)) hC.1 hC.2.1 dL_law_380 (by decide) ?_
        refine lv_iadd hC.1 hC.2.1 dL_law_381 ?_
        obtain ⟨n53, hF⟩ := ifO hF
        refine va_sld hC.1 hC.2.1 hX hbl hbA hw.2.2.2.2 n53 dL_law_382 ?_
        refine lv_aload_n hC.1 hC.2.1 dL_law_383 rfl (lv_at hl 0 rfl) ?_
        refine lv_iload_n hC.1 hC.2.1 dL_law_384 rfl (lv_at hl 3 rfl) ?_
        refine lv_iconst (v := (3 : Int32)) hC.1 hC.2.1 dL_law_385 (by decide) ?_
        refine lv_iadd hC.1 hC.2.1 dL_law_386 ?_
        obtain ⟨n54, hF⟩ := ifO hF
        refine va_sld hC.1 hC.2.1 hX hbl hbA hw.2.2.2.2 n54 dL_law_387 ?_
        refine lv_aload_n hC.1 hC.2.1 dL_law_388 rfl (lv_at hl 0 rfl) ?_
        refine lv_iload_n hC.1 hC.2.1 dL_law_389 rfl (lv_at hl 3 rfl) ?_
        refine lv_iconst (v := (4 : Int32)) hC.1 hC.2.1 dL_law_390 (by decide) ?_
        refine lv_iadd hC.1 hC.2.1 dL_law_391 ?_
        obtain ⟨n55, hF⟩ := ifO hF
        refine va_sld hC.1 hC.2.1 hX hbl hbA hw.2.2.2.2 n55 dL_law_392 ?_
        refine lv_aload_n hC.1 hC.2.1 dL_law_393 rfl (lv_at hl 0 rfl) ?_
        refine lv_iload_n hC.1 hC.2.1 dL_law_394 rfl (lv_at hl 3 rfl) ?_
        refine lv_iconst (v := (5 : Int32)) hC.1 hC.2.1 dL_law_395 (by decide) ?_
        refine lv_iadd hC.1 hC.2.1 dL_law_396 ?_
        obtain ⟨n56, hF⟩ := ifO hF
        refine va_sld hC.1 hC.2.1 hX hbl hbA hw.2.2.2.2 n56 dL_law_397 ?_
        obtain ⟨r58, M59, h57, hF⟩ := ob2S hF
        refine k_Vi (As := [.int (xs (x3 + (1 : Int32)).toNatClampNeg), .int (xs (x3 + (2 : Int32)).toNatClampNeg), .int (xs (x3 + (3 : Int32)).toNatClampNeg), .int (xs (x3 + (4 : Int32)).toNatClampNeg), .int (xs (x3 + (5 : Int32)).toNatClampNeg)]) (rest := []) hC hw (c_X6_copy (M := M) h57) RC_S yv_X6_copy q2_50 ⟨rfl, rfl⟩ ⟨Nat.le_of_ble_eq_true rfl, Nat.le_of_ble_eq_true rfl⟩ hz rfl rfl (Nat.le_of_ble_eq_true rfl) hl dL_law_398 (fun H locs hw => ?_)
        refine lv_aload_n hC.1 hC.2.1 dL_law_401 rfl (lv_at hl 2 rfl) ?_
        refine lv_aload_n hC.1 hC.2.1 dL_law_402 rfl (lv_at hl 0 rfl) ?_
        refine lv_iload_n hC.1 hC.2.1 dL_law_403 rfl (lv_at hl 3 rfl) ?_
        refine lv_iconst (v := (1 : Int32)) hC.1 hC.2.1 dL_law_404 (by decide) ?_
        refine lv_iadd hC.1 hC.2.1 dL_law_405 ?_
        obtain ⟨n60, hF⟩ := ifO hF
        refine va_sld hC.1 hC.2.1 hX hbl hbA hw.2.2.2.2 n60 dL_law_406 ?_
        refine lv_aload_n hC.1 hC.2.1 dL_law_407 rfl (lv_at hl 0 rfl) ?_
        refine lv_iload_n hC.1 hC.2.1 dL_law_408 rfl (lv_at hl 3 rfl) ?_
        refine lv_iconst (v := (2 : Int32)) hC.1 hC.2.1 dL_law_409 (by decide) ?_
        refine lv_iadd hC.1 hC.2.1 dL_law_410 ?_
        obtain ⟨n61, hF⟩ := ifO hF
        refine va_sld hC.1 hC.2.1 hX hbl hbA hw.2.2.2.2 n61 dL_law_411 ?_
        refine lv_aload_n hC.1 hC.2.1 dL_law_412 rfl (lv_at hl 0 rfl) ?_
        refine lv_iload_n hC.1 hC.2.1 dL_law_413 rfl (lv_at hl 3 rfl) ?_
        refine lv_iconst (v := (3 : Int32)) hC.1 hC.2.1 dL_law_414 (by decide) ?_
        refine lv_iadd hC.1 hC.2.1 dL_law_415 ?_
        obtain ⟨n62, hF⟩ := ifO hF
        refine va_sld hC.1 hC.2.1 hX hbl hbA hw.2.2.2.2 n62 dL_law_416 ?_
        refine lv_aload_n hC.1 hC.2.1 dL_law_417 rfl (lv_at hl 0 rfl) ?_
        refine lv_iload_n hC.1 hC.2.1 dL_law_418 rfl (lv_at hl 3 rfl) ?_
        refine lv_iconst (v := (4 : Int32)) hC.1 hC.2.1 dL_law_419 (by decide) ?_
        refine lv_iadd hC.1 hC.2.1 dL_law_420 ?_
        obtain ⟨n63, hF⟩ := ifO hF
        refine va_sld hC.1 hC.2.1 hX hbl hbA hw.2.2.2.2 n63 dL_law_421 ?_
        refine lv_aload_n hC.1 hC.2.1 dL_law_422 rfl (lv_at hl 0 rfl) ?_
        refine lv_iload_n hC.1 hC.2.1 dL_law_423 rfl (lv_at hl 3 rfl) ?_
        refine lv_iconst (v := (5 : Int32)) hC.1 hC.2.1 dL_law_424 (by decide) ?_
        refine lv_iadd hC.1 hC.2.1 dL_law_425 ?_
        obtain ⟨n64, hF⟩ := ifO hF
        refine va_sld hC.1 hC.2.1 hX hbl hbA hw.2.2.2.2 n64 dL_law_426 ?_
        obtain ⟨r66, M67, h65, hF⟩ := ob2S hF
        refine k_Vi (As := [.int (xs (x3 + (1 : Int32)).toNatClampNeg), .int (xs (x3 + (2 : Int32)).toNatClampNeg), .int (xs (x3 + (3 : Int32)).toNatClampNeg), .int (xs (x3 + (4 : Int32)).toNatClampNeg), .int (xs (x3 + (5 : Int32)).toNatClampNeg)]) (rest := [.int r58]) hC hw (c_X7_copy (M := M59) h65) RC_X yv_X7_copy q5_30 ⟨rfl, rfl⟩ ⟨Nat.le_of_ble_eq_true rfl, Nat.le_of_ble_eq_true rfl⟩ hz rfl rfl (Nat.le_of_ble_eq_true rfl) hl dL_law_427 (fun H locs hw => ?_)
        refine lv_icmp_eq (tgt := 1567) hC.1 hC.2.1 dL_law_430 (by decide) (fun b68 => ?_) (fun b68 => ?_)
        · have hF := ifP hF b68
          refine lv_iinc (v := (x3 + (6 : Int32))) (lv' := [(3, .int (x3 + (6 : Int32))), (0, .ref b), (1, .ref (ad G 0)), (2, .ref (ad G 86))]) hC.1 hC.2.1 dL_law_1567 hl (k := 3) rfl rfl (by decide) rfl (fun ls hl => ?_)
          refine lv_goto (tgt := 18) hC.1 hC.2.1 dL_law_1570 (by decide) ?_
          exact ih hF hw (lv_sub hl [1, 2, 3, 0] rfl)
        · have hF := ifN hF b68
          refine lv_iconst (v := (0 : Int32)) hC.1 hC.2.1 dL_law_433 (by decide) ?_
          cases hF
      have hF := ifN hF w51
      rcases Classical.em (((xs x3.toNatClampNeg) &&& (63 : Int32)) = (5 : Int32)) with w69 | w69
      · have hF := ifP hF w69
        refine r_swI (v := (5 : Int32)) (off := 402) (tgt := 435) hC.1 hC.2.1 w69 dL_law_33 (by decide) (by decide) rfl (by decide) ?_
        refine lv_aload_n hC.1 hC.2.1 dL_law_435 rfl (lv_at hl 1 rfl) ?_
        refine lv_aload_n hC.1 hC.2.1 dL_law_436 rfl (lv_at hl 0 rfl) ?_
        refine lv_iload_n hC.1 hC.2.1 dL_law_437 rfl (lv_at hl 3 rfl) ?_
        refine lv_iconst (v := (1 : Int32)) hC.1 hC.2.1 dL_law_438 (by decide) ?_
        refine lv_iadd hC.1 hC.2.1 dL_law_439 ?_
        obtain ⟨n70, hF⟩ := ifO hF
        refine va_sld hC.1 hC.2.1 hX hbl hbA hw.2.2.2.2 n70 dL_law_440 ?_
        obtain ⟨r72, M73, h71, hF⟩ := ob2S hF
        refine k_Vi (As := [.int (xs (x3 + (1 : Int32)).toNatClampNeg)]) (rest := []) hC hw (c_X6_mean (M := M) h71) RC_S yv_X6_mean q2_61 ⟨rfl, rfl⟩ ⟨Nat.le_of_ble_eq_true rfl, Nat.le_of_ble_eq_true rfl⟩ hz rfl rfl (Nat.le_of_ble_eq_true rfl) hl dL_law_441 (fun H locs hw => ?_)
        refine lv_aload_n hC.1 hC.2.1 dL_law_444 rfl (lv_at hl 2 rfl) ?_
        refine lv_aload_n hC.1 hC.2.1 dL_law_445 rfl (lv_at hl 0 rfl) ?_
        refine lv_iload_n hC.1 hC.2.1 dL_law_446 rfl (lv_at hl 3 rfl) ?_
        refine lv_iconst (v := (1 : Int32)) hC.1 hC.2.1 dL_law_447 (by decide) ?_
        refine lv_iadd hC.1 hC.2.1 dL_law_448 ?_
        obtain ⟨n74, hF⟩ := ifO hF
        refine va_sld hC.1 hC.2.1 hX hbl hbA hw.2.2.2.2 n74 dL_law_449 ?_
        obtain ⟨r76, M77, h75, hF⟩ := ob2S hF
        refine k_Vi (As := [.int (xs (x3 + (1 : Int32)).toNatClampNeg)]) (rest := [.int r72]) hC hw (c_X7_mean (M := M73) h75) RC_X yv_X7_mean q5_34 ⟨rfl, rfl⟩ ⟨Nat.le_of_ble_eq_true rfl, Nat.le_of_ble_eq_true rfl⟩ hz rfl rfl (Nat.le_of_ble_eq_true rfl) hl dL_law_450 (fun H locs hw => ?_)
        refine lv_icmp_eq (tgt := 1567) hC.1 hC.2.1 dL_law_453 (by decide) (fun b78 => ?_) (fun b78 => ?_)
        · have hF := ifP hF b78
          refine lv_iinc (v := (x3 + (6 : Int32))) (lv' := [(3, .int (x3 + (6 : Int32))), (0, .ref b), (1, .ref (ad G 0)), (2, .ref (ad G 86))]) hC.1 hC.2.1 dL_law_1567 hl (k := 3) rfl rfl (by decide) rfl (fun ls hl => ?_)
          refine lv_goto (tgt := 18) hC.1 hC.2.1 dL_law_1570 (by decide) ?_
          exact ih hF hw (lv_sub hl [1, 2, 3, 0] rfl)
        · have hF := ifN hF b78
          refine lv_iconst (v := (0 : Int32)) hC.1 hC.2.1 dL_law_456 (by decide) ?_
          cases hF
      have hF := ifN hF w69
      rcases Classical.em (((xs x3.toNatClampNeg) &&& (63 : Int32)) = (6 : Int32)) with w79 | w79
      · have hF := ifP hF w79
        refine r_swI (v := (6 : Int32)) (off := 425) (tgt := 458) hC.1 hC.2.1 w79 dL_law_33 (by decide) (by decide) rfl (by decide) ?_
        refine lv_aload_n hC.1 hC.2.1 dL_law_458 rfl (lv_at hl 1 rfl) ?_
        refine lv_aload_n hC.1 hC.2.1 dL_law_459 rfl (lv_at hl 0 rfl) ?_
        refine lv_iload_n hC.1 hC.2.1 dL_law_460 rfl (lv_at hl 3 rfl) ?_
        refine lv_iconst (v := (1 : Int32)) hC.1 hC.2.1 dL_law_461 (by decide) ?_
        refine lv_iadd hC.1 hC.2.1 dL_law_462 ?_
        obtain ⟨n80, hF⟩ := ifO hF
        refine va_sld hC.1 hC.2.1 hX hbl hbA hw.2.2.2.2 n80 dL_law_463 ?_
        refine lv_aload_n hC.1 hC.2.1 dL_law_464 rfl (lv_at hl 0 rfl) ?_
        refine lv_iload_n hC.1 hC.2.1 dL_law_465 rfl (lv_at hl 3 rfl) ?_
        refine lv_iconst (v := (2 : Int32)) hC.1 hC.2.1 dL_law_466 (by decide) ?_
        refine lv_iadd hC.1 hC.2.1 dL_law_467 ?_
        obtain ⟨n81, hF⟩ := ifO hF
        refine va_sld hC.1 hC.2.1 hX hbl hbA hw.2.2.2.2 n81 dL_law_468 ?_
        obtain ⟨r83, M84, h82, hF⟩ := ob2S hF
        refine k_Vi (As := [.int (xs (x3 + (1 : Int32)).toNatClampNeg), .int (xs (x3 + (2 : Int32)).toNatClampNeg)]) (rest := []) hC hw (c_X6_text (M := M) h82) RC_S yv_X6_text q2_70 ⟨rfl, rfl⟩ ⟨Nat.le_of_ble_eq_true rfl, Nat.le_of_ble_eq_true rfl⟩ hz rfl rfl (Nat.le_of_ble_eq_true rfl) hl dL_law_469 (fun H locs hw => ?_)
        refine lv_aload_n hC.1 hC.2.1 dL_law_472 rfl (lv_at hl 2 rfl) ?_
        refine lv_aload_n hC.1 hC.2.1 dL_law_473 rfl (lv_at hl 0 rfl) ?_
        refine lv_iload_n hC.1 hC.2.1 dL_law_474 rfl (lv_at hl 3 rfl) ?_
        refine lv_iconst (v := (1 : Int32)) hC.1 hC.2.1 dL_law_475 (by decide) ?_
        refine lv_iadd hC.1 hC.2.1 dL_law_476 ?_
        obtain ⟨n85, hF⟩ := ifO hF
        refine va_sld hC.1 hC.2.1 hX hbl hbA hw.2.2.2.2 n85 dL_law_477 ?_
        refine lv_aload_n hC.1 hC.2.1 dL_law_478 rfl (lv_at hl 0 rfl) ?_
        refine lv_iload_n hC.1 hC.2.1 dL_law_479 rfl (lv_at hl 3 rfl) ?_
        refine lv_iconst (v := (2 : Int32)) hC.1 hC.2.1 dL_law_480 (by decide) ?_
        refine lv_iadd hC.1 hC.2.1 dL_law_481 ?_
        obtain ⟨n86, hF⟩ := ifO hF
        refine va_sld hC.1 hC.2.1 hX hbl hbA hw.2.2.2.2 n86 dL_law_482 ?_
        obtain ⟨r88, M89, h87, hF⟩ := ob2S hF
        refine k_Vi (As := [.int (xs (x3 + (1 : Int32)).toNatClampNeg), .int (xs (x3 + (2 : Int32)).toNatClampNeg)]) (rest := [.int r83]) hC hw (c_X7_text (M := M84) h87) RC_X yv_X7_text q5_38 ⟨rfl, rfl⟩ ⟨Nat.le_of_ble_eq_true rfl, Nat.le_of_ble_eq_true rfl⟩ hz rfl rfl (Nat.le_of_ble_eq_true rfl) hl dL_law_483 (fun H locs hw => ?_)
        refine lv_icmp_eq (tgt := 1567) hC.1 hC.2.1 dL_law_486 (by decide) (fun b90 => ?_) (fun b90 => ?_)
        · have hF := ifP hF b90
          refine lv_iinc (v := (x3 + (6 : Int32))) (lv' := [(3, .int (x3 + (6 : Int32))), (0, .ref b), (1, .ref (ad G 0)), (2, .ref (ad G 86))]) hC.1 hC.2.1 dL_law_1567 hl (k := 3) rfl rfl (by decide) rfl (fun ls hl => ?_)
          refine lv_goto (tgt := 18) hC.1 hC.2.1 dL_law_1570 (by decide) ?_
          exact ih hF hw (lv_sub hl [1, 2, 3, 0] rfl)
        · have hF := ifN hF b90
          refine lv_iconst (v := (0 : Int32)) hC.1 hC.2.1 dL_law_489 (by decide) ?_
          cases hF
      have hF := ifN hF w79
      rcases Classical.em (((xs x3.toNatClampNeg) &&& (63 : Int32)) = (7 : Int32)) with w91 | w91
      · have hF := ifP hF w91
        refine r_swI (v := (7 : Int32)) (off := 458) (tgt := 491) hC.1 hC.2.1 w91 dL_law_33 (by decide) (by decide) rfl (by decide) ?_
        refine lv_aload_n hC.1 hC.2.1 dL_law_491 rfl (lv_at hl 1 rfl) ?_
        refine lv_aload_n hC.1 hC.2.1 dL_law_492 rfl (lv_at hl 0 rfl) ?_
        refine lv_iload_n hC.1 hC.2.1 dL_law_493 rfl (lv_at hl 3 rfl) ?_
        refine lv_iconst (v := (1 : Int32)) hC.1 hC.2.1 dL_law_494 (by decide) ?_
        refine lv_iadd hC.1 hC.2.1 dL_law_495 ?_
        obtain ⟨n92, hF⟩ := ifO hF
        refine va_sld hC.1 hC.2.1 hX hbl hbA hw.2.2.2.2 n92 dL_law_496 ?_
        refine lv_aload_n hC.1 hC.2.1 dL_law_497 rfl (lv_at hl 0 rfl) ?_
        refine lv_iload_n hC.1 hC.2.1 dL_law_498 rfl (lv_at hl 3 rfl) ?_
        refine lv_iconst (v := (2 : Int32)) hC.1 hC.2.1 dL_law_499 (by decide) ?_
        refine lv_iadd hC.1 hC.2.1 dL_law_500 ?_
        obtain ⟨n93, hF⟩ := ifO hF
        refine va_sld hC.1 hC.2.1 hX hbl hbA hw.2.2.2.2 n93 dL_law_501 ?_
        refine lv_aload_n hC.1 hC.2.1 dL_law_502 rfl (lv_at hl 0 rfl) ?_
        refine lv_iload_n hC.1 hC.2.1 dL_law_503 rfl (lv_at hl 3 rfl) ?_
        refine lv_iconst (v := (3 : Int32)) hC.1 hC.2.1 dL_law_504 (by decide) ?_
        refine lv_iadd hC.1 hC.2.1 dL_law_505 ?_
        obtain ⟨n94, hF⟩ := ifO hF
        refine va_sld hC.1 hC.2.1 hX hbl hbA hw.2.2.2.2 n94 dL_law_506 ?_
        obtain ⟨r96, M97, h95, hF⟩ := ob2S hF
        refine k_Vi (As := [.int (xs (x3 + (1 : Int32)).toNatClampNeg), .int (xs (x3 + (2 : Int32)).toNatClampNeg), .int (xs (x3 + (3 : Int32)).toNatClampNeg)]) (rest := []) hC hw (c_X6_put (M := M) h95) RC_S yv_X6_put q2_82 ⟨rfl, rfl⟩ ⟨Nat.le_of_ble_eq_true rfl, Nat.le_of_ble_eq_true rfl⟩ hz rfl rfl (Nat.le_of_ble_eq_true rfl) hl dL_law_507 (fun H locs hw => ?_)
        refine lv_aload_n hC.1 hC.2.1 dL_law_510 rfl (lv_at hl 2 rfl) ?_
        refine lv_aload_n hC.1 hC.2.1 dL_law_511 rfl (lv_at hl 0 rfl) ?_
        refine lv_iload_n hC.1 hC.2.1 dL_law_512 rfl (lv_at hl 3 rfl) ?_
        refine lv_iconst (v := (1 : Int32)) hC.1 hC.2.1 dL_law_513 (by decide) ?_
        refine lv_iadd hC.1 hC.2.1 dL_law_514 ?_
        obtain ⟨n98, hF⟩ := ifO hF
        refine va_sld hC.1 hC.2.1 hX hbl hbA hw.2.2.2.2 n98 dL_law_515 ?_
        refine lv_aload_n hC.1 hC.2.1 dL_law_516 rfl (lv_at hl 0 rfl) ?_
        refine lv_iload_n hC.1 hC.2.1 dL_law_517 rfl (lv_at hl 3 rfl) ?_
        refine lv_iconst (v := (2 : Int32)) hC.1 hC.2.1 dL_law_518 (by decide) ?_
        refine lv_iadd hC.1 hC.2.1 dL_law_519 ?_
        obtain ⟨n99, hF⟩ := ifO hF
        refine va_sld hC.1 hC.2.1 hX hbl hbA hw.2.2.2.2 n99 dL_law_520 ?_
        refine lv_aload_n hC.1 hC.2.1 dL_law_521 rfl (lv_at hl 0 rfl) ?_
        refine lv_iload_n hC.1 hC.2.1 dL_law_522 rfl (lv_at hl 3 rfl) ?_
        refine lv_iconst (v := (3 : Int32)) hC.1 hC.2.1 dL_law_523 (by decide) ?_
        refine lv_iadd hC.1 hC.2.1 dL_law_524 ?_
        obtain ⟨n100, hF⟩ := ifO hF
        refine va_sld hC.1 hC.2.1 hX hbl hbA hw.2.2.2.2 n100 dL_law_525 ?_
        obtain ⟨r102, M103, h101, hF⟩ := ob2S hF
        refine k_Vi (As := [.int (xs (x3 + (1 : Int32)).toNatClampNeg), .int (xs (x3 + (2 : Int32)).toNatClampNeg), .int (xs (x3 + (3 : Int32)).toNatClampNeg)]) (rest := [.int r96]) hC hw (c_X7_put (M := M97) h101) RC_X yv_X7_put q5_46 ⟨rfl, rfl⟩ ⟨Nat.le_of_ble_eq_true rfl, Nat.le_of_ble_eq_true rfl⟩ hz rfl rfl (Nat.le_of_ble_eq_true rfl) hl dL_law_526 (fun H locs hw => ?_)
        refine lv_icmp_eq (tgt := 1567) hC.1 hC.2.1 dL_law_529 (by decide) (fun b104 => ?_) (fun b104 => ?_)
        · have hF := ifP hF b104
          refine lv_iinc (v := (x3 + (6 : Int32))) (lv' := [(3, .int (x3 + (6 : Int32))), (0, .ref b), (1, .ref (ad G 0)), (2, .ref (ad G 86))]) hC.1 hC.2.1 dL_law_1567 hl (k := 3) rfl rfl (by decide) rfl (fun ls hl => ?_)
          refine lv_goto (tgt := 18) hC.1 hC.2.1 dL_law_1570 (by decide) ?_
          exact ih hF hw (lv_sub hl [1, 2, 3, 0] rfl)
        · have hF := ifN hF b104
          refine lv_iconst (v := (0 : Int32)) hC.1 hC.2.1 dL_law_532 (by decide) ?_
          cases hF
      have hF := ifN hF w91
      rcases Classical.em (((xs x3.toNatClampNeg) &&& (63 : Int32)) = (8 : Int32)) with w105 | w105
      · have hF := ifP hF w105
        refine r_swI (v := (8 : Int32)) (off := 501) (tgt := 534) hC.1 hC.2.1 w105 dL_law_33 (by decide) (by decide) rfl (by decide) ?_
        refine lv_aload_n hC.1 hC.2.1 dL_law_534 rfl (lv_at hl 1 rfl) ?_
        refine lv_aload_n hC.1 hC.2.1 dL_law_535 rfl (lv_at hl 0 rfl) ?_
        refine lv_iload_n hC.1 hC.2.1 dL_law_536 rfl (lv_at hl 3 rfl) ?_
        refine lv_iconst (v := (1 : Int32)) hC.1 hC.2.1 dL_law_537 (by decide) ?_
        refine lv_iadd hC.1 hC.2.1 dL_law_538 ?_
        obtain ⟨n106, hF⟩ := ifO hF
        refine va_sld hC.1 hC.2.1 hX hbl hbA hw.2.2.2.2 n106 dL_law_539 ?_
        obtain ⟨r108, M109, h107, hF⟩ := ob2S hF
        refine k_Vi (As := [.int (xs (x3 + (1 : Int32)).toNatClampNeg)]) (rest := []) hC hw (c_X6_fault (M := M) h107) RC_S yv_X6_fault q2_94 ⟨rfl, rfl⟩ ⟨Nat.le_of_ble_eq_true rfl, Nat.le_of_ble_eq_true rfl⟩ hz rfl rfl (Nat.le_of_ble_eq_true rfl) hl dL_law_540 (fun H locs hw => ?_)
        refine lv_aload_n hC.1 hC.2.1 dL_law_543 rfl (lv_at hl 2 rfl) ?_
        refine lv_aload_n hC.1 hC.2.1 dL_law_544 rfl (lv_at hl 0 rfl) ?_
        refine lv_iload_n hC.1 hC.2.1 dL_law_545 rfl (lv_at hl 3 rfl) ?_
        refine lv_iconst (v := (1 : Int32)) hC.1 hC.2.1 dL_law_546 (by decide) ?_
        refine lv_iadd hC.1 hC.2.1 dL_law_547 ?_
        obtain ⟨n110, hF⟩ := ifO hF
        refine va_sld hC.1 hC.2.1 hX hbl hbA hw.2.2.2.2 n110 dL_law_548 ?_
        obtain ⟨r112, M113, h111, hF⟩ := ob2S hF
        refine k_Vi (As := [.int (xs (x3 + (1 : Int32)).toNatClampNeg)]) (rest := [.int r108]) hC hw (c_X7_fault (M := M109) h111) RC_X yv_X7_fault q5_50 ⟨rfl, rfl⟩ ⟨Nat.le_of_ble_eq_true rfl, Nat.le_of_ble_eq_true rfl⟩ hz rfl rfl (Nat.le_of_ble_eq_true rfl) hl dL_law_549 (fun H locs hw => ?_)
        refine lv_icmp_eq (tgt := 1567) hC.1 hC.2.1 dL_law_552 (by decide) (fun b114 => ?_) (fun b114 => ?_)
        · have hF := ifP hF b114
          refine lv_iinc (v := (x3 + (6 : Int32))) (lv' := [(3, .int (x3 + (6 : Int32))), (0, .ref b), (1, .ref (ad G 0)), (2, .ref (ad G 86))]) hC.1 hC.2.1 dL_law_1567 hl (k := 3) rfl rfl (by decide) rfl (fun ls hl => ?_)
          refine lv_goto (tgt := 18) hC.1 hC.2.1 dL_law_1570 (by decide) ?_
          exact ih hF hw (lv_sub hl [1, 2, 3, 0] rfl)
        · have hF := ifN hF b114
          refine lv_iconst (v := (0 : Int32)) hC.1 hC.2.1 dL_law_555 (by decide) ?_
          cases hF
      have hF := ifN hF w105
      rcases Classical.em (((xs x3.toNatClampNeg) &&& (63 : Int32)) = (9 : Int32)) with w115 | w115
      · have hF := ifP hF w115
        refine r_swI (v := (9 : Int32)) (off := 524) (tgt := 557) hC.1 hC.2.1 w115 dL_law_33 (by decide) (by decide) rfl (by decide) ?_
        refine lv_aload_n hC.1 hC.2.1 dL_law_557 rfl (lv_at hl 1 rfl) ?_
        refine lv_aload_n hC.1 hC.2.1 dL_law_558 rfl (lv_at hl 0 rfl) ?_
        refine lv_iload_n hC.1 hC.2.1 dL_law_559 rfl (lv_at hl 3 rfl) ?_
        refine lv_iconst (v := (1 : Int32)) hC.1 hC.2.1 dL_law_560 (by decide) ?_
        refine lv_iadd hC.1 hC.2.1 dL_law_561 ?_
        obtain ⟨n116, hF⟩ := ifO hF
        refine va_sld hC.1 hC.2.1 hX hbl hbA hw.2.2.2.2 n116 dL_law_562 ?_
        obtain ⟨r118, M119, h117, hF⟩ := ob2S hF
        refine k_Vi (As := [.int (xs (x3 + (1 : Int32)).toNatClampNeg)]) (rest := []) hC hw (c_X6_north (M := M) h117) RC_S yv_X6_north q2_124 ⟨rfl, rfl⟩ ⟨Nat.le_of_ble_eq_true rfl, Nat.le_of_ble_eq_true rfl⟩ hz rfl rfl (Nat.le_of_ble_eq_true rfl) hl dL_law_563 (fun H locs hw => ?_)
        refine lv_aload_n hC.1 hC.2.1 dL_law_566 rfl (lv_at hl 2 rfl) ?_
        refine lv_aload_n hC.1 hC.2.1 dL_law_567 rfl (lv_at hl 0 rfl) ?_
        refine lv_iload_n hC.1 hC.2.1 dL_law_568 rfl (lv_at hl 3 rfl) ?_
        refine lv_iconst (v := (1 : Int32)) hC.1 hC.2.1 dL_law_569 (by decide) ?_
        refine lv_iadd hC.1 hC.2.1 dL_law_570 ?_
        obtain ⟨n120, hF⟩ := ifO hF
        refine va_sld hC.1 hC.2.1 hX hbl hbA hw.2.2.2.2 n120 dL_law_571 ?_
        obtain ⟨r122, M123, h121, hF⟩ := ob2S hF
        refine k_Vi (As := [.int (xs (x3 + (1 : Int32)).toNatClampNeg)]) (rest := [.int r118]) hC hw (c_X7_north (M := M119) h121) RC_X yv_X7_north q5_81 ⟨rfl, rfl⟩ ⟨Nat.le_of_ble_eq_true rfl, Nat.le_of_ble_eq_true rfl⟩ hz rfl rfl (Nat.le_of_ble_eq_true rfl) hl dL_law_572 (fun H locs hw => ?_)
        refine lv_icmp_eq (tgt := 1567) hC.1 hC.2.1 dL_law_575 (by decide) (fun b124 => ?_) (fun b124 => ?_)
        · have hF := ifP hF b124
          refine lv_iinc (v := (x3 + (6 : Int32))) (lv' := [(3, .int (x3 + (6 : Int32))), (0, .ref b), (1, .ref (ad G 0)), (2, .ref (ad G 86))]) hC.1 hC.2.1 dL_law_1567 hl (k := 3) rfl rfl (by decide) rfl (fun ls hl => ?_)
          refine lv_goto (tgt := 18) hC.1 hC.2.1 dL_law_1570 (by decide) ?_
          exact ih hF hw (lv_sub hl [1, 2, 3, 0] rfl)
        · have hF := ifN hF b124
          refine lv_iconst (v := (0 : Int32)) hC.1 hC.2.1 dL_law_578 (by decide) ?_
          cases hF
      have hF := ifN hF w115
      rcases Classical.em (((xs x3.toNatClampNeg) &&& (63 : Int32)) = (10 : Int32)) with w125 | w125
      · have hF := ifP hF w125
        refine r_swI (v := (10 : Int32)) (off := 547) (tgt := 580) hC.1 hC.2.1 w125 dL_law_33 (by decide) (by decide) rfl (by decide) ?_
        refine lv_aload_n hC.1 hC.2.1 dL_law_580 rfl (lv_at hl 1 rfl) ?_
        refine lv_aload_n hC.1 hC.2.1 dL_law_581 rfl (lv_at hl 0 rfl) ?_
        refine lv_iload_n hC.1 hC.2.1 dL_law_582 rfl (lv_at hl 3 rfl) ?_
        refine lv_iconst (v := (1 : Int32)) hC.1 hC.2.1 dL_law_583 (by decide) ?_
        refine lv_iadd hC.1 hC.2.1 dL_law_584 ?_
        obtain ⟨n126, hF⟩ := ifO hF
        refine va_sld hC.1 hC.2.1 hX hbl hbA hw.2.2.2.2 n126 dL_law_585 ?_
        refine lv_aload_n hC.1 hC.2.1 dL_law_586 rfl (lv_at hl 0 rfl) ?_
        refine lv_iload_n hC.1 hC.2.1 dL_law_587 rfl (lv_at hl 3 rfl) ?_
        refine lv_iconst (v := (2 : Int32)) hC.1 hC.2.1 dL_law_588 (by decide) ?_
        refine lv_iadd hC.1 hC.2.1 dL_law_589 ?_
        obtain ⟨n127, hF⟩ := ifO hF
        refine va_sld hC.1 hC.2.1 hX hbl hbA hw.2.2.2.2 n127 dL_law_590 ?_
        obtain ⟨r129, M130, h128, hF⟩ := ob2S hF
        refine k_Vi (As := [.int (xs (x3 + (1 : Int32)).toNatClampNeg), .int (xs (x3 + (2 : Int32)).toNatClampNeg)]) (rest := []) hC hw (c_X6_man (M := M) h128) RC_S yv_X6_man q2_143 ⟨rfl, rfl⟩ ⟨Nat.le_of_ble_eq_true rfl, Nat.le_of_ble_eq_true rfl⟩ hz rfl rfl (Nat.le_of_ble_eq_true rfl) hl dL_law_591 (fun H locs hw => ?_)
        refine lv_aload_n hC.1 hC.2.1 dL_law_594 rfl (lv_at hl 2 rfl) ?_
        refine lv_aload_n hC.1 hC.2.1 dL_law_595 rfl (lv_at hl 0 rfl) ?_
        refine lv_iload_n hC.1 hC.2.1 dL_law_596 rfl (lv_at hl 3 rfl) ?_
        refine lv_iconst (v := (1 : Int32)) hC.1 hC.2.1 dL_law_597 (by decide) ?_
        refine lv_iadd hC.1 hC.2.1 dL_law_598 ?_
        obtain ⟨n131, hF⟩ := ifO hF
        refine va_sld hC.1 hC.2.1 hX hbl hbA hw.2.2.2.2 n131 dL_law_599 ?_
        refine lv_aload_n hC.1 hC.2.1 dL_law_600 rfl (lv_at hl 0 rfl) ?_
        refine lv_iload_n hC.1 hC.2.1 dL_law_601 rfl (lv_at hl 3 rfl) ?_
        refine lv_iconst (v := (2 : Int32)) hC.1 hC.2.1 dL_law_602 (by decide) ?_
        refine lv_iadd hC.1 hC.2.1 dL_law_603 ?_
        obtain ⟨n132, hF⟩ := ifO hF
        refine va_sld hC.1 hC.2.1 hX hbl hbA hw.2.2.2.2 n132 dL_law_604 ?_
        obtain ⟨r134, M135, h133, hF⟩ := ob2S hF
        refine k_Vi (As := [.int (xs (x3 + (1 : Int32)).toNatClampNeg), .int (xs (x3 + (2 : Int32)).toNatClampNeg)]) (rest := [.int r129]) hC hw (c_X7_man (M := M130) h133) RC_X yv_X7_man q5_85 ⟨rfl, rfl⟩ ⟨Nat.le_of_ble_eq_true rfl, Nat.le_of_ble_eq_true rfl⟩ hz rfl rfl (Nat.le_of_ble_eq_true rfl) hl dL_law_605 (fun H locs hw => ?_)
        refine lv_icmp_eq (tgt := 1567) hC.1 hC.2.1 dL_law_608 (by decide) (fun b136 => ?_) (fun b136 => ?_)
        · have hF := ifP hF b136
          refine lv_iinc (v := (x3 + (6 : Int32))) (lv' := [(3, .int (x3 + (6 : Int32))), (0, .ref b), (1, .ref (ad G 0)), (2, .ref (ad G 86))]) hC.1 hC.2.1 dL_law_1567 hl (k := 3) rfl rfl (by decide) rfl (fun ls hl => ?_)
          refine lv_goto (tgt := 18) hC.1 hC.2.1 dL_law_1570 (by decide) ?_
          exact ih hF hw (lv_sub hl [1, 2, 3, 0] rfl)
        · have hF := ifN hF b136
          refine lv_iconst (v := (0 : Int32)) hC.1 hC.2.1 dL_law_611 (by decide) ?_
          cases hF
      have hF := ifN hF w125
      rcases Classical.em (((xs x3.toNatClampNeg) &&& (63 : Int32)) = (11 : Int32)) with w137 | w137
      · have hF := ifP hF w137
        refine r_swI (v := (11 : Int32)) (off := 580) (tgt := 613) hC.1 hC.2.1 w137 dL_law_33 (by decide) (by decide) rfl (by decide) ?_
        refine lv_aload_n hC.1 hC.2.1 dL_law_613 rfl (lv_at hl 1 rfl) ?_
        refine lv_aload_n hC.1 hC.2.1 dL_law_614 rfl (lv_at hl 0 rfl) ?_
        refine lv_iload_n hC.1 hC.2.1 dL_law_615 rfl (lv_at hl 3 rfl) ?_
        refine lv_iconst (v := (1 : Int32)) hC.1 hC.2.1 dL_law_616 (by decide) ?_
        refine lv_iadd hC.1 hC.2.1 dL_law_617 ?_
        obtain ⟨n138, hF⟩ := ifO hF
        refine va_sld hC.1 hC.2.1 hX hbl hbA hw.2.2.2.2 n138 dL_law_618 ?_
        refine lv_aload_n hC.1 hC.2.1 dL_law_619 rfl (lv_at hl 0 rfl) ?_
        refine lv_iload_n hC.1 hC.2.1 dL_law_620 rfl (lv_at hl 3 rfl) ?_
        refine lv_iconst (v := (2 : Int32)) hC.1 hC.2.1 dL_law_621 (by decide) ?_
        refine lv_iadd hC.1 hC.2.1 dL_law_622 ?_
        obtain ⟨n139, hF⟩ := ifO hF
        refine va_sld hC.1 hC.2.1 hX hbl hbA hw.2.2.2.2 n139 dL_law_623 ?_
        obtain ⟨r141, M142, h140, hF⟩ := ob2S hF
        refine k_Vi (As := [.int (xs (x3 + (1 : Int32)).toNatClampNeg), .int (xs (x3 + (2 : Int32)).toNatClampNeg)]) (rest := []) hC hw (c_X6_mark (M := M) h140) RC_S yv_X6_mark q2_179 ⟨rfl, rfl⟩ ⟨Nat.le_of_ble_eq_true rfl, Nat.le_of_ble_eq_true rfl⟩ hz rfl rfl (Nat.le_of_ble_eq_true rfl) hl dL_law_624 (fun H locs hw => ?_)
        refine lv_aload_n hC.1 hC.2.1 dL_law_627 rfl (lv_at hl 2 rfl) ?_
        refine lv_aload_n hC.1 hC.2.1 dL_law_628 rfl (lv_at hl 0 rfl) ?_
        refine lv_iload_n hC.1 hC.2.1 dL_law_629 rfl (lv_at hl 3 rfl) ?_
        refine lv_iconst (v := (1 : Int32)) hC.1 hC.2.1 dL_law_630 (by decide) ?_
        refine lv_iadd hC.1 hC.2.1 dL_law_631 ?_
        obtain ⟨n143, hF⟩ := ifO hF
        refine va_sld hC.1 hC.2.1 hX hbl hbA hw.2.2.2.2 n143 dL_law_632 ?_
        refine lv_aload_n hC.1 hC.2.1 dL_law_633 rfl (lv_at hl 0 rfl) ?_
        refine lv_iload_n hC.1 hC.2.1 dL_law_634 rfl (lv_at hl 3 rfl) ?_
        refine lv_iconst (v := (2 : Int32)) hC.1 hC.2.1 dL_law_635 (by decide) ?_
        refine lv_iadd hC.1 hC.2.1 dL_law_636 ?_
        obtain ⟨n144, hF⟩ := ifO hF
        refine va_sld hC.1 hC.2.1 hX hbl hbA hw.2.2.2.2 n144 dL_law_637 ?_
        obtain ⟨r146, M147, h145, hF⟩ := ob2S hF
        refine k_Vi (As := [.int (xs (x3 + (1 : Int32)).toNatClampNeg), .int (xs (x3 + (2 : Int32)).toNatClampNeg)]) (rest := [.int r141]) hC hw (c_X7_mark (M := M142) h145) RC_X yv_X7_mark q5_120 ⟨rfl, rfl⟩ ⟨Nat.le_of_ble_eq_true rfl, Nat.le_of_ble_eq_true rfl⟩ hz rfl rfl (Nat.le_of_ble_eq_true rfl) hl dL_law_638 (fun H locs hw => ?_)
        refine lv_icmp_eq (tgt := 1567) hC.1 hC.2.1 dL_law_641 (by decide) (fun b148 => ?_) (fun b148 => ?_)
        · have hF := ifP hF b148
          refine lv_iinc (v := (x3 + (6 : Int32))) (lv' := [(3, .int (x3 + (6 : Int32))), (0, .ref b), (1, .ref (ad G 0)), (2, .ref (ad G 86))]) hC.1 hC.2.1 dL_law_1567 hl (k := 3) rfl rfl (by decide) rfl (fun ls hl => ?_)
          refine lv_goto (tgt := 18) hC.1 hC.2.1 dL_law_1570 (by decide) ?_
          exact ih hF hw (lv_sub hl [1, 2, 3, 0] rfl)
        · have hF := ifN hF b148
          refine lv_iconst (v := (0 : Int32)) hC.1 hC.2.1 dL_law_644 (by decide) ?_
          cases hF
      have hF := ifN hF w137
      rcases Classical.em (((xs x3.toNatClampNeg) &&& (63 : Int32)) = (12 : Int32)) with w149 | w149
      · have hF := ifP hF w149
        refine r_swI (v := (12 : Int32)) (off := 613) (tgt := 646) hC.1 hC.2.1 w149 dL_law_33 (by decide) (by decide) rfl (by decide) ?_
        refine lv_aload_n hC.1 hC.2.1 dL_law_646 rfl (lv_at hl 1 rfl) ?_
        refine lv_aload_n hC.1 hC.2.1 dL_law_647 rfl (lv_at hl 0 rfl) ?_
        refine lv_iload_n hC.1 hC.2.1 dL_law_648 rfl (lv_at hl 3 rfl) ?_
        refine lv_iconst (v := (1 : Int32)) hC.1 hC.2.1 dL_law_649 (by decide) ?_
        refine lv_iadd hC.1 hC.2.1 dL_law_650 ?_
        obtain ⟨n150, hF⟩ := ifO hF
        refine va_sld hC.1 hC.2.1 hX hbl hbA hw.2.2.2.2 n150 dL_law_651 ?_
        obtain ⟨r152, h151, hF⟩ := ob1S hF
        refine k_Vi (As := [.int (xs (x3 + (1 : Int32)).toNatClampNeg)]) (rest := []) hC hw (c_X6_sun (M := M) h151) RC_S yv_X6_sun q2_217 ⟨rfl, rfl⟩ ⟨Nat.le_of_ble_eq_true rfl, Nat.le_of_ble_eq_true rfl⟩ hz rfl rfl (Nat.le_of_ble_eq_true rfl) hl dL_law_652 (fun H locs hw => ?_)
        refine lv_aload_n hC.1 hC.2.1 dL_law_655 rfl (lv_at hl 2 rfl) ?_
        refine lv_aload_n hC.1 hC.2.1 dL_law_656 rfl (lv_at hl 0 rfl) ?_
        refine lv_iload_n hC.1 hC.2.1 dL_law_657 rfl (lv_at hl 3 rfl) ?_
        refine lv_iconst (v := (1 : Int32)) hC.1 hC.2.1 dL_law_658 (by decide) ?_
        refine lv_iadd hC.1 hC.2.1 dL_law_659 ?_
        obtain ⟨n153, hF⟩ := ifO hF
        refine va_sld hC.1 hC.2.1 hX hbl hbA hw.2.2.2.2 n153 dL_law_660 ?_
        obtain ⟨r155, h154, hF⟩ := ob1S hF
        refine k_Vi (As := [.int (xs (x3 + (1 : Int32)).toNatClampNeg)]) (rest := [.int r152]) hC hw (c_X7_sun (M := M) h154) RC_X yv_X7_sun q5_143 ⟨rfl, rfl⟩ ⟨Nat.le_of_ble_eq_true rfl, Nat.le_of_ble_eq_true rfl⟩ hz rfl rfl (Nat.le_of_ble_eq_true rfl) hl dL_law_661 (fun H locs hw => ?_)
        refine lv_icmp_eq (tgt := 1567) hC.1 hC.2.1 dL_law_664 (by decide) (fun b156 => ?_) (fun b156 => ?_)
        · have hF := ifP hF b156
          refine lv_iinc (v := (x3 + (6 : Int32))) (lv' := [(3, .int (x3 + (6 : Int32))), (0, .ref b), (1, .ref (ad G 0)), (2, .ref (ad G 86))]) hC.1 hC.2.1 dL_law_1567 hl (k := 3) rfl rfl (by decide) rfl (fun ls hl => ?_)
          refine lv_goto (tgt := 18) hC.1 hC.2.1 dL_law_1570 (by decide) ?_
          exact ih hF hw (lv_sub hl [1, 2, 3, 0] rfl)
        · have hF := ifN hF b156
          refine lv_iconst (v := (0 : Int32)) hC.1 hC.2.1 dL_law_667 (by decide) ?_
          cases hF
      have hF := ifN hF w149
      rcases Classical.em (((xs x3.toNatClampNeg) &&& (63 : Int32)) = (13 : Int32)) with w157 | w157
      · have hF := ifP hF w157
        refine r_swI (v := (13 : Int32)) (off := 636) (tgt := 669) hC.1 hC.2.1 w157 dL_law_33 (by decide) (by decide) rfl (by decide) ?_
        refine lv_aload_n hC.1 hC.2.1 dL_law_669 rfl (lv_at hl 1 rfl) ?_
        refine lv_aload_n hC.1 hC.2.1 dL_law_670 rfl (lv_at hl 0 rfl) ?_
        refine lv_iload_n hC.1 hC.2.1 dL_law_671 rfl (lv_at hl 3 rfl) ?_
        refine lv_iconst (v := (1 : Int32)) hC.1 hC.2.1 dL_law_672 (by decide) ?_
        refine lv_iadd hC.1 hC.2.1 dL_law_673 ?_
        obtain ⟨n158, hF⟩ := ifO hF
        refine va_sld hC.1 hC.2.1 hX hbl hbA hw.2.2.2.2 n158 dL_law_674 ?_
        obtain ⟨r160, M161, h159, hF⟩ := ob2S hF
        refine k_Vi (As := [.int (xs (x3 + (1 : Int32)).toNatClampNeg)]) (rest := []) hC hw (c_X6_right (M := M) h159) RC_S yv_X6_right q2_225 ⟨rfl, rfl⟩ ⟨Nat.le_of_ble_eq_true rfl, Nat.le_of_ble_eq_true rfl⟩ hz rfl rfl (Nat.le_of_ble_eq_true rfl) hl dL_law_675 (fun H locs hw => ?_)
        refine lv_aload_n hC.1 hC.2.1 dL_law_678 rfl (lv_at hl 2 rfl) ?_
        refine lv_aload_n hC.1 hC.2.1 dL_law_679 rfl (lv_at hl 0 rfl) ?_
        refine lv_iload_n hC.1 hC.2.1 dL_law_680 rfl (lv_at hl 3 rfl) ?_
        refine lv_iconst (v := (1 : Int32)) hC.1 hC.2.1 dL_law_681 (by decide) ?_
        refine lv_iadd hC.1 hC.2.1 dL_law_682 ?_
        obtain ⟨n162, hF⟩ := ifO hF
        refine va_sld hC.1 hC.2.1 hX hbl hbA hw.2.2.2.2 n162 dL_law_683 ?_
        obtain ⟨r164, M165, h163, hF⟩ := ob2S hF
        refine k_Vi (As := [.int (xs (x3 + (1 : Int32)).toNatClampNeg)]) (rest := [.int r160]) hC hw (c_X7_right (M := M161) h163) RC_X yv_X7_right q5_148 ⟨rfl, rfl⟩ ⟨Nat.le_of_ble_eq_true rfl, Nat.le_of_ble_eq_true rfl⟩ hz rfl rfl (Nat.le_of_ble_eq_true rfl) hl dL_law_684 (fun H locs hw => ?_)
        refine lv_icmp_eq (tgt := 1567) hC.1 hC.2.1 dL_law_687 (by decide) (fun b166 => ?_) (fun b166 => ?_)
        · have hF := ifP hF b166
          refine lv_iinc (v := (x3 + (6 : Int32))) (lv' := [(3, .int (x3 + (6 : Int32))), (0, .ref b), (1, .ref (ad G 0)), (2, .ref (ad G 86))]) hC.1 hC.2.1 dL_law_1567 hl (k := 3) rfl rfl (by decide) rfl (fun ls hl => ?_)
          refine lv_goto (tgt := 18) hC.1 hC.2.1 dL_law_1570 (by decide) ?_
          exact ih hF hw (lv_sub hl [1, 2, 3, 0] rfl)
        · have hF := ifN hF b166
          refine lv_iconst (v := (0 : Int32)) hC.1 hC.2.1 dL_law_690 (by decide) ?_
          cases hF
      have hF := ifN hF w157
      rcases Classical.em (((xs x3.toNatClampNeg) &&& (63 : Int32)) = (14 : Int32)) with w167 | w167
      · have hF := ifP hF w167
        refine r_swI (v := (14 : Int32)) (off := 659) (tgt := 692) hC.1 hC.2.1 w167 dL_law_33 (by decide) (by decide) rfl (by decide) ?_
        refine lv_aload_n hC.1 hC.2.1 dL_law_692 rfl (lv_at hl 1 rfl) ?_
        obtain ⟨r169, M170, h168, hF⟩ := ob2S hF
        refine k_Vi (As := []) (rest := []) hC hw (c_X6_day (M := M) h168) RC_S yv_X6_day q2_229 ⟨rfl, rfl⟩ ⟨Nat.le_of_ble_eq_true rfl, Nat.le_of_ble_eq_true rfl⟩ hz rfl rfl (Nat.le_of_ble_eq_true rfl) hl dL_law_693 (fun H locs hw => ?_)
        refine lv_aload_n hC.1 hC.2.1 dL_law_696 rfl (lv_at hl 2 rfl) ?_
        obtain ⟨r172, M173, h171, hF⟩ := ob2S hF
        refine k_Vi (As := []) (rest := [.int r169]) hC hw (c_X7_day (M := M170) h171) RC_X yv_X7_day q5_153 ⟨rfl, rfl⟩ ⟨Nat.le_of_ble_eq_true rfl, Nat.le_of_ble_eq_true rfl⟩ hz rfl rfl (Nat.le_of_ble_eq_true rfl) hl dL_law_697 (fun H locs hw => ?_)
        refine lv_icmp_eq (tgt := 1567) hC.1 hC.2.1 dL_law_700 (by decide) (fun b174 => ?_) (fun b174 => ?_)
        · have hF := ifP hF b174
          refine lv_iinc (v := (x3 + (6 : Int32))) (lv' := [(3, .int (x3 + (6 : Int32))), (0, .ref b), (1, .ref (ad G 0)), (2, .ref (ad G 86))]) hC.1 hC.2.1 dL_law_1567 hl (k := 3) rfl rfl (by decide) rfl (fun ls hl => ?_)
          refine lv_goto (tgt := 18) hC.1 hC.2.1 dL_law_1570 (by decide) ?_
          exact ih hF hw (lv_sub hl [1, 2, 3, 0] rfl)
        · have hF := ifN hF b174
          refine lv_iconst (v := (0 : Int32)) hC.1 hC.2.1 dL_law_703 (by decide) ?_
          cases hF
      have hF := ifN hF w167
      rcases Classical.em (((xs x3.toNatClampNeg) &&& (63 : Int32)) = (15 : Int32)) with w175 | w175
      · have hF := ifP hF w175
        refine r_swI (v := (15 : Int32)) (off := 672) (tgt := 705) hC.1 hC.2.1 w175 dL_law_33 (by decide) (by decide) rfl (by decide) ?_
        refine lv_aload_n hC.1 hC.2.1 dL_law_705 rfl (lv_at hl 1 rfl) ?_
        refine lv_aload_n hC.1 hC.2.1 dL_law_706 rfl (lv_at hl 0 rfl) ?_
        refine lv_iload_n hC.1 hC.2.1 dL_law_707 rfl (lv_at hl 3 rfl) ?_
        refine lv_iconst (v := (1 : Int32)) hC.1 hC.2.1 dL_law_708 (by decide) ?_
        refine lv_iadd hC.1 hC.2.1 dL_law_709 ?_
        obtain ⟨n176, hF⟩ := ifO hF
        refine va_sld hC.1 hC.2.1 hX hbl hbA hw.2.2.2.2 n176 dL_law_710 ?_
        refine lv_aload_n hC.1 hC.2.1 dL_law_711 rfl (lv_at hl 0 rfl) ?_
        refine lv_iload_n hC.1 hC.2.1 dL_law_712 rfl (lv_at hl 3 rfl) ?_
        refine lv_iconst (v := (2 : Int32)) hC.1 hC.2.1 dL_law_713 (by decide) ?_
        refine lv_iadd hC.1 hC.2.1 dL_law_714 ?_
        obtain ⟨n177, hF⟩ := ifO hF
        refine va_sld hC.1 hC.2.1 hX hbl hbA hw.2.2.2.2 n177 dL_law_715 ?_
        obtain ⟨r179, M180, h178, hF⟩ := ob2S hF
        refine k_Vi (As := [.int (xs (x3 + (1 : Int32)).toNatClampNeg), .int (xs (x3 + (2 : Int32)).toNatClampNeg)]) (rest := []) hC hw (c_X6_shade (M := M) h178) RC_S yv_X6_shade q3_17 ⟨rfl, rfl⟩ ⟨Nat.le_of_ble_eq_true rfl, Nat.le_of_ble_eq_true rfl⟩ hz rfl rfl (Nat.le_of_ble_eq_true rfl) hl dL_law_716 (fun H locs hw => ?_)
        refine lv_aload_n hC.1 hC.2.1 dL_law_719 rfl (lv_at hl 2 rfl) ?_
        refine lv_aload_n hC.1 hC.2.1 dL_law_720 rfl (lv_at hl 0 rfl) ?_
        refine lv_iload_n hC.1 hC.2.1 dL_law_721 rfl (lv_at hl 3 rfl) ?_
        refine lv_iconst (v := (1 : Int32)) hC.1 hC.2.1 dL_law_722 (by decide) ?_
        refine lv_iadd hC.1 hC.2.1 dL_law_723 ?_
        obtain ⟨n181, hF⟩ := ifO hF
        refine va_sld hC.1 hC.2.1 hX hbl hbA hw.2.2.2.2 n181 dL_law_724 ?_
        refine lv_aload_n hC.1 hC.2.1 dL_law_725 rfl (lv_at hl 0 rfl) ?_
        refine lv_iload_n hC.1 hC.2.1 dL_law_726 rfl (lv_at hl 3 rfl) ?_
        refine lv_iconst (v := (2 : Int32)) hC.1 hC.2.1 dL_law_727 (by decide) ?_
        refine lv_iadd hC.1 hC.2.1 dL_law_728 ?_
        obtain ⟨n182, hF⟩ := ifO hF
        refine va_sld hC.1 hC.2.1 hX hbl hbA hw.2.2.2.2 n182 dL_law_729 ?_
        obtain ⟨r184, M185, h183, hF⟩ := ob2S hF
        refine k_Vi (As := [.int (xs (x3 + (1 : Int32)).toNatClampNeg), .int (xs (x3 + (2 : Int32)).toNatClampNeg)]) (rest := [.int r179]) hC hw (c_X7_shade (M := M180) h183) RC_X yv_X7_shade q5_172 ⟨rfl, rfl⟩ ⟨Nat.le_of_ble_eq_true rfl, Nat.le_of_ble_eq_true rfl⟩ hz rfl rfl (Nat.le_of_ble_eq_true rfl) hl dL_law_730 (fun H locs hw => ?_)
        refine lv_icmp_eq (tgt := 1567) hC.1 hC.2.1 dL_law_733 (by decide) (fun b186 => ?_) (fun b186 => ?_)
        · have hF := ifP hF b186
          refine lv_iinc (v := (x3 + (6 : Int32))) (lv' := [(3, .int (x3 + (6 : Int32))), (0, .ref b), (1, .ref (ad G 0)), (2, .ref (ad G 86))]) hC.1 hC.2.1 dL_law_1567 hl (k := 3) rfl rfl (by decide) rfl (fun ls hl => ?_)
          refine lv_goto (tgt := 18) hC.1 hC.2.1 dL_law_1570 (by decide) ?_
          exact ih hF hw (lv_sub hl [1, 2, 3, 0] rfl)
        · have hF := ifN hF b186
          refine lv_iconst (v := (0 : Int32)) hC.1 hC.2.1 dL_law_736 (by decide) ?_
          cases hF
      have hF := ifN hF w175
      rcases Classical.em (((xs x3.toNatClampNeg) &&& (63 : Int32)) = (16 : Int32)) with w187 | w187
      · have hF := ifP hF w187
        refine r_swI (v := (16 : Int32)) (off := 705) (tgt := 738) hC.1 hC.2.1 w187 dL_law_33 (by decide) (by decide) rfl (by decide) ?_
        refine lv_aload_n hC.1 hC.2.1 dL_law_738 rfl (lv_at hl 1 rfl) ?_
        refine lv_aload_n hC.1 hC.2.1 dL_law_739 rfl (lv_at hl 0 rfl) ?_
        refine lv_iload_n hC.1 hC.2.1 dL_law_740 rfl (lv_at hl 3 rfl) ?_
        refine lv_iconst (v := (1 : Int32)) hC.1 hC.2.1 dL_law_741 (by decide) ?_
        refine lv_iadd hC.1 hC.2.1 dL_law_742 ?_
        obtain ⟨n188, hF⟩ := ifO hF
        refine va_sld hC.1 hC.2.1 hX hbl hbA hw.2.2.2.2 n188 dL_law_743 ?_
        refine lv_aload_n hC.1 hC.2.1 dL_law_744 rfl (lv_at hl 0 rfl) ?_
        refine lv_iload_n hC.1 hC.2.1 dL_law_745 rfl (lv_at hl 3 rfl) ?_
        refine lv_iconst (v := (2 : Int32)) hC.1 hC.2.1 dL_law_746 (by decide) ?_
        refine lv_iadd hC.1 hC.2.1 dL_law_747 ?_
        obtain ⟨n189, hF⟩ := ifO hF
        refine va_sld hC.1 hC.2.1 hX hbl hbA hw.2.2.2.2 n189 dL_law_748 ?_
        obtain ⟨r191, M192, h190, hF⟩ := ob2S hF
        refine k_Vi (As := [.int (xs (x3 + (1 : Int32)).toNatClampNeg), .int (xs (x3 + (2 : Int32)).toNatClampNeg)]) (rest := []) hC hw (c_X6_snow (M := M) h190) RC_S yv_X6_snow q3_21 ⟨rfl, rfl⟩ ⟨Nat.le_of_ble_eq_true rfl, Nat.le_of_ble_eq_true rfl⟩ hz rfl rfl (Nat.le_of_ble_eq_true rfl) hl dL_law_749 (fun H locs hw => ?_)
        refine lv_aload_n hC.1 hC.2.1 dL_law_752 rfl (lv_at hl 2 rfl) ?_
        refine lv_aload_n hC.1 hC.2.1 dL_law_753 rfl (lv_at hl 0 rfl) ?_
        refine lv_iload_n hC.1 hC.2.1 dL_law_754 rfl (lv_at hl 3 rfl) ?_
        refine lv_iconst (v := (1 : Int32)) hC.1 hC.2.1 dL_law_755 (by decide) ?_
        refine lv_iadd hC.1 hC.2.1 dL_law_756 ?_
        obtain ⟨n193, hF⟩ := ifO hF
        refine va_sld hC.1 hC.2.1 hX hbl hbA hw.2.2.2.2 n193 dL_law_757 ?_
        refine lv_aload_n hC.1 hC.2.1 dL_law_758 rfl (lv_at hl 0 rfl) ?_
        refine lv_iload_n hC.1 hC.2.1 dL_law_759 rfl (lv_at hl 3 rfl) ?_
        refine lv_iconst (v := (2 : Int32)) hC.1 hC.2.1 dL_law_760 (by decide) ?_
        refine lv_iadd hC.1 hC.2.1 dL_law_761 ?_
        obtain ⟨n194, hF⟩ := ifO hF
        refine va_sld hC.1 hC.2.1 hX hbl hbA hw.2.2.2.2 n194 dL_law_762 ?_
        obtain ⟨r196, M197, h195, hF⟩ := ob2S hF
        refine k_Vi (As := [.int (xs (x3 + (1 : Int32)).toNatClampNeg), .int (xs (x3 + (2 : Int32)).toNatClampNeg)]) (rest := [.int r191]) hC hw (c_X7_snow (M := M192) h195) RC_X yv_X7_snow q5_176 ⟨rfl, rfl⟩ ⟨Nat.le_of_ble_eq_true rfl, Nat.le_of_ble_eq_true rfl⟩ hz rfl rfl (Nat.le_of_ble_eq_true rfl) hl dL_law_763 (fun H locs hw => ?_)
        refine lv_icmp_eq (tgt := 1567) hC.1 hC.2.1 dL_law_766 (by decide) (fun b198 => ?_) (fun b198 => ?_)
        · have hF := ifP hF b198
          refine lv_iinc (v := (x3 + (6 : Int32))) (lv' := [(3, .int (x3 + (6 : Int32))), (0, .ref b), (1, .ref (ad G 0)), (2, .ref (ad G 86))]) hC.1 hC.2.1 dL_law_1567 hl (k := 3) rfl rfl (by decide) rfl (fun ls hl => ?_)
          refine lv_goto (tgt := 18) hC.1 hC.2.1 dL_law_1570 (by decide) ?_
          exact ih hF hw (lv_sub hl [1, 2, 3, 0] rfl)
        · have hF := ifN hF b198
          refine lv_iconst (v := (0 : Int32)) hC.1 hC.2.1 dL_law_769 (by decide) ?_
          cases hF
      have hF := ifN hF w187
      rcases Classical.em (((xs x3.toNatClampNeg) &&& (63 : Int32)) = (17 : Int32)) with w199 | w199
      · have hF := ifP hF w199
        refine r_swI (v := (17 : Int32)) (off := 738) (tgt := 771) hC.1 hC.2.1 w199 dL_law_33 (by decide) (by decide) rfl (by decide) ?_
        refine lv_aload_n hC.1 hC.2.1 dL_law_771 rfl (lv_at hl 1 rfl) ?_
        refine lv_aload_n hC.1 hC.2.1 dL_law_772 rfl (lv_at hl 0 rfl) ?_
        refine lv_iload_n hC.1 hC.2.1 dL_law_773 rfl (lv_at hl 3 rfl) ?_
        refine lv_iconst (v := (1 : Int32)) hC.1 hC.2.1 dL_law_774 (by decide) ?_
        refine lv_iadd hC.1 hC.2.1 dL_law_775 ?_
        obtain ⟨n200, hF⟩ := ifO hF
        refine va_sld hC.1 hC.2.1 hX hbl hbA hw.2.2.2.2 n200 dL_law_776 ?_
        obtain ⟨r202, M203, h201, hF⟩ := ob2S hF
        refine k_Vi (As := [.int (xs (x3 + (1 : Int32)).toNatClampNeg)]) (rest := []) hC hw (c_X6_undo (M := M) h201) RC_S yv_X6_undo q3_25 ⟨rfl, rfl⟩ ⟨Nat.le_of_ble_eq_true rfl, Nat.le_of_ble_eq_true rfl⟩ hz rfl rfl (Nat.le_of_ble_eq_true rfl) hl dL_law_777 (fun H locs hw => ?_)
        refine lv_aload_n hC.1 hC.2.1 dL_law_780 rfl (lv_at hl 2 rfl) ?_
        refine lv_aload_n hC.1 hC.2.1 dL_law_781 rfl (lv_at hl 0 rfl) ?_
        refine lv_iload_n hC.1 hC.2.1 dL_law_782 rfl (lv_at hl 3 rfl) ?_
        refine lv_iconst (v := (1 : Int32)) hC.1 hC.2.1 dL_law_783 (by decide) ?_
        refine lv_iadd hC.1 hC.2.1 dL_law_784 ?_
        obtain ⟨n204, hF⟩ := ifO hF
        refine va_sld hC.1 hC.2.1 hX hbl hbA hw.2.2.2.2 n204 dL_law_785 ?_
        obtain ⟨r206, M207, h205, hF⟩ := ob2S hF
        refine k_Vi (As := [.int (xs (x3 + (1 : Int32)).toNatClampNeg)]) (rest := [.int r202]) hC hw (c_X7_undo (M := M203) h205) RC_X yv_X7_undo q5_183 ⟨rfl, rfl⟩ ⟨Nat.le_of_ble_eq_true rfl, Nat.le_of_ble_eq_true rfl⟩ hz rfl rfl (Nat.le_of_ble_eq_true rfl) hl dL_law_786 (fun H locs hw => ?_)
        refine lv_icmp_eq (tgt := 1567) hC.1 hC.2.1 dL_law_789 (by decide) (fun b208 => ?_) (fun b208 => ?_)
        · have hF := ifP hF b208
          refine lv_iinc (v := (x3 + (6 : Int32))) (lv' := [(3, .int (x3 + (6 : Int32))), (0, .ref b), (1, .ref (ad G 0)), (2, .ref (ad G 86))]) hC.1 hC.2.1 dL_law_1567 hl (k := 3) rfl rfl (by decide) rfl (fun ls hl => ?_)
          refine lv_goto (tgt := 18) hC.1 hC.2.1 dL_law_1570 (by decide) ?_
          exact ih hF hw (lv_sub hl [1, 2, 3, 0] rfl)
        · have hF := ifN hF b208
          refine lv_iconst (v := (0 : Int32)) hC.1 hC.2.1 dL_law_792 (by decide) ?_
          cases hF
      have hF := ifN hF w199
      rcases Classical.em (((xs x3.toNatClampNeg) &&& (63 : Int32)) = (18 : Int32)) with w209 | w209
      · have hF := ifP hF w209
        refine r_swI (v := (18 : Int32)) (off := 761) (tgt := 794) hC.1 hC.2.1 w209 dL_law_33 (by decide) (by decide) rfl (by decide) ?_
        refine lv_aload_n hC.1 hC.2.1 dL_law_794 rfl (lv_at hl 1 rfl) ?_
        obtain ⟨r211, M212, h210, hF⟩ := ob2S hF
        refine k_Vi (As := []) (rest := []) hC hw (c_X6_now (M := M) h210) RC_S yv_X6_now q3_33 ⟨rfl, rfl⟩ ⟨Nat.le_of_ble_eq_true rfl, Nat.le_of_ble_eq_true rfl⟩ hz rfl rfl (Nat.le_of_ble_eq_true rfl) hl dL_law_795 (fun H locs hw => ?_)
        refine lv_aload_n hC.1 hC.2.1 dL_law_798 rfl (lv_at hl 2 rfl) ?_
        obtain ⟨r214, M215, h213, hF⟩ := ob2S hF
        refine k_Vi (As := []) (rest := [.int r211]) hC hw (c_X7_now (M := M212) h213) RC_X yv_X7_now q5_187 ⟨rfl, rfl⟩ ⟨Nat.le_of_ble_eq_true rfl, Nat.le_of_ble_eq_true rfl⟩ hz rfl rfl (Nat.le_of_ble_eq_true rfl) hl dL_law_799 (fun H locs hw => ?_)
        refine lv_icmp_eq (tgt := 1567) hC.1 hC.2.1 dL_law_802 (by decide) (fun b216 => ?_) (fun b216 => ?_)
        · have hF := ifP hF b216
          refine lv_iinc (v := (x3 + (6 : Int32))) (lv' := [(3, .int (x3 + (6 : Int32))), (0, .ref b), (1, .ref (ad G 0)), (2, .ref (ad G 86))]) hC.1 hC.2.1 dL_law_1567 hl (k := 3) rfl rfl (by decide) rfl (fun ls hl => ?_)
          refine lv_goto (tgt := 18) hC.1 hC.2.1 dL_law_1570 (by decide) ?_
          exact ih hF hw (lv_sub hl [1, 2, 3, 0] rfl)
        · have hF := ifN hF b216
          refine lv_iconst (v := (0 : Int32)) hC.1 hC.2.1 dL_law_805 (by decide) ?_
          cases hF
      have hF := ifN hF w209
      rcases Classical.em (((xs x3.toNatClampNeg) &&& (63 : Int32)) = (19 : Int32)) with w217 | w217
      · have hF := ifP hF w217
        refine r_swI (v := (19 : Int32)) (off := 774) (tgt := 807) hC.1 hC.2.1 w217 dL_law_33 (by decide) (by decide) rfl (by decide) ?_
        refine lv_aload_n hC.1 hC.2.1 dL_law_807 rfl (lv_at hl 1 rfl) ?_
        refine lv_aload_n hC.1 hC.2.1 dL_law_808 rfl (lv_at hl 0 rfl) ?_
        refine lv_iload_n hC.1 hC.2.1 dL_law_809 rfl (lv_at hl 3 rfl) ?_
        refine lv_iconst (v := (1 : Int32)) hC.1 hC.2.1 dL_law_810 (by decide) ?_
        refine lv_iadd hC.1 hC.2.1 dL_law_811 ?_
        obtain ⟨n218, hF⟩ := ifO hF
        refine va_sld hC.1 hC.2.1 hX hbl hbA hw.2.2.2.2 n218 dL_law_812 ?_
        obtain ⟨r220, M221, h219, hF⟩ := ob2S hF
        refine k_Vi (As := [.int (xs (x3 + (1 : Int32)).toNatClampNeg)]) (rest := []) hC hw (c_X6_keep (M := M) h219) RC_S yv_X6_keep q3_37 ⟨rfl, rfl⟩ ⟨Nat.le_of_ble_eq_true rfl, Nat.le_of_ble_eq_true rfl⟩ hz rfl rfl (Nat.le_of_ble_eq_true rfl) hl dL_law_813 (fun H locs hw => ?_)
        refine lv_aload_n hC.1 hC.2.1 dL_law_816 rfl (lv_at hl 2 rfl) ?_
        refine lv_aload_n hC.1 hC.2.1 dL_law_817 rfl (lv_at hl 0 rfl) ?_
        refine lv_iload_n hC.1 hC.2.1 dL_law_818 rfl (lv_at hl 3 rfl) ?_
        refine lv_iconst (v := (1 : Int32)) hC.1 hC.2.1 dL_law_819 (by decide) ?_
        refine lv_iadd hC.1 hC.2.1 dL_law_820 ?_
        obtain ⟨n222, hF⟩ := ifO hF
        refine va_sld hC.1 hC.2.1 hX hbl hbA hw.2.2.2.2 n222 dL_law_821 ?_
        obtain ⟨r224, M225, h223, hF⟩ := ob2S hF
        refine k_Vi (As := [.int (xs (x3 + (1 : Int32)).toNatClampNeg)]) (rest := [.int r220]) hC hw (c_X7_keep (M := M221) h223) RC_X yv_X7_keep q5_191 ⟨rfl, rfl⟩ ⟨Nat.le_of_ble_eq_true rfl, Nat.le_of_ble_eq_true rfl⟩ hz rfl rfl (Nat.le_of_ble_eq_true rfl) hl dL_law_822 (fun H locs hw => ?_)
        refine lv_icmp_eq (tgt := 1567) hC.1 hC.2.1 dL_law_825 (by decide) (fun b226 => ?_) (fun b226 => ?_)
        · have hF := ifP hF b226
          refine lv_iinc (v := (x3 + (6 : Int32))) (lv' := [(3, .int (x3 + (6 : Int32))), (0, .ref b), (1, .ref (ad G 0)), (2, .ref (ad G 86))]) hC.1 hC.2.1 dL_law_1567 hl (k := 3) rfl rfl (by decide) rfl (fun ls hl => ?_)
          refine lv_goto (tgt := 18) hC.1 hC.2.1 dL_law_1570 (by decide) ?_
          exact ih hF hw (lv_sub hl [1, 2, 3, 0] rfl)
        · have hF := ifN hF b226
          refine lv_iconst (v := (0 : Int32)) hC.1 hC.2.1 dL_law_828 (by decide) ?_
          cases hF
      have hF := ifN hF w217
      rcases Classical.em (((xs x3.toNatClampNeg) &&& (63 : Int32)) = (20 : Int32)) with w227 | w227
      · have hF := ifP hF w227
        refine r_swI (v := (20 : Int32)) (off := 797) (tgt := 830) hC.1 hC.2.1 w227 dL_law_33 (by decide) (by decide) rfl (by decide) ?_
        refine lv_aload_n hC.1 hC.2.1 dL_law_830 rfl (lv_at hl 1 rfl) ?_
        refine lv_aload_n hC.1 hC.2.1 dL_law_831 rfl (lv_at hl 0 rfl) ?_
        refine lv_iload_n hC.1 hC.2.1 dL_law_832 rfl (lv_at hl 3 rfl) ?_
        refine lv_iconst (v := (1 : Int32)) hC.1 hC.2.1 dL_law_833 (by decide) ?_
        refine lv_iadd hC.1 hC.2.1 dL_law_834 ?_
        obtain ⟨n228, hF⟩ := ifO hF
        refine va_sld hC.1 hC.2.1 hX hbl hbA hw.2.2.2.2 n228 dL_law_835 ?_
        obtain ⟨r230, M231, h229, hF⟩ := ob2S hF
        refine k_Vi (As := [.int (xs (x3 + (1 : Int32)).toNatClampNeg)]) (rest := []) hC hw (c_X6_on (M := M) h229) RC_S yv_X6_on q3_45 ⟨rfl, rfl⟩ ⟨Nat.le_of_ble_eq_true rfl, Nat.le_of_ble_eq_true rfl⟩ hz rfl rfl (Nat.le_of_ble_eq_true rfl) hl dL_law_836 (fun H locs hw => ?_)
        refine lv_aload_n hC.1 hC.2.1 dL_law_839 rfl (lv_at hl 2 rfl) ?_
        refine lv_aload_n hC.1 hC.2.1 dL_law_840 rfl (lv_at hl 0 rfl) ?_
        refine lv_iload_n hC.1 hC.2.1 dL_law_841 rfl (lv_at hl 3 rfl) ?_
        refine lv_iconst (v := (1 : Int32)) hC.1 hC.2.1 dL_law_842 (by decide) ?_
        refine lv_iadd hC.1 hC.2.1 dL_law_843 ?_
        obtain ⟨n232, hF⟩ := ifO hF
        refine va_sld hC.1 hC.2.1 hX hbl hbA hw.2.2.2.2 n232 dL_law_844 ?_
        obtain ⟨r234, M235, h233, hF⟩ := ob2S hF
        refine k_Vi (As := [.int (xs (x3 + (1 : Int32)).toNatClampNeg)]) (rest := [.int r230]) hC hw (c_X7_on (M := M231) h233) RC_X yv_X7_on q5_196 ⟨rfl, rfl⟩ ⟨Nat.le_of_ble_eq_true rfl, Nat.le_of_ble_eq_true rfl⟩ hz rfl rfl (Nat.le_of_ble_eq_true rfl) hl dL_law_845 (fun H locs hw => ?_)
        refine lv_icmp_eq (tgt := 1567) hC.1 hC.2.1 dL_law_848 (by decide) (fun b236 => ?_) (fun b236 => ?_)
        · have hF := ifP hF b236
          refine lv_iinc (v := (x3 + (6 : Int32))) (lv' := [(3, .int (x3 + (6 : Int32))), (0, .ref b), (1, .ref (ad G 0)), (2, .ref (ad G 86))]) hC.1 hC.2.1 dL_law_1567 hl (k := 3) rfl rfl (by decide) rfl (fun ls hl => ?_)
          refine lv_goto (tgt := 18) hC.1 hC.2.1 dL_law_1570 (by decide) ?_
          exact ih hF hw (lv_sub hl [1, 2, 3, 0] rfl)
        · have hF := ifN hF b236
          refine lv_iconst (v := (0 : Int32)) hC.1 hC.2.1 dL_law_851 (by decide) ?_
          cases hF
      have hF := ifN hF w227
      rcases Classical.em (((xs x3.toNatClampNeg) &&& (63 : Int32)) = (21 : Int32)) with w237 | w237
      · have hF := ifP hF w237
        refine r_swI (v := (21 : Int32)) (off := 820) (tgt := 853) hC.1 hC.2.1 w237 dL_law_33 (by decide) (by decide) rfl (by decide) ?_
        refine lv_aload_n hC.1 hC.2.1 dL_law_853 rfl (lv_at hl 1 rfl) ?_
        refine lv_aload_n hC.1 hC.2.1 dL_law_854 rfl (lv_at hl 0 rfl) ?_
        refine lv_iload_n hC.1 hC.2.1 dL_law_855 rfl (lv_at hl 3 rfl) ?_
        refine lv_iconst (v := (1 : Int32)) hC.1 hC.2.1 dL_law_856 (by decide) ?_
        refine lv_iadd hC.1 hC.2.1 dL_law_857 ?_
        obtain ⟨n238, hF⟩ := ifO hF
        refine va_sld hC.1 hC.2.1 hX hbl hbA hw.2.2.2.2 n238 dL_law_858 ?_
        refine lv_aload_n hC.1 hC.2.1 dL_law_859 rfl (lv_at hl 0 rfl) ?_
        refine lv_iload_n hC.1 hC.2.1 dL_law_860 rfl (lv_at hl 3 rfl) ?_
        refine lv_iconst (v := (2 : Int32)) hC.1 hC.2.1 dL_law_861 (by decide) ?_
        refine lv_iadd hC.1 hC.2.1 dL_law_862 ?_
        obtain ⟨n239, hF⟩ := ifO hF
        refine va_sld hC.1 hC.2.1 hX hbl hbA hw.2.2.2.2 n239 dL_law_863 ?_
        obtain ⟨r241, h240, hF⟩ := ob1S hF
        refine k_Vi (As := [.int (xs (x3 + (1 : Int32)).toNatClampNeg), .int (xs (x3 + (2 : Int32)).toNatClampNeg)]) (rest := []) hC hw (c_X6_bulk (M := M) h240) RC_S yv_X6_bulk q3_49 ⟨rfl, rfl⟩ ⟨Nat.le_of_ble_eq_true rfl, Nat.le_of_ble_eq_true rfl⟩ hz rfl rfl (Nat.le_of_ble_eq_true rfl) hl dL_law_864 (fun H locs hw => ?_)
        refine lv_aload_n hC.1 hC.2.1 dL_law_867 rfl (lv_at hl 2 rfl) ?_
        refine lv_aload_n hC.1 hC.2.1 dL_law_868 rfl (lv_at hl 0 rfl) ?_
        refine lv_iload_n hC.1 hC.2.1 dL_law_869 rfl (lv_at hl 3 rfl) ?_
        refine lv_iconst (v := (1 : Int32)) hC.1 hC.2.1 dL_law_870 (by decide) ?_
        refine lv_iadd hC.1 hC.2.1 dL_law_871 ?_
        obtain ⟨n242, hF⟩ := ifO hF
        refine va_sld hC.1 hC.2.1 hX hbl hbA hw.2.2.2.2 n242 dL_law_872 ?_
        refine lv_aload_n hC.1 hC.2.1 dL_law_873 rfl (lv_at hl 0 rfl) ?_
        refine lv_iload_n hC.1 hC.2.1 dL_law_874 rfl (lv_at hl 3 rfl) ?_
        refine lv_iconst (v := (2 : Int32)) hC.1 hC.2.1 dL_law_875 (by decide) ?_
        refine lv_iadd hC.1 hC.2.1 dL_law_876 ?_
        obtain ⟨n243, hF⟩ := ifO hF
        refine va_sld hC.1 hC.2.1 hX hbl hbA hw.2.2.2.2 n243 dL_law_877 ?_
        obtain ⟨r245, h244, hF⟩ := ob1S hF
        refine k_Vi (As := [.int (xs (x3 + (1 : Int32)).toNatClampNeg), .int (xs (x3 + (2 : Int32)).toNatClampNeg)]) (rest := [.int r241]) hC hw (c_X7_bulk (M := M) h244) RC_X yv_X7_bulk q5_200 ⟨rfl, rfl⟩ ⟨Nat.le_of_ble_eq_true rfl, Nat.le_of_ble_eq_true rfl⟩ hz rfl rfl (Nat.le_of_ble_eq_true rfl) hl dL_law_878 (fun H locs hw => ?_)
        refine lv_icmp_eq (tgt := 1567) hC.1 hC.2.1 dL_law_881 (by decide) (fun b246 => ?_) (fun b246 => ?_)
        · have hF := ifP hF b246
          refine lv_iinc (v := (x3 + (6 : Int32))) (lv' := [(3, .int (x3 + (6 : Int32))), (0, .ref b), (1, .ref (ad G 0)), (2, .ref (ad G 86))]) hC.1 hC.2.1 dL_law_1567 hl (k := 3) rfl rfl (by decide) rfl (fun ls hl => ?_)
          refine lv_goto (tgt := 18) hC.1 hC.2.1 dL_law_1570 (by decide) ?_
          exact ih hF hw (lv_sub hl [1, 2, 3, 0] rfl)
        · have hF := ifN hF b246
          refine lv_iconst (v := (0 : Int32)) hC.1 hC.2.1 dL_law_884 (by decide) ?_
          cases hF
      have hF := ifN hF w237
      rcases Classical.em (((xs x3.toNatClampNeg) &&& (63 : Int32)) = (22 : Int32)) with w247 | w247
      · have hF := ifP hF w247
        refine r_swI (v := (22 : Int32)) (off := 853) (tgt := 886) hC.1 hC.2.1 w247 dL_law_33 (by decide) (by decide) rfl (by decide) ?_
        refine lv_aload_n hC.1 hC.2.1 dL_law_886 rfl (lv_at hl 1 rfl) ?_
        refine lv_aload_n hC.1 hC.2.1 dL_law_887 rfl (lv_at hl 0 rfl) ?_
        refine lv_iload_n hC.1 hC.2.1 dL_law_888 rfl (lv_at hl 3 rfl) ?_
        refine lv_iconst (v := (1 : Int32)) hC.1 hC.2.1 dL_law_889 (by decide) ?_
        refine lv_iadd hC.1 hC.2.1 dL_law_890 ?_
        obtain ⟨n248, hF⟩ := ifO hF
        refine va_sld hC.1 hC.2.1 hX hbl hbA hw.2.2.2.2 n248 dL_law_891 ?_
        obtain ⟨r250, h249, hF⟩ := ob1S hF
        refine k_Vi (As := [.int (xs (x3 + (1 : Int32)).toNatClampNeg)]) (rest := []) hC hw (c_X6_gone (M := M) h249) RC_S yv_X6_gone q3_68 ⟨rfl, rfl⟩ ⟨Nat.le_of_ble_eq_true rfl, Nat.le_of_ble_eq_true rfl⟩ hz rfl rfl (Nat.le_of_ble_eq_true rfl) hl dL_law_892 (fun H locs hw => ?_)
        refine lv_aload_n hC.1 hC.2.1 dL_law_895 rfl (lv_at hl 2 rfl) ?_
        refine lv_aload_n hC.1 hC.2.1 dL_law_896 rfl (lv_at hl 0 rfl) ?_
        refine lv_iload_n hC.1 hC.2.1 dL_law_897 rfl (lv_at hl 3 rfl) ?_
        refine lv_iconst (v := (1 : Int32)) hC.1 hC.2.1 dL_law_898 (by decide) ?_
        refine lv_iadd hC.1 hC.2.1 dL_law_899 ?_
        obtain ⟨n251, hF⟩ := ifO hF
        refine va_sld hC.1 hC.2.1 hX hbl hbA hw.2.2.2.2 n251 dL_law_900 ?_
        obtain ⟨r253, h252, hF⟩ := ob1S hF
        refine k_Vi (As := [.int (xs (x3 + (1 : Int32)).toNatClampNeg)]) (rest := [.int r250]) hC hw (c_X7_gone (M := M) h252) RC_X yv_X7_gone q5_208 ⟨rfl, rfl⟩ ⟨Nat.le_of_ble_eq_true rfl, Nat.le_of_ble_eq_true rfl⟩ hz rfl rfl (Nat.le_of_ble_eq_true rfl) hl dL_law_901 (fun H locs hw => ?_)
        refine lv_icmp_eq (tgt := 1567) hC.1 hC.2.1 dL_law_904 (by decide) (fun b254 => ?_) (fun b254 => ?_)
        · have hF := ifP hF b254
          refine lv_iinc (v := (x3 + (6 : Int32))) (lv' := [(3, .int (x3 + (6 : Int32))), (0, .ref b), (1, .ref (ad G 0)), (2, .ref (ad G 86))]) hC.1 hC.2.1 dL_law_1567 hl (k := 3) rfl rfl (by decide) rfl (fun ls hl => ?_)
          refine lv_goto (tgt := 18) hC.1 hC.2.1 dL_law_1570 (by decide) ?_
          exact ih hF hw (lv_sub hl [1, 2, 3, 0] rfl)
        · have hF := ifN hF b254
          refine lv_iconst (v := (0 : Int32)) hC.1 hC.2.1 dL_law_907 (by decide) ?_
          cases hF
      have hF := ifN hF w247
      rcases Classical.em (((xs x3.toNatClampNeg) &&& (63 : Int32)) = (23 : Int32)) with w255 | w255
      · have hF := ifP hF w255
        refine r_swI (v := (23 : Int32)) (off := 876) (tgt := 909) hC.1 hC.2.1 w255 dL_law_33 (by decide) (by decide) rfl (by decide) ?_
        refine lv_aload_n hC.1 hC.2.1 dL_law_909 rfl (lv_at hl 1 rfl) ?_
        refine lv_aload_n hC.1 hC.2.1 dL_law_910 rfl (lv_at hl 0 rfl) ?_
        refine lv_iload_n hC.1 hC.2.1 dL_law_911 rfl (lv_at hl 3 rfl) ?_
        refine lv_iconst (v := (1 : Int32)) hC.1 hC.2.1 dL_law_912 (by decide) ?_
        refine lv_iadd hC.1 hC.2.1 dL_law_913 ?_
        obtain ⟨n256, hF⟩ := ifO hF
        refine va_sld hC.1 hC.2.1 hX hbl hbA hw.2.2.2.2 n256 dL_law_914 ?_
        obtain ⟨r258, M259, h257, hF⟩ := ob2S hF
        refine k_Vi (As := [.int (xs (x3 + (1 : Int32)).toNatClampNeg)]) (rest := []) hC hw (c_X6_votes (M := M) h257) RC_S yv_X6_votes q3_72 ⟨rfl, rfl⟩ ⟨Nat.le_of_ble_eq_true rfl, Nat.le_of_ble_eq_true rfl⟩ hz rfl rfl (Nat.le_of_ble_eq_true rfl) hl dL_law_915 (fun H locs hw => ?_)
        refine lv_aload_n hC.1 hC.2.1 dL_law_918 rfl (lv_at hl 2 rfl) ?_
        refine lv_aload_n hC.1 hC.2.1 dL_law_919 rfl (lv_at hl 0 rfl) ?_
        refine lv_iload_n hC.1 hC.2.1 dL_law_920 rfl (lv_at hl 3 rfl) ?_
        refine lv_iconst (v := (1 : Int32)) hC.1 hC.2.1 dL_law_921 (by decide) ?_
        refine lv_iadd hC.1 hC.2.1 dL_law_922 ?_
        obtain ⟨n260, hF⟩ := ifO hF
        refine va_sld hC.1 hC.2.1 hX hbl hbA hw.2.2.2.2 n260 dL_law_923 ?_
        obtain ⟨r262, M263, h261, hF⟩ := ob2S hF
        refine k_Vi (As := [.int (xs (x3 + (1 : Int32)).toNatClampNeg)]) (rest := [.int r258]) hC hw (c_X7_votes (M := M259) h261) RC_X yv_X7_votes q5_212 ⟨rfl, rfl⟩ ⟨Nat.le_of_ble_eq_true rfl, Nat.le_of_ble_eq_true rfl⟩ hz rfl rfl (Nat.le_of_ble_eq_true rfl) hl dL_law_924 (fun H locs hw => ?_)
        refine lv_icmp_eq (tgt := 1567) hC.1 hC.2.1 dL_law_927 (by decide) (fun b264 => ?_) (fun b264 => ?_)
        · have hF := ifP hF b264
          refine lv_iinc (v := (x3 + (6 : Int32))) (lv' := [(3, .int (x3 + (6 : Int32))), (0, .ref b), (1, .ref (ad G 0)), (2, .ref (ad G 86))]) hC.1 hC.2.1 dL_law_1567 hl (k := 3) rfl rfl (by decide) rfl (fun ls hl => ?_)
          refine lv_goto (tgt := 18) hC.1 hC.2.1 dL_law_1570 (by decide) ?_
          exact ih hF hw (lv_sub hl [1, 2, 3, 0] rfl)
        · have hF := ifN hF b264
          refine lv_iconst (v := (0 : Int32)) hC.1 hC.2.1 dL_law_930 (by decide) ?_
          cases hF
      have hF := ifN hF w255
      rcases Classical.em (((xs x3.toNatClampNeg) &&& (63 : Int32)) = (24 : Int32)) with w265 | w265
      · have hF := ifP hF w265
        refine r_swI (v := (24 : Int32)) (off := 899) (tgt := 932) hC.1 hC.2.1 w265 dL_law_33 (by decide) (by decide) rfl (by decide) ?_
        refine lv_aload_n hC.1 hC.2.1 dL_law_932 rfl (lv_at hl 1 rfl) ?_
        refine lv_aload_n hC.1 hC.2.1 dL_law_933 rfl (lv_at hl 0 rfl) ?_
        refine lv_iload_n hC.1 hC.2.1 dL_law_934 rfl (lv_at hl 3 rfl) ?_
        refine lv_iconst (v := (1 : Int32)) hC.1 hC.2.1 dL_law_935 (by decide) ?_
        refine lv_iadd hC.1 hC.2.1 dL_law_936 ?_
        obtain ⟨n266, hF⟩ := ifO hF
        refine va_sld hC.1 hC.2.1 hX hbl hbA hw.2.2.2.2 n266 dL_law_937 ?_
        obtain ⟨r268, M269, h267, hF⟩ := ob2S hF
        refine k_Vi (As := [.int (xs (x3 + (1 : Int32)).toNatClampNeg)]) (rest := []) hC hw (c_X6_carried (M := M) h267) RC_S yv_X6_carried q3_85 ⟨rfl, rfl⟩ ⟨Nat.le_of_ble_eq_true rfl, Nat.le_of_ble_eq_true rfl⟩ hz rfl rfl (Nat.le_of_ble_eq_true rfl) hl dL_law_938 (fun H locs hw => ?_)
        refine lv_aload_n hC.1 hC.2.1 dL_law_941 rfl (lv_at hl 2 rfl) ?_
        refine lv_aload_n hC.1 hC.2.1 dL_law_942 rfl (lv_at hl 0 rfl) ?_
        refine lv_iload_n hC.1 hC.2.1 dL_law_943 rfl (lv_at hl 3 rfl) ?_
        refine lv_iconst (v := (1 : Int32)) hC.1 hC.2.1 dL_law_944 (by decide) ?_
        refine lv_iadd hC.1 hC.2.1 dL_law_945 ?_
        obtain ⟨n270, hF⟩ := ifO hF
        refine va_sld hC.1 hC.2.1 hX hbl hbA hw.2.2.2.2 n270 dL_law_946 ?_
        obtain ⟨r272, h271, hF⟩ := ob1S hF
        refine k_Vi (As := [.int (xs (x3 + (1 : Int32)).toNatClampNeg)]) (rest := [.int r268]) hC hw (c_X7_carried (M := M269) h271) RC_X yv_X7_carried q5_220 ⟨rfl, rfl⟩ ⟨Nat.le_of_ble_eq_true rfl, Nat.le_of_ble_eq_true rfl⟩ hz rfl rfl (Nat.le_of_ble_eq_true rfl) hl dL_law_947 (fun H locs hw => ?_)
        refine lv_icmp_eq (tgt := 1567) hC.1 hC.2.1 dL_law_950 (by decide) (fun b273 => ?_) (fun b273 => ?_)
        · have hF := ifP hF b273
          refine lv_iinc (v := (x3 + (6 : Int32))) (lv' := [(3, .int (x3 + (6 : Int32))), (0, .ref b), (1, .ref (ad G 0)), (2, .ref (ad G 86))]) hC.1 hC.2.1 dL_law_1567 hl (k := 3) rfl rfl (by decide) rfl (fun ls hl => ?_)
          refine lv_goto (tgt := 18) hC.1 hC.2.1 dL_law_1570 (by decide) ?_
          exact ih hF hw (lv_sub hl [1, 2, 3, 0] rfl)
        · have hF := ifN hF b273
          refine lv_iconst (v := (0 : Int32)) hC.1 hC.2.1 dL_law_953 (by decide) ?_
          cases hF
      have hF := ifN hF w265
      rcases Classical.em (((xs x3.toNatClampNeg) &&& (63 : Int32)) = (25 : Int32)) with w274 | w274
      · have hF := ifP hF w274
        refine r_swI (v := (25 : Int32)) (off := 922) (tgt := 955) hC.1 hC.2.1 w274 dL_law_33 (by decide) (by decide) rfl (by decide) ?_
        refine lv_aload_n hC.1 hC.2.1 dL_law_955 rfl (lv_at hl 1 rfl) ?_
        refine lv_aload_n hC.1 hC.2.1 dL_law_956 rfl (lv_at hl 0 rfl) ?_
        refine lv_iload_n hC.1 hC.2.1 dL_law_957 rfl (lv_at hl 3 rfl) ?_
        refine lv_iconst (v := (1 : Int32)) hC.1 hC.2.1 dL_law_958 (by decide) ?_
        refine lv_iadd hC.1 hC.2.1 dL_law_959 ?_
        obtain ⟨n275, hF⟩ := ifO hF
        refine va_sld hC.1 hC.2.1 hX hbl hbA hw.2.2.2.2 n275 dL_law_960 ?_
        obtain ⟨r277, M278, h276, hF⟩ := ob2S hF
        refine k_Vi (As := [.int (xs (x3 + (1 : Int32)).toNatClampNeg)]) (rest := []) hC hw (c_X6_days (M := M) h276) RC_S yv_X6_days q3_98 ⟨rfl, rfl⟩ ⟨Nat.le_of_ble_eq_true rfl, Nat.le_of_ble_eq_true rfl⟩ hz rfl rfl (Nat.le_of_ble_eq_true rfl) hl dL_law_961 (fun H locs hw => ?_)
        refine lv_aload_n hC.1 hC.2.1 dL_law_964 rfl (lv_at hl 2 rfl) ?_
        refine lv_aload_n hC.1 hC.2.1 dL_law_965 rfl (lv_at hl 0 rfl) ?_
        refine lv_iload_n hC.1 hC.2.1 dL_law_966 rfl (lv_at hl 3 rfl) ?_
        refine lv_iconst (v := (1 : Int32)) hC.1 hC.2.1 dL_law_967 (by decide) ?_
        refine lv_iadd hC.1 hC.2.1 dL_law_968 ?_
        obtain ⟨n279, hF⟩ := ifO hF
        refine va_sld hC.1 hC.2.1 hX hbl hbA hw.2.2.2.2 n279 dL_law_969 ?_
        obtain ⟨r281, h280, hF⟩ := ob1S hF
        refine k_Vi (As := [.int (xs (x3 + (1 : Int32)).toNatClampNeg)]) (rest := [.int r277]) hC hw (c_X7_days (M := M278) h280) RC_X yv_X7_days q5_228 ⟨rfl, rfl⟩ ⟨Nat.le_of_ble_eq_true rfl, Nat.le_of_ble_eq_true rfl⟩ hz rfl rfl (Nat.le_of_ble_eq_true rfl) hl dL_law_970 (fun H locs hw => ?_)
        refine lv_icmp_eq (tgt := 1567) hC.1 hC.2.1 dL_law_973 (by decide) (fun b282 => ?_) (fun b282 => ?_)
        · have hF := ifP hF b282
          refine lv_iinc (v := (x3 + (6 : Int32))) (lv' := [(3, .int (x3 + (6 : Int32))), (0, .ref b), (1, .ref (ad G 0)), (2, .ref (ad G 86))]) hC.1 hC.2.1 dL_law_1567 hl (k := 3) rfl rfl (by decide) rfl (fun ls hl => ?_)
          refine lv_goto (tgt := 18) hC.1 hC.2.1 dL_law_1570 (by decide) ?_
          exact ih hF hw (lv_sub hl [1, 2, 3, 0] rfl)
        · have hF := ifN hF b282
          refine lv_iconst (v := (0 : Int32)) hC.1 hC.2.1 dL_law_976 (by decide) ?_
          cases hF
      have hF := ifN hF w274
      rcases Classical.em (((xs x3.toNatClampNeg) &&& (63 : Int32)) = (26 : Int32)) with w283 | w283
      · have hF := ifP hF w283
        refine r_swI (v := (26 : Int32)) (off := 945) (tgt := 978) hC.1 hC.2.1 w283 dL_law_33 (by decide) (by decide) rfl (by decide) ?_
        refine lv_aload_n hC.1 hC.2.1 dL_law_978 rfl (lv_at hl 1 rfl) ?_
        obtain ⟨r285, M286, h284, hF⟩ := ob2S hF
        refine k_Vi (As := []) (rest := []) hC hw (c_X6_widow (M := M) h284) RC_S yv_X6_widow q3_102 ⟨rfl, rfl⟩ ⟨Nat.le_of_ble_eq_true rfl, Nat.le_of_ble_eq_true rfl⟩ hz rfl rfl (Nat.le_of_ble_eq_true rfl) hl dL_law_979 (fun H locs hw => ?_)
        refine lv_aload_n hC.1 hC.2.1 dL_law_982 rfl (lv_at hl 2 rfl) ?_
        obtain ⟨r288, M289, h287, hF⟩ := ob2S hF
        refine k_Vi (As := []) (rest := [.int r285]) hC hw (c_X7_widow (M := M286) h287) RC_X yv_X7_widow q5_232 ⟨rfl, rfl⟩ ⟨Nat.le_of_ble_eq_true rfl, Nat.le_of_ble_eq_true rfl⟩ hz rfl rfl (Nat.le_of_ble_eq_true rfl) hl dL_law_983 (fun H locs hw => ?_)
        refine lv_icmp_eq (tgt := 1567) hC.1 hC.2.1 dL_law_986 (by decide) (fun b290 => ?_) (fun b290 => ?_)
        · have hF := ifP hF b290
          refine lv_iinc (v := (x3 + (6 : Int32))) (lv' := [(3, .int (x3 + (6 : Int32))), (0, .ref b), (1, .ref (ad G 0)), (2, .ref (ad G 86))]) hC.1 hC.2.1 dL_law_1567 hl (k := 3) rfl rfl (by decide) rfl (fun ls hl => ?_)
          refine lv_goto (tgt := 18) hC.1 hC.2.1 dL_law_1570 (by decide) ?_
          exact ih hF hw (lv_sub hl [1, 2, 3, 0] rfl)
        · have hF := ifN hF b290
          refine lv_iconst (v := (0 : Int32)) hC.1 hC.2.1 dL_law_989 (by decide) ?_
          cases hF
      have hF := ifN hF w283
      rcases Classical.em (((xs x3.toNatClampNeg) &&& (63 : Int32)) = (27 : Int32)) with w291 | w291
      · have hF := ifP hF w291
        refine r_swI (v := (27 : Int32)) (off := 958) (tgt := 991) hC.1 hC.2.1 w291 dL_law_33 (by decide) (by decide) rfl (by decide) ?_
        refine lv_aload_n hC.1 hC.2.1 dL_law_991 rfl (lv_at hl 1 rfl) ?_
        refine lv_aload_n hC.1 hC.2.1 dL_law_992 rfl (lv_at hl 0 rfl) ?_
        refine lv_iload_n hC.1 hC.2.1 dL_law_993 rfl (lv_at hl 3 rfl) ?_
        refine lv_iconst (v := (1 : Int32)) hC.1 hC.2.1 dL_law_994 (by decide) ?_
        refine lv_iadd hC.1 hC.2.1 dL_law_995 ?_
        obtain ⟨n292, hF⟩ := ifO hF
        refine va_sld hC.1 hC.2.1 hX hbl hbA hw.2.2.2.2 n292 dL_law_996 ?_
        refine lv_aload_n hC.1 hC.2.1 dL_law_997 rfl (lv_at hl 0 rfl) ?_
        refine lv_iload_n hC.1 hC.2.1 dL_law_998 rfl (lv_at hl 3 rfl) ?_
        refine lv_iconst (v := (2 : Int32)) hC.1 hC.2.1 dL_law_999 (by decide) ?_
        refine lv_iadd hC.1 hC.2.1 dL_law_1000 ?_
        obtain ⟨n293, hF⟩ := ifO hF
        refine va_sld hC.1 hC.2.1 hX hbl hbA hw.2.2.2.2 n293 dL_law_1001 ?_
        obtain ⟨r295, h294, hF⟩ := ob1S hF
        refine k_Vi (As := [.int (xs (x3 + (1 : Int32)).toNatClampNeg), .int (xs (x3 + (2 : Int32)).toNatClampNeg)]) (rest := []) hC hw (c_X6_heir (M := M) h294) RC_S yv_X6_heir q3_106 ⟨rfl, rfl⟩ ⟨Nat.le_of_ble_eq_true rfl, Nat.le_of_ble_eq_true rfl⟩ hz rfl rfl (Nat.le_of_ble_eq_true rfl) hl dL_law_1002 (fun H locs hw => ?_)
        refine lv_aload_n hC.1 hC.2.1 dL_law_1005 rfl (lv_at hl 2 rfl) ?_
        refine lv_aload_n hC.1 hC.2.1 dL_law_1006 rfl (lv_at hl 0 rfl) ?_
        refine lv_iload_n hC.1 hC.2.1 dL_law_1007 rfl (lv_at hl 3 rfl) ?_
        refine lv_iconst (v := (1 : Int32)) hC.1 hC.2.1 dL_law_1008 (by decide) ?_
        refine lv_iadd hC.1 hC.2.1 dL_law_1009 ?_
        obtain ⟨n296, hF⟩ := ifO hF
        refine va_sld hC.1 hC.2.1 hX hbl hbA hw.2.2.2.2 n296 dL_law_1010 ?_
        refine lv_aload_n hC.1 hC.2.1 dL_law_1011 rfl (lv_at hl 0 rfl) ?_
        refine lv_iload_n hC.1 hC.2.1 dL_law_1012 rfl (lv_at hl 3 rfl) ?_
        refine lv_iconst (v := (2 : Int32)) hC.1 hC.2.1 dL_law_1013 (by decide) ?_
        refine lv_iadd hC.1 hC.2.1 dL_law_1014 ?_
        obtain ⟨n297, hF⟩ := ifO hF
        refine va_sld hC.1 hC.2.1 hX hbl hbA hw.2.2.2.2 n297 dL_law_1015 ?_
        obtain ⟨r299, h298, hF⟩ := ob1S hF
        refine k_Vi (As := [.int (xs (x3 + (1 : Int32)).toNatClampNeg), .int (xs (x3 + (2 : Int32)).toNatClampNeg)]) (rest := [.int r295]) hC hw (c_X7_heir (M := M) h298) RC_X yv_X7_heir q5_237 ⟨rfl, rfl⟩ ⟨Nat.le_of_ble_eq_true rfl, Nat.le_of_ble_eq_true rfl⟩ hz rfl rfl (Nat.le_of_ble_eq_true rfl) hl dL_law_1016 (fun H locs hw => ?_)
        refine lv_icmp_eq (tgt := 1567) hC.1 hC.2.1 dL_law_1019 (by decide) (fun b300 => ?_) (fun b300 => ?_)
        · have hF := ifP hF b300
          refine lv_iinc (v := (x3 + (6 : Int32))) (lv' := [(3, .int (x3 + (6 : Int32))), (0, .ref b), (1, .ref (ad G 0)), (2, .ref (ad G 86))]) hC.1 hC.2.1 dL_law_1567 hl (k := 3) rfl rfl (by decide) rfl (fun ls hl => ?_)
          refine lv_goto (tgt := 18) hC.1 hC.2.1 dL_law_1570 (by decide) ?_
          exact ih hF hw (lv_sub hl [1, 2, 3, 0] rfl)
        · have hF := ifN hF b300
          refine lv_iconst (v := (0 : Int32)) hC.1 hC.2.1 dL_law_1022 (by decide) ?_
          cases hF
      have hF := ifN hF w291
      rcases Classical.em (((xs x3.toNatClampNeg) &&& (63 : Int32)) = (28 : Int32)) with w301 | w301
      · have hF := ifP hF w301
        refine r_swI (v := (28 : Int32)) (off := 991) (tgt := 1024) hC.1 hC.2.1 w301 dL_law_33 (by decide) (by decide) rfl (by decide) ?_
        refine lv_aload_n hC.1 hC.2.1 dL_law_1024 rfl (lv_at hl 1 rfl) ?_
        refine lv_aload_n hC.1 hC.2.1 dL_law_1025 rfl (lv_at hl 0 rfl) ?_
        refine lv_iload_n hC.1 hC.2.1 dL_law_1026 rfl (lv_at hl 3 rfl) ?_
        refine lv_iconst (v := (1 : Int32)) hC.1 hC.2.1 dL_law_1027 (by decide) ?_
        refine lv_iadd hC.1 hC.2.1 dL_law_1028 ?_
        obtain ⟨n302, hF⟩ := ifO hF
        refine va_sld hC.1 hC.2.1 hX hbl hbA hw.2.2.2.2 n302 dL_law_1029 ?_
        refine lv_aload_n hC.1 hC.2.1 dL_law_1030 rfl (lv_at hl 0 rfl) ?_
        refine lv_iload_n hC.1 hC.2.1 dL_law_1031 rfl (lv_at hl 3 rfl) ?_
        refine lv_iconst (v := (2 : Int32)) hC.1 hC.2.1 dL_law_1032 (by decide) ?_
        refine lv_iadd hC.1 hC.2.1 dL_law_1033 ?_
        obtain ⟨n303, hF⟩ := ifO hF
        refine va_sld hC.1 hC.2.1 hX hbl hbA hw.2.2.2.2 n303 dL_law_1034 ?_
        refine lv_aload_n hC.1 hC.2.1 dL_law_1035 rfl (lv_at hl 0 rfl) ?_
        refine lv_iload_n hC.1 hC.2.1 dL_law_1036 rfl (lv_at hl 3 rfl) ?_
        refine lv_iconst (v := (3 : Int32)) hC.1 hC.2.1 dL_law_1037 (by decide) ?_
        refine lv_iadd hC.1 hC.2.1 dL_law_1038 ?_
        obtain ⟨n304, hF⟩ := ifO hF
        refine va_sld hC.1 hC.2.1 hX hbl hbA hw.2.2.2.2 n304 dL_law_1039 ?_
        obtain ⟨r306, M307, h305, hF⟩ := ob2S hF
        refine k_Vi (As := [.int (xs (x3 + (1 : Int32)).toNatClampNeg), .int (xs (x3 + (2 : Int32)).toNatClampNeg), .int (xs (x3 + (3 : Int32)).toNatClampNeg)]) (rest := []) hC hw (c_X6_guard (M := M) h305) RC_S yv_X6_guard q3_110 ⟨rfl, rfl⟩ ⟨Nat.le_of_ble_eq_true rfl, Nat.le_of_ble_eq_true rfl⟩ hz rfl rfl (Nat.le_of_ble_eq_true rfl) hl dL_law_1040 (fun H locs hw => ?_)
        refine lv_aload_n hC.1 hC.2.1 dL_law_1043 rfl (lv_at hl 2 rfl) ?_
        refine lv_aload_n hC.1 hC.2.1 dL_law_1044 rfl (lv_at hl 0 rfl) ?_
        refine lv_iload_n hC.1 hC.2.1 dL_law_1045 rfl (lv_at hl 3 rfl) ?_
        refine lv_iconst (v := (1 : Int32)) hC.1 hC.2.1 dL_law_1046 (by decide) ?_
        refine lv_iadd hC.1 hC.2.1 dL_law_1047 ?_
        obtain ⟨n308, hF⟩ := ifO hF
        refine va_sld hC.1 hC.2.1 hX hbl hbA hw.2.2.2.2 n308 dL_law_1048 ?_
        refine lv_aload_n hC.1 hC.2.1 dL_law_1049 rfl (lv_at hl 0 rfl) ?_
        refine lv_iload_n hC.1 hC.2.1 dL_law_1050 rfl (lv_at hl 3 rfl) ?_
        refine lv_iconst (v := (2 : Int32)) hC.1 hC.2.1 dL_law_1051 (by decide) ?_
        refine lv_iadd hC.1 hC.2.1 dL_law_1052 ?_
        obtain ⟨n309, hF⟩ := ifO hF
        refine va_sld hC.1 hC.2.1 hX hbl hbA hw.2.2.2.2 n309 dL_law_1053 ?_
        refine lv_aload_n hC.1 hC.2.1 dL_law_1054 rfl (lv_at hl 0 rfl) ?_
        refine lv_iload_n hC.1 hC.2.1 dL_law_1055 rfl (lv_at hl 3 rfl) ?_
        refine lv_iconst (v := (3 : Int32)) hC.1 hC.2.1 dL_law_1056 (by decide) ?_
        refine lv_iadd hC.1 hC.2.1 dL_law_1057 ?_
        obtain ⟨n310, hF⟩ := ifO hF
        refine va_sld hC.1 hC.2.1 hX hbl hbA hw.2.2.2.2 n310 dL_law_1058 ?_
        obtain ⟨r312, M313, h311, hF⟩ := ob2S hF
        refine k_Vi (As := [.int (xs (x3 + (1 : Int32)).toNatClampNeg), .int (xs (x3 + (2 : Int32)).toNatClampNeg), .int (xs (x3 + (3 : Int32)).toNatClampNeg)]) (rest := [.int r306]) hC hw (c_X7_guard (M := M307) h311) RC_X yv_X7_guard q6_1 ⟨rfl, rfl⟩ ⟨Nat.le_of_ble_eq_true rfl, Nat.le_of_ble_eq_true rfl⟩ hz rfl rfl (Nat.le_of_ble_eq_true rfl) hl dL_law_1059 (fun H locs hw => ?_)
        refine lv_icmp_eq (tgt := 1567) hC.1 hC.2.1 dL_law_1062 (by decide) (fun b314 => ?_) (fun b314 => ?_)
        · have hF := ifP hF b314
          refine lv_iinc (v := (x3 + (6 : Int32))) (lv' := [(3, .int (x3 + (6 : Int32))), (0, .ref b), (1, .ref (ad G 0)), (2, .ref (ad G 86))]) hC.1 hC.2.1 dL_law_1567 hl (k := 3) rfl rfl (by decide) rfl (fun ls hl => ?_)
          refine lv_goto (tgt := 18) hC.1 hC.2.1 dL_law_1570 (by decide) ?_
          exact ih hF hw (lv_sub hl [1, 2, 3, 0] rfl)
        · have hF := ifN hF b314
          refine lv_iconst (v := (0 : Int32)) hC.1 hC.2.1 dL_law_1065 (by decide) ?_
          cases hF
      have hF := ifN hF w301
      rcases Classical.em (((xs x3.toNatClampNeg) &&& (63 : Int32)) = (29 : Int32)) with w315 | w315
      · have hF := ifP hF w315
        refine r_swI (v := (29 : Int32)) (off := 1034) (tgt := 1067) hC.1 hC.2.1 w315 dL_law_33 (by decide) (by decide) rfl (by decide) ?_
        refine lv_aload_n hC.1 hC.2.1 dL_law_1067 rfl (lv_at hl 1 rfl) ?_
        refine lv_aload_n hC.1 hC.2.1 dL_law_1068 rfl (lv_at hl 0 rfl) ?_
        refine lv_iload_n hC.1 hC.2.1 dL_law_1069 rfl (lv_at hl 3 rfl) ?_
        refine lv_iconst (v := (1 : Int32)) hC.1 hC.2.1 dL_law_1070 (by decide) ?_
        refine lv_iadd hC.1 hC.2.1 dL_law_1071 ?_
        obtain ⟨n316, hF⟩ := ifO hF
        refine va_sld hC.1 hC.2.1 hX hbl hbA hw.2.2.2.2 n316 dL_law_1072 ?_
        refine lv_aload_n hC.1 hC.2.1 dL_law_1073 rfl (lv_at hl 0 rfl) ?_
        refine lv_iload_n hC.1 hC.2.1 dL_law_1074 rfl (lv_at hl 3 rfl) ?_
        refine lv_iconst (v := (2 : Int32)) hC.1 hC.2.1 dL_law_1075 (by decide) ?_
        refine lv_iadd hC.1 hC.2.1 dL_law_1076 ?_
        obtain ⟨n317, hF⟩ := ifO hF
        refine va_sld hC.1 hC.2.1 hX hbl hbA hw.2.2.2.2 n317 dL_law_1077 ?_
        refine lv_aload_n hC.1 hC.2.1 dL_law_1078 rfl (lv_at hl 0 rfl) ?_
        refine lv_iload_n hC.1 hC.2.1 dL_law_1079 rfl (lv_at hl 3 rfl) ?_
        refine lv_iconst (v := (3 : Int32)) hC.1 hC.2.1 dL_law_1080 (by decide) ?_
        refine lv_iadd hC.1 hC.2.1 dL_law_1081 ?_
        obtain ⟨n318, hF⟩ := ifO hF
        refine va_sld hC.1 hC.2.1 hX hbl hbA hw.2.2.2.2 n318 dL_law_1082 ?_
        obtain ⟨r320, M321, h319, hF⟩ := ob2S hF
        refine k_Vi (As := [.int (xs (x3 + (1 : Int32)).toNatClampNeg), .int (xs (x3 + (2 : Int32)).toNatClampNeg), .int (xs (x3 + (3 : Int32)).toNatClampNeg)]) (rest := []) hC hw (c_X6_bribe (M := M) h319) RC_S yv_X6_bribe q3_128 ⟨rfl, rfl⟩ ⟨Nat.le_of_ble_eq_true rfl, Nat.le_of_ble_eq_true rfl⟩ hz rfl rfl (Nat.le_of_ble_eq_true rfl) hl dL_law_1083 (fun H locs hw => ?_)
        refine lv_aload_n hC.1 hC.2.1 dL_law_1086 rfl (lv_at hl 2 rfl) ?_
        refine lv_aload_n hC.1 hC.2.1 dL_law_1087 rfl (lv_at hl 0 rfl) ?_
        refine lv_iload_n hC.1 hC.2.1 dL_law_1088 rfl (lv_at hl 3 rfl) ?_
        refine lv_iconst (v := (1 : Int32)) hC.1 hC.2.1 dL_law_1089 (by decide) ?_
        refine lv_iadd hC.1 hC.2.1 dL_law_1090 ?_
        obtain ⟨n322, hF⟩ := ifO hF
        refine va_sld hC.1 hC.2.1 hX hbl hbA hw.2.2.2.2 n322 dL_law_1091 ?_
        refine lv_aload_n hC.1 hC.2.1 dL_law_1092 rfl (lv_at hl 0 rfl) ?_
        refine lv_iload_n hC.1 hC.2.1 dL_law_1093 rfl (lv_at hl 3 rfl) ?_
        refine lv_iconst (v := (2 : Int32)) hC.1 hC.2.1 dL_law_1094 (by decide) ?_
        refine lv_iadd hC.1 hC.2.1 dL_law_1095 ?_
        obtain ⟨n323, hF⟩ := ifO hF
        refine va_sld hC.1 hC.2.1 hX hbl hbA hw.2.2.2.2 n323 dL_law_1096 ?_
        refine lv_aload_n hC.1 hC.2.1 dL_law_1097 rfl (lv_at hl 0 rfl) ?_
        refine lv_iload_n hC.1 hC.2.1 dL_law_1098 rfl (lv_at hl 3 rfl) ?_
        refine lv_iconst (v := (3 : Int32)) hC.1 hC.2.1 dL_law_1099 (by decide) ?_
        refine lv_iadd hC.1 hC.2.1 dL_law_1100 ?_
        obtain ⟨n324, hF⟩ := ifO hF
        refine va_sld hC.1 hC.2.1 hX hbl hbA hw.2.2.2.2 n324 dL_law_1101 ?_
        obtain ⟨r326, M327, h325, hF⟩ := ob2S hF
        refine k_Vi (As := [.int (xs (x3 + (1 : Int32)).toNatClampNeg), .int (xs (x3 + (2 : Int32)).toNatClampNeg), .int (xs (x3 + (3 : Int32)).toNatClampNeg)]) (rest := [.int r320]) hC hw (c_X7_bribe (M := M321) h325) RC_X yv_X7_bribe q6_13 ⟨rfl, rfl⟩ ⟨Nat.le_of_ble_eq_true rfl, Nat.le_of_ble_eq_true rfl⟩ hz rfl rfl (Nat.le_of_ble_eq_true rfl) hl dL_law_1102 (fun H locs hw => ?_)
        refine lv_icmp_eq (tgt := 1567) hC.1 hC.2.1 dL_law_1105 (by decide) (fun b328 => ?_) (fun b328 => ?_)
        · have hF := ifP hF b328
          refine lv_iinc (v := (x3 + (6 : Int32))) (lv' := [(3, .int (x3 + (6 : Int32))), (0, .ref b), (1, .ref (ad G 0)), (2, .ref (ad G 86))]) hC.1 hC.2.1 dL_law_1567 hl (k := 3) rfl rfl (by decide) rfl (fun ls hl => ?_)
          refine lv_goto (tgt := 18) hC.1 hC.2.1 dL_law_1570 (by decide) ?_
          exact ih hF hw (lv_sub hl [1, 2, 3, 0] rfl)
        · have hF := ifN hF b328
          refine lv_iconst (v := (0 : Int32)) hC.1 hC.2.1 dL_law_1108 (by decide) ?_
          cases hF
      have hF := ifN hF w315
      rcases Classical.em (((xs x3.toNatClampNeg) &&& (63 : Int32)) = (30 : Int32)) with w329 | w329
      · have hF := ifP hF w329
        refine r_swI (v := (30 : Int32)) (off := 1077) (tgt := 1110) hC.1 hC.2.1 w329 dL_law_33 (by decide) (by decide) rfl (by decide) ?_
        refine lv_aload_n hC.1 hC.2.1 dL_law_1110 rfl (lv_at hl 1 rfl) ?_
        refine lv_aload_n hC.1 hC.2.1 dL_law_1111 rfl (lv_at hl 0 rfl) ?_
        refine lv_iload_n hC.1 hC.2.1 dL_law_1112 rfl (lv_at hl 3 rfl) ?_
        refine lv_iconst (v := (1 : Int32)) hC.1 hC.2.1 dL_law_1113 (by decide) ?_
        refine lv_iadd hC.1 hC.2.1 dL_law_1114 ?_
        obtain ⟨n330, hF⟩ := ifO hF
        refine va_sld hC.1 hC.2.1 hX hbl hbA hw.2.2.2.2 n330 dL_law_1115 ?_
        refine lv_aload_n hC.1 hC.2.1 dL_law_1116 rfl (lv_at hl 0 rfl) ?_
        refine lv_iload_n hC.1 hC.2.1 dL_law_1117 rfl (lv_at hl 3 rfl) ?_
        refine lv_iconst (v := (2 : Int32)) hC.1 hC.2.1 dL_law_1118 (by decide) ?_
        refine lv_iadd hC.1 hC.2.1 dL_law_1119 ?_
        obtain ⟨n331, hF⟩ := ifO hF
        refine va_sld hC.1 hC.2.1 hX hbl hbA hw.2.2.2.2 n331 dL_law_1120 ?_
        obtain ⟨r333, h332, hF⟩ := ob1S hF
        refine k_Vi (As := [.int (xs (x3 + (1 : Int32)).toNatClampNeg), .int (xs (x3 + (2 : Int32)).toNatClampNeg)]) (rest := []) hC hw (c_X6_carry (M := M) h332) RC_S yv_X6_carry q3_147 ⟨rfl, rfl⟩ ⟨Nat.le_of_ble_eq_true rfl, Nat.le_of_ble_eq_true rfl⟩ hz rfl rfl (Nat.le_of_ble_eq_true rfl) hl dL_law_1121 (fun H locs hw => ?_)
        refine lv_aload_n hC.1 hC.2.1 dL_law_1124 rfl (lv_at hl 2 rfl) ?_
        refine lv_aload_n hC.1 hC.2.1 dL_law_1125 rfl (lv_at hl 0 rfl) ?_
        refine lv_iload_n hC.1 hC.2.1 dL_law_1126 rfl (lv_at hl 3 rfl) ?_
        refine lv_iconst (v := (1 : Int32)) hC.1 hC.2.1 dL_law_1127 (by decide) ?_
        refine lv_iadd hC.1 hC.2.1 dL_law_1128 ?_
        obtain ⟨n334, hF⟩ := ifO hF
        refine va_sld hC.1 hC.2.1 hX hbl hbA hw.2.2.2.2 n334 dL_law_1129 ?_
        refine lv_aload_n hC.1 hC.2.1 dL_law_1130 rfl (lv_at hl 0 rfl) ?_
        refine lv_iload_n hC.1 hC.2.1 dL_law_1131 rfl (lv_at hl 3 rfl) ?_
        refine lv_iconst (v := (2 : Int32)) hC.1 hC.2.1 dL_law_1132 (by decide) ?_
        refine lv_iadd hC.1 hC.2.1 dL_law_1133 ?_
        obtain ⟨n335, hF⟩ := ifO hF
        refine va_sld hC.1 hC.2.1 hX hbl hbA hw.2.2.2.2 n335 dL_law_1134 ?_
        obtain ⟨r337, h336, hF⟩ := ob1S hF
        refine k_Vi (As := [.int (xs (x3 + (1 : Int32)).toNatClampNeg), .int (xs (x3 + (2 : Int32)).toNatClampNeg)]) (rest := [.int r333]) hC hw (c_X7_carry (M := M) h336) RC_X yv_X7_carry q6_28 ⟨rfl, rfl⟩ ⟨Nat.le_of_ble_eq_true rfl, Nat.le_of_ble_eq_true rfl⟩ hz rfl rfl (Nat.le_of_ble_eq_true rfl) hl dL_law_1135 (fun H locs hw => ?_)
        refine lv_icmp_eq (tgt := 1567) hC.1 hC.2.1 dL_law_1138 (by decide) (fun b338 => ?_) (fun b338 => ?_)
        · have hF := ifP hF b338
          refine lv_iinc (v := (x3 + (6 : Int32))) (lv' := [(3, .int (x3 + (6 : Int32))), (0, .ref b), (1, .ref (ad G 0)), (2, .ref (ad G 86))]) hC.1 hC.2.1 dL_law_1567 hl (k := 3) rfl rfl (by decide) rfl (fun ls hl => ?_)
          refine lv_goto (tgt := 18) hC.1 hC.2.1 dL_law_1570 (by decide) ?_
          exact ih hF hw (lv_sub hl [1, 2, 3, 0] rfl)
        · have hF := ifN hF b338
          refine lv_iconst (v := (0 : Int32)) hC.1 hC.2.1 dL_law_1141 (by decide) ?_
          cases hF
      have hF := ifN hF w329
      rcases Classical.em (((xs x3.toNatClampNeg) &&& (63 : Int32)) = (31 : Int32)) with w339 | w339
      · have hF := ifP hF w339
        refine r_swI (v := (31 : Int32)) (off := 1110) (tgt := 1143) hC.1 hC.2.1 w339 dL_law_33 (by decide) (by decide) rfl (by decide) ?_
        refine lv_aload_n hC.1 hC.2.1 dL_law_1143 rfl (lv_at hl 1 rfl) ?_
        refine lv_aload_n hC.1 hC.2.1 dL_law_1144 rfl (lv_at hl 0 rfl) ?_
        refine lv_iload_n hC.1 hC.2.1 dL_law_1145 rfl (lv_at hl 3 rfl) ?_
        refine lv_iconst (v := (1 : Int32)) hC.1 hC.2.1 dL_law_1146 (by decide) ?_
        refine lv_iadd hC.1 hC.2.1 dL_law_1147 ?_
        obtain ⟨n340, hF⟩ := ifO hF
        refine va_sld hC.1 hC.2.1 hX hbl hbA hw.2.2.2.2 n340 dL_law_1148 ?_
        obtain ⟨r342, M343, h341, hF⟩ := ob2S hF
        refine k_Vi (As := [.int (xs (x3 + (1 : Int32)).toNatClampNeg)]) (rest := []) hC hw (c_X6_census (M := M) h341) RC_S yv_X6_census q3_153 ⟨rfl, rfl⟩ ⟨Nat.le_of_ble_eq_true rfl, Nat.le_of_ble_eq_true rfl⟩ hz rfl rfl (Nat.le_of_ble_eq_true rfl) hl dL_law_1149 (fun H locs hw => ?_)
        refine lv_aload_n hC.1 hC.2.1 dL_law_1152 rfl (lv_at hl 2 rfl) ?_
        refine lv_aload_n hC.1 hC.2.1 dL_law_1153 rfl (lv_at hl 0 rfl) ?_
        refine lv_iload_n hC.1 hC.2.1 dL_law_1154 rfl (lv_at hl 3 rfl) ?_
        refine lv_iconst (v := (1 : Int32)) hC.1 hC.2.1 dL_law_1155 (by decide) ?_
        refine lv_iadd hC.1 hC.2.1 dL_law_1156 ?_
        obtain ⟨n344, hF⟩ := ifO hF
        refine va_sld hC.1 hC.2.1 hX hbl hbA hw.2.2.2.2 n344 dL_law_1157 ?_
        obtain ⟨r346, M347, h345, hF⟩ := ob2S hF
        refine k_Vi (As := [.int (xs (x3 + (1 : Int32)).toNatClampNeg)]) (rest := [.int r342]) hC hw (c_X7_census (M := M343) h345) RC_X yv_X7_census q6_32 ⟨rfl, rfl⟩ ⟨Nat.le_of_ble_eq_true rfl, Nat.le_of_ble_eq_true rfl⟩ hz rfl rfl (Nat.le_of_ble_eq_true rfl) hl dL_law_1158 (fun H locs hw => ?_)
        refine lv_icmp_eq (tgt := 1567) hC.1 hC.2.1 dL_law_1161 (by decide) (fun b348 => ?_) (fun b348 => ?_)
        · have hF := ifP hF b348
          refine lv_iinc (v := (x3 + (6 : Int32))) (lv' := [(3, .int (x3 + (6 : Int32))), (0, .ref b), (1, .ref (ad G 0)), (2, .ref (ad G 86))]) hC.1 hC.2.1 dL_law_1567 hl (k := 3) rfl rfl (by decide) rfl (fun ls hl => ?_)
          refine lv_goto (tgt := 18) hC.1 hC.2.1 dL_law_1570 (by decide) ?_
          exact ih hF hw (lv_sub hl [1, 2, 3, 0] rfl)
        · have hF := ifN hF b348
          refine lv_iconst (v := (0 : Int32)) hC.1 hC.2.1 dL_law_1164 (by decide) ?_
          cases hF
      have hF := ifN hF w339
      rcases Classical.em (((xs x3.toNatClampNeg) &&& (63 : Int32)) = (32 : Int32)) with w349 | w349
      · have hF := ifP hF w349
        refine r_swI (v := (32 : Int32)) (off := 1133) (tgt := 1166) hC.1 hC.2.1 w349 dL_law_33 (by decide) (by decide) rfl (by decide) ?_
        refine lv_aload_n hC.1 hC.2.1 dL_law_1166 rfl (lv_at hl 1 rfl) ?_
        refine lv_aload_n hC.1 hC.2.1 dL_law_1167 rfl (lv_at hl 0 rfl) ?_
        refine lv_iload_n hC.1 hC.2.1 dL_law_1168 rfl (lv_at hl 3 rfl) ?_
        refine lv_iconst (v := (1 : Int32)) hC.1 hC.2.1 dL_law_1169 (by decide) ?_
        refine lv_iadd hC.1 hC.2.1 dL_law_1170 ?_
        obtain ⟨n350, hF⟩ := ifO hF
        refine va_sld hC.1 hC.2.1 hX hbl hbA hw.2.2.2.2 n350 dL_law_1171 ?_
        obtain ⟨r352, M353, h351, hF⟩ := ob2S hF
        refine k_Vi (As := [.int (xs (x3 + (1 : Int32)).toNatClampNeg)]) (rest := []) hC hw (c_X6_counted (M := M) h351) RC_S yv_X6_counted q3_179 ⟨rfl, rfl⟩ ⟨Nat.le_of_ble_eq_true rfl, Nat.le_of_ble_eq_true rfl⟩ hz rfl rfl (Nat.le_of_ble_eq_true rfl) hl dL_law_1172 (fun H locs hw => ?_)
        refine lv_aload_n hC.1 hC.2.1 dL_law_1175 rfl (lv_at hl 2 rfl) ?_
        refine lv_aload_n hC.1 hC.2.1 dL_law_1176 rfl (lv_at hl 0 rfl) ?_
        refine lv_iload_n hC.1 hC.2.1 dL_law_1177 rfl (lv_at hl 3 rfl) ?_
        refine lv_iconst (v := (1 : Int32)) hC.1 hC.2.1 dL_law_1178 (by decide) ?_
        refine lv_iadd hC.1 hC.2.1 dL_law_1179 ?_
        obtain ⟨n354, hF⟩ := ifO hF
        refine va_sld hC.1 hC.2.1 hX hbl hbA hw.2.2.2.2 n354 dL_law_1180 ?_
        obtain ⟨r356, M357, h355, hF⟩ := ob2S hF
        refine k_Vi (As := [.int (xs (x3 + (1 : Int32)).toNatClampNeg)]) (rest := [.int r352]) hC hw (c_X7_counted (M := M353) h355) RC_X yv_X7_counted q6_48 ⟨rfl, rfl⟩ ⟨Nat.le_of_ble_eq_true rfl, Nat.le_of_ble_eq_true rfl⟩ hz rfl rfl (Nat.le_of_ble_eq_true rfl) hl dL_law_1181 (fun H locs hw => ?_)
        refine lv_icmp_eq (tgt := 1567) hC.1 hC.2.1 dL_law_1184 (by decide) (fun b358 => ?_) (fun b358 => ?_)
        · have hF := ifP hF b358
          refine lv_iinc (v := (x3 + (6 : Int32))) (lv' := [(3, .int (x3 + (6 : Int32))), (0, .ref b), (1, .ref (ad G 0)), (2, .ref (ad G 86))]) hC.1 hC.2.1 dL_law_1567 hl (k := 3) rfl rfl (by decide) rfl (fun ls hl => ?_)
          refine lv_goto (tgt := 18) hC.1 hC.2.1 dL_law_1570 (by decide) ?_
          exact ih hF hw (lv_sub hl [1, 2, 3, 0] rfl)
        · have hF := ifN hF b358
          refine lv_iconst (v := (0 : Int32)) hC.1 hC.2.1 dL_law_1187 (by decide) ?_
          cases hF
      have hF := ifN hF w349
      rcases Classical.em (((xs x3.toNatClampNeg) &&& (63 : Int32)) = (33 : Int32)) with w359 | w359
      · have hF := ifP hF w359
        refine r_swI (v := (33 : Int32)) (off := 1156) (tgt := 1189) hC.1 hC.2.1 w359 dL_law_33 (by decide) (by decide) rfl (by decide) ?_
        refine lv_aload_n hC.1 hC.2.1 dL_law_1189 rfl (lv_at hl 1 rfl) ?_
        refine lv_aload_n hC.1 hC.2.1 dL_law_1190 rfl (lv_at hl 0 rfl) ?_
        refine lv_iload_n hC.1 hC.2.1 dL_law_1191 rfl (lv_at hl 3 rfl) ?_
        refine lv_iconst (v := (1 : Int32)) hC.1 hC.2.1 dL_law_1192 (by decide) ?_
        refine lv_iadd hC.1 hC.2.1 dL_law_1193 ?_
        obtain ⟨n360, hF⟩ := ifO hF
        refine va_sld hC.1 hC.2.1 hX hbl hbA hw.2.2.2.2 n360 dL_law_1194 ?_
        refine lv_aload_n hC.1 hC.2.1 dL_law_1195 rfl (lv_at hl 0 rfl) ?_
        refine lv_iload_n hC.1 hC.2.1 dL_law_1196 rfl (lv_at hl 3 rfl) ?_
        refine lv_iconst (v := (2 : Int32)) hC.1 hC.2.1 dL_law_1197 (by decide) ?_
        refine lv_iadd hC.1 hC.2.1 dL_law_1198 ?_
        obtain ⟨n361, hF⟩ := ifO hF
        refine va_sld hC.1 hC.2.1 hX hbl hbA hw.2.2.2.2 n361 dL_law_1199 ?_
        obtain ⟨r363, M364, h362, hF⟩ := ob2S hF
        refine k_Vi (As := [.int (xs (x3 + (1 : Int32)).toNatClampNeg), .int (xs (x3 + (2 : Int32)).toNatClampNeg)]) (rest := []) hC hw (c_X6_fits (M := M) h362) RC_S yv_X6_fits q3_183 ⟨rfl, rfl⟩ ⟨Nat.le_of_ble_eq_true rfl, Nat.le_of_ble_eq_true rfl⟩ hz rfl rfl (Nat.le_of_ble_eq_true rfl) hl dL_law_1200 (fun H locs hw => ?_)
        refine lv_aload_n hC.1 hC.2.1 dL_law_1203 rfl (lv_at hl 2 rfl) ?_
        refine lv_aload_n hC.1 hC.2.1 dL_law_1204 rfl (lv_at hl 0 rfl) ?_
        refine lv_iload_n hC.1 hC.2.1 dL_law_1205 rfl (lv_at hl 3 rfl) ?_
        refine lv_iconst (v := (1 : Int32)) hC.1 hC.2.1 dL_law_1206 (by decide) ?_
        refine lv_iadd hC.1 hC.2.1 dL_law_1207 ?_
        obtain ⟨n365, hF⟩ := ifO hF
        refine va_sld hC.1 hC.2.1 hX hbl hbA hw.2.2.2.2 n365 dL_law_1208 ?_
        refine lv_aload_n hC.1 hC.2.1 dL_law_1209 rfl (lv_at hl 0 rfl) ?_
        refine lv_iload_n hC.1 hC.2.1 dL_law_1210 rfl (lv_at hl 3 rfl) ?_
        refine lv_iconst (v := (2 : Int32)) hC.1 hC.2.1 dL_law_1211 (by decide) ?_
        refine lv_iadd hC.1 hC.2.1 dL_law_1212 ?_
        obtain ⟨n366, hF⟩ := ifO hF
        refine va_sld hC.1 hC.2.1 hX hbl hbA hw.2.2.2.2 n366 dL_law_1213 ?_
        obtain ⟨r368, M369, h367, hF⟩ := ob2S hF
        refine k_Vi (As := [.int (xs (x3 + (1 : Int32)).toNatClampNeg), .int (xs (x3 + (2 : Int32)).toNatClampNeg)]) (rest := [.int r363]) hC hw (c_X7_fits (M := M364) h367) RC_X yv_X7_fits q6_52 ⟨rfl, rfl⟩ ⟨Nat.le_of_ble_eq_true rfl, Nat.le_of_ble_eq_true rfl⟩ hz rfl rfl (Nat.le_of_ble_eq_true rfl) hl dL_law_1214 (fun H locs hw => ?_)
        refine lv_icmp_eq (tgt := 1567) hC.1 hC.2.1 dL_law_1217 (by decide) (fun b370 => ?_) (fun b370 => ?_)
        · have hF := ifP hF b370
          refine lv_iinc (v := (x3 + (6 : Int32))) (lv' := [(3, .int (x3 + (6 : Int32))), (0, .ref b), (1, .ref (ad G 0)), (2, .ref (ad G 86))]) hC.1 hC.2.1 dL_law_1567 hl (k := 3) rfl rfl (by decide) rfl (fun ls hl => ?_)
          refine lv_goto (tgt := 18) hC.1 hC.2.1 dL_law_1570 (by decide) ?_
          exact ih hF hw (lv_sub hl [1, 2, 3, 0] rfl)
        · have hF := ifN hF b370
          refine lv_iconst (v := (0 : Int32)) hC.1 hC.2.1 dL_law_1220 (by decide) ?_
          cases hF
      have hF := ifN hF w359
      rcases Classical.em (((xs x3.toNatClampNeg) &&& (63 : Int32)) = (34 : Int32)) with w371 | w371
      · have hF := ifP hF w371
        refine r_swI (v := (34 : Int32)) (off := 1189) (tgt := 1222) hC.1 hC.2.1 w371 dL_law_33 (by decide) (by decide) rfl (by decide) ?_
        refine lv_aload_n hC.1 hC.2.1 dL_law_1222 rfl (lv_at hl 1 rfl) ?_
        refine lv_aload_n hC.1 hC.2.1 dL_law_1223 rfl (lv_at hl 0 rfl) ?_
        refine lv_iload_n hC.1 hC.2.1 dL_law_1224 rfl (lv_at hl 3 rfl) ?_
        refine lv_iconst (v := (1 : Int32)) hC.1 hC.2.1 dL_law_1225 (by decide) ?_
        refine lv_iadd hC.1 hC.2.1 dL_law_1226 ?_
        obtain ⟨n372, hF⟩ := ifO hF
        refine va_sld hC.1 hC.2.1 hX hbl hbA hw.2.2.2.2 n372 dL_law_1227 ?_
        refine lv_aload_n hC.1 hC.2.1 dL_law_1228 rfl (lv_at hl 0 rfl) ?_
        refine lv_iload_n hC.1 hC.2.1 dL_law_1229 rfl (lv_at hl 3 rfl) ?_
        refine lv_iconst (v := (2 : Int32)) hC.1 hC.2.1 dL_law_1230 (by decide) ?_
        refine lv_iadd hC.1 hC.2.1 dL_law_1231 ?_
        obtain ⟨n373, hF⟩ := ifO hF
        refine va_sld hC.1 hC.2.1 hX hbl hbA hw.2.2.2.2 n373 dL_law_1232 ?_
        obtain ⟨r375, M376, h374, hF⟩ := ob2S hF
        refine k_Vi (As := [.int (xs (x3 + (1 : Int32)).toNatClampNeg), .int (xs (x3 + (2 : Int32)).toNatClampNeg)]) (rest := []) hC hw (c_X6_kinds (M := M) h374) RC_S yv_X6_kinds q3_199 ⟨rfl, rfl⟩ ⟨Nat.le_of_ble_eq_true rfl, Nat.le_of_ble_eq_true rfl⟩ hz rfl rfl (Nat.le_of_ble_eq_true rfl) hl dL_law_1233 (fun H locs hw => ?_)
        refine lv_aload_n hC.1 hC.2.1 dL_law_1236 rfl (lv_at hl 2 rfl) ?_
        refine lv_aload_n hC.1 hC.2.1 dL_law_1237 rfl (lv_at hl 0 rfl) ?_
        refine lv_iload_n hC.1 hC.2.1 dL_law_1238 rfl (lv_at hl 3 rfl) ?_
        refine lv_iconst (v := (1 : Int32)) hC.1 hC.2.1 dL_law_1239 (by decide) ?_
        refine lv_iadd hC.1 hC.2.1 dL_law_1240 ?_
        obtain ⟨n377, hF⟩ := ifO hF
        refine va_sld hC.1 hC.2.1 hX hbl hbA hw.2.2.2.2 n377 dL_law_1241 ?_
        refine lv_aload_n hC.1 hC.2.1 dL_law_1242 rfl (lv_at hl 0 rfl) ?_
        refine lv_iload_n hC.1 hC.2.1 dL_law_1243 rfl (lv_at hl 3 rfl) ?_
        refine lv_iconst (v := (2 : Int32)) hC.1 hC.2.1 dL_law_1244 (by decide) ?_
        refine lv_iadd hC.1 hC.2.1 dL_law_1245 ?_
        obtain ⟨n378, hF⟩ := ifO hF
        refine va_sld hC.1 hC.2.1 hX hbl hbA hw.2.2.2.2 n378 dL_law_1246 ?_
        obtain ⟨r380, M381, h379, hF⟩ := ob2S hF
        refine k_Vi (As := [.int (xs (x3 + (1 : Int32)).toNatClampNeg), .int (xs (x3 + (2 : Int32)).toNatClampNeg)]) (rest := [.int r375]) hC hw (c_X7_kinds (M := M376) h379) RC_X yv_X7_kinds q6_64 ⟨rfl, rfl⟩ ⟨Nat.le_of_ble_eq_true rfl, Nat.le_of_ble_eq_true rfl⟩ hz rfl rfl (Nat.le_of_ble_eq_true rfl) hl dL_law_1247 (fun H locs hw => ?_)
        refine lv_icmp_eq (tgt := 1567) hC.1 hC.2.1 dL_law_1250 (by decide) (fun b382 => ?_) (fun b382 => ?_)
        · have hF := ifP hF b382
          refine lv_iinc (v := (x3 + (6 : Int32))) (lv' := [(3, .int (x3 + (6 : Int32))), (0, .ref b), (1, .ref (ad G 0)), (2, .ref (ad G 86))]) hC.1 hC.2.1 dL_law_1567 hl (k := 3) rfl rfl (by decide) rfl (fun ls hl => ?_)
          refine lv_goto (tgt := 18) hC.1 hC.2.1 dL_law_1570 (by decide) ?_
          exact ih hF hw (lv_sub hl [1, 2, 3, 0] rfl)
        · have hF := ifN hF b382
          refine lv_iconst (v := (0 : Int32)) hC.1 hC.2.1 dL_law_1253 (by decide) ?_
          cases hF
      have hF := ifN hF w371
      rcases Classical.em (((xs x3.toNatClampNeg) &&& (63 : Int32)) = (35 : Int32)) with w383 | w383
      · have hF := ifP hF w383
        refine r_swI (v := (35 : Int32)) (off := 1222) (tgt := 1255) hC.1 hC.2.1 w383 dL_law_33 (by decide) (by decide) rfl (by decide) ?_
        refine lv_aload_n hC.1 hC.2.1 dL_law_1255 rfl (lv_at hl 1 rfl) ?_
        refine lv_aload_n hC.1 hC.2.1 dL_law_1256 rfl (lv_at hl 0 rfl) ?_
        refine lv_iload_n hC.1 hC.2.1 dL_law_1257 rfl (lv_at hl 3 rfl) ?_
        refine lv_iconst (v := (1 : Int32)) hC.1 hC.2.1 dL_law_1258 (by decide) ?_
        refine lv_iadd hC.1 hC.2.1 dL_law_1259 ?_
        obtain ⟨n384, hF⟩ := ifO hF
        refine va_sld hC.1 hC.2.1 hX hbl hbA hw.2.2.2.2 n384 dL_law_1260 ?_
        obtain ⟨r386, h385, hF⟩ := ob1S hF
        refine k_Vi (As := [.int (xs (x3 + (1 : Int32)).toNatClampNeg)]) (rest := []) hC hw (c_X6_rights (M := M) h385) RC_S yv_X6_rights q3_203 ⟨rfl, rfl⟩ ⟨Nat.le_of_ble_eq_true rfl, Nat.le_of_ble_eq_true rfl⟩ hz rfl rfl (Nat.le_of_ble_eq_true rfl) hl dL_law_1261 (fun H locs hw => ?_)
        refine lv_aload_n hC.1 hC.2.1 dL_law_1264 rfl (lv_at hl 2 rfl) ?_
        refine lv_aload_n hC.1 hC.2.1 dL_law_1265 rfl (lv_at hl 0 rfl) ?_
        refine lv_iload_n hC.1 hC.2.1 dL_law_1266 rfl (lv_at hl 3 rfl) ?_
        refine lv_iconst (v := (1 : Int32)) hC.1 hC.2.1 dL_law_1267 (by decide) ?_
        refine lv_iadd hC.1 hC.2.1 dL_law_1268 ?_
        obtain ⟨n387, hF⟩ := ifO hF
        refine va_sld hC.1 hC.2.1 hX hbl hbA hw.2.2.2.2 n387 dL_law_1269 ?_
        obtain ⟨r389, M390, h388, hF⟩ := ob2S hF
        refine k_Vi (As := [.int (xs (x3 + (1 : Int32)).toNatClampNeg)]) (rest := [.int r386]) hC hw (c_X7_rights (M := M) h388) RC_X yv_X7_rights q6_68 ⟨rfl, rfl⟩ ⟨Nat.le_of_ble_eq_true rfl, Nat.le_of_ble_eq_true rfl⟩ hz rfl rfl (Nat.le_of_ble_eq_true rfl) hl dL_law_1270 (fun H locs hw => ?_)
        refine lv_icmp_eq (tgt := 1567) hC.1 hC.2.1 dL_law_1273 (by decide) (fun b391 => ?_) (fun b391 => ?_)
        · have hF := ifP hF b391
          refine lv_iinc (v := (x3 + (6 : Int32))) (lv' := [(3, .int (x3 + (6 : Int32))), (0, .ref b), (1, .ref (ad G 0)), (2, .ref (ad G 86))]) hC.1 hC.2.1 dL_law_1567 hl (k := 3) rfl rfl (by decide) rfl (fun ls hl => ?_)
          refine lv_goto (tgt := 18) hC.1 hC.2.1 dL_law_1570 (by decide) ?_
          exact ih hF hw (lv_sub hl [1, 2, 3, 0] rfl)
        · have hF := ifN hF b391
          refine lv_iconst (v := (0 : Int32)) hC.1 hC.2.1 dL_law_1276 (by decide) ?_
          cases hF
      have hF := ifN hF w383
      rcases Classical.em (((xs x3.toNatClampNeg) &&& (63 : Int32)) = (36 : Int32)) with w392 | w392
      · have hF := ifP hF w392
        refine r_swI (v := (36 : Int32)) (off := 1245) (tgt := 1278) hC.1 hC.2.1 w392 dL_law_33 (by decide) (by decide) rfl (by decide) ?_
        refine lv_aload_n hC.1 hC.2.1 dL_law_1278 rfl (lv_at hl 1 rfl) ?_
        refine lv_aload_n hC.1 hC.2.1 dL_law_1279 rfl (lv_at hl 0 rfl) ?_
        refine lv_iload_n hC.1 hC.2.1 dL_law_1280 rfl (lv_at hl 3 rfl) ?_
        refine lv_iconst (v := (1 : Int32)) hC.1 hC.2.1 dL_law_1281 (by decide) ?_
        refine lv_iadd hC.1 hC.2.1 dL_law_1282 ?_
        obtain ⟨n393, hF⟩ := ifO hF
        refine va_sld hC.1 hC.2.1 hX hbl hbA hw.2.2.2.2 n393 dL_law_1283 ?_
        obtain ⟨r395, M396, h394, hF⟩ := ob2S hF
        refine k_Vi (As := [.int (xs (x3 + (1 : Int32)).toNatClampNeg)]) (rest := []) hC hw (c_X6_game (M := M) h394) RC_S yv_X6_game q3_208 ⟨rfl, rfl⟩ ⟨Nat.le_of_ble_eq_true rfl, Nat.le_of_ble_eq_true rfl⟩ hz rfl rfl (Nat.le_of_ble_eq_true rfl) hl dL_law_1284 (fun H locs hw => ?_)
        refine lv_aload_n hC.1 hC.2.1 dL_law_1287 rfl (lv_at hl 2 rfl) ?_
        refine lv_aload_n hC.1 hC.2.1 dL_law_1288 rfl (lv_at hl 0 rfl) ?_
        refine lv_iload_n hC.1 hC.2.1 dL_law_1289 rfl (lv_at hl 3 rfl) ?_
        refine lv_iconst (v := (1 : Int32)) hC.1 hC.2.1 dL_law_1290 (by decide) ?_
        refine lv_iadd hC.1 hC.2.1 dL_law_1291 ?_
        obtain ⟨n397, hF⟩ := ifO hF
        refine va_sld hC.1 hC.2.1 hX hbl hbA hw.2.2.2.2 n397 dL_law_1292 ?_
        obtain ⟨r399, M400, h398, hF⟩ := ob2S hF
        refine k_Vi (As := [.int (xs (x3 + (1 : Int32)).toNatClampNeg)]) (rest := [.int r395]) hC hw (c_X7_game (M := M396) h398) RC_X yv_X7_game q6_72 ⟨rfl, rfl⟩ ⟨Nat.le_of_ble_eq_true rfl, Nat.le_of_ble_eq_true rfl⟩ hz rfl rfl (Nat.le_of_ble_eq_true rfl) hl dL_law_1293 (fun H locs hw => ?_)
        refine lv_icmp_eq (tgt := 1567) hC.1 hC.2.1 dL_law_1296 (by decide) (fun b401 => ?_) (fun b401 => ?_)
        · have hF := ifP hF b401
          refine lv_iinc (v := (x3 + (6 : Int32))) (lv' := [(3, .int (x3 + (6 : Int32))), (0, .ref b), (1, .ref (ad G 0)), (2, .ref (ad G 86))]) hC.1 hC.2.1 dL_law_1567 hl (k := 3) rfl rfl (by decide) rfl (fun ls hl => ?_)
          refine lv_goto (tgt := 18) hC.1 hC.2.1 dL_law_1570 (by decide) ?_
          exact ih hF hw (lv_sub hl [1, 2, 3, 0] rfl)
        · have hF := ifN hF b401
          refine lv_iconst (v := (0 : Int32)) hC.1 hC.2.1 dL_law_1299 (by decide) ?_
          cases hF
      have hF := ifN hF w392
      rcases Classical.em (((xs x3.toNatClampNeg) &&& (63 : Int32)) = (37 : Int32)) with w402 | w402
      · have hF := ifP hF w402
        refine r_swI (v := (37 : Int32)) (off := 1268) (tgt := 1301) hC.1 hC.2.1 w402 dL_law_33 (by decide) (by decide) rfl (by decide) ?_
        refine lv_aload_n hC.1 hC.2.1 dL_law_1301 rfl (lv_at hl 1 rfl) ?_
        refine lv_aload_n hC.1 hC.2.1 dL_law_1302 rfl (lv_at hl 0 rfl) ?_
        refine lv_iload_n hC.1 hC.2.1 dL_law_1303 rfl (lv_at hl 3 rfl) ?_
        refine lv_iconst (v := (1 : Int32)) hC.1 hC.2.1 dL_law_1304 (by decide) ?_
        refine lv_iadd hC.1 hC.2.1 dL_law_1305 ?_
        obtain ⟨n403, hF⟩ := ifO hF
        refine va_sld hC.1 hC.2.1 hX hbl hbA hw.2.2.2.2 n403 dL_law_1306 ?_
        obtain ⟨r405, M406, h404, hF⟩ := ob2S hF
        refine k_Vi (As := [.int (xs (x3 + (1 : Int32)).toNatClampNeg)]) (rest := []) hC hw (c_X6_first (M := M) h404) RC_S yv_X6_first q3_233 ⟨rfl, rfl⟩ ⟨Nat.le_of_ble_eq_true rfl, Nat.le_of_ble_eq_true rfl⟩ hz rfl rfl (Nat.le_of_ble_eq_true rfl) hl dL_law_1307 (fun H locs hw => ?_)
        refine lv_aload_n hC.1 hC.2.1 dL_law_1310 rfl (lv_at hl 2 rfl) ?_
        refine lv_aload_n hC.1 hC.2.1 dL_law_1311 rfl (lv_at hl 0 rfl) ?_
        refine lv_iload_n hC.1 hC.2.1 dL_law_1312 rfl (lv_at hl 3 rfl) ?_
        refine lv_iconst (v := (1 : Int32)) hC.1 hC.2.1 dL_law_1313 (by decide) ?_
        refine lv_iadd hC.1 hC.2.1 dL_law_1314 ?_
        obtain ⟨n407, hF⟩ := ifO hF
        refine va_sld hC.1 hC.2.1 hX hbl hbA hw.2.2.2.2 n407 dL_law_1315 ?_
        obtain ⟨r409, M410, h408, hF⟩ := ob2S hF
        refine k_Vi (As := [.int (xs (x3 + (1 : Int32)).toNatClampNeg)]) (rest := [.int r405]) hC hw (c_X7_first (M := M406) h408) RC_X yv_X7_first q6_100 ⟨rfl, rfl⟩ ⟨Nat.le_of_ble_eq_true rfl, Nat.le_of_ble_eq_true rfl⟩ hz rfl rfl (Nat.le_of_ble_eq_true rfl) hl dL_law_1316 (fun H locs hw => ?_)
        refine lv_icmp_eq (tgt := 1567) hC.1 hC.2.1 dL_law_1319 (by decide) (fun b411 => ?_) (fun b411 => ?_)
        · have hF := ifP hF b411
          refine lv_iinc (v := (x3 + (6 : Int32))) (lv' := [(3, .int (x3 + (6 : Int32))), (0, .ref b), (1, .ref (ad G 0)), (2, .ref (ad G 86))]) hC.1 hC.2.1 dL_law_1567 hl (k := 3) rfl rfl (by decide) rfl (fun ls hl => ?_)
          refine lv_goto (tgt := 18) hC.1 hC.2.1 dL_law_1570 (by decide) ?_
          exact ih hF hw (lv_sub hl [1, 2, 3, 0] rfl)
        · have hF := ifN hF b411
          refine lv_iconst (v := (0 : Int32)) hC.1 hC.2.1 dL_law_1322 (by decide) ?_
          cases hF
      have hF := ifN hF w402
      rcases Classical.em (((xs x3.toNatClampNeg) &&& (63 : Int32)) = (38 : Int32)) with w412 | w412
      · have hF := ifP hF w412
        refine r_swI (v := (38 : Int32)) (off := 1291) (tgt := 1324) hC.1 hC.2.1 w412 dL_law_33 (by decide) (by decide) rfl (by decide) ?_
        refine lv_aload_n hC.1 hC.2.1 dL_law_1324 rfl (lv_at hl 1 rfl) ?_
        refine lv_aload_n hC.1 hC.2.1 dL_law_1325 rfl (lv_at hl 0 rfl) ?_
        refine lv_iload_n hC.1 hC.2.1 dL_law_1326 rfl (lv_at hl 3 rfl) ?_
        refine lv_iconst (v := (1 : Int32)) hC.1 hC.2.1 dL_law_1327 (by decide) ?_
        refine lv_iadd hC.1 hC.2.1 dL_law_1328 ?_
        obtain ⟨n413, hF⟩ := ifO hF
        refine va_sld hC.1 hC.2.1 hX hbl hbA hw.2.2.2.2 n413 dL_law_1329 ?_
        refine lv_aload_n hC.1 hC.2.1 dL_law_1330 rfl (lv_at hl 0 rfl) ?_
        refine lv_iload_n hC.1 hC.2.1 dL_law_1331 rfl (lv_at hl 3 rfl) ?_
        refine lv_iconst (v := (2 : Int32)) hC.1 hC.2.1 dL_law_1332 (by decide) ?_
        refine lv_iadd hC.1 hC.2.1 dL_law_1333 ?_
        obtain ⟨n414, hF⟩ := ifO hF
        refine va_sld hC.1 hC.2.1 hX hbl hbA hw.2.2.2.2 n414 dL_law_1334 ?_
        refine lv_aload_n hC.1 hC.2.1 dL_law_1335 rfl (lv_at hl 0 rfl) ?_
        refine lv_iload_n hC.1 hC.2.1 dL_law_1336 rfl (lv_at hl 3 rfl) ?_
        refine lv_iconst (v := (3 : Int32)) hC.1 hC.2.1 dL_law_1337 (by decide) ?_
        refine lv_iadd hC.1 hC.2.1 dL_law_1338 ?_
        obtain ⟨n415, hF⟩ := ifO hF
        refine va_sld hC.1 hC.2.1 hX hbl hbA hw.2.2.2.2 n415 dL_law_1339 ?_
        obtain ⟨r417, M418, h416, hF⟩ := ob2S hF
        refine k_Vi (As := [.int (xs (x3 + (1 : Int32)).toNatClampNeg), .int (xs (x3 + (2 : Int32)).toNatClampNeg), .int (xs (x3 + (3 : Int32)).toNatClampNeg)]) (rest := []) hC hw (c_X6_odds (M := M) h416) RC_S yv_X6_odds q4_1 ⟨rfl, rfl⟩ ⟨Nat.le_of_ble_eq_true rfl, Nat.le_of_ble_eq_true rfl⟩ hz rfl rfl (Nat.le_of_ble_eq_true rfl) hl dL_law_1340 (fun H locs hw => ?_)
        refine lv_aload_n hC.1 hC.2.1 dL_law_1343 rfl (lv_at hl 2 rfl) ?_
        refine lv_aload_n hC.1 hC.2.1 dL_law_1344 rfl (lv_at hl 0 rfl) ?_
        refine lv_iload_n hC.1 hC.2.1 dL_law_1345 rfl (lv_at hl 3 rfl) ?_
        refine lv_iconst (v := (1 : Int32)) hC.1 hC.2.1 dL_law_1346 (by decide) ?_
        refine lv_iadd hC.1 hC.2.1 dL_law_1347 ?_
        obtain ⟨n419, hF⟩ := ifO hF
        refine va_sld hC.1 hC.2.1 hX hbl hbA hw.2.2.2.2 n419 dL_law_1348 ?_
        refine lv_aload_n hC.1 hC.2.1 dL_law_1349 rfl (lv_at hl 0 rfl) ?_
        refine lv_iload_n hC.1 hC.2.1 dL_law_1350 rfl (lv_at hl 3 rfl) ?_
        refine lv_iconst (v := (2 : Int32)) hC.1 hC.2.1 dL_law_1351 (by decide) ?_
        refine lv_iadd hC.1 hC.2.1 dL_law_1352 ?_
        obtain ⟨n420, hF⟩ := ifO hF
        refine va_sld hC.1 hC.2.1 hX hbl hbA hw.2.2.2.2 n420 dL_law_1353 ?_
        refine lv_aload_n hC.1 hC.2.1 dL_law_1354 rfl (lv_at hl 0 rfl) ?_
        refine lv_iload_n hC.1 hC.2.1 dL_law_1355 rfl (lv_at hl 3 rfl) ?_
        refine lv_iconst (v := (3 : Int32)) hC.1 hC.2.1 dL_law_1356 (by decide) ?_
        refine lv_iadd hC.1 hC.2.1 dL_law_1357 ?_
        obtain ⟨n421, hF⟩ := ifO hF
        refine va_sld hC.1 hC.2.1 hX hbl hbA hw.2.2.2.2 n421 dL_law_1358 ?_
        obtain ⟨r423, M424, h422, hF⟩ := ob2S hF
        refine k_Vi (As := [.int (xs (x3 + (1 : Int32)).toNatClampNeg), .int (xs (x3 + (2 : Int32)).toNatClampNeg), .int (xs (x3 + (3 : Int32)).toNatClampNeg)]) (rest := [.int r417]) hC hw (c_X7_odds (M := M418) h422) RC_X yv_X7_odds q6_104 ⟨rfl, rfl⟩ ⟨Nat.le_of_ble_eq_true rfl, Nat.le_of_ble_eq_true rfl⟩ hz rfl rfl (Nat.le_of_ble_eq_true rfl) hl dL_law_1359 (fun H locs hw => ?_)
        refine lv_icmp_eq (tgt := 1567) hC.1 hC.2.1 dL_law_1362 (by decide) (fun b425 => ?_) (fun b425 => ?_)
        · have hF := ifP hF b425
          refine lv_iinc (v := (x3 + (6 : Int32))) (lv' := [(3, .int (x3 + (6 : Int32))), (0, .ref b), (1, .ref (ad G 0)), (2, .ref (ad G 86))]) hC.1 hC.2.1 dL_law_1567 hl (k := 3) rfl rfl (by decide) rfl (fun ls hl => ?_)
          refine lv_goto (tgt := 18) hC.1 hC.2.1 dL_law_1570 (by decide) ?_
          exact ih hF hw (lv_sub hl [1, 2, 3, 0] rfl)
        · have hF := ifN hF b425
          refine lv_iconst (v := (0 : Int32)) hC.1 hC.2.1 dL_law_1365 (by decide) ?_
          cases hF
      have hF := ifN hF w412
      rcases Classical.em (((xs x3.toNatClampNeg) &&& (63 : Int32)) = (39 : Int32)) with w426 | w426
      · have hF := ifP hF w426
        refine r_swI (v := (39 : Int32)) (off := 1334) (tgt := 1367) hC.1 hC.2.1 w426 dL_law_33 (by decide) (by decide) rfl (by decide) ?_
        refine lv_aload_n hC.1 hC.2.1 dL_law_1367 rfl (lv_at hl 1 rfl) ?_
        refine lv_aload_n hC.1 hC.2.1 dL_law_1368 rfl (lv_at hl 0 rfl) ?_
        refine lv_iload_n hC.1 hC.2.1 dL_law_1369 rfl (lv_at hl 3 rfl) ?_
        refine lv_iconst (v := (1 : Int32)) hC.1 hC.2.1 dL_law_1370 (by decide) ?_
        refine lv_iadd hC.1 hC.2.1 dL_law_1371 ?_
        obtain ⟨n427, hF⟩ := ifO hF
        refine va_sld hC.1 hC.2.1 hX hbl hbA hw.2.2.2.2 n427 dL_law_1372 ?_
        refine lv_aload_n hC.1 hC.2.1 dL_law_1373 rfl (lv_at hl 0 rfl) ?_
        refine lv_iload_n hC.1 hC.2.1 dL_law_1374 rfl (lv_at hl 3 rfl) ?_
        refine lv_iconst (v := (2 : Int32)) hC.1 hC.2.1 dL_law_1375 (by decide) ?_
        refine lv_iadd hC.1 hC.2.1 dL_law_1376 ?_
        obtain ⟨n428, hF⟩ := ifO hF
        refine va_sld hC.1 hC.2.1 hX hbl hbA hw.2.2.2.2 n428 dL_law_1377 ?_
        refine lv_aload_n hC.1 hC.2.1 dL_law_1378 rfl (lv_at hl 0 rfl) ?_
        refine lv_iload_n hC.1 hC.2.1 dL_law_1379 rfl (lv_at hl 3 rfl) ?_
        refine lv_iconst (v := (3 : Int32)) hC.1 hC.2.1 dL_law_1380 (by decide) ?_
        refine lv_iadd hC.1 hC.2.1 dL_law_1381 ?_
        obtain ⟨n429, hF⟩ := ifO hF
        refine va_sld hC.1 hC.2.1 hX hbl hbA hw.2.2.2.2 n429 dL_law_1382 ?_
        obtain ⟨r431, M432, h430, hF⟩ := ob2S hF
        refine k_Vi (As := [.int (xs (x3 + (1 : Int32)).toNatClampNeg), .int (xs (x3 + (2 : Int32)).toNatClampNeg), .int (xs (x3 + (3 : Int32)).toNatClampNeg)]) (rest := []) hC hw (c_X6_mid (M := M) h430) RC_S yv_X6_mid q4_34 ⟨rfl, rfl⟩ ⟨Nat.le_of_ble_eq_true rfl, Nat.le_of_ble_eq_true rfl⟩ hz rfl rfl (Nat.le_of_ble_eq_true rfl) hl dL_law_1383 (fun H locs hw => ?_)
        refine lv_aload_n hC.1 hC.2.1 dL_law_1386 rfl (lv_at hl 2 rfl) ?_
        refine lv_aload_n hC.1 hC.2.1 dL_law_1387 rfl (lv_at hl 0 rfl) ?_
        refine lv_iload_n hC.1 hC.2.1 dL_law_1388 rfl (lv_at hl 3 rfl) ?_
        refine lv_iconst (v := (1 : Int32)) hC.1 hC.2.1 dL_law_1389 (by decide) ?_
        refine lv_iadd hC.1 hC.2.1 dL_law_1390 ?_
        obtain ⟨n433, hF⟩ := ifO hF
        refine va_sld hC.1 hC.2.1 hX hbl hbA hw.2.2.2.2 n433 dL_law_1391 ?_
        refine lv_aload_n hC.1 hC.2.1 dL_law_1392 rfl (lv_at hl 0 rfl) ?_
        refine lv_iload_n hC.1 hC.2.1 dL_law_1393 rfl (lv_at hl 3 rfl) ?_
        refine lv_iconst (v := (2 : Int32)) hC.1 hC.2.1 dL_law_1394 (by decide) ?_
        refine lv_iadd hC.1 hC.2.1 dL_law_1395 ?_
        obtain ⟨n434, hF⟩ := ifO hF
        refine va_sld hC.1 hC.2.1 hX hbl hbA hw.2.2.2.2 n434 dL_law_1396 ?_
        refine lv_aload_n hC.1 hC.2.1 dL_law_1397 rfl (lv_at hl 0 rfl) ?_
        refine lv_iload_n hC.1 hC.2.1 dL_law_1398 rfl (lv_at hl 3 rfl) ?_
        refine lv_iconst (v := (3 : Int32)) hC.1 hC.2.1 dL_law_1399 (by decide) ?_
        refine lv_iadd hC.1 hC.2.1 dL_law_1400 ?_
        obtain ⟨n435, hF⟩ := ifO hF
        refine va_sld hC.1 hC.2.1 hX hbl hbA hw.2.2.2.2 n435 dL_law_1401 ?_
        obtain ⟨r437, M438, h436, hF⟩ := ob2S hF
        refine k_Vi (As := [.int (xs (x3 + (1 : Int32)).toNatClampNeg), .int (xs (x3 + (2 : Int32)).toNatClampNeg), .int (xs (x3 + (3 : Int32)).toNatClampNeg)]) (rest := [.int r431]) hC hw (c_X7_mid (M := M432) h436) RC_X yv_X7_mid q6_122 ⟨rfl, rfl⟩ ⟨Nat.le_of_ble_eq_true rfl, Nat.le_of_ble_eq_true rfl⟩ hz rfl rfl (Nat.le_of_ble_eq_true rfl) hl dL_law_1402 (fun H locs hw => ?_)
        refine lv_icmp_eq (tgt := 1567) hC.1 hC.2.1 dL_law_1405 (by decide) (fun b439 => ?_) (fun b439 => ?_)
        · have hF := ifP hF b439
          refine lv_iinc (v := (x3 + (6 : Int32))) (lv' := [(3, .int (x3 + (6 : Int32))), (0, .ref b), (1, .ref (ad G 0)), (2, .ref (ad G 86))]) hC.1 hC.2.1 dL_law_1567 hl (k := 3) rfl rfl (by decide) rfl (fun ls hl => ?_)
          refine lv_goto (tgt := 18) hC.1 hC.2.1 dL_law_1570 (by decide) ?_
          exact ih hF hw (lv_sub hl [1, 2, 3, 0] rfl)
        · have hF := ifN hF b439
          refine lv_iconst (v := (0 : Int32)) hC.1 hC.2.1 dL_law_1408 (by decide) ?_
          cases hF
      have hF := ifN hF w426
      rcases Classical.em (((xs x3.toNatClampNeg) &&& (63 : Int32)) = (40 : Int32)) with w440 | w440
      · have hF := ifP hF w440
        refine r_swI (v := (40 : Int32)) (off := 1377) (tgt := 1410) hC.1 hC.2.1 w440 dL_law_33 (by decide) (by decide) rfl (by decide) ?_
        refine lv_aload_n hC.1 hC.2.1 dL_law_1410 rfl (lv_at hl 1 rfl) ?_
        refine lv_aload_n hC.1 hC.2.1 dL_law_1411 rfl (lv_at hl 0 rfl) ?_
        refine lv_iload_n hC.1 hC.2.1 dL_law_1412 rfl (lv_at hl 3 rfl) ?_
        refine lv_iconst (v := (1 : Int32)) hC.1 hC.2.1 dL_law_1413 (by decide) ?_
        refine lv_iadd hC.1 hC.2.1 dL_law_1414 ?_
        obtain ⟨n441, hF⟩ := ifO hF
        refine va_sld hC.1 hC.2.1 hX hbl hbA hw.2.2.2.2 n441 dL_law_1415 ?_
        refine lv_aload_n hC.1 hC.2.1 dL_law_1416 rfl (lv_at hl 0 rfl) ?_
        refine lv_iload_n hC.1 hC.2.1 dL_law_1417 rfl (lv_at hl 3 rfl) ?_
        refine lv_iconst (v := (2 : Int32)) hC.1 hC.2.1 dL_law_1418 (by decide) ?_
        refine lv_iadd hC.1 hC.2.1 dL_law_1419 ?_
        obtain ⟨n442, hF⟩ := ifO hF
        refine va_sld hC.1 hC.2.1 hX hbl hbA hw.2.2.2.2 n442 dL_law_1420 ?_
        refine lv_aload_n hC.1 hC.2.1 dL_law_1421 rfl (lv_at hl 0 rfl) ?_
        refine lv_iload_n hC.1 hC.2.1 dL_law_1422 rfl (lv_at hl 3 rfl) ?_
        refine lv_iconst (v := (3 : Int32)) hC.1 hC.2.1 dL_law_1423 (by decide) ?_
        refine lv_iadd hC.1 hC.2.1 dL_law_1424 ?_
        obtain ⟨n443, hF⟩ := ifO hF
        refine va_sld hC.1 hC.2.1 hX hbl hbA hw.2.2.2.2 n443 dL_law_1425 ?_
        obtain ⟨r445, M446, h444, hF⟩ := ob2S hF
        refine k_Vi (As := [.int (xs (x3 + (1 : Int32)).toNatClampNeg), .int (xs (x3 + (2 : Int32)).toNatClampNeg), .int (xs (x3 + (3 : Int32)).toNatClampNeg)]) (rest := []) hC hw (c_X6_lots (M := M) h444) RC_S yv_X6_lots q4_42 ⟨rfl, rfl⟩ ⟨Nat.le_of_ble_eq_true rfl, Nat.le_of_ble_eq_true rfl⟩ hz rfl rfl (Nat.le_of_ble_eq_true rfl) hl dL_law_1426 (fun H locs hw => ?_)
        refine lv_aload_n hC.1 hC.2.1 dL_law_1429 rfl (lv_at hl 2 rfl) ?_
        refine lv_aload_n hC.1 hC.2.1 dL_law_1430 rfl (lv_at hl 0 rfl) ?_
        refine lv_iload_n hC.1 hC.2.1 dL_law_1431 rfl (lv_at hl 3 rfl) ?_
        refine lv_iconst (v := (1 : Int32)) hC.1 hC.2.1 dL_law_1432 (by decide) ?_
        refine lv_iadd hC.1 hC.2.1 dL_law_1433 ?_
        obtain ⟨n447, hF⟩ := ifO hF
        refine va_sld hC.1 hC.2.1 hX hbl hbA hw.2.2.2.2 n447 dL_law_1434 ?_
        refine lv_aload_n hC.1 hC.2.1 dL_law_1435 rfl (lv_at hl 0 rfl) ?_
        refine lv_iload_n hC.1 hC.2.1 dL_law_1436 rfl (lv_at hl 3 rfl) ?_
        refine lv_iconst (v := (2 : Int32)) hC.1 hC.2.1 dL_law_1437 (by decide) ?_
        refine lv_iadd hC.1 hC.2.1 dL_law_1438 ?_
        obtain ⟨n448, hF⟩ := ifO hF
        refine va_sld hC.1 hC.2.1 hX hbl hbA hw.2.2.2.2 n448 dL_law_1439 ?_
        refine lv_aload_n hC.1 hC.2.1 dL_law_1440 rfl (lv_at hl 0 rfl) ?_
        refine lv_iload_n hC.1 hC.2.1 dL_law_1441 rfl (lv_at hl 3 rfl) ?_
        refine lv_iconst (v := (3 : Int32)) hC.1 hC.2.1 dL_law_1442 (by decide) ?_
        refine lv_iadd hC.1 hC.2.1 dL_law_1443 ?_
        obtain ⟨n449, hF⟩ := ifO hF
        refine va_sld hC.1 hC.2.1 hX hbl hbA hw.2.2.2.2 n449 dL_law_1444 ?_
        obtain ⟨r451, M452, h450, hF⟩ := ob2S hF
        refine k_Vi (As := [.int (xs (x3 + (1 : Int32)).toNatClampNeg), .int (xs (x3 + (2 : Int32)).toNatClampNeg), .int (xs (x3 + (3 : Int32)).toNatClampNeg)]) (rest := [.int r445]) hC hw (c_X7_lots (M := M446) h450) RC_X yv_X7_lots q6_126 ⟨rfl, rfl⟩ ⟨Nat.le_of_ble_eq_true rfl, Nat.le_of_ble_eq_true rfl⟩ hz rfl rfl (Nat.le_of_ble_eq_true rfl) hl dL_law_1445 (fun H locs hw => ?_)
        refine lv_icmp_eq (tgt := 1567) hC.1 hC.2.1 dL_law_1448 (by decide) (fun b453 => ?_) (fun b453 => ?_)
        · have hF := ifP hF b453
          refine lv_iinc (v := (x3 + (6 : Int32))) (lv' := [(3, .int (x3 + (6 : Int32))), (0, .ref b), (1, .ref (ad G 0)), (2, .ref (ad G 86))]) hC.1 hC.2.1 dL_law_1567 hl (k := 3) rfl rfl (by decide) rfl (fun ls hl => ?_)
          refine lv_goto (tgt := 18) hC.1 hC.2.1 dL_law_1570 (by decide) ?_
          exact ih hF hw (lv_sub hl [1, 2, 3, 0] rfl)
        · have hF := ifN hF b453
          refine lv_iconst (v := (0 : Int32)) hC.1 hC.2.1 dL_law_1451 (by decide) ?_
          cases hF
      have hF := ifN hF w440
      rcases Classical.em (((xs x3.toNatClampNeg) &&& (63 : Int32)) = (41 : Int32)) with w454 | w454
      · have hF := ifP hF w454
        refine r_swI (v := (41 : Int32)) (off := 1420) (tgt := 1453) hC.1 hC.2.1 w454 dL_law_33 (by decide) (by decide) rfl (by decide) ?_
        refine lv_aload_n hC.1 hC.2.1 dL_law_1453 rfl (lv_at hl 1 rfl) ?_
        obtain ⟨r456, h455, hF⟩ := ob1S hF
        refine k_Vi (As := []) (rest := []) hC hw (c_X6_asked (M := M) h455) RC_S yv_X6_asked q4_50 ⟨rfl, rfl⟩ ⟨Nat.le_of_ble_eq_true rfl, Nat.le_of_ble_eq_true rfl⟩ hz rfl rfl (Nat.le_of_ble_eq_true rfl) hl dL_law_1454 (fun H locs hw => ?_)
        refine lv_aload_n hC.1 hC.2.1 dL_law_1457 rfl (lv_at hl 2 rfl) ?_
        obtain ⟨r458, h457, hF⟩ := ob1S hF
        refine k_Vi (As := []) (rest := [.int r456]) hC hw (c_X7_asked (M := M) h457) RC_X yv_X7_asked q6_134 ⟨rfl, rfl⟩ ⟨Nat.le_of_ble_eq_true rfl, Nat.le_of_ble_eq_true rfl⟩ hz rfl rfl (Nat.le_of_ble_eq_true rfl) hl dL_law_1458 (fun H locs hw => ?_)
        refine lv_icmp_eq (tgt := 1567) hC.1 hC.2.1 dL_law_1461 (by decide) (fun b459 => ?_) (fun b459 => ?_)
        · have hF := ifP hF b459
          refine lv_iinc (v := (x3 + (6 : Int32))) (lv' := [(3, .int (x3 + (6 : Int32))), (0, .ref b), (1, .ref (ad G 0)), (2, .ref (ad G 86))]) hC.1 hC.2.1 dL_law_1567 hl (k := 3) rfl rfl (by decide) rfl (fun ls hl => ?_)
          refine lv_goto (tgt := 18) hC.1 hC.2.1 dL_law_1570 (by decide) ?_
          exact ih hF hw (lv_sub hl [1, 2, 3, 0] rfl)
        · have hF := ifN hF b459
          refine lv_iconst (v := (0 : Int32)) hC.1 hC.2.1 dL_law_1464 (by decide) ?_
          cases hF
      have hF := ifN hF w454
      rcases Classical.em (((xs x3.toNatClampNeg) &&& (63 : Int32)) = (42 : Int32)) with w460 | w460
      · have hF := ifP hF w460
        refine r_swI (v := (42 : Int32)) (off := 1433) (tgt := 1466) hC.1 hC.2.1 w460 dL_law_33 (by decide) (by decide) rfl (by decide) ?_
        refine lv_aload_n hC.1 hC.2.1 dL_law_1466 rfl (lv_at hl 1 rfl) ?_
        obtain ⟨r462, h461, hF⟩ := ob1S hF
        refine k_Vl (As := []) (rest := []) hC hw (c_X6_upper (M := M) h461) RC_S yv_X6_upper q4_54 ⟨rfl, rfl⟩ ⟨Nat.le_of_ble_eq_true rfl, Nat.le_of_ble_eq_true rfl⟩ hz rfl rfl (Nat.le_of_ble_eq_true rfl) hl dL_law_1467 (fun H locs hw => ?_)
        refine lv_aload_n hC.1 hC.2.1 dL_law_1470 rfl (lv_at hl 2 rfl) ?_
        obtain ⟨r464, h463, hF⟩ := ob1S hF
        refine k_Vl (As := []) (rest := [.long r462]) hC hw (c_X7_upper (M := M) h463) RC_X yv_X7_upper q6_138 ⟨rfl, rfl⟩ ⟨Nat.le_of_ble_eq_true rfl, Nat.le_of_ble_eq_true rfl⟩ hz rfl rfl (Nat.le_of_ble_eq_true rfl) hl dL_law_1471 (fun H locs hw => ?_)
        refine W.lcmp hC.1 hC.2.1 dL_law_1474 ?_
        refine lv_if_eq (tgt := 1567) hC.1 hC.2.1 dL_law_1475 (by decide) (fun b465 => ?_) (fun b465 => ?_)
        · have hF := ifP hF b465
          refine lv_iinc (v := (x3 + (6 : Int32))) (lv' := [(3, .int (x3 + (6 : Int32))), (0, .ref b), (1, .ref (ad G 0)), (2, .ref (ad G 86))]) hC.1 hC.2.1 dL_law_1567 hl (k := 3) rfl rfl (by decide) rfl (fun ls hl => ?_)
          refine lv_goto (tgt := 18) hC.1 hC.2.1 dL_law_1570 (by decide) ?_
          exact ih hF hw (lv_sub hl [1, 2, 3, 0] rfl)
        · have hF := ifN hF b465
          refine lv_iconst (v := (0 : Int32)) hC.1 hC.2.1 dL_law_1478 (by decide) ?_
          cases hF
      have hF := ifN hF w460
      rcases Classical.em (((xs x3.toNatClampNeg) &&& (63 : Int32)) = (43 : Int32)) with w466 | w466
      · have hF := ifP hF w466
        refine r_swI (v := (43 : Int32)) (off := 1447) (tgt := 1480) hC.1 hC.2.1 w466 dL_law_33 (by decide) (by decide) rfl (by decide) ?_
        refine lv_aload_n hC.1 hC.2.1 dL_law_1480 rfl (lv_at hl 1 rfl) ?_
        obtain ⟨r468, h467, hF⟩ := ob1S hF
        refine k_Vl (As := []) (rest := []) hC hw (c_X6_lower (M := M) h467) RC_S yv_X6_lower q4_58 ⟨rfl, rfl⟩ ⟨Nat.le_of_ble_eq_true rfl, Nat.le_of_ble_eq_true rfl⟩ hz rfl rfl (Nat.le_of_ble_eq_true rfl) hl dL_law_1481 (fun H locs hw => ?_)
        refine lv_aload_n hC.1 hC.2.1 dL_law_1484 rfl (lv_at hl 2 rfl) ?_
        obtain ⟨r470, h469, hF⟩ := ob1S hF
        refine k_Vl (As := []) (rest := [.long r468]) hC hw (c_X7_lower (M := M) h469) RC_X yv_X7_lower q6_142 ⟨rfl, rfl⟩ ⟨Nat.le_of_ble_eq_true rfl, Nat.le_of_ble_eq_true rfl⟩ hz rfl rfl (Nat.le_of_ble_eq_true rfl) hl dL_law_1485 (fun H locs hw => ?_)
        refine W.lcmp hC.1 hC.2.1 dL_law_1488 ?_
        refine lv_if_eq (tgt := 1567) hC.1 hC.2.1 dL_law_1489 (by decide) (fun b471 => ?_) (fun b471 => ?_)
        · have hF := ifP hF b471
          refine lv_iinc (v := (x3 + (6 : Int32))) (lv' := [(3, .int (x3 + (6 : Int32))), (0, .ref b), (1, .ref (ad G 0)), (2, .ref (ad G 86))]) hC.1 hC.2.1 dL_law_1567 hl (k := 3) rfl rfl (by decide) rfl (fun ls hl => ?_)
          refine lv_goto (tgt := 18) hC.1 hC.2.1 dL_law_1570 (by decide) ?_
          exact ih hF hw (lv_sub hl [1, 2, 3, 0] rfl)
        · have hF := ifN hF b471
          refine lv_iconst (v := (0 : Int32)) hC.1 hC.2.1 dL_law_1492 (by decide) ?_
          cases hF
      have hF := ifN hF w466
      rcases Classical.em (((xs x3.toNatClampNeg) &&& (63 : Int32)) = (44 : Int32)) with w472 | w472
      · have hF := ifP hF w472
        refine r_swI (v := (44 : Int32)) (off := 1461) (tgt := 1494) hC.1 hC.2.1 w472 dL_law_33 (by decide) (by decide) rfl (by decide) ?_
        refine lv_aload_n hC.1 hC.2.1 dL_law_1494 rfl (lv_at hl 1 rfl) ?_
        refine lv_aload_n hC.1 hC.2.1 dL_law_1495 rfl (lv_at hl 0 rfl) ?_
        refine lv_iload_n hC.1 hC.2.1 dL_law_1496 rfl (lv_at hl 3 rfl) ?_
        refine lv_iconst (v := (1 : Int32)) hC.1 hC.2.1 dL_law_1497 (by decide) ?_
        refine lv_iadd hC.1 hC.2.1 dL_law_1498 ?_
        obtain ⟨n473, hF⟩ := ifO hF
        refine va_sld hC.1 hC.2.1 hX hbl hbA hw.2.2.2.2 n473 dL_law_1499 ?_
        obtain ⟨r475, h474, hF⟩ := ob1S hF
        refine k_Vi (As := [.int (xs (x3 + (1 : Int32)).toNatClampNeg)]) (rest := []) hC hw (c_X6_count (M := M) h474) RC_S yv_X6_count q4_62 ⟨rfl, rfl⟩ ⟨Nat.le_of_ble_eq_true rfl, Nat.le_of_ble_eq_true rfl⟩ hz rfl rfl (Nat.le_of_ble_eq_true rfl) hl dL_law_1500 (fun H locs hw => ?_)
        refine lv_aload_n hC.1 hC.2.1 dL_law_1503 rfl (lv_at hl 2 rfl) ?_
        refine lv_aload_n hC.1 hC.2.1 dL_law_1504 rfl (lv_at hl 0 rfl) ?_
        refine lv_iload_n hC.1 hC.2.1 dL_law_1505 rfl (lv_at hl 3 rfl) ?_
        refine lv_iconst (v := (1 : Int32)) hC.1 hC.2.1 dL_law_1506 (by decide) ?_
        refine lv_iadd hC.1 hC.2.1 dL_law_1507 ?_
        obtain ⟨n476, hF⟩ := ifO hF
        refine va_sld hC.1 hC.2.1 hX hbl hbA hw.2.2.2.2 n476 dL_law_1508 ?_
        obtain ⟨r478, h477, hF⟩ := ob1S hF
        refine k_Vi (As := [.int (xs (x3 + (1 : Int32)).toNatClampNeg)]) (rest := [.int r475]) hC hw (c_X7_count (M := M) h477) RC_X yv_X7_count q6_146 ⟨rfl, rfl⟩ ⟨Nat.le_of_ble_eq_true rfl, Nat.le_of_ble_eq_true rfl⟩ hz rfl rfl (Nat.le_of_ble_eq_true rfl) hl dL_law_1509 (fun H locs hw => ?_)
        refine lv_icmp_eq (tgt := 1567) hC.1 hC.2.1 dL_law_1512 (by decide) (fun b479 => ?_) (fun b479 => ?_)
        · have hF := ifP hF b479
          refine lv_iinc (v := (x3 + (6 : Int32))) (lv' := [(3, .int (x3 + (6 : Int32))), (0, .ref b), (1, .ref (ad G 0)), (2, .ref (ad G 86))]) hC.1 hC.2.1 dL_law_1567 hl (k := 3) rfl rfl (by decide) rfl (fun ls hl => ?_)
          refine lv_goto (tgt := 18) hC.1 hC.2.1 dL_law_1570 (by decide) ?_
          exact ih hF hw (lv_sub hl [1, 2, 3, 0] rfl)
        · have hF := ifN hF b479
          refine lv_iconst (v := (0 : Int32)) hC.1 hC.2.1 dL_law_1515 (by decide) ?_
          cases hF
      have hF := ifN hF w472
      rcases Classical.em (((xs x3.toNatClampNeg) &&& (63 : Int32)) = (45 : Int32)) with w480 | w480
      · have hF := ifP hF w480
        refine r_swI (v := (45 : Int32)) (off := 1484) (tgt := 1517) hC.1 hC.2.1 w480 dL_law_33 (by decide) (by decide) rfl (by decide) ?_
        refine lv_aload_n hC.1 hC.2.1 dL_law_1517 rfl (lv_at hl 1 rfl) ?_
        obtain ⟨r482, h481, hF⟩ := ob1S hF
        refine k_Vi (As := []) (rest := []) hC hw (c_X6_finding (M := M) h481) RC_S yv_X6_finding q4_91 ⟨rfl, rfl⟩ ⟨Nat.le_of_ble_eq_true rfl, Nat.le_of_ble_eq_true rfl⟩ hz rfl rfl (Nat.le_of_ble_eq_true rfl) hl dL_law_1518 (fun H locs hw => ?_)
        refine lv_aload_n hC.1 hC.2.1 dL_law_1521 rfl (lv_at hl 2 rfl) ?_
        obtain ⟨r484, h483, hF⟩ := ob1S hF
        refine k_Vi (As := []) (rest := [.int r482]) hC hw (c_X7_finding (M := M) h483) RC_X yv_X7_finding q6_165 ⟨rfl, rfl⟩ ⟨Nat.le_of_ble_eq_true rfl, Nat.le_of_ble_eq_true rfl⟩ hz rfl rfl (Nat.le_of_ble_eq_true rfl) hl dL_law_1522 (fun H locs hw => ?_)
        refine lv_icmp_eq (tgt := 1567) hC.1 hC.2.1 dL_law_1525 (by decide) (fun b485 => ?_) (fun b485 => ?_)
        · have hF := ifP hF b485
          refine lv_iinc (v := (x3 + (6 : Int32))) (lv' := [(3, .int (x3 + (6 : Int32))), (0, .ref b), (1, .ref (ad G 0)), (2, .ref (ad G 86))]) hC.1 hC.2.1 dL_law_1567 hl (k := 3) rfl rfl (by decide) rfl (fun ls hl => ?_)
          refine lv_goto (tgt := 18) hC.1 hC.2.1 dL_law_1570 (by decide) ?_
          exact ih hF hw (lv_sub hl [1, 2, 3, 0] rfl)
        · have hF := ifN hF b485
          refine lv_iconst (v := (0 : Int32)) hC.1 hC.2.1 dL_law_1528 (by decide) ?_
          cases hF
      have hF := ifN hF w480
      rcases Classical.em (((xs x3.toNatClampNeg) &&& (63 : Int32)) = (46 : Int32)) with w486 | w486
      · have hF := ifP hF w486
        refine r_swI (v := (46 : Int32)) (off := 1497) (tgt := 1530) hC.1 hC.2.1 w486 dL_law_33 (by decide) (by decide) rfl (by decide) ?_
        refine lv_aload_n hC.1 hC.2.1 dL_law_1530 rfl (lv_at hl 1 rfl) ?_
        refine lv_aload_n hC.1 hC.2.1 dL_law_1531 rfl (lv_at hl 0 rfl) ?_
        refine lv_iload_n hC.1 hC.2.1 dL_law_1532 rfl (lv_at hl 3 rfl) ?_
        refine lv_iconst (v := (1 : Int32)) hC.1 hC.2.1 dL_law_1533 (by decide) ?_
        refine lv_iadd hC.1 hC.2.1 dL_law_1534 ?_
        obtain ⟨n487, hF⟩ := ifO hF
        refine va_sld hC.1 hC.2.1 hX hbl hbA hw.2.2.2.2 n487 dL_law_1535 ?_
        obtain ⟨r489, h488, hF⟩ := ob1S hF
        refine k_Vi (As := [.int (xs (x3 + (1 : Int32)).toNatClampNeg)]) (rest := []) hC hw (c_X6_findings (M := M) h488) RC_S yv_X6_findings q4_95 ⟨rfl, rfl⟩ ⟨Nat.le_of_ble_eq_true rfl, Nat.le_of_ble_eq_true rfl⟩ hz rfl rfl (Nat.le_of_ble_eq_true rfl) hl dL_law_1536 (fun H locs hw => ?_)
        refine lv_aload_n hC.1 hC.2.1 dL_law_1539 rfl (lv_at hl 2 rfl) ?_
        refine lv_aload_n hC.1 hC.2.1 dL_law_1540 rfl (lv_at hl 0 rfl) ?_
        refine lv_iload_n hC.1 hC.2.1 dL_law_1541 rfl (lv_at hl 3 rfl) ?_
        refine lv_iconst (v := (1 : Int32)) hC.1 hC.2.1 dL_law_1542 (by decide) ?_
        refine lv_iadd hC.1 hC.2.1 dL_law_1543 ?_
        obtain ⟨n490, hF⟩ := ifO hF
        refine va_sld hC.1 hC.2.1 hX hbl hbA hw.2.2.2.2 n490 dL_law_1544 ?_
        obtain ⟨r492, h491, hF⟩ := ob1S hF
        refine k_Vi (As := [.int (xs (x3 + (1 : Int32)).toNatClampNeg)]) (rest := [.int r489]) hC hw (c_X7_findings (M := M) h491) RC_X yv_X7_findings q6_169 ⟨rfl, rfl⟩ ⟨Nat.le_of_ble_eq_true rfl, Nat.le_of_ble_eq_true rfl⟩ hz rfl rfl (Nat.le_of_ble_eq_true rfl) hl dL_law_1545 (fun H locs hw => ?_)
        refine lv_icmp_eq (tgt := 1567) hC.1 hC.2.1 dL_law_1548 (by decide) (fun b493 => ?_) (fun b493 => ?_)
        · have hF := ifP hF b493
          refine lv_iinc (v := (x3 + (6 : Int32))) (lv' := [(3, .int (x3 + (6 : Int32))), (0, .ref b), (1, .ref (ad G 0)), (2, .ref (ad G 86))]) hC.1 hC.2.1 dL_law_1567 hl (k := 3) rfl rfl (by decide) rfl (fun ls hl => ?_)
          refine lv_goto (tgt := 18) hC.1 hC.2.1 dL_law_1570 (by decide) ?_
          exact ih hF hw (lv_sub hl [1, 2, 3, 0] rfl)
        · have hF := ifN hF b493
          refine lv_iconst (v := (0 : Int32)) hC.1 hC.2.1 dL_law_1551 (by decide) ?_
          cases hF
      have hF := ifN hF w486
      rcases Classical.em (((xs x3.toNatClampNeg) &&& (63 : Int32)) = (47 : Int32)) with w494 | w494
      · have hF := ifP hF w494
        refine r_swI (v := (47 : Int32)) (off := 1520) (tgt := 1553) hC.1 hC.2.1 w494 dL_law_33 (by decide) (by decide) rfl (by decide) ?_
        refine lv_aload_n hC.1 hC.2.1 dL_law_1553 rfl (lv_at hl 1 rfl) ?_
        obtain ⟨r496, h495, hF⟩ := ob1S hF
        refine k_Vl (As := []) (rest := []) hC hw (c_X6_digest (M := M) h495) RC_S yv_X6_digest q4_99 ⟨rfl, rfl⟩ ⟨Nat.le_of_ble_eq_true rfl, Nat.le_of_ble_eq_true rfl⟩ hz rfl rfl (Nat.le_of_ble_eq_true rfl) hl dL_law_1554 (fun H locs hw => ?_)
        refine lv_aload_n hC.1 hC.2.1 dL_law_1557 rfl (lv_at hl 2 rfl) ?_
        obtain ⟨r498, h497, hF⟩ := ob1S hF
        refine k_Vl (As := []) (rest := [.long r496]) hC hw (c_X7_digest (M := M) h497) RC_X yv_X7_digest q6_173 ⟨rfl, rfl⟩ ⟨Nat.le_of_ble_eq_true rfl, Nat.le_of_ble_eq_true rfl⟩ hz rfl rfl (Nat.le_of_ble_eq_true rfl) hl dL_law_1558 (fun H locs hw => ?_)
        refine W.lcmp hC.1 hC.2.1 dL_law_1561 ?_
        refine lv_if_eq (tgt := 1567) hC.1 hC.2.1 dL_law_1562 (by decide) (fun b499 => ?_) (fun b499 => ?_)
        · have hF := ifP hF b499
          refine lv_iinc (v := (x3 + (6 : Int32))) (lv' := [(3, .int (x3 + (6 : Int32))), (0, .ref b), (1, .ref (ad G 0)), (2, .ref (ad G 86))]) hC.1 hC.2.1 dL_law_1567 hl (k := 3) rfl rfl (by decide) rfl (fun ls hl => ?_)
          refine lv_goto (tgt := 18) hC.1 hC.2.1 dL_law_1570 (by decide) ?_
          exact ih hF hw (lv_sub hl [1, 2, 3, 0] rfl)
        · have hF := ifN hF b499
          refine lv_iconst (v := (0 : Int32)) hC.1 hC.2.1 dL_law_1565 (by decide) ?_
          cases hF
      have hF := ifN hF w494
      refine r_swD (tgt := 1567) (vs := [(0 : Int32), (1 : Int32), (2 : Int32), (3 : Int32), (4 : Int32), (5 : Int32), (6 : Int32), (7 : Int32), (8 : Int32), (9 : Int32), (10 : Int32), (11 : Int32), (12 : Int32), (13 : Int32), (14 : Int32), (15 : Int32), (16 : Int32), (17 : Int32), (18 : Int32), (19 : Int32), (20 : Int32), (21 : Int32), (22 : Int32), (23 : Int32), (24 : Int32), (25 : Int32), (26 : Int32), (27 : Int32), (28 : Int32), (29 : Int32), (30 : Int32), (31 : Int32), (32 : Int32), (33 : Int32), (34 : Int32), (35 : Int32), (36 : Int32), (37 : Int32), (38 : Int32), (39 : Int32), (40 : Int32), (41 : Int32), (42 : Int32), (43 : Int32), (44 : Int32), (45 : Int32), (46 : Int32), (47 : Int32)]) hC.1 hC.2.1 (List.forall_mem_cons.mpr ⟨w3, List.forall_mem_cons.mpr ⟨w15, List.forall_mem_cons.mpr ⟨w29, List.forall_mem_cons.mpr ⟨w41, List.forall_mem_cons.mpr ⟨w51, List.forall_mem_cons.mpr ⟨w69, List.forall_mem_cons.mpr ⟨w79, List.forall_mem_cons.mpr ⟨w91, List.forall_mem_cons.mpr ⟨w105, List.forall_mem_cons.mpr ⟨w115, List.forall_mem_cons.mpr ⟨w125, List.forall_mem_cons.mpr ⟨w137, List.forall_mem_cons.mpr ⟨w149, List.forall_mem_cons.mpr ⟨w157, List.forall_mem_cons.mpr ⟨w167, List.forall_mem_cons.mpr ⟨w175, List.forall_mem_cons.mpr ⟨w187, List.forall_mem_cons.mpr ⟨w199, List.forall_mem_cons.mpr ⟨w209, List.forall_mem_cons.mpr ⟨w217, List.forall_mem_cons.mpr ⟨w227, List.forall_mem_cons.mpr ⟨w237, List.forall_mem_cons.mpr ⟨w247, List.forall_mem_cons.mpr ⟨w255, List.forall_mem_cons.mpr ⟨w265, List.forall_mem_cons.mpr ⟨w274, List.forall_mem_cons.mpr ⟨w283, List.forall_mem_cons.mpr ⟨w291, List.forall_mem_cons.mpr ⟨w301, List.forall_mem_cons.mpr ⟨w315, List.forall_mem_cons.mpr ⟨w329, List.forall_mem_cons.mpr ⟨w339, List.forall_mem_cons.mpr ⟨w349, List.forall_mem_cons.mpr ⟨w359, List.forall_mem_cons.mpr ⟨w371, List.forall_mem_cons.mpr ⟨w383, List.forall_mem_cons.mpr ⟨w392, List.forall_mem_cons.mpr ⟨w402, List.forall_mem_cons.mpr ⟨w412, List.forall_mem_cons.mpr ⟨w426, List.forall_mem_cons.mpr ⟨w440, List.forall_mem_cons.mpr ⟨w454, List.forall_mem_cons.mpr ⟨w460, List.forall_mem_cons.mpr ⟨w466, List.forall_mem_cons.mpr ⟨w472, List.forall_mem_cons.mpr ⟨w480, List.forall_mem_cons.mpr ⟨w486, List.forall_mem_cons.mpr ⟨w494, fun v hv => absurd hv List.not_mem_nil⟩⟩⟩⟩⟩⟩⟩⟩⟩⟩⟩⟩⟩⟩⟩⟩⟩⟩⟩⟩⟩⟩⟩⟩⟩⟩⟩⟩⟩⟩⟩⟩⟩⟩⟩⟩⟩⟩⟩⟩⟩⟩⟩⟩⟩⟩⟩⟩) dL_law_33 (by decide) rfl (by decide) ?_
      refine lv_iinc (v := (x3 + (6 : Int32))) (lv' := [(3, .int (x3 + (6 : Int32))), (0, .ref b), (1, .ref (ad G 0)), (2, .ref (ad G 86))]) hC.1 hC.2.1 dL_law_1567 hl (k := 3) rfl rfl (by decide) rfl (fun ls hl => ?_)
      refine lv_goto (tgt := 18) hC.1 hC.2.1 dL_law_1570 (by decide) ?_
      exact ih hF hw (lv_sub hl [1, 2, 3, 0] rfl)
