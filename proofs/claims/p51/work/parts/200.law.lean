/-! THE CLAIM OUT OF ONE WALK OF THE LAW'S BODY. Your part is whole_start (and what it stands on); all else here is the same for every law, but numbers. -/
def R_law : String := "SnowCitizensLaw"
def lw_P (b : Addr) (xs : List Int32) (args : Array Value) (s : State) : Prop := args = #[.ref b] ∧ s.IntsAt b xs ∧ xs.length ≤ 260 ∧ (Jvm.Cond.and given_1 narrow_1).before args s = true
def lw_Q (_ : Array Value) (s : State) (o : Outcome) (t : State) : Prop := o = .returned (some (.int 1)) ∧ Framed s o t [] 600000 7302250
def lw_Z (below : List Frame) (a : Array Value) (s : State) : State → Prop := fun t => ∃ o, t.status = .running ∧ Ended t below o ∧ lw_Q a s o t
/-- the law's own end, with 1 on the stack, nothing written that was there before, its room as the claim has it -/
theorem lw_ret {p : Program} {l : Launch} {e : Env} {s : State} {m : MethodId} {below : List Frame} {meth : Method} {c : Code} {b : Nat} (hx : p.tables.exec = Jvm.exec) (hb : c.code = code) (hr : meth.sig.returnType = ret) (hlocks : meth.locks = false) {pc : Nat} {H : Heap} {ls : Array Slot} (hdg : decode code pc = .ok (.ireturn, 1)) : W p l e room_1 s m #[Value.ref b] below meth c H [] 600000 7302250 (lw_Z below #[Value.ref b] s) (F0 m pc ls [.int 1]) := by
  intro T hT X
  obtain ⟨fs, hret, hrun, hended, hW, hframe⟩ := X.leave (v := some (.int 1)) (hlocks := hlocks) (fun h => by rw [hr] at h; cases h)
  have hmeth' : T.vm.method? m = some meth := X.method'
  refine ⟨T.setFrames fs, ?_, .returned (some (.int 1)), hrun, hended, rfl, ⟨_, rfl⟩, hW, hframe⟩
  jvm_step X.here [X.here.top, hx, hb, hdg, hmeth', hr, ret, narrow_b1]
  (try refine ⟨rfl, ?_⟩); (try refine ⟨rfl, ?_⟩)
  first | (intro acts; rw [hret _ acts rfl rfl rfl]) | rw [hret _ _ rfl rfl rfl]
  exact Steps.refl _
/-- what holds at the law's entry: the machine, the code, the tables' words (any of lw_tbl by 'hts w (by decide +kernel)'), the script of L ints xs at the cell b, what the Statement gives of the start (any of its parts by flat_of_before) -/
def lw_At (p : Program) (s : State) (m : MethodId) (meth : Method) (c : Code) (b L : Nat) (xs : Nat → Int32) : Prop :=
  p.tables.exec = Jvm.exec ∧ c.code = code ∧ meth.sig.returnType = ret ∧ c.maxLocals = 24 ∧ s.vm.findClass R_law = some m.cls ∧ (∀ w ∈ lw_tbl, w.before #[Value.ref b] s = true) ∧ va_X b L xs s s.heap ∧ b < s.heap.size ∧ meth.locks = false ∧ (Jvm.Cond.and given_1 narrow_1).before #[Value.ref b] s = true

/-- the law's end: 1 on the stack -/
theorem law_end {p : Program} {l : Launch} {e : Env} {s : State} {m : MethodId} {below : List Frame} {meth : Method} {c : Code} {G : Gv} {b : Nat} {cells slots : Nat} {H : Heap} {locs : List Loc} {M : Mm} {pc : Nat} {ls : Array Slot} {ret0 : Option FieldType} (hC : Cx p s m #[Value.ref b] meth c cL_law 24 ret0 RL) (hAd : ∀ x, x < zNC → s.heap.size ≤ ad G x) (hw : St G s H locs M) (hz : cells ≤ 600000 ∧ slots ≤ 7302250) {v : Int32} (hv : v = 1) (hdg : decode cL_law pc = .ok (.ireturn, 1)) (hr0 : ret0 = ret := by rfl) : W p l e room_1 s m #[Value.ref b] below meth c H locs cells slots (lw_Z below #[Value.ref b] s) (F0 m pc ls [.int v]) := by
  subst hv
  refine va_forget (fun q hq => ?_) ?_
  · obtain ⟨x, hx, h⟩ := hw.2.2.2.2.2.2 q hq
    rw [h]
    exact hAd x hx
  · refine W.widen (k := 600000) (n := 7302250) hz.1 hz.2 ?_
    exact lw_ret hC.1 hC.2.1 (by rw [← hr0]; exact hC.2.2.2.2.2.1) hC.2.2.2.2.2.2 hdg
def F_L_law_224 (L : Nat) (xs : Nat → Int32) (fu : Nat) (k120 : Mm → Int32 → Int32 → Int32 → Int32 → Int32 → Int32 → Option Unit) (M : Mm) (x3 : Int32) (x4 : Int32) (x5 : Int32) (x6 : Int32) (x7 : Int32) (x8 : Int32) (x9 : Int32) : Option Unit :=
  if ((x4 >>> (x8 &&& 31)) &&& (1 : Int32)) = 0 then
    if ((12 : Int32) + x8) < 0 ∨ ln 86 ≤ ((12 : Int32) + x8).toNatClampNeg then none else (
    if x9 = (M.1 86 ((12 : Int32) + x8).toNatClampNeg) then
      k120 M x3 x4 x5 x6 x7 (x8 + (1 : Int32))
    else
      none)
  else
    k120 M x3 x4 x5 x6 x7 (x8 + (1 : Int32))
set_option maxRecDepth 100000 in
set_option maxHeartbeats 4000000 in
theorem w_L_law_224 {b L : Nat} {xs : Nat → Int32} {p : Program} {l : Launch} {e : Env} {s : State} {m : MethodId} {below : List Frame} {meth : Method} {c : Code} {G : Gv} (hC : Cx p s m #[Value.ref b] meth c cL_law 24 (some .boolean) RL) (hX : va_X b L xs s s.heap) (hbl : b < s.heap.size) (hbA : ¬ zA G b) (hAd : ∀ x, x < zNC → s.heap.size ≤ ad G x) {cells slots : Nat} (hz : cells ≤ 600000 ∧ slots ≤ 7302250) {fu : Nat} {k120 : Mm → Int32 → Int32 → Int32 → Int32 → Int32 → Int32 → Option Unit} (hk_120 : ∀ {x3 : Int32} {x4 : Int32} {x5 : Int32} {x6 : Int32} {x7 : Int32} {x8 : Int32} {M : Mm} {H : Heap} {locs : List Loc} {ls : Array Slot}, k120 M x3 x4 x5 x6 x7 x8 = some () → St G s H locs M → lv_has ls 24 [(0, .ref b), (1, .ref (ad G 0)), (2, .ref (ad G 86)), (3, .int x3), (4, .int x4), (5, .int x5), (6, .int x6), (7, .int x7), (8, .int x8)] → W p l e room_1 s m #[Value.ref b] below meth c H locs cells slots (lw_Z below #[Value.ref b] s) (F0 m 120 ls [])) {x3 : Int32} {x4 : Int32} {x5 : Int32} {x6 : Int32} {x7 : Int32} {x8 : Int32} {x9 : Int32} {M : Mm} {H : Heap} {locs : List Loc} {ls : Array Slot} (hF : F_L_law_224 L xs fu k120 M x3 x4 x5 x6 x7 x8 x9 = some ()) (hw : St G s H locs M) (hl : lv_has ls 24 [(0, .ref b), (1, .ref (ad G 0)), (2, .ref (ad G 86)), (3, .int x3), (4, .int x4), (5, .int x5), (6, .int x6), (7, .int x7), (8, .int x8), (9, .int x9)]) : W p l e room_1 s m #[Value.ref b] below meth c H locs cells slots (lw_Z below #[Value.ref b] s) (F0 m 224 ls []) := by
  unfold F_L_law_224 at hF
  refine lv_iload hC.1 hC.2.1 dL_law_224 (lv_at hl 4 rfl) ?_
  refine lv_iload hC.1 hC.2.1 dL_law_226 (lv_at hl 8 rfl) ?_
  refine lv_ishr hC.1 hC.2.1 dL_law_228 ?_
  refine lv_iconst (v := (1 : Int32)) hC.1 hC.2.1 dL_law_229 (by decide) ?_
  refine lv_iand hC.1 hC.2.1 dL_law_230 ?_
  refine lv_if_ne (tgt := 248) hC.1 hC.2.1 dL_law_231 (by decide) (fun b1 => ?_) (fun b1 => ?_)
  · have hF := ifN hF b1
    refine lv_iinc (v := (x8 + (1 : Int32))) (lv' := [(8, .int (x8 + (1 : Int32))), (0, .ref b), (1, .ref (ad G 0)), (2, .ref (ad G 86)), (3, .int x3), (4, .int x4), (5, .int x5), (6, .int x6), (7, .int x7), (9, .int x9)]) hC.1 hC.2.1 dL_law_248 hl (k := 8) rfl rfl (by decide) rfl (fun ls hl => ?_)
    refine lv_goto (tgt := 120) hC.1 hC.2.1 dL_law_251 (by decide) ?_
    exact hk_120 hF hw (lv_sub hl [1, 2, 3, 4, 5, 6, 7, 8, 0] rfl)
  · have hF := ifP hF b1
    refine lv_iload hC.1 hC.2.1 dL_law_234 (lv_at hl 9 rfl) ?_
    refine lv_aload_n hC.1 hC.2.1 dL_law_236 rfl (lv_at hl 2 rfl) ?_
    refine lv_bipush (v := (12 : Int32)) hC.1 hC.2.1 dL_law_237 (by decide) ?_
    refine lv_iload hC.1 hC.2.1 dL_law_239 (lv_at hl 8 rfl) ?_
    refine lv_iadd hC.1 hC.2.1 dL_law_241 ?_
    obtain ⟨n2, hF⟩ := ifO hF
    refine r_iald hC.1 hC.2.1 hw (rfl : kd 86 = 1) n2 dL_law_242 ?_
    refine lv_icmp_eq (tgt := 248) hC.1 hC.2.1 dL_law_243 (by decide) (fun b3 => ?_) (fun b3 => ?_)
    · have hF := ifP hF b3
      refine lv_iinc (v := (x8 + (1 : Int32))) (lv' := [(8, .int (x8 + (1 : Int32))), (0, .ref b), (1, .ref (ad G 0)), (2, .ref (ad G 86)), (3, .int x3), (4, .int x4), (5, .int x5), (6, .int x6), (7, .int x7), (9, .int x9)]) hC.1 hC.2.1 dL_law_248 hl (k := 8) rfl rfl (by decide) rfl (fun ls hl => ?_)
      refine lv_goto (tgt := 120) hC.1 hC.2.1 dL_law_251 (by decide) ?_
      exact hk_120 hF hw (lv_sub hl [1, 2, 3, 4, 5, 6, 7, 8, 0] rfl)
    · have hF := ifN hF b3
      refine lv_iconst (v := (0 : Int32)) hC.1 hC.2.1 dL_law_246 (by decide) ?_
      cases hF
def F_L_law_478 (L : Nat) (xs : Nat → Int32) (fu : Nat) (k291 : Mm → Int32 → Int32 → Int32 → Option Unit) (M : Mm) (x3 : Int32) (x5 : Int32) (x8 : Int32) : Option Unit :=
  ob2 (F_X6_on fu M (0 : Int32)) (fun r2 M3 =>
  if r2 = 0 then
    k291 M3 x3 x5 (x8 + (1 : Int32))
  else
    none)
set_option maxRecDepth 100000 in
set_option maxHeartbeats 4000000 in
theorem w_L_law_478 {b L : Nat} {xs : Nat → Int32} {p : Program} {l : Launch} {e : Env} {s : State} {m : MethodId} {below : List Frame} {meth : Method} {c : Code} {G : Gv} (hC : Cx p s m #[Value.ref b] meth c cL_law 24 (some .boolean) RL) (hX : va_X b L xs s s.heap) (hbl : b < s.heap.size) (hbA : ¬ zA G b) (hAd : ∀ x, x < zNC → s.heap.size ≤ ad G x) {cells slots : Nat} (hz : cells ≤ 600000 ∧ slots ≤ 7302250) {fu : Nat} {k291 : Mm → Int32 → Int32 → Int32 → Option Unit} (hk_291 : ∀ {x3 : Int32} {x5 : Int32} {x8 : Int32} {M : Mm} {H : Heap} {locs : List Loc} {ls : Array Slot}, k291 M x3 x5 x8 = some () → St G s H locs M → lv_has ls 24 [(0, .ref b), (1, .ref (ad G 0)), (2, .ref (ad G 86)), (3, .int x3), (5, .int x5), (8, .int x8)] → W p l e room_1 s m #[Value.ref b] below meth c H locs cells slots (lw_Z below #[Value.ref b] s) (F0 m 291 ls [])) {x3 : Int32} {x5 : Int32} {x8 : Int32} {M : Mm} {H : Heap} {locs : List Loc} {ls : Array Slot} (hF : F_L_law_478 L xs fu k291 M x3 x5 x8 = some ()) (hw : St G s H locs M) (hl : lv_has ls 24 [(0, .ref b), (1, .ref (ad G 0)), (2, .ref (ad G 86)), (3, .int x3), (5, .int x5), (8, .int x8)]) : W p l e room_1 s m #[Value.ref b] below meth c H locs cells slots (lw_Z below #[Value.ref b] s) (F0 m 478 ls []) := by
  unfold F_L_law_478 at hF
  refine lv_aload_n hC.1 hC.2.1 dL_law_478 rfl (lv_at hl 1 rfl) ?_
  refine lv_iconst (v := (0 : Int32)) hC.1 hC.2.1 dL_law_479 (by decide) ?_
  obtain ⟨r2, M3, h1, hF⟩ := ob2S hF
  refine k_Vi (As := [.int (0 : Int32)]) (rest := []) hC hw (c_X6_on (M := M) h1) RC_S yv_X6_on q2_139 ⟨rfl, rfl⟩ ⟨Nat.le_of_ble_eq_true rfl, Nat.le_of_ble_eq_true rfl⟩ hz rfl rfl (Nat.le_of_ble_eq_true rfl) hl dL_law_480 (fun H locs hw => ?_)
  refine lv_if_eq (tgt := 488) hC.1 hC.2.1 dL_law_483 (by decide) (fun b4 => ?_) (fun b4 => ?_)
  · have hF := ifP hF b4
    refine lv_iinc (v := (x8 + (1 : Int32))) (lv' := [(8, .int (x8 + (1 : Int32))), (0, .ref b), (1, .ref (ad G 0)), (2, .ref (ad G 86)), (3, .int x3), (5, .int x5)]) hC.1 hC.2.1 dL_law_488 hl (k := 5) rfl rfl (by decide) rfl (fun ls hl => ?_)
    refine lv_goto (tgt := 291) hC.1 hC.2.1 dL_law_491 (by decide) ?_
    exact hk_291 hF hw (lv_sub hl [1, 2, 3, 4, 5, 0] rfl)
  · have hF := ifN hF b4
    refine lv_iconst (v := (0 : Int32)) hC.1 hC.2.1 dL_law_486 (by decide) ?_
    cases hF
def F_L_law_475 (L : Nat) (xs : Nat → Int32) (fu : Nat) (k291 : Mm → Int32 → Int32 → Int32 → Option Unit) (M : Mm) (x3 : Int32) (x5 : Int32) (x8 : Int32) (t0 : Int32) (t1 : Int32) : Option Unit :=
  if t0 = t1 then
    F_L_law_478 L xs fu k291 M x3 x5 x8
  else
    none
set_option maxRecDepth 100000 in
set_option maxHeartbeats 4000000 in
theorem w_L_law_475 {b L : Nat} {xs : Nat → Int32} {p : Program} {l : Launch} {e : Env} {s : State} {m : MethodId} {below : List Frame} {meth : Method} {c : Code} {G : Gv} (hC : Cx p s m #[Value.ref b] meth c cL_law 24 (some .boolean) RL) (hX : va_X b L xs s s.heap) (hbl : b < s.heap.size) (hbA : ¬ zA G b) (hAd : ∀ x, x < zNC → s.heap.size ≤ ad G x) {cells slots : Nat} (hz : cells ≤ 600000 ∧ slots ≤ 7302250) {fu : Nat} {k291 : Mm → Int32 → Int32 → Int32 → Option Unit} (hk_291 : ∀ {x3 : Int32} {x5 : Int32} {x8 : Int32} {M : Mm} {H : Heap} {locs : List Loc} {ls : Array Slot}, k291 M x3 x5 x8 = some () → St G s H locs M → lv_has ls 24 [(0, .ref b), (1, .ref (ad G 0)), (2, .ref (ad G 86)), (3, .int x3), (5, .int x5), (8, .int x8)] → W p l e room_1 s m #[Value.ref b] below meth c H locs cells slots (lw_Z below #[Value.ref b] s) (F0 m 291 ls [])) {x3 : Int32} {x5 : Int32} {x8 : Int32} {t0 : Int32} {t1 : Int32} {M : Mm} {H : Heap} {locs : List Loc} {ls : Array Slot} (hF : F_L_law_475 L xs fu k291 M x3 x5 x8 t0 t1 = some ()) (hw : St G s H locs M) (hl : lv_has ls 24 [(0, .ref b), (1, .ref (ad G 0)), (2, .ref (ad G 86)), (3, .int x3), (5, .int x5), (8, .int x8)]) : W p l e room_1 s m #[Value.ref b] below meth c H locs cells slots (lw_Z below #[Value.ref b] s) (F0 m 475 ls [.int t1, .int t0]) := by
  unfold F_L_law_475 at hF
  refine lv_icmp_ne (tgt := 486) hC.1 hC.2.1 dL_law_475 (by decide) (fun b1 => ?_) (fun b1 => ?_)
  · have hF := ifN hF b1
    refine lv_iconst (v := (0 : Int32)) hC.1 hC.2.1 dL_law_486 (by decide) ?_
    cases hF
  · have hF := ifP hF b1
    exact w_L_law_478 hC hX hbl hbA hAd hz (hk_291 := hk_291) hF hw (lv_sub hl [0, 1, 2, 3, 4, 5] rfl)
def F_L_law_455 (L : Nat) (xs : Nat → Int32) (fu : Nat) (k291 : Mm → Int32 → Int32 → Int32 → Option Unit) (M : Mm) (x3 : Int32) (x5 : Int32) (x8 : Int32) (x9 : Int32) (t0 : Int32) : Option Unit :=
  if x9 ≤ 0 then
    F_L_law_478 L xs fu k291 M x3 x5 x8
  else
    if x8 = (1 : Int32) then
      F_L_law_475 L xs fu k291 M x3 x5 x8 t0 (1 : Int32)
    else
      F_L_law_475 L xs fu k291 M x3 x5 x8 t0 (0 : Int32)
set_option maxRecDepth 100000 in
set_option maxHeartbeats 4000000 in
theorem w_L_law_455 {b L : Nat} {xs : Nat → Int32} {p : Program} {l : Launch} {e : Env} {s : State} {m : MethodId} {below : List Frame} {meth : Method} {c : Code} {G : Gv} (hC : Cx p s m #[Value.ref b] meth c cL_law 24 (some .boolean) RL) (hX : va_X b L xs s s.heap) (hbl : b < s.heap.size) (hbA : ¬ zA G b) (hAd : ∀ x, x < zNC → s.heap.size ≤ ad G x) {cells slots : Nat} (hz : cells ≤ 600000 ∧ slots ≤ 7302250) {fu : Nat} {k291 : Mm → Int32 → Int32 → Int32 → Option Unit} (hk_291 : ∀ {x3 : Int32} {x5 : Int32} {x8 : Int32} {M : Mm} {H : Heap} {locs : List Loc} {ls : Array Slot}, k291 M x3 x5 x8 = some () → St G s H locs M → lv_has ls 24 [(0, .ref b), (1, .ref (ad G 0)), (2, .ref (ad G 86)), (3, .int x3), (5, .int x5), (8, .int x8)] → W p l e room_1 s m #[Value.ref b] below meth c H locs cells slots (lw_Z below #[Value.ref b] s) (F0 m 291 ls [])) {x3 : Int32} {x5 : Int32} {x8 : Int32} {x9 : Int32} {t0 : Int32} {M : Mm} {H : Heap} {locs : List Loc} {ls : Array Slot} (hF : F_L_law_455 L xs fu k291 M x3 x5 x8 x9 t0 = some ()) (hw : St G s H locs M) (hl : lv_has ls 24 [(0, .ref b), (1, .ref (ad G 0)), (2, .ref (ad G 86)), (3, .int x3), (5, .int x5), (8, .int x8), (9, .int x9)]) : W p l e room_1 s m #[Value.ref b] below meth c H locs cells slots (lw_Z below #[Value.ref b] s) (F0 m 455 ls [.int t0]) := by
  unfold F_L_law_455 at hF
  refine lv_istore (lv' := [(11, .int t0), (0, .ref b), (1, .ref (ad G 0)), (2, .ref (ad G 86)), (3, .int x3), (5, .int x5), (8, .int x8), (9, .int x9)]) hC.1 hC.2.1 dL_law_455 hl (by decide) rfl (fun ls hl => ?_)
  refine lv_iload hC.1 hC.2.1 dL_law_457 (lv_at hl 7 rfl) ?_
  refine lv_if_le (tgt := 478) hC.1 hC.2.1 dL_law_459 (by decide) (fun b1 => ?_) (fun b1 => ?_)
  · have hF := ifP hF b1
    exact w_L_law_478 hC hX hbl hbA hAd hz (hk_291 := hk_291) hF hw (lv_sub hl [1, 2, 3, 4, 5, 6] rfl)
  · have hF := ifN hF b1
    refine lv_iload hC.1 hC.2.1 dL_law_462 (lv_at hl 0 rfl) ?_
    refine lv_iload hC.1 hC.2.1 dL_law_464 (lv_at hl 6 rfl) ?_
    refine lv_iconst (v := (1 : Int32)) hC.1 hC.2.1 dL_law_466 (by decide) ?_
    refine lv_icmp_ne (tgt := 474) hC.1 hC.2.1 dL_law_467 (by decide) (fun b2 => ?_) (fun b2 => ?_)
    · have hF := ifN hF b2
      refine lv_iconst (v := (0 : Int32)) hC.1 hC.2.1 dL_law_474 (by decide) ?_
      exact w_L_law_475 hC hX hbl hbA hAd hz (hk_291 := hk_291) hF hw (lv_sub hl [1, 2, 3, 4, 5, 6] rfl)
    · have hF := ifP hF b2
      refine lv_iconst (v := (1 : Int32)) hC.1 hC.2.1 dL_law_470 (by decide) ?_
      refine lv_goto (tgt := 475) hC.1 hC.2.1 dL_law_471 (by decide) ?_
      exact w_L_law_475 hC hX hbl hbA hAd hz (hk_291 := hk_291) hF hw (lv_sub hl [1, 2, 3, 4, 5, 6] rfl)
def F_L_law_433 (L : Nat) (xs : Nat → Int32) (fu : Nat) (k291 : Mm → Int32 → Int32 → Int32 → Option Unit) (M : Mm) (x3 : Int32) (x5 : Int32) (x8 : Int32) (x9 : Int32) : Option Unit :=
  ob2 (F_X6_votes fu M x5) (fun r2 M3 =>
  ob1 (F_X6_asked fu M3) (fun r5 =>
  if r2 ≤ r5 then
    F_L_law_455 L xs fu k291 M3 x3 x5 x8 x9 (0 : Int32)
  else
    F_L_law_455 L xs fu k291 M3 x3 x5 x8 x9 (1 : Int32)))
set_option maxRecDepth 100000 in
set_option maxHeartbeats 4000000 in
theorem w_L_law_433 {b L : Nat} {xs : Nat → Int32} {p : Program} {l : Launch} {e : Env} {s : State} {m : MethodId} {below : List Frame} {meth : Method} {c : Code} {G : Gv} (hC : Cx p s m #[Value.ref b] meth c cL_law 24 (some .boolean) RL) (hX : va_X b L xs s s.heap) (hbl : b < s.heap.size) (hbA : ¬ zA G b) (hAd : ∀ x, x < zNC → s.heap.size ≤ ad G x) {cells slots : Nat} (hz : cells ≤ 600000 ∧ slots ≤ 7302250) {fu : Nat} {k291 : Mm → Int32 → Int32 → Int32 → Option Unit} (hk_291 : ∀ {x3 : Int32} {x5 : Int32} {x8 : Int32} {M : Mm} {H : Heap} {locs : List Loc} {ls : Array Slot}, k291 M x3 x5 x8 = some () → St G s H locs M → lv_has ls 24 [(0, .ref b), (1, .ref (ad G 0)), (2, .ref (ad G 86)), (3, .int x3), (5, .int x5), (8, .int x8)] → W p l e room_1 s m #[Value.ref b] below meth c H locs cells slots (lw_Z below #[Value.ref b] s) (F0 m 291 ls [])) {x3 : Int32} {x5 : Int32} {x8 : Int32} {x9 : Int32} {M : Mm} {H : Heap} {locs : List Loc} {ls : Array Slot} (hF : F_L_law_433 L xs fu k291 M x3 x5 x8 x9 = some ()) (hw : St G s H locs M) (hl : lv_has ls 24 [(0, .ref b), (1, .ref (ad G 0)), (2, .ref (ad G 86)), (3, .int x3), (5, .int x5), (8, .int x8), (9, .int x9)]) : W p l e room_1 s m #[Value.ref b] below meth c H locs cells slots (lw_Z below #[Value.ref b] s) (F0 m 433 ls []) := by
  unfold F_L_law_433 at hF
  refine lv_aload_n hC.1 hC.2.1 dL_law_433 rfl (lv_at hl 1 rfl) ?_
  refine lv_iload hC.1 hC.2.1 dL_law_434 (lv_at hl 4 rfl) ?_
  obtain ⟨r2, M3, h1, hF⟩ := ob2S hF
  refine k_Vi (As := [.int x5]) (rest := []) hC hw (c_X6_votes (M := M) h1) RC_S yv_X6_votes q2_170 ⟨rfl, rfl⟩ ⟨Nat.le_of_ble_eq_true rfl, Nat.le_of_ble_eq_true rfl⟩ hz rfl rfl (Nat.le_of_ble_eq_true rfl) hl dL_law_436 (fun H locs hw => ?_)
  refine lv_istore (lv' := [(10, .int r2), (0, .ref b), (1, .ref (ad G 0)), (2, .ref (ad G 86)), (3, .int x3), (5, .int x5), (8, .int x8), (9, .int x9)]) hC.1 hC.2.1 dL_law_439 hl (by decide) rfl (fun ls hl => ?_)
  refine lv_iload hC.1 hC.2.1 dL_law_441 (lv_at hl 0 rfl) ?_
  refine lv_aload_n hC.1 hC.2.1 dL_law_443 rfl (lv_at hl 2 rfl) ?_
  obtain ⟨r5, h4, hF⟩ := ob1S hF
  refine k_Vi (As := []) (rest := [.int r2]) hC hw (c_X6_asked (M := M3) h4) RC_S yv_X6_asked q3_86 ⟨rfl, rfl⟩ ⟨Nat.le_of_ble_eq_true rfl, Nat.le_of_ble_eq_true rfl⟩ hz rfl rfl (Nat.le_of_ble_eq_true rfl) hl dL_law_444 (fun H locs hw => ?_)
  refine lv_icmp_le (tgt := 454) hC.1 hC.2.1 dL_law_447 (by decide) (fun b6 => ?_) (fun b6 => ?_)
  · have hF := ifP hF b6
    refine lv_iconst (v := (0 : Int32)) hC.1 hC.2.1 dL_law_454 (by decide) ?_
    exact w_L_law_455 hC hX hbl hbA hAd hz (hk_291 := hk_291) hF hw (lv_sub hl [1, 2, 3, 4, 5, 6, 7] rfl)
  · have hF := ifN hF b6
    refine lv_iconst (v := (1 : Int32)) hC.1 hC.2.1 dL_law_450 (by decide) ?_
    refine lv_goto (tgt := 455) hC.1 hC.2.1 dL_law_451 (by decide) ?_
    exact w_L_law_455 hC hX hbl hbA hAd hz (hk_291 := hk_291) hF hw (lv_sub hl [1, 2, 3, 4, 5, 6, 7] rfl)
def F_L_law_383 (L : Nat) (xs : Nat → Int32) (fu : Nat) (k291 : Mm → Int32 → Int32 → Int32 → Option Unit) : Nat → Mm → Int32 → Int32 → Int32 → Int32 → Int32 → Option Unit
  | 0, _, _, _, _, _, _ => none
  | n + 1, M, x3, x5, x8, x9, x12 =>
    if x3 ≤ x12 then
      F_L_law_433 L xs fu k291 M x3 x5 x8 x9
    else
      if x9 ≤ 0 then
        F_L_law_433 L xs fu k291 M x3 x5 x8 x9
      else
        ob2 (F_X6_at fu M (2 : Int32) x12) (fun r4 M5 =>
        if r4 = (1 : Int32) then
          ob1 (F_X6_asked fu M5) (fun r8 =>
          ob2 (F_X6_shade fu M5 x12 r8) (fun r10 M11 =>
          if ((12 : Int32) + x12) < 0 ∨ ln 86 ≤ ((12 : Int32) + x12).toNatClampNeg then none else (
          if r10 = (M11.1 86 ((12 : Int32) + x12).toNatClampNeg) then
            F_L_law_383 L xs fu k291 n M11 x3 x5 x8 x9 (x12 + (1 : Int32))
          else
            none)))
        else
          none)
set_option maxRecDepth 100000 in
set_option maxHeartbeats 4000000 in
theorem w_L_law_383 {b L : Nat} {xs : Nat → Int32} {p : Program} {l : Launch} {e : Env} {s : State} {m : MethodId} {below : List Frame} {meth : Method} {c : Code} {G : Gv} (hC : Cx p s m #[Value.ref b] meth c cL_law 24 (some .boolean) RL) (hX : va_X b L xs s s.heap) (hbl : b < s.heap.size) (hbA : ¬ zA G b) (hAd : ∀ x, x < zNC → s.heap.size ≤ ad G x) {cells slots : Nat} (hz : cells ≤ 600000 ∧ slots ≤ 7302250) {fu : Nat} {k291 : Mm → Int32 → Int32 → Int32 → Option Unit} (hk_291 : ∀ {x3 : Int32} {x5 : Int32} {x8 : Int32} {M : Mm} {H : Heap} {locs : List Loc} {ls : Array Slot}, k291 M x3 x5 x8 = some () → St G s H locs M → lv_has ls 24 [(0, .ref b), (1, .ref (ad G 0)), (2, .ref (ad G 86)), (3, .int x3), (5, .int x5), (8, .int x8)] → W p l e room_1 s m #[Value.ref b] below meth c H locs cells slots (lw_Z below #[Value.ref b] s) (F0 m 291 ls [])) : ∀ (n : Nat) {x3 : Int32} {x5 : Int32} {x8 : Int32} {x9 : Int32} {x12 : Int32} {M : Mm} {H : Heap} {locs : List Loc} {ls : Array Slot}, F_L_law_383 L xs fu k291 n M x3 x5 x8 x9 x12 = some () → St G s H locs M → lv_has ls 24 [(0, .ref b), (1, .ref (ad G 0)), (2, .ref (ad G 86)), (3, .int x3), (5, .int x5), (8, .int x8), (9, .int x9), (12, .int x12)] → W p l e room_1 s m #[Value.ref b] below meth c H locs cells slots (lw_Z below #[Value.ref b] s) (F0 m 383 ls []) := by
  intro n
  induction n with
  | zero =>
    intro x3 x5 x8 x9 x12 M H locs ls hF hw hl
    cases hF
  | succ n ih =>
    intro x3 x5 x8 x9 x12 M H locs ls hF hw hl
    unfold F_L_law_383 at hF
    refine lv_iload hC.1 hC.2.1 dL_law_383 (lv_at hl 7 rfl) ?_
    refine lv_iload_n hC.1 hC.2.1 dL_law_385 rfl (lv_at hl 3 rfl) ?_
    refine lv_icmp_ge (tgt := 433) hC.1 hC.2.1 dL_law_386 (by decide) (fun b1 => ?_) (fun b1 => ?_)
    · have hF := ifP hF b1
      exact w_L_law_433 hC hX hbl hbA hAd hz (hk_291 := hk_291) hF hw (lv_sub hl [0, 1, 2, 3, 4, 5, 6] rfl)
    · have hF := ifN hF b1
      refine lv_iload hC.1 hC.2.1 dL_law_389 (lv_at hl 6 rfl) ?_
      refine lv_if_le (tgt := 433) hC.1 hC.2.1 dL_law_391 (by decide) (fun b2 => ?_) (fun b2 => ?_)
      · have hF := ifP hF b2
        exact w_L_law_433 hC hX hbl hbA hAd hz (hk_291 := hk_291) hF hw (lv_sub hl [0, 1, 2, 3, 4, 5, 6] rfl)
      · have hF := ifN hF b2
        refine lv_aload_n hC.1 hC.2.1 dL_law_394 rfl (lv_at hl 1 rfl) ?_
        refine lv_iconst (v := (2 : Int32)) hC.1 hC.2.1 dL_law_395 (by decide) ?_
        refine lv_iload hC.1 hC.2.1 dL_law_396 (lv_at hl 7 rfl) ?_
        obtain ⟨r4, M5, h3, hF⟩ := ob2S hF
        refine k_Vi (As := [.int (2 : Int32), .int x12]) (rest := []) hC hw (c_X6_at (M := M) h3) RC_S yv_X6_at q2_5 ⟨rfl, rfl⟩ ⟨Nat.le_of_ble_eq_true rfl, Nat.le_of_ble_eq_true rfl⟩ hz rfl rfl (Nat.le_of_ble_eq_true rfl) hl dL_law_398 (fun H locs hw => ?_)
        refine lv_iconst (v := (1 : Int32)) hC.1 hC.2.1 dL_law_401 (by decide) ?_
        refine lv_icmp_ne (tgt := 425) hC.1 hC.2.1 dL_law_402 (by decide) (fun b6 => ?_) (fun b6 => ?_)
        · have hF := ifN hF b6
          refine lv_iconst (v := (0 : Int32)) hC.1 hC.2.1 dL_law_425 (by decide) ?_
          cases hF
        · have hF := ifP hF b6
          refine lv_aload_n hC.1 hC.2.1 dL_law_405 rfl (lv_at hl 1 rfl) ?_
          refine lv_iload hC.1 hC.2.1 dL_law_406 (lv_at hl 7 rfl) ?_
          refine lv_aload_n hC.1 hC.2.1 dL_law_408 rfl (lv_at hl 1 rfl) ?_
          obtain ⟨r8, h7, hF⟩ := ob1S hF
          refine k_Vi (As := []) (rest := [.int x12, .ref (ad G 0)]) hC hw (c_X6_asked (M := M5) h7) RC_S yv_X6_asked q3_86 ⟨rfl, rfl⟩ ⟨Nat.le_of_ble_eq_true rfl, Nat.le_of_ble_eq_true rfl⟩ hz rfl rfl (Nat.le_of_ble_eq_true rfl) hl dL_law_409 (fun H locs hw => ?_)
          obtain ⟨r10, M11, h9, hF⟩ := ob2S hF
          refine k_Vi (As := [.int x12, .int r8]) (rest := []) hC hw (c_X6_shade (M := M5) h9) RC_S yv_X6_shade q2_104 ⟨rfl, rfl⟩ ⟨Nat.le_of_ble_eq_true rfl, Nat.le_of_ble_eq_true rfl⟩ hz rfl rfl (Nat.le_of_ble_eq_true rfl) hl dL_law_412 (fun H locs hw => ?_)
          refine lv_aload_n hC.1 hC.2.1 dL_law_415 rfl (lv_at hl 2 rfl) ?_
          refine lv_bipush (v := (12 : Int32)) hC.1 hC.2.1 dL_law_416 (by decide) ?_
          refine lv_iload hC.1 hC.2.1 dL_law_418 (lv_at hl 7 rfl) ?_
          refine lv_iadd hC.1 hC.2.1 dL_law_420 ?_
          obtain ⟨n12, hF⟩ := ifO hF
          refine r_iald hC.1 hC.2.1 hw (rfl : kd 86 = 1) n12 dL_law_421 ?_
          refine lv_icmp_eq (tgt := 427) hC.1 hC.2.1 dL_law_422 (by decide) (fun b13 => ?_) (fun b13 => ?_)
          · have hF := ifP hF b13
            refine lv_iinc (v := (x12 + (1 : Int32))) (lv' := [(12, .int (x12 + (1 : Int32))), (0, .ref b), (1, .ref (ad G 0)), (2, .ref (ad G 86)), (3, .int x3), (5, .int x5), (8, .int x8), (9, .int x9)]) hC.1 hC.2.1 dL_law_427 hl (k := 7) rfl rfl (by decide) rfl (fun ls hl => ?_)
            refine lv_goto (tgt := 383) hC.1 hC.2.1 dL_law_430 (by decide) ?_
            exact ih hF hw (lv_sub hl [1, 2, 3, 4, 5, 6, 7, 0] rfl)
          · have hF := ifN hF b13
            refine lv_iconst (v := (0 : Int32)) hC.1 hC.2.1 dL_law_425 (by decide) ?_
            cases hF
def F_L_law_375 (L : Nat) (xs : Nat → Int32) (fu : Nat) (k291 : Mm → Int32 → Int32 → Int32 → Option Unit) (M : Mm) (x3 : Int32) (x5 : Int32) (x8 : Int32) (x9 : Int32) (t0 : Int32) (t1 : Int32) : Option Unit :=
  if t0 = t1 then
    F_L_law_383 L xs fu k291 fu M x3 x5 x8 x9 (0 : Int32)
  else
    none
set_option maxRecDepth 100000 in
set_option maxHeartbeats 4000000 in
theorem w_L_law_375 {b L : Nat} {xs : Nat → Int32} {p : Program} {l : Launch} {e : Env} {s : State} {m : MethodId} {below : List Frame} {meth : Method} {c : Code} {G : Gv} (hC : Cx p s m #[Value.ref b] meth c cL_law 24 (some .boolean) RL) (hX : va_X b L xs s s.heap) (hbl : b < s.heap.size) (hbA : ¬ zA G b) (hAd : ∀ x, x < zNC → s.heap.size ≤ ad G x) {cells slots : Nat} (hz : cells ≤ 600000 ∧ slots ≤ 7302250) {fu : Nat} {k291 : Mm → Int32 → Int32 → Int32 → Option Unit} (hk_291 : ∀ {x3 : Int32} {x5 : Int32} {x8 : Int32} {M : Mm} {H : Heap} {locs : List Loc} {ls : Array Slot}, k291 M x3 x5 x8 = some () → St G s H locs M → lv_has ls 24 [(0, .ref b), (1, .ref (ad G 0)), (2, .ref (ad G 86)), (3, .int x3), (5, .int x5), (8, .int x8)] → W p l e room_1 s m #[Value.ref b] below meth c H locs cells slots (lw_Z below #[Value.ref b] s) (F0 m 291 ls [])) {x3 : Int32} {x5 : Int32} {x8 : Int32} {x9 : Int32} {t0 : Int32} {t1 : Int32} {M : Mm} {H : Heap} {locs : List Loc} {ls : Array Slot} (hF : F_L_law_375 L xs fu k291 M x3 x5 x8 x9 t0 t1 = some ()) (hw : St G s H locs M) (hl : lv_has ls 24 [(0, .ref b), (1, .ref (ad G 0)), (2, .ref (ad G 86)), (3, .int x3), (5, .int x5), (8, .int x8), (9, .int x9)]) : W p l e room_1 s m #[Value.ref b] below meth c H locs cells slots (lw_Z below #[Value.ref b] s) (F0 m 375 ls [.int t1, .int t0]) := by
  unfold F_L_law_375 at hF
  refine lv_icmp_eq (tgt := 380) hC.1 hC.2.1 dL_law_375 (by decide) (fun b1 => ?_) (fun b1 => ?_)
  · have hF := ifP hF b1
    refine lv_iconst (v := (0 : Int32)) hC.1 hC.2.1 dL_law_380 (by decide) ?_
    refine lv_istore (lv' := [(12, .int (0 : Int32)), (0, .ref b), (1, .ref (ad G 0)), (2, .ref (ad G 86)), (3, .int x3), (5, .int x5), (8, .int x8), (9, .int x9)]) hC.1 hC.2.1 dL_law_381 hl (by decide) rfl (fun ls hl => ?_)
    exact w_L_law_383 hC hX hbl hbA hAd hz (hk_291 := hk_291) _ hF hw (lv_sub hl [1, 2, 3, 4, 5, 6, 7, 0] rfl)
  · have hF := ifN hF b1
    refine lv_iconst (v := (0 : Int32)) hC.1 hC.2.1 dL_law_378 (by decide) ?_
    cases hF
def F_L_law_367 (L : Nat) (xs : Nat → Int32) (fu : Nat) (k291 : Mm → Int32 → Int32 → Int32 → Option Unit) (M : Mm) (x3 : Int32) (x5 : Int32) (x8 : Int32) (x9 : Int32) (t0 : Int32) (t1 : Int32) (t2 : Int32) : Option Unit :=
  if t1 = t2 then
    F_L_law_375 L xs fu k291 M x3 x5 x8 x9 t0 (1 : Int32)
  else
    F_L_law_375 L xs fu k291 M x3 x5 x8 x9 t0 (0 : Int32)
set_option maxRecDepth 100000 in
set_option maxHeartbeats 4000000 in
theorem w_L_law_367 {b L : Nat} {xs : Nat → Int32} {p : Program} {l : Launch} {e : Env} {s : State} {m : MethodId} {below : List Frame} {meth : Method} {c : Code} {G : Gv} (hC : Cx p s m #[Value.ref b] meth c cL_law 24 (some .boolean) RL) (hX : va_X b L xs s s.heap) (hbl : b < s.heap.size) (hbA : ¬ zA G b) (hAd : ∀ x, x < zNC → s.heap.size ≤ ad G x) {cells slots : Nat} (hz : cells ≤ 600000 ∧ slots ≤ 7302250) {fu : Nat} {k291 : Mm → Int32 → Int32 → Int32 → Option Unit} (hk_291 : ∀ {x3 : Int32} {x5 : Int32} {x8 : Int32} {M : Mm} {H : Heap} {locs : List Loc} {ls : Array Slot}, k291 M x3 x5 x8 = some () → St G s H locs M → lv_has ls 24 [(0, .ref b), (1, .ref (ad G 0)), (2, .ref (ad G 86)), (3, .int x3), (5, .int x5), (8, .int x8)] → W p l e room_1 s m #[Value.ref b] below meth c H locs cells slots (lw_Z below #[Value.ref b] s) (F0 m 291 ls [])) {x3 : Int32} {x5 : Int32} {x8 : Int32} {x9 : Int32} {t0 : Int32} {t1 : Int32} {t2 : Int32} {M : Mm} {H : Heap} {locs : List Loc} {ls : Array Slot} (hF : F_L_law_367 L xs fu k291 M x3 x5 x8 x9 t0 t1 t2 = some ()) (hw : St G s H locs M) (hl : lv_has ls 24 [(0, .ref b), (1, .ref (ad G 0)), (2, .ref (ad G 86)), (3, .int x3), (5, .int x5), (8, .int x8), (9, .int x9)]) : W p l e room_1 s m #[Value.ref b] below meth c H locs cells slots (lw_Z below #[Value.ref b] s) (F0 m 367 ls [.int t2, .int t1, .int t0]) := by
  unfold F_L_law_367 at hF
  refine lv_icmp_ne (tgt := 374) hC.1 hC.2.1 dL_law_367 (by decide) (fun b1 => ?_) (fun b1 => ?_)
  · have hF := ifN hF b1
    refine lv_iconst (v := (0 : Int32)) hC.1 hC.2.1 dL_law_374 (by decide) ?_
    exact w_L_law_375 hC hX hbl hbA hAd hz (hk_291 := hk_291) hF hw (lv_sub hl [0, 1, 2, 3, 4, 5, 6] rfl)
  · have hF := ifP hF b1
    refine lv_iconst (v := (1 : Int32)) hC.1 hC.2.1 dL_law_370 (by decide) ?_
    refine lv_goto (tgt := 375) hC.1 hC.2.1 dL_law_371 (by decide) ?_
    exact w_L_law_375 hC hX hbl hbA hAd hz (hk_291 := hk_291) hF hw (lv_sub hl [0, 1, 2, 3, 4, 5, 6] rfl)
def F_L_law_354 (L : Nat) (xs : Nat → Int32) (fu : Nat) (k291 : Mm → Int32 → Int32 → Int32 → Option Unit) (M : Mm) (x3 : Int32) (x5 : Int32) (x8 : Int32) (x9 : Int32) (x11 : Int32) (t0 : Int32) : Option Unit :=
  if x8 = (1 : Int32) then
    F_L_law_367 L xs fu k291 M x3 x5 x8 x9 t0 x11 (1 : Int32)
  else
    F_L_law_367 L xs fu k291 M x3 x5 x8 x9 t0 x11 (0 : Int32)
set_option maxRecDepth 100000 in
set_option maxHeartbeats 4000000 in
theorem w_L_law_354 {b L : Nat} {xs : Nat → Int32} {p : Program} {l : Launch} {e : Env} {s : State} {m : MethodId} {below : List Frame} {meth : Method} {c : Code} {G : Gv} (hC : Cx p s m #[Value.ref b] meth c cL_law 24 (some .boolean) RL) (hX : va_X b L xs s s.heap) (hbl : b < s.heap.size) (hbA : ¬ zA G b) (hAd : ∀ x, x < zNC → s.heap.size ≤ ad G x) {cells slots : Nat} (hz : cells ≤ 600000 ∧ slots ≤ 7302250) {fu : Nat} {k291 : Mm → Int32 → Int32 → Int32 → Option Unit} (hk_291 : ∀ {x3 : Int32} {x5 : Int32} {x8 : Int32} {M : Mm} {H : Heap} {locs : List Loc} {ls : Array Slot}, k291 M x3 x5 x8 = some () → St G s H locs M → lv_has ls 24 [(0, .ref b), (1, .ref (ad G 0)), (2, .ref (ad G 86)), (3, .int x3), (5, .int x5), (8, .int x8)] → W p l e room_1 s m #[Value.ref b] below meth c H locs cells slots (lw_Z below #[Value.ref b] s) (F0 m 291 ls [])) {x3 : Int32} {x5 : Int32} {x8 : Int32} {x9 : Int32} {x11 : Int32} {t0 : Int32} {M : Mm} {H : Heap} {locs : List Loc} {ls : Array Slot} (hF : F_L_law_354 L xs fu k291 M x3 x5 x8 x9 x11 t0 = some ()) (hw : St G s H locs M) (hl : lv_has ls 24 [(0, .ref b), (1, .ref (ad G 0)), (2, .ref (ad G 86)), (3, .int x3), (5, .int x5), (8, .int x8), (9, .int x9), (11, .int x11)]) : W p l e room_1 s m #[Value.ref b] below meth c H locs cells slots (lw_Z below #[Value.ref b] s) (F0 m 354 ls [.int t0]) := by
  unfold F_L_law_354 at hF
  refine lv_iload hC.1 hC.2.1 dL_law_354 (lv_at hl 7 rfl) ?_
  refine lv_iload hC.1 hC.2.1 dL_law_356 (lv_at hl 5 rfl) ?_
  refine lv_iconst (v := (1 : Int32)) hC.1 hC.2.1 dL_law_358 (by decide) ?_
  refine lv_icmp_ne (tgt := 366) hC.1 hC.2.1 dL_law_359 (by decide) (fun b1 => ?_) (fun b1 => ?_)
  · have hF := ifN hF b1
    refine lv_iconst (v := (0 : Int32)) hC.1 hC.2.1 dL_law_366 (by decide) ?_
    exact w_L_law_367 hC hX hbl hbA hAd hz (hk_291 := hk_291) hF hw (lv_sub hl [0, 1, 2, 3, 4, 5, 6] rfl)
  · have hF := ifP hF b1
    refine lv_iconst (v := (1 : Int32)) hC.1 hC.2.1 dL_law_362 (by decide) ?_
    refine lv_goto (tgt := 367) hC.1 hC.2.1 dL_law_363 (by decide) ?_
    exact w_L_law_367 hC hX hbl hbA hAd hz (hk_291 := hk_291) hF hw (lv_sub hl [0, 1, 2, 3, 4, 5, 6] rfl)
def F_L_law_344 (L : Nat) (xs : Nat → Int32) (fu : Nat) (k291 : Mm → Int32 → Int32 → Int32 → Option Unit) (M : Mm) (x3 : Int32) (x5 : Int32) (x8 : Int32) (x9 : Int32) (x11 : Int32) : Option Unit :=
  if x9 = 0 then
    F_L_law_354 L xs fu k291 M x3 x5 x8 x9 x11 (1 : Int32)
  else
    F_L_law_354 L xs fu k291 M x3 x5 x8 x9 x11 (0 : Int32)
set_option maxRecDepth 100000 in
set_option maxHeartbeats 4000000 in
theorem w_L_law_344 {b L : Nat} {xs : Nat → Int32} {p : Program} {l : Launch} {e : Env} {s : State} {m : MethodId} {below : List Frame} {meth : Method} {c : Code} {G : Gv} (hC : Cx p s m #[Value.ref b] meth c cL_law 24 (some .boolean) RL) (hX : va_X b L xs s s.heap) (hbl : b < s.heap.size) (hbA : ¬ zA G b) (hAd : ∀ x, x < zNC → s.heap.size ≤ ad G x) {cells slots : Nat} (hz : cells ≤ 600000 ∧ slots ≤ 7302250) {fu : Nat} {k291 : Mm → Int32 → Int32 → Int32 → Option Unit} (hk_291 : ∀ {x3 : Int32} {x5 : Int32} {x8 : Int32} {M : Mm} {H : Heap} {locs : List Loc} {ls : Array Slot}, k291 M x3 x5 x8 = some () → St G s H locs M → lv_has ls 24 [(0, .ref b), (1, .ref (ad G 0)), (2, .ref (ad G 86)), (3, .int x3), (5, .int x5), (8, .int x8)] → W p l e room_1 s m #[Value.ref b] below meth c H locs cells slots (lw_Z below #[Value.ref b] s) (F0 m 291 ls [])) {x3 : Int32} {x5 : Int32} {x8 : Int32} {x9 : Int32} {x11 : Int32} {M : Mm} {H : Heap} {locs : List Loc} {ls : Array Slot} (hF : F_L_law_344 L xs fu k291 M x3 x5 x8 x9 x11 = some ()) (hw : St G s H locs M) (hl : lv_has ls 24 [(0, .ref b), (1, .ref (ad G 0)), (2, .ref (ad G 86)), (3, .int x3), (5, .int x5), (8, .int x8), (9, .int x9), (11, .int x11)]) : W p l e room_1 s m #[Value.ref b] below meth c H locs cells slots (lw_Z below #[Value.ref b] s) (F0 m 344 ls []) := by
  unfold F_L_law_344 at hF
  refine lv_iload hC.1 hC.2.1 dL_law_344 (lv_at hl 6 rfl) ?_
  refine lv_if_ne (tgt := 353) hC.1 hC.2.1 dL_law_346 (by decide) (fun b1 => ?_) (fun b1 => ?_)
  · have hF := ifN hF b1
    refine lv_iconst (v := (0 : Int32)) hC.1 hC.2.1 dL_law_353 (by decide) ?_
    exact w_L_law_354 hC hX hbl hbA hAd hz (hk_291 := hk_291) hF hw (lv_sub hl [0, 1, 2, 3, 4, 5, 6, 7] rfl)
  · have hF := ifP hF b1
    refine lv_iconst (v := (1 : Int32)) hC.1 hC.2.1 dL_law_349 (by decide) ?_
    refine lv_goto (tgt := 354) hC.1 hC.2.1 dL_law_350 (by decide) ?_
    exact w_L_law_354 hC hX hbl hbA hAd hz (hk_291 := hk_291) hF hw (lv_sub hl [0, 1, 2, 3, 4, 5, 6, 7] rfl)
def F_L_law_330 (L : Nat) (xs : Nat → Int32) (fu : Nat) (k291 : Mm → Int32 → Int32 → Int32 → Option Unit) (M : Mm) (x3 : Int32) (x5 : Int32) (x8 : Int32) (x9 : Int32) (t0 : Int32) : Option Unit :=
  if 0 ≤ x9 then
    F_L_law_344 L xs fu k291 M x3 x5 x8 x9 t0
  else
    if x9 = (-9 : Int32) then
      F_L_law_344 L xs fu k291 M x3 x5 x8 x9 t0
    else
      none
set_option maxRecDepth 100000 in
set_option maxHeartbeats 4000000 in
theorem w_L_law_330 {b L : Nat} {xs : Nat → Int32} {p : Program} {l : Launch} {e : Env} {s : State} {m : MethodId} {below : List Frame} {meth : Method} {c : Code} {G : Gv} (hC : Cx p s m #[Value.ref b] meth c cL_law 24 (some .boolean) RL) (hX : va_X b L xs s s.heap) (hbl : b < s.heap.size) (hbA : ¬ zA G b) (hAd : ∀ x, x < zNC → s.heap.size ≤ ad G x) {cells slots : Nat} (hz : cells ≤ 600000 ∧ slots ≤ 7302250) {fu : Nat} {k291 : Mm → Int32 → Int32 → Int32 → Option Unit} (hk_291 : ∀ {x3 : Int32} {x5 : Int32} {x8 : Int32} {M : Mm} {H : Heap} {locs : List Loc} {ls : Array Slot}, k291 M x3 x5 x8 = some () → St G s H locs M → lv_has ls 24 [(0, .ref b), (1, .ref (ad G 0)), (2, .ref (ad G 86)), (3, .int x3), (5, .int x5), (8, .int x8)] → W p l e room_1 s m #[Value.ref b] below meth c H locs cells slots (lw_Z below #[Value.ref b] s) (F0 m 291 ls [])) {x3 : Int32} {x5 : Int32} {x8 : Int32} {x9 : Int32} {t0 : Int32} {M : Mm} {H : Heap} {locs : List Loc} {ls : Array Slot} (hF : F_L_law_330 L xs fu k291 M x3 x5 x8 x9 t0 = some ()) (hw : St G s H locs M) (hl : lv_has ls 24 [(0, .ref b), (1, .ref (ad G 0)), (2, .ref (ad G 86)), (3, .int x3), (5, .int x5), (8, .int x8), (9, .int x9)]) : W p l e room_1 s m #[Value.ref b] below meth c H locs cells slots (lw_Z below #[Value.ref b] s) (F0 m 330 ls [.int t0]) := by
  unfold F_L_law_330 at hF
  refine lv_istore (lv' := [(11, .int t0), (0, .ref b), (1, .ref (ad G 0)), (2, .ref (ad G 86)), (3, .int x3), (5, .int x5), (8, .int x8), (9, .int x9)]) hC.1 hC.2.1 dL_law_330 hl (by decide) rfl (fun ls hl => ?_)
  refine lv_iload hC.1 hC.2.1 dL_law_332 (lv_at hl 7 rfl) ?_
  refine lv_if_ge (tgt := 344) hC.1 hC.2.1 dL_law_334 (by decide) (fun b1 => ?_) (fun b1 => ?_)
  · have hF := ifP hF b1
    exact w_L_law_344 hC hX hbl hbA hAd hz (hk_291 := hk_291) hF hw (lv_sub hl [1, 2, 3, 4, 5, 6, 7, 0] rfl)
  · have hF := ifN hF b1
    refine lv_iload hC.1 hC.2.1 dL_law_337 (lv_at hl 7 rfl) ?_
    refine lv_bipush (v := (-9 : Int32)) hC.1 hC.2.1 dL_law_339 (by decide) ?_
    refine lv_icmp_ne (tgt := 378) hC.1 hC.2.1 dL_law_341 (by decide) (fun b2 => ?_) (fun b2 => ?_)
    · have hF := ifN hF b2
      refine lv_iconst (v := (0 : Int32)) hC.1 hC.2.1 dL_law_378 (by decide) ?_
      cases hF
    · have hF := ifP hF b2
      exact w_L_law_344 hC hX hbl hbA hAd hz (hk_291 := hk_291) hF hw (lv_sub hl [1, 2, 3, 4, 5, 6, 7, 0] rfl)
def F_L_law_708 (L : Nat) (xs : Nat → Int32) (fu : Nat) (k666 : Mm → Int32 → Int32 → Int32 → Int32 → Int32 → Option Unit) (M : Mm) (x3 : Int32) (x8 : Int32) (x10 : Int32) (x12 : Int32) (t0 : Int32) (t1 : Int32) : Option Unit :=
  ob2 (F_X6_day fu M) (fun r2 M3 =>
  if 0 ≤ r2 then
    k666 M3 x3 x8 x10 (t0 + t1) (x12 + (1 : Int32))
  else
    none)
set_option maxRecDepth 100000 in
set_option maxHeartbeats 4000000 in
theorem w_L_law_708 {b L : Nat} {xs : Nat → Int32} {p : Program} {l : Launch} {e : Env} {s : State} {m : MethodId} {below : List Frame} {meth : Method} {c : Code} {G : Gv} (hC : Cx p s m #[Value.ref b] meth c cL_law 24 (some .boolean) RL) (hX : va_X b L xs s s.heap) (hbl : b < s.heap.size) (hbA : ¬ zA G b) (hAd : ∀ x, x < zNC → s.heap.size ≤ ad G x) {cells slots : Nat} (hz : cells ≤ 600000 ∧ slots ≤ 7302250) {fu : Nat} {k666 : Mm → Int32 → Int32 → Int32 → Int32 → Int32 → Option Unit} (hk_666 : ∀ {x3 : Int32} {x8 : Int32} {x10 : Int32} {x11 : Int32} {x12 : Int32} {M : Mm} {H : Heap} {locs : List Loc} {ls : Array Slot}, k666 M x3 x8 x10 x11 x12 = some () → St G s H locs M → lv_has ls 24 [(0, .ref b), (1, .ref (ad G 0)), (2, .ref (ad G 86)), (3, .int x3), (8, .int x8), (10, .int x10), (11, .int x11), (12, .int x12)] → W p l e room_1 s m #[Value.ref b] below meth c H locs cells slots (lw_Z below #[Value.ref b] s) (F0 m 666 ls [])) {x3 : Int32} {x8 : Int32} {x10 : Int32} {x12 : Int32} {t0 : Int32} {t1 : Int32} {M : Mm} {H : Heap} {locs : List Loc} {ls : Array Slot} (hF : F_L_law_708 L xs fu k666 M x3 x8 x10 x12 t0 t1 = some ()) (hw : St G s H locs M) (hl : lv_has ls 24 [(0, .ref b), (1, .ref (ad G 0)), (2, .ref (ad G 86)), (3, .int x3), (8, .int x8), (10, .int x10), (12, .int x12)]) : W p l e room_1 s m #[Value.ref b] below meth c H locs cells slots (lw_Z below #[Value.ref b] s) (F0 m 708 ls [.int t1, .int t0]) := by
  unfold F_L_law_708 at hF
  refine lv_iadd hC.1 hC.2.1 dL_law_708 ?_
  refine lv_istore (lv' := [(11, .int (t0 + t1)), (0, .ref b), (1, .ref (ad G 0)), (2, .ref (ad G 86)), (3, .int x3), (8, .int x8), (10, .int x10), (12, .int x12)]) hC.1 hC.2.1 dL_law_709 hl (by decide) rfl (fun ls hl => ?_)
  refine lv_aload_n hC.1 hC.2.1 dL_law_711 rfl (lv_at hl 2 rfl) ?_
  obtain ⟨r2, M3, h1, hF⟩ := ob2S hF
  refine k_Vi (As := []) (rest := []) hC hw (c_X6_day (M := M) h1) RC_S yv_X6_day q2_63 ⟨rfl, rfl⟩ ⟨Nat.le_of_ble_eq_true rfl, Nat.le_of_ble_eq_true rfl⟩ hz rfl rfl (Nat.le_of_ble_eq_true rfl) hl dL_law_712 (fun H locs hw => ?_)
  refine lv_if_ge (tgt := 720) hC.1 hC.2.1 dL_law_715 (by decide) (fun b4 => ?_) (fun b4 => ?_)
  · have hF := ifP hF b4
    refine lv_iinc (v := (x12 + (1 : Int32))) (lv' := [(12, .int (x12 + (1 : Int32))), (11, .int (t0 + t1)), (0, .ref b), (1, .ref (ad G 0)), (2, .ref (ad G 86)), (3, .int x3), (8, .int x8), (10, .int x10)]) hC.1 hC.2.1 dL_law_720 hl (k := 7) rfl rfl (by decide) rfl (fun ls hl => ?_)
    refine lv_goto (tgt := 666) hC.1 hC.2.1 dL_law_723 (by decide) ?_
    exact hk_666 hF hw (lv_sub hl [2, 3, 4, 5, 6, 7, 1, 0] rfl)
  · have hF := ifN hF b4
    refine lv_iconst (v := (0 : Int32)) hC.1 hC.2.1 dL_law_718 (by decide) ?_
    cases hF
def F_L_law_890 (L : Nat) (xs : Nat → Int32) (fu : Nat) (k853 : Mm → Int32 → Int32 → Int32 → Int32 → Int32 → Int32 → Int32 → Int32 → Int32 → Option Unit) (M : Mm) (x3 : Int32) (x8 : Int32) (x12 : Int32) (x13 : Int32) (x14 : Int32) (x17 : Int32) (x18 : Int32) (x19 : Int32) (x20 : Int32) : Option Unit :=
  ob2 (F_X6_day fu M) (fun r2 M3 =>
  if 0 ≤ r2 then
    k853 M3 x3 x8 x12 x13 x14 x17 x18 x19 (x20 + (1 : Int32))
  else
    none)
set_option maxRecDepth 100000 in
set_option maxHeartbeats 4000000 in
theorem w_L_law_890 {b L : Nat} {xs : Nat → Int32} {p : Program} {l : Launch} {e : Env} {s : State} {m : MethodId} {below : List Frame} {meth : Method} {c : Code} {G : Gv} (hC : Cx p s m #[Value.ref b] meth c cL_law 24 (some .boolean) RL) (hX : va_X b L xs s s.heap) (hbl : b < s.heap.size) (hbA : ¬ zA G b) (hAd : ∀ x, x < zNC → s.heap.size ≤ ad G x) {cells slots : Nat} (hz : cells ≤ 600000 ∧ slots ≤ 7302250) {fu : Nat} {k853 : Mm → Int32 → Int32 → Int32 → Int32 → Int32 → Int32 → Int32 → Int32 → Int32 → Option Unit} (hk_853 : ∀ {x3 : Int32} {x8 : Int32} {x12 : Int32} {x13 : Int32} {x14 : Int32} {x17 : Int32} {x18 : Int32} {x19 : Int32} {x20 : Int32} {M : Mm} {H : Heap} {locs : List Loc} {ls : Array Slot}, k853 M x3 x8 x12 x13 x14 x17 x18 x19 x20 = some () → St G s H locs M → lv_has ls 24 [(0, .ref b), (1, .ref (ad G 0)), (2, .ref (ad G 86)), (3, .int x3), (8, .int x8), (12, .int x12), (13, .int x13), (14, .int x14), (17, .int x17), (18, .int x18), (19, .int x19), (20, .int x20)] → W p l e room_1 s m #[Value.ref b] below meth c H locs cells slots (lw_Z below #[Value.ref b] s) (F0 m 853 ls [])) {x3 : Int32} {x8 : Int32} {x12 : Int32} {x13 : Int32} {x14 : Int32} {x17 : Int32} {x18 : Int32} {x19 : Int32} {x20 : Int32} {M : Mm} {H : Heap} {locs : List Loc} {ls : Array Slot} (hF : F_L_law_890 L xs fu k853 M x3 x8 x12 x13 x14 x17 x18 x19 x20 = some ()) (hw : St G s H locs M) (hl : lv_has ls 24 [(0, .ref b), (1, .ref (ad G 0)), (2, .ref (ad G 86)), (3, .int x3), (8, .int x8), (12, .int x12), (13, .int x13), (14, .int x14), (17, .int x17), (18, .int x18), (19, .int x19), (20, .int x20)]) : W p l e room_1 s m #[Value.ref b] below meth c H locs cells slots (lw_Z below #[Value.ref b] s) (F0 m 890 ls []) := by
  unfold F_L_law_890 at hF
  refine lv_aload_n hC.1 hC.2.1 dL_law_890 rfl (lv_at hl 1 rfl) ?_
  obtain ⟨r2, M3, h1, hF⟩ := ob2S hF
  refine k_Vi (As := []) (rest := []) hC hw (c_X6_day (M := M) h1) RC_S yv_X6_day q2_63 ⟨rfl, rfl⟩ ⟨Nat.le_of_ble_eq_true rfl, Nat.le_of_ble_eq_true rfl⟩ hz rfl rfl (Nat.le_of_ble_eq_true rfl) hl dL_law_891 (fun H locs hw => ?_)
  refine lv_if_ge (tgt := 899) hC.1 hC.2.1 dL_law_894 (by decide) (fun b4 => ?_) (fun b4 => ?_)
  · have hF := ifP hF b4
    refine lv_iinc (v := (x20 + (1 : Int32))) (lv' := [(20, .int (x20 + (1 : Int32))), (0, .ref b), (1, .ref (ad G 0)), (2, .ref (ad G 86)), (3, .int x3), (8, .int x8), (12, .int x12), (13, .int x13), (14, .int x14), (17, .int x17), (18, .int x18), (19, .int x19)]) hC.1 hC.2.1 dL_law_899 hl (k := 11) rfl rfl (by decide) rfl (fun ls hl => ?_)
    refine lv_goto (tgt := 853) hC.1 hC.2.1 dL_law_902 (by decide) ?_
    exact hk_853 hF hw (lv_sub hl [1, 2, 3, 4, 5, 6, 7, 8, 9, 10, 11, 0] rfl)
  · have hF := ifN hF b4
    refine lv_iconst (v := (0 : Int32)) hC.1 hC.2.1 dL_law_897 (by decide) ?_
    cases hF
def F_L_law_887 (L : Nat) (xs : Nat → Int32) (fu : Nat) (k853 : Mm → Int32 → Int32 → Int32 → Int32 → Int32 → Int32 → Int32 → Int32 → Int32 → Option Unit) (M : Mm) (x3 : Int32) (x8 : Int32) (x12 : Int32) (x13 : Int32) (x14 : Int32) (x17 : Int32) (x18 : Int32) (x19 : Int32) (x20 : Int32) (t0 : Int32) (t1 : Int32) : Option Unit :=
  if t0 = t1 then
    F_L_law_890 L xs fu k853 M x3 x8 x12 x13 x14 x17 x18 x19 x20
  else
    none
set_option maxRecDepth 100000 in
set_option maxHeartbeats 4000000 in
theorem w_L_law_887 {b L : Nat} {xs : Nat → Int32} {p : Program} {l : Launch} {e : Env} {s : State} {m : MethodId} {below : List Frame} {meth : Method} {c : Code} {G : Gv} (hC : Cx p s m #[Value.ref b] meth c cL_law 24 (some .boolean) RL) (hX : va_X b L xs s s.heap) (hbl : b < s.heap.size) (hbA : ¬ zA G b) (hAd : ∀ x, x < zNC → s.heap.size ≤ ad G x) {cells slots : Nat} (hz : cells ≤ 600000 ∧ slots ≤ 7302250) {fu : Nat} {k853 : Mm → Int32 → Int32 → Int32 → Int32 → Int32 → Int32 → Int32 → Int32 → Int32 → Option Unit} (hk_853 : ∀ {x3 : Int32} {x8 : Int32} {x12 : Int32} {x13 : Int32} {x14 : Int32} {x17 : Int32} {x18 : Int32} {x19 : Int32} {x20 : Int32} {M : Mm} {H : Heap} {locs : List Loc} {ls : Array Slot}, k853 M x3 x8 x12 x13 x14 x17 x18 x19 x20 = some () → St G s H locs M → lv_has ls 24 [(0, .ref b), (1, .ref (ad G 0)), (2, .ref (ad G 86)), (3, .int x3), (8, .int x8), (12, .int x12), (13, .int x13), (14, .int x14), (17, .int x17), (18, .int x18), (19, .int x19), (20, .int x20)] → W p l e room_1 s m #[Value.ref b] below meth c H locs cells slots (lw_Z below #[Value.ref b] s) (F0 m 853 ls [])) {x3 : Int32} {x8 : Int32} {x12 : Int32} {x13 : Int32} {x14 : Int32} {x17 : Int32} {x18 : Int32} {x19 : Int32} {x20 : Int32} {t0 : Int32} {t1 : Int32} {M : Mm} {H : Heap} {locs : List Loc} {ls : Array Slot} (hF : F_L_law_887 L xs fu k853 M x3 x8 x12 x13 x14 x17 x18 x19 x20 t0 t1 = some ()) (hw : St G s H locs M) (hl : lv_has ls 24 [(0, .ref b), (1, .ref (ad G 0)), (2, .ref (ad G 86)), (3, .int x3), (8, .int x8), (12, .int x12), (13, .int x13), (14, .int x14), (17, .int x17), (18, .int x18), (19, .int x19), (20, .int x20)]) : W p l e room_1 s m #[Value.ref b] below meth c H locs cells slots (lw_Z below #[Value.ref b] s) (F0 m 887 ls [.int t1, .int t0]) := by
  unfold F_L_law_887 at hF
  refine lv_icmp_ne (tgt := 897) hC.1 hC.2.1 dL_law_887 (by decide) (fun b1 => ?_) (fun b1 => ?_)
  · have hF := ifN hF b1
    refine lv_iconst (v := (0 : Int32)) hC.1 hC.2.1 dL_law_897 (by decide) ?_
    cases hF
  · have hF := ifP hF b1
    exact w_L_law_890 hC hX hbl hbA hAd hz (hk_853 := hk_853) hF hw (lv_sub hl [0, 1, 2, 3, 4, 5, 6, 7, 8, 9, 10, 11] rfl)
def F_L_law_1264 (L : Nat) (xs : Nat → Int32) (fu : Nat) : Nat → Mm → Int32 → Int32 → Int32 → Option Unit
  | 0, _, _, _, _ => none
  | n + 1, M, x3, x22, x23 =>
    if x3 ≤ x23 then
      if ¬ x22 = 1 then none else some ()
    else
      if x22 = 0 then
        F_L_law_1264 L xs fu n M x3 (0 : Int32) (x23 + (1 : Int32))
      else
        ob1 (F_X6_bulk fu M x23 (0 : Int32)) (fun r4 =>
        if ((6 : Int32) + x23) < 0 ∨ ln 86 ≤ ((6 : Int32) + x23).toNatClampNeg then none else (
        if r4 = (M.1 86 ((6 : Int32) + x23).toNatClampNeg) then
          ob2 (F_X6_man fu M x23 (2 : Int32)) (fun r8 M9 =>
          if r8 = (1 : Int32) then
            ob1 (F_X6_asked fu M9) (fun r12 =>
            if ((12 : Int32) + x23) < 0 ∨ ln 86 ≤ ((12 : Int32) + x23).toNatClampNeg then none else (
            if r12 = (M9.1 86 ((12 : Int32) + x23).toNatClampNeg) then
              F_L_law_1264 L xs fu n M9 x3 (1 : Int32) (x23 + (1 : Int32))
            else
              F_L_law_1264 L xs fu n M9 x3 (0 : Int32) (x23 + (1 : Int32))))
          else
            F_L_law_1264 L xs fu n M9 x3 (0 : Int32) (x23 + (1 : Int32)))
        else
          F_L_law_1264 L xs fu n M x3 (0 : Int32) (x23 + (1 : Int32))))
set_option maxRecDepth 100000 in
set_option maxHeartbeats 4000000 in
theorem w_L_law_1264 {b L : Nat} {xs : Nat → Int32} {p : Program} {l : Launch} {e : Env} {s : State} {m : MethodId} {below : List Frame} {meth : Method} {c : Code} {G : Gv} (hC : Cx p s m #[Value.ref b] meth c cL_law 24 (some .boolean) RL) (hX : va_X b L xs s s.heap) (hbl : b < s.heap.size) (hbA : ¬ zA G b) (hAd : ∀ x, x < zNC → s.heap.size ≤ ad G x) {cells slots : Nat} (hz : cells ≤ 600000 ∧ slots ≤ 7302250) {fu : Nat} : ∀ (n : Nat) {x3 : Int32} {x22 : Int32} {x23 : Int32} {M : Mm} {H : Heap} {locs : List Loc} {ls : Array Slot}, F_L_law_1264 L xs fu n M x3 x22 x23 = some () → St G s H locs M → lv_has ls 24 [(1, .ref (ad G 0)), (2, .ref (ad G 86)), (3, .int x3), (22, .int x22), (23, .int x23)] → W p l e room_1 s m #[Value.ref b] below meth c H locs cells slots (lw_Z below #[Value.ref b] s) (F0 m 1264 ls []) := by
  intro n
  induction n with
  | zero =>
    intro x3 x22 x23 M H locs ls hF hw hl
    cases hF
  | succ n ih =>
    intro x3 x22 x23 M H locs ls hF hw hl
    unfold F_L_law_1264 at hF
    refine lv_iload hC.1 hC.2.1 dL_law_1264 (lv_at hl 4 rfl) ?_
    refine lv_iload_n hC.1 hC.2.1 dL_law_1266 rfl (lv_at hl 2 rfl) ?_
    refine lv_icmp_ge (tgt := 1330) hC.1 hC.2.1 dL_law_1267 (by decide) (fun b1 => ?_) (fun b1 => ?_)
    · have hF := ifP hF b1
      refine lv_iload hC.1 hC.2.1 dL_law_1330 (lv_at hl 3 rfl) ?_
      obtain ⟨n0, hF⟩ := ifO hF
      exact law_end hC hAd hw hz (Decidable.not_not.mp n0) dL_law_1332
    · have hF := ifN hF b1
      refine lv_iload hC.1 hC.2.1 dL_law_1270 (lv_at hl 3 rfl) ?_
      refine lv_if_eq (tgt := 1321) hC.1 hC.2.1 dL_law_1272 (by decide) (fun b2 => ?_) (fun b2 => ?_)
      · have hF := ifP hF b2
        refine lv_iconst (v := (0 : Int32)) hC.1 hC.2.1 dL_law_1321 (by decide) ?_
        refine lv_istore (lv' := [(22, .int (0 : Int32)), (1, .ref (ad G 0)), (2, .ref (ad G 86)), (3, .int x3), (23, .int x23)]) hC.1 hC.2.1 dL_law_1322 hl (by decide) rfl (fun ls hl => ?_)
        refine lv_iinc (v := (x23 + (1 : Int32))) (lv' := [(23, .int (x23 + (1 : Int32))), (22, .int (0 : Int32)), (1, .ref (ad G 0)), (2, .ref (ad G 86)), (3, .int x3)]) hC.1 hC.2.1 dL_law_1324 hl (k := 4) rfl rfl (by decide) rfl (fun ls hl => ?_)
        refine lv_goto (tgt := 1264) hC.1 hC.2.1 dL_law_1327 (by decide) ?_
        exact ih hF hw (lv_sub hl [2, 3, 4, 1, 0] rfl)
      · have hF := ifN hF b2
        refine lv_aload_n hC.1 hC.2.1 dL_law_1275 rfl (lv_at hl 0 rfl) ?_
        refine lv_iload hC.1 hC.2.1 dL_law_1276 (lv_at hl 4 rfl) ?_
        refine lv_iconst (v := (0 : Int32)) hC.1 hC.2.1 dL_law_1278 (by decide) ?_
        obtain ⟨r4, h3, hF⟩ := ob1S hF
        refine k_Vi (As := [.int x23, .int (0 : Int32)]) (rest := []) hC hw (c_X6_bulk (M := M) h3) RC_S yv_X6_bulk q2_143 ⟨rfl, rfl⟩ ⟨Nat.le_of_ble_eq_true rfl, Nat.le_of_ble_eq_true rfl⟩ hz rfl rfl (Nat.le_of_ble_eq_true rfl) hl dL_law_1279 (fun H locs hw => ?_)
        refine lv_aload_n hC.1 hC.2.1 dL_law_1282 rfl (lv_at hl 1 rfl) ?_
        refine lv_bipush (v := (6 : Int32)) hC.1 hC.2.1 dL_law_1283 (by decide) ?_
        refine lv_iload hC.1 hC.2.1 dL_law_1285 (lv_at hl 4 rfl) ?_
        refine lv_iadd hC.1 hC.2.1 dL_law_1287 ?_
        obtain ⟨n5, hF⟩ := ifO hF
        refine r_iald hC.1 hC.2.1 hw (rfl : kd 86 = 1) n5 dL_law_1288 ?_
        refine lv_icmp_ne (tgt := 1321) hC.1 hC.2.1 dL_law_1289 (by decide) (fun b6 => ?_) (fun b6 => ?_)
        · have hF := ifN hF b6
          refine lv_iconst (v := (0 : Int32)) hC.1 hC.2.1 dL_law_1321 (by decide) ?_
          refine lv_istore (lv' := [(22, .int (0 : Int32)), (1, .ref (ad G 0)), (2, .ref (ad G 86)), (3, .int x3), (23, .int x23)]) hC.1 hC.2.1 dL_law_1322 hl (by decide) rfl (fun ls hl => ?_)
          refine lv_iinc (v := (x23 + (1 : Int32))) (lv' := [(23, .int (x23 + (1 : Int32))), (22, .int (0 : Int32)), (1, .ref (ad G 0)), (2, .ref (ad G 86)), (3, .int x3)]) hC.1 hC.2.1 dL_law_1324 hl (k := 4) rfl rfl (by decide) rfl (fun ls hl => ?_)
          refine lv_goto (tgt := 1264) hC.1 hC.2.1 dL_law_1327 (by decide) ?_
          exact ih hF hw (lv_sub hl [2, 3, 4, 1, 0] rfl)
        · have hF := ifP hF b6
          refine lv_aload_n hC.1 hC.2.1 dL_law_1292 rfl (lv_at hl 0 rfl) ?_
          refine lv_iload hC.1 hC.2.1 dL_law_1293 (lv_at hl 4 rfl) ?_
          refine lv_iconst (v := (2 : Int32)) hC.1 hC.2.1 dL_law_1295 (by decide) ?_
          obtain ⟨r8, M9, h7, hF⟩ := ob2S hF
          refine k_Vi (As := [.int x23, .int (2 : Int32)]) (rest := []) hC hw (c_X6_man (M := M) h7) RC_S yv_X6_man q2_27 ⟨rfl, rfl⟩ ⟨Nat.le_of_ble_eq_true rfl, Nat.le_of_ble_eq_true rfl⟩ hz rfl rfl (Nat.le_of_ble_eq_true rfl) hl dL_law_1296 (fun H locs hw => ?_)
          refine lv_iconst (v := (1 : Int32)) hC.1 hC.2.1 dL_law_1299 (by decide) ?_
          refine lv_icmp_ne (tgt := 1321) hC.1 hC.2.1 dL_law_1300 (by decide) (fun b10 => ?_) (fun b10 => ?_)
          · have hF := ifN hF b10
            refine lv_iconst (v := (0 : Int32)) hC.1 hC.2.1 dL_law_1321 (by decide) ?_
            refine lv_istore (lv' := [(22, .int (0 : Int32)), (1, .ref (ad G 0)), (2, .ref (ad G 86)), (3, .int x3), (23, .int x23)]) hC.1 hC.2.1 dL_law_1322 hl (by decide) rfl (fun ls hl => ?_)
            refine lv_iinc (v := (x23 + (1 : Int32))) (lv' := [(23, .int (x23 + (1 : Int32))), (22, .int (0 : Int32)), (1, .ref (ad G 0)), (2, .ref (ad G 86)), (3, .int x3)]) hC.1 hC.2.1 dL_law_1324 hl (k := 4) rfl rfl (by decide) rfl (fun ls hl => ?_)
            refine lv_goto (tgt := 1264) hC.1 hC.2.1 dL_law_1327 (by decide) ?_
            exact ih hF hw (lv_sub hl [2, 3, 4, 1, 0] rfl)
          · have hF := ifP hF b10
            refine lv_aload_n hC.1 hC.2.1 dL_law_1303 rfl (lv_at hl 0 rfl) ?_
            obtain ⟨r12, h11, hF⟩ := ob1S hF
            refine k_Vi (As := []) (rest := []) hC hw (c_X6_asked (M := M9) h11) RC_S yv_X6_asked q3_86 ⟨rfl, rfl⟩ ⟨Nat.le_of_ble_eq_true rfl, Nat.le_of_ble_eq_true rfl⟩ hz rfl rfl (Nat.le_of_ble_eq_true rfl) hl dL_law_1304 (fun H locs hw => ?_)
            refine lv_aload_n hC.1 hC.2.1 dL_law_1307 rfl (lv_at hl 1 rfl) ?_
            refine lv_bipush (v := (12 : Int32)) hC.1 hC.2.1 dL_law_1308 (by decide) ?_
            refine lv_iload hC.1 hC.2.1 dL_law_1310 (lv_at hl 4 rfl) ?_
            refine lv_iadd hC.1 hC.2.1 dL_law_1312 ?_
            obtain ⟨n13, hF⟩ := ifO hF
            refine r_iald hC.1 hC.2.1 hw (rfl : kd 86 = 1) n13 dL_law_1313 ?_
            refine lv_icmp_ne (tgt := 1321) hC.1 hC.2.1 dL_law_1314 (by decide) (fun b14 => ?_) (fun b14 => ?_)
            · have hF := ifN hF b14
              refine lv_iconst (v := (0 : Int32)) hC.1 hC.2.1 dL_law_1321 (by decide) ?_
              refine lv_istore (lv' := [(22, .int (0 : Int32)), (1, .ref (ad G 0)), (2, .ref (ad G 86)), (3, .int x3), (23, .int x23)]) hC.1 hC.2.1 dL_law_1322 hl (by decide) rfl (fun ls hl => ?_)
              refine lv_iinc (v := (x23 + (1 : Int32))) (lv' := [(23, .int (x23 + (1 : Int32))), (22, .int (0 : Int32)), (1, .ref (ad G 0)), (2, .ref (ad G 86)), (3, .int x3)]) hC.1 hC.2.1 dL_law_1324 hl (k := 4) rfl rfl (by decide) rfl (fun ls hl => ?_)
              refine lv_goto (tgt := 1264) hC.1 hC.2.1 dL_law_1327 (by decide) ?_
              exact ih hF hw (lv_sub hl [2, 3, 4, 1, 0] rfl)
            · have hF := ifP hF b14
              refine lv_iconst (v := (1 : Int32)) hC.1 hC.2.1 dL_law_1317 (by decide) ?_
              refine lv_goto (tgt := 1322) hC.1 hC.2.1 dL_law_1318 (by decide) ?_
              refine lv_istore (lv' := [(22, .int (1 : Int32)), (1, .ref (ad G 0)), (2, .ref (ad G 86)), (3, .int x3), (23, .int x23)]) hC.1 hC.2.1 dL_law_1322 hl (by decide) rfl (fun ls hl => ?_)
              refine lv_iinc (v := (x23 + (1 : Int32))) (lv' := [(23, .int (x23 + (1 : Int32))), (22, .int (1 : Int32)), (1, .ref (ad G 0)), (2, .ref (ad G 86)), (3, .int x3)]) hC.1 hC.2.1 dL_law_1324 hl (k := 4) rfl rfl (by decide) rfl (fun ls hl => ?_)
              refine lv_goto (tgt := 1264) hC.1 hC.2.1 dL_law_1327 (by decide) ?_
              exact ih hF hw (lv_sub hl [2, 3, 4, 1, 0] rfl)
def F_L_law_1138 (L : Nat) (xs : Nat → Int32) (fu : Nat) : Nat → Mm → Int32 → Int32 → Int32 → Int32 → Option Unit
  | 0, _, _, _, _, _ => none
  | n + 1, M, x3, x20, x21, x22 =>
    if x3 ≤ x22 then
      ob1 (F_X6_rights fu M x21) (fun r3 =>
      if ((r3 >>> (x20 &&& 31)) &&& (1 : Int32)) = (1 : Int32) then
        ob1 (F_L_cell L xs fu M (12 : Int32)) (fun r6 =>
        ob1 (F_L_up fu M r6 (9 : Int32)) (fun r8 =>
        ob2 (F_X6_lots fu M ((1 : Int32) + r8) (12 : Int32) (7 : Int32)) (fun r10 M11 =>
        if r10 = x3 then
          ob2 (F_X6_on fu M11 (0 : Int32)) (fun r14 M15 =>
          if r14 = 0 then
            ob1 (F_L_bits fu M15 x21) (fun r18 =>
            if r18 ≤ x3 then
              ob1 (F_X6_count fu M15 (3 : Int32)) (fun r21 =>
              if r21 = 0 then
                ob1 (F_X6_count fu M15 (2 : Int32)) (fun r24 =>
                if (32 : Int32) < 0 ∨ ln 86 ≤ (32 : Int32).toNatClampNeg then none else (
                if r24 = (M15.1 86 (32 : Int32).toNatClampNeg) then
                  F_L_law_1264 L xs fu fu M15 x3 (1 : Int32) (0 : Int32)
                else
                  F_L_law_1264 L xs fu fu M15 x3 (0 : Int32) (0 : Int32)))
              else
                F_L_law_1264 L xs fu fu M15 x3 (0 : Int32) (0 : Int32))
            else
              none)
          else
            none)
        else
          none)))
      else
        none)
    else
      ob2 (F_X6_man fu M x22 (4 : Int32)) (fun r28 M29 =>
      if r28 = (1 : Int32) then
        ob1 (F_X6_asked fu M29) (fun r32 =>
        F_L_law_1138 L xs fu n M29 x3 x20 (x21 ||| (r32 <<< (x22 &&& 31))) (x22 + (1 : Int32)))
      else
        none)
set_option maxRecDepth 100000 in
set_option maxHeartbeats 4000000 in
theorem w_L_law_1138 {b L : Nat} {xs : Nat → Int32} {p : Program} {l : Launch} {e : Env} {s : State} {m : MethodId} {below : List Frame} {meth : Method} {c : Code} {G : Gv} (hC : Cx p s m #[Value.ref b] meth c cL_law 24 (some .boolean) RL) (hX : va_X b L xs s s.heap) (hbl : b < s.heap.size) (hbA : ¬ zA G b) (hAd : ∀ x, x < zNC → s.heap.size ≤ ad G x) {cells slots : Nat} (hz : cells ≤ 600000 ∧ slots ≤ 7302250) {fu : Nat} : ∀ (n : Nat) {x3 : Int32} {x20 : Int32} {x21 : Int32} {x22 : Int32} {M : Mm} {H : Heap} {locs : List Loc} {ls : Array Slot}, F_L_law_1138 L xs fu n M x3 x20 x21 x22 = some () → St G s H locs M → lv_has ls 24 [(0, .ref b), (1, .ref (ad G 0)), (2, .ref (ad G 86)), (3, .int x3), (20, .int x20), (21, .int x21), (22, .int x22)] → W p l e room_1 s m #[Value.ref b] below meth c H locs cells slots (lw_Z below #[Value.ref b] s) (F0 m 1138 ls []) := by
  intro n
  induction n with
  | zero =>
    intro x3 x20 x21 x22 M H locs ls hF hw hl
    cases hF
  | succ n ih =>
    intro x3 x20 x21 x22 M H locs ls hF hw hl
    unfold F_L_law_1138 at hF
    refine lv_iload hC.1 hC.2.1 dL_law_1138 (lv_at hl 6 rfl) ?_
    refine lv_iload_n hC.1 hC.2.1 dL_law_1140 rfl (lv_at hl 3 rfl) ?_
    refine lv_icmp_ge (tgt := 1175) hC.1 hC.2.1 dL_law_1141 (by decide) (fun b1 => ?_) (fun b1 => ?_)
    · have hF := ifP hF b1
      refine lv_aload_n hC.1 hC.2.1 dL_law_1175 rfl (lv_at hl 1 rfl) ?_
      refine lv_iload hC.1 hC.2.1 dL_law_1176 (lv_at hl 5 rfl) ?_
      obtain ⟨r3, h2, hF⟩ := ob1S hF
      refine k_Vi (As := [.int x21]) (rest := []) hC hw (c_X6_rights (M := M) h2) RC_S yv_X6_rights q3_32 ⟨rfl, rfl⟩ ⟨Nat.le_of_ble_eq_true rfl, Nat.le_of_ble_eq_true rfl⟩ hz rfl rfl (Nat.le_of_ble_eq_true rfl) hl dL_law_1178 (fun H locs hw => ?_)
      refine lv_iload hC.1 hC.2.1 dL_law_1181 (lv_at hl 4 rfl) ?_
      refine lv_ishr hC.1 hC.2.1 dL_law_1183 ?_
      refine lv_iconst (v := (1 : Int32)) hC.1 hC.2.1 dL_law_1184 (by decide) ?_
      refine lv_iand hC.1 hC.2.1 dL_law_1185 ?_
      refine lv_iconst (v := (1 : Int32)) hC.1 hC.2.1 dL_law_1186 (by decide) ?_
      refine lv_icmp_ne (tgt := 1232) hC.1 hC.2.1 dL_law_1187 (by decide) (fun b4 => ?_) (fun b4 => ?_)
      · have hF := ifN hF b4
        refine lv_iconst (v := (0 : Int32)) hC.1 hC.2.1 dL_law_1232 (by decide) ?_
        cases hF
      · have hF := ifP hF b4
        refine lv_aload_n hC.1 hC.2.1 dL_law_1190 rfl (lv_at hl 1 rfl) ?_
        refine lv_iconst (v := (1 : Int32)) hC.1 hC.2.1 dL_law_1191 (by decide) ?_
        refine lv_aload_n hC.1 hC.2.1 dL_law_1192 rfl (lv_at hl 0 rfl) ?_
        refine lv_bipush (v := (12 : Int32)) hC.1 hC.2.1 dL_law_1193 (by decide) ?_
        obtain ⟨r6, h5, hF⟩ := ob1S hF
        refine k_Xi (As := [.ref b, .int (12 : Int32)]) (rest := [.int (1 : Int32), .ref (ad G 0)]) hC hX hbl hbA hw (c_L_cell (M := M) h5) ys_L_cell q3_133 ⟨rfl, rfl⟩ ⟨Nat.le_of_ble_eq_true rfl, Nat.le_of_ble_eq_true rfl⟩ hz rfl rfl (Nat.le_of_ble_eq_true rfl) hl dL_law_1195 (fun H locs hw => ?_)
        refine lv_bipush (v := (9 : Int32)) hC.1 hC.2.1 dL_law_1198 (by decide) ?_
        obtain ⟨r8, h7, hF⟩ := ob1S hF
        refine k_Si (As := [.int r6, .int (9 : Int32)]) (rest := [.int (1 : Int32), .ref (ad G 0)]) hC hw (c_L_up (M := M) h7) ys_L_up q3_137 ⟨rfl, rfl⟩ ⟨Nat.le_of_ble_eq_true rfl, Nat.le_of_ble_eq_true rfl⟩ hz rfl rfl (Nat.le_of_ble_eq_true rfl) hl dL_law_1200 (fun H locs hw => ?_)
        refine lv_iadd hC.1 hC.2.1 dL_law_1203 ?_
        refine lv_bipush (v := (12 : Int32)) hC.1 hC.2.1 dL_law_1204 (by decide) ?_
        refine lv_bipush (v := (7 : Int32)) hC.1 hC.2.1 dL_law_1206 (by decide) ?_
        obtain ⟨r10, M11, h9, hF⟩ := ob2S hF
        refine k_Vi (As := [.int ((1 : Int32) + r8), .int (12 : Int32), .int (7 : Int32)]) (rest := []) hC hw (c_X6_lots (M := M) h9) RC_S yv_X6_lots q3_78 ⟨rfl, rfl⟩ ⟨Nat.le_of_ble_eq_true rfl, Nat.le_of_ble_eq_true rfl⟩ hz rfl rfl (Nat.le_of_ble_eq_true rfl) hl dL_law_1208 (fun H locs hw => ?_)
        refine lv_iload_n hC.1 hC.2.1 dL_law_1211 rfl (lv_at hl 3 rfl) ?_
        refine lv_icmp_ne (tgt := 1232) hC.1 hC.2.1 dL_law_1212 (by decide) (fun b12 => ?_) (fun b12 => ?_)
        · have hF := ifN hF b12
          refine lv_iconst (v := (0 : Int32)) hC.1 hC.2.1 dL_law_1232 (by decide) ?_
          cases hF
        · have hF := ifP hF b12
          refine lv_aload_n hC.1 hC.2.1 dL_law_1215 rfl (lv_at hl 1 rfl) ?_
          refine lv_iconst (v := (0 : Int32)) hC.1 hC.2.1 dL_law_1216 (by decide) ?_
          obtain ⟨r14, M15, h13, hF⟩ := ob2S hF
          refine k_Vi (As := [.int (0 : Int32)]) (rest := []) hC hw (c_X6_on (M := M11) h13) RC_S yv_X6_on q2_139 ⟨rfl, rfl⟩ ⟨Nat.le_of_ble_eq_true rfl, Nat.le_of_ble_eq_true rfl⟩ hz rfl rfl (Nat.le_of_ble_eq_true rfl) hl dL_law_1217 (fun H locs hw => ?_)
          refine lv_if_ne (tgt := 1232) hC.1 hC.2.1 dL_law_1220 (by decide) (fun b16 => ?_) (fun b16 => ?_)
          · have hF := ifN hF b16
            refine lv_iconst (v := (0 : Int32)) hC.1 hC.2.1 dL_law_1232 (by decide) ?_
            cases hF
          · have hF := ifP hF b16
            refine lv_iload hC.1 hC.2.1 dL_law_1223 (lv_at hl 5 rfl) ?_
            obtain ⟨r18, h17, hF⟩ := ob1S hF
            refine k_Si (As := [.int x21]) (rest := []) hC hw (c_L_bits (M := M15) h17) ys_L_bits q3_141 ⟨rfl, rfl⟩ ⟨Nat.le_of_ble_eq_true rfl, Nat.le_of_ble_eq_true rfl⟩ hz rfl rfl (Nat.le_of_ble_eq_true rfl) hl dL_law_1225 (fun H locs hw => ?_)
            refine lv_iload_n hC.1 hC.2.1 dL_law_1228 rfl (lv_at hl 3 rfl) ?_
            refine lv_icmp_le (tgt := 1234) hC.1 hC.2.1 dL_law_1229 (by decide) (fun b19 => ?_) (fun b19 => ?_)
            · have hF := ifP hF b19
              refine lv_aload_n hC.1 hC.2.1 dL_law_1234 rfl (lv_at hl 1 rfl) ?_
              refine lv_iconst (v := (3 : Int32)) hC.1 hC.2.1 dL_law_1235 (by decide) ?_
              obtain ⟨r21, h20, hF⟩ := ob1S hF
              refine k_Vi (As := [.int (3 : Int32)]) (rest := []) hC hw (c_X6_count (M := M15) h20) RC_S yv_X6_count q3_98 ⟨rfl, rfl⟩ ⟨Nat.le_of_ble_eq_true rfl, Nat.le_of_ble_eq_true rfl⟩ hz rfl rfl (Nat.le_of_ble_eq_true rfl) hl dL_law_1236 (fun H locs hw => ?_)
              refine lv_if_ne (tgt := 1258) hC.1 hC.2.1 dL_law_1239 (by decide) (fun b22 => ?_) (fun b22 => ?_)
              · have hF := ifN hF b22
                refine lv_iconst (v := (0 : Int32)) hC.1 hC.2.1 dL_law_1258 (by decide) ?_
                refine lv_istore (lv' := [(22, .int (0 : Int32)), (0, .ref b), (1, .ref (ad G 0)), (2, .ref (ad G 86)), (3, .int x3), (20, .int x20), (21, .int x21)]) hC.1 hC.2.1 dL_law_1259 hl (by decide) rfl (fun ls hl => ?_)
                refine lv_iconst (v := (0 : Int32)) hC.1 hC.2.1 dL_law_1261 (by decide) ?_
                refine lv_istore (lv' := [(23, .int (0 : Int32)), (22, .int (0 : Int32)), (0, .ref b), (1, .ref (ad G 0)), (2, .ref (ad G 86)), (3, .int x3), (20, .int x20), (21, .int x21)]) hC.1 hC.2.1 dL_law_1262 hl (by decide) rfl (fun ls hl => ?_)
                exact w_L_law_1264 hC hX hbl hbA hAd hz _ hF hw (lv_sub hl [3, 4, 5, 1, 0] rfl)
              · have hF := ifP hF b22
                refine lv_aload_n hC.1 hC.2.1 dL_law_1242 rfl (lv_at hl 1 rfl) ?_
                refine lv_iconst (v := (2 : Int32)) hC.1 hC.2.1 dL_law_1243 (by decide) ?_
                obtain ⟨r24, h23, hF⟩ := ob1S hF
                refine k_Vi (As := [.int (2 : Int32)]) (rest := []) hC hw (c_X6_count (M := M15) h23) RC_S yv_X6_count q3_98 ⟨rfl, rfl⟩ ⟨Nat.le_of_ble_eq_true rfl, Nat.le_of_ble_eq_true rfl⟩ hz rfl rfl (Nat.le_of_ble_eq_true rfl) hl dL_law_1244 (fun H locs hw => ?_)
                refine lv_aload_n hC.1 hC.2.1 dL_law_1247 rfl (lv_at hl 2 rfl) ?_
                refine lv_bipush (v := (32 : Int32)) hC.1 hC.2.1 dL_law_1248 (by decide) ?_
                obtain ⟨n25, hF⟩ := ifO hF
                refine r_iald hC.1 hC.2.1 hw (rfl : kd 86 = 1) n25 dL_law_1250 ?_
                refine lv_icmp_ne (tgt := 1258) hC.1 hC.2.1 dL_law_1251 (by decide) (fun b26 => ?_) (fun b26 => ?_)
                · have hF := ifN hF b26
                  refine lv_iconst (v := (0 : Int32)) hC.1 hC.2.1 dL_law_1258 (by decide) ?_
                  refine lv_istore (lv' := [(22, .int (0 : Int32)), (0, .ref b), (1, .ref (ad G 0)), (2, .ref (ad G 86)), (3, .int x3), (20, .int x20), (21, .int x21)]) hC.1 hC.2.1 dL_law_1259 hl (by decide) rfl (fun ls hl => ?_)
                  refine lv_iconst (v := (0 : Int32)) hC.1 hC.2.1 dL_law_1261 (by decide) ?_
                  refine lv_istore (lv' := [(23, .int (0 : Int32)), (22, .int (0 : Int32)), (0, .ref b), (1, .ref (ad G 0)), (2, .ref (ad G 86)), (3, .int x3), (20, .int x20), (21, .int x21)]) hC.1 hC.2.1 dL_law_1262 hl (by decide) rfl (fun ls hl => ?_)
                  exact w_L_law_1264 hC hX hbl hbA hAd hz _ hF hw (lv_sub hl [3, 4, 5, 1, 0] rfl)
                · have hF := ifP hF b26
                  refine lv_iconst (v := (1 : Int32)) hC.1 hC.2.1 dL_law_1254 (by decide) ?_
                  refine lv_goto (tgt := 1259) hC.1 hC.2.1 dL_law_1255 (by decide) ?_
                  refine lv_istore (lv' := [(22, .int (1 : Int32)), (0, .ref b), (1, .ref (ad G 0)), (2, .ref (ad G 86)), (3, .int x3), (20, .int x20), (21, .int x21)]) hC.1 hC.2.1 dL_law_1259 hl (by decide) rfl (fun ls hl => ?_)
                  refine lv_iconst (v := (0 : Int32)) hC.1 hC.2.1 dL_law_1261 (by decide) ?_
                  refine lv_istore (lv' := [(23, .int (0 : Int32)), (22, .int (1 : Int32)), (0, .ref b), (1, .ref (ad G 0)), (2, .ref (ad G 86)), (3, .int x3), (20, .int x20), (21, .int x21)]) hC.1 hC.2.1 dL_law_1262 hl (by decide) rfl (fun ls hl => ?_)
                  exact w_L_law_1264 hC hX hbl hbA hAd hz _ hF hw (lv_sub hl [3, 4, 5, 1, 0] rfl)
            · have hF := ifN hF b19
              refine lv_iconst (v := (0 : Int32)) hC.1 hC.2.1 dL_law_1232 (by decide) ?_
              cases hF
    · have hF := ifN hF b1
      refine lv_aload_n hC.1 hC.2.1 dL_law_1144 rfl (lv_at hl 1 rfl) ?_
      refine lv_iload hC.1 hC.2.1 dL_law_1145 (lv_at hl 6 rfl) ?_
      refine lv_iconst (v := (4 : Int32)) hC.1 hC.2.1 dL_law_1147 (by decide) ?_
      obtain ⟨r28, M29, h27, hF⟩ := ob2S hF
      refine k_Vi (As := [.int x22, .int (4 : Int32)]) (rest := []) hC hw (c_X6_man (M := M) h27) RC_S yv_X6_man q2_27 ⟨rfl, rfl⟩ ⟨Nat.le_of_ble_eq_true rfl, Nat.le_of_ble_eq_true rfl⟩ hz rfl rfl (Nat.le_of_ble_eq_true rfl) hl dL_law_1148 (fun H locs hw => ?_)
      refine lv_iconst (v := (1 : Int32)) hC.1 hC.2.1 dL_law_1151 (by decide) ?_
      refine lv_icmp_eq (tgt := 1157) hC.1 hC.2.1 dL_law_1152 (by decide) (fun b30 => ?_) (fun b30 => ?_)
      · have hF := ifP hF b30
        refine lv_iload hC.1 hC.2.1 dL_law_1157 (lv_at hl 5 rfl) ?_
        refine lv_aload_n hC.1 hC.2.1 dL_law_1159 rfl (lv_at hl 1 rfl) ?_
        obtain ⟨r32, h31, hF⟩ := ob1S hF
        refine k_Vi (As := []) (rest := [.int x21]) hC hw (c_X6_asked (M := M29) h31) RC_S yv_X6_asked q3_86 ⟨rfl, rfl⟩ ⟨Nat.le_of_ble_eq_true rfl, Nat.le_of_ble_eq_true rfl⟩ hz rfl rfl (Nat.le_of_ble_eq_true rfl) hl dL_law_1160 (fun H locs hw => ?_)
        refine lv_iload hC.1 hC.2.1 dL_law_1163 (lv_at hl 6 rfl) ?_
        refine lv_ishl hC.1 hC.2.1 dL_law_1165 ?_
        refine lv_ior hC.1 hC.2.1 dL_law_1166 ?_
        refine lv_istore (lv' := [(21, .int (x21 ||| (r32 <<< (x22 &&& 31)))), (0, .ref b), (1, .ref (ad G 0)), (2, .ref (ad G 86)), (3, .int x3), (20, .int x20), (22, .int x22)]) hC.1 hC.2.1 dL_law_1167 hl (by decide) rfl (fun ls hl => ?_)
        refine lv_iinc (v := (x22 + (1 : Int32))) (lv' := [(22, .int (x22 + (1 : Int32))), (21, .int (x21 ||| (r32 <<< (x22 &&& 31)))), (0, .ref b), (1, .ref (ad G 0)), (2, .ref (ad G 86)), (3, .int x3), (20, .int x20)]) hC.1 hC.2.1 dL_law_1169 hl (k := 6) rfl rfl (by decide) rfl (fun ls hl => ?_)
        refine lv_goto (tgt := 1138) hC.1 hC.2.1 dL_law_1172 (by decide) ?_
        exact ih hF hw (lv_sub hl [2, 3, 4, 5, 6, 1, 0] rfl)
      · have hF := ifN hF b30
        refine lv_iconst (v := (0 : Int32)) hC.1 hC.2.1 dL_law_1155 (by decide) ?_
        cases hF
def F_L_law_1053 (L : Nat) (xs : Nat → Int32) (fu : Nat) (M : Mm) (x3 : Int32) (x8 : Int32) (t0 : Int64) (t1 : Int64) : Option Unit :=
  if (lg_cmp t0 t1) = 0 then
    ob2 (F_X6_mid fu M x8 (5 : Int32) (0 : Int32)) (fun r3 M4 =>
    if r3 = (1 : Int32) then
      ob1 (F_X6_upper fu M4) (fun r7 =>
      ob1 (F_X6_bulk fu M4 x8 (5 : Int32)) (fun r9 =>
      if (lg_cmp r7 r9.toInt64) = 0 then
        ob1 (F_X6_lower fu M4) (fun r12 =>
        if (lg_cmp r12 (1 : Int64)) = 0 then
          ob2 (F_X6_mid fu M4 x8 (5 : Int32) (12 : Int32)) (fun r15 M16 =>
          if r15 = (1 : Int32) then
            ob1 (F_X6_upper fu M16) (fun r19 =>
            if ((6 : Int32) + x8) < 0 ∨ ln 86 ≤ ((6 : Int32) + x8).toNatClampNeg then none else (
            if (lg_cmp r19 (M16.1 86 ((6 : Int32) + x8).toNatClampNeg).toInt64) = 0 then
              ob1 (F_X6_count fu M16 (2 : Int32)) (fun r23 =>
              F_L_law_1138 L xs fu fu M16 x3 r23 (0 : Int32) (0 : Int32))
            else
              none))
          else
            none)
        else
          none)
      else
        none))
    else
      none)
  else
    none
set_option maxRecDepth 100000 in
set_option maxHeartbeats 4000000 in
theorem w_L_law_1053 {b L : Nat} {xs : Nat → Int32} {p : Program} {l : Launch} {e : Env} {s : State} {m : MethodId} {below : List Frame} {meth : Method} {c : Code} {G : Gv} (hC : Cx p s m #[Value.ref b] meth c cL_law 24 (some .boolean) RL) (hX : va_X b L xs s s.heap) (hbl : b < s.heap.size) (hbA : ¬ zA G b) (hAd : ∀ x, x < zNC → s.heap.size ≤ ad G x) {cells slots : Nat} (hz : cells ≤ 600000 ∧ slots ≤ 7302250) {fu : Nat} {x3 : Int32} {x8 : Int32} {t0 : Int64} {t1 : Int64} {M : Mm} {H : Heap} {locs : List Loc} {ls : Array Slot} (hF : F_L_law_1053 L xs fu M x3 x8 t0 t1 = some ()) (hw : St G s H locs M) (hl : lv_has ls 24 [(0, .ref b), (1, .ref (ad G 0)), (2, .ref (ad G 86)), (3, .int x3), (8, .int x8)]) : W p l e room_1 s m #[Value.ref b] below meth c H locs cells slots (lw_Z below #[Value.ref b] s) (F0 m 1053 ls [.long t1, .long t0]) := by
  unfold F_L_law_1053 at hF
  refine W.lcmp hC.1 hC.2.1 dL_law_1053 ?_
  refine lv_if_ne (tgt := 1123) hC.1 hC.2.1 dL_law_1054 (by decide) (fun b1 => ?_) (fun b1 => ?_)
  · have hF := ifN hF b1
    refine lv_iconst (v := (0 : Int32)) hC.1 hC.2.1 dL_law_1123 (by decide) ?_
    cases hF
  · have hF := ifP hF b1
    refine lv_aload_n hC.1 hC.2.1 dL_law_1057 rfl (lv_at hl 1 rfl) ?_
    refine lv_iload hC.1 hC.2.1 dL_law_1058 (lv_at hl 4 rfl) ?_
    refine lv_iconst (v := (5 : Int32)) hC.1 hC.2.1 dL_law_1060 (by decide) ?_
    refine lv_iconst (v := (0 : Int32)) hC.1 hC.2.1 dL_law_1061 (by decide) ?_
    obtain ⟨r3, M4, h2, hF⟩ := ob2S hF
    refine k_Vi (As := [.int x8, .int (5 : Int32), .int (0 : Int32)]) (rest := []) hC hw (c_X6_mid (M := M) h2) RC_S yv_X6_mid q3_70 ⟨rfl, rfl⟩ ⟨Nat.le_of_ble_eq_true rfl, Nat.le_of_ble_eq_true rfl⟩ hz rfl rfl (Nat.le_of_ble_eq_true rfl) hl dL_law_1062 (fun H locs hw => ?_)
    refine lv_iconst (v := (1 : Int32)) hC.1 hC.2.1 dL_law_1065 (by decide) ?_
    refine lv_icmp_ne (tgt := 1123) hC.1 hC.2.1 dL_law_1066 (by decide) (fun b5 => ?_) (fun b5 => ?_)
    · have hF := ifN hF b5
      refine lv_iconst (v := (0 : Int32)) hC.1 hC.2.1 dL_law_1123 (by decide) ?_
      cases hF
    · have hF := ifP hF b5
      refine lv_aload_n hC.1 hC.2.1 dL_law_1069 rfl (lv_at hl 1 rfl) ?_
      obtain ⟨r7, h6, hF⟩ := ob1S hF
      refine k_Vl (As := []) (rest := []) hC hw (c_X6_upper (M := M4) h6) RC_S yv_X6_upper q3_90 ⟨rfl, rfl⟩ ⟨Nat.le_of_ble_eq_true rfl, Nat.le_of_ble_eq_true rfl⟩ hz rfl rfl (Nat.le_of_ble_eq_true rfl) hl dL_law_1070 (fun H locs hw => ?_)
      refine lv_aload_n hC.1 hC.2.1 dL_law_1073 rfl (lv_at hl 1 rfl) ?_
      refine lv_iload hC.1 hC.2.1 dL_law_1074 (lv_at hl 4 rfl) ?_
      refine lv_iconst (v := (5 : Int32)) hC.1 hC.2.1 dL_law_1076 (by decide) ?_
      obtain ⟨r9, h8, hF⟩ := ob1S hF
      refine k_Vi (As := [.int x8, .int (5 : Int32)]) (rest := [.long r7]) hC hw (c_X6_bulk (M := M4) h8) RC_S yv_X6_bulk q2_143 ⟨rfl, rfl⟩ ⟨Nat.le_of_ble_eq_true rfl, Nat.le_of_ble_eq_true rfl⟩ hz rfl rfl (Nat.le_of_ble_eq_true rfl) hl dL_law_1077 (fun H locs hw => ?_)
      refine lv_i2l hC.1 hC.2.1 dL_law_1080 rfl ?_
      refine W.lcmp hC.1 hC.2.1 dL_law_1081 ?_
      refine lv_if_ne (tgt := 1123) hC.1 hC.2.1 dL_law_1082 (by decide) (fun b10 => ?_) (fun b10 => ?_)
      · have hF := ifN hF b10
        refine lv_iconst (v := (0 : Int32)) hC.1 hC.2.1 dL_law_1123 (by decide) ?_
        cases hF
      · have hF := ifP hF b10
        refine lv_aload_n hC.1 hC.2.1 dL_law_1085 rfl (lv_at hl 1 rfl) ?_
        obtain ⟨r12, h11, hF⟩ := ob1S hF
        refine k_Vl (As := []) (rest := []) hC hw (c_X6_lower (M := M4) h11) RC_S yv_X6_lower q3_94 ⟨rfl, rfl⟩ ⟨Nat.le_of_ble_eq_true rfl, Nat.le_of_ble_eq_true rfl⟩ hz rfl rfl (Nat.le_of_ble_eq_true rfl) hl dL_law_1086 (fun H locs hw => ?_)
        refine lv_lconst (v := (1 : Int64)) hC.1 hC.2.1 dL_law_1089 (by decide) ?_
        refine W.lcmp hC.1 hC.2.1 dL_law_1090 ?_
        refine lv_if_ne (tgt := 1123) hC.1 hC.2.1 dL_law_1091 (by decide) (fun b13 => ?_) (fun b13 => ?_)
        · have hF := ifN hF b13
          refine lv_iconst (v := (0 : Int32)) hC.1 hC.2.1 dL_law_1123 (by decide) ?_
          cases hF
        · have hF := ifP hF b13
          refine lv_aload_n hC.1 hC.2.1 dL_law_1094 rfl (lv_at hl 1 rfl) ?_
          refine lv_iload hC.1 hC.2.1 dL_law_1095 (lv_at hl 4 rfl) ?_
          refine lv_iconst (v := (5 : Int32)) hC.1 hC.2.1 dL_law_1097 (by decide) ?_
          refine lv_bipush (v := (12 : Int32)) hC.1 hC.2.1 dL_law_1098 (by decide) ?_
          obtain ⟨r15, M16, h14, hF⟩ := ob2S hF
          refine k_Vi (As := [.int x8, .int (5 : Int32), .int (12 : Int32)]) (rest := []) hC hw (c_X6_mid (M := M4) h14) RC_S yv_X6_mid q3_70 ⟨rfl, rfl⟩ ⟨Nat.le_of_ble_eq_true rfl, Nat.le_of_ble_eq_true rfl⟩ hz rfl rfl (Nat.le_of_ble_eq_true rfl) hl dL_law_1100 (fun H locs hw => ?_)
          refine lv_iconst (v := (1 : Int32)) hC.1 hC.2.1 dL_law_1103 (by decide) ?_
          refine lv_icmp_ne (tgt := 1123) hC.1 hC.2.1 dL_law_1104 (by decide) (fun b17 => ?_) (fun b17 => ?_)
          · have hF := ifN hF b17
            refine lv_iconst (v := (0 : Int32)) hC.1 hC.2.1 dL_law_1123 (by decide) ?_
            cases hF
          · have hF := ifP hF b17
            refine lv_aload_n hC.1 hC.2.1 dL_law_1107 rfl (lv_at hl 1 rfl) ?_
            obtain ⟨r19, h18, hF⟩ := ob1S hF
            refine k_Vl (As := []) (rest := []) hC hw (c_X6_upper (M := M16) h18) RC_S yv_X6_upper q3_90 ⟨rfl, rfl⟩ ⟨Nat.le_of_ble_eq_true rfl, Nat.le_of_ble_eq_true rfl⟩ hz rfl rfl (Nat.le_of_ble_eq_true rfl) hl dL_law_1108 (fun H locs hw => ?_)
            refine lv_aload_n hC.1 hC.2.1 dL_law_1111 rfl (lv_at hl 2 rfl) ?_
            refine lv_bipush (v := (6 : Int32)) hC.1 hC.2.1 dL_law_1112 (by decide) ?_
            refine lv_iload hC.1 hC.2.1 dL_law_1114 (lv_at hl 4 rfl) ?_
            refine lv_iadd hC.1 hC.2.1 dL_law_1116 ?_
            obtain ⟨n20, hF⟩ := ifO hF
            refine r_iald hC.1 hC.2.1 hw (rfl : kd 86 = 1) n20 dL_law_1117 ?_
            refine lv_i2l hC.1 hC.2.1 dL_law_1118 rfl ?_
            refine W.lcmp hC.1 hC.2.1 dL_law_1119 ?_
            refine lv_if_eq (tgt := 1125) hC.1 hC.2.1 dL_law_1120 (by decide) (fun b21 => ?_) (fun b21 => ?_)
            · have hF := ifP hF b21
              refine lv_aload_n hC.1 hC.2.1 dL_law_1125 rfl (lv_at hl 1 rfl) ?_
              refine lv_iconst (v := (2 : Int32)) hC.1 hC.2.1 dL_law_1126 (by decide) ?_
              obtain ⟨r23, h22, hF⟩ := ob1S hF
              refine k_Vi (As := [.int (2 : Int32)]) (rest := []) hC hw (c_X6_count (M := M16) h22) RC_S yv_X6_count q3_98 ⟨rfl, rfl⟩ ⟨Nat.le_of_ble_eq_true rfl, Nat.le_of_ble_eq_true rfl⟩ hz rfl rfl (Nat.le_of_ble_eq_true rfl) hl dL_law_1127 (fun H locs hw => ?_)
              refine lv_istore (lv' := [(20, .int r23), (0, .ref b), (1, .ref (ad G 0)), (2, .ref (ad G 86)), (3, .int x3), (8, .int x8)]) hC.1 hC.2.1 dL_law_1130 hl (by decide) rfl (fun ls hl => ?_)
              refine lv_iconst (v := (0 : Int32)) hC.1 hC.2.1 dL_law_1132 (by decide) ?_
              refine lv_istore (lv' := [(21, .int (0 : Int32)), (20, .int r23), (0, .ref b), (1, .ref (ad G 0)), (2, .ref (ad G 86)), (3, .int x3), (8, .int x8)]) hC.1 hC.2.1 dL_law_1133 hl (by decide) rfl (fun ls hl => ?_)
              refine lv_iconst (v := (0 : Int32)) hC.1 hC.2.1 dL_law_1135 (by decide) ?_
              refine lv_istore (lv' := [(22, .int (0 : Int32)), (21, .int (0 : Int32)), (20, .int r23), (0, .ref b), (1, .ref (ad G 0)), (2, .ref (ad G 86)), (3, .int x3), (8, .int x8)]) hC.1 hC.2.1 dL_law_1136 hl (by decide) rfl (fun ls hl => ?_)
              exact w_L_law_1138 hC hX hbl hbA hAd hz _ hF hw (lv_sub hl [3, 4, 5, 6, 2, 1, 0] rfl)
            · have hF := ifN hF b21
              refine lv_iconst (v := (0 : Int32)) hC.1 hC.2.1 dL_law_1123 (by decide) ?_
              cases hF
def F_L_law_970 (L : Nat) (xs : Nat → Int32) (fu : Nat) (M : Mm) (x3 : Int32) (x8 : Int32) (t0 : Int32) (t1 : Int32) : Option Unit :=
  if t0 = t1 then
    ob2 (F_X6_on fu M (0 : Int32)) (fun r3 M4 =>
    if r3 = 0 then
      ob1 (F_X6_count fu M4 (1 : Int32)) (fun r7 =>
      if r7 = 0 then
        ob2 (F_X6_odds fu M4 x8 (5 : Int32) (12 : Int32)) (fun r10 M11 =>
        if r10 = (1 : Int32) then
          ob1 (F_X6_upper fu M11) (fun r14 =>
          if (lg_cmp r14 (1 : Int64)) = 0 then
            ob1 (F_X6_lower fu M11) (fun r17 =>
            if (lg_cmp r17 (1 : Int64)) = 0 then
              ob2 (F_X6_odds fu M11 x8 (5 : Int32) (0 : Int32)) (fun r20 M21 =>
              if r20 = (1 : Int32) then
                ob1 (F_X6_upper fu M21) (fun r24 =>
                ob1 (F_X6_bulk fu M21 x8 (5 : Int32)) (fun r26 =>
                if r26 ≤ 0 then
                  F_L_law_1053 L xs fu M21 x3 x8 r24 (0 : Int64)
                else
                  F_L_law_1053 L xs fu M21 x3 x8 r24 (1 : Int64)))
              else
                none)
            else
              none)
          else
            none)
        else
          none)
      else
        none)
    else
      none)
  else
    none
set_option maxRecDepth 100000 in
set_option maxHeartbeats 4000000 in
theorem w_L_law_970 {b L : Nat} {xs : Nat → Int32} {p : Program} {l : Launch} {e : Env} {s : State} {m : MethodId} {below : List Frame} {meth : Method} {c : Code} {G : Gv} (hC : Cx p s m #[Value.ref b] meth c cL_law 24 (some .boolean) RL) (hX : va_X b L xs s s.heap) (hbl : b < s.heap.size) (hbA : ¬ zA G b) (hAd : ∀ x, x < zNC → s.heap.size ≤ ad G x) {cells slots : Nat} (hz : cells ≤ 600000 ∧ slots ≤ 7302250) {fu : Nat} {x3 : Int32} {x8 : Int32} {t0 : Int32} {t1 : Int32} {M : Mm} {H : Heap} {locs : List Loc} {ls : Array Slot} (hF : F_L_law_970 L xs fu M x3 x8 t0 t1 = some ()) (hw : St G s H locs M) (hl : lv_has ls 24 [(0, .ref b), (1, .ref (ad G 0)), (2, .ref (ad G 86)), (3, .int x3), (8, .int x8)]) : W p l e room_1 s m #[Value.ref b] below meth c H locs cells slots (lw_Z below #[Value.ref b] s) (F0 m 970 ls [.int t1, .int t0]) := by
  unfold F_L_law_970 at hF
  refine lv_icmp_ne (tgt := 989) hC.1 hC.2.1 dL_law_970 (by decide) (fun b1 => ?_) (fun b1 => ?_)
  · have hF := ifN hF b1
    refine lv_iconst (v := (0 : Int32)) hC.1 hC.2.1 dL_law_989 (by decide) ?_
    cases hF
  · have hF := ifP hF b1
    refine lv_aload_n hC.1 hC.2.1 dL_law_973 rfl (lv_at hl 1 rfl) ?_
    refine lv_iconst (v := (0 : Int32)) hC.1 hC.2.1 dL_law_974 (by decide) ?_
    obtain ⟨r3, M4, h2, hF⟩ := ob2S hF
    refine k_Vi (As := [.int (0 : Int32)]) (rest := []) hC hw (c_X6_on (M := M) h2) RC_S yv_X6_on q2_139 ⟨rfl, rfl⟩ ⟨Nat.le_of_ble_eq_true rfl, Nat.le_of_ble_eq_true rfl⟩ hz rfl rfl (Nat.le_of_ble_eq_true rfl) hl dL_law_975 (fun H locs hw => ?_)
    refine lv_if_ne (tgt := 989) hC.1 hC.2.1 dL_law_978 (by decide) (fun b5 => ?_) (fun b5 => ?_)
    · have hF := ifN hF b5
      refine lv_iconst (v := (0 : Int32)) hC.1 hC.2.1 dL_law_989 (by decide) ?_
      cases hF
    · have hF := ifP hF b5
      refine lv_aload_n hC.1 hC.2.1 dL_law_981 rfl (lv_at hl 1 rfl) ?_
      refine lv_iconst (v := (1 : Int32)) hC.1 hC.2.1 dL_law_982 (by decide) ?_
      obtain ⟨r7, h6, hF⟩ := ob1S hF
      refine k_Vi (As := [.int (1 : Int32)]) (rest := []) hC hw (c_X6_count (M := M4) h6) RC_S yv_X6_count q3_98 ⟨rfl, rfl⟩ ⟨Nat.le_of_ble_eq_true rfl, Nat.le_of_ble_eq_true rfl⟩ hz rfl rfl (Nat.le_of_ble_eq_true rfl) hl dL_law_983 (fun H locs hw => ?_)
      refine lv_if_eq (tgt := 991) hC.1 hC.2.1 dL_law_986 (by decide) (fun b8 => ?_) (fun b8 => ?_)
      · have hF := ifP hF b8
        refine lv_aload_n hC.1 hC.2.1 dL_law_991 rfl (lv_at hl 1 rfl) ?_
        refine lv_iload hC.1 hC.2.1 dL_law_992 (lv_at hl 4 rfl) ?_
        refine lv_iconst (v := (5 : Int32)) hC.1 hC.2.1 dL_law_994 (by decide) ?_
        refine lv_bipush (v := (12 : Int32)) hC.1 hC.2.1 dL_law_995 (by decide) ?_
        obtain ⟨r10, M11, h9, hF⟩ := ob2S hF
        refine k_Vi (As := [.int x8, .int (5 : Int32), .int (12 : Int32)]) (rest := []) hC hw (c_X6_odds (M := M4) h9) RC_S yv_X6_odds q3_37 ⟨rfl, rfl⟩ ⟨Nat.le_of_ble_eq_true rfl, Nat.le_of_ble_eq_true rfl⟩ hz rfl rfl (Nat.le_of_ble_eq_true rfl) hl dL_law_997 (fun H locs hw => ?_)
        refine lv_iconst (v := (1 : Int32)) hC.1 hC.2.1 dL_law_1000 (by decide) ?_
        refine lv_icmp_ne (tgt := 1123) hC.1 hC.2.1 dL_law_1001 (by decide) (fun b12 => ?_) (fun b12 => ?_)
        · have hF := ifN hF b12
          refine lv_iconst (v := (0 : Int32)) hC.1 hC.2.1 dL_law_1123 (by decide) ?_
          cases hF
        · have hF := ifP hF b12
          refine lv_aload_n hC.1 hC.2.1 dL_law_1004 rfl (lv_at hl 1 rfl) ?_
          obtain ⟨r14, h13, hF⟩ := ob1S hF
          refine k_Vl (As := []) (rest := []) hC hw (c_X6_upper (M := M11) h13) RC_S yv_X6_upper q3_90 ⟨rfl, rfl⟩ ⟨Nat.le_of_ble_eq_true rfl, Nat.le_of_ble_eq_true rfl⟩ hz rfl rfl (Nat.le_of_ble_eq_true rfl) hl dL_law_1005 (fun H locs hw => ?_)
          refine lv_lconst (v := (1 : Int64)) hC.1 hC.2.1 dL_law_1008 (by decide) ?_
          refine W.lcmp hC.1 hC.2.1 dL_law_1009 ?_
          refine lv_if_ne (tgt := 1123) hC.1 hC.2.1 dL_law_1010 (by decide) (fun b15 => ?_) (fun b15 => ?_)
          · have hF := ifN hF b15
            refine lv_iconst (v := (0 : Int32)) hC.1 hC.2.1 dL_law_1123 (by decide) ?_
            cases hF
          · have hF := ifP hF b15
            refine lv_aload_n hC.1 hC.2.1 dL_law_1013 rfl (lv_at hl 1 rfl) ?_
            obtain ⟨r17, h16, hF⟩ := ob1S hF
            refine k_Vl (As := []) (rest := []) hC hw (c_X6_lower (M := M11) h16) RC_S yv_X6_lower q3_94 ⟨rfl, rfl⟩ ⟨Nat.le_of_ble_eq_true rfl, Nat.le_of_ble_eq_true rfl⟩ hz rfl rfl (Nat.le_of_ble_eq_true rfl) hl dL_law_1014 (fun H locs hw => ?_)
            refine lv_lconst (v := (1 : Int64)) hC.1 hC.2.1 dL_law_1017 (by decide) ?_
            refine W.lcmp hC.1 hC.2.1 dL_law_1018 ?_
            refine lv_if_ne (tgt := 1123) hC.1 hC.2.1 dL_law_1019 (by decide) (fun b18 => ?_) (fun b18 => ?_)
            · have hF := ifN hF b18
              refine lv_iconst (v := (0 : Int32)) hC.1 hC.2.1 dL_law_1123 (by decide) ?_
              cases hF
            · have hF := ifP hF b18
              refine lv_aload_n hC.1 hC.2.1 dL_law_1022 rfl (lv_at hl 1 rfl) ?_
              refine lv_iload hC.1 hC.2.1 dL_law_1023 (lv_at hl 4 rfl) ?_
              refine lv_iconst (v := (5 : Int32)) hC.1 hC.2.1 dL_law_1025 (by decide) ?_
              refine lv_iconst (v := (0 : Int32)) hC.1 hC.2.1 dL_law_1026 (by decide) ?_
              obtain ⟨r20, M21, h19, hF⟩ := ob2S hF
              refine k_Vi (As := [.int x8, .int (5 : Int32), .int (0 : Int32)]) (rest := []) hC hw (c_X6_odds (M := M11) h19) RC_S yv_X6_odds q3_37 ⟨rfl, rfl⟩ ⟨Nat.le_of_ble_eq_true rfl, Nat.le_of_ble_eq_true rfl⟩ hz rfl rfl (Nat.le_of_ble_eq_true rfl) hl dL_law_1027 (fun H locs hw => ?_)
              refine lv_iconst (v := (1 : Int32)) hC.1 hC.2.1 dL_law_1030 (by decide) ?_
              refine lv_icmp_ne (tgt := 1123) hC.1 hC.2.1 dL_law_1031 (by decide) (fun b22 => ?_) (fun b22 => ?_)
              · have hF := ifN hF b22
                refine lv_iconst (v := (0 : Int32)) hC.1 hC.2.1 dL_law_1123 (by decide) ?_
                cases hF
              · have hF := ifP hF b22
                refine lv_aload_n hC.1 hC.2.1 dL_law_1034 rfl (lv_at hl 1 rfl) ?_
                obtain ⟨r24, h23, hF⟩ := ob1S hF
                refine k_Vl (As := []) (rest := []) hC hw (c_X6_upper (M := M21) h23) RC_S yv_X6_upper q3_90 ⟨rfl, rfl⟩ ⟨Nat.le_of_ble_eq_true rfl, Nat.le_of_ble_eq_true rfl⟩ hz rfl rfl (Nat.le_of_ble_eq_true rfl) hl dL_law_1035 (fun H locs hw => ?_)
                refine lv_aload_n hC.1 hC.2.1 dL_law_1038 rfl (lv_at hl 1 rfl) ?_
                refine lv_iload hC.1 hC.2.1 dL_law_1039 (lv_at hl 4 rfl) ?_
                refine lv_iconst (v := (5 : Int32)) hC.1 hC.2.1 dL_law_1041 (by decide) ?_
                obtain ⟨r26, h25, hF⟩ := ob1S hF
                refine k_Vi (As := [.int x8, .int (5 : Int32)]) (rest := [.long r24]) hC hw (c_X6_bulk (M := M21) h25) RC_S yv_X6_bulk q2_143 ⟨rfl, rfl⟩ ⟨Nat.le_of_ble_eq_true rfl, Nat.le_of_ble_eq_true rfl⟩ hz rfl rfl (Nat.le_of_ble_eq_true rfl) hl dL_law_1042 (fun H locs hw => ?_)
                refine lv_if_le (tgt := 1052) hC.1 hC.2.1 dL_law_1045 (by decide) (fun b27 => ?_) (fun b27 => ?_)
                · have hF := ifP hF b27
                  refine lv_lconst (v := (0 : Int64)) hC.1 hC.2.1 dL_law_1052 (by decide) ?_
                  exact w_L_law_1053 hC hX hbl hbA hAd hz hF hw (lv_sub hl [0, 1, 2, 3, 4] rfl)
                · have hF := ifN hF b27
                  refine lv_lconst (v := (1 : Int64)) hC.1 hC.2.1 dL_law_1048 (by decide) ?_
                  refine lv_goto (tgt := 1053) hC.1 hC.2.1 dL_law_1049 (by decide) ?_
                  exact w_L_law_1053 hC hX hbl hbA hAd hz hF hw (lv_sub hl [0, 1, 2, 3, 4] rfl)
      · have hF := ifN hF b8
        refine lv_iconst (v := (0 : Int32)) hC.1 hC.2.1 dL_law_989 (by decide) ?_
        cases hF
def F_L_law_960 (L : Nat) (xs : Nat → Int32) (fu : Nat) (M : Mm) (x3 : Int32) (x8 : Int32) (x17 : Int32) (t0 : Int32) : Option Unit :=
  if x17 ≤ 0 then
    F_L_law_970 L xs fu M x3 x8 t0 (0 : Int32)
  else
    F_L_law_970 L xs fu M x3 x8 t0 (1 : Int32)
set_option maxRecDepth 100000 in
set_option maxHeartbeats 4000000 in
theorem w_L_law_960 {b L : Nat} {xs : Nat → Int32} {p : Program} {l : Launch} {e : Env} {s : State} {m : MethodId} {below : List Frame} {meth : Method} {c : Code} {G : Gv} (hC : Cx p s m #[Value.ref b] meth c cL_law 24 (some .boolean) RL) (hX : va_X b L xs s s.heap) (hbl : b < s.heap.size) (hbA : ¬ zA G b) (hAd : ∀ x, x < zNC → s.heap.size ≤ ad G x) {cells slots : Nat} (hz : cells ≤ 600000 ∧ slots ≤ 7302250) {fu : Nat} {x3 : Int32} {x8 : Int32} {x17 : Int32} {t0 : Int32} {M : Mm} {H : Heap} {locs : List Loc} {ls : Array Slot} (hF : F_L_law_960 L xs fu M x3 x8 x17 t0 = some ()) (hw : St G s H locs M) (hl : lv_has ls 24 [(0, .ref b), (1, .ref (ad G 0)), (2, .ref (ad G 86)), (3, .int x3), (8, .int x8), (17, .int x17)]) : W p l e room_1 s m #[Value.ref b] below meth c H locs cells slots (lw_Z below #[Value.ref b] s) (F0 m 960 ls [.int t0]) := by
  unfold F_L_law_960 at hF
  refine lv_iload hC.1 hC.2.1 dL_law_960 (lv_at hl 5 rfl) ?_
  refine lv_if_le (tgt := 969) hC.1 hC.2.1 dL_law_962 (by decide) (fun b1 => ?_) (fun b1 => ?_)
  · have hF := ifP hF b1
    refine lv_iconst (v := (0 : Int32)) hC.1 hC.2.1 dL_law_969 (by decide) ?_
    exact w_L_law_970 hC hX hbl hbA hAd hz hF hw (lv_sub hl [0, 1, 2, 3, 4] rfl)
  · have hF := ifN hF b1
    refine lv_iconst (v := (1 : Int32)) hC.1 hC.2.1 dL_law_965 (by decide) ?_
    refine lv_goto (tgt := 970) hC.1 hC.2.1 dL_law_966 (by decide) ?_
    exact w_L_law_970 hC hX hbl hbA hAd hz hF hw (lv_sub hl [0, 1, 2, 3, 4] rfl)
def F_L_law_853 (L : Nat) (xs : Nat → Int32) (fu : Nat) : Nat → Mm → Int32 → Int32 → Int32 → Int32 → Int32 → Int32 → Int32 → Int32 → Int32 → Option Unit
  | 0, _, _, _, _, _, _, _, _, _, _ => none
  | n + 1, M, x3, x8, x12, x13, x14, x17, x18, x19, x20 =>
    if x12 ≤ x20 then
      ob2 (F_X6_votes fu M (0 : Int32)) (fun r3 M4 =>
      if r3 = x13 then
        ob1 (F_X6_asked fu M4) (fun r7 =>
        if r7 = x14 then
          ob1 (F_X6_bulk fu M4 x8 (0 : Int32)) (fun r10 =>
          if r10 = x17 then
            ob1 (F_X6_heir fu M4 x8 (0 : Int32)) (fun r13 =>
            if r13 = x18 then
              if x18 = x8 then
                F_L_law_960 L xs fu M4 x3 x8 x17 (1 : Int32)
              else
                F_L_law_960 L xs fu M4 x3 x8 x17 (0 : Int32)
            else
              none)
          else
            none)
        else
          none)
      else
        none)
    else
      if x19 < 0 then
        F_L_law_890 L xs fu (F_L_law_853 L xs fu n) M x3 x8 x12 x13 x14 x17 x18 x19 x20
      else
        ob1 (F_X6_gone fu M x8) (fun r18 =>
        if x19 ≤ x20 then
          F_L_law_887 L xs fu (F_L_law_853 L xs fu n) M x3 x8 x12 x13 x14 x17 x18 x19 x20 r18 (0 : Int32)
        else
          F_L_law_887 L xs fu (F_L_law_853 L xs fu n) M x3 x8 x12 x13 x14 x17 x18 x19 x20 r18 (x19 - x20))
set_option maxRecDepth 100000 in
set_option maxHeartbeats 4000000 in
theorem w_L_law_853 {b L : Nat} {xs : Nat → Int32} {p : Program} {l : Launch} {e : Env} {s : State} {m : MethodId} {below : List Frame} {meth : Method} {c : Code} {G : Gv} (hC : Cx p s m #[Value.ref b] meth c cL_law 24 (some .boolean) RL) (hX : va_X b L xs s s.heap) (hbl : b < s.heap.size) (hbA : ¬ zA G b) (hAd : ∀ x, x < zNC → s.heap.size ≤ ad G x) {cells slots : Nat} (hz : cells ≤ 600000 ∧ slots ≤ 7302250) {fu : Nat} : ∀ (n : Nat) {x3 : Int32} {x8 : Int32} {x12 : Int32} {x13 : Int32} {x14 : Int32} {x17 : Int32} {x18 : Int32} {x19 : Int32} {x20 : Int32} {M : Mm} {H : Heap} {locs : List Loc} {ls : Array Slot}, F_L_law_853 L xs fu n M x3 x8 x12 x13 x14 x17 x18 x19 x20 = some () → St G s H locs M → lv_has ls 24 [(0, .ref b), (1, .ref (ad G 0)), (2, .ref (ad G 86)), (3, .int x3), (8, .int x8), (12, .int x12), (13, .int x13), (14, .int x14), (17, .int x17), (18, .int x18), (19, .int x19), (20, .int x20)] → W p l e room_1 s m #[Value.ref b] below meth c H locs cells slots (lw_Z below #[Value.ref b] s) (F0 m 853 ls []) := by
  intro n
  induction n with
  | zero =>
    intro x3 x8 x12 x13 x14 x17 x18 x19 x20 M H locs ls hF hw hl
    cases hF
  | succ n ih =>
    intro x3 x8 x12 x13 x14 x17 x18 x19 x20 M H locs ls hF hw hl
    unfold F_L_law_853 at hF
    refine lv_iload hC.1 hC.2.1 dL_law_853 (lv_at hl 11 rfl) ?_
    refine lv_iload hC.1 hC.2.1 dL_law_855 (lv_at hl 5 rfl) ?_
    refine lv_icmp_ge (tgt := 905) hC.1 hC.2.1 dL_law_857 (by decide) (fun b1 => ?_) (fun b1 => ?_)
    · have hF := ifP hF b1
      refine lv_aload_n hC.1 hC.2.1 dL_law_905 rfl (lv_at hl 1 rfl) ?_
      refine lv_iconst (v := (0 : Int32)) hC.1 hC.2.1 dL_law_906 (by decide) ?_
      obtain ⟨r3, M4, h2, hF⟩ := ob2S hF
      refine k_Vi (As := [.int (0 : Int32)]) (rest := []) hC hw (c_X6_votes (M := M) h2) RC_S yv_X6_votes q2_170 ⟨rfl, rfl⟩ ⟨Nat.le_of_ble_eq_true rfl, Nat.le_of_ble_eq_true rfl⟩ hz rfl rfl (Nat.le_of_ble_eq_true rfl) hl dL_law_907 (fun H locs hw => ?_)
      refine lv_iload hC.1 hC.2.1 dL_law_910 (lv_at hl 6 rfl) ?_
      refine lv_icmp_ne (tgt := 989) hC.1 hC.2.1 dL_law_912 (by decide) (fun b5 => ?_) (fun b5 => ?_)
      · have hF := ifN hF b5
        refine lv_iconst (v := (0 : Int32)) hC.1 hC.2.1 dL_law_989 (by decide) ?_
        cases hF
      · have hF := ifP hF b5
        refine lv_aload_n hC.1 hC.2.1 dL_law_915 rfl (lv_at hl 1 rfl) ?_
        obtain ⟨r7, h6, hF⟩ := ob1S hF
        refine k_Vi (As := []) (rest := []) hC hw (c_X6_asked (M := M4) h6) RC_S yv_X6_asked q3_86 ⟨rfl, rfl⟩ ⟨Nat.le_of_ble_eq_true rfl, Nat.le_of_ble_eq_true rfl⟩ hz rfl rfl (Nat.le_of_ble_eq_true rfl) hl dL_law_916 (fun H locs hw => ?_)
        refine lv_iload hC.1 hC.2.1 dL_law_919 (lv_at hl 7 rfl) ?_
        refine lv_icmp_ne (tgt := 989) hC.1 hC.2.1 dL_law_921 (by decide) (fun b8 => ?_) (fun b8 => ?_)
        · have hF := ifN hF b8
          refine lv_iconst (v := (0 : Int32)) hC.1 hC.2.1 dL_law_989 (by decide) ?_
          cases hF
        · have hF := ifP hF b8
          refine lv_aload_n hC.1 hC.2.1 dL_law_924 rfl (lv_at hl 1 rfl) ?_
          refine lv_iload hC.1 hC.2.1 dL_law_925 (lv_at hl 4 rfl) ?_
          refine lv_iconst (v := (0 : Int32)) hC.1 hC.2.1 dL_law_927 (by decide) ?_
          obtain ⟨r10, h9, hF⟩ := ob1S hF
          refine k_Vi (As := [.int x8, .int (0 : Int32)]) (rest := []) hC hw (c_X6_bulk (M := M4) h9) RC_S yv_X6_bulk q2_143 ⟨rfl, rfl⟩ ⟨Nat.le_of_ble_eq_true rfl, Nat.le_of_ble_eq_true rfl⟩ hz rfl rfl (Nat.le_of_ble_eq_true rfl) hl dL_law_928 (fun H locs hw => ?_)
          refine lv_iload hC.1 hC.2.1 dL_law_931 (lv_at hl 8 rfl) ?_
          refine lv_icmp_ne (tgt := 989) hC.1 hC.2.1 dL_law_933 (by decide) (fun b11 => ?_) (fun b11 => ?_)
          · have hF := ifN hF b11
            refine lv_iconst (v := (0 : Int32)) hC.1 hC.2.1 dL_law_989 (by decide) ?_
            cases hF
          · have hF := ifP hF b11
            refine lv_aload_n hC.1 hC.2.1 dL_law_936 rfl (lv_at hl 1 rfl) ?_
            refine lv_iload hC.1 hC.2.1 dL_law_937 (lv_at hl 4 rfl) ?_
            refine lv_iconst (v := (0 : Int32)) hC.1 hC.2.1 dL_law_939 (by decide) ?_
            obtain ⟨r13, h12, hF⟩ := ob1S hF
            refine k_Vi (As := [.int x8, .int (0 : Int32)]) (rest := []) hC hw (c_X6_heir (M := M4) h12) RC_S yv_X6_heir q2_187 ⟨rfl, rfl⟩ ⟨Nat.le_of_ble_eq_true rfl, Nat.le_of_ble_eq_true rfl⟩ hz rfl rfl (Nat.le_of_ble_eq_true rfl) hl dL_law_940 (fun H locs hw => ?_)
            refine lv_iload hC.1 hC.2.1 dL_law_943 (lv_at hl 9 rfl) ?_
            refine lv_icmp_ne (tgt := 989) hC.1 hC.2.1 dL_law_945 (by decide) (fun b14 => ?_) (fun b14 => ?_)
            · have hF := ifN hF b14
              refine lv_iconst (v := (0 : Int32)) hC.1 hC.2.1 dL_law_989 (by decide) ?_
              cases hF
            · have hF := ifP hF b14
              refine lv_iload hC.1 hC.2.1 dL_law_948 (lv_at hl 9 rfl) ?_
              refine lv_iload hC.1 hC.2.1 dL_law_950 (lv_at hl 4 rfl) ?_
              refine lv_icmp_ne (tgt := 959) hC.1 hC.2.1 dL_law_952 (by decide) (fun b15 => ?_) (fun b15 => ?_)
              · have hF := ifN hF b15
                refine lv_iconst (v := (0 : Int32)) hC.1 hC.2.1 dL_law_959 (by decide) ?_
                exact w_L_law_960 hC hX hbl hbA hAd hz hF hw (lv_sub hl [0, 1, 2, 3, 4, 8] rfl)
              · have hF := ifP hF b15
                refine lv_iconst (v := (1 : Int32)) hC.1 hC.2.1 dL_law_955 (by decide) ?_
                refine lv_goto (tgt := 960) hC.1 hC.2.1 dL_law_956 (by decide) ?_
                exact w_L_law_960 hC hX hbl hbA hAd hz hF hw (lv_sub hl [0, 1, 2, 3, 4, 8] rfl)
    · have hF := ifN hF b1
      refine lv_iload hC.1 hC.2.1 dL_law_860 (lv_at hl 10 rfl) ?_
      refine lv_if_lt (tgt := 890) hC.1 hC.2.1 dL_law_862 (by decide) (fun b16 => ?_) (fun b16 => ?_)
      · have hF := ifP hF b16
        exact w_L_law_890 hC hX hbl hbA hAd hz (hk_853 := ih) hF hw (lv_sub hl [0, 1, 2, 3, 4, 5, 6, 7, 8, 9, 10, 11] rfl)
      · have hF := ifN hF b16
        refine lv_aload_n hC.1 hC.2.1 dL_law_865 rfl (lv_at hl 1 rfl) ?_
        refine lv_iload hC.1 hC.2.1 dL_law_866 (lv_at hl 4 rfl) ?_
        obtain ⟨r18, h17, hF⟩ := ob1S hF
        refine k_Vi (As := [.int x8]) (rest := []) hC hw (c_X6_gone (M := M) h17) RC_S yv_X6_gone q2_162 ⟨rfl, rfl⟩ ⟨Nat.le_of_ble_eq_true rfl, Nat.le_of_ble_eq_true rfl⟩ hz rfl rfl (Nat.le_of_ble_eq_true rfl) hl dL_law_868 (fun H locs hw => ?_)
        refine lv_iload hC.1 hC.2.1 dL_law_871 (lv_at hl 10 rfl) ?_
        refine lv_iload hC.1 hC.2.1 dL_law_873 (lv_at hl 11 rfl) ?_
        refine lv_icmp_le (tgt := 886) hC.1 hC.2.1 dL_law_875 (by decide) (fun b19 => ?_) (fun b19 => ?_)
        · have hF := ifP hF b19
          refine lv_iconst (v := (0 : Int32)) hC.1 hC.2.1 dL_law_886 (by decide) ?_
          exact w_L_law_887 hC hX hbl hbA hAd hz (hk_853 := ih) hF hw (lv_sub hl [0, 1, 2, 3, 4, 5, 6, 7, 8, 9, 10, 11] rfl)
        · have hF := ifN hF b19
          refine lv_iload hC.1 hC.2.1 dL_law_878 (lv_at hl 10 rfl) ?_
          refine lv_iload hC.1 hC.2.1 dL_law_880 (lv_at hl 11 rfl) ?_
          refine lv_isub hC.1 hC.2.1 dL_law_882 ?_
          refine lv_goto (tgt := 887) hC.1 hC.2.1 dL_law_883 (by decide) ?_
          exact w_L_law_887 hC hX hbl hbA hAd hz (hk_853 := ih) hF hw (lv_sub hl [0, 1, 2, 3, 4, 5, 6, 7, 8, 9, 10, 11] rfl)
def F_L_law_832 (L : Nat) (xs : Nat → Int32) (fu : Nat) (M : Mm) (x3 : Int32) (x8 : Int32) (x12 : Int32) (x13 : Int32) (x14 : Int32) (x15 : Int32) (x16 : Int32) (x17 : Int32) (x18 : Int32) (x19 : Int32) : Option Unit :=
  if x15 < 0 then
    F_L_law_853 L xs fu fu M x3 x8 x12 x13 x14 x17 x18 x19 (0 : Int32)
  else
    ob1 (F_X6_gone fu M x15) (fun r3 =>
    if r3 = x16 then
      F_L_law_853 L xs fu fu M x3 x8 x12 x13 x14 x17 x18 x19 (0 : Int32)
    else
      none)
set_option maxRecDepth 100000 in
set_option maxHeartbeats 4000000 in
theorem w_L_law_832 {b L : Nat} {xs : Nat → Int32} {p : Program} {l : Launch} {e : Env} {s : State} {m : MethodId} {below : List Frame} {meth : Method} {c : Code} {G : Gv} (hC : Cx p s m #[Value.ref b] meth c cL_law 24 (some .boolean) RL) (hX : va_X b L xs s s.heap) (hbl : b < s.heap.size) (hbA : ¬ zA G b) (hAd : ∀ x, x < zNC → s.heap.size ≤ ad G x) {cells slots : Nat} (hz : cells ≤ 600000 ∧ slots ≤ 7302250) {fu : Nat} {x3 : Int32} {x8 : Int32} {x12 : Int32} {x13 : Int32} {x14 : Int32} {x15 : Int32} {x16 : Int32} {x17 : Int32} {x18 : Int32} {x19 : Int32} {M : Mm} {H : Heap} {locs : List Loc} {ls : Array Slot} (hF : F_L_law_832 L xs fu M x3 x8 x12 x13 x14 x15 x16 x17 x18 x19 = some ()) (hw : St G s H locs M) (hl : lv_has ls 24 [(0, .ref b), (1, .ref (ad G 0)), (2, .ref (ad G 86)), (3, .int x3), (8, .int x8), (12, .int x12), (13, .int x13), (14, .int x14), (15, .int x15), (16, .int x16), (17, .int x17), (18, .int x18), (19, .int x19)]) : W p l e room_1 s m #[Value.ref b] below meth c H locs cells slots (lw_Z below #[Value.ref b] s) (F0 m 832 ls []) := by
  unfold F_L_law_832 at hF
  refine lv_iload hC.1 hC.2.1 dL_law_832 (lv_at hl 8 rfl) ?_
  refine lv_if_lt (tgt := 850) hC.1 hC.2.1 dL_law_834 (by decide) (fun b1 => ?_) (fun b1 => ?_)
  · have hF := ifP hF b1
    refine lv_iconst (v := (0 : Int32)) hC.1 hC.2.1 dL_law_850 (by decide) ?_
    refine lv_istore (lv' := [(20, .int (0 : Int32)), (0, .ref b), (1, .ref (ad G 0)), (2, .ref (ad G 86)), (3, .int x3), (8, .int x8), (12, .int x12), (13, .int x13), (14, .int x14), (15, .int x15), (16, .int x16), (17, .int x17), (18, .int x18), (19, .int x19)]) hC.1 hC.2.1 dL_law_851 hl (by decide) rfl (fun ls hl => ?_)
    exact w_L_law_853 hC hX hbl hbA hAd hz _ hF hw (lv_sub hl [1, 2, 3, 4, 5, 6, 7, 8, 11, 12, 13, 0] rfl)
  · have hF := ifN hF b1
    refine lv_aload_n hC.1 hC.2.1 dL_law_837 rfl (lv_at hl 1 rfl) ?_
    refine lv_iload hC.1 hC.2.1 dL_law_838 (lv_at hl 8 rfl) ?_
    obtain ⟨r3, h2, hF⟩ := ob1S hF
    refine k_Vi (As := [.int x15]) (rest := []) hC hw (c_X6_gone (M := M) h2) RC_S yv_X6_gone q2_162 ⟨rfl, rfl⟩ ⟨Nat.le_of_ble_eq_true rfl, Nat.le_of_ble_eq_true rfl⟩ hz rfl rfl (Nat.le_of_ble_eq_true rfl) hl dL_law_840 (fun H locs hw => ?_)
    refine lv_iload hC.1 hC.2.1 dL_law_843 (lv_at hl 9 rfl) ?_
    refine lv_icmp_eq (tgt := 850) hC.1 hC.2.1 dL_law_845 (by decide) (fun b4 => ?_) (fun b4 => ?_)
    · have hF := ifP hF b4
      refine lv_iconst (v := (0 : Int32)) hC.1 hC.2.1 dL_law_850 (by decide) ?_
      refine lv_istore (lv' := [(20, .int (0 : Int32)), (0, .ref b), (1, .ref (ad G 0)), (2, .ref (ad G 86)), (3, .int x3), (8, .int x8), (12, .int x12), (13, .int x13), (14, .int x14), (15, .int x15), (16, .int x16), (17, .int x17), (18, .int x18), (19, .int x19)]) hC.1 hC.2.1 dL_law_851 hl (by decide) rfl (fun ls hl => ?_)
      exact w_L_law_853 hC hX hbl hbA hAd hz _ hF hw (lv_sub hl [1, 2, 3, 4, 5, 6, 7, 8, 11, 12, 13, 0] rfl)
    · have hF := ifN hF b4
      refine lv_iconst (v := (0 : Int32)) hC.1 hC.2.1 dL_law_848 (by decide) ?_
      cases hF
def F_L_law_666 (L : Nat) (xs : Nat → Int32) (fu : Nat) : Nat → Mm → Int32 → Int32 → Int32 → Int32 → Int32 → Option Unit
  | 0, _, _, _, _, _, _ => none
  | n + 1, M, x3, x8, x10, x11, x12 =>
    if x3 ≤ x12 then
      if x11 = x10 then
        ob1 (F_X6_count fu M (1 : Int32)) (fun r4 =>
        if r4 = x3 then
          ob2 (F_X6_undo fu M (0 : Int32)) (fun r7 M8 =>
          if r7 = x3 then
            ob1 (F_L_cell L xs fu M8 (11 : Int32)) (fun r11 =>
            ob1 (F_L_up fu M8 r11 (20 : Int32)) (fun r13 =>
            ob2 (F_X6_votes fu M8 r13) (fun r15 M16 =>
            ob1 (F_X6_asked fu M16) (fun r18 =>
            ob2 (F_X6_widow fu M16) (fun r20 M21 =>
            ob1 (F_X6_asked fu M21) (fun r23 =>
            ob1 (F_X6_bulk fu M21 x8 r13) (fun r25 =>
            ob1 (F_X6_heir fu M21 x8 r13) (fun r27 =>
            ob1 (F_X6_gone fu M21 x8) (fun r29 =>
            if 0 ≤ r20 then
              F_L_law_832 L xs fu M21 x3 x8 r13 r15 r18 r20 r23 r25 r27 r29
            else
              if r23 = r18 then
                F_L_law_832 L xs fu M21 x3 x8 r13 r15 r18 r20 r23 r25 r27 r29
              else
                none)))))))))
          else
            none)
        else
          none)
      else
        none
    else
      ob2 (F_X6_at fu M (3 : Int32) x12) (fun r33 M34 =>
      if r33 = (1 : Int32) then
        ob1 (F_X6_asked fu M34) (fun r37 =>
        ob1 (F_X6_bulk fu M34 r37 (0 : Int32)) (fun r39 =>
        if r39 ≤ 0 then
          F_L_law_708 L xs fu (F_L_law_666 L xs fu n) M34 x3 x8 x10 x12 x11 (0 : Int32)
        else
          F_L_law_708 L xs fu (F_L_law_666 L xs fu n) M34 x3 x8 x10 x12 x11 (1 : Int32)))
      else
        none)
set_option maxRecDepth 100000 in
set_option maxHeartbeats 4000000 in
theorem w_L_law_666 {b L : Nat} {xs : Nat → Int32} {p : Program} {l : Launch} {e : Env} {s : State} {m : MethodId} {below : List Frame} {meth : Method} {c : Code} {G : Gv} (hC : Cx p s m #[Value.ref b] meth c cL_law 24 (some .boolean) RL) (hX : va_X b L xs s s.heap) (hbl : b < s.heap.size) (hbA : ¬ zA G b) (hAd : ∀ x, x < zNC → s.heap.size ≤ ad G x) {cells slots : Nat} (hz : cells ≤ 600000 ∧ slots ≤ 7302250) {fu : Nat} : ∀ (n : Nat) {x3 : Int32} {x8 : Int32} {x10 : Int32} {x11 : Int32} {x12 : Int32} {M : Mm} {H : Heap} {locs : List Loc} {ls : Array Slot}, F_L_law_666 L xs fu n M x3 x8 x10 x11 x12 = some () → St G s H locs M → lv_has ls 24 [(0, .ref b), (1, .ref (ad G 0)), (2, .ref (ad G 86)), (3, .int x3), (8, .int x8), (10, .int x10), (11, .int x11), (12, .int x12)] → W p l e room_1 s m #[Value.ref b] below meth c H locs cells slots (lw_Z below #[Value.ref b] s) (F0 m 666 ls []) := by
  intro n
  induction n with
  | zero =>
    intro x3 x8 x10 x11 x12 M H locs ls hF hw hl
    cases hF
  | succ n ih =>
    intro x3 x8 x10 x11 x12 M H locs ls hF hw hl
    unfold F_L_law_666 at hF
    refine lv_iload hC.1 hC.2.1 dL_law_666 (lv_at hl 7 rfl) ?_
    refine lv_iload_n hC.1 hC.2.1 dL_law_668 rfl (lv_at hl 3 rfl) ?_
    refine lv_icmp_ge (tgt := 726) hC.1 hC.2.1 dL_law_669 (by decide) (fun b1 => ?_) (fun b1 => ?_)
    · have hF := ifP hF b1
      refine lv_iload hC.1 hC.2.1 dL_law_726 (lv_at hl 6 rfl) ?_
      refine lv_iload hC.1 hC.2.1 dL_law_728 (lv_at hl 5 rfl) ?_
      refine lv_icmp_ne (tgt := 751) hC.1 hC.2.1 dL_law_730 (by decide) (fun b2 => ?_) (fun b2 => ?_)
      · have hF := ifN hF b2
        refine lv_iconst (v := (0 : Int32)) hC.1 hC.2.1 dL_law_751 (by decide) ?_
        cases hF
      · have hF := ifP hF b2
        refine lv_aload_n hC.1 hC.2.1 dL_law_733 rfl (lv_at hl 1 rfl) ?_
        refine lv_iconst (v := (1 : Int32)) hC.1 hC.2.1 dL_law_734 (by decide) ?_
        obtain ⟨r4, h3, hF⟩ := ob1S hF
        refine k_Vi (As := [.int (1 : Int32)]) (rest := []) hC hw (c_X6_count (M := M) h3) RC_S yv_X6_count q3_98 ⟨rfl, rfl⟩ ⟨Nat.le_of_ble_eq_true rfl, Nat.le_of_ble_eq_true rfl⟩ hz rfl rfl (Nat.le_of_ble_eq_true rfl) hl dL_law_735 (fun H locs hw => ?_)
        refine lv_iload_n hC.1 hC.2.1 dL_law_738 rfl (lv_at hl 3 rfl) ?_
        refine lv_icmp_ne (tgt := 751) hC.1 hC.2.1 dL_law_739 (by decide) (fun b5 => ?_) (fun b5 => ?_)
        · have hF := ifN hF b5
          refine lv_iconst (v := (0 : Int32)) hC.1 hC.2.1 dL_law_751 (by decide) ?_
          cases hF
        · have hF := ifP hF b5
          refine lv_aload_n hC.1 hC.2.1 dL_law_742 rfl (lv_at hl 1 rfl) ?_
          refine lv_iconst (v := (0 : Int32)) hC.1 hC.2.1 dL_law_743 (by decide) ?_
          obtain ⟨r7, M8, h6, hF⟩ := ob2S hF
          refine k_Vi (As := [.int (0 : Int32)]) (rest := []) hC hw (c_X6_undo (M := M) h6) RC_S yv_X6_undo q2_112 ⟨rfl, rfl⟩ ⟨Nat.le_of_ble_eq_true rfl, Nat.le_of_ble_eq_true rfl⟩ hz rfl rfl (Nat.le_of_ble_eq_true rfl) hl dL_law_744 (fun H locs hw => ?_)
          refine lv_iload_n hC.1 hC.2.1 dL_law_747 rfl (lv_at hl 3 rfl) ?_
          refine lv_icmp_eq (tgt := 753) hC.1 hC.2.1 dL_law_748 (by decide) (fun b9 => ?_) (fun b9 => ?_)
          · have hF := ifP hF b9
            refine lv_aload_n hC.1 hC.2.1 dL_law_753 rfl (lv_at hl 0 rfl) ?_
            refine lv_bipush (v := (11 : Int32)) hC.1 hC.2.1 dL_law_754 (by decide) ?_
            obtain ⟨r11, h10, hF⟩ := ob1S hF
            refine k_Xi (As := [.ref b, .int (11 : Int32)]) (rest := []) hC hX hbl hbA hw (c_L_cell (M := M8) h10) ys_L_cell q3_133 ⟨rfl, rfl⟩ ⟨Nat.le_of_ble_eq_true rfl, Nat.le_of_ble_eq_true rfl⟩ hz rfl rfl (Nat.le_of_ble_eq_true rfl) hl dL_law_756 (fun H locs hw => ?_)
            refine lv_bipush (v := (20 : Int32)) hC.1 hC.2.1 dL_law_759 (by decide) ?_
            obtain ⟨r13, h12, hF⟩ := ob1S hF
            refine k_Si (As := [.int r11, .int (20 : Int32)]) (rest := []) hC hw (c_L_up (M := M8) h12) ys_L_up q3_137 ⟨rfl, rfl⟩ ⟨Nat.le_of_ble_eq_true rfl, Nat.le_of_ble_eq_true rfl⟩ hz rfl rfl (Nat.le_of_ble_eq_true rfl) hl dL_law_761 (fun H locs hw => ?_)
            refine lv_istore (lv' := [(12, .int r13), (0, .ref b), (1, .ref (ad G 0)), (2, .ref (ad G 86)), (3, .int x3), (8, .int x8), (10, .int x10), (11, .int x11)]) hC.1 hC.2.1 dL_law_764 hl (by decide) rfl (fun ls hl => ?_)
            refine lv_aload_n hC.1 hC.2.1 dL_law_766 rfl (lv_at hl 2 rfl) ?_
            refine lv_iload hC.1 hC.2.1 dL_law_767 (lv_at hl 0 rfl) ?_
            obtain ⟨r15, M16, h14, hF⟩ := ob2S hF
            refine k_Vi (As := [.int r13]) (rest := []) hC hw (c_X6_votes (M := M8) h14) RC_S yv_X6_votes q2_170 ⟨rfl, rfl⟩ ⟨Nat.le_of_ble_eq_true rfl, Nat.le_of_ble_eq_true rfl⟩ hz rfl rfl (Nat.le_of_ble_eq_true rfl) hl dL_law_769 (fun H locs hw => ?_)
            refine lv_istore (lv' := [(13, .int r15), (12, .int r13), (0, .ref b), (1, .ref (ad G 0)), (2, .ref (ad G 86)), (3, .int x3), (8, .int x8), (10, .int x10), (11, .int x11)]) hC.1 hC.2.1 dL_law_772 hl (by decide) rfl (fun ls hl => ?_)
            refine lv_aload_n hC.1 hC.2.1 dL_law_774 rfl (lv_at hl 3 rfl) ?_
            obtain ⟨r18, h17, hF⟩ := ob1S hF
            refine k_Vi (As := []) (rest := []) hC hw (c_X6_asked (M := M16) h17) RC_S yv_X6_asked q3_86 ⟨rfl, rfl⟩ ⟨Nat.le_of_ble_eq_true rfl, Nat.le_of_ble_eq_true rfl⟩ hz rfl rfl (Nat.le_of_ble_eq_true rfl) hl dL_law_775 (fun H locs hw => ?_)
            refine lv_istore (lv' := [(14, .int r18), (13, .int r15), (12, .int r13), (0, .ref b), (1, .ref (ad G 0)), (2, .ref (ad G 86)), (3, .int x3), (8, .int x8), (10, .int x10), (11, .int x11)]) hC.1 hC.2.1 dL_law_778 hl (by decide) rfl (fun ls hl => ?_)
            refine lv_aload_n hC.1 hC.2.1 dL_law_780 rfl (lv_at hl 4 rfl) ?_
            obtain ⟨r20, M21, h19, hF⟩ := ob2S hF
            refine k_Vi (As := []) (rest := []) hC hw (c_X6_widow (M := M16) h19) RC_S yv_X6_widow q2_183 ⟨rfl, rfl⟩ ⟨Nat.le_of_ble_eq_true rfl, Nat.le_of_ble_eq_true rfl⟩ hz rfl rfl (Nat.le_of_ble_eq_true rfl) hl dL_law_781 (fun H locs hw => ?_)
            refine lv_istore (lv' := [(15, .int r20), (14, .int r18), (13, .int r15), (12, .int r13), (0, .ref b), (1, .ref (ad G 0)), (2, .ref (ad G 86)), (3, .int x3), (8, .int x8), (10, .int x10), (11, .int x11)]) hC.1 hC.2.1 dL_law_784 hl (by decide) rfl (fun ls hl => ?_)
            refine lv_aload_n hC.1 hC.2.1 dL_law_786 rfl (lv_at hl 5 rfl) ?_
            obtain ⟨r23, h22, hF⟩ := ob1S hF
            refine k_Vi (As := []) (rest := []) hC hw (c_X6_asked (M := M21) h22) RC_S yv_X6_asked q3_86 ⟨rfl, rfl⟩ ⟨Nat.le_of_ble_eq_true rfl, Nat.le_of_ble_eq_true rfl⟩ hz rfl rfl (Nat.le_of_ble_eq_true rfl) hl dL_law_787 (fun H locs hw => ?_)
            refine lv_istore (lv' := [(16, .int r23), (15, .int r20), (14, .int r18), (13, .int r15), (12, .int r13), (0, .ref b), (1, .ref (ad G 0)), (2, .ref (ad G 86)), (3, .int x3), (8, .int x8), (10, .int x10), (11, .int x11)]) hC.1 hC.2.1 dL_law_790 hl (by decide) rfl (fun ls hl => ?_)
            refine lv_aload_n hC.1 hC.2.1 dL_law_792 rfl (lv_at hl 6 rfl) ?_
            refine lv_iload hC.1 hC.2.1 dL_law_793 (lv_at hl 9 rfl) ?_
            refine lv_iload hC.1 hC.2.1 dL_law_795 (lv_at hl 4 rfl) ?_
            obtain ⟨r25, h24, hF⟩ := ob1S hF
            refine k_Vi (As := [.int x8, .int r13]) (rest := []) hC hw (c_X6_bulk (M := M21) h24) RC_S yv_X6_bulk q2_143 ⟨rfl, rfl⟩ ⟨Nat.le_of_ble_eq_true rfl, Nat.le_of_ble_eq_true rfl⟩ hz rfl rfl (Nat.le_of_ble_eq_true rfl) hl dL_law_797 (fun H locs hw => ?_)
            refine lv_istore (lv' := [(17, .int r25), (16, .int r23), (15, .int r20), (14, .int r18), (13, .int r15), (12, .int r13), (0, .ref b), (1, .ref (ad G 0)), (2, .ref (ad G 86)), (3, .int x3), (8, .int x8), (10, .int x10), (11, .int x11)]) hC.1 hC.2.1 dL_law_800 hl (by decide) rfl (fun ls hl => ?_)
            refine lv_aload_n hC.1 hC.2.1 dL_law_802 rfl (lv_at hl 7 rfl) ?_
            refine lv_iload hC.1 hC.2.1 dL_law_803 (lv_at hl 10 rfl) ?_
            refine lv_iload hC.1 hC.2.1 dL_law_805 (lv_at hl 5 rfl) ?_
            obtain ⟨r27, h26, hF⟩ := ob1S hF
            refine k_Vi (As := [.int x8, .int r13]) (rest := []) hC hw (c_X6_heir (M := M21) h26) RC_S yv_X6_heir q2_187 ⟨rfl, rfl⟩ ⟨Nat.le_of_ble_eq_true rfl, Nat.le_of_ble_eq_true rfl⟩ hz rfl rfl (Nat.le_of_ble_eq_true rfl) hl dL_law_807 (fun H locs hw => ?_)
            refine lv_istore (lv' := [(18, .int r27), (17, .int r25), (16, .int r23), (15, .int r20), (14, .int r18), (13, .int r15), (12, .int r13), (0, .ref b), (1, .ref (ad G 0)), (2, .ref (ad G 86)), (3, .int x3), (8, .int x8), (10, .int x10), (11, .int x11)]) hC.1 hC.2.1 dL_law_810 hl (by decide) rfl (fun ls hl => ?_)
            refine lv_aload_n hC.1 hC.2.1 dL_law_812 rfl (lv_at hl 8 rfl) ?_
            refine lv_iload hC.1 hC.2.1 dL_law_813 (lv_at hl 11 rfl) ?_
            obtain ⟨r29, h28, hF⟩ := ob1S hF
            refine k_Vi (As := [.int x8]) (rest := []) hC hw (c_X6_gone (M := M21) h28) RC_S yv_X6_gone q2_162 ⟨rfl, rfl⟩ ⟨Nat.le_of_ble_eq_true rfl, Nat.le_of_ble_eq_true rfl⟩ hz rfl rfl (Nat.le_of_ble_eq_true rfl) hl dL_law_815 (fun H locs hw => ?_)
            refine lv_istore (lv' := [(19, .int r29), (18, .int r27), (17, .int r25), (16, .int r23), (15, .int r20), (14, .int r18), (13, .int r15), (12, .int r13), (0, .ref b), (1, .ref (ad G 0)), (2, .ref (ad G 86)), (3, .int x3), (8, .int x8), (10, .int x10), (11, .int x11)]) hC.1 hC.2.1 dL_law_818 hl (by decide) rfl (fun ls hl => ?_)
            refine lv_iload hC.1 hC.2.1 dL_law_820 (lv_at hl 4 rfl) ?_
            refine lv_if_ge (tgt := 832) hC.1 hC.2.1 dL_law_822 (by decide) (fun b30 => ?_) (fun b30 => ?_)
            · have hF := ifP hF b30
              exact w_L_law_832 hC hX hbl hbA hAd hz hF hw (lv_sub hl [8, 9, 10, 11, 12, 7, 6, 5, 4, 3, 2, 1, 0] rfl)
            · have hF := ifN hF b30
              refine lv_iload hC.1 hC.2.1 dL_law_825 (lv_at hl 3 rfl) ?_
              refine lv_iload hC.1 hC.2.1 dL_law_827 (lv_at hl 5 rfl) ?_
              refine lv_icmp_ne (tgt := 848) hC.1 hC.2.1 dL_law_829 (by decide) (fun b31 => ?_) (fun b31 => ?_)
              · have hF := ifN hF b31
                refine lv_iconst (v := (0 : Int32)) hC.1 hC.2.1 dL_law_848 (by decide) ?_
                cases hF
              · have hF := ifP hF b31
                exact w_L_law_832 hC hX hbl hbA hAd hz hF hw (lv_sub hl [8, 9, 10, 11, 12, 7, 6, 5, 4, 3, 2, 1, 0] rfl)
          · have hF := ifN hF b9
            refine lv_iconst (v := (0 : Int32)) hC.1 hC.2.1 dL_law_751 (by decide) ?_
            cases hF
    · have hF := ifN hF b1
      refine lv_aload_n hC.1 hC.2.1 dL_law_672 rfl (lv_at hl 1 rfl) ?_
      refine lv_iconst (v := (3 : Int32)) hC.1 hC.2.1 dL_law_673 (by decide) ?_
      refine lv_iload hC.1 hC.2.1 dL_law_674 (lv_at hl 7 rfl) ?_
      obtain ⟨r33, M34, h32, hF⟩ := ob2S hF
      refine k_Vi (As := [.int (3 : Int32), .int x12]) (rest := []) hC hw (c_X6_at (M := M) h32) RC_S yv_X6_at q2_5 ⟨rfl, rfl⟩ ⟨Nat.le_of_ble_eq_true rfl, Nat.le_of_ble_eq_true rfl⟩ hz rfl rfl (Nat.le_of_ble_eq_true rfl) hl dL_law_676 (fun H locs hw => ?_)
      refine lv_iconst (v := (1 : Int32)) hC.1 hC.2.1 dL_law_679 (by decide) ?_
      refine lv_icmp_eq (tgt := 685) hC.1 hC.2.1 dL_law_680 (by decide) (fun b35 => ?_) (fun b35 => ?_)
      · have hF := ifP hF b35
        refine lv_aload_n hC.1 hC.2.1 dL_law_685 rfl (lv_at hl 1 rfl) ?_
        obtain ⟨r37, h36, hF⟩ := ob1S hF
        refine k_Vi (As := []) (rest := []) hC hw (c_X6_asked (M := M34) h36) RC_S yv_X6_asked q3_86 ⟨rfl, rfl⟩ ⟨Nat.le_of_ble_eq_true rfl, Nat.le_of_ble_eq_true rfl⟩ hz rfl rfl (Nat.le_of_ble_eq_true rfl) hl dL_law_686 (fun H locs hw => ?_)
        refine lv_istore (lv' := [(13, .int r37), (0, .ref b), (1, .ref (ad G 0)), (2, .ref (ad G 86)), (3, .int x3), (8, .int x8), (10, .int x10), (11, .int x11), (12, .int x12)]) hC.1 hC.2.1 dL_law_689 hl (by decide) rfl (fun ls hl => ?_)
        refine lv_iload hC.1 hC.2.1 dL_law_691 (lv_at hl 7 rfl) ?_
        refine lv_aload_n hC.1 hC.2.1 dL_law_693 rfl (lv_at hl 2 rfl) ?_
        refine lv_iload hC.1 hC.2.1 dL_law_694 (lv_at hl 0 rfl) ?_
        refine lv_iconst (v := (0 : Int32)) hC.1 hC.2.1 dL_law_696 (by decide) ?_
        obtain ⟨r39, h38, hF⟩ := ob1S hF
        refine k_Vi (As := [.int r37, .int (0 : Int32)]) (rest := [.int x11]) hC hw (c_X6_bulk (M := M34) h38) RC_S yv_X6_bulk q2_143 ⟨rfl, rfl⟩ ⟨Nat.le_of_ble_eq_true rfl, Nat.le_of_ble_eq_true rfl⟩ hz rfl rfl (Nat.le_of_ble_eq_true rfl) hl dL_law_697 (fun H locs hw => ?_)
        refine lv_if_le (tgt := 707) hC.1 hC.2.1 dL_law_700 (by decide) (fun b40 => ?_) (fun b40 => ?_)
        · have hF := ifP hF b40
          refine lv_iconst (v := (0 : Int32)) hC.1 hC.2.1 dL_law_707 (by decide) ?_
          exact w_L_law_708 hC hX hbl hbA hAd hz (hk_666 := ih) hF hw (lv_sub hl [1, 2, 3, 4, 5, 6, 8] rfl)
        · have hF := ifN hF b40
          refine lv_iconst (v := (1 : Int32)) hC.1 hC.2.1 dL_law_703 (by decide) ?_
          refine lv_goto (tgt := 708) hC.1 hC.2.1 dL_law_704 (by decide) ?_
          exact w_L_law_708 hC hX hbl hbA hAd hz (hk_666 := ih) hF hw (lv_sub hl [1, 2, 3, 4, 5, 6, 8] rfl)
      · have hF := ifN hF b35
        refine lv_iconst (v := (0 : Int32)) hC.1 hC.2.1 dL_law_683 (by decide) ?_
        cases hF
def F_L_law_630 (L : Nat) (xs : Nat → Int32) (fu : Nat) (M : Mm) (x3 : Int32) (x8 : Int32) : Option Unit :=
  ob2 (F_X6_census fu M (3 : Int32)) (fun r2 M3 =>
  if r2 < 0 then
    none
  else
    if x3 < r2 then
      none
    else
      ob2 (F_X6_counted fu M3 (3 : Int32)) (fun r7 M8 =>
      if r7 = r2 then
        F_L_law_666 L xs fu fu M8 x3 x8 r2 (0 : Int32) (0 : Int32)
      else
        none))
set_option maxRecDepth 100000 in
set_option maxHeartbeats 4000000 in
theorem w_L_law_630 {b L : Nat} {xs : Nat → Int32} {p : Program} {l : Launch} {e : Env} {s : State} {m : MethodId} {below : List Frame} {meth : Method} {c : Code} {G : Gv} (hC : Cx p s m #[Value.ref b] meth c cL_law 24 (some .boolean) RL) (hX : va_X b L xs s s.heap) (hbl : b < s.heap.size) (hbA : ¬ zA G b) (hAd : ∀ x, x < zNC → s.heap.size ≤ ad G x) {cells slots : Nat} (hz : cells ≤ 600000 ∧ slots ≤ 7302250) {fu : Nat} {x3 : Int32} {x8 : Int32} {M : Mm} {H : Heap} {locs : List Loc} {ls : Array Slot} (hF : F_L_law_630 L xs fu M x3 x8 = some ()) (hw : St G s H locs M) (hl : lv_has ls 24 [(0, .ref b), (1, .ref (ad G 0)), (2, .ref (ad G 86)), (3, .int x3), (8, .int x8)]) : W p l e room_1 s m #[Value.ref b] below meth c H locs cells slots (lw_Z below #[Value.ref b] s) (F0 m 630 ls []) := by
  unfold F_L_law_630 at hF
  refine lv_aload_n hC.1 hC.2.1 dL_law_630 rfl (lv_at hl 1 rfl) ?_
  refine lv_iconst (v := (3 : Int32)) hC.1 hC.2.1 dL_law_631 (by decide) ?_
  obtain ⟨r2, M3, h1, hF⟩ := ob2S hF
  refine k_Vi (As := [.int (3 : Int32)]) (rest := []) hC hw (c_X6_census (M := M) h1) RC_S yv_X6_census q2_239 ⟨rfl, rfl⟩ ⟨Nat.le_of_ble_eq_true rfl, Nat.le_of_ble_eq_true rfl⟩ hz rfl rfl (Nat.le_of_ble_eq_true rfl) hl dL_law_632 (fun H locs hw => ?_)
  refine lv_istore (lv' := [(10, .int r2), (0, .ref b), (1, .ref (ad G 0)), (2, .ref (ad G 86)), (3, .int x3), (8, .int x8)]) hC.1 hC.2.1 dL_law_635 hl (by decide) rfl (fun ls hl => ?_)
  refine lv_iload hC.1 hC.2.1 dL_law_637 (lv_at hl 0 rfl) ?_
  refine lv_if_lt (tgt := 658) hC.1 hC.2.1 dL_law_639 (by decide) (fun b4 => ?_) (fun b4 => ?_)
  · have hF := ifP hF b4
    refine lv_iconst (v := (0 : Int32)) hC.1 hC.2.1 dL_law_658 (by decide) ?_
    cases hF
  · have hF := ifN hF b4
    refine lv_iload hC.1 hC.2.1 dL_law_642 (lv_at hl 0 rfl) ?_
    refine lv_iload_n hC.1 hC.2.1 dL_law_644 rfl (lv_at hl 4 rfl) ?_
    refine lv_icmp_gt (tgt := 658) hC.1 hC.2.1 dL_law_645 (by decide) (fun b5 => ?_) (fun b5 => ?_)
    · have hF := ifP hF b5
      refine lv_iconst (v := (0 : Int32)) hC.1 hC.2.1 dL_law_658 (by decide) ?_
      cases hF
    · have hF := ifN hF b5
      refine lv_aload_n hC.1 hC.2.1 dL_law_648 rfl (lv_at hl 2 rfl) ?_
      refine lv_iconst (v := (3 : Int32)) hC.1 hC.2.1 dL_law_649 (by decide) ?_
      obtain ⟨r7, M8, h6, hF⟩ := ob2S hF
      refine k_Vi (As := [.int (3 : Int32)]) (rest := []) hC hw (c_X6_counted (M := M3) h6) RC_S yv_X6_counted q3_28 ⟨rfl, rfl⟩ ⟨Nat.le_of_ble_eq_true rfl, Nat.le_of_ble_eq_true rfl⟩ hz rfl rfl (Nat.le_of_ble_eq_true rfl) hl dL_law_650 (fun H locs hw => ?_)
      refine lv_iload hC.1 hC.2.1 dL_law_653 (lv_at hl 0 rfl) ?_
      refine lv_icmp_eq (tgt := 660) hC.1 hC.2.1 dL_law_655 (by decide) (fun b9 => ?_) (fun b9 => ?_)
      · have hF := ifP hF b9
        refine lv_iconst (v := (0 : Int32)) hC.1 hC.2.1 dL_law_660 (by decide) ?_
        refine lv_istore (lv' := [(11, .int (0 : Int32)), (10, .int r2), (0, .ref b), (1, .ref (ad G 0)), (2, .ref (ad G 86)), (3, .int x3), (8, .int x8)]) hC.1 hC.2.1 dL_law_661 hl (by decide) rfl (fun ls hl => ?_)
        refine lv_iconst (v := (0 : Int32)) hC.1 hC.2.1 dL_law_663 (by decide) ?_
        refine lv_istore (lv' := [(12, .int (0 : Int32)), (11, .int (0 : Int32)), (10, .int r2), (0, .ref b), (1, .ref (ad G 0)), (2, .ref (ad G 86)), (3, .int x3), (8, .int x8)]) hC.1 hC.2.1 dL_law_664 hl (by decide) rfl (fun ls hl => ?_)
        exact w_L_law_666 hC hX hbl hbA hAd hz _ hF hw (lv_sub hl [3, 4, 5, 6, 7, 2, 1, 0] rfl)
      · have hF := ifN hF b9
        refine lv_iconst (v := (0 : Int32)) hC.1 hC.2.1 dL_law_658 (by decide) ?_
        cases hF
def F_L_law_570 (L : Nat) (xs : Nat → Int32) (fu : Nat) (M : Mm) (x3 : Int32) (x5 : Int32) (x8 : Int32) (x9 : Int32) : Option Unit :=
  if x9 ≤ (1 : Int32) then
    F_L_law_630 L xs fu M x3 x8
  else
    if (11 : Int32) ≤ x9 then
      F_L_law_630 L xs fu M x3 x8
    else
      ob2 (F_X6_snow fu M x8 (x9 - (1 : Int32))) (fun r4 M5 =>
      if ((6 : Int32) + x8) < 0 ∨ ln 86 ≤ ((6 : Int32) + x8).toNatClampNeg then none else (
      if r4 = (((M5.1 86 ((6 : Int32) + x8).toNatClampNeg) + x9) - (1 : Int32)) then
        ob1 (F_X6_carry fu M5 x8 x5) (fun r9 =>
        if r9 = (1 : Int32) then
          ob2 (F_X6_on fu M5 (0 : Int32)) (fun r12 M13 =>
          if r12 = 0 then
            F_L_law_630 L xs fu M13 x3 x8
          else
            none)
        else
          none)
      else
        none))
set_option maxRecDepth 100000 in
set_option maxHeartbeats 4000000 in
theorem w_L_law_570 {b L : Nat} {xs : Nat → Int32} {p : Program} {l : Launch} {e : Env} {s : State} {m : MethodId} {below : List Frame} {meth : Method} {c : Code} {G : Gv} (hC : Cx p s m #[Value.ref b] meth c cL_law 24 (some .boolean) RL) (hX : va_X b L xs s s.heap) (hbl : b < s.heap.size) (hbA : ¬ zA G b) (hAd : ∀ x, x < zNC → s.heap.size ≤ ad G x) {cells slots : Nat} (hz : cells ≤ 600000 ∧ slots ≤ 7302250) {fu : Nat} {x3 : Int32} {x5 : Int32} {x8 : Int32} {x9 : Int32} {M : Mm} {H : Heap} {locs : List Loc} {ls : Array Slot} (hF : F_L_law_570 L xs fu M x3 x5 x8 x9 = some ()) (hw : St G s H locs M) (hl : lv_has ls 24 [(0, .ref b), (1, .ref (ad G 0)), (2, .ref (ad G 86)), (3, .int x3), (5, .int x5), (8, .int x8), (9, .int x9)]) : W p l e room_1 s m #[Value.ref b] below meth c H locs cells slots (lw_Z below #[Value.ref b] s) (F0 m 570 ls []) := by
  unfold F_L_law_570 at hF
  refine lv_iload hC.1 hC.2.1 dL_law_570 (lv_at hl 6 rfl) ?_
  refine lv_iconst (v := (1 : Int32)) hC.1 hC.2.1 dL_law_572 (by decide) ?_
  refine lv_icmp_le (tgt := 630) hC.1 hC.2.1 dL_law_573 (by decide) (fun b1 => ?_) (fun b1 => ?_)
  · have hF := ifP hF b1
    exact w_L_law_630 hC hX hbl hbA hAd hz hF hw (lv_sub hl [0, 1, 2, 3, 5] rfl)
  · have hF := ifN hF b1
    refine lv_iload hC.1 hC.2.1 dL_law_576 (lv_at hl 6 rfl) ?_
    refine lv_bipush (v := (11 : Int32)) hC.1 hC.2.1 dL_law_578 (by decide) ?_
    refine lv_icmp_ge (tgt := 630) hC.1 hC.2.1 dL_law_580 (by decide) (fun b2 => ?_) (fun b2 => ?_)
    · have hF := ifP hF b2
      exact w_L_law_630 hC hX hbl hbA hAd hz hF hw (lv_sub hl [0, 1, 2, 3, 5] rfl)
    · have hF := ifN hF b2
      refine lv_aload_n hC.1 hC.2.1 dL_law_583 rfl (lv_at hl 1 rfl) ?_
      refine lv_iload hC.1 hC.2.1 dL_law_584 (lv_at hl 5 rfl) ?_
      refine lv_iload hC.1 hC.2.1 dL_law_586 (lv_at hl 6 rfl) ?_
      refine lv_iconst (v := (1 : Int32)) hC.1 hC.2.1 dL_law_588 (by decide) ?_
      refine lv_isub hC.1 hC.2.1 dL_law_589 ?_
      obtain ⟨r4, M5, h3, hF⟩ := ob2S hF
      refine k_Vi (As := [.int x8, .int (x9 - (1 : Int32))]) (rest := []) hC hw (c_X6_snow (M := M) h3) RC_S yv_X6_snow q2_108 ⟨rfl, rfl⟩ ⟨Nat.le_of_ble_eq_true rfl, Nat.le_of_ble_eq_true rfl⟩ hz rfl rfl (Nat.le_of_ble_eq_true rfl) hl dL_law_590 (fun H locs hw => ?_)
      refine lv_aload_n hC.1 hC.2.1 dL_law_593 rfl (lv_at hl 2 rfl) ?_
      refine lv_bipush (v := (6 : Int32)) hC.1 hC.2.1 dL_law_594 (by decide) ?_
      refine lv_iload hC.1 hC.2.1 dL_law_596 (lv_at hl 5 rfl) ?_
      refine lv_iadd hC.1 hC.2.1 dL_law_598 ?_
      obtain ⟨n6, hF⟩ := ifO hF
      refine r_iald hC.1 hC.2.1 hw (rfl : kd 86 = 1) n6 dL_law_599 ?_
      refine lv_iload hC.1 hC.2.1 dL_law_600 (lv_at hl 6 rfl) ?_
      refine lv_iadd hC.1 hC.2.1 dL_law_602 ?_
      refine lv_iconst (v := (1 : Int32)) hC.1 hC.2.1 dL_law_603 (by decide) ?_
      refine lv_isub hC.1 hC.2.1 dL_law_604 ?_
      refine lv_icmp_ne (tgt := 628) hC.1 hC.2.1 dL_law_605 (by decide) (fun b7 => ?_) (fun b7 => ?_)
      · have hF := ifN hF b7
        refine lv_iconst (v := (0 : Int32)) hC.1 hC.2.1 dL_law_628 (by decide) ?_
        cases hF
      · have hF := ifP hF b7
        refine lv_aload_n hC.1 hC.2.1 dL_law_608 rfl (lv_at hl 1 rfl) ?_
        refine lv_iload hC.1 hC.2.1 dL_law_609 (lv_at hl 5 rfl) ?_
        refine lv_iload hC.1 hC.2.1 dL_law_611 (lv_at hl 4 rfl) ?_
        obtain ⟨r9, h8, hF⟩ := ob1S hF
        refine k_Vi (As := [.int x8, .int x5]) (rest := []) hC hw (c_X6_carry (M := M5) h8) RC_S yv_X6_carry q2_233 ⟨rfl, rfl⟩ ⟨Nat.le_of_ble_eq_true rfl, Nat.le_of_ble_eq_true rfl⟩ hz rfl rfl (Nat.le_of_ble_eq_true rfl) hl dL_law_613 (fun H locs hw => ?_)
        refine lv_iconst (v := (1 : Int32)) hC.1 hC.2.1 dL_law_616 (by decide) ?_
        refine lv_icmp_ne (tgt := 628) hC.1 hC.2.1 dL_law_617 (by decide) (fun b10 => ?_) (fun b10 => ?_)
        · have hF := ifN hF b10
          refine lv_iconst (v := (0 : Int32)) hC.1 hC.2.1 dL_law_628 (by decide) ?_
          cases hF
        · have hF := ifP hF b10
          refine lv_aload_n hC.1 hC.2.1 dL_law_620 rfl (lv_at hl 1 rfl) ?_
          refine lv_iconst (v := (0 : Int32)) hC.1 hC.2.1 dL_law_621 (by decide) ?_
          obtain ⟨r12, M13, h11, hF⟩ := ob2S hF
          refine k_Vi (As := [.int (0 : Int32)]) (rest := []) hC hw (c_X6_on (M := M5) h11) RC_S yv_X6_on q2_139 ⟨rfl, rfl⟩ ⟨Nat.le_of_ble_eq_true rfl, Nat.le_of_ble_eq_true rfl⟩ hz rfl rfl (Nat.le_of_ble_eq_true rfl) hl dL_law_622 (fun H locs hw => ?_)
          refine lv_if_eq (tgt := 630) hC.1 hC.2.1 dL_law_625 (by decide) (fun b14 => ?_) (fun b14 => ?_)
          · have hF := ifP hF b14
            exact w_L_law_630 hC hX hbl hbA hAd hz hF hw (lv_sub hl [0, 1, 2, 3, 5] rfl)
          · have hF := ifN hF b14
            refine lv_iconst (v := (0 : Int32)) hC.1 hC.2.1 dL_law_628 (by decide) ?_
            cases hF
def F_L_law_291 (L : Nat) (xs : Nat → Int32) (fu : Nat) : Nat → Mm → Int32 → Int32 → Int32 → Option Unit
  | 0, _, _, _, _ => none
  | n + 1, M, x3, x5, x8 =>
    if (2 : Int32) ≤ x8 then
      ob1 (F_L_cell L xs fu M (10 : Int32)) (fun r3 =>
      ob1 (F_L_up fu M r3 x3) (fun r5 =>
      ob1 (F_X6_carry fu M r5 x5) (fun r7 =>
      if r7 ≤ 0 then
        F_L_law_570 L xs fu M x3 x5 r5 r7
      else
        if (10 : Int32) ≤ r7 then
          F_L_law_570 L xs fu M x3 x5 r5 r7
        else
          ob2 (F_X6_snow fu M r5 r7) (fun r11 M12 =>
          if ((6 : Int32) + r5) < 0 ∨ ln 86 ≤ ((6 : Int32) + r5).toNatClampNeg then none else (
          if r11 = ((M12.1 86 ((6 : Int32) + r5).toNatClampNeg) + r7) then
            ob1 (F_X6_carry fu M12 r5 x5) (fun r16 =>
            if r16 = 0 then
              ob2 (F_X6_on fu M12 (0 : Int32)) (fun r19 M20 =>
              if r19 = 0 then
                F_L_law_570 L xs fu M20 x3 x5 r5 r7
              else
                none)
            else
              none)
          else
            none)))))
    else
      ob2 (F_X6_bribe fu M x8 x5 (2 : Int32)) (fun r23 M24 =>
      ob2 (F_X6_votes fu M24 x5) (fun r26 M27 =>
      ob1 (F_X6_asked fu M27) (fun r29 =>
      if r26 ≤ r29 then
        F_L_law_330 L xs fu (F_L_law_291 L xs fu n) M27 x3 x5 x8 r23 (0 : Int32)
      else
        F_L_law_330 L xs fu (F_L_law_291 L xs fu n) M27 x3 x5 x8 r23 (1 : Int32))))
set_option maxRecDepth 100000 in
set_option maxHeartbeats 4000000 in
theorem w_L_law_291 {b L : Nat} {xs : Nat → Int32} {p : Program} {l : Launch} {e : Env} {s : State} {m : MethodId} {below : List Frame} {meth : Method} {c : Code} {G : Gv} (hC : Cx p s m #[Value.ref b] meth c cL_law 24 (some .boolean) RL) (hX : va_X b L xs s s.heap) (hbl : b < s.heap.size) (hbA : ¬ zA G b) (hAd : ∀ x, x < zNC → s.heap.size ≤ ad G x) {cells slots : Nat} (hz : cells ≤ 600000 ∧ slots ≤ 7302250) {fu : Nat} : ∀ (n : Nat) {x3 : Int32} {x5 : Int32} {x8 : Int32} {M : Mm} {H : Heap} {locs : List Loc} {ls : Array Slot}, F_L_law_291 L xs fu n M x3 x5 x8 = some () → St G s H locs M → lv_has ls 24 [(0, .ref b), (1, .ref (ad G 0)), (2, .ref (ad G 86)), (3, .int x3), (5, .int x5), (8, .int x8)] → W p l e room_1 s m #[Value.ref b] below meth c H locs cells slots (lw_Z below #[Value.ref b] s) (F0 m 291 ls []) := by
  intro n
  induction n with
  | zero =>
    intro x3 x5 x8 M H locs ls hF hw hl
    cases hF
  | succ n ih =>
    intro x3 x5 x8 M H locs ls hF hw hl
    unfold F_L_law_291 at hF
    refine lv_iload hC.1 hC.2.1 dL_law_291 (lv_at hl 5 rfl) ?_
    refine lv_iconst (v := (2 : Int32)) hC.1 hC.2.1 dL_law_293 (by decide) ?_
    refine lv_icmp_ge (tgt := 494) hC.1 hC.2.1 dL_law_294 (by decide) (fun b1 => ?_) (fun b1 => ?_)
    · have hF := ifP hF b1
      refine lv_aload_n hC.1 hC.2.1 dL_law_494 rfl (lv_at hl 0 rfl) ?_
      refine lv_bipush (v := (10 : Int32)) hC.1 hC.2.1 dL_law_495 (by decide) ?_
      obtain ⟨r3, h2, hF⟩ := ob1S hF
      refine k_Xi (As := [.ref b, .int (10 : Int32)]) (rest := []) hC hX hbl hbA hw (c_L_cell (M := M) h2) ys_L_cell q3_133 ⟨rfl, rfl⟩ ⟨Nat.le_of_ble_eq_true rfl, Nat.le_of_ble_eq_true rfl⟩ hz rfl rfl (Nat.le_of_ble_eq_true rfl) hl dL_law_497 (fun H locs hw => ?_)
      refine lv_iload_n hC.1 hC.2.1 dL_law_500 rfl (lv_at hl 3 rfl) ?_
      obtain ⟨r5, h4, hF⟩ := ob1S hF
      refine k_Si (As := [.int r3, .int x3]) (rest := []) hC hw (c_L_up (M := M) h4) ys_L_up q3_137 ⟨rfl, rfl⟩ ⟨Nat.le_of_ble_eq_true rfl, Nat.le_of_ble_eq_true rfl⟩ hz rfl rfl (Nat.le_of_ble_eq_true rfl) hl dL_law_501 (fun H locs hw => ?_)
      refine lv_istore (lv' := [(8, .int r5), (0, .ref b), (1, .ref (ad G 0)), (2, .ref (ad G 86)), (3, .int x3), (5, .int x5)]) hC.1 hC.2.1 dL_law_504 hl (by decide) rfl (fun ls hl => ?_)
      refine lv_aload_n hC.1 hC.2.1 dL_law_506 rfl (lv_at hl 2 rfl) ?_
      refine lv_iload hC.1 hC.2.1 dL_law_507 (lv_at hl 0 rfl) ?_
      refine lv_iload hC.1 hC.2.1 dL_law_509 (lv_at hl 5 rfl) ?_
      obtain ⟨r7, h6, hF⟩ := ob1S hF
      refine k_Vi (As := [.int r5, .int x5]) (rest := []) hC hw (c_X6_carry (M := M) h6) RC_S yv_X6_carry q2_233 ⟨rfl, rfl⟩ ⟨Nat.le_of_ble_eq_true rfl, Nat.le_of_ble_eq_true rfl⟩ hz rfl rfl (Nat.le_of_ble_eq_true rfl) hl dL_law_511 (fun H locs hw => ?_)
      refine lv_istore (lv' := [(9, .int r7), (8, .int r5), (0, .ref b), (1, .ref (ad G 0)), (2, .ref (ad G 86)), (3, .int x3), (5, .int x5)]) hC.1 hC.2.1 dL_law_514 hl (by decide) rfl (fun ls hl => ?_)
      refine lv_iload hC.1 hC.2.1 dL_law_516 (lv_at hl 0 rfl) ?_
      refine lv_if_le (tgt := 570) hC.1 hC.2.1 dL_law_518 (by decide) (fun b8 => ?_) (fun b8 => ?_)
      · have hF := ifP hF b8
        exact w_L_law_570 hC hX hbl hbA hAd hz hF hw (lv_sub hl [2, 3, 4, 5, 6, 1, 0] rfl)
      · have hF := ifN hF b8
        refine lv_iload hC.1 hC.2.1 dL_law_521 (lv_at hl 0 rfl) ?_
        refine lv_bipush (v := (10 : Int32)) hC.1 hC.2.1 dL_law_523 (by decide) ?_
        refine lv_icmp_ge (tgt := 570) hC.1 hC.2.1 dL_law_525 (by decide) (fun b9 => ?_) (fun b9 => ?_)
        · have hF := ifP hF b9
          exact w_L_law_570 hC hX hbl hbA hAd hz hF hw (lv_sub hl [2, 3, 4, 5, 6, 1, 0] rfl)
        · have hF := ifN hF b9
          refine lv_aload_n hC.1 hC.2.1 dL_law_528 rfl (lv_at hl 3 rfl) ?_
          refine lv_iload hC.1 hC.2.1 dL_law_529 (lv_at hl 1 rfl) ?_
          refine lv_iload hC.1 hC.2.1 dL_law_531 (lv_at hl 0 rfl) ?_
          obtain ⟨r11, M12, h10, hF⟩ := ob2S hF
          refine k_Vi (As := [.int r5, .int r7]) (rest := []) hC hw (c_X6_snow (M := M) h10) RC_S yv_X6_snow q2_108 ⟨rfl, rfl⟩ ⟨Nat.le_of_ble_eq_true rfl, Nat.le_of_ble_eq_true rfl⟩ hz rfl rfl (Nat.le_of_ble_eq_true rfl) hl dL_law_533 (fun H locs hw => ?_)
          refine lv_aload_n hC.1 hC.2.1 dL_law_536 rfl (lv_at hl 4 rfl) ?_
          refine lv_bipush (v := (6 : Int32)) hC.1 hC.2.1 dL_law_537 (by decide) ?_
          refine lv_iload hC.1 hC.2.1 dL_law_539 (lv_at hl 1 rfl) ?_
          refine lv_iadd hC.1 hC.2.1 dL_law_541 ?_
          obtain ⟨n13, hF⟩ := ifO hF
          refine r_iald hC.1 hC.2.1 hw (rfl : kd 86 = 1) n13 dL_law_542 ?_
          refine lv_iload hC.1 hC.2.1 dL_law_543 (lv_at hl 0 rfl) ?_
          refine lv_iadd hC.1 hC.2.1 dL_law_545 ?_
          refine lv_icmp_ne (tgt := 568) hC.1 hC.2.1 dL_law_546 (by decide) (fun b14 => ?_) (fun b14 => ?_)
          · have hF := ifN hF b14
            refine lv_iconst (v := (0 : Int32)) hC.1 hC.2.1 dL_law_568 (by decide) ?_
            cases hF
          · have hF := ifP hF b14
            refine lv_aload_n hC.1 hC.2.1 dL_law_549 rfl (lv_at hl 3 rfl) ?_
            refine lv_iload hC.1 hC.2.1 dL_law_550 (lv_at hl 1 rfl) ?_
            refine lv_iload hC.1 hC.2.1 dL_law_552 (lv_at hl 6 rfl) ?_
            obtain ⟨r16, h15, hF⟩ := ob1S hF
            refine k_Vi (As := [.int r5, .int x5]) (rest := []) hC hw (c_X6_carry (M := M12) h15) RC_S yv_X6_carry q2_233 ⟨rfl, rfl⟩ ⟨Nat.le_of_ble_eq_true rfl, Nat.le_of_ble_eq_true rfl⟩ hz rfl rfl (Nat.le_of_ble_eq_true rfl) hl dL_law_554 (fun H locs hw => ?_)
            refine lv_if_ne (tgt := 568) hC.1 hC.2.1 dL_law_557 (by decide) (fun b17 => ?_) (fun b17 => ?_)
            · have hF := ifN hF b17
              refine lv_iconst (v := (0 : Int32)) hC.1 hC.2.1 dL_law_568 (by decide) ?_
              cases hF
            · have hF := ifP hF b17
              refine lv_aload_n hC.1 hC.2.1 dL_law_560 rfl (lv_at hl 3 rfl) ?_
              refine lv_iconst (v := (0 : Int32)) hC.1 hC.2.1 dL_law_561 (by decide) ?_
              obtain ⟨r19, M20, h18, hF⟩ := ob2S hF
              refine k_Vi (As := [.int (0 : Int32)]) (rest := []) hC hw (c_X6_on (M := M12) h18) RC_S yv_X6_on q2_139 ⟨rfl, rfl⟩ ⟨Nat.le_of_ble_eq_true rfl, Nat.le_of_ble_eq_true rfl⟩ hz rfl rfl (Nat.le_of_ble_eq_true rfl) hl dL_law_562 (fun H locs hw => ?_)
              refine lv_if_eq (tgt := 570) hC.1 hC.2.1 dL_law_565 (by decide) (fun b21 => ?_) (fun b21 => ?_)
              · have hF := ifP hF b21
                exact w_L_law_570 hC hX hbl hbA hAd hz hF hw (lv_sub hl [2, 3, 4, 5, 6, 1, 0] rfl)
              · have hF := ifN hF b21
                refine lv_iconst (v := (0 : Int32)) hC.1 hC.2.1 dL_law_568 (by decide) ?_
                cases hF
    · have hF := ifN hF b1
      refine lv_aload_n hC.1 hC.2.1 dL_law_297 rfl (lv_at hl 1 rfl) ?_
      refine lv_iload hC.1 hC.2.1 dL_law_298 (lv_at hl 5 rfl) ?_
      refine lv_iload hC.1 hC.2.1 dL_law_300 (lv_at hl 4 rfl) ?_
      refine lv_iconst (v := (2 : Int32)) hC.1 hC.2.1 dL_law_302 (by decide) ?_
      obtain ⟨r23, M24, h22, hF⟩ := ob2S hF
      refine k_Vi (As := [.int x8, .int x5, .int (2 : Int32)]) (rest := []) hC hw (c_X6_bribe (M := M) h22) RC_S yv_X6_bribe q2_209 ⟨rfl, rfl⟩ ⟨Nat.le_of_ble_eq_true rfl, Nat.le_of_ble_eq_true rfl⟩ hz rfl rfl (Nat.le_of_ble_eq_true rfl) hl dL_law_303 (fun H locs hw => ?_)
      refine lv_istore (lv' := [(9, .int r23), (0, .ref b), (1, .ref (ad G 0)), (2, .ref (ad G 86)), (3, .int x3), (5, .int x5), (8, .int x8)]) hC.1 hC.2.1 dL_law_306 hl (by decide) rfl (fun ls hl => ?_)
      refine lv_aload_n hC.1 hC.2.1 dL_law_308 rfl (lv_at hl 2 rfl) ?_
      refine lv_iload hC.1 hC.2.1 dL_law_309 (lv_at hl 5 rfl) ?_
      obtain ⟨r26, M27, h25, hF⟩ := ob2S hF
      refine k_Vi (As := [.int x5]) (rest := []) hC hw (c_X6_votes (M := M24) h25) RC_S yv_X6_votes q2_170 ⟨rfl, rfl⟩ ⟨Nat.le_of_ble_eq_true rfl, Nat.le_of_ble_eq_true rfl⟩ hz rfl rfl (Nat.le_of_ble_eq_true rfl) hl dL_law_311 (fun H locs hw => ?_)
      refine lv_istore (lv' := [(10, .int r26), (9, .int r23), (0, .ref b), (1, .ref (ad G 0)), (2, .ref (ad G 86)), (3, .int x3), (5, .int x5), (8, .int x8)]) hC.1 hC.2.1 dL_law_314 hl (by decide) rfl (fun ls hl => ?_)
      refine lv_iload hC.1 hC.2.1 dL_law_316 (lv_at hl 0 rfl) ?_
      refine lv_aload_n hC.1 hC.2.1 dL_law_318 rfl (lv_at hl 3 rfl) ?_
      obtain ⟨r29, h28, hF⟩ := ob1S hF
      refine k_Vi (As := []) (rest := [.int r26]) hC hw (c_X6_asked (M := M27) h28) RC_S yv_X6_asked q3_86 ⟨rfl, rfl⟩ ⟨Nat.le_of_ble_eq_true rfl, Nat.le_of_ble_eq_true rfl⟩ hz rfl rfl (Nat.le_of_ble_eq_true rfl) hl dL_law_319 (fun H locs hw => ?_)
      refine lv_icmp_le (tgt := 329) hC.1 hC.2.1 dL_law_322 (by decide) (fun b30 => ?_) (fun b30 => ?_)
      · have hF := ifP hF b30
        refine lv_iconst (v := (0 : Int32)) hC.1 hC.2.1 dL_law_329 (by decide) ?_
        exact w_L_law_330 hC hX hbl hbA hAd hz (hk_291 := ih) hF hw (lv_sub hl [2, 3, 4, 5, 6, 7, 1] rfl)
      · have hF := ifN hF b30
        refine lv_iconst (v := (1 : Int32)) hC.1 hC.2.1 dL_law_325 (by decide) ?_
        refine lv_goto (tgt := 330) hC.1 hC.2.1 dL_law_326 (by decide) ?_
        exact w_L_law_330 hC hX hbl hbA hAd hz (hk_291 := ih) hF hw (lv_sub hl [2, 3, 4, 5, 6, 7, 1] rfl)
def F_L_law_278 (L : Nat) (xs : Nat → Int32) (fu : Nat) (M : Mm) (x3 : Int32) (x5 : Int32) : Option Unit :=
  ob2 (F_X6_on fu M (0 : Int32)) (fun r2 M3 =>
  if r2 = 0 then
    F_L_law_291 L xs fu fu M3 x3 x5 (0 : Int32)
  else
    none)
set_option maxRecDepth 100000 in
set_option maxHeartbeats 4000000 in
theorem w_L_law_278 {b L : Nat} {xs : Nat → Int32} {p : Program} {l : Launch} {e : Env} {s : State} {m : MethodId} {below : List Frame} {meth : Method} {c : Code} {G : Gv} (hC : Cx p s m #[Value.ref b] meth c cL_law 24 (some .boolean) RL) (hX : va_X b L xs s s.heap) (hbl : b < s.heap.size) (hbA : ¬ zA G b) (hAd : ∀ x, x < zNC → s.heap.size ≤ ad G x) {cells slots : Nat} (hz : cells ≤ 600000 ∧ slots ≤ 7302250) {fu : Nat} {x3 : Int32} {x5 : Int32} {M : Mm} {H : Heap} {locs : List Loc} {ls : Array Slot} (hF : F_L_law_278 L xs fu M x3 x5 = some ()) (hw : St G s H locs M) (hl : lv_has ls 24 [(0, .ref b), (1, .ref (ad G 0)), (2, .ref (ad G 86)), (3, .int x3), (5, .int x5)]) : W p l e room_1 s m #[Value.ref b] below meth c H locs cells slots (lw_Z below #[Value.ref b] s) (F0 m 278 ls []) := by
  unfold F_L_law_278 at hF
  refine lv_aload_n hC.1 hC.2.1 dL_law_278 rfl (lv_at hl 1 rfl) ?_
  refine lv_iconst (v := (0 : Int32)) hC.1 hC.2.1 dL_law_279 (by decide) ?_
  obtain ⟨r2, M3, h1, hF⟩ := ob2S hF
  refine k_Vi (As := [.int (0 : Int32)]) (rest := []) hC hw (c_X6_on (M := M) h1) RC_S yv_X6_on q2_139 ⟨rfl, rfl⟩ ⟨Nat.le_of_ble_eq_true rfl, Nat.le_of_ble_eq_true rfl⟩ hz rfl rfl (Nat.le_of_ble_eq_true rfl) hl dL_law_280 (fun H locs hw => ?_)
  refine lv_if_eq (tgt := 288) hC.1 hC.2.1 dL_law_283 (by decide) (fun b4 => ?_) (fun b4 => ?_)
  · have hF := ifP hF b4
    refine lv_iconst (v := (0 : Int32)) hC.1 hC.2.1 dL_law_288 (by decide) ?_
    refine lv_istore (lv' := [(8, .int (0 : Int32)), (0, .ref b), (1, .ref (ad G 0)), (2, .ref (ad G 86)), (3, .int x3), (5, .int x5)]) hC.1 hC.2.1 dL_law_289 hl (by decide) rfl (fun ls hl => ?_)
    exact w_L_law_291 hC hX hbl hbA hAd hz _ hF hw (lv_sub hl [1, 2, 3, 4, 5, 0] rfl)
  · have hF := ifN hF b4
    refine lv_iconst (v := (0 : Int32)) hC.1 hC.2.1 dL_law_286 (by decide) ?_
    cases hF
def F_L_law_254 (L : Nat) (xs : Nat → Int32) (fu : Nat) (M : Mm) (x3 : Int32) (x4 : Int32) (x5 : Int32) (x6 : Int32) (x7 : Int32) : Option Unit :=
  if x6 < 0 then
    F_L_law_278 L xs fu M x3 x5
  else
    if x7 = x6 then
      ob2 (F_X6_guard fu M x4 x5 (1 : Int32)) (fun r4 M5 =>
      if r4 = 0 then
        F_L_law_278 L xs fu M5 x3 x5
      else
        none)
    else
      none
set_option maxRecDepth 100000 in
set_option maxHeartbeats 4000000 in
theorem w_L_law_254 {b L : Nat} {xs : Nat → Int32} {p : Program} {l : Launch} {e : Env} {s : State} {m : MethodId} {below : List Frame} {meth : Method} {c : Code} {G : Gv} (hC : Cx p s m #[Value.ref b] meth c cL_law 24 (some .boolean) RL) (hX : va_X b L xs s s.heap) (hbl : b < s.heap.size) (hbA : ¬ zA G b) (hAd : ∀ x, x < zNC → s.heap.size ≤ ad G x) {cells slots : Nat} (hz : cells ≤ 600000 ∧ slots ≤ 7302250) {fu : Nat} {x3 : Int32} {x4 : Int32} {x5 : Int32} {x6 : Int32} {x7 : Int32} {M : Mm} {H : Heap} {locs : List Loc} {ls : Array Slot} (hF : F_L_law_254 L xs fu M x3 x4 x5 x6 x7 = some ()) (hw : St G s H locs M) (hl : lv_has ls 24 [(0, .ref b), (1, .ref (ad G 0)), (2, .ref (ad G 86)), (3, .int x3), (4, .int x4), (5, .int x5), (6, .int x6), (7, .int x7)]) : W p l e room_1 s m #[Value.ref b] below meth c H locs cells slots (lw_Z below #[Value.ref b] s) (F0 m 254 ls []) := by
  unfold F_L_law_254 at hF
  refine lv_iload hC.1 hC.2.1 dL_law_254 (lv_at hl 6 rfl) ?_
  refine lv_if_lt (tgt := 278) hC.1 hC.2.1 dL_law_256 (by decide) (fun b1 => ?_) (fun b1 => ?_)
  · have hF := ifP hF b1
    exact w_L_law_278 hC hX hbl hbA hAd hz hF hw (lv_sub hl [0, 1, 2, 3, 5] rfl)
  · have hF := ifN hF b1
    refine lv_iload hC.1 hC.2.1 dL_law_259 (lv_at hl 7 rfl) ?_
    refine lv_iload hC.1 hC.2.1 dL_law_261 (lv_at hl 6 rfl) ?_
    refine lv_icmp_ne (tgt := 286) hC.1 hC.2.1 dL_law_263 (by decide) (fun b2 => ?_) (fun b2 => ?_)
    · have hF := ifN hF b2
      refine lv_iconst (v := (0 : Int32)) hC.1 hC.2.1 dL_law_286 (by decide) ?_
      cases hF
    · have hF := ifP hF b2
      refine lv_aload_n hC.1 hC.2.1 dL_law_266 rfl (lv_at hl 1 rfl) ?_
      refine lv_iload hC.1 hC.2.1 dL_law_267 (lv_at hl 4 rfl) ?_
      refine lv_iload hC.1 hC.2.1 dL_law_269 (lv_at hl 5 rfl) ?_
      refine lv_iconst (v := (1 : Int32)) hC.1 hC.2.1 dL_law_271 (by decide) ?_
      obtain ⟨r4, M5, h3, hF⟩ := ob2S hF
      refine k_Vi (As := [.int x4, .int x5, .int (1 : Int32)]) (rest := []) hC hw (c_X6_guard (M := M) h3) RC_S yv_X6_guard q2_191 ⟨rfl, rfl⟩ ⟨Nat.le_of_ble_eq_true rfl, Nat.le_of_ble_eq_true rfl⟩ hz rfl rfl (Nat.le_of_ble_eq_true rfl) hl dL_law_272 (fun H locs hw => ?_)
      refine lv_if_ne (tgt := 286) hC.1 hC.2.1 dL_law_275 (by decide) (fun b6 => ?_) (fun b6 => ?_)
      · have hF := ifN hF b6
        refine lv_iconst (v := (0 : Int32)) hC.1 hC.2.1 dL_law_286 (by decide) ?_
        cases hF
      · have hF := ifP hF b6
        exact w_L_law_278 hC hX hbl hbA hAd hz hF hw (lv_sub hl [0, 1, 2, 3, 5] rfl)
def F_L_law_120 (L : Nat) (xs : Nat → Int32) (fu : Nat) : Nat → Mm → Int32 → Int32 → Int32 → Int32 → Int32 → Int32 → Option Unit
  | 0, _, _, _, _, _, _, _ => none
  | n + 1, M, x3, x4, x5, x6, x7, x8 =>
    if x3 ≤ x8 then
      F_L_law_254 L xs fu M x3 x4 x5 x6 x7
    else
      if x6 < 0 then
        F_L_law_254 L xs fu M x3 x4 x5 x6 x7
      else
        ob2 (F_X6_at fu M (0 : Int32) x8) (fun r4 M5 =>
        if r4 = (1 : Int32) then
          ob1 (F_X6_asked fu M5) (fun r8 =>
          if ((12 : Int32) + x8) < 0 ∨ ln 86 ≤ ((12 : Int32) + x8).toNatClampNeg then none else (
          lt1 (x7 + (r8 - (M5.1 86 ((12 : Int32) + x8).toNatClampNeg))) (fun y10 =>
          if ((12 : Int32) + x8) < 0 ∨ ln 86 ≤ ((12 : Int32) + x8).toNatClampNeg then none else (
          if r8 < (M5.1 86 ((12 : Int32) + x8).toNatClampNeg) then
            none
          else
            if (9 : Int32) < r8 then
              none
            else
              ob2 (F_X6_shade fu M5 x8 r8) (fun r15 M16 =>
              if ((12 : Int32) + x8) < 0 ∨ ln 86 ≤ ((12 : Int32) + x8).toNatClampNeg then none else (
              if r15 = (M16.1 86 ((12 : Int32) + x8).toNatClampNeg) then
                if ((x4 >>> (x8 &&& 31)) &&& (1 : Int32)) = (1 : Int32) then
                  ob1 (F_X6_bulk fu M16 x8 x5) (fun r21 =>
                  if r21 = 0 then
                    none
                  else
                    F_L_law_224 L xs fu (F_L_law_120 L xs fu n) M16 x3 x4 x5 x6 y10 x8 r8)
                else
                  F_L_law_224 L xs fu (F_L_law_120 L xs fu n) M16 x3 x4 x5 x6 y10 x8 r8
              else
                none))))))
        else
          none)
set_option maxRecDepth 100000 in
set_option maxHeartbeats 4000000 in
theorem w_L_law_120 {b L : Nat} {xs : Nat → Int32} {p : Program} {l : Launch} {e : Env} {s : State} {m : MethodId} {below : List Frame} {meth : Method} {c : Code} {G : Gv} (hC : Cx p s m #[Value.ref b] meth c cL_law 24 (some .boolean) RL) (hX : va_X b L xs s s.heap) (hbl : b < s.heap.size) (hbA : ¬ zA G b) (hAd : ∀ x, x < zNC → s.heap.size ≤ ad G x) {cells slots : Nat} (hz : cells ≤ 600000 ∧ slots ≤ 7302250) {fu : Nat} : ∀ (n : Nat) {x3 : Int32} {x4 : Int32} {x5 : Int32} {x6 : Int32} {x7 : Int32} {x8 : Int32} {M : Mm} {H : Heap} {locs : List Loc} {ls : Array Slot}, F_L_law_120 L xs fu n M x3 x4 x5 x6 x7 x8 = some () → St G s H locs M → lv_has ls 24 [(0, .ref b), (1, .ref (ad G 0)), (2, .ref (ad G 86)), (3, .int x3), (4, .int x4), (5, .int x5), (6, .int x6), (7, .int x7), (8, .int x8)] → W p l e room_1 s m #[Value.ref b] below meth c H locs cells slots (lw_Z below #[Value.ref b] s) (F0 m 120 ls []) := by
  intro n
  induction n with
  | zero =>
    intro x3 x4 x5 x6 x7 x8 M H locs ls hF hw hl
    cases hF
  | succ n ih =>
    intro x3 x4 x5 x6 x7 x8 M H locs ls hF hw hl
    unfold F_L_law_120 at hF
    refine lv_iload hC.1 hC.2.1 dL_law_120 (lv_at hl 8 rfl) ?_
    refine lv_iload_n hC.1 hC.2.1 dL_law_122 rfl (lv_at hl 3 rfl) ?_
    refine lv_icmp_ge (tgt := 254) hC.1 hC.2.1 dL_law_123 (by decide) (fun b1 => ?_) (fun b1 => ?_)
    · have hF := ifP hF b1
      exact w_L_law_254 hC hX hbl hbA hAd hz hF hw (lv_sub hl [0, 1, 2, 3, 4, 5, 6, 7] rfl)
    · have hF := ifN hF b1
      refine lv_iload hC.1 hC.2.1 dL_law_126 (lv_at hl 6 rfl) ?_
      refine lv_if_lt (tgt := 254) hC.1 hC.2.1 dL_law_128 (by decide) (fun b2 => ?_) (fun b2 => ?_)
      · have hF := ifP hF b2
        exact w_L_law_254 hC hX hbl hbA hAd hz hF hw (lv_sub hl [0, 1, 2, 3, 4, 5, 6, 7] rfl)
      · have hF := ifN hF b2
        refine lv_aload_n hC.1 hC.2.1 dL_law_131 rfl (lv_at hl 1 rfl) ?_
        refine lv_iconst (v := (0 : Int32)) hC.1 hC.2.1 dL_law_132 (by decide) ?_
        refine lv_iload hC.1 hC.2.1 dL_law_133 (lv_at hl 8 rfl) ?_
        obtain ⟨r4, M5, h3, hF⟩ := ob2S hF
        refine k_Vi (As := [.int (0 : Int32), .int x8]) (rest := []) hC hw (c_X6_at (M := M) h3) RC_S yv_X6_at q2_5 ⟨rfl, rfl⟩ ⟨Nat.le_of_ble_eq_true rfl, Nat.le_of_ble_eq_true rfl⟩ hz rfl rfl (Nat.le_of_ble_eq_true rfl) hl dL_law_135 (fun H locs hw => ?_)
        refine lv_iconst (v := (1 : Int32)) hC.1 hC.2.1 dL_law_138 (by decide) ?_
        refine lv_icmp_eq (tgt := 144) hC.1 hC.2.1 dL_law_139 (by decide) (fun b6 => ?_) (fun b6 => ?_)
        · have hF := ifP hF b6
          refine lv_aload_n hC.1 hC.2.1 dL_law_144 rfl (lv_at hl 1 rfl) ?_
          obtain ⟨r8, h7, hF⟩ := ob1S hF
          refine k_Vi (As := []) (rest := []) hC hw (c_X6_asked (M := M5) h7) RC_S yv_X6_asked q3_86 ⟨rfl, rfl⟩ ⟨Nat.le_of_ble_eq_true rfl, Nat.le_of_ble_eq_true rfl⟩ hz rfl rfl (Nat.le_of_ble_eq_true rfl) hl dL_law_145 (fun H locs hw => ?_)
          refine lv_istore (lv' := [(9, .int r8), (0, .ref b), (1, .ref (ad G 0)), (2, .ref (ad G 86)), (3, .int x3), (4, .int x4), (5, .int x5), (6, .int x6), (7, .int x7), (8, .int x8)]) hC.1 hC.2.1 dL_law_148 hl (by decide) rfl (fun ls hl => ?_)
          refine lv_iload hC.1 hC.2.1 dL_law_150 (lv_at hl 8 rfl) ?_
          refine lv_iload hC.1 hC.2.1 dL_law_152 (lv_at hl 0 rfl) ?_
          refine lv_aload_n hC.1 hC.2.1 dL_law_154 rfl (lv_at hl 3 rfl) ?_
          refine lv_bipush (v := (12 : Int32)) hC.1 hC.2.1 dL_law_155 (by decide) ?_
          refine lv_iload hC.1 hC.2.1 dL_law_157 (lv_at hl 9 rfl) ?_
          refine lv_iadd hC.1 hC.2.1 dL_law_159 ?_
          obtain ⟨n9, hF⟩ := ifO hF
          refine r_iald hC.1 hC.2.1 hw (rfl : kd 86 = 1) n9 dL_law_160 ?_
          refine lv_isub hC.1 hC.2.1 dL_law_161 ?_
          refine lv_iadd hC.1 hC.2.1 dL_law_162 ?_
          refine lv_topi (fun y10 ey10 => ?_)
          have hF := lt1G hF ey10
          refine lv_istore (lv' := [(7, .int y10), (9, .int r8), (0, .ref b), (1, .ref (ad G 0)), (2, .ref (ad G 86)), (3, .int x3), (4, .int x4), (5, .int x5), (6, .int x6), (8, .int x8)]) hC.1 hC.2.1 dL_law_163 hl (by decide) rfl (fun ls hl => ?_)
          refine lv_iload hC.1 hC.2.1 dL_law_165 (lv_at hl 1 rfl) ?_
          refine lv_aload_n hC.1 hC.2.1 dL_law_167 rfl (lv_at hl 4 rfl) ?_
          refine lv_bipush (v := (12 : Int32)) hC.1 hC.2.1 dL_law_168 (by decide) ?_
          refine lv_iload hC.1 hC.2.1 dL_law_170 (lv_at hl 9 rfl) ?_
          refine lv_iadd hC.1 hC.2.1 dL_law_172 ?_
          obtain ⟨n11, hF⟩ := ifO hF
          refine r_iald hC.1 hC.2.1 hw (rfl : kd 86 = 1) n11 dL_law_173 ?_
          refine lv_icmp_lt (tgt := 246) hC.1 hC.2.1 dL_law_174 (by decide) (fun b12 => ?_) (fun b12 => ?_)
          · have hF := ifP hF b12
            refine lv_iconst (v := (0 : Int32)) hC.1 hC.2.1 dL_law_246 (by decide) ?_
            cases hF
          · have hF := ifN hF b12
            refine lv_iload hC.1 hC.2.1 dL_law_177 (lv_at hl 1 rfl) ?_
            refine lv_bipush (v := (9 : Int32)) hC.1 hC.2.1 dL_law_179 (by decide) ?_
            refine lv_icmp_gt (tgt := 246) hC.1 hC.2.1 dL_law_181 (by decide) (fun b13 => ?_) (fun b13 => ?_)
            · have hF := ifP hF b13
              refine lv_iconst (v := (0 : Int32)) hC.1 hC.2.1 dL_law_246 (by decide) ?_
              cases hF
            · have hF := ifN hF b13
              refine lv_aload_n hC.1 hC.2.1 dL_law_184 rfl (lv_at hl 3 rfl) ?_
              refine lv_iload hC.1 hC.2.1 dL_law_185 (lv_at hl 9 rfl) ?_
              refine lv_iload hC.1 hC.2.1 dL_law_187 (lv_at hl 1 rfl) ?_
              obtain ⟨r15, M16, h14, hF⟩ := ob2S hF
              refine k_Vi (As := [.int x8, .int r8]) (rest := []) hC hw (c_X6_shade (M := M5) h14) RC_S yv_X6_shade q2_104 ⟨rfl, rfl⟩ ⟨Nat.le_of_ble_eq_true rfl, Nat.le_of_ble_eq_true rfl⟩ hz rfl rfl (Nat.le_of_ble_eq_true rfl) hl dL_law_189 (fun H locs hw => ?_)
              refine lv_aload_n hC.1 hC.2.1 dL_law_192 rfl (lv_at hl 4 rfl) ?_
              refine lv_bipush (v := (12 : Int32)) hC.1 hC.2.1 dL_law_193 (by decide) ?_
              refine lv_iload hC.1 hC.2.1 dL_law_195 (lv_at hl 9 rfl) ?_
              refine lv_iadd hC.1 hC.2.1 dL_law_197 ?_
              obtain ⟨n17, hF⟩ := ifO hF
              refine r_iald hC.1 hC.2.1 hw (rfl : kd 86 = 1) n17 dL_law_198 ?_
              refine lv_icmp_ne (tgt := 246) hC.1 hC.2.1 dL_law_199 (by decide) (fun b18 => ?_) (fun b18 => ?_)
              · have hF := ifN hF b18
                refine lv_iconst (v := (0 : Int32)) hC.1 hC.2.1 dL_law_246 (by decide) ?_
                cases hF
              · have hF := ifP hF b18
                refine lv_iload hC.1 hC.2.1 dL_law_202 (lv_at hl 6 rfl) ?_
                refine lv_iload hC.1 hC.2.1 dL_law_204 (lv_at hl 9 rfl) ?_
                refine lv_ishr hC.1 hC.2.1 dL_law_206 ?_
                refine lv_iconst (v := (1 : Int32)) hC.1 hC.2.1 dL_law_207 (by decide) ?_
                refine lv_iand hC.1 hC.2.1 dL_law_208 ?_
                refine lv_iconst (v := (1 : Int32)) hC.1 hC.2.1 dL_law_209 (by decide) ?_
                refine lv_icmp_ne (tgt := 224) hC.1 hC.2.1 dL_law_210 (by decide) (fun b19 => ?_) (fun b19 => ?_)
                · have hF := ifN hF b19
                  exact w_L_law_224 hC hX hbl hbA hAd hz (hk_120 := ih) hF hw (lv_sub hl [2, 3, 4, 5, 6, 7, 8, 0, 9, 1] rfl)
                · have hF := ifP hF b19
                  refine lv_aload_n hC.1 hC.2.1 dL_law_213 rfl (lv_at hl 3 rfl) ?_
                  refine lv_iload hC.1 hC.2.1 dL_law_214 (lv_at hl 9 rfl) ?_
                  refine lv_iload hC.1 hC.2.1 dL_law_216 (lv_at hl 7 rfl) ?_
                  obtain ⟨r21, h20, hF⟩ := ob1S hF
                  refine k_Vi (As := [.int x8, .int x5]) (rest := []) hC hw (c_X6_bulk (M := M16) h20) RC_S yv_X6_bulk q2_143 ⟨rfl, rfl⟩ ⟨Nat.le_of_ble_eq_true rfl, Nat.le_of_ble_eq_true rfl⟩ hz rfl rfl (Nat.le_of_ble_eq_true rfl) hl dL_law_218 (fun H locs hw => ?_)
                  refine lv_if_eq (tgt := 246) hC.1 hC.2.1 dL_law_221 (by decide) (fun b22 => ?_) (fun b22 => ?_)
                  · have hF := ifP hF b22
                    refine lv_iconst (v := (0 : Int32)) hC.1 hC.2.1 dL_law_246 (by decide) ?_
                    cases hF
                  · have hF := ifN hF b22
                    exact w_L_law_224 hC hX hbl hbA hAd hz (hk_120 := ih) hF hw (lv_sub hl [2, 3, 4, 5, 6, 7, 8, 0, 9, 1] rfl)
        · have hF := ifN hF b6
          refine lv_iconst (v := (0 : Int32)) hC.1 hC.2.1 dL_law_142 (by decide) ?_
          cases hF
def F_L_law_84 (L : Nat) (xs : Nat → Int32) (fu : Nat) (M : Mm) (x3 : Int32) (x4 : Int32) (t0 : Int32) (t1 : Int32) : Option Unit :=
  ob1 (F_L_up fu M t0 t1) (fun r2 =>
  ob2 (F_X6_guard fu M x4 r2 (0 : Int32)) (fun r4 M5 =>
  if 0 ≤ r4 then
    F_L_law_120 L xs fu fu M5 x3 x4 r2 r4 (0 : Int32) (0 : Int32)
  else
    if r4 = (-9 : Int32) then
      F_L_law_120 L xs fu fu M5 x3 x4 r2 r4 (0 : Int32) (0 : Int32)
    else
      none))
set_option maxRecDepth 100000 in
set_option maxHeartbeats 4000000 in
theorem w_L_law_84 {b L : Nat} {xs : Nat → Int32} {p : Program} {l : Launch} {e : Env} {s : State} {m : MethodId} {below : List Frame} {meth : Method} {c : Code} {G : Gv} (hC : Cx p s m #[Value.ref b] meth c cL_law 24 (some .boolean) RL) (hX : va_X b L xs s s.heap) (hbl : b < s.heap.size) (hbA : ¬ zA G b) (hAd : ∀ x, x < zNC → s.heap.size ≤ ad G x) {cells slots : Nat} (hz : cells ≤ 600000 ∧ slots ≤ 7302250) {fu : Nat} {x3 : Int32} {x4 : Int32} {t0 : Int32} {t1 : Int32} {M : Mm} {H : Heap} {locs : List Loc} {ls : Array Slot} (hF : F_L_law_84 L xs fu M x3 x4 t0 t1 = some ()) (hw : St G s H locs M) (hl : lv_has ls 24 [(0, .ref b), (1, .ref (ad G 0)), (2, .ref (ad G 86)), (3, .int x3), (4, .int x4)]) : W p l e room_1 s m #[Value.ref b] below meth c H locs cells slots (lw_Z below #[Value.ref b] s) (F0 m 84 ls [.int t1, .int t0]) := by
  unfold F_L_law_84 at hF
  obtain ⟨r2, h1, hF⟩ := ob1S hF
  refine k_Si (As := [.int t0, .int t1]) (rest := []) hC hw (c_L_up (M := M) h1) ys_L_up q3_137 ⟨rfl, rfl⟩ ⟨Nat.le_of_ble_eq_true rfl, Nat.le_of_ble_eq_true rfl⟩ hz rfl rfl (Nat.le_of_ble_eq_true rfl) hl dL_law_84 (fun H locs hw => ?_)
  refine lv_istore (lv' := [(5, .int r2), (0, .ref b), (1, .ref (ad G 0)), (2, .ref (ad G 86)), (3, .int x3), (4, .int x4)]) hC.1 hC.2.1 dL_law_87 hl (by decide) rfl (fun ls hl => ?_)
  refine lv_aload_n hC.1 hC.2.1 dL_law_89 rfl (lv_at hl 2 rfl) ?_
  refine lv_iload hC.1 hC.2.1 dL_law_90 (lv_at hl 5 rfl) ?_
  refine lv_iload hC.1 hC.2.1 dL_law_92 (lv_at hl 0 rfl) ?_
  refine lv_iconst (v := (0 : Int32)) hC.1 hC.2.1 dL_law_94 (by decide) ?_
  obtain ⟨r4, M5, h3, hF⟩ := ob2S hF
  refine k_Vi (As := [.int x4, .int r2, .int (0 : Int32)]) (rest := []) hC hw (c_X6_guard (M := M) h3) RC_S yv_X6_guard q2_191 ⟨rfl, rfl⟩ ⟨Nat.le_of_ble_eq_true rfl, Nat.le_of_ble_eq_true rfl⟩ hz rfl rfl (Nat.le_of_ble_eq_true rfl) hl dL_law_95 (fun H locs hw => ?_)
  refine lv_istore (lv' := [(6, .int r4), (5, .int r2), (0, .ref b), (1, .ref (ad G 0)), (2, .ref (ad G 86)), (3, .int x3), (4, .int x4)]) hC.1 hC.2.1 dL_law_98 hl (by decide) rfl (fun ls hl => ?_)
  refine lv_iload hC.1 hC.2.1 dL_law_100 (lv_at hl 0 rfl) ?_
  refine lv_if_ge (tgt := 114) hC.1 hC.2.1 dL_law_102 (by decide) (fun b6 => ?_) (fun b6 => ?_)
  · have hF := ifP hF b6
    refine lv_iconst (v := (0 : Int32)) hC.1 hC.2.1 dL_law_114 (by decide) ?_
    refine lv_istore (lv' := [(7, .int (0 : Int32)), (6, .int r4), (5, .int r2), (0, .ref b), (1, .ref (ad G 0)), (2, .ref (ad G 86)), (3, .int x3), (4, .int x4)]) hC.1 hC.2.1 dL_law_115 hl (by decide) rfl (fun ls hl => ?_)
    refine lv_iconst (v := (0 : Int32)) hC.1 hC.2.1 dL_law_117 (by decide) ?_
    refine lv_istore (lv' := [(8, .int (0 : Int32)), (7, .int (0 : Int32)), (6, .int r4), (5, .int r2), (0, .ref b), (1, .ref (ad G 0)), (2, .ref (ad G 86)), (3, .int x3), (4, .int x4)]) hC.1 hC.2.1 dL_law_118 hl (by decide) rfl (fun ls hl => ?_)
    exact w_L_law_120 hC hX hbl hbA hAd hz _ hF hw (lv_sub hl [4, 5, 6, 7, 8, 3, 2, 1, 0] rfl)
  · have hF := ifN hF b6
    refine lv_iload hC.1 hC.2.1 dL_law_105 (lv_at hl 0 rfl) ?_
    refine lv_bipush (v := (-9 : Int32)) hC.1 hC.2.1 dL_law_107 (by decide) ?_
    refine lv_icmp_eq (tgt := 114) hC.1 hC.2.1 dL_law_109 (by decide) (fun b7 => ?_) (fun b7 => ?_)
    · have hF := ifP hF b7
      refine lv_iconst (v := (0 : Int32)) hC.1 hC.2.1 dL_law_114 (by decide) ?_
      refine lv_istore (lv' := [(7, .int (0 : Int32)), (6, .int r4), (5, .int r2), (0, .ref b), (1, .ref (ad G 0)), (2, .ref (ad G 86)), (3, .int x3), (4, .int x4)]) hC.1 hC.2.1 dL_law_115 hl (by decide) rfl (fun ls hl => ?_)
      refine lv_iconst (v := (0 : Int32)) hC.1 hC.2.1 dL_law_117 (by decide) ?_
      refine lv_istore (lv' := [(8, .int (0 : Int32)), (7, .int (0 : Int32)), (6, .int r4), (5, .int r2), (0, .ref b), (1, .ref (ad G 0)), (2, .ref (ad G 86)), (3, .int x3), (4, .int x4)]) hC.1 hC.2.1 dL_law_118 hl (by decide) rfl (fun ls hl => ?_)
      exact w_L_law_120 hC hX hbl hbA hAd hz _ hF hw (lv_sub hl [4, 5, 6, 7, 8, 3, 2, 1, 0] rfl)
    · have hF := ifN hF b7
      refine lv_iconst (v := (0 : Int32)) hC.1 hC.2.1 dL_law_112 (by decide) ?_
      cases hF
def F_L_law_13 (L : Nat) (xs : Nat → Int32) (fu : Nat) (M : Mm) : Option Unit :=
  ob1 (F_L_lay L xs fu M) (fun M2 =>
  ob2 (F_L_made fu M2) (fun r4 M5 =>
  if r4 = 0 then
    none
  else
    ob2 (F_X6_keep fu M5 (0 : Int32)) (fun r8 M9 =>
    if r8 = 0 then
      if (34 : Int32) < 0 ∨ ln 86 ≤ (34 : Int32).toNatClampNeg then none else (
      ob1 (F_L_cell L xs fu M9 (8 : Int32)) (fun r13 =>
      ob1 (F_L_up fu M9 r13 ((1 : Int32) <<< ((M9.1 86 (34 : Int32).toNatClampNeg) &&& 31))) (fun r15 =>
      ob1 (F_L_cell L xs fu M9 (9 : Int32)) (fun r17 =>
      ob1 (F_L_cell L xs fu M9 (9 : Int32)) (fun r19 =>
      ob1 (F_L_up fu M9 (r19 >>> ((8 : Int32) &&& 31)) (2 : Int32)) (fun r21 =>
      if r21 = 0 then
        F_L_law_84 L xs fu M9 (M9.1 86 (34 : Int32).toNatClampNeg) r15 r17 (61 : Int32)
      else
        F_L_law_84 L xs fu M9 (M9.1 86 (34 : Int32).toNatClampNeg) r15 r17 (8 : Int32)))))))
    else
      none)))
set_option maxRecDepth 100000 in
set_option maxHeartbeats 4000000 in
theorem w_L_law_13 {b L : Nat} {xs : Nat → Int32} {p : Program} {l : Launch} {e : Env} {s : State} {m : MethodId} {below : List Frame} {meth : Method} {c : Code} {G : Gv} (hC : Cx p s m #[Value.ref b] meth c cL_law 24 (some .boolean) RL) (hX : va_X b L xs s s.heap) (hbl : b < s.heap.size) (hbA : ¬ zA G b) (hAd : ∀ x, x < zNC → s.heap.size ≤ ad G x) {cells slots : Nat} (hz : cells ≤ 600000 ∧ slots ≤ 7302250) {fu : Nat} {M : Mm} {H : Heap} {locs : List Loc} {ls : Array Slot} (hF : F_L_law_13 L xs fu M = some ()) (hw : St G s H locs M) (hl : lv_has ls 24 [(0, .ref b), (1, .ref (ad G 0)), (2, .ref (ad G 86))]) : W p l e room_1 s m #[Value.ref b] below meth c H locs cells slots (lw_Z below #[Value.ref b] s) (F0 m 13 ls []) := by
  unfold F_L_law_13 at hF
  refine lv_aload_n hC.1 hC.2.1 dL_law_13 rfl (lv_at hl 0 rfl) ?_
  refine lv_aload_n hC.1 hC.2.1 dL_law_14 rfl (lv_at hl 2 rfl) ?_
  obtain ⟨M2, h1, hF⟩ := ob1S hF
  refine k_Xv (As := [.ref b, .ref (ad G 86)]) (rest := []) hC hX hbl hbA hw (c_L_lay (M := M) h1) ys_L_lay q3_144 ⟨rfl, rfl⟩ ⟨Nat.le_of_ble_eq_true rfl, Nat.le_of_ble_eq_true rfl⟩ hz rfl rfl (Nat.le_of_ble_eq_true rfl) hl dL_law_15 (fun H locs hw => ?_)
  refine lv_aload_n hC.1 hC.2.1 dL_law_18 rfl (lv_at hl 1 rfl) ?_
  refine lv_aload_n hC.1 hC.2.1 dL_law_19 rfl (lv_at hl 2 rfl) ?_
  obtain ⟨r4, M5, h3, hF⟩ := ob2S hF
  refine k_Si (As := [.ref (ad G 0), .ref (ad G 86)]) (rest := []) hC hw (c_L_made (M := M2) h3) ys_L_made q3_147 ⟨rfl, rfl⟩ ⟨Nat.le_of_ble_eq_true rfl, Nat.le_of_ble_eq_true rfl⟩ hz rfl rfl (Nat.le_of_ble_eq_true rfl) hl dL_law_20 (fun H locs hw => ?_)
  refine lv_if_eq (tgt := 34) hC.1 hC.2.1 dL_law_23 (by decide) (fun b6 => ?_) (fun b6 => ?_)
  · have hF := ifP hF b6
    refine lv_iconst (v := (0 : Int32)) hC.1 hC.2.1 dL_law_34 (by decide) ?_
    cases hF
  · have hF := ifN hF b6
    refine lv_aload_n hC.1 hC.2.1 dL_law_26 rfl (lv_at hl 1 rfl) ?_
    refine lv_iconst (v := (0 : Int32)) hC.1 hC.2.1 dL_law_27 (by decide) ?_
    obtain ⟨r8, M9, h7, hF⟩ := ob2S hF
    refine k_Vi (As := [.int (0 : Int32)]) (rest := []) hC hw (c_X6_keep (M := M5) h7) RC_S yv_X6_keep q2_127 ⟨rfl, rfl⟩ ⟨Nat.le_of_ble_eq_true rfl, Nat.le_of_ble_eq_true rfl⟩ hz rfl rfl (Nat.le_of_ble_eq_true rfl) hl dL_law_28 (fun H locs hw => ?_)
    refine lv_if_eq (tgt := 36) hC.1 hC.2.1 dL_law_31 (by decide) (fun b10 => ?_) (fun b10 => ?_)
    · have hF := ifP hF b10
      refine lv_aload_n hC.1 hC.2.1 dL_law_36 rfl (lv_at hl 2 rfl) ?_
      refine lv_bipush (v := (34 : Int32)) hC.1 hC.2.1 dL_law_37 (by decide) ?_
      obtain ⟨n11, hF⟩ := ifO hF
      refine r_iald hC.1 hC.2.1 hw (rfl : kd 86 = 1) n11 dL_law_39 ?_
      refine lv_istore_n (lv' := [(3, .int (M9.1 86 (34 : Int32).toNatClampNeg)), (0, .ref b), (1, .ref (ad G 0)), (2, .ref (ad G 86))]) hC.1 hC.2.1 dL_law_40 rfl hl (by decide) rfl (fun ls hl => ?_)
      refine lv_aload_n hC.1 hC.2.1 dL_law_41 rfl (lv_at hl 1 rfl) ?_
      refine lv_bipush (v := (8 : Int32)) hC.1 hC.2.1 dL_law_42 (by decide) ?_
      obtain ⟨r13, h12, hF⟩ := ob1S hF
      refine k_Xi (As := [.ref b, .int (8 : Int32)]) (rest := []) hC hX hbl hbA hw (c_L_cell (M := M9) h12) ys_L_cell q3_133 ⟨rfl, rfl⟩ ⟨Nat.le_of_ble_eq_true rfl, Nat.le_of_ble_eq_true rfl⟩ hz rfl rfl (Nat.le_of_ble_eq_true rfl) hl dL_law_44 (fun H locs hw => ?_)
      refine lv_iconst (v := (1 : Int32)) hC.1 hC.2.1 dL_law_47 (by decide) ?_
      refine lv_iload_n hC.1 hC.2.1 dL_law_48 rfl (lv_at hl 0 rfl) ?_
      refine lv_ishl hC.1 hC.2.1 dL_law_49 ?_
      obtain ⟨r15, h14, hF⟩ := ob1S hF
      refine k_Si (As := [.int r13, .int ((1 : Int32) <<< ((M9.1 86 (34 : Int32).toNatClampNeg) &&& 31))]) (rest := []) hC hw (c_L_up (M := M9) h14) ys_L_up q3_137 ⟨rfl, rfl⟩ ⟨Nat.le_of_ble_eq_true rfl, Nat.le_of_ble_eq_true rfl⟩ hz rfl rfl (Nat.le_of_ble_eq_true rfl) hl dL_law_50 (fun H locs hw => ?_)
      refine lv_istore (lv' := [(4, .int r15), (3, .int (M9.1 86 (34 : Int32).toNatClampNeg)), (0, .ref b), (1, .ref (ad G 0)), (2, .ref (ad G 86))]) hC.1 hC.2.1 dL_law_53 hl (by decide) rfl (fun ls hl => ?_)
      refine lv_aload_n hC.1 hC.2.1 dL_law_55 rfl (lv_at hl 2 rfl) ?_
      refine lv_bipush (v := (9 : Int32)) hC.1 hC.2.1 dL_law_56 (by decide) ?_
      obtain ⟨r17, h16, hF⟩ := ob1S hF
      refine k_Xi (As := [.ref b, .int (9 : Int32)]) (rest := []) hC hX hbl hbA hw (c_L_cell (M := M9) h16) ys_L_cell q3_133 ⟨rfl, rfl⟩ ⟨Nat.le_of_ble_eq_true rfl, Nat.le_of_ble_eq_true rfl⟩ hz rfl rfl (Nat.le_of_ble_eq_true rfl) hl dL_law_58 (fun H locs hw => ?_)
      refine lv_aload_n hC.1 hC.2.1 dL_law_61 rfl (lv_at hl 2 rfl) ?_
      refine lv_bipush (v := (9 : Int32)) hC.1 hC.2.1 dL_law_62 (by decide) ?_
      obtain ⟨r19, h18, hF⟩ := ob1S hF
      refine k_Xi (As := [.ref b, .int (9 : Int32)]) (rest := [.int r17]) hC hX hbl hbA hw (c_L_cell (M := M9) h18) ys_L_cell q3_133 ⟨rfl, rfl⟩ ⟨Nat.le_of_ble_eq_true rfl, Nat.le_of_ble_eq_true rfl⟩ hz rfl rfl (Nat.le_of_ble_eq_true rfl) hl dL_law_64 (fun H locs hw => ?_)
      refine lv_bipush (v := (8 : Int32)) hC.1 hC.2.1 dL_law_67 (by decide) ?_
      refine lv_ishr hC.1 hC.2.1 dL_law_69 ?_
      refine lv_iconst (v := (2 : Int32)) hC.1 hC.2.1 dL_law_70 (by decide) ?_
      obtain ⟨r21, h20, hF⟩ := ob1S hF
      refine k_Si (As := [.int (r19 >>> ((8 : Int32) &&& 31)), .int (2 : Int32)]) (rest := [.int r17]) hC hw (c_L_up (M := M9) h20) ys_L_up q3_137 ⟨rfl, rfl⟩ ⟨Nat.le_of_ble_eq_true rfl, Nat.le_of_ble_eq_true rfl⟩ hz rfl rfl (Nat.le_of_ble_eq_true rfl) hl dL_law_71 (fun H locs hw => ?_)
      refine lv_if_ne (tgt := 82) hC.1 hC.2.1 dL_law_74 (by decide) (fun b22 => ?_) (fun b22 => ?_)
      · have hF := ifN hF b22
        refine lv_bipush (v := (8 : Int32)) hC.1 hC.2.1 dL_law_82 (by decide) ?_
        exact w_L_law_84 hC hX hbl hbA hAd hz hF hw (lv_sub hl [2, 3, 4, 1, 0] rfl)
      · have hF := ifP hF b22
        refine lv_bipush (v := (61 : Int32)) hC.1 hC.2.1 dL_law_77 (by decide) ?_
        refine lv_goto (tgt := 84) hC.1 hC.2.1 dL_law_79 (by decide) ?_
        exact w_L_law_84 hC hX hbl hbA hAd hz hF hw (lv_sub hl [2, 3, 4, 1, 0] rfl)
    · have hF := ifN hF b10
      refine lv_iconst (v := (0 : Int32)) hC.1 hC.2.1 dL_law_34 (by decide) ?_
      cases hF
