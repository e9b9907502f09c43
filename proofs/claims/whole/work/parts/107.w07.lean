abbrev rm_X7_in : Room := { frames := 0, cells := 0, slots := 0, locals := 0 }
theorem ys_X7_in : YS yX7_in cX7_in 6 (some .boolean) 3 := ⟨⟨q5_4, q1_8, q5_5⟩, by decide +kernel⟩
theorem dX7_in_0 : decode cX7_in 0 = .ok (.lload_n 0, 1) := by decide +kernel
theorem dX7_in_1 : decode cX7_in 1 = .ok (.lload_n 2, 1) := by decide +kernel
theorem dX7_in_2 : decode cX7_in 2 = .ok (.lcmp, 1) := by decide +kernel
theorem dX7_in_3 : decode cX7_in 3 = .ok (.ifCond .lt 14, 3) := by decide +kernel
theorem dX7_in_6 : decode cX7_in 6 = .ok (.lload_n 0, 1) := by decide +kernel
theorem dX7_in_7 : decode cX7_in 7 = .ok (.lload 4, 2) := by decide +kernel
theorem dX7_in_9 : decode cX7_in 9 = .ok (.lcmp, 1) := by decide +kernel
theorem dX7_in_10 : decode cX7_in 10 = .ok (.ifCond .gt 7, 3) := by decide +kernel
theorem dX7_in_13 : decode cX7_in 13 = .ok (.iconst 1, 1) := by decide +kernel
theorem dX7_in_14 : decode cX7_in 14 = .ok (.goto 4, 3) := by decide +kernel
theorem dX7_in_17 : decode cX7_in 17 = .ok (.iconst 0, 1) := by decide +kernel
theorem dX7_in_18 : decode cX7_in 18 = .ok (.ireturn, 1) := by decide +kernel
def F_X7_in (fu : Nat) (M : Mm) (x0 : Int64) (x2 : Int64) (x4 : Int64) : Option Int32 :=
  if (lg_cmp x0 x2) < 0 then
    some (0 : Int32)
  else
    if 0 < (lg_cmp x0 x4) then
      some (0 : Int32)
    else
      some (1 : Int32)
set_option maxRecDepth 100000 in
set_option maxHeartbeats 4000000 in
theorem c_X7_in {l : Launch} {G : Gv} {fu : Nat} {M : Mm} {x0 : Int64} {x2 : Int64} {x4 : Int64} {r : Int32} (hF : F_X7_in fu M x0 x2 x4 = some r) : Met l yX7_in (.code yX7_in cX7_in 6 (some .boolean) :: zU) rm_X7_in (va_Pc [.long x0, .long x2, .long x4] (Wd G M)) (QI G r M) 0 0 (zA G) := by
  refine zMet (by decide) rfl (Nat.le_of_ble_eq_true rfl) ?_
  intro p e s m below meth c hC hw ls hl
  have hl : lv_has ls 6 [(0, .long x0), (2, .long x2), (4, .long x4)] := hl
  unfold F_X7_in at hF
  refine lv_lload_n hC.1 hC.2.1 dX7_in_0 rfl (lv_at hl 0 rfl) ?_
  refine lv_lload_n hC.1 hC.2.1 dX7_in_1 rfl (lv_at hl 1 rfl) ?_
  refine W.lcmp hC.1 hC.2.1 dX7_in_2 ?_
  refine lv_if_lt (tgt := 17) hC.1 hC.2.1 dX7_in_3 (by decide) (fun b1 => ?_) (fun b1 => ?_)
  · have hF := ifP hF b1
    refine lv_iconst (v := (0 : Int32)) hC.1 hC.2.1 dX7_in_17 (by decide) ?_
    exact r_zretP hC hw (by decide) hF dX7_in_18
  · have hF := ifN hF b1
    refine lv_lload_n hC.1 hC.2.1 dX7_in_6 rfl (lv_at hl 0 rfl) ?_
    refine lv_lload hC.1 hC.2.1 dX7_in_7 (lv_at hl 2 rfl) ?_
    refine W.lcmp hC.1 hC.2.1 dX7_in_9 ?_
    refine lv_if_gt (tgt := 17) hC.1 hC.2.1 dX7_in_10 (by decide) (fun b2 => ?_) (fun b2 => ?_)
    · have hF := ifP hF b2
      refine lv_iconst (v := (0 : Int32)) hC.1 hC.2.1 dX7_in_17 (by decide) ?_
      exact r_zretP hC hw (by decide) hF dX7_in_18
    · have hF := ifN hF b2
      refine lv_iconst (v := (1 : Int32)) hC.1 hC.2.1 dX7_in_13 (by decide) ?_
      refine lv_goto (tgt := 18) hC.1 hC.2.1 dX7_in_14 (by decide) ?_
      exact r_zretP hC hw (by decide) hF dX7_in_18
abbrev rm_X7_finds : Room := { frames := 0, cells := 0, slots := 0, locals := 0 }
theorem yv_X7_finds : YV yX7_finds cX7_finds 2 (some .int) 1 RX7 := ⟨⟨q5_8, qs_32, q1_8, q5_9⟩, by decide +kernel⟩
theorem dX7_finds_0 : decode cX7_finds 0 = .ok (.aload_n 0, 1) := by decide +kernel
theorem dX7_finds_1 : decode cX7_finds 1 = .ok (.iload_n 1, 1) := by decide +kernel
theorem dX7_finds_2 : decode cX7_finds 2 = .ok (.putfield 94, 3) := by decide +kernel
theorem dX7_finds_5 : decode cX7_finds 5 = .ok (.aload_n 0, 1) := by decide +kernel
theorem dX7_finds_6 : decode cX7_finds 6 = .ok (.getfield 51, 3) := by decide +kernel
theorem dX7_finds_9 : decode cX7_finds 9 = .ok (.iload_n 1, 1) := by decide +kernel
theorem dX7_finds_10 : decode cX7_finds 10 = .ok (.dup2, 1) := by decide +kernel
theorem dX7_finds_11 : decode cX7_finds 11 = .ok (.iaload, 1) := by decide +kernel
theorem dX7_finds_12 : decode cX7_finds 12 = .ok (.iconst 1, 1) := by decide +kernel
theorem dX7_finds_13 : decode cX7_finds 13 = .ok (.iadd, 1) := by decide +kernel
theorem dX7_finds_14 : decode cX7_finds 14 = .ok (.iastore, 1) := by decide +kernel
theorem dX7_finds_15 : decode cX7_finds 15 = .ok (.bipush (-3), 2) := by decide +kernel
theorem dX7_finds_17 : decode cX7_finds 17 = .ok (.ireturn, 1) := by decide +kernel
def F_X7_finds (fu : Nat) (M : Mm) (x1 : Int32) : Option (Int32 × Mm) :=
  lt1 (pI M 86 19 x1) (fun M1 =>
  if x1 < 0 ∨ ln 99 ≤ x1.toNatClampNeg then none else (
  if x1 < 0 ∨ ln 99 ≤ x1.toNatClampNeg then none else (
  lt1 (pI M1 99 x1.toNatClampNeg ((M1.1 99 x1.toNatClampNeg) + (1 : Int32))) (fun M4 =>
  some ((-3 : Int32), M4)))))
set_option maxRecDepth 100000 in
set_option maxHeartbeats 4000000 in
theorem c_X7_finds {l : Launch} {G : Gv} {fu : Nat} {M : Mm} {x1 : Int32} {r : Int32} {M' : Mm} (hF : F_X7_finds fu M x1 = some (r, M')) : Met l yX7_finds (.code yX7_finds cX7_finds 2 (some .int) :: zU) rm_X7_finds (va_Pc [.ref (ad G 86), .int x1] (Wd G M)) (QI G r M') 0 0 (zA G) := by
  refine zMet (by decide) rfl (Nat.le_of_ble_eq_true rfl) ?_
  intro p e s m below meth c hC hw ls hl
  have hl : lv_has ls 2 [(0, .ref (ad G 86)), (1, .int x1)] := hl
  unfold F_X7_finds at hF
  refine lv_aload_n hC.1 hC.2.1 dX7_finds_0 rfl (lv_at hl 0 rfl) ?_
  refine lv_iload_n hC.1 hC.2.1 dX7_finds_1 rfl (lv_at hl 1 rfl) ?_
  refine u7_found hC hw q4_141 dX7_finds_2 (fun H locs hw => ?_)
  obtain ⟨M1, hw, hF⟩ := lt1W hF hw
  refine lv_aload_n hC.1 hC.2.1 dX7_finds_5 rfl (lv_at hl 0 rfl) ?_
  refine g7_manyFound hC hw q4_142 dX7_finds_6 ?_
  refine lv_iload_n hC.1 hC.2.1 dX7_finds_9 rfl (lv_at hl 1 rfl) ?_
  refine lv_dup2_11 hC.1 hC.2.1 dX7_finds_10 rfl rfl ?_
  obtain ⟨n2, hF⟩ := ifO hF
  refine r_iald hC.1 hC.2.1 hw (rfl : kd 99 = 1) n2 dX7_finds_11 ?_
  refine lv_iconst (v := (1 : Int32)) hC.1 hC.2.1 dX7_finds_12 (by decide) ?_
  refine lv_iadd hC.1 hC.2.1 dX7_finds_13 ?_
  obtain ⟨n3, hF⟩ := ifO hF
  refine r_iast hC.1 hC.2.1 hw (rfl : kd 99 = 1) n3 dX7_finds_14 (fun H locs hw => ?_)
  obtain ⟨M4, hw, hF⟩ := lt1W hF hw
  refine lv_bipush (v := (-3 : Int32)) hC.1 hC.2.1 dX7_finds_15 (by decide) ?_
  exact r_iretE hC hw hF dX7_finds_17
abbrev rm_X7_tells : Room := { frames := 0, cells := 0, slots := 0, locals := 0 }
theorem yv_X7_tells : YV yX7_tells cX7_tells 2 (some .int) 1 RX7 := ⟨⟨q5_20, qs_34, q1_8, q5_21⟩, by decide +kernel⟩
theorem dX7_tells_0 : decode cX7_tells 0 = .ok (.aload_n 0, 1) := by decide +kernel
theorem dX7_tells_1 : decode cX7_tells 1 = .ok (.iload_n 1, 1) := by decide +kernel
theorem dX7_tells_2 : decode cX7_tells 2 = .ok (.putfield 98, 3) := by decide +kernel
theorem dX7_tells_5 : decode cX7_tells 5 = .ok (.iconst 1, 1) := by decide +kernel
theorem dX7_tells_6 : decode cX7_tells 6 = .ok (.ireturn, 1) := by decide +kernel
def F_X7_tells (fu : Nat) (M : Mm) (x1 : Int32) : Option (Int32 × Mm) :=
  lt1 (pI M 86 16 x1) (fun M1 =>
  some ((1 : Int32), M1))
set_option maxRecDepth 100000 in
set_option maxHeartbeats 4000000 in
theorem c_X7_tells {l : Launch} {G : Gv} {fu : Nat} {M : Mm} {x1 : Int32} {r : Int32} {M' : Mm} (hF : F_X7_tells fu M x1 = some (r, M')) : Met l yX7_tells (.code yX7_tells cX7_tells 2 (some .int) :: zU) rm_X7_tells (va_Pc [.ref (ad G 86), .int x1] (Wd G M)) (QI G r M') 0 0 (zA G) := by
  refine zMet (by decide) rfl (Nat.le_of_ble_eq_true rfl) ?_
  intro p e s m below meth c hC hw ls hl
  have hl : lv_has ls 2 [(0, .ref (ad G 86)), (1, .int x1)] := hl
  unfold F_X7_tells at hF
  refine lv_aload_n hC.1 hC.2.1 dX7_tells_0 rfl (lv_at hl 0 rfl) ?_
  refine lv_iload_n hC.1 hC.2.1 dX7_tells_1 rfl (lv_at hl 1 rfl) ?_
  refine u7_asks hC hw q4_138 dX7_tells_2 (fun H locs hw => ?_)
  obtain ⟨M1, hw, hF⟩ := lt1W hF hw
  refine lv_iconst (v := (1 : Int32)) hC.1 hC.2.1 dX7_tells_5 (by decide) ?_
  exact r_iretE hC hw hF dX7_tells_6
abbrev rm_X7_least : Room := { frames := 0, cells := 0, slots := 0, locals := 0 }
theorem ys_X7_least : YS yX7_least cX7_least 2 (some .int) 2 := ⟨⟨q5_181, q1_8, q5_182⟩, by decide +kernel⟩
theorem dX7_least_0 : decode cX7_least 0 = .ok (.iload_n 0, 1) := by decide +kernel
theorem dX7_least_1 : decode cX7_least 1 = .ok (.iload_n 1, 1) := by decide +kernel
theorem dX7_least_2 : decode cX7_least 2 = .ok (.if_icmp .ge 7, 3) := by decide +kernel
theorem dX7_least_5 : decode cX7_least 5 = .ok (.iload_n 0, 1) := by decide +kernel
theorem dX7_least_6 : decode cX7_least 6 = .ok (.goto 4, 3) := by decide +kernel
theorem dX7_least_9 : decode cX7_least 9 = .ok (.iload_n 1, 1) := by decide +kernel
theorem dX7_least_10 : decode cX7_least 10 = .ok (.ireturn, 1) := by decide +kernel
def F_X7_least (fu : Nat) (M : Mm) (x0 : Int32) (x1 : Int32) : Option Int32 :=
  if x1 ≤ x0 then
    some x1
  else
    some x0
set_option maxRecDepth 100000 in
set_option maxHeartbeats 4000000 in
theorem c_X7_least {l : Launch} {G : Gv} {fu : Nat} {M : Mm} {x0 : Int32} {x1 : Int32} {r : Int32} (hF : F_X7_least fu M x0 x1 = some r) : Met l yX7_least (.code yX7_least cX7_least 2 (some .int) :: zU) rm_X7_least (va_Pc [.int x0, .int x1] (Wd G M)) (QI G r M) 0 0 (zA G) := by
  refine zMet (by decide) rfl (Nat.le_of_ble_eq_true rfl) ?_
  intro p e s m below meth c hC hw ls hl
  have hl : lv_has ls 2 [(0, .int x0), (1, .int x1)] := hl
  unfold F_X7_least at hF
  refine lv_iload_n hC.1 hC.2.1 dX7_least_0 rfl (lv_at hl 0 rfl) ?_
  refine lv_iload_n hC.1 hC.2.1 dX7_least_1 rfl (lv_at hl 1 rfl) ?_
  refine lv_icmp_ge (tgt := 9) hC.1 hC.2.1 dX7_least_2 (by decide) (fun b1 => ?_) (fun b1 => ?_)
  · have hF := ifP hF b1
    refine lv_iload_n hC.1 hC.2.1 dX7_least_9 rfl (lv_at hl 1 rfl) ?_
    exact r_iretP hC hw hF dX7_least_10
  · have hF := ifN hF b1
    refine lv_iload_n hC.1 hC.2.1 dX7_least_5 rfl (lv_at hl 0 rfl) ?_
    refine lv_goto (tgt := 10) hC.1 hC.2.1 dX7_least_6 (by decide) ?_
    exact r_iretP hC hw hF dX7_least_10
abbrev rm_X7_most : Room := { frames := 0, cells := 0, slots := 0, locals := 0 }
theorem ys_X7_most : YS yX7_most cX7_most 2 (some .int) 2 := ⟨⟨q5_114, q1_8, q5_115⟩, by decide +kernel⟩
theorem dX7_most_0 : decode cX7_most 0 = .ok (.iload_n 0, 1) := by decide +kernel
theorem dX7_most_1 : decode cX7_most 1 = .ok (.iload_n 1, 1) := by decide +kernel
theorem dX7_most_2 : decode cX7_most 2 = .ok (.if_icmp .le 7, 3) := by decide +kernel
theorem dX7_most_5 : decode cX7_most 5 = .ok (.iload_n 0, 1) := by decide +kernel
theorem dX7_most_6 : decode cX7_most 6 = .ok (.goto 4, 3) := by decide +kernel
theorem dX7_most_9 : decode cX7_most 9 = .ok (.iload_n 1, 1) := by decide +kernel
theorem dX7_most_10 : decode cX7_most 10 = .ok (.ireturn, 1) := by decide +kernel
def F_X7_most (fu : Nat) (M : Mm) (x0 : Int32) (x1 : Int32) : Option Int32 :=
  if x0 ≤ x1 then
    some x1
  else
    some x0
set_option maxRecDepth 100000 in
set_option maxHeartbeats 4000000 in
theorem c_X7_most {l : Launch} {G : Gv} {fu : Nat} {M : Mm} {x0 : Int32} {x1 : Int32} {r : Int32} (hF : F_X7_most fu M x0 x1 = some r) : Met l yX7_most (.code yX7_most cX7_most 2 (some .int) :: zU) rm_X7_most (va_Pc [.int x0, .int x1] (Wd G M)) (QI G r M) 0 0 (zA G) := by
  refine zMet (by decide) rfl (Nat.le_of_ble_eq_true rfl) ?_
  intro p e s m below meth c hC hw ls hl
  have hl : lv_has ls 2 [(0, .int x0), (1, .int x1)] := hl
  unfold F_X7_most at hF
  refine lv_iload_n hC.1 hC.2.1 dX7_most_0 rfl (lv_at hl 0 rfl) ?_
  refine lv_iload_n hC.1 hC.2.1 dX7_most_1 rfl (lv_at hl 1 rfl) ?_
  refine lv_icmp_le (tgt := 9) hC.1 hC.2.1 dX7_most_2 (by decide) (fun b1 => ?_) (fun b1 => ?_)
  · have hF := ifP hF b1
    refine lv_iload_n hC.1 hC.2.1 dX7_most_9 rfl (lv_at hl 1 rfl) ?_
    exact r_iretP hC hw hF dX7_most_10
  · have hF := ifN hF b1
    refine lv_iload_n hC.1 hC.2.1 dX7_most_5 rfl (lv_at hl 0 rfl) ?_
    refine lv_goto (tgt := 10) hC.1 hC.2.1 dX7_most_6 (by decide) ?_
    exact r_iretP hC hw hF dX7_most_10
abbrev rm_X7_bits : Room := { frames := 0, cells := 0, slots := 0, locals := 0 }
theorem ys_X7_bits : YS yX7_bits cX7_bits 3 (some .int) 1 := ⟨⟨q5_170, q1_8, q5_171⟩, by decide +kernel⟩
theorem dX7_bits_0 : decode cX7_bits 0 = .ok (.iconst 0, 1) := by decide +kernel
theorem dX7_bits_1 : decode cX7_bits 1 = .ok (.istore_n 1, 1) := by decide +kernel
theorem dX7_bits_2 : decode cX7_bits 2 = .ok (.iload_n 0, 1) := by decide +kernel
theorem dX7_bits_3 : decode cX7_bits 3 = .ok (.istore_n 2, 1) := by decide +kernel
theorem dX7_bits_4 : decode cX7_bits 4 = .ok (.iload_n 2, 1) := by decide +kernel
theorem dX7_bits_5 : decode cX7_bits 5 = .ok (.ifCond .le 16, 3) := by decide +kernel
theorem dX7_bits_8 : decode cX7_bits 8 = .ok (.iload_n 1, 1) := by decide +kernel
theorem dX7_bits_9 : decode cX7_bits 9 = .ok (.iload_n 2, 1) := by decide +kernel
theorem dX7_bits_10 : decode cX7_bits 10 = .ok (.iconst 1, 1) := by decide +kernel
theorem dX7_bits_11 : decode cX7_bits 11 = .ok (.iand, 1) := by decide +kernel
theorem dX7_bits_12 : decode cX7_bits 12 = .ok (.iadd, 1) := by decide +kernel
theorem dX7_bits_13 : decode cX7_bits 13 = .ok (.istore_n 1, 1) := by decide +kernel
theorem dX7_bits_14 : decode cX7_bits 14 = .ok (.iload_n 2, 1) := by decide +kernel
theorem dX7_bits_15 : decode cX7_bits 15 = .ok (.iconst 1, 1) := by decide +kernel
theorem dX7_bits_16 : decode cX7_bits 16 = .ok (.ishr, 1) := by decide +kernel
theorem dX7_bits_17 : decode cX7_bits 17 = .ok (.istore_n 2, 1) := by decide +kernel
theorem dX7_bits_18 : decode cX7_bits 18 = .ok (.goto (-14), 3) := by decide +kernel
theorem dX7_bits_21 : decode cX7_bits 21 = .ok (.iload_n 1, 1) := by decide +kernel
theorem dX7_bits_22 : decode cX7_bits 22 = .ok (.ireturn, 1) := by decide +kernel
def F_X7_bits_4 (fu : Nat) (M : Mm) : Nat → Int32 → Int32 → Option Int32
  | 0, _, _ => none
  | n + 1, x1, x2 =>
    if x2 ≤ 0 then
      some x1
    else
      F_X7_bits_4 fu M n (x1 + (x2 &&& (1 : Int32))) (x2 >>> ((1 : Int32) &&& 31))
set_option maxRecDepth 100000 in
set_option maxHeartbeats 4000000 in
theorem w_X7_bits_4 {p : Program} {l : Launch} {e : Env} {s : State} {m : MethodId} {args : Array Value} {below : List Frame} {meth : Method} {c : Code} {G : Gv} (hC : Cx p s m args meth c cX7_bits 3 (some .int) RX7) {fu : Nat} {r : Int32} {M : Mm} : ∀ (n : Nat) {x1 : Int32} {x2 : Int32} {H : Heap} {locs : List Loc} {ls : Array Slot}, F_X7_bits_4 fu M n x1 x2 = some r → St G s H locs M → lv_has ls 3 [(1, .int x1), (2, .int x2)] → W p l e rm_X7_bits s m args below meth c H locs 0 0 (MQ below (QI G r M) args s 0 0 (zA G)) (F0 m 4 ls []) := by
  intro n
  induction n with
  | zero =>
    intro x1 x2 H locs ls hF hw hl
    cases hF
  | succ n ih =>
    intro x1 x2 H locs ls hF hw hl
    unfold F_X7_bits_4 at hF
    refine lv_iload_n hC.1 hC.2.1 dX7_bits_4 rfl (lv_at hl 1 rfl) ?_
    refine lv_if_le (tgt := 21) hC.1 hC.2.1 dX7_bits_5 (by decide) (fun b1 => ?_) (fun b1 => ?_)
    · have hF := ifP hF b1
      refine lv_iload_n hC.1 hC.2.1 dX7_bits_21 rfl (lv_at hl 0 rfl) ?_
      exact r_iretP hC hw hF dX7_bits_22
    · have hF := ifN hF b1
      refine lv_iload_n hC.1 hC.2.1 dX7_bits_8 rfl (lv_at hl 0 rfl) ?_
      refine lv_iload_n hC.1 hC.2.1 dX7_bits_9 rfl (lv_at hl 1 rfl) ?_
      refine lv_iconst (v := (1 : Int32)) hC.1 hC.2.1 dX7_bits_10 (by decide) ?_
      refine lv_iand hC.1 hC.2.1 dX7_bits_11 ?_
      refine lv_iadd hC.1 hC.2.1 dX7_bits_12 ?_
      refine lv_istore_n (lv' := [(1, .int (x1 + (x2 &&& (1 : Int32)))), (2, .int x2)]) hC.1 hC.2.1 dX7_bits_13 rfl hl (by decide) rfl (fun ls hl => ?_)
      refine lv_iload_n hC.1 hC.2.1 dX7_bits_14 rfl (lv_at hl 1 rfl) ?_
      refine lv_iconst (v := (1 : Int32)) hC.1 hC.2.1 dX7_bits_15 (by decide) ?_
      refine lv_ishr hC.1 hC.2.1 dX7_bits_16 ?_
      refine lv_istore_n (lv' := [(2, .int (x2 >>> ((1 : Int32) &&& 31))), (1, .int (x1 + (x2 &&& (1 : Int32))))]) hC.1 hC.2.1 dX7_bits_17 rfl hl (by decide) rfl (fun ls hl => ?_)
      refine lv_goto (tgt := 4) hC.1 hC.2.1 dX7_bits_18 (by decide) ?_
      exact ih hF hw (lv_sub hl [1, 0] rfl)
def F_X7_bits (fu : Nat) (M : Mm) (x0 : Int32) : Option Int32 :=
  F_X7_bits_4 fu M fu (0 : Int32) x0
set_option maxRecDepth 100000 in
set_option maxHeartbeats 4000000 in
theorem c_X7_bits {l : Launch} {G : Gv} {fu : Nat} {M : Mm} {x0 : Int32} {r : Int32} (hF : F_X7_bits fu M x0 = some r) : Met l yX7_bits (.code yX7_bits cX7_bits 3 (some .int) :: zU) rm_X7_bits (va_Pc [.int x0] (Wd G M)) (QI G r M) 0 0 (zA G) := by
  refine zMet (by decide) rfl (Nat.le_of_ble_eq_true rfl) ?_
  intro p e s m below meth c hC hw ls hl
  have hl : lv_has ls 3 [(0, .int x0)] := hl
  unfold F_X7_bits at hF
  refine lv_iconst (v := (0 : Int32)) hC.1 hC.2.1 dX7_bits_0 (by decide) ?_
  refine lv_istore_n (lv' := [(1, .int (0 : Int32)), (0, .int x0)]) hC.1 hC.2.1 dX7_bits_1 rfl hl (by decide) rfl (fun ls hl => ?_)
  refine lv_iload_n hC.1 hC.2.1 dX7_bits_2 rfl (lv_at hl 1 rfl) ?_
  refine lv_istore_n (lv' := [(2, .int x0), (1, .int (0 : Int32)), (0, .int x0)]) hC.1 hC.2.1 dX7_bits_3 rfl hl (by decide) rfl (fun ls hl => ?_)
  exact w_X7_bits_4 hC _ hF hw (lv_sub hl [1, 0] rfl)
abbrev rm_X7_isMan : Room := { frames := 1, cells := 0, slots := 0, locals := 25 }
theorem yv_X7_isMan : YV yX7_isMan cX7_isMan 2 (some .boolean) 1 RX7 := ⟨⟨q5_91, qs_41, q1_8, q5_92⟩, by decide +kernel⟩
theorem dX7_isMan_0 : decode cX7_isMan 0 = .ok (.iload_n 1, 1) := by decide +kernel
theorem dX7_isMan_1 : decode cX7_isMan 1 = .ok (.i2l, 1) := by decide +kernel
theorem dX7_isMan_2 : decode cX7_isMan 2 = .ok (.lconst 0, 1) := by decide +kernel
theorem dX7_isMan_3 : decode cX7_isMan 3 = .ok (.aload_n 0, 1) := by decide +kernel
theorem dX7_isMan_4 : decode cX7_isMan 4 = .ok (.getfield 101, 3) := by decide +kernel
theorem dX7_isMan_7 : decode cX7_isMan 7 = .ok (.iconst 1, 1) := by decide +kernel
theorem dX7_isMan_8 : decode cX7_isMan 8 = .ok (.isub, 1) := by decide +kernel
theorem dX7_isMan_9 : decode cX7_isMan 9 = .ok (.i2l, 1) := by decide +kernel
theorem dX7_isMan_10 : decode cX7_isMan 10 = .ok (.invokestatic 104, 3) := by decide +kernel
theorem dX7_isMan_13 : decode cX7_isMan 13 = .ok (.ireturn, 1) := by decide +kernel
def F_X7_isMan (fu : Nat) (M : Mm) (x1 : Int32) : Option Int32 :=
  ob1 (F_X7_in fu M x1.toInt64 (0 : Int64) ((M.1 86 4) - (1 : Int32)).toInt64) (fun r2 =>
  if ¬ (r2 = 0 ∨ r2 = 1) then none else (
  some r2))
set_option maxRecDepth 100000 in
set_option maxHeartbeats 4000000 in
theorem c_X7_isMan {l : Launch} {G : Gv} {fu : Nat} {M : Mm} {x1 : Int32} {r : Int32} (hF : F_X7_isMan fu M x1 = some r) : Met l yX7_isMan (.code yX7_isMan cX7_isMan 2 (some .boolean) :: zU) rm_X7_isMan (va_Pc [.ref (ad G 86), .int x1] (Wd G M)) (QI G r M) 0 0 (zA G) := by
  refine zMet (by decide) rfl (Nat.le_of_ble_eq_true rfl) ?_
  intro p e s m below meth c hC hw ls hl
  have hl : lv_has ls 2 [(0, .ref (ad G 86)), (1, .int x1)] := hl
  unfold F_X7_isMan at hF
  refine lv_iload_n hC.1 hC.2.1 dX7_isMan_0 rfl (lv_at hl 1 rfl) ?_
  refine lv_i2l hC.1 hC.2.1 dX7_isMan_1 rfl ?_
  refine lv_lconst (v := (0 : Int64)) hC.1 hC.2.1 dX7_isMan_2 (by decide) ?_
  refine lv_aload_n hC.1 hC.2.1 dX7_isMan_3 rfl (lv_at hl 0 rfl) ?_
  refine g7_men hC hw q4_126 dX7_isMan_4 ?_
  refine lv_iconst (v := (1 : Int32)) hC.1 hC.2.1 dX7_isMan_7 (by decide) ?_
  refine lv_isub hC.1 hC.2.1 dX7_isMan_8 ?_
  refine lv_i2l hC.1 hC.2.1 dX7_isMan_9 rfl ?_
  obtain ⟨r2, h1, hF⟩ := ob1S hF
  refine k_Si (As := [.long x1.toInt64, .long (0 : Int64), .long ((M.1 86 4) - (1 : Int32)).toInt64]) (rest := []) hC hw (c_X7_in (M := M) h1) ys_X7_in q5_3 ⟨rfl, rfl⟩ ⟨Nat.le_of_ble_eq_true rfl, Nat.le_of_ble_eq_true rfl⟩ ⟨Nat.zero_le _, Nat.zero_le _⟩ rfl rfl (Nat.le_of_ble_eq_true rfl) hl dX7_isMan_10 (fun H locs hw => ?_)
  obtain ⟨z3, hF⟩ := ifO hF
  exact r_zretP hC hw (Decidable.not_not.mp z3) hF dX7_isMan_13
abbrev rm_X7_isRow : Room := { frames := 1, cells := 0, slots := 0, locals := 25 }
theorem ys_X7_isRow : YS yX7_isRow cX7_isRow 1 (some .boolean) 1 := ⟨⟨q5_0, q1_8, q5_1⟩, by decide +kernel⟩
theorem dX7_isRow_0 : decode cX7_isRow 0 = .ok (.iload_n 0, 1) := by decide +kernel
theorem dX7_isRow_1 : decode cX7_isRow 1 = .ok (.i2l, 1) := by decide +kernel
theorem dX7_isRow_2 : decode cX7_isRow 2 = .ok (.lconst 0, 1) := by decide +kernel
theorem dX7_isRow_3 : decode cX7_isRow 3 = .ok (.ldc2_w 108, 3) := by decide +kernel
theorem dX7_isRow_6 : decode cX7_isRow 6 = .ok (.invokestatic 104, 3) := by decide +kernel
theorem dX7_isRow_9 : decode cX7_isRow 9 = .ok (.ireturn, 1) := by decide +kernel
def F_X7_isRow (fu : Nat) (M : Mm) (x0 : Int32) : Option Int32 :=
  ob1 (F_X7_in fu M x0.toInt64 (0 : Int64) (5 : Int64)) (fun r2 =>
  if ¬ (r2 = 0 ∨ r2 = 1) then none else (
  some r2))
set_option maxRecDepth 100000 in
set_option maxHeartbeats 4000000 in
theorem c_X7_isRow {l : Launch} {G : Gv} {fu : Nat} {M : Mm} {x0 : Int32} {r : Int32} (hF : F_X7_isRow fu M x0 = some r) : Met l yX7_isRow (.code yX7_isRow cX7_isRow 1 (some .boolean) :: zU) rm_X7_isRow (va_Pc [.int x0] (Wd G M)) (QI G r M) 0 0 (zA G) := by
  refine zMet (by decide) rfl (Nat.le_of_ble_eq_true rfl) ?_
  intro p e s m below meth c hC hw ls hl
  have hl : lv_has ls 1 [(0, .int x0)] := hl
  unfold F_X7_isRow at hF
  refine lv_iload_n hC.1 hC.2.1 dX7_isRow_0 rfl (lv_at hl 0 rfl) ?_
  refine lv_i2l hC.1 hC.2.1 dX7_isRow_1 rfl ?_
  refine lv_lconst (v := (0 : Int64)) hC.1 hC.2.1 dX7_isRow_2 (by decide) ?_
  refine lv_ldc2 (v := (5 : Int64)) hC.1 hC.2.1 hC.2.2.2.1 (hC.2.2.2.2.1 _ q5_2) dX7_isRow_3 ?_
  obtain ⟨r2, h1, hF⟩ := ob1S hF
  refine k_Si (As := [.long x0.toInt64, .long (0 : Int64), .long (5 : Int64)]) (rest := []) hC hw (c_X7_in (M := M) h1) ys_X7_in q5_3 ⟨rfl, rfl⟩ ⟨Nat.le_of_ble_eq_true rfl, Nat.le_of_ble_eq_true rfl⟩ ⟨Nat.zero_le _, Nat.zero_le _⟩ rfl rfl (Nat.le_of_ble_eq_true rfl) hl dX7_isRow_6 (fun H locs hw => ?_)
  obtain ⟨z3, hF⟩ := ifO hF
  exact r_zretP hC hw (Decidable.not_not.mp z3) hF dX7_isRow_9
abbrev rm_X7_isText : Room := { frames := 1, cells := 0, slots := 0, locals := 25 }
theorem ys_X7_isText : YS yX7_isText cX7_isText 1 (some .boolean) 1 := ⟨⟨q5_43, q1_8, q5_44⟩, by decide +kernel⟩
theorem dX7_isText_0 : decode cX7_isText 0 = .ok (.iload_n 0, 1) := by decide +kernel
theorem dX7_isText_1 : decode cX7_isText 1 = .ok (.i2l, 1) := by decide +kernel
theorem dX7_isText_2 : decode cX7_isText 2 = .ok (.lconst 0, 1) := by decide +kernel
theorem dX7_isText_3 : decode cX7_isText 3 = .ok (.ldc2_w 110, 3) := by decide +kernel
theorem dX7_isText_6 : decode cX7_isText 6 = .ok (.invokestatic 104, 3) := by decide +kernel
theorem dX7_isText_9 : decode cX7_isText 9 = .ok (.ireturn, 1) := by decide +kernel
def F_X7_isText (fu : Nat) (M : Mm) (x0 : Int32) : Option Int32 :=
  ob1 (F_X7_in fu M x0.toInt64 (0 : Int64) (3 : Int64)) (fun r2 =>
  if ¬ (r2 = 0 ∨ r2 = 1) then none else (
  some r2))
set_option maxRecDepth 100000 in
set_option maxHeartbeats 4000000 in
theorem c_X7_isText {l : Launch} {G : Gv} {fu : Nat} {M : Mm} {x0 : Int32} {r : Int32} (hF : F_X7_isText fu M x0 = some r) : Met l yX7_isText (.code yX7_isText cX7_isText 1 (some .boolean) :: zU) rm_X7_isText (va_Pc [.int x0] (Wd G M)) (QI G r M) 0 0 (zA G) := by
  refine zMet (by decide) rfl (Nat.le_of_ble_eq_true rfl) ?_
  intro p e s m below meth c hC hw ls hl
  have hl : lv_has ls 1 [(0, .int x0)] := hl
  unfold F_X7_isText at hF
  refine lv_iload_n hC.1 hC.2.1 dX7_isText_0 rfl (lv_at hl 0 rfl) ?_
  refine lv_i2l hC.1 hC.2.1 dX7_isText_1 rfl ?_
  refine lv_lconst (v := (0 : Int64)) hC.1 hC.2.1 dX7_isText_2 (by decide) ?_
  refine lv_ldc2 (v := (3 : Int64)) hC.1 hC.2.1 hC.2.2.2.1 (hC.2.2.2.2.1 _ q5_45) dX7_isText_3 ?_
  obtain ⟨r2, h1, hF⟩ := ob1S hF
  refine k_Si (As := [.long x0.toInt64, .long (0 : Int64), .long (3 : Int64)]) (rest := []) hC hw (c_X7_in (M := M) h1) ys_X7_in q5_3 ⟨rfl, rfl⟩ ⟨Nat.le_of_ble_eq_true rfl, Nat.le_of_ble_eq_true rfl⟩ ⟨Nat.zero_le _, Nat.zero_le _⟩ rfl rfl (Nat.le_of_ble_eq_true rfl) hl dX7_isText_6 (fun H locs hw => ?_)
  obtain ⟨z3, hF⟩ := ifO hF
  exact r_zretP hC hw (Decidable.not_not.mp z3) hF dX7_isText_9
abbrev rm_X7_isAhead : Room := { frames := 1, cells := 0, slots := 0, locals := 25 }
theorem ys_X7_isAhead : YS yX7_isAhead cX7_isAhead 1 (some .boolean) 1 := ⟨⟨q5_205, q1_8, q5_206⟩, by decide +kernel⟩
theorem dX7_isAhead_0 : decode cX7_isAhead 0 = .ok (.iload_n 0, 1) := by decide +kernel
theorem dX7_isAhead_1 : decode cX7_isAhead 1 = .ok (.i2l, 1) := by decide +kernel
theorem dX7_isAhead_2 : decode cX7_isAhead 2 = .ok (.lconst 0, 1) := by decide +kernel
theorem dX7_isAhead_3 : decode cX7_isAhead 3 = .ok (.ldc2_w 112, 3) := by decide +kernel
theorem dX7_isAhead_6 : decode cX7_isAhead 6 = .ok (.invokestatic 104, 3) := by decide +kernel
theorem dX7_isAhead_9 : decode cX7_isAhead 9 = .ok (.ireturn, 1) := by decide +kernel
def F_X7_isAhead (fu : Nat) (M : Mm) (x0 : Int32) : Option Int32 :=
  ob1 (F_X7_in fu M x0.toInt64 (0 : Int64) (60 : Int64)) (fun r2 =>
  if ¬ (r2 = 0 ∨ r2 = 1) then none else (
  some r2))
set_option maxRecDepth 100000 in
set_option maxHeartbeats 4000000 in
theorem c_X7_isAhead {l : Launch} {G : Gv} {fu : Nat} {M : Mm} {x0 : Int32} {r : Int32} (hF : F_X7_isAhead fu M x0 = some r) : Met l yX7_isAhead (.code yX7_isAhead cX7_isAhead 1 (some .boolean) :: zU) rm_X7_isAhead (va_Pc [.int x0] (Wd G M)) (QI G r M) 0 0 (zA G) := by
  refine zMet (by decide) rfl (Nat.le_of_ble_eq_true rfl) ?_
  intro p e s m below meth c hC hw ls hl
  have hl : lv_has ls 1 [(0, .int x0)] := hl
  unfold F_X7_isAhead at hF
  refine lv_iload_n hC.1 hC.2.1 dX7_isAhead_0 rfl (lv_at hl 0 rfl) ?_
  refine lv_i2l hC.1 hC.2.1 dX7_isAhead_1 rfl ?_
  refine lv_lconst (v := (0 : Int64)) hC.1 hC.2.1 dX7_isAhead_2 (by decide) ?_
  refine lv_ldc2 (v := (60 : Int64)) hC.1 hC.2.1 hC.2.2.2.1 (hC.2.2.2.2.1 _ q5_207) dX7_isAhead_3 ?_
  obtain ⟨r2, h1, hF⟩ := ob1S hF
  refine k_Si (As := [.long x0.toInt64, .long (0 : Int64), .long (60 : Int64)]) (rest := []) hC hw (c_X7_in (M := M) h1) ys_X7_in q5_3 ⟨rfl, rfl⟩ ⟨Nat.le_of_ble_eq_true rfl, Nat.le_of_ble_eq_true rfl⟩ ⟨Nat.zero_le _, Nat.zero_le _⟩ rfl rfl (Nat.le_of_ble_eq_true rfl) hl dX7_isAhead_6 (fun H locs hw => ?_)
  obtain ⟨z3, hF⟩ := ifO hF
  exact r_zretP hC hw (Decidable.not_not.mp z3) hF dX7_isAhead_9
abbrev rm_X7_layRow : Room := { frames := 0, cells := 0, slots := 0, locals := 0 }
theorem yv_X7_layRow : YV yX7_layRow cX7_layRow 4 none 2 RX7 := ⟨⟨q5_12, qs_33, q1_8, q5_13⟩, by decide +kernel⟩
theorem dX7_layRow_0 : decode cX7_layRow 0 = .ok (.aload_n 0, 1) := by decide +kernel
theorem dX7_layRow_1 : decode cX7_layRow 1 = .ok (.getfield 13, 3) := by decide +kernel
theorem dX7_layRow_4 : decode cX7_layRow 4 = .ok (.iload_n 1, 1) := by decide +kernel
theorem dX7_layRow_5 : decode cX7_layRow 5 = .ok (.iload_n 2, 1) := by decide +kernel
theorem dX7_layRow_6 : decode cX7_layRow 6 = .ok (.iastore, 1) := by decide +kernel
theorem dX7_layRow_7 : decode cX7_layRow 7 = .ok (.iconst 0, 1) := by decide +kernel
theorem dX7_layRow_8 : decode cX7_layRow 8 = .ok (.istore_n 3, 1) := by decide +kernel
theorem dX7_layRow_9 : decode cX7_layRow 9 = .ok (.iload_n 3, 1) := by decide +kernel
theorem dX7_layRow_10 : decode cX7_layRow 10 = .ok (.bipush 40, 2) := by decide +kernel
theorem dX7_layRow_12 : decode cX7_layRow 12 = .ok (.if_icmp .ge 21, 3) := by decide +kernel
theorem dX7_layRow_15 : decode cX7_layRow 15 = .ok (.aload_n 0, 1) := by decide +kernel
theorem dX7_layRow_16 : decode cX7_layRow 16 = .ok (.getfield 7, 3) := by decide +kernel
theorem dX7_layRow_19 : decode cX7_layRow 19 = .ok (.bipush 40, 2) := by decide +kernel
theorem dX7_layRow_21 : decode cX7_layRow 21 = .ok (.iload_n 1, 1) := by decide +kernel
theorem dX7_layRow_22 : decode cX7_layRow 22 = .ok (.imul, 1) := by decide +kernel
theorem dX7_layRow_23 : decode cX7_layRow 23 = .ok (.iload_n 3, 1) := by decide +kernel
theorem dX7_layRow_24 : decode cX7_layRow 24 = .ok (.iadd, 1) := by decide +kernel
theorem dX7_layRow_25 : decode cX7_layRow 25 = .ok (.iconst 0, 1) := by decide +kernel
theorem dX7_layRow_26 : decode cX7_layRow 26 = .ok (.iastore, 1) := by decide +kernel
theorem dX7_layRow_27 : decode cX7_layRow 27 = .ok (.iinc 3 1, 3) := by decide +kernel
theorem dX7_layRow_30 : decode cX7_layRow 30 = .ok (.goto (-21), 3) := by decide +kernel
theorem dX7_layRow_33 : decode cX7_layRow 33 = .ok (.return_, 1) := by decide +kernel
def F_X7_layRow_9 (fu : Nat) : Nat → Mm → Int32 → Int32 → Option Mm
  | 0, _, _, _ => none
  | n + 1, M, x1, x3 =>
    if (40 : Int32) ≤ x3 then
      some M
    else
      if (((40 : Int32) * x1) + x3) < 0 ∨ ln 87 ≤ (((40 : Int32) * x1) + x3).toNatClampNeg then none else (
      lt1 (pI M 87 (((40 : Int32) * x1) + x3).toNatClampNeg (0 : Int32)) (fun M3 =>
      F_X7_layRow_9 fu n M3 x1 (x3 + (1 : Int32))))
set_option maxRecDepth 100000 in
set_option maxHeartbeats 4000000 in
theorem w_X7_layRow_9 {p : Program} {l : Launch} {e : Env} {s : State} {m : MethodId} {args : Array Value} {below : List Frame} {meth : Method} {c : Code} {G : Gv} (hC : Cx p s m args meth c cX7_layRow 4 none RX7) {fu : Nat} {M' : Mm} : ∀ (n : Nat) {x1 : Int32} {x3 : Int32} {M : Mm} {H : Heap} {locs : List Loc} {ls : Array Slot}, F_X7_layRow_9 fu n M x1 x3 = some M' → St G s H locs M → lv_has ls 4 [(0, .ref (ad G 86)), (1, .int x1), (3, .int x3)] → W p l e rm_X7_layRow s m args below meth c H locs 0 0 (MQ below (QV G M') args s 0 0 (zA G)) (F0 m 9 ls []) := by
  intro n
  induction n with
  | zero =>
    intro x1 x3 M H locs ls hF hw hl
    cases hF
  | succ n ih =>
    intro x1 x3 M H locs ls hF hw hl
    unfold F_X7_layRow_9 at hF
    refine lv_iload_n hC.1 hC.2.1 dX7_layRow_9 rfl (lv_at hl 2 rfl) ?_
    refine lv_bipush (v := (40 : Int32)) hC.1 hC.2.1 dX7_layRow_10 (by decide) ?_
    refine lv_icmp_ge (tgt := 33) hC.1 hC.2.1 dX7_layRow_12 (by decide) (fun b1 => ?_) (fun b1 => ?_)
    · have hF := ifP hF b1
      exact r_vretE hC hw hF dX7_layRow_33
    · have hF := ifN hF b1
      refine lv_aload_n hC.1 hC.2.1 dX7_layRow_15 rfl (lv_at hl 0 rfl) ?_
      refine g7_rows hC hw q4_122 dX7_layRow_16 ?_
      refine lv_bipush (v := (40 : Int32)) hC.1 hC.2.1 dX7_layRow_19 (by decide) ?_
      refine lv_iload_n hC.1 hC.2.1 dX7_layRow_21 rfl (lv_at hl 1 rfl) ?_
      refine lv_imul hC.1 hC.2.1 dX7_layRow_22 ?_
      refine lv_iload_n hC.1 hC.2.1 dX7_layRow_23 rfl (lv_at hl 2 rfl) ?_
      refine lv_iadd hC.1 hC.2.1 dX7_layRow_24 ?_
      refine lv_iconst (v := (0 : Int32)) hC.1 hC.2.1 dX7_layRow_25 (by decide) ?_
      obtain ⟨n2, hF⟩ := ifO hF
      refine r_iast hC.1 hC.2.1 hw (rfl : kd 87 = 1) n2 dX7_layRow_26 (fun H locs hw => ?_)
      obtain ⟨M3, hw, hF⟩ := lt1W hF hw
      refine lv_iinc (v := (x3 + (1 : Int32))) (lv' := [(3, .int (x3 + (1 : Int32))), (0, .ref (ad G 86)), (1, .int x1)]) hC.1 hC.2.1 dX7_layRow_27 hl (k := 2) rfl rfl (by decide) rfl (fun ls hl => ?_)
      refine lv_goto (tgt := 9) hC.1 hC.2.1 dX7_layRow_30 (by decide) ?_
      exact ih hF hw (lv_sub hl [1, 2, 0] rfl)
def F_X7_layRow (fu : Nat) (M : Mm) (x1 : Int32) (x2 : Int32) : Option Mm :=
  if x1 < 0 ∨ ln 88 ≤ x1.toNatClampNeg then none else (
  lt1 (pI M 88 x1.toNatClampNeg x2) (fun M2 =>
  F_X7_layRow_9 fu fu M2 x1 (0 : Int32)))
set_option maxRecDepth 100000 in
set_option maxHeartbeats 4000000 in
theorem c_X7_layRow {l : Launch} {G : Gv} {fu : Nat} {M : Mm} {x1 : Int32} {x2 : Int32} {M' : Mm} (hF : F_X7_layRow fu M x1 x2 = some M') : Met l yX7_layRow (.code yX7_layRow cX7_layRow 4 none :: zU) rm_X7_layRow (va_Pc [.ref (ad G 86), .int x1, .int x2] (Wd G M)) (QV G M') 0 0 (zA G) := by
  refine zMet (by decide) rfl (Nat.le_of_ble_eq_true rfl) ?_
  intro p e s m below meth c hC hw ls hl
  have hl : lv_has ls 4 [(0, .ref (ad G 86)), (1, .int x1), (2, .int x2)] := hl
  unfold F_X7_layRow at hF
  refine lv_aload_n hC.1 hC.2.1 dX7_layRow_0 rfl (lv_at hl 0 rfl) ?_
  refine g7_rowLong hC hw q4_123 dX7_layRow_1 ?_
  refine lv_iload_n hC.1 hC.2.1 dX7_layRow_4 rfl (lv_at hl 1 rfl) ?_
  refine lv_iload_n hC.1 hC.2.1 dX7_layRow_5 rfl (lv_at hl 2 rfl) ?_
  obtain ⟨n1, hF⟩ := ifO hF
  refine r_iast hC.1 hC.2.1 hw (rfl : kd 88 = 1) n1 dX7_layRow_6 (fun H locs hw => ?_)
  obtain ⟨M2, hw, hF⟩ := lt1W hF hw
  refine lv_iconst (v := (0 : Int32)) hC.1 hC.2.1 dX7_layRow_7 (by decide) ?_
  refine lv_istore_n (lv' := [(3, .int (0 : Int32)), (0, .ref (ad G 86)), (1, .int x1), (2, .int x2)]) hC.1 hC.2.1 dX7_layRow_8 rfl hl (by decide) rfl (fun ls hl => ?_)
  exact w_X7_layRow_9 hC _ hF hw (lv_sub hl [1, 2, 0] rfl)
abbrev rm_X7_row : Room := { frames := 2, cells := 0, slots := 0, locals := 45 }
theorem yv_X7_row : YV yX7_row cX7_row 3 (some .int) 2 RX7 := ⟨⟨q4_236, q4_237, q1_8, q4_238⟩, by decide +kernel⟩
theorem dX7_row_0 : decode cX7_row 0 = .ok (.iload_n 1, 1) := by decide +kernel
theorem dX7_row_1 : decode cX7_row 1 = .ok (.invokestatic 114, 3) := by decide +kernel
theorem dX7_row_4 : decode cX7_row 4 = .ok (.ifCond .eq 9, 3) := by decide +kernel
theorem dX7_row_7 : decode cX7_row 7 = .ok (.iload_n 2, 1) := by decide +kernel
theorem dX7_row_8 : decode cX7_row 8 = .ok (.bipush 40, 2) := by decide +kernel
theorem dX7_row_10 : decode cX7_row 10 = .ok (.if_icmp .le 5, 3) := by decide +kernel
theorem dX7_row_13 : decode cX7_row 13 = .ok (.iconst (-1), 1) := by decide +kernel
theorem dX7_row_14 : decode cX7_row 14 = .ok (.ireturn, 1) := by decide +kernel
theorem dX7_row_15 : decode cX7_row 15 = .ok (.iload_n 2, 1) := by decide +kernel
theorem dX7_row_16 : decode cX7_row 16 = .ok (.ifCond .ge 9, 3) := by decide +kernel
theorem dX7_row_19 : decode cX7_row 19 = .ok (.aload_n 0, 1) := by decide +kernel
theorem dX7_row_20 : decode cX7_row 20 = .ok (.iconst 5, 1) := by decide +kernel
theorem dX7_row_21 : decode cX7_row 21 = .ok (.invokevirtual 118, 3) := by decide +kernel
theorem dX7_row_24 : decode cX7_row 24 = .ok (.ireturn, 1) := by decide +kernel
theorem dX7_row_25 : decode cX7_row 25 = .ok (.aload_n 0, 1) := by decide +kernel
theorem dX7_row_26 : decode cX7_row 26 = .ok (.iload_n 1, 1) := by decide +kernel
theorem dX7_row_27 : decode cX7_row 27 = .ok (.iload_n 2, 1) := by decide +kernel
theorem dX7_row_28 : decode cX7_row 28 = .ok (.invokevirtual 122, 3) := by decide +kernel
theorem dX7_row_31 : decode cX7_row 31 = .ok (.iload_n 2, 1) := by decide +kernel
theorem dX7_row_32 : decode cX7_row 32 = .ok (.ireturn, 1) := by decide +kernel
def F_X7_row (fu : Nat) (M : Mm) (x1 : Int32) (x2 : Int32) : Option (Int32 × Mm) :=
  ob1 (F_X7_isRow fu M x1) (fun r2 =>
  if r2 = 0 then
    some ((-1 : Int32), M)
  else
    if x2 ≤ (40 : Int32) then
      if 0 ≤ x2 then
        ob1 (F_X7_layRow fu M x1 x2) (fun M7 =>
        some (x2, M7))
      else
        ob2 (F_X7_finds fu M (5 : Int32)) (fun r9 M10 =>
        some (r9, M10))
    else
      some ((-1 : Int32), M))
set_option maxRecDepth 100000 in
set_option maxHeartbeats 4000000 in
theorem c_X7_row {l : Launch} {G : Gv} {fu : Nat} {M : Mm} {x1 : Int32} {x2 : Int32} {r : Int32} {M' : Mm} (hF : F_X7_row fu M x1 x2 = some (r, M')) : Met l yX7_row (.code yX7_row cX7_row 3 (some .int) :: zU) rm_X7_row (va_Pc [.ref (ad G 86), .int x1, .int x2] (Wd G M)) (QI G r M') 0 0 (zA G) := by
  refine zMet (by decide) rfl (Nat.le_of_ble_eq_true rfl) ?_
  intro p e s m below meth c hC hw ls hl
  have hl : lv_has ls 3 [(0, .ref (ad G 86)), (1, .int x1), (2, .int x2)] := hl
  unfold F_X7_row at hF
  refine lv_iload_n hC.1 hC.2.1 dX7_row_0 rfl (lv_at hl 1 rfl) ?_
  obtain ⟨r2, h1, hF⟩ := ob1S hF
  refine k_Si (As := [.int x1]) (rest := []) hC hw (c_X7_isRow (M := M) h1) ys_X7_isRow q4_239 ⟨rfl, rfl⟩ ⟨Nat.le_of_ble_eq_true rfl, Nat.le_of_ble_eq_true rfl⟩ ⟨Nat.zero_le _, Nat.zero_le _⟩ rfl rfl (Nat.le_of_ble_eq_true rfl) hl dX7_row_1 (fun H locs hw => ?_)
  refine lv_if_eq (tgt := 13) hC.1 hC.2.1 dX7_row_4 (by decide) (fun b3 => ?_) (fun b3 => ?_)
  · have hF := ifP hF b3
    refine lv_iconst (v := (-1 : Int32)) hC.1 hC.2.1 dX7_row_13 (by decide) ?_
    exact r_iretE hC hw hF dX7_row_14
  · have hF := ifN hF b3
    refine lv_iload_n hC.1 hC.2.1 dX7_row_7 rfl (lv_at hl 2 rfl) ?_
    refine lv_bipush (v := (40 : Int32)) hC.1 hC.2.1 dX7_row_8 (by decide) ?_
    refine lv_icmp_le (tgt := 15) hC.1 hC.2.1 dX7_row_10 (by decide) (fun b4 => ?_) (fun b4 => ?_)
    · have hF := ifP hF b4
      refine lv_iload_n hC.1 hC.2.1 dX7_row_15 rfl (lv_at hl 2 rfl) ?_
      refine lv_if_ge (tgt := 25) hC.1 hC.2.1 dX7_row_16 (by decide) (fun b5 => ?_) (fun b5 => ?_)
      · have hF := ifP hF b5
        refine lv_aload_n hC.1 hC.2.1 dX7_row_25 rfl (lv_at hl 0 rfl) ?_
        refine lv_iload_n hC.1 hC.2.1 dX7_row_26 rfl (lv_at hl 1 rfl) ?_
        refine lv_iload_n hC.1 hC.2.1 dX7_row_27 rfl (lv_at hl 2 rfl) ?_
        obtain ⟨M7, h6, hF⟩ := ob1S hF
        refine k_Vv (As := [.int x1, .int x2]) (rest := []) hC hw (c_X7_layRow (M := M) h6) RC_X yv_X7_layRow q5_10 ⟨rfl, rfl⟩ ⟨Nat.le_of_ble_eq_true rfl, Nat.le_of_ble_eq_true rfl⟩ ⟨Nat.zero_le _, Nat.zero_le _⟩ rfl rfl (Nat.le_of_ble_eq_true rfl) hl dX7_row_28 (fun H locs hw => ?_)
        refine lv_iload_n hC.1 hC.2.1 dX7_row_31 rfl (lv_at hl 2 rfl) ?_
        exact r_iretE hC hw hF dX7_row_32
      · have hF := ifN hF b5
        refine lv_aload_n hC.1 hC.2.1 dX7_row_19 rfl (lv_at hl 0 rfl) ?_
        refine lv_iconst (v := (5 : Int32)) hC.1 hC.2.1 dX7_row_20 (by decide) ?_
        obtain ⟨r9, M10, h8, hF⟩ := ob2S hF
        refine k_Vi (As := [.int (5 : Int32)]) (rest := []) hC hw (c_X7_finds (M := M) h8) RC_X yv_X7_finds q5_6 ⟨rfl, rfl⟩ ⟨Nat.le_of_ble_eq_true rfl, Nat.le_of_ble_eq_true rfl⟩ ⟨Nat.zero_le _, Nat.zero_le _⟩ rfl rfl (Nat.le_of_ble_eq_true rfl) hl dX7_row_21 (fun H locs hw => ?_)
        exact r_iretE hC hw hF dX7_row_24
    · have hF := ifN hF b4
      refine lv_iconst (v := (-1 : Int32)) hC.1 hC.2.1 dX7_row_13 (by decide) ?_
      exact r_iretE hC hw hF dX7_row_14
abbrev rm_X7_lay : Room := { frames := 2, cells := 0, slots := 0, locals := 45 }
theorem yv_X7_lay : YV yX7_lay cX7_lay 5 (some .int) 3 RX7 := ⟨⟨q5_15, q5_16, q1_8, q5_17⟩, by decide +kernel⟩
theorem dX7_lay_0 : decode cX7_lay 0 = .ok (.iload_n 1, 1) := by decide +kernel
theorem dX7_lay_1 : decode cX7_lay 1 = .ok (.invokestatic 114, 3) := by decide +kernel
theorem dX7_lay_4 : decode cX7_lay 4 = .ok (.ifCond .ne 5, 3) := by decide +kernel
theorem dX7_lay_7 : decode cX7_lay 7 = .ok (.iconst (-1), 1) := by decide +kernel
theorem dX7_lay_8 : decode cX7_lay 8 = .ok (.ireturn, 1) := by decide +kernel
theorem dX7_lay_9 : decode cX7_lay 9 = .ok (.aload_n 0, 1) := by decide +kernel
theorem dX7_lay_10 : decode cX7_lay 10 = .ok (.getfield 13, 3) := by decide +kernel
theorem dX7_lay_13 : decode cX7_lay 13 = .ok (.iload_n 1, 1) := by decide +kernel
theorem dX7_lay_14 : decode cX7_lay 14 = .ok (.iaload, 1) := by decide +kernel
theorem dX7_lay_15 : decode cX7_lay 15 = .ok (.bipush (-9), 2) := by decide +kernel
theorem dX7_lay_17 : decode cX7_lay 17 = .ok (.if_icmp .ne 9, 3) := by decide +kernel
theorem dX7_lay_20 : decode cX7_lay 20 = .ok (.aload_n 0, 1) := by decide +kernel
theorem dX7_lay_21 : decode cX7_lay 21 = .ok (.iconst 1, 1) := by decide +kernel
theorem dX7_lay_22 : decode cX7_lay 22 = .ok (.invokevirtual 118, 3) := by decide +kernel
theorem dX7_lay_25 : decode cX7_lay 25 = .ok (.ireturn, 1) := by decide +kernel
theorem dX7_lay_26 : decode cX7_lay 26 = .ok (.iload_n 2, 1) := by decide +kernel
theorem dX7_lay_27 : decode cX7_lay 27 = .ok (.i2l, 1) := by decide +kernel
theorem dX7_lay_28 : decode cX7_lay 28 = .ok (.lconst 0, 1) := by decide +kernel
theorem dX7_lay_29 : decode cX7_lay 29 = .ok (.aload_n 0, 1) := by decide +kernel
theorem dX7_lay_30 : decode cX7_lay 30 = .ok (.getfield 13, 3) := by decide +kernel
theorem dX7_lay_33 : decode cX7_lay 33 = .ok (.iload_n 1, 1) := by decide +kernel
theorem dX7_lay_34 : decode cX7_lay 34 = .ok (.iaload, 1) := by decide +kernel
theorem dX7_lay_35 : decode cX7_lay 35 = .ok (.iconst 1, 1) := by decide +kernel
theorem dX7_lay_36 : decode cX7_lay 36 = .ok (.isub, 1) := by decide +kernel
theorem dX7_lay_37 : decode cX7_lay 37 = .ok (.i2l, 1) := by decide +kernel
theorem dX7_lay_38 : decode cX7_lay 38 = .ok (.invokestatic 104, 3) := by decide +kernel
theorem dX7_lay_41 : decode cX7_lay 41 = .ok (.ifCond .ne 9, 3) := by decide +kernel
theorem dX7_lay_44 : decode cX7_lay 44 = .ok (.aload_n 0, 1) := by decide +kernel
theorem dX7_lay_45 : decode cX7_lay 45 = .ok (.iconst 2, 1) := by decide +kernel
theorem dX7_lay_46 : decode cX7_lay 46 = .ok (.invokevirtual 118, 3) := by decide +kernel
theorem dX7_lay_49 : decode cX7_lay 49 = .ok (.ireturn, 1) := by decide +kernel
theorem dX7_lay_50 : decode cX7_lay 50 = .ok (.aload_n 0, 1) := by decide +kernel
theorem dX7_lay_51 : decode cX7_lay 51 = .ok (.getfield 7, 3) := by decide +kernel
theorem dX7_lay_54 : decode cX7_lay 54 = .ok (.bipush 40, 2) := by decide +kernel
theorem dX7_lay_56 : decode cX7_lay 56 = .ok (.iload_n 1, 1) := by decide +kernel
theorem dX7_lay_57 : decode cX7_lay 57 = .ok (.imul, 1) := by decide +kernel
theorem dX7_lay_58 : decode cX7_lay 58 = .ok (.iload_n 2, 1) := by decide +kernel
theorem dX7_lay_59 : decode cX7_lay 59 = .ok (.iadd, 1) := by decide +kernel
theorem dX7_lay_60 : decode cX7_lay 60 = .ok (.iaload, 1) := by decide +kernel
theorem dX7_lay_61 : decode cX7_lay 61 = .ok (.istore 4, 2) := by decide +kernel
theorem dX7_lay_63 : decode cX7_lay 63 = .ok (.aload_n 0, 1) := by decide +kernel
theorem dX7_lay_64 : decode cX7_lay 64 = .ok (.getfield 7, 3) := by decide +kernel
theorem dX7_lay_67 : decode cX7_lay 67 = .ok (.bipush 40, 2) := by decide +kernel
theorem dX7_lay_69 : decode cX7_lay 69 = .ok (.iload_n 1, 1) := by decide +kernel
theorem dX7_lay_70 : decode cX7_lay 70 = .ok (.imul, 1) := by decide +kernel
theorem dX7_lay_71 : decode cX7_lay 71 = .ok (.iload_n 2, 1) := by decide +kernel
theorem dX7_lay_72 : decode cX7_lay 72 = .ok (.iadd, 1) := by decide +kernel
theorem dX7_lay_73 : decode cX7_lay 73 = .ok (.iload_n 3, 1) := by decide +kernel
theorem dX7_lay_74 : decode cX7_lay 74 = .ok (.iastore, 1) := by decide +kernel
theorem dX7_lay_75 : decode cX7_lay 75 = .ok (.aload_n 0, 1) := by decide +kernel
theorem dX7_lay_76 : decode cX7_lay 76 = .ok (.iload 4, 2) := by decide +kernel
theorem dX7_lay_78 : decode cX7_lay 78 = .ok (.invokevirtual 126, 3) := by decide +kernel
theorem dX7_lay_81 : decode cX7_lay 81 = .ok (.ireturn, 1) := by decide +kernel
def F_X7_lay (fu : Nat) (M : Mm) (x1 : Int32) (x2 : Int32) (x3 : Int32) : Option (Int32 × Mm) :=
  ob1 (F_X7_isRow fu M x1) (fun r2 =>
  if r2 = 0 then
    some ((-1 : Int32), M)
  else
    if x1 < 0 ∨ ln 88 ≤ x1.toNatClampNeg then none else (
    if (M.1 88 x1.toNatClampNeg) = (-9 : Int32) then
      ob2 (F_X7_finds fu M (1 : Int32)) (fun r21 M22 =>
      some (r21, M22))
    else
      if x1 < 0 ∨ ln 88 ≤ x1.toNatClampNeg then none else (
      ob1 (F_X7_in fu M x2.toInt64 (0 : Int64) ((M.1 88 x1.toNatClampNeg) - (1 : Int32)).toInt64) (fun r8 =>
      if r8 = 0 then
        ob2 (F_X7_finds fu M (2 : Int32)) (fun r18 M19 =>
        some (r18, M19))
      else
        if (((40 : Int32) * x1) + x2) < 0 ∨ ln 87 ≤ (((40 : Int32) * x1) + x2).toNatClampNeg then none else (
        lt1 (M.1 87 (((40 : Int32) * x1) + x2).toNatClampNeg) (fun y11 =>
        if (((40 : Int32) * x1) + x2) < 0 ∨ ln 87 ≤ (((40 : Int32) * x1) + x2).toNatClampNeg then none else (
        lt1 (pI M 87 (((40 : Int32) * x1) + x2).toNatClampNeg x3) (fun M13 =>
        ob2 (F_X7_tells fu M13 y11) (fun r15 M16 =>
        some (r15, M16))))))))))
set_option maxRecDepth 100000 in
set_option maxHeartbeats 4000000 in
theorem c_X7_lay {l : Launch} {G : Gv} {fu : Nat} {M : Mm} {x1 : Int32} {x2 : Int32} {x3 : Int32} {r : Int32} {M' : Mm} (hF : F_X7_lay fu M x1 x2 x3 = some (r, M')) : Met l yX7_lay (.code yX7_lay cX7_lay 5 (some .int) :: zU) rm_X7_lay (va_Pc [.ref (ad G 86), .int x1, .int x2, .int x3] (Wd G M)) (QI G r M') 0 0 (zA G) := by
  refine zMet (by decide) rfl (Nat.le_of_ble_eq_true rfl) ?_
  intro p e s m below meth c hC hw ls hl
  have hl : lv_has ls 5 [(0, .ref (ad G 86)), (1, .int x1), (2, .int x2), (3, .int x3)] := hl
  unfold F_X7_lay at hF
  refine lv_iload_n hC.1 hC.2.1 dX7_lay_0 rfl (lv_at hl 1 rfl) ?_
  obtain ⟨r2, h1, hF⟩ := ob1S hF
  refine k_Si (As := [.int x1]) (rest := []) hC hw (c_X7_isRow (M := M) h1) ys_X7_isRow q4_239 ⟨rfl, rfl⟩ ⟨Nat.le_of_ble_eq_true rfl, Nat.le_of_ble_eq_true rfl⟩ ⟨Nat.zero_le _, Nat.zero_le _⟩ rfl rfl (Nat.le_of_ble_eq_true rfl) hl dX7_lay_1 (fun H locs hw => ?_)
  refine lv_if_ne (tgt := 9) hC.1 hC.2.1 dX7_lay_4 (by decide) (fun b3 => ?_) (fun b3 => ?_)
  · have hF := ifN hF b3
    refine lv_aload_n hC.1 hC.2.1 dX7_lay_9 rfl (lv_at hl 0 rfl) ?_
    refine g7_rowLong hC hw q4_123 dX7_lay_10 ?_
    refine lv_iload_n hC.1 hC.2.1 dX7_lay_13 rfl (lv_at hl 1 rfl) ?_
    obtain ⟨n4, hF⟩ := ifO hF
    refine r_iald hC.1 hC.2.1 hw (rfl : kd 88 = 1) n4 dX7_lay_14 ?_
    refine lv_bipush (v := (-9 : Int32)) hC.1 hC.2.1 dX7_lay_15 (by decide) ?_
    refine lv_icmp_ne (tgt := 26) hC.1 hC.2.1 dX7_lay_17 (by decide) (fun b5 => ?_) (fun b5 => ?_)
    · have hF := ifN hF b5
      refine lv_iload_n hC.1 hC.2.1 dX7_lay_26 rfl (lv_at hl 2 rfl) ?_
      refine lv_i2l hC.1 hC.2.1 dX7_lay_27 rfl ?_
      refine lv_lconst (v := (0 : Int64)) hC.1 hC.2.1 dX7_lay_28 (by decide) ?_
      refine lv_aload_n hC.1 hC.2.1 dX7_lay_29 rfl (lv_at hl 0 rfl) ?_
      refine g7_rowLong hC hw q4_123 dX7_lay_30 ?_
      refine lv_iload_n hC.1 hC.2.1 dX7_lay_33 rfl (lv_at hl 1 rfl) ?_
      obtain ⟨n6, hF⟩ := ifO hF
      refine r_iald hC.1 hC.2.1 hw (rfl : kd 88 = 1) n6 dX7_lay_34 ?_
      refine lv_iconst (v := (1 : Int32)) hC.1 hC.2.1 dX7_lay_35 (by decide) ?_
      refine lv_isub hC.1 hC.2.1 dX7_lay_36 ?_
      refine lv_i2l hC.1 hC.2.1 dX7_lay_37 rfl ?_
      obtain ⟨r8, h7, hF⟩ := ob1S hF
      refine k_Si (As := [.long x2.toInt64, .long (0 : Int64), .long ((M.1 88 x1.toNatClampNeg) - (1 : Int32)).toInt64]) (rest := []) hC hw (c_X7_in (M := M) h7) ys_X7_in q5_3 ⟨rfl, rfl⟩ ⟨Nat.le_of_ble_eq_true rfl, Nat.le_of_ble_eq_true rfl⟩ ⟨Nat.zero_le _, Nat.zero_le _⟩ rfl rfl (Nat.le_of_ble_eq_true rfl) hl dX7_lay_38 (fun H locs hw => ?_)
      refine lv_if_ne (tgt := 50) hC.1 hC.2.1 dX7_lay_41 (by decide) (fun b9 => ?_) (fun b9 => ?_)
      · have hF := ifN hF b9
        refine lv_aload_n hC.1 hC.2.1 dX7_lay_50 rfl (lv_at hl 0 rfl) ?_
        refine g7_rows hC hw q4_122 dX7_lay_51 ?_
        refine lv_bipush (v := (40 : Int32)) hC.1 hC.2.1 dX7_lay_54 (by decide) ?_
        refine lv_iload_n hC.1 hC.2.1 dX7_lay_56 rfl (lv_at hl 1 rfl) ?_
        refine lv_imul hC.1 hC.2.1 dX7_lay_57 ?_
        refine lv_iload_n hC.1 hC.2.1 dX7_lay_58 rfl (lv_at hl 2 rfl) ?_
        refine lv_iadd hC.1 hC.2.1 dX7_lay_59 ?_
        obtain ⟨n10, hF⟩ := ifO hF
        refine r_iald hC.1 hC.2.1 hw (rfl : kd 87 = 1) n10 dX7_lay_60 ?_
        refine lv_topi (fun y11 ey11 => ?_)
        have hF := lt1G hF ey11
        refine lv_istore (lv' := [(4, .int y11), (0, .ref (ad G 86)), (1, .int x1), (2, .int x2), (3, .int x3)]) hC.1 hC.2.1 dX7_lay_61 hl (by decide) rfl (fun ls hl => ?_)
        refine lv_aload_n hC.1 hC.2.1 dX7_lay_63 rfl (lv_at hl 1 rfl) ?_
        refine g7_rows hC hw q4_122 dX7_lay_64 ?_
        refine lv_bipush (v := (40 : Int32)) hC.1 hC.2.1 dX7_lay_67 (by decide) ?_
        refine lv_iload_n hC.1 hC.2.1 dX7_lay_69 rfl (lv_at hl 2 rfl) ?_
        refine lv_imul hC.1 hC.2.1 dX7_lay_70 ?_
        refine lv_iload_n hC.1 hC.2.1 dX7_lay_71 rfl (lv_at hl 3 rfl) ?_
        refine lv_iadd hC.1 hC.2.1 dX7_lay_72 ?_
        refine lv_iload_n hC.1 hC.2.1 dX7_lay_73 rfl (lv_at hl 4 rfl) ?_
        obtain ⟨n12, hF⟩ := ifO hF
        refine r_iast hC.1 hC.2.1 hw (rfl : kd 87 = 1) n12 dX7_lay_74 (fun H locs hw => ?_)
        obtain ⟨M13, hw, hF⟩ := lt1W hF hw
        refine lv_aload_n hC.1 hC.2.1 dX7_lay_75 rfl (lv_at hl 1 rfl) ?_
        refine lv_iload hC.1 hC.2.1 dX7_lay_76 (lv_at hl 0 rfl) ?_
        obtain ⟨r15, M16, h14, hF⟩ := ob2S hF
        refine k_Vi (As := [.int y11]) (rest := []) hC hw (c_X7_tells (M := M13) h14) RC_X yv_X7_tells q5_18 ⟨rfl, rfl⟩ ⟨Nat.le_of_ble_eq_true rfl, Nat.le_of_ble_eq_true rfl⟩ ⟨Nat.zero_le _, Nat.zero_le _⟩ rfl rfl (Nat.le_of_ble_eq_true rfl) hl dX7_lay_78 (fun H locs hw => ?_)
        exact r_iretE hC hw hF dX7_lay_81
      · have hF := ifP hF b9
        refine lv_aload_n hC.1 hC.2.1 dX7_lay_44 rfl (lv_at hl 0 rfl) ?_
        refine lv_iconst (v := (2 : Int32)) hC.1 hC.2.1 dX7_lay_45 (by decide) ?_
        obtain ⟨r18, M19, h17, hF⟩ := ob2S hF
        refine k_Vi (As := [.int (2 : Int32)]) (rest := []) hC hw (c_X7_finds (M := M) h17) RC_X yv_X7_finds q5_6 ⟨rfl, rfl⟩ ⟨Nat.le_of_ble_eq_true rfl, Nat.le_of_ble_eq_true rfl⟩ ⟨Nat.zero_le _, Nat.zero_le _⟩ rfl rfl (Nat.le_of_ble_eq_true rfl) hl dX7_lay_46 (fun H locs hw => ?_)
        exact r_iretE hC hw hF dX7_lay_49
    · have hF := ifP hF b5
      refine lv_aload_n hC.1 hC.2.1 dX7_lay_20 rfl (lv_at hl 0 rfl) ?_
      refine lv_iconst (v := (1 : Int32)) hC.1 hC.2.1 dX7_lay_21 (by decide) ?_
      obtain ⟨r21, M22, h20, hF⟩ := ob2S hF
      refine k_Vi (As := [.int (1 : Int32)]) (rest := []) hC hw (c_X7_finds (M := M) h20) RC_X yv_X7_finds q5_6 ⟨rfl, rfl⟩ ⟨Nat.le_of_ble_eq_true rfl, Nat.le_of_ble_eq_true rfl⟩ ⟨Nat.zero_le _, Nat.zero_le _⟩ rfl rfl (Nat.le_of_ble_eq_true rfl) hl dX7_lay_22 (fun H locs hw => ?_)
      exact r_iretE hC hw hF dX7_lay_25
  · have hF := ifP hF b3
    refine lv_iconst (v := (-1 : Int32)) hC.1 hC.2.1 dX7_lay_7 (by decide) ?_
    exact r_iretE hC hw hF dX7_lay_8
abbrev rm_X7_at : Room := { frames := 2, cells := 0, slots := 0, locals := 45 }
theorem yv_X7_at : YV yX7_at cX7_at 3 (some .int) 2 RX7 := ⟨⟨q5_23, q5_24, q1_8, q5_25⟩, by decide +kernel⟩
theorem dX7_at_0 : decode cX7_at 0 = .ok (.iload_n 1, 1) := by decide +kernel
theorem dX7_at_1 : decode cX7_at 1 = .ok (.invokestatic 114, 3) := by decide +kernel
theorem dX7_at_4 : decode cX7_at 4 = .ok (.ifCond .ne 5, 3) := by decide +kernel
theorem dX7_at_7 : decode cX7_at 7 = .ok (.iconst (-1), 1) := by decide +kernel
theorem dX7_at_8 : decode cX7_at 8 = .ok (.ireturn, 1) := by decide +kernel
theorem dX7_at_9 : decode cX7_at 9 = .ok (.aload_n 0, 1) := by decide +kernel
theorem dX7_at_10 : decode cX7_at 10 = .ok (.getfield 13, 3) := by decide +kernel
theorem dX7_at_13 : decode cX7_at 13 = .ok (.iload_n 1, 1) := by decide +kernel
theorem dX7_at_14 : decode cX7_at 14 = .ok (.iaload, 1) := by decide +kernel
theorem dX7_at_15 : decode cX7_at 15 = .ok (.bipush (-9), 2) := by decide +kernel
theorem dX7_at_17 : decode cX7_at 17 = .ok (.if_icmp .ne 9, 3) := by decide +kernel
theorem dX7_at_20 : decode cX7_at 20 = .ok (.aload_n 0, 1) := by decide +kernel
theorem dX7_at_21 : decode cX7_at 21 = .ok (.iconst 1, 1) := by decide +kernel
theorem dX7_at_22 : decode cX7_at 22 = .ok (.invokevirtual 118, 3) := by decide +kernel
theorem dX7_at_25 : decode cX7_at 25 = .ok (.ireturn, 1) := by decide +kernel
theorem dX7_at_26 : decode cX7_at 26 = .ok (.iload_n 2, 1) := by decide +kernel
theorem dX7_at_27 : decode cX7_at 27 = .ok (.i2l, 1) := by decide +kernel
theorem dX7_at_28 : decode cX7_at 28 = .ok (.lconst 0, 1) := by decide +kernel
theorem dX7_at_29 : decode cX7_at 29 = .ok (.aload_n 0, 1) := by decide +kernel
theorem dX7_at_30 : decode cX7_at 30 = .ok (.getfield 13, 3) := by decide +kernel
theorem dX7_at_33 : decode cX7_at 33 = .ok (.iload_n 1, 1) := by decide +kernel
theorem dX7_at_34 : decode cX7_at 34 = .ok (.iaload, 1) := by decide +kernel
theorem dX7_at_35 : decode cX7_at 35 = .ok (.iconst 1, 1) := by decide +kernel
theorem dX7_at_36 : decode cX7_at 36 = .ok (.isub, 1) := by decide +kernel
theorem dX7_at_37 : decode cX7_at 37 = .ok (.i2l, 1) := by decide +kernel
theorem dX7_at_38 : decode cX7_at 38 = .ok (.invokestatic 104, 3) := by decide +kernel
theorem dX7_at_41 : decode cX7_at 41 = .ok (.ifCond .eq 21, 3) := by decide +kernel
theorem dX7_at_44 : decode cX7_at 44 = .ok (.aload_n 0, 1) := by decide +kernel
theorem dX7_at_45 : decode cX7_at 45 = .ok (.aload_n 0, 1) := by decide +kernel
theorem dX7_at_46 : decode cX7_at 46 = .ok (.getfield 7, 3) := by decide +kernel
theorem dX7_at_49 : decode cX7_at 49 = .ok (.bipush 40, 2) := by decide +kernel
theorem dX7_at_51 : decode cX7_at 51 = .ok (.iload_n 1, 1) := by decide +kernel
theorem dX7_at_52 : decode cX7_at 52 = .ok (.imul, 1) := by decide +kernel
theorem dX7_at_53 : decode cX7_at 53 = .ok (.iload_n 2, 1) := by decide +kernel
theorem dX7_at_54 : decode cX7_at 54 = .ok (.iadd, 1) := by decide +kernel
theorem dX7_at_55 : decode cX7_at 55 = .ok (.iaload, 1) := by decide +kernel
theorem dX7_at_56 : decode cX7_at 56 = .ok (.invokevirtual 126, 3) := by decide +kernel
theorem dX7_at_59 : decode cX7_at 59 = .ok (.goto 8, 3) := by decide +kernel
theorem dX7_at_62 : decode cX7_at 62 = .ok (.aload_n 0, 1) := by decide +kernel
theorem dX7_at_63 : decode cX7_at 63 = .ok (.iconst 2, 1) := by decide +kernel
theorem dX7_at_64 : decode cX7_at 64 = .ok (.invokevirtual 118, 3) := by decide +kernel
theorem dX7_at_67 : decode cX7_at 67 = .ok (.ireturn, 1) := by decide +kernel
def F_X7_at (fu : Nat) (M : Mm) (x1 : Int32) (x2 : Int32) : Option (Int32 × Mm) :=
  ob1 (F_X7_isRow fu M x1) (fun r2 =>
  if r2 = 0 then
    some ((-1 : Int32), M)
  else
    if x1 < 0 ∨ ln 88 ≤ x1.toNatClampNeg then none else (
    if (M.1 88 x1.toNatClampNeg) = (-9 : Int32) then
      ob2 (F_X7_finds fu M (1 : Int32)) (fun r18 M19 =>
      some (r18, M19))
    else
      if x1 < 0 ∨ ln 88 ≤ x1.toNatClampNeg then none else (
      ob1 (F_X7_in fu M x2.toInt64 (0 : Int64) ((M.1 88 x1.toNatClampNeg) - (1 : Int32)).toInt64) (fun r8 =>
      if r8 = 0 then
        ob2 (F_X7_finds fu M (2 : Int32)) (fun r11 M12 =>
        some (r11, M12))
      else
        if (((40 : Int32) * x1) + x2) < 0 ∨ ln 87 ≤ (((40 : Int32) * x1) + x2).toNatClampNeg then none else (
        ob2 (F_X7_tells fu M (M.1 87 (((40 : Int32) * x1) + x2).toNatClampNeg)) (fun r15 M16 =>
        some (r15, M16)))))))
set_option maxRecDepth 100000 in
set_option maxHeartbeats 4000000 in
theorem c_X7_at {l : Launch} {G : Gv} {fu : Nat} {M : Mm} {x1 : Int32} {x2 : Int32} {r : Int32} {M' : Mm} (hF : F_X7_at fu M x1 x2 = some (r, M')) : Met l yX7_at (.code yX7_at cX7_at 3 (some .int) :: zU) rm_X7_at (va_Pc [.ref (ad G 86), .int x1, .int x2] (Wd G M)) (QI G r M') 0 0 (zA G) := by
  refine zMet (by decide) rfl (Nat.le_of_ble_eq_true rfl) ?_
  intro p e s m below meth c hC hw ls hl
  have hl : lv_has ls 3 [(0, .ref (ad G 86)), (1, .int x1), (2, .int x2)] := hl
  unfold F_X7_at at hF
  refine lv_iload_n hC.1 hC.2.1 dX7_at_0 rfl (lv_at hl 1 rfl) ?_
  obtain ⟨r2, h1, hF⟩ := ob1S hF
  refine k_Si (As := [.int x1]) (rest := []) hC hw (c_X7_isRow (M := M) h1) ys_X7_isRow q4_239 ⟨rfl, rfl⟩ ⟨Nat.le_of_ble_eq_true rfl, Nat.le_of_ble_eq_true rfl⟩ ⟨Nat.zero_le _, Nat.zero_le _⟩ rfl rfl (Nat.le_of_ble_eq_true rfl) hl dX7_at_1 (fun H locs hw => ?_)
  refine lv_if_ne (tgt := 9) hC.1 hC.2.1 dX7_at_4 (by decide) (fun b3 => ?_) (fun b3 => ?_)
  · have hF := ifN hF b3
    refine lv_aload_n hC.1 hC.2.1 dX7_at_9 rfl (lv_at hl 0 rfl) ?_
    refine g7_rowLong hC hw q4_123 dX7_at_10 ?_
    refine lv_iload_n hC.1 hC.2.1 dX7_at_13 rfl (lv_at hl 1 rfl) ?_
    obtain ⟨n4, hF⟩ := ifO hF
    refine r_iald hC.1 hC.2.1 hw (rfl : kd 88 = 1) n4 dX7_at_14 ?_
    refine lv_bipush (v := (-9 : Int32)) hC.1 hC.2.1 dX7_at_15 (by decide) ?_
    refine lv_icmp_ne (tgt := 26) hC.1 hC.2.1 dX7_at_17 (by decide) (fun b5 => ?_) (fun b5 => ?_)
    · have hF := ifN hF b5
      refine lv_iload_n hC.1 hC.2.1 dX7_at_26 rfl (lv_at hl 2 rfl) ?_
      refine lv_i2l hC.1 hC.2.1 dX7_at_27 rfl ?_
      refine lv_lconst (v := (0 : Int64)) hC.1 hC.2.1 dX7_at_28 (by decide) ?_
      refine lv_aload_n hC.1 hC.2.1 dX7_at_29 rfl (lv_at hl 0 rfl) ?_
      refine g7_rowLong hC hw q4_123 dX7_at_30 ?_
      refine lv_iload_n hC.1 hC.2.1 dX7_at_33 rfl (lv_at hl 1 rfl) ?_
      obtain ⟨n6, hF⟩ := ifO hF
      refine r_iald hC.1 hC.2.1 hw (rfl : kd 88 = 1) n6 dX7_at_34 ?_
      refine lv_iconst (v := (1 : Int32)) hC.1 hC.2.1 dX7_at_35 (by decide) ?_
      refine lv_isub hC.1 hC.2.1 dX7_at_36 ?_
      refine lv_i2l hC.1 hC.2.1 dX7_at_37 rfl ?_
      obtain ⟨r8, h7, hF⟩ := ob1S hF
      refine k_Si (As := [.long x2.toInt64, .long (0 : Int64), .long ((M.1 88 x1.toNatClampNeg) - (1 : Int32)).toInt64]) (rest := []) hC hw (c_X7_in (M := M) h7) ys_X7_in q5_3 ⟨rfl, rfl⟩ ⟨Nat.le_of_ble_eq_true rfl, Nat.le_of_ble_eq_true rfl⟩ ⟨Nat.zero_le _, Nat.zero_le _⟩ rfl rfl (Nat.le_of_ble_eq_true rfl) hl dX7_at_38 (fun H locs hw => ?_)
      refine lv_if_eq (tgt := 62) hC.1 hC.2.1 dX7_at_41 (by decide) (fun b9 => ?_) (fun b9 => ?_)
      · have hF := ifP hF b9
        refine lv_aload_n hC.1 hC.2.1 dX7_at_62 rfl (lv_at hl 0 rfl) ?_
        refine lv_iconst (v := (2 : Int32)) hC.1 hC.2.1 dX7_at_63 (by decide) ?_
        obtain ⟨r11, M12, h10, hF⟩ := ob2S hF
        refine k_Vi (As := [.int (2 : Int32)]) (rest := []) hC hw (c_X7_finds (M := M) h10) RC_X yv_X7_finds q5_6 ⟨rfl, rfl⟩ ⟨Nat.le_of_ble_eq_true rfl, Nat.le_of_ble_eq_true rfl⟩ ⟨Nat.zero_le _, Nat.zero_le _⟩ rfl rfl (Nat.le_of_ble_eq_true rfl) hl dX7_at_64 (fun H locs hw => ?_)
        exact r_iretE hC hw hF dX7_at_67
      · have hF := ifN hF b9
        refine lv_aload_n hC.1 hC.2.1 dX7_at_44 rfl (lv_at hl 0 rfl) ?_
        refine lv_aload_n hC.1 hC.2.1 dX7_at_45 rfl (lv_at hl 0 rfl) ?_
        refine g7_rows hC hw q4_122 dX7_at_46 ?_
        refine lv_bipush (v := (40 : Int32)) hC.1 hC.2.1 dX7_at_49 (by decide) ?_
        refine lv_iload_n hC.1 hC.2.1 dX7_at_51 rfl (lv_at hl 1 rfl) ?_
        refine lv_imul hC.1 hC.2.1 dX7_at_52 ?_
        refine lv_iload_n hC.1 hC.2.1 dX7_at_53 rfl (lv_at hl 2 rfl) ?_
        refine lv_iadd hC.1 hC.2.1 dX7_at_54 ?_
        obtain ⟨n13, hF⟩ := ifO hF
        refine r_iald hC.1 hC.2.1 hw (rfl : kd 87 = 1) n13 dX7_at_55 ?_
        obtain ⟨r15, M16, h14, hF⟩ := ob2S hF
        refine k_Vi (As := [.int (M.1 87 (((40 : Int32) * x1) + x2).toNatClampNeg)]) (rest := []) hC hw (c_X7_tells (M := M) h14) RC_X yv_X7_tells q5_18 ⟨rfl, rfl⟩ ⟨Nat.le_of_ble_eq_true rfl, Nat.le_of_ble_eq_true rfl⟩ ⟨Nat.zero_le _, Nat.zero_le _⟩ rfl rfl (Nat.le_of_ble_eq_true rfl) hl dX7_at_56 (fun H locs hw => ?_)
        refine lv_goto (tgt := 67) hC.1 hC.2.1 dX7_at_59 (by decide) ?_
        exact r_iretE hC hw hF dX7_at_67
    · have hF := ifP hF b5
      refine lv_aload_n hC.1 hC.2.1 dX7_at_20 rfl (lv_at hl 0 rfl) ?_
      refine lv_iconst (v := (1 : Int32)) hC.1 hC.2.1 dX7_at_21 (by decide) ?_
      obtain ⟨r18, M19, h17, hF⟩ := ob2S hF
      refine k_Vi (As := [.int (1 : Int32)]) (rest := []) hC hw (c_X7_finds (M := M) h17) RC_X yv_X7_finds q5_6 ⟨rfl, rfl⟩ ⟨Nat.le_of_ble_eq_true rfl, Nat.le_of_ble_eq_true rfl⟩ ⟨Nat.zero_le _, Nat.zero_le _⟩ rfl rfl (Nat.le_of_ble_eq_true rfl) hl dX7_at_22 (fun H locs hw => ?_)
      exact r_iretE hC hw hF dX7_at_25
  · have hF := ifP hF b3
    refine lv_iconst (v := (-1 : Int32)) hC.1 hC.2.1 dX7_at_7 (by decide) ?_
    exact r_iretE hC hw hF dX7_at_8
abbrev rm_X7_tear : Room := { frames := 2, cells := 0, slots := 0, locals := 45 }
theorem yv_X7_tear : YV yX7_tear cX7_tear 2 (some .int) 1 RX7 := ⟨⟨q5_27, q5_28, q1_8, q5_29⟩, by decide +kernel⟩
theorem dX7_tear_0 : decode cX7_tear 0 = .ok (.iload_n 1, 1) := by decide +kernel
theorem dX7_tear_1 : decode cX7_tear 1 = .ok (.invokestatic 114, 3) := by decide +kernel
theorem dX7_tear_4 : decode cX7_tear 4 = .ok (.ifCond .ne 5, 3) := by decide +kernel
theorem dX7_tear_7 : decode cX7_tear 7 = .ok (.iconst (-1), 1) := by decide +kernel
theorem dX7_tear_8 : decode cX7_tear 8 = .ok (.ireturn, 1) := by decide +kernel
theorem dX7_tear_9 : decode cX7_tear 9 = .ok (.aload_n 0, 1) := by decide +kernel
theorem dX7_tear_10 : decode cX7_tear 10 = .ok (.getfield 13, 3) := by decide +kernel
theorem dX7_tear_13 : decode cX7_tear 13 = .ok (.iload_n 1, 1) := by decide +kernel
theorem dX7_tear_14 : decode cX7_tear 14 = .ok (.iaload, 1) := by decide +kernel
theorem dX7_tear_15 : decode cX7_tear 15 = .ok (.bipush (-9), 2) := by decide +kernel
theorem dX7_tear_17 : decode cX7_tear 17 = .ok (.if_icmp .ne 9, 3) := by decide +kernel
theorem dX7_tear_20 : decode cX7_tear 20 = .ok (.aload_n 0, 1) := by decide +kernel
theorem dX7_tear_21 : decode cX7_tear 21 = .ok (.iconst 1, 1) := by decide +kernel
theorem dX7_tear_22 : decode cX7_tear 22 = .ok (.invokevirtual 118, 3) := by decide +kernel
theorem dX7_tear_25 : decode cX7_tear 25 = .ok (.ireturn, 1) := by decide +kernel
theorem dX7_tear_26 : decode cX7_tear 26 = .ok (.aload_n 0, 1) := by decide +kernel
theorem dX7_tear_27 : decode cX7_tear 27 = .ok (.getfield 13, 3) := by decide +kernel
theorem dX7_tear_30 : decode cX7_tear 30 = .ok (.iload_n 1, 1) := by decide +kernel
theorem dX7_tear_31 : decode cX7_tear 31 = .ok (.bipush (-9), 2) := by decide +kernel
theorem dX7_tear_33 : decode cX7_tear 33 = .ok (.iastore, 1) := by decide +kernel
theorem dX7_tear_34 : decode cX7_tear 34 = .ok (.iconst 1, 1) := by decide +kernel
theorem dX7_tear_35 : decode cX7_tear 35 = .ok (.ireturn, 1) := by decide +kernel
def F_X7_tear (fu : Nat) (M : Mm) (x1 : Int32) : Option (Int32 × Mm) :=
  ob1 (F_X7_isRow fu M x1) (fun r2 =>
  if r2 = 0 then
    some ((-1 : Int32), M)
  else
    if x1 < 0 ∨ ln 88 ≤ x1.toNatClampNeg then none else (
    if (M.1 88 x1.toNatClampNeg) = (-9 : Int32) then
      ob2 (F_X7_finds fu M (1 : Int32)) (fun r9 M10 =>
      some (r9, M10))
    else
      if x1 < 0 ∨ ln 88 ≤ x1.toNatClampNeg then none else (
      lt1 (pI M 88 x1.toNatClampNeg (-9 : Int32)) (fun M7 =>
      some ((1 : Int32), M7)))))
set_option maxRecDepth 100000 in
set_option maxHeartbeats 4000000 in
theorem c_X7_tear {l : Launch} {G : Gv} {fu : Nat} {M : Mm} {x1 : Int32} {r : Int32} {M' : Mm} (hF : F_X7_tear fu M x1 = some (r, M')) : Met l yX7_tear (.code yX7_tear cX7_tear 2 (some .int) :: zU) rm_X7_tear (va_Pc [.ref (ad G 86), .int x1] (Wd G M)) (QI G r M') 0 0 (zA G) := by
  refine zMet (by decide) rfl (Nat.le_of_ble_eq_true rfl) ?_
  intro p e s m below meth c hC hw ls hl
  have hl : lv_has ls 2 [(0, .ref (ad G 86)), (1, .int x1)] := hl
  unfold F_X7_tear at hF
  refine lv_iload_n hC.1 hC.2.1 dX7_tear_0 rfl (lv_at hl 1 rfl) ?_
  obtain ⟨r2, h1, hF⟩ := ob1S hF
  refine k_Si (As := [.int x1]) (rest := []) hC hw (c_X7_isRow (M := M) h1) ys_X7_isRow q4_239 ⟨rfl, rfl⟩ ⟨Nat.le_of_ble_eq_true rfl, Nat.le_of_ble_eq_true rfl⟩ ⟨Nat.zero_le _, Nat.zero_le _⟩ rfl rfl (Nat.le_of_ble_eq_true rfl) hl dX7_tear_1 (fun H locs hw => ?_)
  refine lv_if_ne (tgt := 9) hC.1 hC.2.1 dX7_tear_4 (by decide) (fun b3 => ?_) (fun b3 => ?_)
  · have hF := ifN hF b3
    refine lv_aload_n hC.1 hC.2.1 dX7_tear_9 rfl (lv_at hl 0 rfl) ?_
    refine g7_rowLong hC hw q4_123 dX7_tear_10 ?_
    refine lv_iload_n hC.1 hC.2.1 dX7_tear_13 rfl (lv_at hl 1 rfl) ?_
    obtain ⟨n4, hF⟩ := ifO hF
    refine r_iald hC.1 hC.2.1 hw (rfl : kd 88 = 1) n4 dX7_tear_14 ?_
    refine lv_bipush (v := (-9 : Int32)) hC.1 hC.2.1 dX7_tear_15 (by decide) ?_
    refine lv_icmp_ne (tgt := 26) hC.1 hC.2.1 dX7_tear_17 (by decide) (fun b5 => ?_) (fun b5 => ?_)
    · have hF := ifN hF b5
      refine lv_aload_n hC.1 hC.2.1 dX7_tear_26 rfl (lv_at hl 0 rfl) ?_
      refine g7_rowLong hC hw q4_123 dX7_tear_27 ?_
      refine lv_iload_n hC.1 hC.2.1 dX7_tear_30 rfl (lv_at hl 1 rfl) ?_
      refine lv_bipush (v := (-9 : Int32)) hC.1 hC.2.1 dX7_tear_31 (by decide) ?_
      obtain ⟨n6, hF⟩ := ifO hF
      refine r_iast hC.1 hC.2.1 hw (rfl : kd 88 = 1) n6 dX7_tear_33 (fun H locs hw => ?_)
      obtain ⟨M7, hw, hF⟩ := lt1W hF hw
      refine lv_iconst (v := (1 : Int32)) hC.1 hC.2.1 dX7_tear_34 (by decide) ?_
      exact r_iretE hC hw hF dX7_tear_35
    · have hF := ifP hF b5
      refine lv_aload_n hC.1 hC.2.1 dX7_tear_20 rfl (lv_at hl 0 rfl) ?_
      refine lv_iconst (v := (1 : Int32)) hC.1 hC.2.1 dX7_tear_21 (by decide) ?_
      obtain ⟨r9, M10, h8, hF⟩ := ob2S hF
      refine k_Vi (As := [.int (1 : Int32)]) (rest := []) hC hw (c_X7_finds (M := M) h8) RC_X yv_X7_finds q5_6 ⟨rfl, rfl⟩ ⟨Nat.le_of_ble_eq_true rfl, Nat.le_of_ble_eq_true rfl⟩ ⟨Nat.zero_le _, Nat.zero_le _⟩ rfl rfl (Nat.le_of_ble_eq_true rfl) hl dX7_tear_22 (fun H locs hw => ?_)
      exact r_iretE hC hw hF dX7_tear_25
  · have hF := ifP hF b3
    refine lv_iconst (v := (-1 : Int32)) hC.1 hC.2.1 dX7_tear_7 (by decide) ?_
    exact r_iretE hC hw hF dX7_tear_8
abbrev rm_X7_copy : Room := { frames := 2, cells := 0, slots := 0, locals := 45 }
theorem yv_X7_copy : YV yX7_copy cX7_copy 7 (some .int) 5 RX7 := ⟨⟨q5_31, q5_32, q1_8, q5_33⟩, by decide +kernel⟩
theorem dX7_copy_0 : decode cX7_copy 0 = .ok (.iload_n 1, 1) := by decide +kernel
theorem dX7_copy_1 : decode cX7_copy 1 = .ok (.invokestatic 114, 3) := by decide +kernel
theorem dX7_copy_4 : decode cX7_copy 4 = .ok (.ifCond .eq 10, 3) := by decide +kernel
theorem dX7_copy_7 : decode cX7_copy 7 = .ok (.iload_n 3, 1) := by decide +kernel
theorem dX7_copy_8 : decode cX7_copy 8 = .ok (.invokestatic 114, 3) := by decide +kernel
theorem dX7_copy_11 : decode cX7_copy 11 = .ok (.ifCond .ne 5, 3) := by decide +kernel
theorem dX7_copy_14 : decode cX7_copy 14 = .ok (.iconst (-1), 1) := by decide +kernel
theorem dX7_copy_15 : decode cX7_copy 15 = .ok (.ireturn, 1) := by decide +kernel
theorem dX7_copy_16 : decode cX7_copy 16 = .ok (.iload 5, 2) := by decide +kernel
theorem dX7_copy_18 : decode cX7_copy 18 = .ok (.ifCond .ge 9, 3) := by decide +kernel
theorem dX7_copy_21 : decode cX7_copy 21 = .ok (.aload_n 0, 1) := by decide +kernel
theorem dX7_copy_22 : decode cX7_copy 22 = .ok (.iconst 5, 1) := by decide +kernel
theorem dX7_copy_23 : decode cX7_copy 23 = .ok (.invokevirtual 118, 3) := by decide +kernel
theorem dX7_copy_26 : decode cX7_copy 26 = .ok (.ireturn, 1) := by decide +kernel
theorem dX7_copy_27 : decode cX7_copy 27 = .ok (.aload_n 0, 1) := by decide +kernel
theorem dX7_copy_28 : decode cX7_copy 28 = .ok (.getfield 13, 3) := by decide +kernel
theorem dX7_copy_31 : decode cX7_copy 31 = .ok (.iload_n 1, 1) := by decide +kernel
theorem dX7_copy_32 : decode cX7_copy 32 = .ok (.iaload, 1) := by decide +kernel
theorem dX7_copy_33 : decode cX7_copy 33 = .ok (.bipush (-9), 2) := by decide +kernel
theorem dX7_copy_35 : decode cX7_copy 35 = .ok (.if_icmp .eq 14, 3) := by decide +kernel
theorem dX7_copy_38 : decode cX7_copy 38 = .ok (.aload_n 0, 1) := by decide +kernel
theorem dX7_copy_39 : decode cX7_copy 39 = .ok (.getfield 13, 3) := by decide +kernel
theorem dX7_copy_42 : decode cX7_copy 42 = .ok (.iload_n 3, 1) := by decide +kernel
theorem dX7_copy_43 : decode cX7_copy 43 = .ok (.iaload, 1) := by decide +kernel
theorem dX7_copy_44 : decode cX7_copy 44 = .ok (.bipush (-9), 2) := by decide +kernel
theorem dX7_copy_46 : decode cX7_copy 46 = .ok (.if_icmp .ne 9, 3) := by decide +kernel
theorem dX7_copy_49 : decode cX7_copy 49 = .ok (.aload_n 0, 1) := by decide +kernel
theorem dX7_copy_50 : decode cX7_copy 50 = .ok (.iconst 1, 1) := by decide +kernel
theorem dX7_copy_51 : decode cX7_copy 51 = .ok (.invokevirtual 118, 3) := by decide +kernel
theorem dX7_copy_54 : decode cX7_copy 54 = .ok (.ireturn, 1) := by decide +kernel
theorem dX7_copy_55 : decode cX7_copy 55 = .ok (.iload_n 2, 1) := by decide +kernel
theorem dX7_copy_56 : decode cX7_copy 56 = .ok (.ifCond .lt 43, 3) := by decide +kernel
theorem dX7_copy_59 : decode cX7_copy 59 = .ok (.iload 4, 2) := by decide +kernel
theorem dX7_copy_61 : decode cX7_copy 61 = .ok (.ifCond .lt 38, 3) := by decide +kernel
theorem dX7_copy_64 : decode cX7_copy 64 = .ok (.iload_n 2, 1) := by decide +kernel
theorem dX7_copy_65 : decode cX7_copy 65 = .ok (.i2l, 1) := by decide +kernel
theorem dX7_copy_66 : decode cX7_copy 66 = .ok (.iload 5, 2) := by decide +kernel
theorem dX7_copy_68 : decode cX7_copy 68 = .ok (.i2l, 1) := by decide +kernel
theorem dX7_copy_69 : decode cX7_copy 69 = .ok (.ladd, 1) := by decide +kernel
theorem dX7_copy_70 : decode cX7_copy 70 = .ok (.aload_n 0, 1) := by decide +kernel
theorem dX7_copy_71 : decode cX7_copy 71 = .ok (.getfield 13, 3) := by decide +kernel
theorem dX7_copy_74 : decode cX7_copy 74 = .ok (.iload_n 1, 1) := by decide +kernel
theorem dX7_copy_75 : decode cX7_copy 75 = .ok (.iaload, 1) := by decide +kernel
theorem dX7_copy_76 : decode cX7_copy 76 = .ok (.i2l, 1) := by decide +kernel
theorem dX7_copy_77 : decode cX7_copy 77 = .ok (.lcmp, 1) := by decide +kernel
theorem dX7_copy_78 : decode cX7_copy 78 = .ok (.ifCond .gt 21, 3) := by decide +kernel
theorem dX7_copy_81 : decode cX7_copy 81 = .ok (.iload 4, 2) := by decide +kernel
theorem dX7_copy_83 : decode cX7_copy 83 = .ok (.i2l, 1) := by decide +kernel
theorem dX7_copy_84 : decode cX7_copy 84 = .ok (.iload 5, 2) := by decide +kernel
theorem dX7_copy_86 : decode cX7_copy 86 = .ok (.i2l, 1) := by decide +kernel
theorem dX7_copy_87 : decode cX7_copy 87 = .ok (.ladd, 1) := by decide +kernel
theorem dX7_copy_88 : decode cX7_copy 88 = .ok (.aload_n 0, 1) := by decide +kernel
theorem dX7_copy_89 : decode cX7_copy 89 = .ok (.getfield 13, 3) := by decide +kernel
theorem dX7_copy_92 : decode cX7_copy 92 = .ok (.iload_n 3, 1) := by decide +kernel
theorem dX7_copy_93 : decode cX7_copy 93 = .ok (.iaload, 1) := by decide +kernel
theorem dX7_copy_94 : decode cX7_copy 94 = .ok (.i2l, 1) := by decide +kernel
theorem dX7_copy_95 : decode cX7_copy 95 = .ok (.lcmp, 1) := by decide +kernel
theorem dX7_copy_96 : decode cX7_copy 96 = .ok (.ifCond .le 9, 3) := by decide +kernel
theorem dX7_copy_99 : decode cX7_copy 99 = .ok (.aload_n 0, 1) := by decide +kernel
theorem dX7_copy_100 : decode cX7_copy 100 = .ok (.iconst 2, 1) := by decide +kernel
theorem dX7_copy_101 : decode cX7_copy 101 = .ok (.invokevirtual 118, 3) := by decide +kernel
theorem dX7_copy_104 : decode cX7_copy 104 = .ok (.ireturn, 1) := by decide +kernel
theorem dX7_copy_105 : decode cX7_copy 105 = .ok (.iconst 0, 1) := by decide +kernel
theorem dX7_copy_106 : decode cX7_copy 106 = .ok (.istore 6, 2) := by decide +kernel
theorem dX7_copy_108 : decode cX7_copy 108 = .ok (.iload 6, 2) := by decide +kernel
theorem dX7_copy_110 : decode cX7_copy 110 = .ok (.iload 5, 2) := by decide +kernel
theorem dX7_copy_112 : decode cX7_copy 112 = .ok (.if_icmp .ge 30, 3) := by decide +kernel
theorem dX7_copy_115 : decode cX7_copy 115 = .ok (.aload_n 0, 1) := by decide +kernel
theorem dX7_copy_116 : decode cX7_copy 116 = .ok (.getfield 54, 3) := by decide +kernel
theorem dX7_copy_119 : decode cX7_copy 119 = .ok (.iload 6, 2) := by decide +kernel
theorem dX7_copy_121 : decode cX7_copy 121 = .ok (.aload_n 0, 1) := by decide +kernel
theorem dX7_copy_122 : decode cX7_copy 122 = .ok (.getfield 7, 3) := by decide +kernel
theorem dX7_copy_125 : decode cX7_copy 125 = .ok (.bipush 40, 2) := by decide +kernel
theorem dX7_copy_127 : decode cX7_copy 127 = .ok (.iload_n 1, 1) := by decide +kernel
theorem dX7_copy_128 : decode cX7_copy 128 = .ok (.imul, 1) := by decide +kernel
theorem dX7_copy_129 : decode cX7_copy 129 = .ok (.iload_n 2, 1) := by decide +kernel
theorem dX7_copy_130 : decode cX7_copy 130 = .ok (.iadd, 1) := by decide +kernel
theorem dX7_copy_131 : decode cX7_copy 131 = .ok (.iload 6, 2) := by decide +kernel
theorem dX7_copy_133 : decode cX7_copy 133 = .ok (.iadd, 1) := by decide +kernel
theorem dX7_copy_134 : decode cX7_copy 134 = .ok (.iaload, 1) := by decide +kernel
theorem dX7_copy_135 : decode cX7_copy 135 = .ok (.iastore, 1) := by decide +kernel
theorem dX7_copy_136 : decode cX7_copy 136 = .ok (.iinc 6 1, 3) := by decide +kernel
theorem dX7_copy_139 : decode cX7_copy 139 = .ok (.goto (-31), 3) := by decide +kernel
theorem dX7_copy_142 : decode cX7_copy 142 = .ok (.iconst 0, 1) := by decide +kernel
theorem dX7_copy_143 : decode cX7_copy 143 = .ok (.istore 6, 2) := by decide +kernel
theorem dX7_copy_145 : decode cX7_copy 145 = .ok (.iload 6, 2) := by decide +kernel
theorem dX7_copy_147 : decode cX7_copy 147 = .ok (.iload 5, 2) := by decide +kernel
theorem dX7_copy_149 : decode cX7_copy 149 = .ok (.if_icmp .ge 31, 3) := by decide +kernel
theorem dX7_copy_152 : decode cX7_copy 152 = .ok (.aload_n 0, 1) := by decide +kernel
theorem dX7_copy_153 : decode cX7_copy 153 = .ok (.getfield 7, 3) := by decide +kernel
theorem dX7_copy_156 : decode cX7_copy 156 = .ok (.bipush 40, 2) := by decide +kernel
theorem dX7_copy_158 : decode cX7_copy 158 = .ok (.iload_n 3, 1) := by decide +kernel
theorem dX7_copy_159 : decode cX7_copy 159 = .ok (.imul, 1) := by decide +kernel
theorem dX7_copy_160 : decode cX7_copy 160 = .ok (.iload 4, 2) := by decide +kernel
theorem dX7_copy_162 : decode cX7_copy 162 = .ok (.iadd, 1) := by decide +kernel
theorem dX7_copy_163 : decode cX7_copy 163 = .ok (.iload 6, 2) := by decide +kernel
theorem dX7_copy_165 : decode cX7_copy 165 = .ok (.iadd, 1) := by decide +kernel
theorem dX7_copy_166 : decode cX7_copy 166 = .ok (.aload_n 0, 1) := by decide +kernel
theorem dX7_copy_167 : decode cX7_copy 167 = .ok (.getfield 54, 3) := by decide +kernel
theorem dX7_copy_170 : decode cX7_copy 170 = .ok (.iload 6, 2) := by decide +kernel
theorem dX7_copy_172 : decode cX7_copy 172 = .ok (.iaload, 1) := by decide +kernel
theorem dX7_copy_173 : decode cX7_copy 173 = .ok (.iastore, 1) := by decide +kernel
theorem dX7_copy_174 : decode cX7_copy 174 = .ok (.iinc 6 1, 3) := by decide +kernel
theorem dX7_copy_177 : decode cX7_copy 177 = .ok (.goto (-32), 3) := by decide +kernel
theorem dX7_copy_180 : decode cX7_copy 180 = .ok (.iconst 1, 1) := by decide +kernel
theorem dX7_copy_181 : decode cX7_copy 181 = .ok (.ireturn, 1) := by decide +kernel
def F_X7_copy_49 (fu : Nat) (M : Mm) : Option (Int32 × Mm) :=
  ob2 (F_X7_finds fu M (1 : Int32)) (fun r2 M3 =>
  some (r2, M3))
set_option maxRecDepth 100000 in
set_option maxHeartbeats 4000000 in
theorem w_X7_copy_49 {p : Program} {l : Launch} {e : Env} {s : State} {m : MethodId} {args : Array Value} {below : List Frame} {meth : Method} {c : Code} {G : Gv} (hC : Cx p s m args meth c cX7_copy 7 (some .int) RX7) {fu : Nat} {r : Int32} {M' : Mm} {M : Mm} {H : Heap} {locs : List Loc} {ls : Array Slot} (hF : F_X7_copy_49 fu M = some (r, M')) (hw : St G s H locs M) (hl : lv_has ls 7 [(0, .ref (ad G 86))]) : W p l e rm_X7_copy s m args below meth c H locs 0 0 (MQ below (QI G r M') args s 0 0 (zA G)) (F0 m 49 ls []) := by
  unfold F_X7_copy_49 at hF
  refine lv_aload_n hC.1 hC.2.1 dX7_copy_49 rfl (lv_at hl 0 rfl) ?_
  refine lv_iconst (v := (1 : Int32)) hC.1 hC.2.1 dX7_copy_50 (by decide) ?_
  obtain ⟨r2, M3, h1, hF⟩ := ob2S hF
  refine k_Vi (As := [.int (1 : Int32)]) (rest := []) hC hw (c_X7_finds (M := M) h1) RC_X yv_X7_finds q5_6 ⟨rfl, rfl⟩ ⟨Nat.le_of_ble_eq_true rfl, Nat.le_of_ble_eq_true rfl⟩ ⟨Nat.zero_le _, Nat.zero_le _⟩ rfl rfl (Nat.le_of_ble_eq_true rfl) hl dX7_copy_51 (fun H locs hw => ?_)
  exact r_iretE hC hw hF dX7_copy_54
def F_X7_copy_99 (fu : Nat) (M : Mm) : Option (Int32 × Mm) :=
  ob2 (F_X7_finds fu M (2 : Int32)) (fun r2 M3 =>
  some (r2, M3))
set_option maxRecDepth 100000 in
set_option maxHeartbeats 4000000 in
theorem w_X7_copy_99 {p : Program} {l : Launch} {e : Env} {s : State} {m : MethodId} {args : Array Value} {below : List Frame} {meth : Method} {c : Code} {G : Gv} (hC : Cx p s m args meth c cX7_copy 7 (some .int) RX7) {fu : Nat} {r : Int32} {M' : Mm} {M : Mm} {H : Heap} {locs : List Loc} {ls : Array Slot} (hF : F_X7_copy_99 fu M = some (r, M')) (hw : St G s H locs M) (hl : lv_has ls 7 [(0, .ref (ad G 86))]) : W p l e rm_X7_copy s m args below meth c H locs 0 0 (MQ below (QI G r M') args s 0 0 (zA G)) (F0 m 99 ls []) := by
  unfold F_X7_copy_99 at hF
  refine lv_aload_n hC.1 hC.2.1 dX7_copy_99 rfl (lv_at hl 0 rfl) ?_
  refine lv_iconst (v := (2 : Int32)) hC.1 hC.2.1 dX7_copy_100 (by decide) ?_
  obtain ⟨r2, M3, h1, hF⟩ := ob2S hF
  refine k_Vi (As := [.int (2 : Int32)]) (rest := []) hC hw (c_X7_finds (M := M) h1) RC_X yv_X7_finds q5_6 ⟨rfl, rfl⟩ ⟨Nat.le_of_ble_eq_true rfl, Nat.le_of_ble_eq_true rfl⟩ ⟨Nat.zero_le _, Nat.zero_le _⟩ rfl rfl (Nat.le_of_ble_eq_true rfl) hl dX7_copy_101 (fun H locs hw => ?_)
  exact r_iretE hC hw hF dX7_copy_104
def F_X7_copy_145 (fu : Nat) : Nat → Mm → Int32 → Int32 → Int32 → Int32 → Option (Int32 × Mm)
  | 0, _, _, _, _, _ => none
  | n + 1, M, x3, x4, x5, x6 =>
    if x5 ≤ x6 then
      some ((1 : Int32), M)
    else
      if x6 < 0 ∨ ln 100 ≤ x6.toNatClampNeg then none else (
      if ((((40 : Int32) * x3) + x4) + x6) < 0 ∨ ln 87 ≤ ((((40 : Int32) * x3) + x4) + x6).toNatClampNeg then none else (
      lt1 (pI M 87 ((((40 : Int32) * x3) + x4) + x6).toNatClampNeg (M.1 100 x6.toNatClampNeg)) (fun M4 =>
      F_X7_copy_145 fu n M4 x3 x4 x5 (x6 + (1 : Int32)))))
set_option maxRecDepth 100000 in
set_option maxHeartbeats 4000000 in
theorem w_X7_copy_145 {p : Program} {l : Launch} {e : Env} {s : State} {m : MethodId} {args : Array Value} {below : List Frame} {meth : Method} {c : Code} {G : Gv} (hC : Cx p s m args meth c cX7_copy 7 (some .int) RX7) {fu : Nat} {r : Int32} {M' : Mm} : ∀ (n : Nat) {x3 : Int32} {x4 : Int32} {x5 : Int32} {x6 : Int32} {M : Mm} {H : Heap} {locs : List Loc} {ls : Array Slot}, F_X7_copy_145 fu n M x3 x4 x5 x6 = some (r, M') → St G s H locs M → lv_has ls 7 [(0, .ref (ad G 86)), (3, .int x3), (4, .int x4), (5, .int x5), (6, .int x6)] → W p l e rm_X7_copy s m args below meth c H locs 0 0 (MQ below (QI G r M') args s 0 0 (zA G)) (F0 m 145 ls []) := by
  intro n
  induction n with
  | zero =>
    intro x3 x4 x5 x6 M H locs ls hF hw hl
    cases hF
  | succ n ih =>
    intro x3 x4 x5 x6 M H locs ls hF hw hl
    unfold F_X7_copy_145 at hF
    refine lv_iload hC.1 hC.2.1 dX7_copy_145 (lv_at hl 4 rfl) ?_
    refine lv_iload hC.1 hC.2.1 dX7_copy_147 (lv_at hl 3 rfl) ?_
    refine lv_icmp_ge (tgt := 180) hC.1 hC.2.1 dX7_copy_149 (by decide) (fun b1 => ?_) (fun b1 => ?_)
    · have hF := ifP hF b1
      refine lv_iconst (v := (1 : Int32)) hC.1 hC.2.1 dX7_copy_180 (by decide) ?_
      exact r_iretE hC hw hF dX7_copy_181
    · have hF := ifN hF b1
      refine lv_aload_n hC.1 hC.2.1 dX7_copy_152 rfl (lv_at hl 0 rfl) ?_
      refine g7_rows hC hw q4_122 dX7_copy_153 ?_
      refine lv_bipush (v := (40 : Int32)) hC.1 hC.2.1 dX7_copy_156 (by decide) ?_
      refine lv_iload_n hC.1 hC.2.1 dX7_copy_158 rfl (lv_at hl 1 rfl) ?_
      refine lv_imul hC.1 hC.2.1 dX7_copy_159 ?_
      refine lv_iload hC.1 hC.2.1 dX7_copy_160 (lv_at hl 2 rfl) ?_
      refine lv_iadd hC.1 hC.2.1 dX7_copy_162 ?_
      refine lv_iload hC.1 hC.2.1 dX7_copy_163 (lv_at hl 4 rfl) ?_
      refine lv_iadd hC.1 hC.2.1 dX7_copy_165 ?_
      refine lv_aload_n hC.1 hC.2.1 dX7_copy_166 rfl (lv_at hl 0 rfl) ?_
      refine g7_moved hC hw q4_143 dX7_copy_167 ?_
      refine lv_iload hC.1 hC.2.1 dX7_copy_170 (lv_at hl 4 rfl) ?_
      obtain ⟨n2, hF⟩ := ifO hF
      refine r_iald hC.1 hC.2.1 hw (rfl : kd 100 = 1) n2 dX7_copy_172 ?_
      obtain ⟨n3, hF⟩ := ifO hF
      refine r_iast hC.1 hC.2.1 hw (rfl : kd 87 = 1) n3 dX7_copy_173 (fun H locs hw => ?_)
      obtain ⟨M4, hw, hF⟩ := lt1W hF hw
      refine lv_iinc (v := (x6 + (1 : Int32))) (lv' := [(6, .int (x6 + (1 : Int32))), (0, .ref (ad G 86)), (3, .int x3), (4, .int x4), (5, .int x5)]) hC.1 hC.2.1 dX7_copy_174 hl (k := 4) rfl rfl (by decide) rfl (fun ls hl => ?_)
      refine lv_goto (tgt := 145) hC.1 hC.2.1 dX7_copy_177 (by decide) ?_
      exact ih hF hw (lv_sub hl [1, 2, 3, 4, 0] rfl)
def F_X7_copy_108 (fu : Nat) : Nat → Mm → Int32 → Int32 → Int32 → Int32 → Int32 → Int32 → Option (Int32 × Mm)
  | 0, _, _, _, _, _, _, _ => none
  | n + 1, M, x1, x2, x3, x4, x5, x6 =>
    if x5 ≤ x6 then
      F_X7_copy_145 fu fu M x3 x4 x5 (0 : Int32)
    else
      if ((((40 : Int32) * x1) + x2) + x6) < 0 ∨ ln 87 ≤ ((((40 : Int32) * x1) + x2) + x6).toNatClampNeg then none else (
      if x6 < 0 ∨ ln 100 ≤ x6.toNatClampNeg then none else (
      lt1 (pI M 100 x6.toNatClampNeg (M.1 87 ((((40 : Int32) * x1) + x2) + x6).toNatClampNeg)) (fun M4 =>
      F_X7_copy_108 fu n M4 x1 x2 x3 x4 x5 (x6 + (1 : Int32)))))
set_option maxRecDepth 100000 in
set_option maxHeartbeats 4000000 in
theorem w_X7_copy_108 {p : Program} {l : Launch} {e : Env} {s : State} {m : MethodId} {args : Array Value} {below : List Frame} {meth : Method} {c : Code} {G : Gv} (hC : Cx p s m args meth c cX7_copy 7 (some .int) RX7) {fu : Nat} {r : Int32} {M' : Mm} : ∀ (n : Nat) {x1 : Int32} {x2 : Int32} {x3 : Int32} {x4 : Int32} {x5 : Int32} {x6 : Int32} {M : Mm} {H : Heap} {locs : List Loc} {ls : Array Slot}, F_X7_copy_108 fu n M x1 x2 x3 x4 x5 x6 = some (r, M') → St G s H locs M → lv_has ls 7 [(0, .ref (ad G 86)), (1, .int x1), (2, .int x2), (3, .int x3), (4, .int x4), (5, .int x5), (6, .int x6)] → W p l e rm_X7_copy s m args below meth c H locs 0 0 (MQ below (QI G r M') args s 0 0 (zA G)) (F0 m 108 ls []) := by
  intro n
  induction n with
  | zero =>
    intro x1 x2 x3 x4 x5 x6 M H locs ls hF hw hl
    cases hF
  | succ n ih =>
    intro x1 x2 x3 x4 x5 x6 M H locs ls hF hw hl
    unfold F_X7_copy_108 at hF
    refine lv_iload hC.1 hC.2.1 dX7_copy_108 (lv_at hl 6 rfl) ?_
    refine lv_iload hC.1 hC.2.1 dX7_copy_110 (lv_at hl 5 rfl) ?_
    refine lv_icmp_ge (tgt := 142) hC.1 hC.2.1 dX7_copy_112 (by decide) (fun b1 => ?_) (fun b1 => ?_)
    · have hF := ifP hF b1
      refine lv_iconst (v := (0 : Int32)) hC.1 hC.2.1 dX7_copy_142 (by decide) ?_
      refine lv_istore (lv' := [(6, .int (0 : Int32)), (0, .ref (ad G 86)), (1, .int x1), (2, .int x2), (3, .int x3), (4, .int x4), (5, .int x5)]) hC.1 hC.2.1 dX7_copy_143 hl (by decide) rfl (fun ls hl => ?_)
      exact w_X7_copy_145 hC _ hF hw (lv_sub hl [1, 4, 5, 6, 0] rfl)
    · have hF := ifN hF b1
      refine lv_aload_n hC.1 hC.2.1 dX7_copy_115 rfl (lv_at hl 0 rfl) ?_
      refine g7_moved hC hw q4_143 dX7_copy_116 ?_
      refine lv_iload hC.1 hC.2.1 dX7_copy_119 (lv_at hl 6 rfl) ?_
      refine lv_aload_n hC.1 hC.2.1 dX7_copy_121 rfl (lv_at hl 0 rfl) ?_
      refine g7_rows hC hw q4_122 dX7_copy_122 ?_
      refine lv_bipush (v := (40 : Int32)) hC.1 hC.2.1 dX7_copy_125 (by decide) ?_
      refine lv_iload_n hC.1 hC.2.1 dX7_copy_127 rfl (lv_at hl 1 rfl) ?_
      refine lv_imul hC.1 hC.2.1 dX7_copy_128 ?_
      refine lv_iload_n hC.1 hC.2.1 dX7_copy_129 rfl (lv_at hl 2 rfl) ?_
      refine lv_iadd hC.1 hC.2.1 dX7_copy_130 ?_
      refine lv_iload hC.1 hC.2.1 dX7_copy_131 (lv_at hl 6 rfl) ?_
      refine lv_iadd hC.1 hC.2.1 dX7_copy_133 ?_
      obtain ⟨n2, hF⟩ := ifO hF
      refine r_iald hC.1 hC.2.1 hw (rfl : kd 87 = 1) n2 dX7_copy_134 ?_
      obtain ⟨n3, hF⟩ := ifO hF
      refine r_iast hC.1 hC.2.1 hw (rfl : kd 100 = 1) n3 dX7_copy_135 (fun H locs hw => ?_)
      obtain ⟨M4, hw, hF⟩ := lt1W hF hw
      refine lv_iinc (v := (x6 + (1 : Int32))) (lv' := [(6, .int (x6 + (1 : Int32))), (0, .ref (ad G 86)), (1, .int x1), (2, .int x2), (3, .int x3), (4, .int x4), (5, .int x5)]) hC.1 hC.2.1 dX7_copy_136 hl (k := 6) rfl rfl (by decide) rfl (fun ls hl => ?_)
      refine lv_goto (tgt := 108) hC.1 hC.2.1 dX7_copy_139 (by decide) ?_
      exact ih hF hw (lv_sub hl [1, 2, 3, 4, 5, 6, 0] rfl)
def F_X7_copy (fu : Nat) (M : Mm) (x1 : Int32) (x2 : Int32) (x3 : Int32) (x4 : Int32) (x5 : Int32) : Option (Int32 × Mm) :=
  ob1 (F_X7_isRow fu M x1) (fun r2 =>
  if r2 = 0 then
    some ((-1 : Int32), M)
  else
    ob1 (F_X7_isRow fu M x3) (fun r5 =>
    if r5 = 0 then
      some ((-1 : Int32), M)
    else
      if 0 ≤ x5 then
        if x1 < 0 ∨ ln 88 ≤ x1.toNatClampNeg then none else (
        if (M.1 88 x1.toNatClampNeg) = (-9 : Int32) then
          F_X7_copy_49 fu M
        else
          if x3 < 0 ∨ ln 88 ≤ x3.toNatClampNeg then none else (
          if (M.1 88 x3.toNatClampNeg) = (-9 : Int32) then
            F_X7_copy_49 fu M
          else
            if x2 < 0 then
              F_X7_copy_99 fu M
            else
              if x4 < 0 then
                F_X7_copy_99 fu M
              else
                if x1 < 0 ∨ ln 88 ≤ x1.toNatClampNeg then none else (
                if 0 < (lg_cmp (x2.toInt64 + x5.toInt64) (M.1 88 x1.toNatClampNeg).toInt64) then
                  F_X7_copy_99 fu M
                else
                  if x3 < 0 ∨ ln 88 ≤ x3.toNatClampNeg then none else (
                  if (lg_cmp (x4.toInt64 + x5.toInt64) (M.1 88 x3.toNatClampNeg).toInt64) ≤ 0 then
                    F_X7_copy_108 fu fu M x1 x2 x3 x4 x5 (0 : Int32)
                  else
                    F_X7_copy_99 fu M))))
      else
        ob2 (F_X7_finds fu M (5 : Int32)) (fun r19 M20 =>
        some (r19, M20))))
set_option maxRecDepth 100000 in
set_option maxHeartbeats 4000000 in
theorem c_X7_copy {l : Launch} {G : Gv} {fu : Nat} {M : Mm} {x1 : Int32} {x2 : Int32} {x3 : Int32} {x4 : Int32} {x5 : Int32} {r : Int32} {M' : Mm} (hF : F_X7_copy fu M x1 x2 x3 x4 x5 = some (r, M')) : Met l yX7_copy (.code yX7_copy cX7_copy 7 (some .int) :: zU) rm_X7_copy (va_Pc [.ref (ad G 86), .int x1, .int x2, .int x3, .int x4, .int x5] (Wd G M)) (QI G r M') 0 0 (zA G) := by
  refine zMet (by decide) rfl (Nat.le_of_ble_eq_true rfl) ?_
  intro p e s m below meth c hC hw ls hl
  have hl : lv_has ls 7 [(0, .ref (ad G 86)), (1, .int x1), (2, .int x2), (3, .int x3), (4, .int x4), (5, .int x5)] := hl
  unfold F_X7_copy at hF
  refine lv_iload_n hC.1 hC.2.1 dX7_copy_0 rfl (lv_at hl 1 rfl) ?_
  obtain ⟨r2, h1, hF⟩ := ob1S hF
  refine k_Si (As := [.int x1]) (rest := []) hC hw (c_X7_isRow (M := M) h1) ys_X7_isRow q4_239 ⟨rfl, rfl⟩ ⟨Nat.le_of_ble_eq_true rfl, Nat.le_of_ble_eq_true rfl⟩ ⟨Nat.zero_le _, Nat.zero_le _⟩ rfl rfl (Nat.le_of_ble_eq_true rfl) hl dX7_copy_1 (fun H locs hw => ?_)
  refine lv_if_eq (tgt := 14) hC.1 hC.2.1 dX7_copy_4 (by decide) (fun b3 => ?_) (fun b3 => ?_)
  · have hF := ifP hF b3
    refine lv_iconst (v := (-1 : Int32)) hC.1 hC.2.1 dX7_copy_14 (by decide) ?_
    exact r_iretE hC hw hF dX7_copy_15
  · have hF := ifN hF b3
    refine lv_iload_n hC.1 hC.2.1 dX7_copy_7 rfl (lv_at hl 3 rfl) ?_
    obtain ⟨r5, h4, hF⟩ := ob1S hF
    refine k_Si (As := [.int x3]) (rest := []) hC hw (c_X7_isRow (M := M) h4) ys_X7_isRow q4_239 ⟨rfl, rfl⟩ ⟨Nat.le_of_ble_eq_true rfl, Nat.le_of_ble_eq_true rfl⟩ ⟨Nat.zero_le _, Nat.zero_le _⟩ rfl rfl (Nat.le_of_ble_eq_true rfl) hl dX7_copy_8 (fun H locs hw => ?_)
    refine lv_if_ne (tgt := 16) hC.1 hC.2.1 dX7_copy_11 (by decide) (fun b6 => ?_) (fun b6 => ?_)
    · have hF := ifN hF b6
      refine lv_iload hC.1 hC.2.1 dX7_copy_16 (lv_at hl 5 rfl) ?_
      refine lv_if_ge (tgt := 27) hC.1 hC.2.1 dX7_copy_18 (by decide) (fun b7 => ?_) (fun b7 => ?_)
      · have hF := ifP hF b7
        refine lv_aload_n hC.1 hC.2.1 dX7_copy_27 rfl (lv_at hl 0 rfl) ?_
        refine g7_rowLong hC hw q4_123 dX7_copy_28 ?_
        refine lv_iload_n hC.1 hC.2.1 dX7_copy_31 rfl (lv_at hl 1 rfl) ?_
        obtain ⟨n8, hF⟩ := ifO hF
        refine r_iald hC.1 hC.2.1 hw (rfl : kd 88 = 1) n8 dX7_copy_32 ?_
        refine lv_bipush (v := (-9 : Int32)) hC.1 hC.2.1 dX7_copy_33 (by decide) ?_
        refine lv_icmp_eq (tgt := 49) hC.1 hC.2.1 dX7_copy_35 (by decide) (fun b9 => ?_) (fun b9 => ?_)
        · have hF := ifP hF b9
          exact w_X7_copy_49 hC hF hw (lv_sub hl [0] rfl)
        · have hF := ifN hF b9
          refine lv_aload_n hC.1 hC.2.1 dX7_copy_38 rfl (lv_at hl 0 rfl) ?_
          refine g7_rowLong hC hw q4_123 dX7_copy_39 ?_
          refine lv_iload_n hC.1 hC.2.1 dX7_copy_42 rfl (lv_at hl 3 rfl) ?_
          obtain ⟨n10, hF⟩ := ifO hF
          refine r_iald hC.1 hC.2.1 hw (rfl : kd 88 = 1) n10 dX7_copy_43 ?_
          refine lv_bipush (v := (-9 : Int32)) hC.1 hC.2.1 dX7_copy_44 (by decide) ?_
          refine lv_icmp_ne (tgt := 55) hC.1 hC.2.1 dX7_copy_46 (by decide) (fun b11 => ?_) (fun b11 => ?_)
          · have hF := ifN hF b11
            refine lv_iload_n hC.1 hC.2.1 dX7_copy_55 rfl (lv_at hl 2 rfl) ?_
            refine lv_if_lt (tgt := 99) hC.1 hC.2.1 dX7_copy_56 (by decide) (fun b12 => ?_) (fun b12 => ?_)
            · have hF := ifP hF b12
              exact w_X7_copy_99 hC hF hw (lv_sub hl [0] rfl)
            · have hF := ifN hF b12
              refine lv_iload hC.1 hC.2.1 dX7_copy_59 (lv_at hl 4 rfl) ?_
              refine lv_if_lt (tgt := 99) hC.1 hC.2.1 dX7_copy_61 (by decide) (fun b13 => ?_) (fun b13 => ?_)
              · have hF := ifP hF b13
                exact w_X7_copy_99 hC hF hw (lv_sub hl [0] rfl)
              · have hF := ifN hF b13
                refine lv_iload_n hC.1 hC.2.1 dX7_copy_64 rfl (lv_at hl 2 rfl) ?_
                refine lv_i2l hC.1 hC.2.1 dX7_copy_65 rfl ?_
                refine lv_iload hC.1 hC.2.1 dX7_copy_66 (lv_at hl 5 rfl) ?_
                refine lv_i2l hC.1 hC.2.1 dX7_copy_68 rfl ?_
                refine lv_ladd hC.1 hC.2.1 dX7_copy_69 ?_
                refine lv_aload_n hC.1 hC.2.1 dX7_copy_70 rfl (lv_at hl 0 rfl) ?_
                refine g7_rowLong hC hw q4_123 dX7_copy_71 ?_
                refine lv_iload_n hC.1 hC.2.1 dX7_copy_74 rfl (lv_at hl 1 rfl) ?_
                obtain ⟨n14, hF⟩ := ifO hF
                refine r_iald hC.1 hC.2.1 hw (rfl : kd 88 = 1) n14 dX7_copy_75 ?_
                refine lv_i2l hC.1 hC.2.1 dX7_copy_76 rfl ?_
                refine W.lcmp hC.1 hC.2.1 dX7_copy_77 ?_
                refine lv_if_gt (tgt := 99) hC.1 hC.2.1 dX7_copy_78 (by decide) (fun b15 => ?_) (fun b15 => ?_)
                · have hF := ifP hF b15
                  exact w_X7_copy_99 hC hF hw (lv_sub hl [0] rfl)
                · have hF := ifN hF b15
                  refine lv_iload hC.1 hC.2.1 dX7_copy_81 (lv_at hl 4 rfl) ?_
                  refine lv_i2l hC.1 hC.2.1 dX7_copy_83 rfl ?_
                  refine lv_iload hC.1 hC.2.1 dX7_copy_84 (lv_at hl 5 rfl) ?_
                  refine lv_i2l hC.1 hC.2.1 dX7_copy_86 rfl ?_
                  refine lv_ladd hC.1 hC.2.1 dX7_copy_87 ?_
                  refine lv_aload_n hC.1 hC.2.1 dX7_copy_88 rfl (lv_at hl 0 rfl) ?_
                  refine g7_rowLong hC hw q4_123 dX7_copy_89 ?_
                  refine lv_iload_n hC.1 hC.2.1 dX7_copy_92 rfl (lv_at hl 3 rfl) ?_
                  obtain ⟨n16, hF⟩ := ifO hF
                  refine r_iald hC.1 hC.2.1 hw (rfl : kd 88 = 1) n16 dX7_copy_93 ?_
                  refine lv_i2l hC.1 hC.2.1 dX7_copy_94 rfl ?_
                  refine W.lcmp hC.1 hC.2.1 dX7_copy_95 ?_
                  refine lv_if_le (tgt := 105) hC.1 hC.2.1 dX7_copy_96 (by decide) (fun b17 => ?_) (fun b17 => ?_)
                  · have hF := ifP hF b17
                    refine lv_iconst (v := (0 : Int32)) hC.1 hC.2.1 dX7_copy_105 (by decide) ?_
                    refine lv_istore (lv' := [(6, .int (0 : Int32)), (0, .ref (ad G 86)), (1, .int x1), (2, .int x2), (3, .int x3), (4, .int x4), (5, .int x5)]) hC.1 hC.2.1 dX7_copy_106 hl (by decide) rfl (fun ls hl => ?_)
                    exact w_X7_copy_108 hC _ hF hw (lv_sub hl [1, 2, 3, 4, 5, 6, 0] rfl)
                  · have hF := ifN hF b17
                    exact w_X7_copy_99 hC hF hw (lv_sub hl [0] rfl)
          · have hF := ifP hF b11
            exact w_X7_copy_49 hC hF hw (lv_sub hl [0] rfl)
      · have hF := ifN hF b7
        refine lv_aload_n hC.1 hC.2.1 dX7_copy_21 rfl (lv_at hl 0 rfl) ?_
        refine lv_iconst (v := (5 : Int32)) hC.1 hC.2.1 dX7_copy_22 (by decide) ?_
        obtain ⟨r19, M20, h18, hF⟩ := ob2S hF
        refine k_Vi (As := [.int (5 : Int32)]) (rest := []) hC hw (c_X7_finds (M := M) h18) RC_X yv_X7_finds q5_6 ⟨rfl, rfl⟩ ⟨Nat.le_of_ble_eq_true rfl, Nat.le_of_ble_eq_true rfl⟩ ⟨Nat.zero_le _, Nat.zero_le _⟩ rfl rfl (Nat.le_of_ble_eq_true rfl) hl dX7_copy_23 (fun H locs hw => ?_)
        exact r_iretE hC hw hF dX7_copy_26
    · have hF := ifP hF b6
      refine lv_iconst (v := (-1 : Int32)) hC.1 hC.2.1 dX7_copy_14 (by decide) ?_
      exact r_iretE hC hw hF dX7_copy_15
abbrev rm_X7_mean : Room := { frames := 2, cells := 0, slots := 0, locals := 45 }
theorem yv_X7_mean : YV yX7_mean cX7_mean 5 (some .int) 1 RX7 := ⟨⟨q5_35, q5_36, q1_8, q5_37⟩, by decide +kernel⟩
theorem dX7_mean_0 : decode cX7_mean 0 = .ok (.iload_n 1, 1) := by decide +kernel
theorem dX7_mean_1 : decode cX7_mean 1 = .ok (.invokestatic 114, 3) := by decide +kernel
theorem dX7_mean_4 : decode cX7_mean 4 = .ok (.ifCond .ne 5, 3) := by decide +kernel
theorem dX7_mean_7 : decode cX7_mean 7 = .ok (.iconst (-1), 1) := by decide +kernel
theorem dX7_mean_8 : decode cX7_mean 8 = .ok (.ireturn, 1) := by decide +kernel
theorem dX7_mean_9 : decode cX7_mean 9 = .ok (.aload_n 0, 1) := by decide +kernel
theorem dX7_mean_10 : decode cX7_mean 10 = .ok (.getfield 13, 3) := by decide +kernel
theorem dX7_mean_13 : decode cX7_mean 13 = .ok (.iload_n 1, 1) := by decide +kernel
theorem dX7_mean_14 : decode cX7_mean 14 = .ok (.iaload, 1) := by decide +kernel
theorem dX7_mean_15 : decode cX7_mean 15 = .ok (.bipush (-9), 2) := by decide +kernel
theorem dX7_mean_17 : decode cX7_mean 17 = .ok (.if_icmp .ne 9, 3) := by decide +kernel
theorem dX7_mean_20 : decode cX7_mean 20 = .ok (.aload_n 0, 1) := by decide +kernel
theorem dX7_mean_21 : decode cX7_mean 21 = .ok (.iconst 1, 1) := by decide +kernel
theorem dX7_mean_22 : decode cX7_mean 22 = .ok (.invokevirtual 118, 3) := by decide +kernel
theorem dX7_mean_25 : decode cX7_mean 25 = .ok (.ireturn, 1) := by decide +kernel
theorem dX7_mean_26 : decode cX7_mean 26 = .ok (.aload_n 0, 1) := by decide +kernel
theorem dX7_mean_27 : decode cX7_mean 27 = .ok (.getfield 13, 3) := by decide +kernel
theorem dX7_mean_30 : decode cX7_mean 30 = .ok (.iload_n 1, 1) := by decide +kernel
theorem dX7_mean_31 : decode cX7_mean 31 = .ok (.iaload, 1) := by decide +kernel
theorem dX7_mean_32 : decode cX7_mean 32 = .ok (.ifCond .ne 9, 3) := by decide +kernel
theorem dX7_mean_35 : decode cX7_mean 35 = .ok (.aload_n 0, 1) := by decide +kernel
theorem dX7_mean_36 : decode cX7_mean 36 = .ok (.iconst 4, 1) := by decide +kernel
theorem dX7_mean_37 : decode cX7_mean 37 = .ok (.invokevirtual 118, 3) := by decide +kernel
theorem dX7_mean_40 : decode cX7_mean 40 = .ok (.ireturn, 1) := by decide +kernel
theorem dX7_mean_41 : decode cX7_mean 41 = .ok (.lconst 0, 1) := by decide +kernel
theorem dX7_mean_42 : decode cX7_mean 42 = .ok (.lstore_n 2, 1) := by decide +kernel
theorem dX7_mean_43 : decode cX7_mean 43 = .ok (.iconst 0, 1) := by decide +kernel
theorem dX7_mean_44 : decode cX7_mean 44 = .ok (.istore 4, 2) := by decide +kernel
theorem dX7_mean_46 : decode cX7_mean 46 = .ok (.iload 4, 2) := by decide +kernel
theorem dX7_mean_48 : decode cX7_mean 48 = .ok (.aload_n 0, 1) := by decide +kernel
theorem dX7_mean_49 : decode cX7_mean 49 = .ok (.getfield 13, 3) := by decide +kernel
theorem dX7_mean_52 : decode cX7_mean 52 = .ok (.iload_n 1, 1) := by decide +kernel
theorem dX7_mean_53 : decode cX7_mean 53 = .ok (.iaload, 1) := by decide +kernel
theorem dX7_mean_54 : decode cX7_mean 54 = .ok (.if_icmp .ge 25, 3) := by decide +kernel
theorem dX7_mean_57 : decode cX7_mean 57 = .ok (.lload_n 2, 1) := by decide +kernel
theorem dX7_mean_58 : decode cX7_mean 58 = .ok (.aload_n 0, 1) := by decide +kernel
theorem dX7_mean_59 : decode cX7_mean 59 = .ok (.getfield 7, 3) := by decide +kernel
theorem dX7_mean_62 : decode cX7_mean 62 = .ok (.bipush 40, 2) := by decide +kernel
theorem dX7_mean_64 : decode cX7_mean 64 = .ok (.iload_n 1, 1) := by decide +kernel
theorem dX7_mean_65 : decode cX7_mean 65 = .ok (.imul, 1) := by decide +kernel
theorem dX7_mean_66 : decode cX7_mean 66 = .ok (.iload 4, 2) := by decide +kernel
theorem dX7_mean_68 : decode cX7_mean 68 = .ok (.iadd, 1) := by decide +kernel
theorem dX7_mean_69 : decode cX7_mean 69 = .ok (.iaload, 1) := by decide +kernel
theorem dX7_mean_70 : decode cX7_mean 70 = .ok (.i2l, 1) := by decide +kernel
theorem dX7_mean_71 : decode cX7_mean 71 = .ok (.ladd, 1) := by decide +kernel
theorem dX7_mean_72 : decode cX7_mean 72 = .ok (.lstore_n 2, 1) := by decide +kernel
theorem dX7_mean_73 : decode cX7_mean 73 = .ok (.iinc 4 1, 3) := by decide +kernel
theorem dX7_mean_76 : decode cX7_mean 76 = .ok (.goto (-30), 3) := by decide +kernel
theorem dX7_mean_79 : decode cX7_mean 79 = .ok (.aload_n 0, 1) := by decide +kernel
theorem dX7_mean_80 : decode cX7_mean 80 = .ok (.lload_n 2, 1) := by decide +kernel
theorem dX7_mean_81 : decode cX7_mean 81 = .ok (.aload_n 0, 1) := by decide +kernel
theorem dX7_mean_82 : decode cX7_mean 82 = .ok (.getfield 13, 3) := by decide +kernel
theorem dX7_mean_85 : decode cX7_mean 85 = .ok (.iload_n 1, 1) := by decide +kernel
theorem dX7_mean_86 : decode cX7_mean 86 = .ok (.iaload, 1) := by decide +kernel
theorem dX7_mean_87 : decode cX7_mean 87 = .ok (.i2l, 1) := by decide +kernel
theorem dX7_mean_88 : decode cX7_mean 88 = .ok (.ldiv, 1) := by decide +kernel
theorem dX7_mean_89 : decode cX7_mean 89 = .ok (.l2i, 1) := by decide +kernel
theorem dX7_mean_90 : decode cX7_mean 90 = .ok (.invokevirtual 126, 3) := by decide +kernel
theorem dX7_mean_93 : decode cX7_mean 93 = .ok (.ireturn, 1) := by decide +kernel
def F_X7_mean_46 (fu : Nat) : Nat → Mm → Int32 → Int64 → Int32 → Option (Int32 × Mm)
  | 0, _, _, _, _ => none
  | n + 1, M, x1, x2, x4 =>
    if x1 < 0 ∨ ln 88 ≤ x1.toNatClampNeg then none else (
    if (M.1 88 x1.toNatClampNeg) ≤ x4 then
      if x1 < 0 ∨ ln 88 ≤ x1.toNatClampNeg then none else (
      if (M.1 88 x1.toNatClampNeg).toInt64 = 0 then none else (
      ob2 (F_X7_tells fu M (x2 / (M.1 88 x1.toNatClampNeg).toInt64).toInt32) (fun r6 M7 =>
      some (r6, M7))))
    else
      if (((40 : Int32) * x1) + x4) < 0 ∨ ln 87 ≤ (((40 : Int32) * x1) + x4).toNatClampNeg then none else (
      lt1 (x2 + (M.1 87 (((40 : Int32) * x1) + x4).toNatClampNeg).toInt64) (fun y9 =>
      F_X7_mean_46 fu n M x1 y9 (x4 + (1 : Int32)))))
set_option maxRecDepth 100000 in
set_option maxHeartbeats 4000000 in
theorem w_X7_mean_46 {p : Program} {l : Launch} {e : Env} {s : State} {m : MethodId} {args : Array Value} {below : List Frame} {meth : Method} {c : Code} {G : Gv} (hC : Cx p s m args meth c cX7_mean 5 (some .int) RX7) {fu : Nat} {r : Int32} {M' : Mm} : ∀ (n : Nat) {x1 : Int32} {x2 : Int64} {x4 : Int32} {M : Mm} {H : Heap} {locs : List Loc} {ls : Array Slot}, F_X7_mean_46 fu n M x1 x2 x4 = some (r, M') → St G s H locs M → lv_has ls 5 [(0, .ref (ad G 86)), (1, .int x1), (2, .long x2), (4, .int x4)] → W p l e rm_X7_mean s m args below meth c H locs 0 0 (MQ below (QI G r M') args s 0 0 (zA G)) (F0 m 46 ls []) := by
  intro n
  induction n with
  | zero =>
    intro x1 x2 x4 M H locs ls hF hw hl
    cases hF
  | succ n ih =>
    intro x1 x2 x4 M H locs ls hF hw hl
    unfold F_X7_mean_46 at hF
    refine lv_iload hC.1 hC.2.1 dX7_mean_46 (lv_at hl 3 rfl) ?_
    refine lv_aload_n hC.1 hC.2.1 dX7_mean_48 rfl (lv_at hl 0 rfl) ?_
    refine g7_rowLong hC hw q4_123 dX7_mean_49 ?_
    refine lv_iload_n hC.1 hC.2.1 dX7_mean_52 rfl (lv_at hl 1 rfl) ?_
    obtain ⟨n1, hF⟩ := ifO hF
    refine r_iald hC.1 hC.2.1 hw (rfl : kd 88 = 1) n1 dX7_mean_53 ?_
    refine lv_icmp_ge (tgt := 79) hC.1 hC.2.1 dX7_mean_54 (by decide) (fun b2 => ?_) (fun b2 => ?_)
    · have hF := ifP hF b2
      refine lv_aload_n hC.1 hC.2.1 dX7_mean_79 rfl (lv_at hl 0 rfl) ?_
      refine lv_lload_n hC.1 hC.2.1 dX7_mean_80 rfl (lv_at hl 2 rfl) ?_
      refine lv_aload_n hC.1 hC.2.1 dX7_mean_81 rfl (lv_at hl 0 rfl) ?_
      refine g7_rowLong hC hw q4_123 dX7_mean_82 ?_
      refine lv_iload_n hC.1 hC.2.1 dX7_mean_85 rfl (lv_at hl 1 rfl) ?_
      obtain ⟨n3, hF⟩ := ifO hF
      refine r_iald hC.1 hC.2.1 hw (rfl : kd 88 = 1) n3 dX7_mean_86 ?_
      refine lv_i2l hC.1 hC.2.1 dX7_mean_87 rfl ?_
      obtain ⟨n4, hF⟩ := ifO hF
      refine lv_ldiv hC.1 hC.2.1 dX7_mean_88 n4 ?_
      refine lv_l2i hC.1 hC.2.1 dX7_mean_89 rfl ?_
      obtain ⟨r6, M7, h5, hF⟩ := ob2S hF
      refine k_Vi (As := [.int (x2 / (M.1 88 x1.toNatClampNeg).toInt64).toInt32]) (rest := []) hC hw (c_X7_tells (M := M) h5) RC_X yv_X7_tells q5_18 ⟨rfl, rfl⟩ ⟨Nat.le_of_ble_eq_true rfl, Nat.le_of_ble_eq_true rfl⟩ ⟨Nat.zero_le _, Nat.zero_le _⟩ rfl rfl (Nat.le_of_ble_eq_true rfl) hl dX7_mean_90 (fun H locs hw => ?_)
      exact r_iretE hC hw hF dX7_mean_93
    · have hF := ifN hF b2
      refine lv_lload_n hC.1 hC.2.1 dX7_mean_57 rfl (lv_at hl 2 rfl) ?_
      refine lv_aload_n hC.1 hC.2.1 dX7_mean_58 rfl (lv_at hl 0 rfl) ?_
      refine g7_rows hC hw q4_122 dX7_mean_59 ?_
      refine lv_bipush (v := (40 : Int32)) hC.1 hC.2.1 dX7_mean_62 (by decide) ?_
      refine lv_iload_n hC.1 hC.2.1 dX7_mean_64 rfl (lv_at hl 1 rfl) ?_
      refine lv_imul hC.1 hC.2.1 dX7_mean_65 ?_
      refine lv_iload hC.1 hC.2.1 dX7_mean_66 (lv_at hl 3 rfl) ?_
      refine lv_iadd hC.1 hC.2.1 dX7_mean_68 ?_
      obtain ⟨n8, hF⟩ := ifO hF
      refine r_iald hC.1 hC.2.1 hw (rfl : kd 87 = 1) n8 dX7_mean_69 ?_
      refine lv_i2l hC.1 hC.2.1 dX7_mean_70 rfl ?_
      refine lv_ladd hC.1 hC.2.1 dX7_mean_71 ?_
      refine lv_topl (fun y9 ey9 => ?_)
      have hF := lt1G hF ey9
      refine lv_lstore_n (lv' := [(2, .long y9), (0, .ref (ad G 86)), (1, .int x1), (4, .int x4)]) hC.1 hC.2.1 dX7_mean_72 rfl hl (by decide) rfl (fun ls hl => ?_)
      refine lv_iinc (v := (x4 + (1 : Int32))) (lv' := [(4, .int (x4 + (1 : Int32))), (2, .long y9), (0, .ref (ad G 86)), (1, .int x1)]) hC.1 hC.2.1 dX7_mean_73 hl (k := 3) rfl rfl (by decide) rfl (fun ls hl => ?_)
      refine lv_goto (tgt := 46) hC.1 hC.2.1 dX7_mean_76 (by decide) ?_
      exact ih hF hw (lv_sub hl [2, 3, 1, 0] rfl)
def F_X7_mean (fu : Nat) (M : Mm) (x1 : Int32) : Option (Int32 × Mm) :=
  ob1 (F_X7_isRow fu M x1) (fun r2 =>
  if r2 = 0 then
    some ((-1 : Int32), M)
  else
    if x1 < 0 ∨ ln 88 ≤ x1.toNatClampNeg then none else (
    if (M.1 88 x1.toNatClampNeg) = (-9 : Int32) then
      ob2 (F_X7_finds fu M (1 : Int32)) (fun r12 M13 =>
      some (r12, M13))
    else
      if x1 < 0 ∨ ln 88 ≤ x1.toNatClampNeg then none else (
      if (M.1 88 x1.toNatClampNeg) = 0 then
        ob2 (F_X7_finds fu M (4 : Int32)) (fun r9 M10 =>
        some (r9, M10))
      else
        F_X7_mean_46 fu fu M x1 (0 : Int64) (0 : Int32))))
set_option maxRecDepth 100000 in
set_option maxHeartbeats 4000000 in
theorem c_X7_mean {l : Launch} {G : Gv} {fu : Nat} {M : Mm} {x1 : Int32} {r : Int32} {M' : Mm} (hF : F_X7_mean fu M x1 = some (r, M')) : Met l yX7_mean (.code yX7_mean cX7_mean 5 (some .int) :: zU) rm_X7_mean (va_Pc [.ref (ad G 86), .int x1] (Wd G M)) (QI G r M') 0 0 (zA G) := by
  refine zMet (by decide) rfl (Nat.le_of_ble_eq_true rfl) ?_
  intro p e s m below meth c hC hw ls hl
  have hl : lv_has ls 5 [(0, .ref (ad G 86)), (1, .int x1)] := hl
  unfold F_X7_mean at hF
  refine lv_iload_n hC.1 hC.2.1 dX7_mean_0 rfl (lv_at hl 1 rfl) ?_
  obtain ⟨r2, h1, hF⟩ := ob1S hF
  refine k_Si (As := [.int x1]) (rest := []) hC hw (c_X7_isRow (M := M) h1) ys_X7_isRow q4_239 ⟨rfl, rfl⟩ ⟨Nat.le_of_ble_eq_true rfl, Nat.le_of_ble_eq_true rfl⟩ ⟨Nat.zero_le _, Nat.zero_le _⟩ rfl rfl (Nat.le_of_ble_eq_true rfl) hl dX7_mean_1 (fun H locs hw => ?_)
  refine lv_if_ne (tgt := 9) hC.1 hC.2.1 dX7_mean_4 (by decide) (fun b3 => ?_) (fun b3 => ?_)
  · have hF := ifN hF b3
    refine lv_aload_n hC.1 hC.2.1 dX7_mean_9 rfl (lv_at hl 0 rfl) ?_
    refine g7_rowLong hC hw q4_123 dX7_mean_10 ?_
    refine lv_iload_n hC.1 hC.2.1 dX7_mean_13 rfl (lv_at hl 1 rfl) ?_
    obtain ⟨n4, hF⟩ := ifO hF
    refine r_iald hC.1 hC.2.1 hw (rfl : kd 88 = 1) n4 dX7_mean_14 ?_
    refine lv_bipush (v := (-9 : Int32)) hC.1 hC.2.1 dX7_mean_15 (by decide) ?_
    refine lv_icmp_ne (tgt := 26) hC.1 hC.2.1 dX7_mean_17 (by decide) (fun b5 => ?_) (fun b5 => ?_)
    · have hF := ifN hF b5
      refine lv_aload_n hC.1 hC.2.1 dX7_mean_26 rfl (lv_at hl 0 rfl) ?_
      refine g7_rowLong hC hw q4_123 dX7_mean_27 ?_
      refine lv_iload_n hC.1 hC.2.1 dX7_mean_30 rfl (lv_at hl 1 rfl) ?_
      obtain ⟨n6, hF⟩ := ifO hF
      refine r_iald hC.1 hC.2.1 hw (rfl : kd 88 = 1) n6 dX7_mean_31 ?_
      refine lv_if_ne (tgt := 41) hC.1 hC.2.1 dX7_mean_32 (by decide) (fun b7 => ?_) (fun b7 => ?_)
      · have hF := ifN hF b7
        refine lv_lconst (v := (0 : Int64)) hC.1 hC.2.1 dX7_mean_41 (by decide) ?_
        refine lv_lstore_n (lv' := [(2, .long (0 : Int64)), (0, .ref (ad G 86)), (1, .int x1)]) hC.1 hC.2.1 dX7_mean_42 rfl hl (by decide) rfl (fun ls hl => ?_)
        refine lv_iconst (v := (0 : Int32)) hC.1 hC.2.1 dX7_mean_43 (by decide) ?_
        refine lv_istore (lv' := [(4, .int (0 : Int32)), (2, .long (0 : Int64)), (0, .ref (ad G 86)), (1, .int x1)]) hC.1 hC.2.1 dX7_mean_44 hl (by decide) rfl (fun ls hl => ?_)
        exact w_X7_mean_46 hC _ hF hw (lv_sub hl [2, 3, 1, 0] rfl)
      · have hF := ifP hF b7
        refine lv_aload_n hC.1 hC.2.1 dX7_mean_35 rfl (lv_at hl 0 rfl) ?_
        refine lv_iconst (v := (4 : Int32)) hC.1 hC.2.1 dX7_mean_36 (by decide) ?_
        obtain ⟨r9, M10, h8, hF⟩ := ob2S hF
        refine k_Vi (As := [.int (4 : Int32)]) (rest := []) hC hw (c_X7_finds (M := M) h8) RC_X yv_X7_finds q5_6 ⟨rfl, rfl⟩ ⟨Nat.le_of_ble_eq_true rfl, Nat.le_of_ble_eq_true rfl⟩ ⟨Nat.zero_le _, Nat.zero_le _⟩ rfl rfl (Nat.le_of_ble_eq_true rfl) hl dX7_mean_37 (fun H locs hw => ?_)
        exact r_iretE hC hw hF dX7_mean_40
    · have hF := ifP hF b5
      refine lv_aload_n hC.1 hC.2.1 dX7_mean_20 rfl (lv_at hl 0 rfl) ?_
      refine lv_iconst (v := (1 : Int32)) hC.1 hC.2.1 dX7_mean_21 (by decide) ?_
      obtain ⟨r12, M13, h11, hF⟩ := ob2S hF
      refine k_Vi (As := [.int (1 : Int32)]) (rest := []) hC hw (c_X7_finds (M := M) h11) RC_X yv_X7_finds q5_6 ⟨rfl, rfl⟩ ⟨Nat.le_of_ble_eq_true rfl, Nat.le_of_ble_eq_true rfl⟩ ⟨Nat.zero_le _, Nat.zero_le _⟩ rfl rfl (Nat.le_of_ble_eq_true rfl) hl dX7_mean_22 (fun H locs hw => ?_)
      exact r_iretE hC hw hF dX7_mean_25
  · have hF := ifP hF b3
    refine lv_iconst (v := (-1 : Int32)) hC.1 hC.2.1 dX7_mean_7 (by decide) ?_
    exact r_iretE hC hw hF dX7_mean_8
abbrev rm_X7_text : Room := { frames := 2, cells := 0, slots := 0, locals := 45 }
theorem yv_X7_text : YV yX7_text cX7_text 4 (some .int) 2 RX7 := ⟨⟨q5_39, q5_40, q1_8, q5_41⟩, by decide +kernel⟩
theorem dX7_text_0 : decode cX7_text 0 = .ok (.iload_n 1, 1) := by decide +kernel
theorem dX7_text_1 : decode cX7_text 1 = .ok (.invokestatic 129, 3) := by decide +kernel
theorem dX7_text_4 : decode cX7_text 4 = .ok (.ifCond .eq 9, 3) := by decide +kernel
theorem dX7_text_7 : decode cX7_text 7 = .ok (.iload_n 2, 1) := by decide +kernel
theorem dX7_text_8 : decode cX7_text 8 = .ok (.bipush 60, 2) := by decide +kernel
theorem dX7_text_10 : decode cX7_text 10 = .ok (.if_icmp .le 5, 3) := by decide +kernel
theorem dX7_text_13 : decode cX7_text 13 = .ok (.iconst (-1), 1) := by decide +kernel
theorem dX7_text_14 : decode cX7_text 14 = .ok (.ireturn, 1) := by decide +kernel
theorem dX7_text_15 : decode cX7_text 15 = .ok (.iload_n 2, 1) := by decide +kernel
theorem dX7_text_16 : decode cX7_text 16 = .ok (.ifCond .ge 9, 3) := by decide +kernel
theorem dX7_text_19 : decode cX7_text 19 = .ok (.aload_n 0, 1) := by decide +kernel
theorem dX7_text_20 : decode cX7_text 20 = .ok (.iconst 5, 1) := by decide +kernel
theorem dX7_text_21 : decode cX7_text 21 = .ok (.invokevirtual 118, 3) := by decide +kernel
theorem dX7_text_24 : decode cX7_text 24 = .ok (.ireturn, 1) := by decide +kernel
theorem dX7_text_25 : decode cX7_text 25 = .ok (.aload_n 0, 1) := by decide +kernel
theorem dX7_text_26 : decode cX7_text 26 = .ok (.getfield 19, 3) := by decide +kernel
theorem dX7_text_29 : decode cX7_text 29 = .ok (.iload_n 1, 1) := by decide +kernel
theorem dX7_text_30 : decode cX7_text 30 = .ok (.iload_n 2, 1) := by decide +kernel
theorem dX7_text_31 : decode cX7_text 31 = .ok (.iastore, 1) := by decide +kernel
theorem dX7_text_32 : decode cX7_text 32 = .ok (.iconst 0, 1) := by decide +kernel
theorem dX7_text_33 : decode cX7_text 33 = .ok (.istore_n 3, 1) := by decide +kernel
theorem dX7_text_34 : decode cX7_text 34 = .ok (.iload_n 3, 1) := by decide +kernel
theorem dX7_text_35 : decode cX7_text 35 = .ok (.bipush 60, 2) := by decide +kernel
theorem dX7_text_37 : decode cX7_text 37 = .ok (.if_icmp .ge 22, 3) := by decide +kernel
theorem dX7_text_40 : decode cX7_text 40 = .ok (.aload_n 0, 1) := by decide +kernel
theorem dX7_text_41 : decode cX7_text 41 = .ok (.getfield 16, 3) := by decide +kernel
theorem dX7_text_44 : decode cX7_text 44 = .ok (.bipush 60, 2) := by decide +kernel
theorem dX7_text_46 : decode cX7_text 46 = .ok (.iload_n 1, 1) := by decide +kernel
theorem dX7_text_47 : decode cX7_text 47 = .ok (.imul, 1) := by decide +kernel
theorem dX7_text_48 : decode cX7_text 48 = .ok (.iload_n 3, 1) := by decide +kernel
theorem dX7_text_49 : decode cX7_text 49 = .ok (.iadd, 1) := by decide +kernel
theorem dX7_text_50 : decode cX7_text 50 = .ok (.bipush 32, 2) := by decide +kernel
theorem dX7_text_52 : decode cX7_text 52 = .ok (.iastore, 1) := by decide +kernel
theorem dX7_text_53 : decode cX7_text 53 = .ok (.iinc 3 1, 3) := by decide +kernel
theorem dX7_text_56 : decode cX7_text 56 = .ok (.goto (-22), 3) := by decide +kernel
theorem dX7_text_59 : decode cX7_text 59 = .ok (.iload_n 2, 1) := by decide +kernel
theorem dX7_text_60 : decode cX7_text 60 = .ok (.ireturn, 1) := by decide +kernel
def F_X7_text_34 (fu : Nat) : Nat → Mm → Int32 → Int32 → Int32 → Option (Int32 × Mm)
  | 0, _, _, _, _ => none
  | n + 1, M, x1, x2, x3 =>
    if (60 : Int32) ≤ x3 then
      some (x2, M)
    else
      if (((60 : Int32) * x1) + x3) < 0 ∨ ln 89 ≤ (((60 : Int32) * x1) + x3).toNatClampNeg then none else (
      lt1 (pI M 89 (((60 : Int32) * x1) + x3).toNatClampNeg (32 : Int32)) (fun M3 =>
      F_X7_text_34 fu n M3 x1 x2 (x3 + (1 : Int32))))
set_option maxRecDepth 100000 in
set_option maxHeartbeats 4000000 in
theorem w_X7_text_34 {p : Program} {l : Launch} {e : Env} {s : State} {m : MethodId} {args : Array Value} {below : List Frame} {meth : Method} {c : Code} {G : Gv} (hC : Cx p s m args meth c cX7_text 4 (some .int) RX7) {fu : Nat} {r : Int32} {M' : Mm} : ∀ (n : Nat) {x1 : Int32} {x2 : Int32} {x3 : Int32} {M : Mm} {H : Heap} {locs : List Loc} {ls : Array Slot}, F_X7_text_34 fu n M x1 x2 x3 = some (r, M') → St G s H locs M → lv_has ls 4 [(0, .ref (ad G 86)), (1, .int x1), (2, .int x2), (3, .int x3)] → W p l e rm_X7_text s m args below meth c H locs 0 0 (MQ below (QI G r M') args s 0 0 (zA G)) (F0 m 34 ls []) := by
  intro n
  induction n with
  | zero =>
    intro x1 x2 x3 M H locs ls hF hw hl
    cases hF
  | succ n ih =>
    intro x1 x2 x3 M H locs ls hF hw hl
    unfold F_X7_text_34 at hF
    refine lv_iload_n hC.1 hC.2.1 dX7_text_34 rfl (lv_at hl 3 rfl) ?_
    refine lv_bipush (v := (60 : Int32)) hC.1 hC.2.1 dX7_text_35 (by decide) ?_
    refine lv_icmp_ge (tgt := 59) hC.1 hC.2.1 dX7_text_37 (by decide) (fun b1 => ?_) (fun b1 => ?_)
    · have hF := ifP hF b1
      refine lv_iload_n hC.1 hC.2.1 dX7_text_59 rfl (lv_at hl 2 rfl) ?_
      exact r_iretE hC hw hF dX7_text_60
    · have hF := ifN hF b1
      refine lv_aload_n hC.1 hC.2.1 dX7_text_40 rfl (lv_at hl 0 rfl) ?_
      refine g7_texts hC hw q4_124 dX7_text_41 ?_
      refine lv_bipush (v := (60 : Int32)) hC.1 hC.2.1 dX7_text_44 (by decide) ?_
      refine lv_iload_n hC.1 hC.2.1 dX7_text_46 rfl (lv_at hl 1 rfl) ?_
      refine lv_imul hC.1 hC.2.1 dX7_text_47 ?_
      refine lv_iload_n hC.1 hC.2.1 dX7_text_48 rfl (lv_at hl 3 rfl) ?_
      refine lv_iadd hC.1 hC.2.1 dX7_text_49 ?_
      refine lv_bipush (v := (32 : Int32)) hC.1 hC.2.1 dX7_text_50 (by decide) ?_
      obtain ⟨n2, hF⟩ := ifO hF
      refine r_iast hC.1 hC.2.1 hw (rfl : kd 89 = 1) n2 dX7_text_52 (fun H locs hw => ?_)
      obtain ⟨M3, hw, hF⟩ := lt1W hF hw
      refine lv_iinc (v := (x3 + (1 : Int32))) (lv' := [(3, .int (x3 + (1 : Int32))), (0, .ref (ad G 86)), (1, .int x1), (2, .int x2)]) hC.1 hC.2.1 dX7_text_53 hl (k := 3) rfl rfl (by decide) rfl (fun ls hl => ?_)
      refine lv_goto (tgt := 34) hC.1 hC.2.1 dX7_text_56 (by decide) ?_
      exact ih hF hw (lv_sub hl [1, 2, 3, 0] rfl)
def F_X7_text (fu : Nat) (M : Mm) (x1 : Int32) (x2 : Int32) : Option (Int32 × Mm) :=
  ob1 (F_X7_isText fu M x1) (fun r2 =>
  if r2 = 0 then
    some ((-1 : Int32), M)
  else
    if x2 ≤ (60 : Int32) then
      if 0 ≤ x2 then
        if x1 < 0 ∨ ln 90 ≤ x1.toNatClampNeg then none else (
        lt1 (pI M 90 x1.toNatClampNeg x2) (fun M7 =>
        F_X7_text_34 fu fu M7 x1 x2 (0 : Int32)))
      else
        ob2 (F_X7_finds fu M (5 : Int32)) (fun r9 M10 =>
        some (r9, M10))
    else
      some ((-1 : Int32), M))
set_option maxRecDepth 100000 in
set_option maxHeartbeats 4000000 in
theorem c_X7_text {l : Launch} {G : Gv} {fu : Nat} {M : Mm} {x1 : Int32} {x2 : Int32} {r : Int32} {M' : Mm} (hF : F_X7_text fu M x1 x2 = some (r, M')) : Met l yX7_text (.code yX7_text cX7_text 4 (some .int) :: zU) rm_X7_text (va_Pc [.ref (ad G 86), .int x1, .int x2] (Wd G M)) (QI G r M') 0 0 (zA G) := by
  refine zMet (by decide) rfl (Nat.le_of_ble_eq_true rfl) ?_
  intro p e s m below meth c hC hw ls hl
  have hl : lv_has ls 4 [(0, .ref (ad G 86)), (1, .int x1), (2, .int x2)] := hl
  unfold F_X7_text at hF
  refine lv_iload_n hC.1 hC.2.1 dX7_text_0 rfl (lv_at hl 1 rfl) ?_
  obtain ⟨r2, h1, hF⟩ := ob1S hF
  refine k_Si (As := [.int x1]) (rest := []) hC hw (c_X7_isText (M := M) h1) ys_X7_isText q5_42 ⟨rfl, rfl⟩ ⟨Nat.le_of_ble_eq_true rfl, Nat.le_of_ble_eq_true rfl⟩ ⟨Nat.zero_le _, Nat.zero_le _⟩ rfl rfl (Nat.le_of_ble_eq_true rfl) hl dX7_text_1 (fun H locs hw => ?_)
  refine lv_if_eq (tgt := 13) hC.1 hC.2.1 dX7_text_4 (by decide) (fun b3 => ?_) (fun b3 => ?_)
  · have hF := ifP hF b3
    refine lv_iconst (v := (-1 : Int32)) hC.1 hC.2.1 dX7_text_13 (by decide) ?_
    exact r_iretE hC hw hF dX7_text_14
  · have hF := ifN hF b3
    refine lv_iload_n hC.1 hC.2.1 dX7_text_7 rfl (lv_at hl 2 rfl) ?_
    refine lv_bipush (v := (60 : Int32)) hC.1 hC.2.1 dX7_text_8 (by decide) ?_
    refine lv_icmp_le (tgt := 15) hC.1 hC.2.1 dX7_text_10 (by decide) (fun b4 => ?_) (fun b4 => ?_)
    · have hF := ifP hF b4
      refine lv_iload_n hC.1 hC.2.1 dX7_text_15 rfl (lv_at hl 2 rfl) ?_
      refine lv_if_ge (tgt := 25) hC.1 hC.2.1 dX7_text_16 (by decide) (fun b5 => ?_) (fun b5 => ?_)
      · have hF := ifP hF b5
        refine lv_aload_n hC.1 hC.2.1 dX7_text_25 rfl (lv_at hl 0 rfl) ?_
        refine g7_textLong hC hw q4_125 dX7_text_26 ?_
        refine lv_iload_n hC.1 hC.2.1 dX7_text_29 rfl (lv_at hl 1 rfl) ?_
        refine lv_iload_n hC.1 hC.2.1 dX7_text_30 rfl (lv_at hl 2 rfl) ?_
        obtain ⟨n6, hF⟩ := ifO hF
        refine r_iast hC.1 hC.2.1 hw (rfl : kd 90 = 1) n6 dX7_text_31 (fun H locs hw => ?_)
        obtain ⟨M7, hw, hF⟩ := lt1W hF hw
        refine lv_iconst (v := (0 : Int32)) hC.1 hC.2.1 dX7_text_32 (by decide) ?_
        refine lv_istore_n (lv' := [(3, .int (0 : Int32)), (0, .ref (ad G 86)), (1, .int x1), (2, .int x2)]) hC.1 hC.2.1 dX7_text_33 rfl hl (by decide) rfl (fun ls hl => ?_)
        exact w_X7_text_34 hC _ hF hw (lv_sub hl [1, 2, 3, 0] rfl)
      · have hF := ifN hF b5
        refine lv_aload_n hC.1 hC.2.1 dX7_text_19 rfl (lv_at hl 0 rfl) ?_
        refine lv_iconst (v := (5 : Int32)) hC.1 hC.2.1 dX7_text_20 (by decide) ?_
        obtain ⟨r9, M10, h8, hF⟩ := ob2S hF
        refine k_Vi (As := [.int (5 : Int32)]) (rest := []) hC hw (c_X7_finds (M := M) h8) RC_X yv_X7_finds q5_6 ⟨rfl, rfl⟩ ⟨Nat.le_of_ble_eq_true rfl, Nat.le_of_ble_eq_true rfl⟩ ⟨Nat.zero_le _, Nat.zero_le _⟩ rfl rfl (Nat.le_of_ble_eq_true rfl) hl dX7_text_21 (fun H locs hw => ?_)
        exact r_iretE hC hw hF dX7_text_24
    · have hF := ifN hF b4
      refine lv_iconst (v := (-1 : Int32)) hC.1 hC.2.1 dX7_text_13 (by decide) ?_
      exact r_iretE hC hw hF dX7_text_14
abbrev rm_X7_put : Room := { frames := 2, cells := 0, slots := 0, locals := 45 }
theorem yv_X7_put : YV yX7_put cX7_put 5 (some .int) 3 RX7 := ⟨⟨q5_47, q5_48, q1_8, q5_49⟩, by decide +kernel⟩
theorem dX7_put_0 : decode cX7_put 0 = .ok (.iload_n 1, 1) := by decide +kernel
theorem dX7_put_1 : decode cX7_put 1 = .ok (.invokestatic 129, 3) := by decide +kernel
theorem dX7_put_4 : decode cX7_put 4 = .ok (.ifCond .ne 5, 3) := by decide +kernel
theorem dX7_put_7 : decode cX7_put 7 = .ok (.iconst (-1), 1) := by decide +kernel
theorem dX7_put_8 : decode cX7_put 8 = .ok (.ireturn, 1) := by decide +kernel
theorem dX7_put_9 : decode cX7_put 9 = .ok (.aload_n 0, 1) := by decide +kernel
theorem dX7_put_10 : decode cX7_put 10 = .ok (.getfield 19, 3) := by decide +kernel
theorem dX7_put_13 : decode cX7_put 13 = .ok (.iload_n 1, 1) := by decide +kernel
theorem dX7_put_14 : decode cX7_put 14 = .ok (.iaload, 1) := by decide +kernel
theorem dX7_put_15 : decode cX7_put 15 = .ok (.bipush (-9), 2) := by decide +kernel
theorem dX7_put_17 : decode cX7_put 17 = .ok (.if_icmp .ne 9, 3) := by decide +kernel
theorem dX7_put_20 : decode cX7_put 20 = .ok (.aload_n 0, 1) := by decide +kernel
theorem dX7_put_21 : decode cX7_put 21 = .ok (.iconst 1, 1) := by decide +kernel
theorem dX7_put_22 : decode cX7_put 22 = .ok (.invokevirtual 118, 3) := by decide +kernel
theorem dX7_put_25 : decode cX7_put 25 = .ok (.ireturn, 1) := by decide +kernel
theorem dX7_put_26 : decode cX7_put 26 = .ok (.iload_n 2, 1) := by decide +kernel
theorem dX7_put_27 : decode cX7_put 27 = .ok (.i2l, 1) := by decide +kernel
theorem dX7_put_28 : decode cX7_put 28 = .ok (.lconst 0, 1) := by decide +kernel
theorem dX7_put_29 : decode cX7_put 29 = .ok (.aload_n 0, 1) := by decide +kernel
theorem dX7_put_30 : decode cX7_put 30 = .ok (.getfield 19, 3) := by decide +kernel
theorem dX7_put_33 : decode cX7_put 33 = .ok (.iload_n 1, 1) := by decide +kernel
theorem dX7_put_34 : decode cX7_put 34 = .ok (.iaload, 1) := by decide +kernel
theorem dX7_put_35 : decode cX7_put 35 = .ok (.iconst 1, 1) := by decide +kernel
theorem dX7_put_36 : decode cX7_put 36 = .ok (.isub, 1) := by decide +kernel
theorem dX7_put_37 : decode cX7_put 37 = .ok (.i2l, 1) := by decide +kernel
theorem dX7_put_38 : decode cX7_put 38 = .ok (.invokestatic 104, 3) := by decide +kernel
theorem dX7_put_41 : decode cX7_put 41 = .ok (.ifCond .ne 9, 3) := by decide +kernel
theorem dX7_put_44 : decode cX7_put 44 = .ok (.aload_n 0, 1) := by decide +kernel
theorem dX7_put_45 : decode cX7_put 45 = .ok (.iconst 2, 1) := by decide +kernel
theorem dX7_put_46 : decode cX7_put 46 = .ok (.invokevirtual 118, 3) := by decide +kernel
theorem dX7_put_49 : decode cX7_put 49 = .ok (.ireturn, 1) := by decide +kernel
theorem dX7_put_50 : decode cX7_put 50 = .ok (.aload_n 0, 1) := by decide +kernel
theorem dX7_put_51 : decode cX7_put 51 = .ok (.getfield 16, 3) := by decide +kernel
theorem dX7_put_54 : decode cX7_put 54 = .ok (.bipush 60, 2) := by decide +kernel
theorem dX7_put_56 : decode cX7_put 56 = .ok (.iload_n 1, 1) := by decide +kernel
theorem dX7_put_57 : decode cX7_put 57 = .ok (.imul, 1) := by decide +kernel
theorem dX7_put_58 : decode cX7_put 58 = .ok (.iload_n 2, 1) := by decide +kernel
theorem dX7_put_59 : decode cX7_put 59 = .ok (.iadd, 1) := by decide +kernel
theorem dX7_put_60 : decode cX7_put 60 = .ok (.iaload, 1) := by decide +kernel
theorem dX7_put_61 : decode cX7_put 61 = .ok (.istore 4, 2) := by decide +kernel
theorem dX7_put_63 : decode cX7_put 63 = .ok (.aload_n 0, 1) := by decide +kernel
theorem dX7_put_64 : decode cX7_put 64 = .ok (.getfield 16, 3) := by decide +kernel
theorem dX7_put_67 : decode cX7_put 67 = .ok (.bipush 60, 2) := by decide +kernel
theorem dX7_put_69 : decode cX7_put 69 = .ok (.iload_n 1, 1) := by decide +kernel
theorem dX7_put_70 : decode cX7_put 70 = .ok (.imul, 1) := by decide +kernel
theorem dX7_put_71 : decode cX7_put 71 = .ok (.iload_n 2, 1) := by decide +kernel
theorem dX7_put_72 : decode cX7_put 72 = .ok (.iadd, 1) := by decide +kernel
theorem dX7_put_73 : decode cX7_put 73 = .ok (.iload_n 3, 1) := by decide +kernel
theorem dX7_put_74 : decode cX7_put 74 = .ok (.i2b, 1) := by decide +kernel
theorem dX7_put_75 : decode cX7_put 75 = .ok (.iastore, 1) := by decide +kernel
theorem dX7_put_76 : decode cX7_put 76 = .ok (.iload 4, 2) := by decide +kernel
theorem dX7_put_78 : decode cX7_put 78 = .ok (.sipush 1000, 3) := by decide +kernel
theorem dX7_put_81 : decode cX7_put 81 = .ok (.iadd, 1) := by decide +kernel
theorem dX7_put_82 : decode cX7_put 82 = .ok (.ireturn, 1) := by decide +kernel
def F_X7_put (fu : Nat) (M : Mm) (x1 : Int32) (x2 : Int32) (x3 : Int32) : Option (Int32 × Mm) :=
  ob1 (F_X7_isText fu M x1) (fun r2 =>
  if r2 = 0 then
    some ((-1 : Int32), M)
  else
    if x1 < 0 ∨ ln 90 ≤ x1.toNatClampNeg then none else (
    if (M.1 90 x1.toNatClampNeg) = (-9 : Int32) then
      ob2 (F_X7_finds fu M (1 : Int32)) (fun r18 M19 =>
      some (r18, M19))
    else
      if x1 < 0 ∨ ln 90 ≤ x1.toNatClampNeg then none else (
      ob1 (F_X7_in fu M x2.toInt64 (0 : Int64) ((M.1 90 x1.toNatClampNeg) - (1 : Int32)).toInt64) (fun r8 =>
      if r8 = 0 then
        ob2 (F_X7_finds fu M (2 : Int32)) (fun r15 M16 =>
        some (r15, M16))
      else
        if (((60 : Int32) * x1) + x2) < 0 ∨ ln 89 ≤ (((60 : Int32) * x1) + x2).toNatClampNeg then none else (
        lt1 (M.1 89 (((60 : Int32) * x1) + x2).toNatClampNeg) (fun y11 =>
        if (((60 : Int32) * x1) + x2) < 0 ∨ ln 89 ≤ (((60 : Int32) * x1) + x2).toNatClampNeg then none else (
        lt1 (pI M 89 (((60 : Int32) * x1) + x2).toNatClampNeg x3.toInt8.toInt32) (fun M13 =>
        some ((y11 + (1000 : Int32)), M13)))))))))
set_option maxRecDepth 100000 in
set_option maxHeartbeats 4000000 in
theorem c_X7_put {l : Launch} {G : Gv} {fu : Nat} {M : Mm} {x1 : Int32} {x2 : Int32} {x3 : Int32} {r : Int32} {M' : Mm} (hF : F_X7_put fu M x1 x2 x3 = some (r, M')) : Met l yX7_put (.code yX7_put cX7_put 5 (some .int) :: zU) rm_X7_put (va_Pc [.ref (ad G 86), .int x1, .int x2, .int x3] (Wd G M)) (QI G r M') 0 0 (zA G) := by
  refine zMet (by decide) rfl (Nat.le_of_ble_eq_true rfl) ?_
  intro p e s m below meth c hC hw ls hl
  have hl : lv_has ls 5 [(0, .ref (ad G 86)), (1, .int x1), (2, .int x2), (3, .int x3)] := hl
  unfold F_X7_put at hF
  refine lv_iload_n hC.1 hC.2.1 dX7_put_0 rfl (lv_at hl 1 rfl) ?_
  obtain ⟨r2, h1, hF⟩ := ob1S hF
  refine k_Si (As := [.int x1]) (rest := []) hC hw (c_X7_isText (M := M) h1) ys_X7_isText q5_42 ⟨rfl, rfl⟩ ⟨Nat.le_of_ble_eq_true rfl, Nat.le_of_ble_eq_true rfl⟩ ⟨Nat.zero_le _, Nat.zero_le _⟩ rfl rfl (Nat.le_of_ble_eq_true rfl) hl dX7_put_1 (fun H locs hw => ?_)
  refine lv_if_ne (tgt := 9) hC.1 hC.2.1 dX7_put_4 (by decide) (fun b3 => ?_) (fun b3 => ?_)
  · have hF := ifN hF b3
    refine lv_aload_n hC.1 hC.2.1 dX7_put_9 rfl (lv_at hl 0 rfl) ?_
    refine g7_textLong hC hw q4_125 dX7_put_10 ?_
    refine lv_iload_n hC.1 hC.2.1 dX7_put_13 rfl (lv_at hl 1 rfl) ?_
    obtain ⟨n4, hF⟩ := ifO hF
    refine r_iald hC.1 hC.2.1 hw (rfl : kd 90 = 1) n4 dX7_put_14 ?_
    refine lv_bipush (v := (-9 : Int32)) hC.1 hC.2.1 dX7_put_15 (by decide) ?_
    refine lv_icmp_ne (tgt := 26) hC.1 hC.2.1 dX7_put_17 (by decide) (fun b5 => ?_) (fun b5 => ?_)
    · have hF := ifN hF b5
      refine lv_iload_n hC.1 hC.2.1 dX7_put_26 rfl (lv_at hl 2 rfl) ?_
      refine lv_i2l hC.1 hC.2.1 dX7_put_27 rfl ?_
      refine lv_lconst (v := (0 : Int64)) hC.1 hC.2.1 dX7_put_28 (by decide) ?_
      refine lv_aload_n hC.1 hC.2.1 dX7_put_29 rfl (lv_at hl 0 rfl) ?_
      refine g7_textLong hC hw q4_125 dX7_put_30 ?_
      refine lv_iload_n hC.1 hC.2.1 dX7_put_33 rfl (lv_at hl 1 rfl) ?_
      obtain ⟨n6, hF⟩ := ifO hF
      refine r_iald hC.1 hC.2.1 hw (rfl : kd 90 = 1) n6 dX7_put_34 ?_
      refine lv_iconst (v := (1 : Int32)) hC.1 hC.2.1 dX7_put_35 (by decide) ?_
      refine lv_isub hC.1 hC.2.1 dX7_put_36 ?_
      refine lv_i2l hC.1 hC.2.1 dX7_put_37 rfl ?_
      obtain ⟨r8, h7, hF⟩ := ob1S hF
      refine k_Si (As := [.long x2.toInt64, .long (0 : Int64), .long ((M.1 90 x1.toNatClampNeg) - (1 : Int32)).toInt64]) (rest := []) hC hw (c_X7_in (M := M) h7) ys_X7_in q5_3 ⟨rfl, rfl⟩ ⟨Nat.le_of_ble_eq_true rfl, Nat.le_of_ble_eq_true rfl⟩ ⟨Nat.zero_le _, Nat.zero_le _⟩ rfl rfl (Nat.le_of_ble_eq_true rfl) hl dX7_put_38 (fun H locs hw => ?_)
      refine lv_if_ne (tgt := 50) hC.1 hC.2.1 dX7_put_41 (by decide) (fun b9 => ?_) (fun b9 => ?_)
      · have hF := ifN hF b9
        refine lv_aload_n hC.1 hC.2.1 dX7_put_50 rfl (lv_at hl 0 rfl) ?_
        refine g7_texts hC hw q4_124 dX7_put_51 ?_
        refine lv_bipush (v := (60 : Int32)) hC.1 hC.2.1 dX7_put_54 (by decide) ?_
        refine lv_iload_n hC.1 hC.2.1 dX7_put_56 rfl (lv_at hl 1 rfl) ?_
        refine lv_imul hC.1 hC.2.1 dX7_put_57 ?_
        refine lv_iload_n hC.1 hC.2.1 dX7_put_58 rfl (lv_at hl 2 rfl) ?_
        refine lv_iadd hC.1 hC.2.1 dX7_put_59 ?_
        obtain ⟨n10, hF⟩ := ifO hF
        refine r_iald hC.1 hC.2.1 hw (rfl : kd 89 = 1) n10 dX7_put_60 ?_
        refine lv_topi (fun y11 ey11 => ?_)
        have hF := lt1G hF ey11
        refine lv_istore (lv' := [(4, .int y11), (0, .ref (ad G 86)), (1, .int x1), (2, .int x2), (3, .int x3)]) hC.1 hC.2.1 dX7_put_61 hl (by decide) rfl (fun ls hl => ?_)
        refine lv_aload_n hC.1 hC.2.1 dX7_put_63 rfl (lv_at hl 1 rfl) ?_
        refine g7_texts hC hw q4_124 dX7_put_64 ?_
        refine lv_bipush (v := (60 : Int32)) hC.1 hC.2.1 dX7_put_67 (by decide) ?_
        refine lv_iload_n hC.1 hC.2.1 dX7_put_69 rfl (lv_at hl 2 rfl) ?_
        refine lv_imul hC.1 hC.2.1 dX7_put_70 ?_
        refine lv_iload_n hC.1 hC.2.1 dX7_put_71 rfl (lv_at hl 3 rfl) ?_
        refine lv_iadd hC.1 hC.2.1 dX7_put_72 ?_
        refine lv_iload_n hC.1 hC.2.1 dX7_put_73 rfl (lv_at hl 4 rfl) ?_
        refine lv_i2b hC.1 hC.2.1 dX7_put_74 rfl ?_
        obtain ⟨n12, hF⟩ := ifO hF
        refine r_iast hC.1 hC.2.1 hw (rfl : kd 89 = 1) n12 dX7_put_75 (fun H locs hw => ?_)
        obtain ⟨M13, hw, hF⟩ := lt1W hF hw
        refine lv_iload hC.1 hC.2.1 dX7_put_76 (lv_at hl 0 rfl) ?_
        refine lv_sipush (v := (1000 : Int32)) hC.1 hC.2.1 dX7_put_78 (by decide) ?_
        refine lv_iadd hC.1 hC.2.1 dX7_put_81 ?_
        exact r_iretE hC hw hF dX7_put_82
      · have hF := ifP hF b9
        refine lv_aload_n hC.1 hC.2.1 dX7_put_44 rfl (lv_at hl 0 rfl) ?_
        refine lv_iconst (v := (2 : Int32)) hC.1 hC.2.1 dX7_put_45 (by decide) ?_
        obtain ⟨r15, M16, h14, hF⟩ := ob2S hF
        refine k_Vi (As := [.int (2 : Int32)]) (rest := []) hC hw (c_X7_finds (M := M) h14) RC_X yv_X7_finds q5_6 ⟨rfl, rfl⟩ ⟨Nat.le_of_ble_eq_true rfl, Nat.le_of_ble_eq_true rfl⟩ ⟨Nat.zero_le _, Nat.zero_le _⟩ rfl rfl (Nat.le_of_ble_eq_true rfl) hl dX7_put_46 (fun H locs hw => ?_)
        exact r_iretE hC hw hF dX7_put_49
    · have hF := ifP hF b5
      refine lv_aload_n hC.1 hC.2.1 dX7_put_20 rfl (lv_at hl 0 rfl) ?_
      refine lv_iconst (v := (1 : Int32)) hC.1 hC.2.1 dX7_put_21 (by decide) ?_
      obtain ⟨r18, M19, h17, hF⟩ := ob2S hF
      refine k_Vi (As := [.int (1 : Int32)]) (rest := []) hC hw (c_X7_finds (M := M) h17) RC_X yv_X7_finds q5_6 ⟨rfl, rfl⟩ ⟨Nat.le_of_ble_eq_true rfl, Nat.le_of_ble_eq_true rfl⟩ ⟨Nat.zero_le _, Nat.zero_le _⟩ rfl rfl (Nat.le_of_ble_eq_true rfl) hl dX7_put_22 (fun H locs hw => ?_)
      exact r_iretE hC hw hF dX7_put_25
  · have hF := ifP hF b3
    refine lv_iconst (v := (-1 : Int32)) hC.1 hC.2.1 dX7_put_7 (by decide) ?_
    exact r_iretE hC hw hF dX7_put_8
abbrev rm_X7_charAt : Room := { frames := 0, cells := 0, slots := 0, locals := 0 }
theorem yv_X7_charAt : YV yX7_charAt cX7_charAt 2 (some .int) 1 RX7 := ⟨⟨q5_64, qs_37, q1_8, q5_65⟩, by decide +kernel⟩
theorem dX7_charAt_0 : decode cX7_charAt 0 = .ok (.aload_n 0, 1) := by decide +kernel
theorem dX7_charAt_1 : decode cX7_charAt 1 = .ok (.getfield 132, 3) := by decide +kernel
theorem dX7_charAt_4 : decode cX7_charAt 4 = .ok (.aload_n 0, 1) := by decide +kernel
theorem dX7_charAt_5 : decode cX7_charAt 5 = .ok (.getfield 19, 3) := by decide +kernel
theorem dX7_charAt_8 : decode cX7_charAt 8 = .ok (.iload_n 1, 1) := by decide +kernel
theorem dX7_charAt_9 : decode cX7_charAt 9 = .ok (.iaload, 1) := by decide +kernel
theorem dX7_charAt_10 : decode cX7_charAt 10 = .ok (.if_icmp .ge 20, 3) := by decide +kernel
theorem dX7_charAt_13 : decode cX7_charAt 13 = .ok (.aload_n 0, 1) := by decide +kernel
theorem dX7_charAt_14 : decode cX7_charAt 14 = .ok (.getfield 16, 3) := by decide +kernel
theorem dX7_charAt_17 : decode cX7_charAt 17 = .ok (.bipush 60, 2) := by decide +kernel
theorem dX7_charAt_19 : decode cX7_charAt 19 = .ok (.iload_n 1, 1) := by decide +kernel
theorem dX7_charAt_20 : decode cX7_charAt 20 = .ok (.imul, 1) := by decide +kernel
theorem dX7_charAt_21 : decode cX7_charAt 21 = .ok (.aload_n 0, 1) := by decide +kernel
theorem dX7_charAt_22 : decode cX7_charAt 22 = .ok (.getfield 132, 3) := by decide +kernel
theorem dX7_charAt_25 : decode cX7_charAt 25 = .ok (.iadd, 1) := by decide +kernel
theorem dX7_charAt_26 : decode cX7_charAt 26 = .ok (.iaload, 1) := by decide +kernel
theorem dX7_charAt_27 : decode cX7_charAt 27 = .ok (.goto 5, 3) := by decide +kernel
theorem dX7_charAt_30 : decode cX7_charAt 30 = .ok (.bipush (-9), 2) := by decide +kernel
theorem dX7_charAt_32 : decode cX7_charAt 32 = .ok (.ireturn, 1) := by decide +kernel
def F_X7_charAt (fu : Nat) (M : Mm) (x1 : Int32) : Option Int32 :=
  if x1 < 0 ∨ ln 90 ≤ x1.toNatClampNeg then none else (
  if (M.1 90 x1.toNatClampNeg) ≤ (M.1 86 29) then
    some (-9 : Int32)
  else
    if (((60 : Int32) * x1) + (M.1 86 29)) < 0 ∨ ln 89 ≤ (((60 : Int32) * x1) + (M.1 86 29)).toNatClampNeg then none else (
    some (M.1 89 (((60 : Int32) * x1) + (M.1 86 29)).toNatClampNeg)))
set_option maxRecDepth 100000 in
set_option maxHeartbeats 4000000 in
theorem c_X7_charAt {l : Launch} {G : Gv} {fu : Nat} {M : Mm} {x1 : Int32} {r : Int32} (hF : F_X7_charAt fu M x1 = some r) : Met l yX7_charAt (.code yX7_charAt cX7_charAt 2 (some .int) :: zU) rm_X7_charAt (va_Pc [.ref (ad G 86), .int x1] (Wd G M)) (QI G r M) 0 0 (zA G) := by
  refine zMet (by decide) rfl (Nat.le_of_ble_eq_true rfl) ?_
  intro p e s m below meth c hC hw ls hl
  have hl : lv_has ls 2 [(0, .ref (ad G 86)), (1, .int x1)] := hl
  unfold F_X7_charAt at hF
  refine lv_aload_n hC.1 hC.2.1 dX7_charAt_0 rfl (lv_at hl 0 rfl) ?_
  refine g7_place hC hw q4_151 dX7_charAt_1 ?_
  refine lv_aload_n hC.1 hC.2.1 dX7_charAt_4 rfl (lv_at hl 0 rfl) ?_
  refine g7_textLong hC hw q4_125 dX7_charAt_5 ?_
  refine lv_iload_n hC.1 hC.2.1 dX7_charAt_8 rfl (lv_at hl 1 rfl) ?_
  obtain ⟨n1, hF⟩ := ifO hF
  refine r_iald hC.1 hC.2.1 hw (rfl : kd 90 = 1) n1 dX7_charAt_9 ?_
  refine lv_icmp_ge (tgt := 30) hC.1 hC.2.1 dX7_charAt_10 (by decide) (fun b2 => ?_) (fun b2 => ?_)
  · have hF := ifP hF b2
    refine lv_bipush (v := (-9 : Int32)) hC.1 hC.2.1 dX7_charAt_30 (by decide) ?_
    exact r_iretP hC hw hF dX7_charAt_32
  · have hF := ifN hF b2
    refine lv_aload_n hC.1 hC.2.1 dX7_charAt_13 rfl (lv_at hl 0 rfl) ?_
    refine g7_texts hC hw q4_124 dX7_charAt_14 ?_
    refine lv_bipush (v := (60 : Int32)) hC.1 hC.2.1 dX7_charAt_17 (by decide) ?_
    refine lv_iload_n hC.1 hC.2.1 dX7_charAt_19 rfl (lv_at hl 1 rfl) ?_
    refine lv_imul hC.1 hC.2.1 dX7_charAt_20 ?_
    refine lv_aload_n hC.1 hC.2.1 dX7_charAt_21 rfl (lv_at hl 0 rfl) ?_
    refine g7_place hC hw q4_151 dX7_charAt_22 ?_
    refine lv_iadd hC.1 hC.2.1 dX7_charAt_25 ?_
    obtain ⟨n3, hF⟩ := ifO hF
    refine r_iald hC.1 hC.2.1 hw (rfl : kd 89 = 1) n3 dX7_charAt_26 ?_
    refine lv_goto (tgt := 32) hC.1 hC.2.1 dX7_charAt_27 (by decide) ?_
    exact r_iretP hC hw hF dX7_charAt_32
abbrev rm_X7_skip : Room := { frames := 1, cells := 0, slots := 0, locals := 21 }
theorem yv_X7_skip : YV yX7_skip cX7_skip 2 none 1 RX7 := ⟨⟨q5_60, qs_36, q1_8, q5_61⟩, by decide +kernel⟩
theorem dX7_skip_0 : decode cX7_skip 0 = .ok (.aload_n 0, 1) := by decide +kernel
theorem dX7_skip_1 : decode cX7_skip 1 = .ok (.getfield 132, 3) := by decide +kernel
theorem dX7_skip_4 : decode cX7_skip 4 = .ok (.aload_n 0, 1) := by decide +kernel
theorem dX7_skip_5 : decode cX7_skip 5 = .ok (.getfield 19, 3) := by decide +kernel
theorem dX7_skip_8 : decode cX7_skip 8 = .ok (.iload_n 1, 1) := by decide +kernel
theorem dX7_skip_9 : decode cX7_skip 9 = .ok (.iaload, 1) := by decide +kernel
theorem dX7_skip_10 : decode cX7_skip 10 = .ok (.if_icmp .ge 26, 3) := by decide +kernel
theorem dX7_skip_13 : decode cX7_skip 13 = .ok (.aload_n 0, 1) := by decide +kernel
theorem dX7_skip_14 : decode cX7_skip 14 = .ok (.iload_n 1, 1) := by decide +kernel
theorem dX7_skip_15 : decode cX7_skip 15 = .ok (.invokevirtual 135, 3) := by decide +kernel
theorem dX7_skip_18 : decode cX7_skip 18 = .ok (.bipush 32, 2) := by decide +kernel
theorem dX7_skip_20 : decode cX7_skip 20 = .ok (.if_icmp .ne 16, 3) := by decide +kernel
theorem dX7_skip_23 : decode cX7_skip 23 = .ok (.aload_n 0, 1) := by decide +kernel
theorem dX7_skip_24 : decode cX7_skip 24 = .ok (.dup, 1) := by decide +kernel
theorem dX7_skip_25 : decode cX7_skip 25 = .ok (.getfield 132, 3) := by decide +kernel
theorem dX7_skip_28 : decode cX7_skip 28 = .ok (.iconst 1, 1) := by decide +kernel
theorem dX7_skip_29 : decode cX7_skip 29 = .ok (.iadd, 1) := by decide +kernel
theorem dX7_skip_30 : decode cX7_skip 30 = .ok (.putfield 132, 3) := by decide +kernel
theorem dX7_skip_33 : decode cX7_skip 33 = .ok (.goto (-33), 3) := by decide +kernel
theorem dX7_skip_36 : decode cX7_skip 36 = .ok (.return_, 1) := by decide +kernel
def F_X7_skip_0 (fu : Nat) : Nat → Mm → Int32 → Option Mm
  | 0, _, _ => none
  | n + 1, M, x1 =>
    if x1 < 0 ∨ ln 90 ≤ x1.toNatClampNeg then none else (
    if (M.1 90 x1.toNatClampNeg) ≤ (M.1 86 29) then
      some M
    else
      ob1 (F_X7_charAt fu M x1) (fun r4 =>
      if r4 = (32 : Int32) then
        lt1 (pI M 86 29 ((M.1 86 29) + (1 : Int32))) (fun M6 =>
        F_X7_skip_0 fu n M6 x1)
      else
        some M))
set_option maxRecDepth 100000 in
set_option maxHeartbeats 4000000 in
theorem w_X7_skip_0 {p : Program} {l : Launch} {e : Env} {s : State} {m : MethodId} {args : Array Value} {below : List Frame} {meth : Method} {c : Code} {G : Gv} (hC : Cx p s m args meth c cX7_skip 2 none RX7) {fu : Nat} {M' : Mm} : ∀ (n : Nat) {x1 : Int32} {M : Mm} {H : Heap} {locs : List Loc} {ls : Array Slot}, F_X7_skip_0 fu n M x1 = some M' → St G s H locs M → lv_has ls 2 [(0, .ref (ad G 86)), (1, .int x1)] → W p l e rm_X7_skip s m args below meth c H locs 0 0 (MQ below (QV G M') args s 0 0 (zA G)) (F0 m 0 ls []) := by
  intro n
  induction n with
  | zero =>
    intro x1 M H locs ls hF hw hl
    cases hF
  | succ n ih =>
    intro x1 M H locs ls hF hw hl
    unfold F_X7_skip_0 at hF
    refine lv_aload_n hC.1 hC.2.1 dX7_skip_0 rfl (lv_at hl 0 rfl) ?_
    refine g7_place hC hw q4_151 dX7_skip_1 ?_
    refine lv_aload_n hC.1 hC.2.1 dX7_skip_4 rfl (lv_at hl 0 rfl) ?_
    refine g7_textLong hC hw q4_125 dX7_skip_5 ?_
    refine lv_iload_n hC.1 hC.2.1 dX7_skip_8 rfl (lv_at hl 1 rfl) ?_
    obtain ⟨n1, hF⟩ := ifO hF
    refine r_iald hC.1 hC.2.1 hw (rfl : kd 90 = 1) n1 dX7_skip_9 ?_
    refine lv_icmp_ge (tgt := 36) hC.1 hC.2.1 dX7_skip_10 (by decide) (fun b2 => ?_) (fun b2 => ?_)
    · have hF := ifP hF b2
      exact r_vretE hC hw hF dX7_skip_36
    · have hF := ifN hF b2
      refine lv_aload_n hC.1 hC.2.1 dX7_skip_13 rfl (lv_at hl 0 rfl) ?_
      refine lv_iload_n hC.1 hC.2.1 dX7_skip_14 rfl (lv_at hl 1 rfl) ?_
      obtain ⟨r4, h3, hF⟩ := ob1S hF
      refine k_Vi (As := [.int x1]) (rest := []) hC hw (c_X7_charAt (M := M) h3) RC_X yv_X7_charAt q5_62 ⟨rfl, rfl⟩ ⟨Nat.le_of_ble_eq_true rfl, Nat.le_of_ble_eq_true rfl⟩ ⟨Nat.zero_le _, Nat.zero_le _⟩ rfl rfl (Nat.le_of_ble_eq_true rfl) hl dX7_skip_15 (fun H locs hw => ?_)
      refine lv_bipush (v := (32 : Int32)) hC.1 hC.2.1 dX7_skip_18 (by decide) ?_
      refine lv_icmp_ne (tgt := 36) hC.1 hC.2.1 dX7_skip_20 (by decide) (fun b5 => ?_) (fun b5 => ?_)
      · have hF := ifN hF b5
        exact r_vretE hC hw hF dX7_skip_36
      · have hF := ifP hF b5
        refine lv_aload_n hC.1 hC.2.1 dX7_skip_23 rfl (lv_at hl 0 rfl) ?_
        refine lv_dup hC.1 hC.2.1 dX7_skip_24 rfl ?_
        refine g7_place hC hw q4_151 dX7_skip_25 ?_
        refine lv_iconst (v := (1 : Int32)) hC.1 hC.2.1 dX7_skip_28 (by decide) ?_
        refine lv_iadd hC.1 hC.2.1 dX7_skip_29 ?_
        refine u7_place hC hw q4_151 dX7_skip_30 (fun H locs hw => ?_)
        obtain ⟨M6, hw, hF⟩ := lt1W hF hw
        refine lv_goto (tgt := 0) hC.1 hC.2.1 dX7_skip_33 (by decide) ?_
        exact ih hF hw (lv_sub hl [0, 1] rfl)
def F_X7_skip (fu : Nat) (M : Mm) (x1 : Int32) : Option Mm :=
  F_X7_skip_0 fu fu M x1
set_option maxRecDepth 100000 in
set_option maxHeartbeats 4000000 in
theorem c_X7_skip {l : Launch} {G : Gv} {fu : Nat} {M : Mm} {x1 : Int32} {M' : Mm} (hF : F_X7_skip fu M x1 = some M') : Met l yX7_skip (.code yX7_skip cX7_skip 2 none :: zU) rm_X7_skip (va_Pc [.ref (ad G 86), .int x1] (Wd G M)) (QV G M') 0 0 (zA G) := by
  refine zMet (by decide) rfl (Nat.le_of_ble_eq_true rfl) ?_
  intro p e s m below meth c hC hw ls hl
  have hl : lv_has ls 2 [(0, .ref (ad G 86)), (1, .int x1)] := hl
  unfold F_X7_skip at hF
  exact w_X7_skip_0 hC _ hF hw (lv_sub hl [0, 1] rfl)
abbrev rm_X7_figure : Room := { frames := 1, cells := 0, slots := 0, locals := 25 }
theorem yv_X7_figure : YV yX7_figure cX7_figure 5 (some .int) 3 RX7 := ⟨⟨q5_72, qs_39, q1_8, q5_73⟩, by decide +kernel⟩
theorem dX7_figure_0 : decode cX7_figure 0 = .ok (.aload_n 0, 1) := by decide +kernel
theorem dX7_figure_1 : decode cX7_figure 1 = .ok (.iload_n 1, 1) := by decide +kernel
theorem dX7_figure_2 : decode cX7_figure 2 = .ok (.invokevirtual 135, 3) := by decide +kernel
theorem dX7_figure_5 : decode cX7_figure 5 = .ok (.istore 4, 2) := by decide +kernel
theorem dX7_figure_7 : decode cX7_figure 7 = .ok (.iload 4, 2) := by decide +kernel
theorem dX7_figure_9 : decode cX7_figure 9 = .ok (.i2l, 1) := by decide +kernel
theorem dX7_figure_10 : decode cX7_figure 10 = .ok (.bipush 48, 2) := by decide +kernel
theorem dX7_figure_12 : decode cX7_figure 12 = .ok (.iload_n 2, 1) := by decide +kernel
theorem dX7_figure_13 : decode cX7_figure 13 = .ok (.iadd, 1) := by decide +kernel
theorem dX7_figure_14 : decode cX7_figure 14 = .ok (.i2l, 1) := by decide +kernel
theorem dX7_figure_15 : decode cX7_figure 15 = .ok (.bipush 48, 2) := by decide +kernel
theorem dX7_figure_17 : decode cX7_figure 17 = .ok (.iload_n 3, 1) := by decide +kernel
theorem dX7_figure_18 : decode cX7_figure 18 = .ok (.iadd, 1) := by decide +kernel
theorem dX7_figure_19 : decode cX7_figure 19 = .ok (.i2l, 1) := by decide +kernel
theorem dX7_figure_20 : decode cX7_figure 20 = .ok (.invokestatic 104, 3) := by decide +kernel
theorem dX7_figure_23 : decode cX7_figure 23 = .ok (.ifCond .ne 6, 3) := by decide +kernel
theorem dX7_figure_26 : decode cX7_figure 26 = .ok (.bipush (-9), 2) := by decide +kernel
theorem dX7_figure_28 : decode cX7_figure 28 = .ok (.ireturn, 1) := by decide +kernel
theorem dX7_figure_29 : decode cX7_figure 29 = .ok (.aload_n 0, 1) := by decide +kernel
theorem dX7_figure_30 : decode cX7_figure 30 = .ok (.dup, 1) := by decide +kernel
theorem dX7_figure_31 : decode cX7_figure 31 = .ok (.getfield 132, 3) := by decide +kernel
theorem dX7_figure_34 : decode cX7_figure 34 = .ok (.iconst 1, 1) := by decide +kernel
theorem dX7_figure_35 : decode cX7_figure 35 = .ok (.iadd, 1) := by decide +kernel
theorem dX7_figure_36 : decode cX7_figure 36 = .ok (.putfield 132, 3) := by decide +kernel
theorem dX7_figure_39 : decode cX7_figure 39 = .ok (.iload 4, 2) := by decide +kernel
theorem dX7_figure_41 : decode cX7_figure 41 = .ok (.bipush 48, 2) := by decide +kernel
theorem dX7_figure_43 : decode cX7_figure 43 = .ok (.isub, 1) := by decide +kernel
theorem dX7_figure_44 : decode cX7_figure 44 = .ok (.ireturn, 1) := by decide +kernel
def F_X7_figure (fu : Nat) (M : Mm) (x1 : Int32) (x2 : Int32) (x3 : Int32) : Option (Int32 × Mm) :=
  ob1 (F_X7_charAt fu M x1) (fun r2 =>
  ob1 (F_X7_in fu M r2.toInt64 ((48 : Int32) + x2).toInt64 ((48 : Int32) + x3).toInt64) (fun r4 =>
  if r4 = 0 then
    some ((-9 : Int32), M)
  else
    lt1 (pI M 86 29 ((M.1 86 29) + (1 : Int32))) (fun M6 =>
    some ((r2 - (48 : Int32)), M6))))
set_option maxRecDepth 100000 in
set_option maxHeartbeats 4000000 in
theorem c_X7_figure {l : Launch} {G : Gv} {fu : Nat} {M : Mm} {x1 : Int32} {x2 : Int32} {x3 : Int32} {r : Int32} {M' : Mm} (hF : F_X7_figure fu M x1 x2 x3 = some (r, M')) : Met l yX7_figure (.code yX7_figure cX7_figure 5 (some .int) :: zU) rm_X7_figure (va_Pc [.ref (ad G 86), .int x1, .int x2, .int x3] (Wd G M)) (QI G r M') 0 0 (zA G) := by
  refine zMet (by decide) rfl (Nat.le_of_ble_eq_true rfl) ?_
  intro p e s m below meth c hC hw ls hl
  have hl : lv_has ls 5 [(0, .ref (ad G 86)), (1, .int x1), (2, .int x2), (3, .int x3)] := hl
  unfold F_X7_figure at hF
  refine lv_aload_n hC.1 hC.2.1 dX7_figure_0 rfl (lv_at hl 0 rfl) ?_
  refine lv_iload_n hC.1 hC.2.1 dX7_figure_1 rfl (lv_at hl 1 rfl) ?_
  obtain ⟨r2, h1, hF⟩ := ob1S hF
  refine k_Vi (As := [.int x1]) (rest := []) hC hw (c_X7_charAt (M := M) h1) RC_X yv_X7_charAt q5_62 ⟨rfl, rfl⟩ ⟨Nat.le_of_ble_eq_true rfl, Nat.le_of_ble_eq_true rfl⟩ ⟨Nat.zero_le _, Nat.zero_le _⟩ rfl rfl (Nat.le_of_ble_eq_true rfl) hl dX7_figure_2 (fun H locs hw => ?_)
  refine lv_istore (lv' := [(4, .int r2), (0, .ref (ad G 86)), (1, .int x1), (2, .int x2), (3, .int x3)]) hC.1 hC.2.1 dX7_figure_5 hl (by decide) rfl (fun ls hl => ?_)
  refine lv_iload hC.1 hC.2.1 dX7_figure_7 (lv_at hl 0 rfl) ?_
  refine lv_i2l hC.1 hC.2.1 dX7_figure_9 rfl ?_
  refine lv_bipush (v := (48 : Int32)) hC.1 hC.2.1 dX7_figure_10 (by decide) ?_
  refine lv_iload_n hC.1 hC.2.1 dX7_figure_12 rfl (lv_at hl 3 rfl) ?_
  refine lv_iadd hC.1 hC.2.1 dX7_figure_13 ?_
  refine lv_i2l hC.1 hC.2.1 dX7_figure_14 rfl ?_
  refine lv_bipush (v := (48 : Int32)) hC.1 hC.2.1 dX7_figure_15 (by decide) ?_
  refine lv_iload_n hC.1 hC.2.1 dX7_figure_17 rfl (lv_at hl 4 rfl) ?_
  refine lv_iadd hC.1 hC.2.1 dX7_figure_18 ?_
  refine lv_i2l hC.1 hC.2.1 dX7_figure_19 rfl ?_
  obtain ⟨r4, h3, hF⟩ := ob1S hF
  refine k_Si (As := [.long r2.toInt64, .long ((48 : Int32) + x2).toInt64, .long ((48 : Int32) + x3).toInt64]) (rest := []) hC hw (c_X7_in (M := M) h3) ys_X7_in q5_3 ⟨rfl, rfl⟩ ⟨Nat.le_of_ble_eq_true rfl, Nat.le_of_ble_eq_true rfl⟩ ⟨Nat.zero_le _, Nat.zero_le _⟩ rfl rfl (Nat.le_of_ble_eq_true rfl) hl dX7_figure_20 (fun H locs hw => ?_)
  refine lv_if_ne (tgt := 29) hC.1 hC.2.1 dX7_figure_23 (by decide) (fun b5 => ?_) (fun b5 => ?_)
  · have hF := ifN hF b5
    refine lv_aload_n hC.1 hC.2.1 dX7_figure_29 rfl (lv_at hl 1 rfl) ?_
    refine lv_dup hC.1 hC.2.1 dX7_figure_30 rfl ?_
    refine g7_place hC hw q4_151 dX7_figure_31 ?_
    refine lv_iconst (v := (1 : Int32)) hC.1 hC.2.1 dX7_figure_34 (by decide) ?_
    refine lv_iadd hC.1 hC.2.1 dX7_figure_35 ?_
    refine u7_place hC hw q4_151 dX7_figure_36 (fun H locs hw => ?_)
    obtain ⟨M6, hw, hF⟩ := lt1W hF hw
    refine lv_iload hC.1 hC.2.1 dX7_figure_39 (lv_at hl 0 rfl) ?_
    refine lv_bipush (v := (48 : Int32)) hC.1 hC.2.1 dX7_figure_41 (by decide) ?_
    refine lv_isub hC.1 hC.2.1 dX7_figure_43 ?_
    exact r_iretE hC hw hF dX7_figure_44
  · have hF := ifP hF b5
    refine lv_bipush (v := (-9 : Int32)) hC.1 hC.2.1 dX7_figure_26 (by decide) ?_
    exact r_iretE hC hw hF dX7_figure_28
abbrev rm_X7_readsSun : Room := { frames := 2, cells := 0, slots := 0, locals := 49 }
theorem yv_X7_readsSun : YV yX7_readsSun cX7_readsSun 3 (some .boolean) 1 RX7 := ⟨⟨q5_68, qs_38, q1_8, q5_69⟩, by decide +kernel⟩
theorem dX7_readsSun_0 : decode cX7_readsSun 0 = .ok (.aload_n 0, 1) := by decide +kernel
theorem dX7_readsSun_1 : decode cX7_readsSun 1 = .ok (.iload_n 1, 1) := by decide +kernel
theorem dX7_readsSun_2 : decode cX7_readsSun 2 = .ok (.invokevirtual 135, 3) := by decide +kernel
theorem dX7_readsSun_5 : decode cX7_readsSun 5 = .ok (.bipush 122, 2) := by decide +kernel
theorem dX7_readsSun_7 : decode cX7_readsSun 7 = .ok (.if_icmp .eq 5, 3) := by decide +kernel
theorem dX7_readsSun_10 : decode cX7_readsSun 10 = .ok (.iconst 0, 1) := by decide +kernel
theorem dX7_readsSun_11 : decode cX7_readsSun 11 = .ok (.ireturn, 1) := by decide +kernel
theorem dX7_readsSun_12 : decode cX7_readsSun 12 = .ok (.aload_n 0, 1) := by decide +kernel
theorem dX7_readsSun_13 : decode cX7_readsSun 13 = .ok (.dup, 1) := by decide +kernel
theorem dX7_readsSun_14 : decode cX7_readsSun 14 = .ok (.getfield 132, 3) := by decide +kernel
theorem dX7_readsSun_17 : decode cX7_readsSun 17 = .ok (.iconst 1, 1) := by decide +kernel
theorem dX7_readsSun_18 : decode cX7_readsSun 18 = .ok (.iadd, 1) := by decide +kernel
theorem dX7_readsSun_19 : decode cX7_readsSun 19 = .ok (.putfield 132, 3) := by decide +kernel
theorem dX7_readsSun_22 : decode cX7_readsSun 22 = .ok (.iconst 0, 1) := by decide +kernel
theorem dX7_readsSun_23 : decode cX7_readsSun 23 = .ok (.istore_n 2, 1) := by decide +kernel
theorem dX7_readsSun_24 : decode cX7_readsSun 24 = .ok (.iload_n 2, 1) := by decide +kernel
theorem dX7_readsSun_25 : decode cX7_readsSun 25 = .ok (.bipush 8, 2) := by decide +kernel
theorem dX7_readsSun_27 : decode cX7_readsSun 27 = .ok (.if_icmp .ge 36, 3) := by decide +kernel
theorem dX7_readsSun_30 : decode cX7_readsSun 30 = .ok (.aload_n 0, 1) := by decide +kernel
theorem dX7_readsSun_31 : decode cX7_readsSun 31 = .ok (.getfield 69, 3) := by decide +kernel
theorem dX7_readsSun_34 : decode cX7_readsSun 34 = .ok (.iload_n 2, 1) := by decide +kernel
theorem dX7_readsSun_35 : decode cX7_readsSun 35 = .ok (.aload_n 0, 1) := by decide +kernel
theorem dX7_readsSun_36 : decode cX7_readsSun 36 = .ok (.iload_n 1, 1) := by decide +kernel
theorem dX7_readsSun_37 : decode cX7_readsSun 37 = .ok (.iconst 0, 1) := by decide +kernel
theorem dX7_readsSun_38 : decode cX7_readsSun 38 = .ok (.bipush 9, 2) := by decide +kernel
theorem dX7_readsSun_40 : decode cX7_readsSun 40 = .ok (.invokevirtual 138, 3) := by decide +kernel
theorem dX7_readsSun_43 : decode cX7_readsSun 43 = .ok (.iastore, 1) := by decide +kernel
theorem dX7_readsSun_44 : decode cX7_readsSun 44 = .ok (.aload_n 0, 1) := by decide +kernel
theorem dX7_readsSun_45 : decode cX7_readsSun 45 = .ok (.getfield 69, 3) := by decide +kernel
theorem dX7_readsSun_48 : decode cX7_readsSun 48 = .ok (.iload_n 2, 1) := by decide +kernel
theorem dX7_readsSun_49 : decode cX7_readsSun 49 = .ok (.iaload, 1) := by decide +kernel
theorem dX7_readsSun_50 : decode cX7_readsSun 50 = .ok (.bipush (-9), 2) := by decide +kernel
theorem dX7_readsSun_52 : decode cX7_readsSun 52 = .ok (.if_icmp .ne 5, 3) := by decide +kernel
theorem dX7_readsSun_55 : decode cX7_readsSun 55 = .ok (.iconst 0, 1) := by decide +kernel
theorem dX7_readsSun_56 : decode cX7_readsSun 56 = .ok (.ireturn, 1) := by decide +kernel
theorem dX7_readsSun_57 : decode cX7_readsSun 57 = .ok (.iinc 2 1, 3) := by decide +kernel
theorem dX7_readsSun_60 : decode cX7_readsSun 60 = .ok (.goto (-36), 3) := by decide +kernel
theorem dX7_readsSun_63 : decode cX7_readsSun 63 = .ok (.aload_n 0, 1) := by decide +kernel
theorem dX7_readsSun_64 : decode cX7_readsSun 64 = .ok (.aload_n 0, 1) := by decide +kernel
theorem dX7_readsSun_65 : decode cX7_readsSun 65 = .ok (.iload_n 1, 1) := by decide +kernel
theorem dX7_readsSun_66 : decode cX7_readsSun 66 = .ok (.iconst 1, 1) := by decide +kernel
theorem dX7_readsSun_67 : decode cX7_readsSun 67 = .ok (.bipush 9, 2) := by decide +kernel
theorem dX7_readsSun_69 : decode cX7_readsSun 69 = .ok (.invokevirtual 138, 3) := by decide +kernel
theorem dX7_readsSun_72 : decode cX7_readsSun 72 = .ok (.putfield 142, 3) := by decide +kernel
theorem dX7_readsSun_75 : decode cX7_readsSun 75 = .ok (.aload_n 0, 1) := by decide +kernel
theorem dX7_readsSun_76 : decode cX7_readsSun 76 = .ok (.getfield 142, 3) := by decide +kernel
theorem dX7_readsSun_79 : decode cX7_readsSun 79 = .ok (.bipush (-9), 2) := by decide +kernel
theorem dX7_readsSun_81 : decode cX7_readsSun 81 = .ok (.if_icmp .eq 7, 3) := by decide +kernel
theorem dX7_readsSun_84 : decode cX7_readsSun 84 = .ok (.iconst 1, 1) := by decide +kernel
theorem dX7_readsSun_85 : decode cX7_readsSun 85 = .ok (.goto 4, 3) := by decide +kernel
theorem dX7_readsSun_88 : decode cX7_readsSun 88 = .ok (.iconst 0, 1) := by decide +kernel
theorem dX7_readsSun_89 : decode cX7_readsSun 89 = .ok (.ireturn, 1) := by decide +kernel
def F_X7_readsSun_24 (fu : Nat) : Nat → Mm → Int32 → Int32 → Option (Int32 × Mm)
  | 0, _, _, _ => none
  | n + 1, M, x1, x2 =>
    if (8 : Int32) ≤ x2 then
      ob2 (F_X7_figure fu M x1 (1 : Int32) (9 : Int32)) (fun r3 M4 =>
      lt1 (pI M4 86 28 r3) (fun M5 =>
      if (M5.1 86 28) = (-9 : Int32) then
        some ((0 : Int32), M5)
      else
        some ((1 : Int32), M5)))
    else
      ob2 (F_X7_figure fu M x1 (0 : Int32) (9 : Int32)) (fun r8 M9 =>
      if x2 < 0 ∨ ln 105 ≤ x2.toNatClampNeg then none else (
      lt1 (pI M9 105 x2.toNatClampNeg r8) (fun M11 =>
      if x2 < 0 ∨ ln 105 ≤ x2.toNatClampNeg then none else (
      if (M11.1 105 x2.toNatClampNeg) = (-9 : Int32) then
        some ((0 : Int32), M11)
      else
        F_X7_readsSun_24 fu n M11 x1 (x2 + (1 : Int32))))))
set_option maxRecDepth 100000 in
set_option maxHeartbeats 4000000 in
theorem w_X7_readsSun_24 {p : Program} {l : Launch} {e : Env} {s : State} {m : MethodId} {args : Array Value} {below : List Frame} {meth : Method} {c : Code} {G : Gv} (hC : Cx p s m args meth c cX7_readsSun 3 (some .boolean) RX7) {fu : Nat} {r : Int32} {M' : Mm} : ∀ (n : Nat) {x1 : Int32} {x2 : Int32} {M : Mm} {H : Heap} {locs : List Loc} {ls : Array Slot}, F_X7_readsSun_24 fu n M x1 x2 = some (r, M') → St G s H locs M → lv_has ls 3 [(0, .ref (ad G 86)), (1, .int x1), (2, .int x2)] → W p l e rm_X7_readsSun s m args below meth c H locs 0 0 (MQ below (QI G r M') args s 0 0 (zA G)) (F0 m 24 ls []) := by
  intro n
  induction n with
  | zero =>
    intro x1 x2 M H locs ls hF hw hl
    cases hF
  | succ n ih =>
    intro x1 x2 M H locs ls hF hw hl
    unfold F_X7_readsSun_24 at hF
    refine lv_iload_n hC.1 hC.2.1 dX7_readsSun_24 rfl (lv_at hl 2 rfl) ?_
    refine lv_bipush (v := (8 : Int32)) hC.1 hC.2.1 dX7_readsSun_25 (by decide) ?_
    refine lv_icmp_ge (tgt := 63) hC.1 hC.2.1 dX7_readsSun_27 (by decide) (fun b1 => ?_) (fun b1 => ?_)
    · have hF := ifP hF b1
      refine lv_aload_n hC.1 hC.2.1 dX7_readsSun_63 rfl (lv_at hl 0 rfl) ?_
      refine lv_aload_n hC.1 hC.2.1 dX7_readsSun_64 rfl (lv_at hl 0 rfl) ?_
      refine lv_iload_n hC.1 hC.2.1 dX7_readsSun_65 rfl (lv_at hl 1 rfl) ?_
      refine lv_iconst (v := (1 : Int32)) hC.1 hC.2.1 dX7_readsSun_66 (by decide) ?_
      refine lv_bipush (v := (9 : Int32)) hC.1 hC.2.1 dX7_readsSun_67 (by decide) ?_
      obtain ⟨r3, M4, h2, hF⟩ := ob2S hF
      refine k_Vi (As := [.int x1, .int (1 : Int32), .int (9 : Int32)]) (rest := [.ref (ad G 86)]) hC hw (c_X7_figure (M := M) h2) RC_X yv_X7_figure q5_70 ⟨rfl, rfl⟩ ⟨Nat.le_of_ble_eq_true rfl, Nat.le_of_ble_eq_true rfl⟩ ⟨Nat.zero_le _, Nat.zero_le _⟩ rfl rfl (Nat.le_of_ble_eq_true rfl) hl dX7_readsSun_69 (fun H locs hw => ?_)
      refine u7_readRight hC hw q4_150 dX7_readsSun_72 (fun H locs hw => ?_)
      obtain ⟨M5, hw, hF⟩ := lt1W hF hw
      refine lv_aload_n hC.1 hC.2.1 dX7_readsSun_75 rfl (lv_at hl 0 rfl) ?_
      refine g7_readRight hC hw q4_150 dX7_readsSun_76 ?_
      refine lv_bipush (v := (-9 : Int32)) hC.1 hC.2.1 dX7_readsSun_79 (by decide) ?_
      refine lv_icmp_eq (tgt := 88) hC.1 hC.2.1 dX7_readsSun_81 (by decide) (fun b6 => ?_) (fun b6 => ?_)
      · have hF := ifP hF b6
        refine lv_iconst (v := (0 : Int32)) hC.1 hC.2.1 dX7_readsSun_88 (by decide) ?_
        exact r_zretE hC hw (by decide) hF dX7_readsSun_89
      · have hF := ifN hF b6
        refine lv_iconst (v := (1 : Int32)) hC.1 hC.2.1 dX7_readsSun_84 (by decide) ?_
        refine lv_goto (tgt := 89) hC.1 hC.2.1 dX7_readsSun_85 (by decide) ?_
        exact r_zretE hC hw (by decide) hF dX7_readsSun_89
    · have hF := ifN hF b1
      refine lv_aload_n hC.1 hC.2.1 dX7_readsSun_30 rfl (lv_at hl 0 rfl) ?_
      refine g7_readSuns hC hw q4_149 dX7_readsSun_31 ?_
      refine lv_iload_n hC.1 hC.2.1 dX7_readsSun_34 rfl (lv_at hl 2 rfl) ?_
      refine lv_aload_n hC.1 hC.2.1 dX7_readsSun_35 rfl (lv_at hl 0 rfl) ?_
      refine lv_iload_n hC.1 hC.2.1 dX7_readsSun_36 rfl (lv_at hl 1 rfl) ?_
      refine lv_iconst (v := (0 : Int32)) hC.1 hC.2.1 dX7_readsSun_37 (by decide) ?_
      refine lv_bipush (v := (9 : Int32)) hC.1 hC.2.1 dX7_readsSun_38 (by decide) ?_
      obtain ⟨r8, M9, h7, hF⟩ := ob2S hF
      refine k_Vi (As := [.int x1, .int (0 : Int32), .int (9 : Int32)]) (rest := [.int x2, .ref (ad G 105)]) hC hw (c_X7_figure (M := M) h7) RC_X yv_X7_figure q5_70 ⟨rfl, rfl⟩ ⟨Nat.le_of_ble_eq_true rfl, Nat.le_of_ble_eq_true rfl⟩ ⟨Nat.zero_le _, Nat.zero_le _⟩ rfl rfl (Nat.le_of_ble_eq_true rfl) hl dX7_readsSun_40 (fun H locs hw => ?_)
      obtain ⟨n10, hF⟩ := ifO hF
      refine r_iast hC.1 hC.2.1 hw (rfl : kd 105 = 1) n10 dX7_readsSun_43 (fun H locs hw => ?_)
      obtain ⟨M11, hw, hF⟩ := lt1W hF hw
      refine lv_aload_n hC.1 hC.2.1 dX7_readsSun_44 rfl (lv_at hl 0 rfl) ?_
      refine g7_readSuns hC hw q4_149 dX7_readsSun_45 ?_
      refine lv_iload_n hC.1 hC.2.1 dX7_readsSun_48 rfl (lv_at hl 2 rfl) ?_
      obtain ⟨n12, hF⟩ := ifO hF
      refine r_iald hC.1 hC.2.1 hw (rfl : kd 105 = 1) n12 dX7_readsSun_49 ?_
      refine lv_bipush (v := (-9 : Int32)) hC.1 hC.2.1 dX7_readsSun_50 (by decide) ?_
      refine lv_icmp_ne (tgt := 57) hC.1 hC.2.1 dX7_readsSun_52 (by decide) (fun b13 => ?_) (fun b13 => ?_)
      · have hF := ifN hF b13
        refine lv_iinc (v := (x2 + (1 : Int32))) (lv' := [(2, .int (x2 + (1 : Int32))), (0, .ref (ad G 86)), (1, .int x1)]) hC.1 hC.2.1 dX7_readsSun_57 hl (k := 2) rfl rfl (by decide) rfl (fun ls hl => ?_)
        refine lv_goto (tgt := 24) hC.1 hC.2.1 dX7_readsSun_60 (by decide) ?_
        exact ih hF hw (lv_sub hl [1, 2, 0] rfl)
      · have hF := ifP hF b13
        refine lv_iconst (v := (0 : Int32)) hC.1 hC.2.1 dX7_readsSun_55 (by decide) ?_
        exact r_zretE hC hw (by decide) hF dX7_readsSun_56
def F_X7_readsSun (fu : Nat) (M : Mm) (x1 : Int32) : Option (Int32 × Mm) :=
  ob1 (F_X7_charAt fu M x1) (fun r2 =>
  if r2 = (122 : Int32) then
    lt1 (pI M 86 29 ((M.1 86 29) + (1 : Int32))) (fun M4 =>
    F_X7_readsSun_24 fu fu M4 x1 (0 : Int32))
  else
    some ((0 : Int32), M))
set_option maxRecDepth 100000 in
set_option maxHeartbeats 4000000 in
theorem c_X7_readsSun {l : Launch} {G : Gv} {fu : Nat} {M : Mm} {x1 : Int32} {r : Int32} {M' : Mm} (hF : F_X7_readsSun fu M x1 = some (r, M')) : Met l yX7_readsSun (.code yX7_readsSun cX7_readsSun 3 (some .boolean) :: zU) rm_X7_readsSun (va_Pc [.ref (ad G 86), .int x1] (Wd G M)) (QI G r M') 0 0 (zA G) := by
  refine zMet (by decide) rfl (Nat.le_of_ble_eq_true rfl) ?_
  intro p e s m below meth c hC hw ls hl
  have hl : lv_has ls 3 [(0, .ref (ad G 86)), (1, .int x1)] := hl
  unfold F_X7_readsSun at hF
  refine lv_aload_n hC.1 hC.2.1 dX7_readsSun_0 rfl (lv_at hl 0 rfl) ?_
  refine lv_iload_n hC.1 hC.2.1 dX7_readsSun_1 rfl (lv_at hl 1 rfl) ?_
  obtain ⟨r2, h1, hF⟩ := ob1S hF
  refine k_Vi (As := [.int x1]) (rest := []) hC hw (c_X7_charAt (M := M) h1) RC_X yv_X7_charAt q5_62 ⟨rfl, rfl⟩ ⟨Nat.le_of_ble_eq_true rfl, Nat.le_of_ble_eq_true rfl⟩ ⟨Nat.zero_le _, Nat.zero_le _⟩ rfl rfl (Nat.le_of_ble_eq_true rfl) hl dX7_readsSun_2 (fun H locs hw => ?_)
  refine lv_bipush (v := (122 : Int32)) hC.1 hC.2.1 dX7_readsSun_5 (by decide) ?_
  refine lv_icmp_eq (tgt := 12) hC.1 hC.2.1 dX7_readsSun_7 (by decide) (fun b3 => ?_) (fun b3 => ?_)
  · have hF := ifP hF b3
    refine lv_aload_n hC.1 hC.2.1 dX7_readsSun_12 rfl (lv_at hl 0 rfl) ?_
    refine lv_dup hC.1 hC.2.1 dX7_readsSun_13 rfl ?_
    refine g7_place hC hw q4_151 dX7_readsSun_14 ?_
    refine lv_iconst (v := (1 : Int32)) hC.1 hC.2.1 dX7_readsSun_17 (by decide) ?_
    refine lv_iadd hC.1 hC.2.1 dX7_readsSun_18 ?_
    refine u7_place hC hw q4_151 dX7_readsSun_19 (fun H locs hw => ?_)
    obtain ⟨M4, hw, hF⟩ := lt1W hF hw
    refine lv_iconst (v := (0 : Int32)) hC.1 hC.2.1 dX7_readsSun_22 (by decide) ?_
    refine lv_istore_n (lv' := [(2, .int (0 : Int32)), (0, .ref (ad G 86)), (1, .int x1)]) hC.1 hC.2.1 dX7_readsSun_23 rfl hl (by decide) rfl (fun ls hl => ?_)
    exact w_X7_readsSun_24 hC _ hF hw (lv_sub hl [1, 2, 0] rfl)
  · have hF := ifN hF b3
    refine lv_iconst (v := (0 : Int32)) hC.1 hC.2.1 dX7_readsSun_10 (by decide) ?_
    exact r_zretE hC hw (by decide) hF dX7_readsSun_11
abbrev rm_X7_kindOf : Room := { frames := 0, cells := 0, slots := 0, locals := 0 }
theorem ys_X7_kindOf : YS yX7_kindOf cX7_kindOf 1 (some .int) 1 := ⟨⟨q5_79, q1_8, q5_80⟩, by decide +kernel⟩
theorem dX7_kindOf_0 : decode cX7_kindOf 0 = .ok (.iload_n 0, 1) := by decide +kernel
theorem dX7_kindOf_1 : decode cX7_kindOf 1 = .ok (.tableswitch 91 104 119 #[81, 89, 91, 91, 87, 79, 91, 91, 91, 91, 91, 85, 91, 91, 91, 83], 79) := by decide +kernel
theorem dX7_kindOf_80 : decode cX7_kindOf 80 = .ok (.iconst 0, 1) := by decide +kernel
theorem dX7_kindOf_81 : decode cX7_kindOf 81 = .ok (.ireturn, 1) := by decide +kernel
theorem dX7_kindOf_82 : decode cX7_kindOf 82 = .ok (.iconst 1, 1) := by decide +kernel
theorem dX7_kindOf_83 : decode cX7_kindOf 83 = .ok (.ireturn, 1) := by decide +kernel
theorem dX7_kindOf_84 : decode cX7_kindOf 84 = .ok (.iconst 2, 1) := by decide +kernel
theorem dX7_kindOf_85 : decode cX7_kindOf 85 = .ok (.ireturn, 1) := by decide +kernel
theorem dX7_kindOf_86 : decode cX7_kindOf 86 = .ok (.iconst 3, 1) := by decide +kernel
theorem dX7_kindOf_87 : decode cX7_kindOf 87 = .ok (.ireturn, 1) := by decide +kernel
theorem dX7_kindOf_88 : decode cX7_kindOf 88 = .ok (.iconst 4, 1) := by decide +kernel
theorem dX7_kindOf_89 : decode cX7_kindOf 89 = .ok (.ireturn, 1) := by decide +kernel
theorem dX7_kindOf_90 : decode cX7_kindOf 90 = .ok (.iconst 5, 1) := by decide +kernel
theorem dX7_kindOf_91 : decode cX7_kindOf 91 = .ok (.ireturn, 1) := by decide +kernel
theorem dX7_kindOf_92 : decode cX7_kindOf 92 = .ok (.bipush (-9), 2) := by decide +kernel
theorem dX7_kindOf_94 : decode cX7_kindOf 94 = .ok (.ireturn, 1) := by decide +kernel
def F_X7_kindOf (fu : Nat) (M : Mm) (x0 : Int32) : Option Int32 :=
  if x0 = (104 : Int32) then
    some (1 : Int32)
  else
  if x0 = (105 : Int32) then
    some (5 : Int32)
  else
  if x0 = (108 : Int32) then
    some (4 : Int32)
  else
  if x0 = (109 : Int32) then
    some (0 : Int32)
  else
  if x0 = (115 : Int32) then
    some (3 : Int32)
  else
  if x0 = (119 : Int32) then
    some (2 : Int32)
  else
  some (-9 : Int32)
set_option maxRecDepth 100000 in
set_option maxHeartbeats 4000000 in
theorem c_X7_kindOf {l : Launch} {G : Gv} {fu : Nat} {M : Mm} {x0 : Int32} {r : Int32} (hF : F_X7_kindOf fu M x0 = some r) : Met l yX7_kindOf (.code yX7_kindOf cX7_kindOf 1 (some .int) :: zU) rm_X7_kindOf (va_Pc [.int x0] (Wd G M)) (QI G r M) 0 0 (zA G) := by
  refine zMet (by decide) rfl (Nat.le_of_ble_eq_true rfl) ?_
  intro p e s m below meth c hC hw ls hl
  have hl : lv_has ls 1 [(0, .int x0)] := hl
  unfold F_X7_kindOf at hF
  refine lv_iload_n hC.1 hC.2.1 dX7_kindOf_0 rfl (lv_at hl 0 rfl) ?_
  rcases Classical.em (x0 = (104 : Int32)) with w1 | w1
  · have hF := ifP hF w1
    refine r_swI (v := (104 : Int32)) (off := 81) (tgt := 82) hC.1 hC.2.1 w1 dX7_kindOf_1 (by decide) (by decide) rfl (by decide) ?_
    refine lv_iconst (v := (1 : Int32)) hC.1 hC.2.1 dX7_kindOf_82 (by decide) ?_
    exact r_iretP hC hw hF dX7_kindOf_83
  have hF := ifN hF w1
  rcases Classical.em (x0 = (105 : Int32)) with w2 | w2
  · have hF := ifP hF w2
    refine r_swI (v := (105 : Int32)) (off := 89) (tgt := 90) hC.1 hC.2.1 w2 dX7_kindOf_1 (by decide) (by decide) rfl (by decide) ?_
    refine lv_iconst (v := (5 : Int32)) hC.1 hC.2.1 dX7_kindOf_90 (by decide) ?_
    exact r_iretP hC hw hF dX7_kindOf_91
  have hF := ifN hF w2
  rcases Classical.em (x0 = (108 : Int32)) with w3 | w3
  · have hF := ifP hF w3
    refine r_swI (v := (108 : Int32)) (off := 87) (tgt := 88) hC.1 hC.2.1 w3 dX7_kindOf_1 (by decide) (by decide) rfl (by decide) ?_
    refine lv_iconst (v := (4 : Int32)) hC.1 hC.2.1 dX7_kindOf_88 (by decide) ?_
    exact r_iretP hC hw hF dX7_kindOf_89
  have hF := ifN hF w3
  rcases Classical.em (x0 = (109 : Int32)) with w4 | w4
  · have hF := ifP hF w4
    refine r_swI (v := (109 : Int32)) (off := 79) (tgt := 80) hC.1 hC.2.1 w4 dX7_kindOf_1 (by decide) (by decide) rfl (by decide) ?_
    refine lv_iconst (v := (0 : Int32)) hC.1 hC.2.1 dX7_kindOf_80 (by decide) ?_
    exact r_iretP hC hw hF dX7_kindOf_81
  have hF := ifN hF w4
  rcases Classical.em (x0 = (115 : Int32)) with w5 | w5
  · have hF := ifP hF w5
    refine r_swI (v := (115 : Int32)) (off := 85) (tgt := 86) hC.1 hC.2.1 w5 dX7_kindOf_1 (by decide) (by decide) rfl (by decide) ?_
    refine lv_iconst (v := (3 : Int32)) hC.1 hC.2.1 dX7_kindOf_86 (by decide) ?_
    exact r_iretP hC hw hF dX7_kindOf_87
  have hF := ifN hF w5
  rcases Classical.em (x0 = (119 : Int32)) with w6 | w6
  · have hF := ifP hF w6
    refine r_swI (v := (119 : Int32)) (off := 83) (tgt := 84) hC.1 hC.2.1 w6 dX7_kindOf_1 (by decide) (by decide) rfl (by decide) ?_
    refine lv_iconst (v := (2 : Int32)) hC.1 hC.2.1 dX7_kindOf_84 (by decide) ?_
    exact r_iretP hC hw hF dX7_kindOf_85
  have hF := ifN hF w6
  refine r_swD (tgt := 92) (vs := [(104 : Int32), (105 : Int32), (108 : Int32), (109 : Int32), (115 : Int32), (119 : Int32)]) hC.1 hC.2.1 (List.forall_mem_cons.mpr ⟨w1, List.forall_mem_cons.mpr ⟨w2, List.forall_mem_cons.mpr ⟨w3, List.forall_mem_cons.mpr ⟨w4, List.forall_mem_cons.mpr ⟨w5, List.forall_mem_cons.mpr ⟨w6, fun v hv => absurd hv List.not_mem_nil⟩⟩⟩⟩⟩⟩) dX7_kindOf_1 (by decide) rfl (by decide) ?_
  refine lv_bipush (v := (-9 : Int32)) hC.1 hC.2.1 dX7_kindOf_92 (by decide) ?_
  exact r_iretP hC hw hF dX7_kindOf_94
