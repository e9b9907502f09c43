abbrev rm_X0_clear : Room := { frames := 0, cells := 0, slots := 0, locals := 0 }
theorem ys_X0_clear : YS yX0_clear cX0_clear 2 none 1 := ⟨⟨q3_46, q1_5, q3_47⟩, by decide +kernel⟩
theorem dX0_clear_0 : decode cX0_clear 0 = .ok (.iconst 0, 1) := by decide +kernel
theorem dX0_clear_1 : decode cX0_clear 1 = .ok (.istore_n 1, 1) := by decide +kernel
theorem dX0_clear_2 : decode cX0_clear 2 = .ok (.iload_n 1, 1) := by decide +kernel
theorem dX0_clear_3 : decode cX0_clear 3 = .ok (.aload_n 0, 1) := by decide +kernel
theorem dX0_clear_4 : decode cX0_clear 4 = .ok (.arraylength, 1) := by decide +kernel
theorem dX0_clear_5 : decode cX0_clear 5 = .ok (.if_icmp .ge 13, 3) := by decide +kernel
theorem dX0_clear_8 : decode cX0_clear 8 = .ok (.aload_n 0, 1) := by decide +kernel
theorem dX0_clear_9 : decode cX0_clear 9 = .ok (.iload_n 1, 1) := by decide +kernel
theorem dX0_clear_10 : decode cX0_clear 10 = .ok (.lconst 0, 1) := by decide +kernel
theorem dX0_clear_11 : decode cX0_clear 11 = .ok (.lastore, 1) := by decide +kernel
theorem dX0_clear_12 : decode cX0_clear 12 = .ok (.iinc 1 1, 3) := by decide +kernel
theorem dX0_clear_15 : decode cX0_clear 15 = .ok (.goto (-13), 3) := by decide +kernel
theorem dX0_clear_18 : decode cX0_clear 18 = .ok (.return_, 1) := by decide +kernel
def F_X0_clear_2 (fu : Nat) : Nat → Mm → Nat → Int32 → Option Mm
  | 0, _, _, _ => none
  | n + 1, M, c0, x1 =>
    if (nI (ln c0)) ≤ x1 then
      some M
    else
      if x1 < 0 ∨ ln c0 ≤ x1.toNatClampNeg then none else (
      lt1 (pL M c0 x1.toNatClampNeg (0 : Int64)) (fun M3 =>
      F_X0_clear_2 fu n M3 c0 (x1 + (1 : Int32))))
set_option maxRecDepth 100000 in
set_option maxHeartbeats 4000000 in
theorem w_X0_clear_2 {p : Program} {l : Launch} {e : Env} {s : State} {m : MethodId} {args : Array Value} {below : List Frame} {meth : Method} {c : Code} {G : Gv} (hC : Cx p s m args meth c cX0_clear 2 none RX0) {fu : Nat} {M' : Mm} : ∀ (n : Nat) {c0 : Nat} {x1 : Int32} {M : Mm} {H : Heap} {locs : List Loc} {ls : Array Slot} (hk0 : kd c0 = 2), F_X0_clear_2 fu n M c0 x1 = some M' → St G s H locs M → lv_has ls 2 [(0, .ref (ad G c0)), (1, .int x1)] → W p l e rm_X0_clear s m args below meth c H locs 0 0 (MQ below (QV G M') args s 0 0 (zA G)) (F0 m 2 ls []) := by
  intro n
  induction n with
  | zero =>
    intro c0 x1 M H locs ls hk0 hF hw hl
    cases hF
  | succ n ih =>
    intro c0 x1 M H locs ls hk0 hF hw hl
    unfold F_X0_clear_2 at hF
    refine lv_iload_n hC.1 hC.2.1 dX0_clear_2 rfl (lv_at hl 1 rfl) ?_
    refine lv_aload_n hC.1 hC.2.1 dX0_clear_3 rfl (lv_at hl 0 rfl) ?_
    refine r_alenJ hC.1 hC.2.1 hw hk0 dX0_clear_4 ?_
    refine lv_icmp_ge (tgt := 18) hC.1 hC.2.1 dX0_clear_5 (by decide) (fun b1 => ?_) (fun b1 => ?_)
    · have hF := ifP hF b1
      exact r_vretE hC hw hF dX0_clear_18
    · have hF := ifN hF b1
      refine lv_aload_n hC.1 hC.2.1 dX0_clear_8 rfl (lv_at hl 0 rfl) ?_
      refine lv_iload_n hC.1 hC.2.1 dX0_clear_9 rfl (lv_at hl 1 rfl) ?_
      refine lv_lconst (v := (0 : Int64)) hC.1 hC.2.1 dX0_clear_10 (by decide) ?_
      obtain ⟨n2, hF⟩ := ifO hF
      refine r_last hC.1 hC.2.1 hw hk0 n2 dX0_clear_11 (fun H locs hw => ?_)
      obtain ⟨M3, hw, hF⟩ := lt1W hF hw
      refine lv_iinc (v := (x1 + (1 : Int32))) (lv' := [(1, .int (x1 + (1 : Int32))), (0, .ref (ad G c0))]) hC.1 hC.2.1 dX0_clear_12 hl (k := 1) rfl rfl (by decide) rfl (fun ls hl => ?_)
      refine lv_goto (tgt := 2) hC.1 hC.2.1 dX0_clear_15 (by decide) ?_
      exact ih hk0 hF hw (lv_sub hl [1, 0] rfl)
def F_X0_clear (fu : Nat) (M : Mm) (c0 : Nat) : Option Mm :=
  F_X0_clear_2 fu fu M c0 (0 : Int32)
set_option maxRecDepth 100000 in
set_option maxHeartbeats 4000000 in
theorem c_X0_clear {l : Launch} {G : Gv} {fu : Nat} {M : Mm} {c0 : Nat} (hk0 : kd c0 = 2) {M' : Mm} (hF : F_X0_clear fu M c0 = some M') : Met l yX0_clear (.code yX0_clear cX0_clear 2 none :: zU) rm_X0_clear (va_Pc [.ref (ad G c0)] (Wd G M)) (QV G M') 0 0 (zA G) := by
  refine zMet (by decide) rfl (Nat.le_of_ble_eq_true rfl) ?_
  intro p e s m below meth c hC hw ls hl
  have hl : lv_has ls 2 [(0, .ref (ad G c0))] := hl
  unfold F_X0_clear at hF
  refine lv_iconst (v := (0 : Int32)) hC.1 hC.2.1 dX0_clear_0 (by decide) ?_
  refine lv_istore_n (lv' := [(1, .int (0 : Int32)), (0, .ref (ad G c0))]) hC.1 hC.2.1 dX0_clear_1 rfl hl (by decide) rfl (fun ls hl => ?_)
  exact w_X0_clear_2 hC _ hk0 hF hw (lv_sub hl [1, 0] rfl)
abbrev rm_X6_read : Room := { frames := 0, cells := 0, slots := 0, locals := 0 }
theorem ys_X6_read : YS yX6_read cX6_read 2 (some .int) 2 := ⟨⟨q2_18, q1_1, q2_19⟩, by decide +kernel⟩
theorem dX6_read_0 : decode cX6_read 0 = .ok (.iload_n 1, 1) := by decide +kernel
theorem dX6_read_1 : decode cX6_read 1 = .ok (.ifCond .lt 15, 3) := by decide +kernel
theorem dX6_read_4 : decode cX6_read 4 = .ok (.iload_n 1, 1) := by decide +kernel
theorem dX6_read_5 : decode cX6_read 5 = .ok (.aload_n 0, 1) := by decide +kernel
theorem dX6_read_6 : decode cX6_read 6 = .ok (.arraylength, 1) := by decide +kernel
theorem dX6_read_7 : decode cX6_read 7 = .ok (.if_icmp .ge 9, 3) := by decide +kernel
theorem dX6_read_10 : decode cX6_read 10 = .ok (.aload_n 0, 1) := by decide +kernel
theorem dX6_read_11 : decode cX6_read 11 = .ok (.iload_n 1, 1) := by decide +kernel
theorem dX6_read_12 : decode cX6_read 12 = .ok (.iaload, 1) := by decide +kernel
theorem dX6_read_13 : decode cX6_read 13 = .ok (.goto 4, 3) := by decide +kernel
theorem dX6_read_16 : decode cX6_read 16 = .ok (.iconst 0, 1) := by decide +kernel
theorem dX6_read_17 : decode cX6_read 17 = .ok (.ireturn, 1) := by decide +kernel
def F_X6_read (fu : Nat) (M : Mm) (c0 : Nat) (x1 : Int32) : Option Int32 :=
  if x1 < 0 then
    some (0 : Int32)
  else
    if (nI (ln c0)) ≤ x1 then
      some (0 : Int32)
    else
      if x1 < 0 ∨ ln c0 ≤ x1.toNatClampNeg then none else (
      some (M.1 c0 x1.toNatClampNeg))
set_option maxRecDepth 100000 in
set_option maxHeartbeats 4000000 in
theorem c_X6_read {l : Launch} {G : Gv} {fu : Nat} {M : Mm} {c0 : Nat} {x1 : Int32} (hk0 : kd c0 = 1) {r : Int32} (hF : F_X6_read fu M c0 x1 = some r) : Met l yX6_read (.code yX6_read cX6_read 2 (some .int) :: zU) rm_X6_read (va_Pc [.ref (ad G c0), .int x1] (Wd G M)) (QI G r M) 0 0 (zA G) := by
  refine zMet (by decide) rfl (Nat.le_of_ble_eq_true rfl) ?_
  intro p e s m below meth c hC hw ls hl
  have hl : lv_has ls 2 [(0, .ref (ad G c0)), (1, .int x1)] := hl
  unfold F_X6_read at hF
  refine lv_iload_n hC.1 hC.2.1 dX6_read_0 rfl (lv_at hl 1 rfl) ?_
  refine lv_if_lt (tgt := 16) hC.1 hC.2.1 dX6_read_1 (by decide) (fun b1 => ?_) (fun b1 => ?_)
  · have hF := ifP hF b1
    refine lv_iconst (v := (0 : Int32)) hC.1 hC.2.1 dX6_read_16 (by decide) ?_
    exact r_iretP hC hw hF dX6_read_17
  · have hF := ifN hF b1
    refine lv_iload_n hC.1 hC.2.1 dX6_read_4 rfl (lv_at hl 1 rfl) ?_
    refine lv_aload_n hC.1 hC.2.1 dX6_read_5 rfl (lv_at hl 0 rfl) ?_
    refine r_alenI hC.1 hC.2.1 hw hk0 dX6_read_6 ?_
    refine lv_icmp_ge (tgt := 16) hC.1 hC.2.1 dX6_read_7 (by decide) (fun b2 => ?_) (fun b2 => ?_)
    · have hF := ifP hF b2
      refine lv_iconst (v := (0 : Int32)) hC.1 hC.2.1 dX6_read_16 (by decide) ?_
      exact r_iretP hC hw hF dX6_read_17
    · have hF := ifN hF b2
      refine lv_aload_n hC.1 hC.2.1 dX6_read_10 rfl (lv_at hl 0 rfl) ?_
      refine lv_iload_n hC.1 hC.2.1 dX6_read_11 rfl (lv_at hl 1 rfl) ?_
      obtain ⟨n3, hF⟩ := ifO hF
      refine r_iald hC.1 hC.2.1 hw hk0 n3 dX6_read_12 ?_
      refine lv_goto (tgt := 17) hC.1 hC.2.1 dX6_read_13 (by decide) ?_
      exact r_iretP hC hw hF dX6_read_17
abbrev rm_X0_add : Room := { frames := 0, cells := 0, slots := 0, locals := 0 }
theorem ys_X0_add : YS yX0_add cX0_add 4 none 3 := ⟨⟨q3_50, q1_5, q3_51⟩, by decide +kernel⟩
theorem dX0_add_0 : decode cX0_add 0 = .ok (.iload_n 1, 1) := by decide +kernel
theorem dX0_add_1 : decode cX0_add 1 = .ok (.ifCond .lt 16, 3) := by decide +kernel
theorem dX0_add_4 : decode cX0_add 4 = .ok (.iload_n 1, 1) := by decide +kernel
theorem dX0_add_5 : decode cX0_add 5 = .ok (.aload_n 0, 1) := by decide +kernel
theorem dX0_add_6 : decode cX0_add 6 = .ok (.arraylength, 1) := by decide +kernel
theorem dX0_add_7 : decode cX0_add 7 = .ok (.if_icmp .ge 10, 3) := by decide +kernel
theorem dX0_add_10 : decode cX0_add 10 = .ok (.aload_n 0, 1) := by decide +kernel
theorem dX0_add_11 : decode cX0_add 11 = .ok (.iload_n 1, 1) := by decide +kernel
theorem dX0_add_12 : decode cX0_add 12 = .ok (.dup2, 1) := by decide +kernel
theorem dX0_add_13 : decode cX0_add 13 = .ok (.laload, 1) := by decide +kernel
theorem dX0_add_14 : decode cX0_add 14 = .ok (.lload_n 2, 1) := by decide +kernel
theorem dX0_add_15 : decode cX0_add 15 = .ok (.ladd, 1) := by decide +kernel
theorem dX0_add_16 : decode cX0_add 16 = .ok (.lastore, 1) := by decide +kernel
theorem dX0_add_17 : decode cX0_add 17 = .ok (.return_, 1) := by decide +kernel
def F_X0_add (fu : Nat) (M : Mm) (c0 : Nat) (x1 : Int32) (x2 : Int64) : Option Mm :=
  if x1 < 0 then
    some M
  else
    if (nI (ln c0)) ≤ x1 then
      some M
    else
      if x1 < 0 ∨ ln c0 ≤ x1.toNatClampNeg then none else (
      if x1 < 0 ∨ ln c0 ≤ x1.toNatClampNeg then none else (
      lt1 (pL M c0 x1.toNatClampNeg ((M.2 c0 x1.toNatClampNeg) + x2)) (fun M5 =>
      some M5)))
set_option maxRecDepth 100000 in
set_option maxHeartbeats 4000000 in
theorem c_X0_add {l : Launch} {G : Gv} {fu : Nat} {M : Mm} {c0 : Nat} {x1 : Int32} {x2 : Int64} (hk0 : kd c0 = 2) {M' : Mm} (hF : F_X0_add fu M c0 x1 x2 = some M') : Met l yX0_add (.code yX0_add cX0_add 4 none :: zU) rm_X0_add (va_Pc [.ref (ad G c0), .int x1, .long x2] (Wd G M)) (QV G M') 0 0 (zA G) := by
  refine zMet (by decide) rfl (Nat.le_of_ble_eq_true rfl) ?_
  intro p e s m below meth c hC hw ls hl
  have hl : lv_has ls 4 [(0, .ref (ad G c0)), (1, .int x1), (2, .long x2)] := hl
  unfold F_X0_add at hF
  refine lv_iload_n hC.1 hC.2.1 dX0_add_0 rfl (lv_at hl 1 rfl) ?_
  refine lv_if_lt (tgt := 17) hC.1 hC.2.1 dX0_add_1 (by decide) (fun b1 => ?_) (fun b1 => ?_)
  · have hF := ifP hF b1
    exact r_vretE hC hw hF dX0_add_17
  · have hF := ifN hF b1
    refine lv_iload_n hC.1 hC.2.1 dX0_add_4 rfl (lv_at hl 1 rfl) ?_
    refine lv_aload_n hC.1 hC.2.1 dX0_add_5 rfl (lv_at hl 0 rfl) ?_
    refine r_alenJ hC.1 hC.2.1 hw hk0 dX0_add_6 ?_
    refine lv_icmp_ge (tgt := 17) hC.1 hC.2.1 dX0_add_7 (by decide) (fun b2 => ?_) (fun b2 => ?_)
    · have hF := ifP hF b2
      exact r_vretE hC hw hF dX0_add_17
    · have hF := ifN hF b2
      refine lv_aload_n hC.1 hC.2.1 dX0_add_10 rfl (lv_at hl 0 rfl) ?_
      refine lv_iload_n hC.1 hC.2.1 dX0_add_11 rfl (lv_at hl 1 rfl) ?_
      refine lv_dup2_11 hC.1 hC.2.1 dX0_add_12 rfl rfl ?_
      obtain ⟨n3, hF⟩ := ifO hF
      refine r_lald hC.1 hC.2.1 hw hk0 n3 dX0_add_13 ?_
      refine lv_lload_n hC.1 hC.2.1 dX0_add_14 rfl (lv_at hl 2 rfl) ?_
      refine lv_ladd hC.1 hC.2.1 dX0_add_15 ?_
      obtain ⟨n4, hF⟩ := ifO hF
      refine r_last hC.1 hC.2.1 hw hk0 n4 dX0_add_16 (fun H locs hw => ?_)
      obtain ⟨M5, hw, hF⟩ := lt1W hF hw
      exact r_vretE hC hw hF dX0_add_17
abbrev rm_X2_melting : Room := { frames := 1, cells := 0, slots := 0, locals := 30 }
theorem yv_X2_melting : YV yX2_melting cX2_melting 5 (some .int) 3 RX2 := ⟨⟨q2_89, qs_7, q1_2, q2_90⟩, by decide +kernel⟩
theorem dX2_melting_0 : decode cX2_melting 0 = .ok (.iconst 0, 1) := by decide +kernel
theorem dX2_melting_1 : decode cX2_melting 1 = .ok (.aload_n 0, 1) := by decide +kernel
theorem dX2_melting_2 : decode cX2_melting 2 = .ok (.getfield 9, 3) := by decide +kernel
theorem dX2_melting_5 : decode cX2_melting 5 = .ok (.iload_n 3, 1) := by decide +kernel
theorem dX2_melting_6 : decode cX2_melting 6 = .ok (.bipush 8, 2) := by decide +kernel
theorem dX2_melting_8 : decode cX2_melting 8 = .ok (.irem, 1) := by decide +kernel
theorem dX2_melting_9 : decode cX2_melting 9 = .ok (.invokestatic 81, 3) := by decide +kernel
theorem dX2_melting_12 : decode cX2_melting 12 = .ok (.iload_n 2, 1) := by decide +kernel
theorem dX2_melting_13 : decode cX2_melting 13 = .ok (.isub, 1) := by decide +kernel
theorem dX2_melting_14 : decode cX2_melting 14 = .ok (.invokestatic 97, 3) := by decide +kernel
theorem dX2_melting_17 : decode cX2_melting 17 = .ok (.istore 4, 2) := by decide +kernel
theorem dX2_melting_19 : decode cX2_melting 19 = .ok (.iload_n 1, 1) := by decide +kernel
theorem dX2_melting_20 : decode cX2_melting 20 = .ok (.tableswitch 74 1 5 #[46, 36, 41, 46, 55], 36) := by decide +kernel
theorem dX2_melting_56 : decode cX2_melting 56 = .ok (.iload 4, 2) := by decide +kernel
theorem dX2_melting_58 : decode cX2_melting 58 = .ok (.iconst 2, 1) := by decide +kernel
theorem dX2_melting_59 : decode cX2_melting 59 = .ok (.idiv, 1) := by decide +kernel
theorem dX2_melting_60 : decode cX2_melting 60 = .ok (.ireturn, 1) := by decide +kernel
theorem dX2_melting_61 : decode cX2_melting 61 = .ok (.iload 4, 2) := by decide +kernel
theorem dX2_melting_63 : decode cX2_melting 63 = .ok (.iconst 1, 1) := by decide +kernel
theorem dX2_melting_64 : decode cX2_melting 64 = .ok (.iadd, 1) := by decide +kernel
theorem dX2_melting_65 : decode cX2_melting 65 = .ok (.ireturn, 1) := by decide +kernel
theorem dX2_melting_66 : decode cX2_melting 66 = .ok (.iconst 0, 1) := by decide +kernel
theorem dX2_melting_67 : decode cX2_melting 67 = .ok (.iload 4, 2) := by decide +kernel
theorem dX2_melting_69 : decode cX2_melting 69 = .ok (.iconst 1, 1) := by decide +kernel
theorem dX2_melting_70 : decode cX2_melting 70 = .ok (.isub, 1) := by decide +kernel
theorem dX2_melting_71 : decode cX2_melting 71 = .ok (.invokestatic 97, 3) := by decide +kernel
theorem dX2_melting_74 : decode cX2_melting 74 = .ok (.ireturn, 1) := by decide +kernel
theorem dX2_melting_75 : decode cX2_melting 75 = .ok (.iload_n 3, 1) := by decide +kernel
theorem dX2_melting_76 : decode cX2_melting 76 = .ok (.iconst 2, 1) := by decide +kernel
theorem dX2_melting_77 : decode cX2_melting 77 = .ok (.irem, 1) := by decide +kernel
theorem dX2_melting_78 : decode cX2_melting 78 = .ok (.ifCond .ne 7, 3) := by decide +kernel
theorem dX2_melting_81 : decode cX2_melting 81 = .ok (.iconst 0, 1) := by decide +kernel
theorem dX2_melting_82 : decode cX2_melting 82 = .ok (.goto 11, 3) := by decide +kernel
theorem dX2_melting_85 : decode cX2_melting 85 = .ok (.iconst 0, 1) := by decide +kernel
theorem dX2_melting_86 : decode cX2_melting 86 = .ok (.iload 4, 2) := by decide +kernel
theorem dX2_melting_88 : decode cX2_melting 88 = .ok (.iconst 1, 1) := by decide +kernel
theorem dX2_melting_89 : decode cX2_melting 89 = .ok (.isub, 1) := by decide +kernel
theorem dX2_melting_90 : decode cX2_melting 90 = .ok (.invokestatic 97, 3) := by decide +kernel
theorem dX2_melting_93 : decode cX2_melting 93 = .ok (.ireturn, 1) := by decide +kernel
theorem dX2_melting_94 : decode cX2_melting 94 = .ok (.iload 4, 2) := by decide +kernel
theorem dX2_melting_96 : decode cX2_melting 96 = .ok (.ireturn, 1) := by decide +kernel
def F_X2_melting (fu : Nat) (M : Mm) (c0 : Nat) (x1 : Int32) (x2 : Int32) (x3 : Int32) : Option Int32 :=
  ob1 (F_X6_read fu M (c0 + 1) (x3 - x3 / (8 : Int32) * (8 : Int32))) (fun r2 =>
  if x1 = (1 : Int32) then
    some (zmx (0 : Int32) ((zmx (0 : Int32) (r2 - x2)) - (1 : Int32)))
  else
  if x1 = (2 : Int32) then
    some ((zmx (0 : Int32) (r2 - x2)) / (2 : Int32))
  else
  if x1 = (3 : Int32) then
    some ((zmx (0 : Int32) (r2 - x2)) + (1 : Int32))
  else
  if x1 = (4 : Int32) then
    some (zmx (0 : Int32) ((zmx (0 : Int32) (r2 - x2)) - (1 : Int32)))
  else
  if x1 = (5 : Int32) then
    if (x3 - x3 / (2 : Int32) * (2 : Int32)) = 0 then
      some (0 : Int32)
    else
      some (zmx (0 : Int32) ((zmx (0 : Int32) (r2 - x2)) - (1 : Int32)))
  else
  some (zmx (0 : Int32) (r2 - x2)))
set_option maxRecDepth 100000 in
set_option maxHeartbeats 4000000 in
theorem c_X2_melting {l : Launch} {G : Gv} {fu : Nat} {M : Mm} {c0 : Nat} {x1 : Int32} {x2 : Int32} {x3 : Int32} (hk0 : kd c0 = 11) {r : Int32} (hF : F_X2_melting fu M c0 x1 x2 x3 = some r) : Met l yX2_melting (.code yX2_melting cX2_melting 5 (some .int) :: zU) rm_X2_melting (va_Pc [.ref (ad G c0), .int x1, .int x2, .int x3] (Wd G M)) (QI G r M) 0 0 (zA G) := by
  refine zMet (by decide) rfl (Nat.le_of_ble_eq_true rfl) ?_
  intro p e s m below meth c hC hw ls hl
  have hl : lv_has ls 5 [(0, .ref (ad G c0)), (1, .int x1), (2, .int x2), (3, .int x3)] := hl
  unfold F_X2_melting at hF
  refine lv_iconst (v := (0 : Int32)) hC.1 hC.2.1 dX2_melting_0 (by decide) ?_
  refine lv_aload_n hC.1 hC.2.1 dX2_melting_1 rfl (lv_at hl 0 rfl) ?_
  refine g2_suns hC hw hk0 q1_36 dX2_melting_2 ?_
  refine lv_iload_n hC.1 hC.2.1 dX2_melting_5 rfl (lv_at hl 3 rfl) ?_
  refine lv_bipush (v := (8 : Int32)) hC.1 hC.2.1 dX2_melting_6 (by decide) ?_
  refine lv_irem hC.1 hC.2.1 dX2_melting_8 (by decide) ?_
  obtain ⟨r2, h1, hF⟩ := ob1S hF
  refine k_Ni (As := [.ref (ad G (c0 + 1)), .int (x3 - x3 / (8 : Int32) * (8 : Int32))]) (rest := [.int (0 : Int32)]) hC hw (c_X6_read (M := M) (kdN1 hk0) h1) ys_X6_read (k := 6) rfl ⟨rfl, rfl⟩ ⟨Nat.le_of_ble_eq_true rfl, Nat.le_of_ble_eq_true rfl⟩ ⟨Nat.zero_le _, Nat.zero_le _⟩ rfl rfl (Nat.le_of_ble_eq_true rfl) hl dX2_melting_9 (fun H locs hw => ?_)
  refine lv_iload_n hC.1 hC.2.1 dX2_melting_12 rfl (lv_at hl 2 rfl) ?_
  refine lv_isub hC.1 hC.2.1 dX2_melting_13 ?_
  refine r_max ⟨hC.1, hC.2.1, by rw [hC.2.2.1]; exact hl.1.symm, hC.2.2.2.1, hC.2.2.2.2.1⟩ q2_91 ⟨Nat.le_of_ble_eq_true rfl, Nat.le_of_ble_eq_true rfl⟩ ⟨Nat.zero_le _, Nat.zero_le _⟩ dX2_melting_14 ?_
  refine lv_istore (lv' := [(4, .int (zmx (0 : Int32) (r2 - x2))), (0, .ref (ad G c0)), (1, .int x1), (2, .int x2), (3, .int x3)]) hC.1 hC.2.1 dX2_melting_17 hl (by decide) rfl (fun ls hl => ?_)
  refine lv_iload_n hC.1 hC.2.1 dX2_melting_19 rfl (lv_at hl 2 rfl) ?_
  rcases Classical.em (x1 = (1 : Int32)) with w3 | w3
  · have hF := ifP hF w3
    refine r_swI (v := (1 : Int32)) (off := 46) (tgt := 66) hC.1 hC.2.1 w3 dX2_melting_20 (by decide) (by decide) rfl (by decide) ?_
    refine lv_iconst (v := (0 : Int32)) hC.1 hC.2.1 dX2_melting_66 (by decide) ?_
    refine lv_iload hC.1 hC.2.1 dX2_melting_67 (lv_at hl 0 rfl) ?_
    refine lv_iconst (v := (1 : Int32)) hC.1 hC.2.1 dX2_melting_69 (by decide) ?_
    refine lv_isub hC.1 hC.2.1 dX2_melting_70 ?_
    refine r_max ⟨hC.1, hC.2.1, by rw [hC.2.2.1]; exact hl.1.symm, hC.2.2.2.1, hC.2.2.2.2.1⟩ q2_91 ⟨Nat.le_of_ble_eq_true rfl, Nat.le_of_ble_eq_true rfl⟩ ⟨Nat.zero_le _, Nat.zero_le _⟩ dX2_melting_71 ?_
    exact r_iretP hC hw hF dX2_melting_74
  have hF := ifN hF w3
  rcases Classical.em (x1 = (2 : Int32)) with w4 | w4
  · have hF := ifP hF w4
    refine r_swI (v := (2 : Int32)) (off := 36) (tgt := 56) hC.1 hC.2.1 w4 dX2_melting_20 (by decide) (by decide) rfl (by decide) ?_
    refine lv_iload hC.1 hC.2.1 dX2_melting_56 (lv_at hl 0 rfl) ?_
    refine lv_iconst (v := (2 : Int32)) hC.1 hC.2.1 dX2_melting_58 (by decide) ?_
    refine lv_idiv hC.1 hC.2.1 dX2_melting_59 (by decide) ?_
    exact r_iretP hC hw hF dX2_melting_60
  have hF := ifN hF w4
  rcases Classical.em (x1 = (3 : Int32)) with w5 | w5
  · have hF := ifP hF w5
    refine r_swI (v := (3 : Int32)) (off := 41) (tgt := 61) hC.1 hC.2.1 w5 dX2_melting_20 (by decide) (by decide) rfl (by decide) ?_
    refine lv_iload hC.1 hC.2.1 dX2_melting_61 (lv_at hl 0 rfl) ?_
    refine lv_iconst (v := (1 : Int32)) hC.1 hC.2.1 dX2_melting_63 (by decide) ?_
    refine lv_iadd hC.1 hC.2.1 dX2_melting_64 ?_
    exact r_iretP hC hw hF dX2_melting_65
  have hF := ifN hF w5
  rcases Classical.em (x1 = (4 : Int32)) with w6 | w6
  · have hF := ifP hF w6
    refine r_swI (v := (4 : Int32)) (off := 46) (tgt := 66) hC.1 hC.2.1 w6 dX2_melting_20 (by decide) (by decide) rfl (by decide) ?_
    refine lv_iconst (v := (0 : Int32)) hC.1 hC.2.1 dX2_melting_66 (by decide) ?_
    refine lv_iload hC.1 hC.2.1 dX2_melting_67 (lv_at hl 0 rfl) ?_
    refine lv_iconst (v := (1 : Int32)) hC.1 hC.2.1 dX2_melting_69 (by decide) ?_
    refine lv_isub hC.1 hC.2.1 dX2_melting_70 ?_
    refine r_max ⟨hC.1, hC.2.1, by rw [hC.2.2.1]; exact hl.1.symm, hC.2.2.2.1, hC.2.2.2.2.1⟩ q2_91 ⟨Nat.le_of_ble_eq_true rfl, Nat.le_of_ble_eq_true rfl⟩ ⟨Nat.zero_le _, Nat.zero_le _⟩ dX2_melting_71 ?_
    exact r_iretP hC hw hF dX2_melting_74
  have hF := ifN hF w6
  rcases Classical.em (x1 = (5 : Int32)) with w7 | w7
  · have hF := ifP hF w7
    refine r_swI (v := (5 : Int32)) (off := 55) (tgt := 75) hC.1 hC.2.1 w7 dX2_melting_20 (by decide) (by decide) rfl (by decide) ?_
    refine lv_iload_n hC.1 hC.2.1 dX2_melting_75 rfl (lv_at hl 4 rfl) ?_
    refine lv_iconst (v := (2 : Int32)) hC.1 hC.2.1 dX2_melting_76 (by decide) ?_
    refine lv_irem hC.1 hC.2.1 dX2_melting_77 (by decide) ?_
    refine lv_if_ne (tgt := 85) hC.1 hC.2.1 dX2_melting_78 (by decide) (fun b8 => ?_) (fun b8 => ?_)
    · have hF := ifN hF b8
      refine lv_iconst (v := (0 : Int32)) hC.1 hC.2.1 dX2_melting_85 (by decide) ?_
      refine lv_iload hC.1 hC.2.1 dX2_melting_86 (lv_at hl 0 rfl) ?_
      refine lv_iconst (v := (1 : Int32)) hC.1 hC.2.1 dX2_melting_88 (by decide) ?_
      refine lv_isub hC.1 hC.2.1 dX2_melting_89 ?_
      refine r_max ⟨hC.1, hC.2.1, by rw [hC.2.2.1]; exact hl.1.symm, hC.2.2.2.1, hC.2.2.2.2.1⟩ q2_91 ⟨Nat.le_of_ble_eq_true rfl, Nat.le_of_ble_eq_true rfl⟩ ⟨Nat.zero_le _, Nat.zero_le _⟩ dX2_melting_90 ?_
      exact r_iretP hC hw hF dX2_melting_93
    · have hF := ifP hF b8
      refine lv_iconst (v := (0 : Int32)) hC.1 hC.2.1 dX2_melting_81 (by decide) ?_
      refine lv_goto (tgt := 93) hC.1 hC.2.1 dX2_melting_82 (by decide) ?_
      exact r_iretP hC hw hF dX2_melting_93
  have hF := ifN hF w7
  refine r_swD (tgt := 94) (vs := [(1 : Int32), (2 : Int32), (3 : Int32), (4 : Int32), (5 : Int32)]) hC.1 hC.2.1 (List.forall_mem_cons.mpr ⟨w3, List.forall_mem_cons.mpr ⟨w4, List.forall_mem_cons.mpr ⟨w5, List.forall_mem_cons.mpr ⟨w6, List.forall_mem_cons.mpr ⟨w7, fun v hv => absurd hv List.not_mem_nil⟩⟩⟩⟩⟩) dX2_melting_20 (by decide) rfl (by decide) ?_
  refine lv_iload hC.1 hC.2.1 dX2_melting_94 (lv_at hl 0 rfl) ?_
  exact r_iretP hC hw hF dX2_melting_96
abbrev rm_X2_meltingIn : Room := { frames := 2, cells := 0, slots := 0, locals := 54 }
theorem yv_X2_meltingIn : YV yX2_meltingIn cX2_meltingIn 3 (some .int) 2 RX2 := ⟨⟨q2_84, q2_85, q1_2, q2_86⟩, by decide +kernel⟩
theorem dX2_meltingIn_0 : decode cX2_meltingIn 0 = .ok (.aload_n 0, 1) := by decide +kernel
theorem dX2_meltingIn_1 : decode cX2_meltingIn 1 = .ok (.aload_n 0, 1) := by decide +kernel
theorem dX2_meltingIn_2 : decode cX2_meltingIn 2 = .ok (.getfield 15, 3) := by decide +kernel
theorem dX2_meltingIn_5 : decode cX2_meltingIn 5 = .ok (.iload_n 1, 1) := by decide +kernel
theorem dX2_meltingIn_6 : decode cX2_meltingIn 6 = .ok (.invokestatic 81, 3) := by decide +kernel
theorem dX2_meltingIn_9 : decode cX2_meltingIn 9 = .ok (.aload_n 0, 1) := by decide +kernel
theorem dX2_meltingIn_10 : decode cX2_meltingIn 10 = .ok (.getfield 24, 3) := by decide +kernel
theorem dX2_meltingIn_13 : decode cX2_meltingIn 13 = .ok (.iload_n 1, 1) := by decide +kernel
theorem dX2_meltingIn_14 : decode cX2_meltingIn 14 = .ok (.invokestatic 81, 3) := by decide +kernel
theorem dX2_meltingIn_17 : decode cX2_meltingIn 17 = .ok (.aload_n 0, 1) := by decide +kernel
theorem dX2_meltingIn_18 : decode cX2_meltingIn 18 = .ok (.getfield 70, 3) := by decide +kernel
theorem dX2_meltingIn_21 : decode cX2_meltingIn 21 = .ok (.iload_n 2, 1) := by decide +kernel
theorem dX2_meltingIn_22 : decode cX2_meltingIn 22 = .ok (.iadd, 1) := by decide +kernel
theorem dX2_meltingIn_23 : decode cX2_meltingIn 23 = .ok (.invokevirtual 100, 3) := by decide +kernel
theorem dX2_meltingIn_26 : decode cX2_meltingIn 26 = .ok (.ireturn, 1) := by decide +kernel
def F_X2_meltingIn (fu : Nat) (M : Mm) (c0 : Nat) (x1 : Int32) (x2 : Int32) : Option Int32 :=
  ob1 (F_X6_read fu M (c0 + 2) x1) (fun r2 =>
  ob1 (F_X6_read fu M (c0 + 5) x1) (fun r4 =>
  ob1 (F_X2_melting fu M c0 r2 r4 ((M.1 c0 2) + x2)) (fun r6 =>
  some r6)))
set_option maxRecDepth 100000 in
set_option maxHeartbeats 4000000 in
theorem c_X2_meltingIn {l : Launch} {G : Gv} {fu : Nat} {M : Mm} {c0 : Nat} {x1 : Int32} {x2 : Int32} (hk0 : kd c0 = 11) {r : Int32} (hF : F_X2_meltingIn fu M c0 x1 x2 = some r) : Met l yX2_meltingIn (.code yX2_meltingIn cX2_meltingIn 3 (some .int) :: zU) rm_X2_meltingIn (va_Pc [.ref (ad G c0), .int x1, .int x2] (Wd G M)) (QI G r M) 0 0 (zA G) := by
  refine zMet (by decide) rfl (Nat.le_of_ble_eq_true rfl) ?_
  intro p e s m below meth c hC hw ls hl
  have hl : lv_has ls 3 [(0, .ref (ad G c0)), (1, .int x1), (2, .int x2)] := hl
  unfold F_X2_meltingIn at hF
  refine lv_aload_n hC.1 hC.2.1 dX2_meltingIn_0 rfl (lv_at hl 0 rfl) ?_
  refine lv_aload_n hC.1 hC.2.1 dX2_meltingIn_1 rfl (lv_at hl 0 rfl) ?_
  refine g2_kindOf hC hw hk0 q1_37 dX2_meltingIn_2 ?_
  refine lv_iload_n hC.1 hC.2.1 dX2_meltingIn_5 rfl (lv_at hl 1 rfl) ?_
  obtain ⟨r2, h1, hF⟩ := ob1S hF
  refine k_Ni (As := [.ref (ad G (c0 + 2)), .int x1]) (rest := [.ref (ad G c0)]) hC hw (c_X6_read (M := M) (kdN2 hk0) h1) ys_X6_read (k := 6) rfl ⟨rfl, rfl⟩ ⟨Nat.le_of_ble_eq_true rfl, Nat.le_of_ble_eq_true rfl⟩ ⟨Nat.zero_le _, Nat.zero_le _⟩ rfl rfl (Nat.le_of_ble_eq_true rfl) hl dX2_meltingIn_6 (fun H locs hw => ?_)
  refine lv_aload_n hC.1 hC.2.1 dX2_meltingIn_9 rfl (lv_at hl 0 rfl) ?_
  refine g2_shadeOf hC hw hk0 q1_43 dX2_meltingIn_10 ?_
  refine lv_iload_n hC.1 hC.2.1 dX2_meltingIn_13 rfl (lv_at hl 1 rfl) ?_
  obtain ⟨r4, h3, hF⟩ := ob1S hF
  refine k_Ni (As := [.ref (ad G (c0 + 5)), .int x1]) (rest := [.int r2, .ref (ad G c0)]) hC hw (c_X6_read (M := M) (kdN5 hk0) h3) ys_X6_read (k := 6) rfl ⟨rfl, rfl⟩ ⟨Nat.le_of_ble_eq_true rfl, Nat.le_of_ble_eq_true rfl⟩ ⟨Nat.zero_le _, Nat.zero_le _⟩ rfl rfl (Nat.le_of_ble_eq_true rfl) hl dX2_meltingIn_14 (fun H locs hw => ?_)
  refine lv_aload_n hC.1 hC.2.1 dX2_meltingIn_17 rfl (lv_at hl 0 rfl) ?_
  refine g2_today hC hw hk0 q1_32 dX2_meltingIn_18 ?_
  refine lv_iload_n hC.1 hC.2.1 dX2_meltingIn_21 rfl (lv_at hl 2 rfl) ?_
  refine lv_iadd hC.1 hC.2.1 dX2_meltingIn_22 ?_
  obtain ⟨r6, h5, hF⟩ := ob1S hF
  refine k_Vi (As := [.int r2, .int r4, .int ((M.1 c0 2) + x2)]) (rest := []) hC hw (c_X2_melting (M := M) hk0 h5) (RC_N hk0) yv_X2_melting q2_87 ⟨rfl, rfl⟩ ⟨Nat.le_of_ble_eq_true rfl, Nat.le_of_ble_eq_true rfl⟩ ⟨Nat.zero_le _, Nat.zero_le _⟩ rfl rfl (Nat.le_of_ble_eq_true rfl) hl dX2_meltingIn_23 (fun H locs hw => ?_)
  exact r_iretP hC hw hF dX2_meltingIn_26
abbrev rm_X0_pass : Room := { frames := 1, cells := 0, slots := 0, locals := 30 }
theorem yv_X0_pass : YV yX0_pass cX0_pass 4 none 2 RX0 := ⟨⟨q3_55, qs_17, q1_5, q3_56⟩, by decide +kernel⟩
theorem dX0_pass_0 : decode cX0_pass 0 = .ok (.aload_n 0, 1) := by decide +kernel
theorem dX0_pass_1 : decode cX0_pass 1 = .ok (.getfield 15, 3) := by decide +kernel
theorem dX0_pass_4 : decode cX0_pass 4 = .ok (.invokestatic 18, 3) := by decide +kernel
theorem dX0_pass_7 : decode cX0_pass 7 = .ok (.iconst 0, 1) := by decide +kernel
theorem dX0_pass_8 : decode cX0_pass 8 = .ok (.istore_n 3, 1) := by decide +kernel
theorem dX0_pass_9 : decode cX0_pass 9 = .ok (.iload_n 3, 1) := by decide +kernel
theorem dX0_pass_10 : decode cX0_pass 10 = .ok (.aload_n 0, 1) := by decide +kernel
theorem dX0_pass_11 : decode cX0_pass 11 = .ok (.getfield 9, 3) := by decide +kernel
theorem dX0_pass_14 : decode cX0_pass 14 = .ok (.arraylength, 1) := by decide +kernel
theorem dX0_pass_15 : decode cX0_pass 15 = .ok (.if_icmp .ge 52, 3) := by decide +kernel
theorem dX0_pass_18 : decode cX0_pass 18 = .ok (.aload_n 0, 1) := by decide +kernel
theorem dX0_pass_19 : decode cX0_pass 19 = .ok (.getfield 15, 3) := by decide +kernel
theorem dX0_pass_22 : decode cX0_pass 22 = .ok (.iload_n 3, 1) := by decide +kernel
theorem dX0_pass_23 : decode cX0_pass 23 = .ok (.aload_n 0, 1) := by decide +kernel
theorem dX0_pass_24 : decode cX0_pass 24 = .ok (.getfield 9, 3) := by decide +kernel
theorem dX0_pass_27 : decode cX0_pass 27 = .ok (.iload_n 3, 1) := by decide +kernel
theorem dX0_pass_28 : decode cX0_pass 28 = .ok (.laload, 1) := by decide +kernel
theorem dX0_pass_29 : decode cX0_pass 29 = .ok (.iload_n 2, 1) := by decide +kernel
theorem dX0_pass_30 : decode cX0_pass 30 = .ok (.i2l, 1) := by decide +kernel
theorem dX0_pass_31 : decode cX0_pass 31 = .ok (.lmul, 1) := by decide +kernel
theorem dX0_pass_32 : decode cX0_pass 32 = .ok (.invokestatic 32, 3) := by decide +kernel
theorem dX0_pass_35 : decode cX0_pass 35 = .ok (.aload_n 0, 1) := by decide +kernel
theorem dX0_pass_36 : decode cX0_pass 36 = .ok (.getfield 15, 3) := by decide +kernel
theorem dX0_pass_39 : decode cX0_pass 39 = .ok (.iconst 0, 1) := by decide +kernel
theorem dX0_pass_40 : decode cX0_pass 40 = .ok (.iload_n 3, 1) := by decide +kernel
theorem dX0_pass_41 : decode cX0_pass 41 = .ok (.iload_n 1, 1) := by decide +kernel
theorem dX0_pass_42 : decode cX0_pass 42 = .ok (.isub, 1) := by decide +kernel
theorem dX0_pass_43 : decode cX0_pass 43 = .ok (.invokestatic 50, 3) := by decide +kernel
theorem dX0_pass_46 : decode cX0_pass 46 = .ok (.aload_n 0, 1) := by decide +kernel
theorem dX0_pass_47 : decode cX0_pass 47 = .ok (.getfield 9, 3) := by decide +kernel
theorem dX0_pass_50 : decode cX0_pass 50 = .ok (.iload_n 3, 1) := by decide +kernel
theorem dX0_pass_51 : decode cX0_pass 51 = .ok (.laload, 1) := by decide +kernel
theorem dX0_pass_52 : decode cX0_pass 52 = .ok (.bipush 12, 2) := by decide +kernel
theorem dX0_pass_54 : decode cX0_pass 54 = .ok (.iload_n 2, 1) := by decide +kernel
theorem dX0_pass_55 : decode cX0_pass 55 = .ok (.isub, 1) := by decide +kernel
theorem dX0_pass_56 : decode cX0_pass 56 = .ok (.i2l, 1) := by decide +kernel
theorem dX0_pass_57 : decode cX0_pass 57 = .ok (.lmul, 1) := by decide +kernel
theorem dX0_pass_58 : decode cX0_pass 58 = .ok (.invokestatic 32, 3) := by decide +kernel
theorem dX0_pass_61 : decode cX0_pass 61 = .ok (.iinc 3 1, 3) := by decide +kernel
theorem dX0_pass_64 : decode cX0_pass 64 = .ok (.goto (-55), 3) := by decide +kernel
theorem dX0_pass_67 : decode cX0_pass 67 = .ok (.iconst 0, 1) := by decide +kernel
theorem dX0_pass_68 : decode cX0_pass 68 = .ok (.istore_n 3, 1) := by decide +kernel
theorem dX0_pass_69 : decode cX0_pass 69 = .ok (.iload_n 3, 1) := by decide +kernel
theorem dX0_pass_70 : decode cX0_pass 70 = .ok (.aload_n 0, 1) := by decide +kernel
theorem dX0_pass_71 : decode cX0_pass 71 = .ok (.getfield 9, 3) := by decide +kernel
theorem dX0_pass_74 : decode cX0_pass 74 = .ok (.arraylength, 1) := by decide +kernel
theorem dX0_pass_75 : decode cX0_pass 75 = .ok (.if_icmp .ge 30, 3) := by decide +kernel
theorem dX0_pass_78 : decode cX0_pass 78 = .ok (.iload_n 3, 1) := by decide +kernel
theorem dX0_pass_79 : decode cX0_pass 79 = .ok (.aload_n 0, 1) := by decide +kernel
theorem dX0_pass_80 : decode cX0_pass 80 = .ok (.getfield 15, 3) := by decide +kernel
theorem dX0_pass_83 : decode cX0_pass 83 = .ok (.arraylength, 1) := by decide +kernel
theorem dX0_pass_84 : decode cX0_pass 84 = .ok (.if_icmp .ge 21, 3) := by decide +kernel
theorem dX0_pass_87 : decode cX0_pass 87 = .ok (.aload_n 0, 1) := by decide +kernel
theorem dX0_pass_88 : decode cX0_pass 88 = .ok (.getfield 9, 3) := by decide +kernel
theorem dX0_pass_91 : decode cX0_pass 91 = .ok (.iload_n 3, 1) := by decide +kernel
theorem dX0_pass_92 : decode cX0_pass 92 = .ok (.aload_n 0, 1) := by decide +kernel
theorem dX0_pass_93 : decode cX0_pass 93 = .ok (.getfield 15, 3) := by decide +kernel
theorem dX0_pass_96 : decode cX0_pass 96 = .ok (.iload_n 3, 1) := by decide +kernel
theorem dX0_pass_97 : decode cX0_pass 97 = .ok (.laload, 1) := by decide +kernel
theorem dX0_pass_98 : decode cX0_pass 98 = .ok (.lastore, 1) := by decide +kernel
theorem dX0_pass_99 : decode cX0_pass 99 = .ok (.iinc 3 1, 3) := by decide +kernel
theorem dX0_pass_102 : decode cX0_pass 102 = .ok (.goto (-33), 3) := by decide +kernel
theorem dX0_pass_105 : decode cX0_pass 105 = .ok (.return_, 1) := by decide +kernel
def F_X0_pass_69 (fu : Nat) : Nat → Mm → Int32 → Option Mm
  | 0, _, _ => none
  | n + 1, M, x3 =>
    if (nI (ln 78)) ≤ x3 then
      some M
    else
      if (nI (ln 79)) ≤ x3 then
        some M
      else
        if x3 < 0 ∨ ln 79 ≤ x3.toNatClampNeg then none else (
        if x3 < 0 ∨ ln 78 ≤ x3.toNatClampNeg then none else (
        lt1 (pL M 78 x3.toNatClampNeg (M.2 79 x3.toNatClampNeg)) (fun M5 =>
        F_X0_pass_69 fu n M5 (x3 + (1 : Int32)))))
set_option maxRecDepth 100000 in
set_option maxHeartbeats 4000000 in
theorem w_X0_pass_69 {p : Program} {l : Launch} {e : Env} {s : State} {m : MethodId} {args : Array Value} {below : List Frame} {meth : Method} {c : Code} {G : Gv} (hC : Cx p s m args meth c cX0_pass 4 none RX0) {fu : Nat} {M' : Mm} : ∀ (n : Nat) {x3 : Int32} {M : Mm} {H : Heap} {locs : List Loc} {ls : Array Slot}, F_X0_pass_69 fu n M x3 = some M' → St G s H locs M → lv_has ls 4 [(0, .ref (ad G 77)), (3, .int x3)] → W p l e rm_X0_pass s m args below meth c H locs 0 0 (MQ below (QV G M') args s 0 0 (zA G)) (F0 m 69 ls []) := by
  intro n
  induction n with
  | zero =>
    intro x3 M H locs ls hF hw hl
    cases hF
  | succ n ih =>
    intro x3 M H locs ls hF hw hl
    unfold F_X0_pass_69 at hF
    refine lv_iload_n hC.1 hC.2.1 dX0_pass_69 rfl (lv_at hl 1 rfl) ?_
    refine lv_aload_n hC.1 hC.2.1 dX0_pass_70 rfl (lv_at hl 0 rfl) ?_
    refine g0_ways hC hw q1_144 dX0_pass_71 ?_
    refine r_alenJ hC.1 hC.2.1 hw (rfl : kd 78 = 2) dX0_pass_74 ?_
    refine lv_icmp_ge (tgt := 105) hC.1 hC.2.1 dX0_pass_75 (by decide) (fun b1 => ?_) (fun b1 => ?_)
    · have hF := ifP hF b1
      exact r_vretE hC hw hF dX0_pass_105
    · have hF := ifN hF b1
      refine lv_iload_n hC.1 hC.2.1 dX0_pass_78 rfl (lv_at hl 1 rfl) ?_
      refine lv_aload_n hC.1 hC.2.1 dX0_pass_79 rfl (lv_at hl 0 rfl) ?_
      refine g0_next hC hw q1_145 dX0_pass_80 ?_
      refine r_alenJ hC.1 hC.2.1 hw (rfl : kd 79 = 2) dX0_pass_83 ?_
      refine lv_icmp_ge (tgt := 105) hC.1 hC.2.1 dX0_pass_84 (by decide) (fun b2 => ?_) (fun b2 => ?_)
      · have hF := ifP hF b2
        exact r_vretE hC hw hF dX0_pass_105
      · have hF := ifN hF b2
        refine lv_aload_n hC.1 hC.2.1 dX0_pass_87 rfl (lv_at hl 0 rfl) ?_
        refine g0_ways hC hw q1_144 dX0_pass_88 ?_
        refine lv_iload_n hC.1 hC.2.1 dX0_pass_91 rfl (lv_at hl 1 rfl) ?_
        refine lv_aload_n hC.1 hC.2.1 dX0_pass_92 rfl (lv_at hl 0 rfl) ?_
        refine g0_next hC hw q1_145 dX0_pass_93 ?_
        refine lv_iload_n hC.1 hC.2.1 dX0_pass_96 rfl (lv_at hl 1 rfl) ?_
        obtain ⟨n3, hF⟩ := ifO hF
        refine r_lald hC.1 hC.2.1 hw (rfl : kd 79 = 2) n3 dX0_pass_97 ?_
        obtain ⟨n4, hF⟩ := ifO hF
        refine r_last hC.1 hC.2.1 hw (rfl : kd 78 = 2) n4 dX0_pass_98 (fun H locs hw => ?_)
        obtain ⟨M5, hw, hF⟩ := lt1W hF hw
        refine lv_iinc (v := (x3 + (1 : Int32))) (lv' := [(3, .int (x3 + (1 : Int32))), (0, .ref (ad G 77))]) hC.1 hC.2.1 dX0_pass_99 hl (k := 1) rfl rfl (by decide) rfl (fun ls hl => ?_)
        refine lv_goto (tgt := 69) hC.1 hC.2.1 dX0_pass_102 (by decide) ?_
        exact ih hF hw (lv_sub hl [1, 0] rfl)
def F_X0_pass_9 (fu : Nat) : Nat → Mm → Int32 → Int32 → Int32 → Option Mm
  | 0, _, _, _, _ => none
  | n + 1, M, x1, x2, x3 =>
    if (nI (ln 78)) ≤ x3 then
      F_X0_pass_69 fu fu M (0 : Int32)
    else
      if x3 < 0 ∨ ln 78 ≤ x3.toNatClampNeg then none else (
      ob1 (F_X0_add fu M 79 x3 ((M.2 78 x3.toNatClampNeg) * x2.toInt64)) (fun M4 =>
      if x3 < 0 ∨ ln 78 ≤ x3.toNatClampNeg then none else (
      ob1 (F_X0_add fu M4 79 (zmx (0 : Int32) (x3 - x1)) ((M4.2 78 x3.toNatClampNeg) * ((12 : Int32) - x2).toInt64)) (fun M7 =>
      F_X0_pass_9 fu n M7 x1 x2 (x3 + (1 : Int32))))))
set_option maxRecDepth 100000 in
set_option maxHeartbeats 4000000 in
theorem w_X0_pass_9 {p : Program} {l : Launch} {e : Env} {s : State} {m : MethodId} {args : Array Value} {below : List Frame} {meth : Method} {c : Code} {G : Gv} (hC : Cx p s m args meth c cX0_pass 4 none RX0) {fu : Nat} {M' : Mm} : ∀ (n : Nat) {x1 : Int32} {x2 : Int32} {x3 : Int32} {M : Mm} {H : Heap} {locs : List Loc} {ls : Array Slot}, F_X0_pass_9 fu n M x1 x2 x3 = some M' → St G s H locs M → lv_has ls 4 [(0, .ref (ad G 77)), (1, .int x1), (2, .int x2), (3, .int x3)] → W p l e rm_X0_pass s m args below meth c H locs 0 0 (MQ below (QV G M') args s 0 0 (zA G)) (F0 m 9 ls []) := by
  intro n
  induction n with
  | zero =>
    intro x1 x2 x3 M H locs ls hF hw hl
    cases hF
  | succ n ih =>
    intro x1 x2 x3 M H locs ls hF hw hl
    unfold F_X0_pass_9 at hF
    refine lv_iload_n hC.1 hC.2.1 dX0_pass_9 rfl (lv_at hl 3 rfl) ?_
    refine lv_aload_n hC.1 hC.2.1 dX0_pass_10 rfl (lv_at hl 0 rfl) ?_
    refine g0_ways hC hw q1_144 dX0_pass_11 ?_
    refine r_alenJ hC.1 hC.2.1 hw (rfl : kd 78 = 2) dX0_pass_14 ?_
    refine lv_icmp_ge (tgt := 67) hC.1 hC.2.1 dX0_pass_15 (by decide) (fun b1 => ?_) (fun b1 => ?_)
    · have hF := ifP hF b1
      refine lv_iconst (v := (0 : Int32)) hC.1 hC.2.1 dX0_pass_67 (by decide) ?_
      refine lv_istore_n (lv' := [(3, .int (0 : Int32)), (0, .ref (ad G 77)), (1, .int x1), (2, .int x2)]) hC.1 hC.2.1 dX0_pass_68 rfl hl (by decide) rfl (fun ls hl => ?_)
      exact w_X0_pass_69 hC _ hF hw (lv_sub hl [1, 0] rfl)
    · have hF := ifN hF b1
      refine lv_aload_n hC.1 hC.2.1 dX0_pass_18 rfl (lv_at hl 0 rfl) ?_
      refine g0_next hC hw q1_145 dX0_pass_19 ?_
      refine lv_iload_n hC.1 hC.2.1 dX0_pass_22 rfl (lv_at hl 3 rfl) ?_
      refine lv_aload_n hC.1 hC.2.1 dX0_pass_23 rfl (lv_at hl 0 rfl) ?_
      refine g0_ways hC hw q1_144 dX0_pass_24 ?_
      refine lv_iload_n hC.1 hC.2.1 dX0_pass_27 rfl (lv_at hl 3 rfl) ?_
      obtain ⟨n2, hF⟩ := ifO hF
      refine r_lald hC.1 hC.2.1 hw (rfl : kd 78 = 2) n2 dX0_pass_28 ?_
      refine lv_iload_n hC.1 hC.2.1 dX0_pass_29 rfl (lv_at hl 2 rfl) ?_
      refine lv_i2l hC.1 hC.2.1 dX0_pass_30 rfl ?_
      refine lv_lmul hC.1 hC.2.1 dX0_pass_31 ?_
      obtain ⟨M4, h3, hF⟩ := ob1S hF
      refine k_Sv (As := [.ref (ad G 79), .int x3, .long ((M.2 78 x3.toNatClampNeg) * x2.toInt64)]) (rest := []) hC hw (c_X0_add (M := M) (rfl : kd 79 = 2) h3) ys_X0_add q3_49 ⟨rfl, rfl⟩ ⟨Nat.le_of_ble_eq_true rfl, Nat.le_of_ble_eq_true rfl⟩ ⟨Nat.zero_le _, Nat.zero_le _⟩ rfl rfl (Nat.le_of_ble_eq_true rfl) hl dX0_pass_32 (fun H locs hw => ?_)
      refine lv_aload_n hC.1 hC.2.1 dX0_pass_35 rfl (lv_at hl 0 rfl) ?_
      refine g0_next hC hw q1_145 dX0_pass_36 ?_
      refine lv_iconst (v := (0 : Int32)) hC.1 hC.2.1 dX0_pass_39 (by decide) ?_
      refine lv_iload_n hC.1 hC.2.1 dX0_pass_40 rfl (lv_at hl 3 rfl) ?_
      refine lv_iload_n hC.1 hC.2.1 dX0_pass_41 rfl (lv_at hl 1 rfl) ?_
      refine lv_isub hC.1 hC.2.1 dX0_pass_42 ?_
      refine r_max ⟨hC.1, hC.2.1, by rw [hC.2.2.1]; exact hl.1.symm, hC.2.2.2.1, hC.2.2.2.2.1⟩ q3_57 ⟨Nat.le_of_ble_eq_true rfl, Nat.le_of_ble_eq_true rfl⟩ ⟨Nat.zero_le _, Nat.zero_le _⟩ dX0_pass_43 ?_
      refine lv_aload_n hC.1 hC.2.1 dX0_pass_46 rfl (lv_at hl 0 rfl) ?_
      refine g0_ways hC hw q1_144 dX0_pass_47 ?_
      refine lv_iload_n hC.1 hC.2.1 dX0_pass_50 rfl (lv_at hl 3 rfl) ?_
      obtain ⟨n5, hF⟩ := ifO hF
      refine r_lald hC.1 hC.2.1 hw (rfl : kd 78 = 2) n5 dX0_pass_51 ?_
      refine lv_bipush (v := (12 : Int32)) hC.1 hC.2.1 dX0_pass_52 (by decide) ?_
      refine lv_iload_n hC.1 hC.2.1 dX0_pass_54 rfl (lv_at hl 2 rfl) ?_
      refine lv_isub hC.1 hC.2.1 dX0_pass_55 ?_
      refine lv_i2l hC.1 hC.2.1 dX0_pass_56 rfl ?_
      refine lv_lmul hC.1 hC.2.1 dX0_pass_57 ?_
      obtain ⟨M7, h6, hF⟩ := ob1S hF
      refine k_Sv (As := [.ref (ad G 79), .int (zmx (0 : Int32) (x3 - x1)), .long ((M4.2 78 x3.toNatClampNeg) * ((12 : Int32) - x2).toInt64)]) (rest := []) hC hw (c_X0_add (M := M4) (rfl : kd 79 = 2) h6) ys_X0_add q3_49 ⟨rfl, rfl⟩ ⟨Nat.le_of_ble_eq_true rfl, Nat.le_of_ble_eq_true rfl⟩ ⟨Nat.zero_le _, Nat.zero_le _⟩ rfl rfl (Nat.le_of_ble_eq_true rfl) hl dX0_pass_58 (fun H locs hw => ?_)
      refine lv_iinc (v := (x3 + (1 : Int32))) (lv' := [(3, .int (x3 + (1 : Int32))), (0, .ref (ad G 77)), (1, .int x1), (2, .int x2)]) hC.1 hC.2.1 dX0_pass_61 hl (k := 3) rfl rfl (by decide) rfl (fun ls hl => ?_)
      refine lv_goto (tgt := 9) hC.1 hC.2.1 dX0_pass_64 (by decide) ?_
      exact ih hF hw (lv_sub hl [1, 2, 3, 0] rfl)
def F_X0_pass (fu : Nat) (M : Mm) (x1 : Int32) (x2 : Int32) : Option Mm :=
  ob1 (F_X0_clear fu M 79) (fun M2 =>
  F_X0_pass_9 fu fu M2 x1 x2 (0 : Int32))
set_option maxRecDepth 100000 in
set_option maxHeartbeats 4000000 in
theorem c_X0_pass {l : Launch} {G : Gv} {fu : Nat} {M : Mm} {x1 : Int32} {x2 : Int32} {M' : Mm} (hF : F_X0_pass fu M x1 x2 = some M') : Met l yX0_pass (.code yX0_pass cX0_pass 4 none :: zU) rm_X0_pass (va_Pc [.ref (ad G 77), .int x1, .int x2] (Wd G M)) (QV G M') 0 0 (zA G) := by
  refine zMet (by decide) rfl (Nat.le_of_ble_eq_true rfl) ?_
  intro p e s m below meth c hC hw ls hl
  have hl : lv_has ls 4 [(0, .ref (ad G 77)), (1, .int x1), (2, .int x2)] := hl
  unfold F_X0_pass at hF
  refine lv_aload_n hC.1 hC.2.1 dX0_pass_0 rfl (lv_at hl 0 rfl) ?_
  refine g0_next hC hw q1_145 dX0_pass_1 ?_
  obtain ⟨M2, h1, hF⟩ := ob1S hF
  refine k_Sv (As := [.ref (ad G 79)]) (rest := []) hC hw (c_X0_clear (M := M) (rfl : kd 79 = 2) h1) ys_X0_clear q3_45 ⟨rfl, rfl⟩ ⟨Nat.le_of_ble_eq_true rfl, Nat.le_of_ble_eq_true rfl⟩ ⟨Nat.zero_le _, Nat.zero_le _⟩ rfl rfl (Nat.le_of_ble_eq_true rfl) hl dX0_pass_4 (fun H locs hw => ?_)
  refine lv_iconst (v := (0 : Int32)) hC.1 hC.2.1 dX0_pass_7 (by decide) ?_
  refine lv_istore_n (lv' := [(3, .int (0 : Int32)), (0, .ref (ad G 77)), (1, .int x1), (2, .int x2)]) hC.1 hC.2.1 dX0_pass_8 rfl hl (by decide) rfl (fun ls hl => ?_)
  exact w_X0_pass_9 hC _ hF hw (lv_sub hl [1, 2, 3, 0] rfl)
abbrev rm_X0_weigh : Room := { frames := 3, cells := 0, slots := 0, locals := 76 }
theorem yv_X0_weigh : YV yX0_weigh cX0_weigh 6 none 4 RX0 := ⟨⟨q3_42, q3_43, q1_5, q3_44⟩, by decide +kernel⟩
theorem dX0_weigh_0 : decode cX0_weigh 0 = .ok (.aload_n 0, 1) := by decide +kernel
theorem dX0_weigh_1 : decode cX0_weigh 1 = .ok (.getfield 9, 3) := by decide +kernel
theorem dX0_weigh_4 : decode cX0_weigh 4 = .ok (.invokestatic 18, 3) := by decide +kernel
theorem dX0_weigh_7 : decode cX0_weigh 7 = .ok (.aload_n 0, 1) := by decide +kernel
theorem dX0_weigh_8 : decode cX0_weigh 8 = .ok (.getfield 9, 3) := by decide +kernel
theorem dX0_weigh_11 : decode cX0_weigh 11 = .ok (.aload_n 1, 1) := by decide +kernel
theorem dX0_weigh_12 : decode cX0_weigh 12 = .ok (.getfield 22, 3) := by decide +kernel
theorem dX0_weigh_15 : decode cX0_weigh 15 = .ok (.iload_n 2, 1) := by decide +kernel
theorem dX0_weigh_16 : decode cX0_weigh 16 = .ok (.invokestatic 28, 3) := by decide +kernel
theorem dX0_weigh_19 : decode cX0_weigh 19 = .ok (.lconst 1, 1) := by decide +kernel
theorem dX0_weigh_20 : decode cX0_weigh 20 = .ok (.invokestatic 32, 3) := by decide +kernel
theorem dX0_weigh_23 : decode cX0_weigh 23 = .ok (.aload_n 0, 1) := by decide +kernel
theorem dX0_weigh_24 : decode cX0_weigh 24 = .ok (.lconst 1, 1) := by decide +kernel
theorem dX0_weigh_25 : decode cX0_weigh 25 = .ok (.putfield 36, 3) := by decide +kernel
theorem dX0_weigh_28 : decode cX0_weigh 28 = .ok (.iconst 0, 1) := by decide +kernel
theorem dX0_weigh_29 : decode cX0_weigh 29 = .ok (.istore 5, 2) := by decide +kernel
theorem dX0_weigh_31 : decode cX0_weigh 31 = .ok (.iload 5, 2) := by decide +kernel
theorem dX0_weigh_33 : decode cX0_weigh 33 = .ok (.iload_n 3, 1) := by decide +kernel
theorem dX0_weigh_34 : decode cX0_weigh 34 = .ok (.if_icmp .ge 34, 3) := by decide +kernel
theorem dX0_weigh_37 : decode cX0_weigh 37 = .ok (.aload_n 0, 1) := by decide +kernel
theorem dX0_weigh_38 : decode cX0_weigh 38 = .ok (.aload_n 1, 1) := by decide +kernel
theorem dX0_weigh_39 : decode cX0_weigh 39 = .ok (.iload_n 2, 1) := by decide +kernel
theorem dX0_weigh_40 : decode cX0_weigh 40 = .ok (.iload 5, 2) := by decide +kernel
theorem dX0_weigh_42 : decode cX0_weigh 42 = .ok (.invokevirtual 40, 3) := by decide +kernel
theorem dX0_weigh_45 : decode cX0_weigh 45 = .ok (.iload 4, 2) := by decide +kernel
theorem dX0_weigh_47 : decode cX0_weigh 47 = .ok (.invokevirtual 44, 3) := by decide +kernel
theorem dX0_weigh_50 : decode cX0_weigh 50 = .ok (.aload_n 0, 1) := by decide +kernel
theorem dX0_weigh_51 : decode cX0_weigh 51 = .ok (.dup, 1) := by decide +kernel
theorem dX0_weigh_52 : decode cX0_weigh 52 = .ok (.getfield 36, 3) := by decide +kernel
theorem dX0_weigh_55 : decode cX0_weigh 55 = .ok (.ldc2_w 48, 3) := by decide +kernel
theorem dX0_weigh_58 : decode cX0_weigh 58 = .ok (.lmul, 1) := by decide +kernel
theorem dX0_weigh_59 : decode cX0_weigh 59 = .ok (.putfield 36, 3) := by decide +kernel
theorem dX0_weigh_62 : decode cX0_weigh 62 = .ok (.iinc 5 1, 3) := by decide +kernel
theorem dX0_weigh_65 : decode cX0_weigh 65 = .ok (.goto (-34), 3) := by decide +kernel
theorem dX0_weigh_68 : decode cX0_weigh 68 = .ok (.return_, 1) := by decide +kernel
def F_X0_weigh_31 (fu : Nat) : Nat → Mm → Nat → Int32 → Int32 → Int32 → Int32 → Option Mm
  | 0, _, _, _, _, _, _ => none
  | n + 1, M, c1, x2, x3, x4, x5 =>
    if x3 ≤ x5 then
      some M
    else
      ob1 (F_X2_meltingIn fu M c1 x2 x5) (fun r3 =>
      ob1 (F_X0_pass fu M r3 x4) (fun M5 =>
      lt1 (pL M5 77 2 ((M5.2 77 2) * (12 : Int64))) (fun M6 =>
      F_X0_weigh_31 fu n M6 c1 x2 x3 x4 (x5 + (1 : Int32)))))
set_option maxRecDepth 100000 in
set_option maxHeartbeats 4000000 in
theorem w_X0_weigh_31 {p : Program} {l : Launch} {e : Env} {s : State} {m : MethodId} {args : Array Value} {below : List Frame} {meth : Method} {c : Code} {G : Gv} (hC : Cx p s m args meth c cX0_weigh 6 none RX0) {fu : Nat} {M' : Mm} : ∀ (n : Nat) {c1 : Nat} {x2 : Int32} {x3 : Int32} {x4 : Int32} {x5 : Int32} {M : Mm} {H : Heap} {locs : List Loc} {ls : Array Slot} (hk1 : kd c1 = 11), F_X0_weigh_31 fu n M c1 x2 x3 x4 x5 = some M' → St G s H locs M → lv_has ls 6 [(0, .ref (ad G 77)), (1, .ref (ad G c1)), (2, .int x2), (3, .int x3), (4, .int x4), (5, .int x5)] → W p l e rm_X0_weigh s m args below meth c H locs 0 0 (MQ below (QV G M') args s 0 0 (zA G)) (F0 m 31 ls []) := by
  intro n
  induction n with
  | zero =>
    intro c1 x2 x3 x4 x5 M H locs ls hk1 hF hw hl
    cases hF
  | succ n ih =>
    intro c1 x2 x3 x4 x5 M H locs ls hk1 hF hw hl
    unfold F_X0_weigh_31 at hF
    refine lv_iload hC.1 hC.2.1 dX0_weigh_31 (lv_at hl 5 rfl) ?_
    refine lv_iload_n hC.1 hC.2.1 dX0_weigh_33 rfl (lv_at hl 3 rfl) ?_
    refine lv_icmp_ge (tgt := 68) hC.1 hC.2.1 dX0_weigh_34 (by decide) (fun b1 => ?_) (fun b1 => ?_)
    · have hF := ifP hF b1
      exact r_vretE hC hw hF dX0_weigh_68
    · have hF := ifN hF b1
      refine lv_aload_n hC.1 hC.2.1 dX0_weigh_37 rfl (lv_at hl 0 rfl) ?_
      refine lv_aload_n hC.1 hC.2.1 dX0_weigh_38 rfl (lv_at hl 1 rfl) ?_
      refine lv_iload_n hC.1 hC.2.1 dX0_weigh_39 rfl (lv_at hl 2 rfl) ?_
      refine lv_iload hC.1 hC.2.1 dX0_weigh_40 (lv_at hl 5 rfl) ?_
      obtain ⟨r3, h2, hF⟩ := ob1S hF
      refine k_Vi (As := [.int x2, .int x5]) (rest := [.ref (ad G 77)]) hC hw (c_X2_meltingIn (M := M) hk1 h2) (RC_N hk1) yv_X2_meltingIn q3_52 ⟨rfl, rfl⟩ ⟨Nat.le_of_ble_eq_true rfl, Nat.le_of_ble_eq_true rfl⟩ ⟨Nat.zero_le _, Nat.zero_le _⟩ rfl rfl (Nat.le_of_ble_eq_true rfl) hl dX0_weigh_42 (fun H locs hw => ?_)
      refine lv_iload hC.1 hC.2.1 dX0_weigh_45 (lv_at hl 4 rfl) ?_
      obtain ⟨M5, h4, hF⟩ := ob1S hF
      refine k_Vv (As := [.int r3, .int x4]) (rest := []) hC hw (c_X0_pass (M := M) h4) RC_C yv_X0_pass q3_53 ⟨rfl, rfl⟩ ⟨Nat.le_of_ble_eq_true rfl, Nat.le_of_ble_eq_true rfl⟩ ⟨Nat.zero_le _, Nat.zero_le _⟩ rfl rfl (Nat.le_of_ble_eq_true rfl) hl dX0_weigh_47 (fun H locs hw => ?_)
      refine lv_aload_n hC.1 hC.2.1 dX0_weigh_50 rfl (lv_at hl 0 rfl) ?_
      refine lv_dup hC.1 hC.2.1 dX0_weigh_51 rfl ?_
      refine g0_allWays hC hw q1_146 dX0_weigh_52 ?_
      refine lv_ldc2 (v := (12 : Int64)) hC.1 hC.2.1 hC.2.2.2.1 (hC.2.2.2.2.1 _ q3_58) dX0_weigh_55 ?_
      refine lv_lmul hC.1 hC.2.1 dX0_weigh_58 ?_
      refine u0_allWays hC hw q1_146 dX0_weigh_59 (fun H locs hw => ?_)
      obtain ⟨M6, hw, hF⟩ := lt1W hF hw
      refine lv_iinc (v := (x5 + (1 : Int32))) (lv' := [(5, .int (x5 + (1 : Int32))), (0, .ref (ad G 77)), (1, .ref (ad G c1)), (2, .int x2), (3, .int x3), (4, .int x4)]) hC.1 hC.2.1 dX0_weigh_62 hl (k := 5) rfl rfl (by decide) rfl (fun ls hl => ?_)
      refine lv_goto (tgt := 31) hC.1 hC.2.1 dX0_weigh_65 (by decide) ?_
      exact ih hk1 hF hw (lv_sub hl [1, 2, 3, 4, 5, 0] rfl)
def F_X0_weigh (fu : Nat) (M : Mm) (c1 : Nat) (x2 : Int32) (x3 : Int32) (x4 : Int32) : Option Mm :=
  ob1 (F_X0_clear fu M 78) (fun M2 =>
  ob1 (F_X6_read fu M2 (c1 + 4) x2) (fun r4 =>
  ob1 (F_X0_add fu M2 78 r4 (1 : Int64)) (fun M6 =>
  lt1 (pL M6 77 2 (1 : Int64)) (fun M7 =>
  F_X0_weigh_31 fu fu M7 c1 x2 x3 x4 (0 : Int32)))))
set_option maxRecDepth 100000 in
set_option maxHeartbeats 4000000 in
theorem c_X0_weigh {l : Launch} {G : Gv} {fu : Nat} {M : Mm} {c1 : Nat} {x2 : Int32} {x3 : Int32} {x4 : Int32} (hk1 : kd c1 = 11) {M' : Mm} (hF : F_X0_weigh fu M c1 x2 x3 x4 = some M') : Met l yX0_weigh (.code yX0_weigh cX0_weigh 6 none :: zU) rm_X0_weigh (va_Pc [.ref (ad G 77), .ref (ad G c1), .int x2, .int x3, .int x4] (Wd G M)) (QV G M') 0 0 (zA G) := by
  refine zMet (by decide) rfl (Nat.le_of_ble_eq_true rfl) ?_
  intro p e s m below meth c hC hw ls hl
  have hl : lv_has ls 6 [(0, .ref (ad G 77)), (1, .ref (ad G c1)), (2, .int x2), (3, .int x3), (4, .int x4)] := hl
  unfold F_X0_weigh at hF
  refine lv_aload_n hC.1 hC.2.1 dX0_weigh_0 rfl (lv_at hl 0 rfl) ?_
  refine g0_ways hC hw q1_144 dX0_weigh_1 ?_
  obtain ⟨M2, h1, hF⟩ := ob1S hF
  refine k_Sv (As := [.ref (ad G 78)]) (rest := []) hC hw (c_X0_clear (M := M) (rfl : kd 78 = 2) h1) ys_X0_clear q3_45 ⟨rfl, rfl⟩ ⟨Nat.le_of_ble_eq_true rfl, Nat.le_of_ble_eq_true rfl⟩ ⟨Nat.zero_le _, Nat.zero_le _⟩ rfl rfl (Nat.le_of_ble_eq_true rfl) hl dX0_weigh_4 (fun H locs hw => ?_)
  refine lv_aload_n hC.1 hC.2.1 dX0_weigh_7 rfl (lv_at hl 0 rfl) ?_
  refine g0_ways hC hw q1_144 dX0_weigh_8 ?_
  refine lv_aload_n hC.1 hC.2.1 dX0_weigh_11 rfl (lv_at hl 1 rfl) ?_
  refine g2_bulkOf hC hw hk1 q1_41 dX0_weigh_12 ?_
  refine lv_iload_n hC.1 hC.2.1 dX0_weigh_15 rfl (lv_at hl 2 rfl) ?_
  obtain ⟨r4, h3, hF⟩ := ob1S hF
  refine k_Ni (As := [.ref (ad G (c1 + 4)), .int x2]) (rest := [.ref (ad G 78)]) hC hw (c_X6_read (M := M2) (kdN4 hk1) h3) ys_X6_read (k := 11) rfl ⟨rfl, rfl⟩ ⟨Nat.le_of_ble_eq_true rfl, Nat.le_of_ble_eq_true rfl⟩ ⟨Nat.zero_le _, Nat.zero_le _⟩ rfl rfl (Nat.le_of_ble_eq_true rfl) hl dX0_weigh_16 (fun H locs hw => ?_)
  refine lv_lconst (v := (1 : Int64)) hC.1 hC.2.1 dX0_weigh_19 (by decide) ?_
  obtain ⟨M6, h5, hF⟩ := ob1S hF
  refine k_Sv (As := [.ref (ad G 78), .int r4, .long (1 : Int64)]) (rest := []) hC hw (c_X0_add (M := M2) (rfl : kd 78 = 2) h5) ys_X0_add q3_49 ⟨rfl, rfl⟩ ⟨Nat.le_of_ble_eq_true rfl, Nat.le_of_ble_eq_true rfl⟩ ⟨Nat.zero_le _, Nat.zero_le _⟩ rfl rfl (Nat.le_of_ble_eq_true rfl) hl dX0_weigh_20 (fun H locs hw => ?_)
  refine lv_aload_n hC.1 hC.2.1 dX0_weigh_23 rfl (lv_at hl 0 rfl) ?_
  refine lv_lconst (v := (1 : Int64)) hC.1 hC.2.1 dX0_weigh_24 (by decide) ?_
  refine u0_allWays hC hw q1_146 dX0_weigh_25 (fun H locs hw => ?_)
  obtain ⟨M7, hw, hF⟩ := lt1W hF hw
  refine lv_iconst (v := (0 : Int32)) hC.1 hC.2.1 dX0_weigh_28 (by decide) ?_
  refine lv_istore (lv' := [(5, .int (0 : Int32)), (0, .ref (ad G 77)), (1, .ref (ad G c1)), (2, .int x2), (3, .int x3), (4, .int x4)]) hC.1 hC.2.1 dX0_weigh_29 hl (by decide) rfl (fun ls hl => ?_)
  exact w_X0_weigh_31 hC _ hk1 hF hw (lv_sub hl [1, 2, 3, 4, 5, 0] rfl)
abbrev rm_X0_waysToLast : Room := { frames := 0, cells := 0, slots := 0, locals := 0 }
theorem yv_X0_waysToLast : YV yX0_waysToLast cX0_waysToLast 4 (some .long) 0 RX0 := ⟨⟨q3_60, q3_61, q1_5, q3_62⟩, by decide +kernel⟩
theorem dX0_waysToLast_0 : decode cX0_waysToLast 0 = .ok (.lconst 0, 1) := by decide +kernel
theorem dX0_waysToLast_1 : decode cX0_waysToLast 1 = .ok (.lstore_n 1, 1) := by decide +kernel
theorem dX0_waysToLast_2 : decode cX0_waysToLast 2 = .ok (.iconst 1, 1) := by decide +kernel
theorem dX0_waysToLast_3 : decode cX0_waysToLast 3 = .ok (.istore_n 3, 1) := by decide +kernel
theorem dX0_waysToLast_4 : decode cX0_waysToLast 4 = .ok (.iload_n 3, 1) := by decide +kernel
theorem dX0_waysToLast_5 : decode cX0_waysToLast 5 = .ok (.aload_n 0, 1) := by decide +kernel
theorem dX0_waysToLast_6 : decode cX0_waysToLast 6 = .ok (.getfield 9, 3) := by decide +kernel
theorem dX0_waysToLast_9 : decode cX0_waysToLast 9 = .ok (.arraylength, 1) := by decide +kernel
theorem dX0_waysToLast_10 : decode cX0_waysToLast 10 = .ok (.if_icmp .ge 18, 3) := by decide +kernel
theorem dX0_waysToLast_13 : decode cX0_waysToLast 13 = .ok (.lload_n 1, 1) := by decide +kernel
theorem dX0_waysToLast_14 : decode cX0_waysToLast 14 = .ok (.aload_n 0, 1) := by decide +kernel
theorem dX0_waysToLast_15 : decode cX0_waysToLast 15 = .ok (.getfield 9, 3) := by decide +kernel
theorem dX0_waysToLast_18 : decode cX0_waysToLast 18 = .ok (.iload_n 3, 1) := by decide +kernel
theorem dX0_waysToLast_19 : decode cX0_waysToLast 19 = .ok (.laload, 1) := by decide +kernel
theorem dX0_waysToLast_20 : decode cX0_waysToLast 20 = .ok (.ladd, 1) := by decide +kernel
theorem dX0_waysToLast_21 : decode cX0_waysToLast 21 = .ok (.lstore_n 1, 1) := by decide +kernel
theorem dX0_waysToLast_22 : decode cX0_waysToLast 22 = .ok (.iinc 3 1, 3) := by decide +kernel
theorem dX0_waysToLast_25 : decode cX0_waysToLast 25 = .ok (.goto (-21), 3) := by decide +kernel
theorem dX0_waysToLast_28 : decode cX0_waysToLast 28 = .ok (.lload_n 1, 1) := by decide +kernel
theorem dX0_waysToLast_29 : decode cX0_waysToLast 29 = .ok (.lreturn, 1) := by decide +kernel
def F_X0_waysToLast_4 (fu : Nat) (M : Mm) : Nat → Int64 → Int32 → Option Int64
  | 0, _, _ => none
  | n + 1, x1, x3 =>
    if (nI (ln 78)) ≤ x3 then
      some x1
    else
      if x3 < 0 ∨ ln 78 ≤ x3.toNatClampNeg then none else (
      F_X0_waysToLast_4 fu M n (x1 + (M.2 78 x3.toNatClampNeg)) (x3 + (1 : Int32)))
set_option maxRecDepth 100000 in
set_option maxHeartbeats 4000000 in
theorem w_X0_waysToLast_4 {p : Program} {l : Launch} {e : Env} {s : State} {m : MethodId} {args : Array Value} {below : List Frame} {meth : Method} {c : Code} {G : Gv} (hC : Cx p s m args meth c cX0_waysToLast 4 (some .long) RX0) {fu : Nat} {r : Int64} {M : Mm} : ∀ (n : Nat) {x1 : Int64} {x3 : Int32} {H : Heap} {locs : List Loc} {ls : Array Slot}, F_X0_waysToLast_4 fu M n x1 x3 = some r → St G s H locs M → lv_has ls 4 [(0, .ref (ad G 77)), (1, .long x1), (3, .int x3)] → W p l e rm_X0_waysToLast s m args below meth c H locs 0 0 (MQ below (QL G r M) args s 0 0 (zA G)) (F0 m 4 ls []) := by
  intro n
  induction n with
  | zero =>
    intro x1 x3 H locs ls hF hw hl
    cases hF
  | succ n ih =>
    intro x1 x3 H locs ls hF hw hl
    unfold F_X0_waysToLast_4 at hF
    refine lv_iload_n hC.1 hC.2.1 dX0_waysToLast_4 rfl (lv_at hl 2 rfl) ?_
    refine lv_aload_n hC.1 hC.2.1 dX0_waysToLast_5 rfl (lv_at hl 0 rfl) ?_
    refine g0_ways hC hw q1_144 dX0_waysToLast_6 ?_
    refine r_alenJ hC.1 hC.2.1 hw (rfl : kd 78 = 2) dX0_waysToLast_9 ?_
    refine lv_icmp_ge (tgt := 28) hC.1 hC.2.1 dX0_waysToLast_10 (by decide) (fun b1 => ?_) (fun b1 => ?_)
    · have hF := ifP hF b1
      refine lv_lload_n hC.1 hC.2.1 dX0_waysToLast_28 rfl (lv_at hl 1 rfl) ?_
      exact r_lretP hC hw hF dX0_waysToLast_29
    · have hF := ifN hF b1
      refine lv_lload_n hC.1 hC.2.1 dX0_waysToLast_13 rfl (lv_at hl 1 rfl) ?_
      refine lv_aload_n hC.1 hC.2.1 dX0_waysToLast_14 rfl (lv_at hl 0 rfl) ?_
      refine g0_ways hC hw q1_144 dX0_waysToLast_15 ?_
      refine lv_iload_n hC.1 hC.2.1 dX0_waysToLast_18 rfl (lv_at hl 2 rfl) ?_
      obtain ⟨n2, hF⟩ := ifO hF
      refine r_lald hC.1 hC.2.1 hw (rfl : kd 78 = 2) n2 dX0_waysToLast_19 ?_
      refine lv_ladd hC.1 hC.2.1 dX0_waysToLast_20 ?_
      refine lv_lstore_n (lv' := [(1, .long (x1 + (M.2 78 x3.toNatClampNeg))), (0, .ref (ad G 77)), (3, .int x3)]) hC.1 hC.2.1 dX0_waysToLast_21 rfl hl (by decide) rfl (fun ls hl => ?_)
      refine lv_iinc (v := (x3 + (1 : Int32))) (lv' := [(3, .int (x3 + (1 : Int32))), (1, .long (x1 + (M.2 78 x3.toNatClampNeg))), (0, .ref (ad G 77))]) hC.1 hC.2.1 dX0_waysToLast_22 hl (k := 2) rfl rfl (by decide) rfl (fun ls hl => ?_)
      refine lv_goto (tgt := 4) hC.1 hC.2.1 dX0_waysToLast_25 (by decide) ?_
      exact ih hF hw (lv_sub hl [2, 1, 0] rfl)
def F_X0_waysToLast (fu : Nat) (M : Mm) : Option Int64 :=
  F_X0_waysToLast_4 fu M fu (0 : Int64) (1 : Int32)
set_option maxRecDepth 100000 in
set_option maxHeartbeats 4000000 in
theorem c_X0_waysToLast {l : Launch} {G : Gv} {fu : Nat} {M : Mm} {r : Int64} (hF : F_X0_waysToLast fu M = some r) : Met l yX0_waysToLast (.code yX0_waysToLast cX0_waysToLast 4 (some .long) :: zU) rm_X0_waysToLast (va_Pc [.ref (ad G 77)] (Wd G M)) (QL G r M) 0 0 (zA G) := by
  refine zMet (by decide) rfl (Nat.le_of_ble_eq_true rfl) ?_
  intro p e s m below meth c hC hw ls hl
  have hl : lv_has ls 4 [(0, .ref (ad G 77))] := hl
  unfold F_X0_waysToLast at hF
  refine lv_lconst (v := (0 : Int64)) hC.1 hC.2.1 dX0_waysToLast_0 (by decide) ?_
  refine lv_lstore_n (lv' := [(1, .long (0 : Int64)), (0, .ref (ad G 77))]) hC.1 hC.2.1 dX0_waysToLast_1 rfl hl (by decide) rfl (fun ls hl => ?_)
  refine lv_iconst (v := (1 : Int32)) hC.1 hC.2.1 dX0_waysToLast_2 (by decide) ?_
  refine lv_istore_n (lv' := [(3, .int (1 : Int32)), (1, .long (0 : Int64)), (0, .ref (ad G 77))]) hC.1 hC.2.1 dX0_waysToLast_3 rfl hl (by decide) rfl (fun ls hl => ?_)
  exact w_X0_waysToLast_4 hC _ hF hw (lv_sub hl [2, 1, 0] rfl)
abbrev rm_X0_bulkOfWays : Room := { frames := 0, cells := 0, slots := 0, locals := 0 }
theorem yv_X0_bulkOfWays : YV yX0_bulkOfWays cX0_bulkOfWays 4 (some .long) 0 RX0 := ⟨⟨q3_75, q3_76, q1_5, q3_77⟩, by decide +kernel⟩
theorem dX0_bulkOfWays_0 : decode cX0_bulkOfWays 0 = .ok (.lconst 0, 1) := by decide +kernel
theorem dX0_bulkOfWays_1 : decode cX0_bulkOfWays 1 = .ok (.lstore_n 1, 1) := by decide +kernel
theorem dX0_bulkOfWays_2 : decode cX0_bulkOfWays 2 = .ok (.iconst 1, 1) := by decide +kernel
theorem dX0_bulkOfWays_3 : decode cX0_bulkOfWays 3 = .ok (.istore_n 3, 1) := by decide +kernel
theorem dX0_bulkOfWays_4 : decode cX0_bulkOfWays 4 = .ok (.iload_n 3, 1) := by decide +kernel
theorem dX0_bulkOfWays_5 : decode cX0_bulkOfWays 5 = .ok (.aload_n 0, 1) := by decide +kernel
theorem dX0_bulkOfWays_6 : decode cX0_bulkOfWays 6 = .ok (.getfield 9, 3) := by decide +kernel
theorem dX0_bulkOfWays_9 : decode cX0_bulkOfWays 9 = .ok (.arraylength, 1) := by decide +kernel
theorem dX0_bulkOfWays_10 : decode cX0_bulkOfWays 10 = .ok (.if_icmp .ge 21, 3) := by decide +kernel
theorem dX0_bulkOfWays_13 : decode cX0_bulkOfWays 13 = .ok (.lload_n 1, 1) := by decide +kernel
theorem dX0_bulkOfWays_14 : decode cX0_bulkOfWays 14 = .ok (.iload_n 3, 1) := by decide +kernel
theorem dX0_bulkOfWays_15 : decode cX0_bulkOfWays 15 = .ok (.i2l, 1) := by decide +kernel
theorem dX0_bulkOfWays_16 : decode cX0_bulkOfWays 16 = .ok (.aload_n 0, 1) := by decide +kernel
theorem dX0_bulkOfWays_17 : decode cX0_bulkOfWays 17 = .ok (.getfield 9, 3) := by decide +kernel
theorem dX0_bulkOfWays_20 : decode cX0_bulkOfWays 20 = .ok (.iload_n 3, 1) := by decide +kernel
theorem dX0_bulkOfWays_21 : decode cX0_bulkOfWays 21 = .ok (.laload, 1) := by decide +kernel
theorem dX0_bulkOfWays_22 : decode cX0_bulkOfWays 22 = .ok (.lmul, 1) := by decide +kernel
theorem dX0_bulkOfWays_23 : decode cX0_bulkOfWays 23 = .ok (.ladd, 1) := by decide +kernel
theorem dX0_bulkOfWays_24 : decode cX0_bulkOfWays 24 = .ok (.lstore_n 1, 1) := by decide +kernel
theorem dX0_bulkOfWays_25 : decode cX0_bulkOfWays 25 = .ok (.iinc 3 1, 3) := by decide +kernel
theorem dX0_bulkOfWays_28 : decode cX0_bulkOfWays 28 = .ok (.goto (-24), 3) := by decide +kernel
theorem dX0_bulkOfWays_31 : decode cX0_bulkOfWays 31 = .ok (.lload_n 1, 1) := by decide +kernel
theorem dX0_bulkOfWays_32 : decode cX0_bulkOfWays 32 = .ok (.lreturn, 1) := by decide +kernel
def F_X0_bulkOfWays_4 (fu : Nat) (M : Mm) : Nat → Int64 → Int32 → Option Int64
  | 0, _, _ => none
  | n + 1, x1, x3 =>
    if (nI (ln 78)) ≤ x3 then
      some x1
    else
      if x3 < 0 ∨ ln 78 ≤ x3.toNatClampNeg then none else (
      lt1 (x1 + (x3.toInt64 * (M.2 78 x3.toNatClampNeg))) (fun y3 =>
      F_X0_bulkOfWays_4 fu M n y3 (x3 + (1 : Int32))))
set_option maxRecDepth 100000 in
set_option maxHeartbeats 4000000 in
theorem w_X0_bulkOfWays_4 {p : Program} {l : Launch} {e : Env} {s : State} {m : MethodId} {args : Array Value} {below : List Frame} {meth : Method} {c : Code} {G : Gv} (hC : Cx p s m args meth c cX0_bulkOfWays 4 (some .long) RX0) {fu : Nat} {r : Int64} {M : Mm} : ∀ (n : Nat) {x1 : Int64} {x3 : Int32} {H : Heap} {locs : List Loc} {ls : Array Slot}, F_X0_bulkOfWays_4 fu M n x1 x3 = some r → St G s H locs M → lv_has ls 4 [(0, .ref (ad G 77)), (1, .long x1), (3, .int x3)] → W p l e rm_X0_bulkOfWays s m args below meth c H locs 0 0 (MQ below (QL G r M) args s 0 0 (zA G)) (F0 m 4 ls []) := by
  intro n
  induction n with
  | zero =>
    intro x1 x3 H locs ls hF hw hl
    cases hF
  | succ n ih =>
    intro x1 x3 H locs ls hF hw hl
    unfold F_X0_bulkOfWays_4 at hF
    refine lv_iload_n hC.1 hC.2.1 dX0_bulkOfWays_4 rfl (lv_at hl 2 rfl) ?_
    refine lv_aload_n hC.1 hC.2.1 dX0_bulkOfWays_5 rfl (lv_at hl 0 rfl) ?_
    refine g0_ways hC hw q1_144 dX0_bulkOfWays_6 ?_
    refine r_alenJ hC.1 hC.2.1 hw (rfl : kd 78 = 2) dX0_bulkOfWays_9 ?_
    refine lv_icmp_ge (tgt := 31) hC.1 hC.2.1 dX0_bulkOfWays_10 (by decide) (fun b1 => ?_) (fun b1 => ?_)
    · have hF := ifP hF b1
      refine lv_lload_n hC.1 hC.2.1 dX0_bulkOfWays_31 rfl (lv_at hl 1 rfl) ?_
      exact r_lretP hC hw hF dX0_bulkOfWays_32
    · have hF := ifN hF b1
      refine lv_lload_n hC.1 hC.2.1 dX0_bulkOfWays_13 rfl (lv_at hl 1 rfl) ?_
      refine lv_iload_n hC.1 hC.2.1 dX0_bulkOfWays_14 rfl (lv_at hl 2 rfl) ?_
      refine lv_i2l hC.1 hC.2.1 dX0_bulkOfWays_15 rfl ?_
      refine lv_aload_n hC.1 hC.2.1 dX0_bulkOfWays_16 rfl (lv_at hl 0 rfl) ?_
      refine g0_ways hC hw q1_144 dX0_bulkOfWays_17 ?_
      refine lv_iload_n hC.1 hC.2.1 dX0_bulkOfWays_20 rfl (lv_at hl 2 rfl) ?_
      obtain ⟨n2, hF⟩ := ifO hF
      refine r_lald hC.1 hC.2.1 hw (rfl : kd 78 = 2) n2 dX0_bulkOfWays_21 ?_
      refine lv_lmul hC.1 hC.2.1 dX0_bulkOfWays_22 ?_
      refine lv_ladd hC.1 hC.2.1 dX0_bulkOfWays_23 ?_
      refine lv_topl (fun y3 ey3 => ?_)
      have hF := lt1G hF ey3
      refine lv_lstore_n (lv' := [(1, .long y3), (0, .ref (ad G 77)), (3, .int x3)]) hC.1 hC.2.1 dX0_bulkOfWays_24 rfl hl (by decide) rfl (fun ls hl => ?_)
      refine lv_iinc (v := (x3 + (1 : Int32))) (lv' := [(3, .int (x3 + (1 : Int32))), (1, .long y3), (0, .ref (ad G 77))]) hC.1 hC.2.1 dX0_bulkOfWays_25 hl (k := 2) rfl rfl (by decide) rfl (fun ls hl => ?_)
      refine lv_goto (tgt := 4) hC.1 hC.2.1 dX0_bulkOfWays_28 (by decide) ?_
      exact ih hF hw (lv_sub hl [2, 1, 0] rfl)
def F_X0_bulkOfWays (fu : Nat) (M : Mm) : Option Int64 :=
  F_X0_bulkOfWays_4 fu M fu (0 : Int64) (1 : Int32)
set_option maxRecDepth 100000 in
set_option maxHeartbeats 4000000 in
theorem c_X0_bulkOfWays {l : Launch} {G : Gv} {fu : Nat} {M : Mm} {r : Int64} (hF : F_X0_bulkOfWays fu M = some r) : Met l yX0_bulkOfWays (.code yX0_bulkOfWays cX0_bulkOfWays 4 (some .long) :: zU) rm_X0_bulkOfWays (va_Pc [.ref (ad G 77)] (Wd G M)) (QL G r M) 0 0 (zA G) := by
  refine zMet (by decide) rfl (Nat.le_of_ble_eq_true rfl) ?_
  intro p e s m below meth c hC hw ls hl
  have hl : lv_has ls 4 [(0, .ref (ad G 77))] := hl
  unfold F_X0_bulkOfWays at hF
  refine lv_lconst (v := (0 : Int64)) hC.1 hC.2.1 dX0_bulkOfWays_0 (by decide) ?_
  refine lv_lstore_n (lv' := [(1, .long (0 : Int64)), (0, .ref (ad G 77))]) hC.1 hC.2.1 dX0_bulkOfWays_1 rfl hl (by decide) rfl (fun ls hl => ?_)
  refine lv_iconst (v := (1 : Int32)) hC.1 hC.2.1 dX0_bulkOfWays_2 (by decide) ?_
  refine lv_istore_n (lv' := [(3, .int (1 : Int32)), (1, .long (0 : Int64)), (0, .ref (ad G 77))]) hC.1 hC.2.1 dX0_bulkOfWays_3 rfl hl (by decide) rfl (fun ls hl => ?_)
  exact w_X0_bulkOfWays_4 hC _ hF hw (lv_sub hl [2, 1, 0] rfl)
abbrev rm_X6_writeAll : Room := { frames := 0, cells := 0, slots := 0, locals := 0 }
theorem ys_X6_writeAll : YS yX6_writeAll cX6_writeAll 3 none 2 := ⟨⟨q2_125, q1_1, q2_126⟩, by decide +kernel⟩
theorem dX6_writeAll_0 : decode cX6_writeAll 0 = .ok (.iconst 0, 1) := by decide +kernel
theorem dX6_writeAll_1 : decode cX6_writeAll 1 = .ok (.istore_n 2, 1) := by decide +kernel
theorem dX6_writeAll_2 : decode cX6_writeAll 2 = .ok (.iload_n 2, 1) := by decide +kernel
theorem dX6_writeAll_3 : decode cX6_writeAll 3 = .ok (.aload_n 0, 1) := by decide +kernel
theorem dX6_writeAll_4 : decode cX6_writeAll 4 = .ok (.arraylength, 1) := by decide +kernel
theorem dX6_writeAll_5 : decode cX6_writeAll 5 = .ok (.if_icmp .ge 21, 3) := by decide +kernel
theorem dX6_writeAll_8 : decode cX6_writeAll 8 = .ok (.iload_n 2, 1) := by decide +kernel
theorem dX6_writeAll_9 : decode cX6_writeAll 9 = .ok (.aload_n 1, 1) := by decide +kernel
theorem dX6_writeAll_10 : decode cX6_writeAll 10 = .ok (.arraylength, 1) := by decide +kernel
theorem dX6_writeAll_11 : decode cX6_writeAll 11 = .ok (.if_icmp .ge 15, 3) := by decide +kernel
theorem dX6_writeAll_14 : decode cX6_writeAll 14 = .ok (.aload_n 0, 1) := by decide +kernel
theorem dX6_writeAll_15 : decode cX6_writeAll 15 = .ok (.iload_n 2, 1) := by decide +kernel
theorem dX6_writeAll_16 : decode cX6_writeAll 16 = .ok (.aload_n 1, 1) := by decide +kernel
theorem dX6_writeAll_17 : decode cX6_writeAll 17 = .ok (.iload_n 2, 1) := by decide +kernel
theorem dX6_writeAll_18 : decode cX6_writeAll 18 = .ok (.iaload, 1) := by decide +kernel
theorem dX6_writeAll_19 : decode cX6_writeAll 19 = .ok (.iastore, 1) := by decide +kernel
theorem dX6_writeAll_20 : decode cX6_writeAll 20 = .ok (.iinc 2 1, 3) := by decide +kernel
theorem dX6_writeAll_23 : decode cX6_writeAll 23 = .ok (.goto (-21), 3) := by decide +kernel
theorem dX6_writeAll_26 : decode cX6_writeAll 26 = .ok (.return_, 1) := by decide +kernel
def F_X6_writeAll_2 (fu : Nat) : Nat → Mm → Nat → Nat → Int32 → Option Mm
  | 0, _, _, _, _ => none
  | n + 1, M, c0, c1, x2 =>
    if (nI (ln c0)) ≤ x2 then
      some M
    else
      if (nI (ln c1)) ≤ x2 then
        some M
      else
        if x2 < 0 ∨ ln c1 ≤ x2.toNatClampNeg then none else (
        if x2 < 0 ∨ ln c0 ≤ x2.toNatClampNeg then none else (
        lt1 (pI M c0 x2.toNatClampNeg (M.1 c1 x2.toNatClampNeg)) (fun M5 =>
        F_X6_writeAll_2 fu n M5 c0 c1 (x2 + (1 : Int32)))))
set_option maxRecDepth 100000 in
set_option maxHeartbeats 4000000 in
theorem w_X6_writeAll_2 {p : Program} {l : Launch} {e : Env} {s : State} {m : MethodId} {args : Array Value} {below : List Frame} {meth : Method} {c : Code} {G : Gv} (hC : Cx p s m args meth c cX6_writeAll 3 none RX6) {fu : Nat} {M' : Mm} : ∀ (n : Nat) {c0 : Nat} {c1 : Nat} {x2 : Int32} {M : Mm} {H : Heap} {locs : List Loc} {ls : Array Slot} (hk0 : kd c0 = 1) (hk1 : kd c1 = 1), F_X6_writeAll_2 fu n M c0 c1 x2 = some M' → St G s H locs M → lv_has ls 3 [(0, .ref (ad G c0)), (1, .ref (ad G c1)), (2, .int x2)] → W p l e rm_X6_writeAll s m args below meth c H locs 0 0 (MQ below (QV G M') args s 0 0 (zA G)) (F0 m 2 ls []) := by
  intro n
  induction n with
  | zero =>
    intro c0 c1 x2 M H locs ls hk0 hk1 hF hw hl
    cases hF
  | succ n ih =>
    intro c0 c1 x2 M H locs ls hk0 hk1 hF hw hl
    unfold F_X6_writeAll_2 at hF
    refine lv_iload_n hC.1 hC.2.1 dX6_writeAll_2 rfl (lv_at hl 2 rfl) ?_
    refine lv_aload_n hC.1 hC.2.1 dX6_writeAll_3 rfl (lv_at hl 0 rfl) ?_
    refine r_alenI hC.1 hC.2.1 hw hk0 dX6_writeAll_4 ?_
    refine lv_icmp_ge (tgt := 26) hC.1 hC.2.1 dX6_writeAll_5 (by decide) (fun b1 => ?_) (fun b1 => ?_)
    · have hF := ifP hF b1
      exact r_vretE hC hw hF dX6_writeAll_26
    · have hF := ifN hF b1
      refine lv_iload_n hC.1 hC.2.1 dX6_writeAll_8 rfl (lv_at hl 2 rfl) ?_
      refine lv_aload_n hC.1 hC.2.1 dX6_writeAll_9 rfl (lv_at hl 1 rfl) ?_
      refine r_alenI hC.1 hC.2.1 hw hk1 dX6_writeAll_10 ?_
      refine lv_icmp_ge (tgt := 26) hC.1 hC.2.1 dX6_writeAll_11 (by decide) (fun b2 => ?_) (fun b2 => ?_)
      · have hF := ifP hF b2
        exact r_vretE hC hw hF dX6_writeAll_26
      · have hF := ifN hF b2
        refine lv_aload_n hC.1 hC.2.1 dX6_writeAll_14 rfl (lv_at hl 0 rfl) ?_
        refine lv_iload_n hC.1 hC.2.1 dX6_writeAll_15 rfl (lv_at hl 2 rfl) ?_
        refine lv_aload_n hC.1 hC.2.1 dX6_writeAll_16 rfl (lv_at hl 1 rfl) ?_
        refine lv_iload_n hC.1 hC.2.1 dX6_writeAll_17 rfl (lv_at hl 2 rfl) ?_
        obtain ⟨n3, hF⟩ := ifO hF
        refine r_iald hC.1 hC.2.1 hw hk1 n3 dX6_writeAll_18 ?_
        obtain ⟨n4, hF⟩ := ifO hF
        refine r_iast hC.1 hC.2.1 hw hk0 n4 dX6_writeAll_19 (fun H locs hw => ?_)
        obtain ⟨M5, hw, hF⟩ := lt1W hF hw
        refine lv_iinc (v := (x2 + (1 : Int32))) (lv' := [(2, .int (x2 + (1 : Int32))), (0, .ref (ad G c0)), (1, .ref (ad G c1))]) hC.1 hC.2.1 dX6_writeAll_20 hl (k := 2) rfl rfl (by decide) rfl (fun ls hl => ?_)
        refine lv_goto (tgt := 2) hC.1 hC.2.1 dX6_writeAll_23 (by decide) ?_
        exact ih hk0 hk1 hF hw (lv_sub hl [1, 2, 0] rfl)
def F_X6_writeAll (fu : Nat) (M : Mm) (c0 : Nat) (c1 : Nat) : Option Mm :=
  F_X6_writeAll_2 fu fu M c0 c1 (0 : Int32)
set_option maxRecDepth 100000 in
set_option maxHeartbeats 4000000 in
theorem c_X6_writeAll {l : Launch} {G : Gv} {fu : Nat} {M : Mm} {c0 : Nat} {c1 : Nat} (hk0 : kd c0 = 1) (hk1 : kd c1 = 1) {M' : Mm} (hF : F_X6_writeAll fu M c0 c1 = some M') : Met l yX6_writeAll (.code yX6_writeAll cX6_writeAll 3 none :: zU) rm_X6_writeAll (va_Pc [.ref (ad G c0), .ref (ad G c1)] (Wd G M)) (QV G M') 0 0 (zA G) := by
  refine zMet (by decide) rfl (Nat.le_of_ble_eq_true rfl) ?_
  intro p e s m below meth c hC hw ls hl
  have hl : lv_has ls 3 [(0, .ref (ad G c0)), (1, .ref (ad G c1))] := hl
  unfold F_X6_writeAll at hF
  refine lv_iconst (v := (0 : Int32)) hC.1 hC.2.1 dX6_writeAll_0 (by decide) ?_
  refine lv_istore_n (lv' := [(2, .int (0 : Int32)), (0, .ref (ad G c0)), (1, .ref (ad G c1))]) hC.1 hC.2.1 dX6_writeAll_1 rfl hl (by decide) rfl (fun ls hl => ?_)
  exact w_X6_writeAll_2 hC _ hk0 hk1 hF hw (lv_sub hl [1, 2, 0] rfl)
abbrev rm_X2_restart : Room := { frames := 1, cells := 0, slots := 0, locals := 22 }
theorem yv_X2_restart : YV yX2_restart cX2_restart 1 none 0 RX2 := ⟨⟨q2_122, qs_8, q1_2, q2_123⟩, by decide +kernel⟩
theorem dX2_restart_0 : decode cX2_restart 0 = .ok (.aload_n 0, 1) := by decide +kernel
theorem dX2_restart_1 : decode cX2_restart 1 = .ok (.iconst 0, 1) := by decide +kernel
theorem dX2_restart_2 : decode cX2_restart 2 = .ok (.putfield 70, 3) := by decide +kernel
theorem dX2_restart_5 : decode cX2_restart 5 = .ok (.aload_n 0, 1) := by decide +kernel
theorem dX2_restart_6 : decode cX2_restart 6 = .ok (.getfield 21, 3) := by decide +kernel
theorem dX2_restart_9 : decode cX2_restart 9 = .ok (.aload_n 0, 1) := by decide +kernel
theorem dX2_restart_10 : decode cX2_restart 10 = .ok (.getfield 27, 3) := by decide +kernel
theorem dX2_restart_13 : decode cX2_restart 13 = .ok (.invokestatic 56, 3) := by decide +kernel
theorem dX2_restart_16 : decode cX2_restart 16 = .ok (.aload_n 0, 1) := by decide +kernel
theorem dX2_restart_17 : decode cX2_restart 17 = .ok (.getfield 24, 3) := by decide +kernel
theorem dX2_restart_20 : decode cX2_restart 20 = .ok (.aload_n 0, 1) := by decide +kernel
theorem dX2_restart_21 : decode cX2_restart 21 = .ok (.getfield 30, 3) := by decide +kernel
theorem dX2_restart_24 : decode cX2_restart 24 = .ok (.invokestatic 56, 3) := by decide +kernel
theorem dX2_restart_27 : decode cX2_restart 27 = .ok (.return_, 1) := by decide +kernel
def F_X2_restart (fu : Nat) (M : Mm) (c0 : Nat) : Option Mm :=
  lt1 (pI M c0 2 (0 : Int32)) (fun M1 =>
  ob1 (F_X6_writeAll fu M1 (c0 + 4) (c0 + 6)) (fun M3 =>
  ob1 (F_X6_writeAll fu M3 (c0 + 5) (c0 + 7)) (fun M5 =>
  some M5)))
set_option maxRecDepth 100000 in
set_option maxHeartbeats 4000000 in
theorem c_X2_restart {l : Launch} {G : Gv} {fu : Nat} {M : Mm} {c0 : Nat} (hk0 : kd c0 = 11) {M' : Mm} (hF : F_X2_restart fu M c0 = some M') : Met l yX2_restart (.code yX2_restart cX2_restart 1 none :: zU) rm_X2_restart (va_Pc [.ref (ad G c0)] (Wd G M)) (QV G M') 0 0 (zA G) := by
  refine zMet (by decide) rfl (Nat.le_of_ble_eq_true rfl) ?_
  intro p e s m below meth c hC hw ls hl
  have hl : lv_has ls 1 [(0, .ref (ad G c0))] := hl
  unfold F_X2_restart at hF
  refine lv_aload_n hC.1 hC.2.1 dX2_restart_0 rfl (lv_at hl 0 rfl) ?_
  refine lv_iconst (v := (0 : Int32)) hC.1 hC.2.1 dX2_restart_1 (by decide) ?_
  refine u2_today hC hw hk0 q1_32 dX2_restart_2 (fun H locs hw => ?_)
  obtain ⟨M1, hw, hF⟩ := lt1W hF hw
  refine lv_aload_n hC.1 hC.2.1 dX2_restart_5 rfl (lv_at hl 0 rfl) ?_
  refine g2_bulkOf hC hw hk0 q1_40 dX2_restart_6 ?_
  refine lv_aload_n hC.1 hC.2.1 dX2_restart_9 rfl (lv_at hl 0 rfl) ?_
  refine g2_firstBulkOf hC hw hk0 q1_45 dX2_restart_10 ?_
  obtain ⟨M3, h2, hF⟩ := ob1S hF
  refine k_Nv (As := [.ref (ad G (c0 + 4)), .ref (ad G (c0 + 6))]) (rest := []) hC hw (c_X6_writeAll (M := M1) (kdN4 hk0) (kdN6 hk0) h2) ys_X6_writeAll (k := 9) rfl ⟨rfl, rfl⟩ ⟨Nat.le_of_ble_eq_true rfl, Nat.le_of_ble_eq_true rfl⟩ ⟨Nat.zero_le _, Nat.zero_le _⟩ rfl rfl (Nat.le_of_ble_eq_true rfl) hl dX2_restart_13 (fun H locs hw => ?_)
  refine lv_aload_n hC.1 hC.2.1 dX2_restart_16 rfl (lv_at hl 0 rfl) ?_
  refine g2_shadeOf hC hw hk0 q1_43 dX2_restart_17 ?_
  refine lv_aload_n hC.1 hC.2.1 dX2_restart_20 rfl (lv_at hl 0 rfl) ?_
  refine g2_firstShadeOf hC hw hk0 q1_46 dX2_restart_21 ?_
  obtain ⟨M5, h4, hF⟩ := ob1S hF
  refine k_Nv (As := [.ref (ad G (c0 + 5)), .ref (ad G (c0 + 7))]) (rest := []) hC hw (c_X6_writeAll (M := M3) (kdN5 hk0) (kdN7 hk0) h4) ys_X6_writeAll (k := 9) rfl ⟨rfl, rfl⟩ ⟨Nat.le_of_ble_eq_true rfl, Nat.le_of_ble_eq_true rfl⟩ ⟨Nat.zero_le _, Nat.zero_le _⟩ rfl rfl (Nat.le_of_ble_eq_true rfl) hl dX2_restart_24 (fun H locs hw => ?_)
  exact r_vretE hC hw hF dX2_restart_27
abbrev rm_X2_settle : Room := { frames := 2, cells := 0, slots := 0, locals := 42 }
theorem yv_X2_settle : YV yX2_settle cX2_settle 2 none 1 RX2 := ⟨⟨q3_208, q3_209, q1_2, q3_210⟩, by decide +kernel⟩
theorem dX2_settle_0 : decode cX2_settle 0 = .ok (.aload_n 0, 1) := by decide +kernel
theorem dX2_settle_1 : decode cX2_settle 1 = .ok (.aload_n 1, 1) := by decide +kernel
theorem dX2_settle_2 : decode cX2_settle 2 = .ok (.getfield 42, 3) := by decide +kernel
theorem dX2_settle_5 : decode cX2_settle 5 = .ok (.putfield 48, 3) := by decide +kernel
theorem dX2_settle_8 : decode cX2_settle 8 = .ok (.aload_n 0, 1) := by decide +kernel
theorem dX2_settle_9 : decode cX2_settle 9 = .ok (.aload_n 1, 1) := by decide +kernel
theorem dX2_settle_10 : decode cX2_settle 10 = .ok (.getfield 49, 3) := by decide +kernel
theorem dX2_settle_13 : decode cX2_settle 13 = .ok (.putfield 52, 3) := by decide +kernel
theorem dX2_settle_16 : decode cX2_settle 16 = .ok (.aload_n 0, 1) := by decide +kernel
theorem dX2_settle_17 : decode cX2_settle 17 = .ok (.getfield 9, 3) := by decide +kernel
theorem dX2_settle_20 : decode cX2_settle 20 = .ok (.aload_n 1, 1) := by decide +kernel
theorem dX2_settle_21 : decode cX2_settle 21 = .ok (.getfield 55, 3) := by decide +kernel
theorem dX2_settle_24 : decode cX2_settle 24 = .ok (.invokestatic 56, 3) := by decide +kernel
theorem dX2_settle_27 : decode cX2_settle 27 = .ok (.aload_n 0, 1) := by decide +kernel
theorem dX2_settle_28 : decode cX2_settle 28 = .ok (.getfield 15, 3) := by decide +kernel
theorem dX2_settle_31 : decode cX2_settle 31 = .ok (.aload_n 1, 1) := by decide +kernel
theorem dX2_settle_32 : decode cX2_settle 32 = .ok (.getfield 60, 3) := by decide +kernel
theorem dX2_settle_35 : decode cX2_settle 35 = .ok (.invokestatic 56, 3) := by decide +kernel
theorem dX2_settle_38 : decode cX2_settle 38 = .ok (.aload_n 0, 1) := by decide +kernel
theorem dX2_settle_39 : decode cX2_settle 39 = .ok (.getfield 18, 3) := by decide +kernel
theorem dX2_settle_42 : decode cX2_settle 42 = .ok (.aload_n 1, 1) := by decide +kernel
theorem dX2_settle_43 : decode cX2_settle 43 = .ok (.getfield 61, 3) := by decide +kernel
theorem dX2_settle_46 : decode cX2_settle 46 = .ok (.invokestatic 56, 3) := by decide +kernel
theorem dX2_settle_49 : decode cX2_settle 49 = .ok (.aload_n 0, 1) := by decide +kernel
theorem dX2_settle_50 : decode cX2_settle 50 = .ok (.getfield 27, 3) := by decide +kernel
theorem dX2_settle_53 : decode cX2_settle 53 = .ok (.aload_n 1, 1) := by decide +kernel
theorem dX2_settle_54 : decode cX2_settle 54 = .ok (.getfield 62, 3) := by decide +kernel
theorem dX2_settle_57 : decode cX2_settle 57 = .ok (.invokestatic 56, 3) := by decide +kernel
theorem dX2_settle_60 : decode cX2_settle 60 = .ok (.aload_n 0, 1) := by decide +kernel
theorem dX2_settle_61 : decode cX2_settle 61 = .ok (.getfield 30, 3) := by decide +kernel
theorem dX2_settle_64 : decode cX2_settle 64 = .ok (.aload_n 1, 1) := by decide +kernel
theorem dX2_settle_65 : decode cX2_settle 65 = .ok (.getfield 63, 3) := by decide +kernel
theorem dX2_settle_68 : decode cX2_settle 68 = .ok (.invokestatic 56, 3) := by decide +kernel
theorem dX2_settle_71 : decode cX2_settle 71 = .ok (.aload_n 0, 1) := by decide +kernel
theorem dX2_settle_72 : decode cX2_settle 72 = .ok (.iconst 0, 1) := by decide +kernel
theorem dX2_settle_73 : decode cX2_settle 73 = .ok (.putfield 64, 3) := by decide +kernel
theorem dX2_settle_76 : decode cX2_settle 76 = .ok (.aload_n 0, 1) := by decide +kernel
theorem dX2_settle_77 : decode cX2_settle 77 = .ok (.invokevirtual 67, 3) := by decide +kernel
theorem dX2_settle_80 : decode cX2_settle 80 = .ok (.return_, 1) := by decide +kernel
def F_X2_settle (fu : Nat) (M : Mm) (c0 : Nat) : Option Mm :=
  lt1 (pI M c0 0 (M.1 68 1)) (fun M1 =>
  lt1 (pI M1 c0 1 (M1.1 68 2)) (fun M2 =>
  ob1 (F_X6_writeAll fu M2 (c0 + 1) 69) (fun M4 =>
  ob1 (F_X6_writeAll fu M4 (c0 + 2) 70) (fun M6 =>
  ob1 (F_X6_writeAll fu M6 (c0 + 3) 73) (fun M8 =>
  ob1 (F_X6_writeAll fu M8 (c0 + 6) 71) (fun M10 =>
  ob1 (F_X6_writeAll fu M10 (c0 + 7) 72) (fun M12 =>
  lt1 (pI M12 c0 3 (0 : Int32)) (fun M13 =>
  ob1 (F_X2_restart fu M13 c0) (fun M15 =>
  some M15)))))))))
set_option maxRecDepth 100000 in
set_option maxHeartbeats 4000000 in
theorem c_X2_settle {l : Launch} {G : Gv} {fu : Nat} {M : Mm} {c0 : Nat} (hk0 : kd c0 = 11) {M' : Mm} (hF : F_X2_settle fu M c0 = some M') : Met l yX2_settle (.code yX2_settle cX2_settle 2 none :: zU) rm_X2_settle (va_Pc [.ref (ad G c0), .ref (ad G 68)] (Wd G M)) (QV G M') 0 0 (zA G) := by
  refine zMet (by decide) rfl (Nat.le_of_ble_eq_true rfl) ?_
  intro p e s m below meth c hC hw ls hl
  have hl : lv_has ls 2 [(0, .ref (ad G c0)), (1, .ref (ad G 68))] := hl
  unfold F_X2_settle at hF
  refine lv_aload_n hC.1 hC.2.1 dX2_settle_0 rfl (lv_at hl 0 rfl) ?_
  refine lv_aload_n hC.1 hC.2.1 dX2_settle_1 rfl (lv_at hl 1 rfl) ?_
  refine g3_men hC hw q1_88 dX2_settle_2 ?_
  refine u2_men hC hw hk0 q1_28 dX2_settle_5 (fun H locs hw => ?_)
  obtain ⟨M1, hw, hF⟩ := lt1W hF hw
  refine lv_aload_n hC.1 hC.2.1 dX2_settle_8 rfl (lv_at hl 0 rfl) ?_
  refine lv_aload_n hC.1 hC.2.1 dX2_settle_9 rfl (lv_at hl 1 rfl) ?_
  refine g3_right hC hw q1_90 dX2_settle_10 ?_
  refine u2_rightNow hC hw hk0 q1_30 dX2_settle_13 (fun H locs hw => ?_)
  obtain ⟨M2, hw, hF⟩ := lt1W hF hw
  refine lv_aload_n hC.1 hC.2.1 dX2_settle_16 rfl (lv_at hl 0 rfl) ?_
  refine g2_suns hC hw hk0 q1_36 dX2_settle_17 ?_
  refine lv_aload_n hC.1 hC.2.1 dX2_settle_20 rfl (lv_at hl 1 rfl) ?_
  refine g3_suns hC hw q1_93 dX2_settle_21 ?_
  obtain ⟨M4, h3, hF⟩ := ob1S hF
  refine k_Nv (As := [.ref (ad G (c0 + 1)), .ref (ad G 69)]) (rest := []) hC hw (c_X6_writeAll (M := M2) (kdN1 hk0) (rfl : kd 69 = 1) h3) ys_X6_writeAll (k := 9) rfl ⟨rfl, rfl⟩ ⟨Nat.le_of_ble_eq_true rfl, Nat.le_of_ble_eq_true rfl⟩ ⟨Nat.zero_le _, Nat.zero_le _⟩ rfl rfl (Nat.le_of_ble_eq_true rfl) hl dX2_settle_24 (fun H locs hw => ?_)
  refine lv_aload_n hC.1 hC.2.1 dX2_settle_27 rfl (lv_at hl 0 rfl) ?_
  refine g2_kindOf hC hw hk0 q1_37 dX2_settle_28 ?_
  refine lv_aload_n hC.1 hC.2.1 dX2_settle_31 rfl (lv_at hl 1 rfl) ?_
  refine g3_kindOf hC hw q1_95 dX2_settle_32 ?_
  obtain ⟨M6, h5, hF⟩ := ob1S hF
  refine k_Nv (As := [.ref (ad G (c0 + 2)), .ref (ad G 70)]) (rest := []) hC hw (c_X6_writeAll (M := M4) (kdN2 hk0) (rfl : kd 70 = 1) h5) ys_X6_writeAll (k := 9) rfl ⟨rfl, rfl⟩ ⟨Nat.le_of_ble_eq_true rfl, Nat.le_of_ble_eq_true rfl⟩ ⟨Nat.zero_le _, Nat.zero_le _⟩ rfl rfl (Nat.le_of_ble_eq_true rfl) hl dX2_settle_35 (fun H locs hw => ?_)
  refine lv_aload_n hC.1 hC.2.1 dX2_settle_38 rfl (lv_at hl 0 rfl) ?_
  refine g2_voteOf hC hw hk0 q1_39 dX2_settle_39 ?_
  refine lv_aload_n hC.1 hC.2.1 dX2_settle_42 rfl (lv_at hl 1 rfl) ?_
  refine g3_voteOf hC hw q1_101 dX2_settle_43 ?_
  obtain ⟨M8, h7, hF⟩ := ob1S hF
  refine k_Nv (As := [.ref (ad G (c0 + 3)), .ref (ad G 73)]) (rest := []) hC hw (c_X6_writeAll (M := M6) (kdN3 hk0) (rfl : kd 73 = 1) h7) ys_X6_writeAll (k := 9) rfl ⟨rfl, rfl⟩ ⟨Nat.le_of_ble_eq_true rfl, Nat.le_of_ble_eq_true rfl⟩ ⟨Nat.zero_le _, Nat.zero_le _⟩ rfl rfl (Nat.le_of_ble_eq_true rfl) hl dX2_settle_46 (fun H locs hw => ?_)
  refine lv_aload_n hC.1 hC.2.1 dX2_settle_49 rfl (lv_at hl 0 rfl) ?_
  refine g2_firstBulkOf hC hw hk0 q1_45 dX2_settle_50 ?_
  refine lv_aload_n hC.1 hC.2.1 dX2_settle_53 rfl (lv_at hl 1 rfl) ?_
  refine g3_bulkOf hC hw q1_97 dX2_settle_54 ?_
  obtain ⟨M10, h9, hF⟩ := ob1S hF
  refine k_Nv (As := [.ref (ad G (c0 + 6)), .ref (ad G 71)]) (rest := []) hC hw (c_X6_writeAll (M := M8) (kdN6 hk0) (rfl : kd 71 = 1) h9) ys_X6_writeAll (k := 9) rfl ⟨rfl, rfl⟩ ⟨Nat.le_of_ble_eq_true rfl, Nat.le_of_ble_eq_true rfl⟩ ⟨Nat.zero_le _, Nat.zero_le _⟩ rfl rfl (Nat.le_of_ble_eq_true rfl) hl dX2_settle_57 (fun H locs hw => ?_)
  refine lv_aload_n hC.1 hC.2.1 dX2_settle_60 rfl (lv_at hl 0 rfl) ?_
  refine g2_firstShadeOf hC hw hk0 q1_46 dX2_settle_61 ?_
  refine lv_aload_n hC.1 hC.2.1 dX2_settle_64 rfl (lv_at hl 1 rfl) ?_
  refine g3_shadeOf hC hw q1_99 dX2_settle_65 ?_
  obtain ⟨M12, h11, hF⟩ := ob1S hF
  refine k_Nv (As := [.ref (ad G (c0 + 7)), .ref (ad G 72)]) (rest := []) hC hw (c_X6_writeAll (M := M10) (kdN7 hk0) (rfl : kd 72 = 1) h11) ys_X6_writeAll (k := 9) rfl ⟨rfl, rfl⟩ ⟨Nat.le_of_ble_eq_true rfl, Nat.le_of_ble_eq_true rfl⟩ ⟨Nat.zero_le _, Nat.zero_le _⟩ rfl rfl (Nat.le_of_ble_eq_true rfl) hl dX2_settle_68 (fun H locs hw => ?_)
  refine lv_aload_n hC.1 hC.2.1 dX2_settle_71 rfl (lv_at hl 0 rfl) ?_
  refine lv_iconst (v := (0 : Int32)) hC.1 hC.2.1 dX2_settle_72 (by decide) ?_
  refine u2_deeds hC hw hk0 q1_34 dX2_settle_73 (fun H locs hw => ?_)
  obtain ⟨M13, hw, hF⟩ := lt1W hF hw
  refine lv_aload_n hC.1 hC.2.1 dX2_settle_76 rfl (lv_at hl 0 rfl) ?_
  obtain ⟨M15, h14, hF⟩ := ob1S hF
  refine k_Vv (As := []) (rest := []) hC hw (c_X2_restart (M := M13) hk0 h14) (RC_N hk0) yv_X2_restart q2_120 ⟨rfl, rfl⟩ ⟨Nat.le_of_ble_eq_true rfl, Nat.le_of_ble_eq_true rfl⟩ ⟨Nat.zero_le _, Nat.zero_le _⟩ rfl rfl (Nat.le_of_ble_eq_true rfl) hl dX2_settle_77 (fun H locs hw => ?_)
  exact r_vretE hC hw hF dX2_settle_80
abbrev rm_X2_become : Room := { frames := 1, cells := 0, slots := 0, locals := 22 }
theorem yv_X2_become : YV yX2_become cX2_become 2 none 1 RX2 := ⟨⟨q2_136, q2_137, q1_2, q2_138⟩, by decide +kernel⟩
theorem dX2_become_0 : decode cX2_become 0 = .ok (.aload_n 0, 1) := by decide +kernel
theorem dX2_become_1 : decode cX2_become 1 = .ok (.aload_n 1, 1) := by decide +kernel
theorem dX2_become_2 : decode cX2_become 2 = .ok (.getfield 48, 3) := by decide +kernel
theorem dX2_become_5 : decode cX2_become 5 = .ok (.putfield 48, 3) := by decide +kernel
theorem dX2_become_8 : decode cX2_become 8 = .ok (.aload_n 0, 1) := by decide +kernel
theorem dX2_become_9 : decode cX2_become 9 = .ok (.aload_n 1, 1) := by decide +kernel
theorem dX2_become_10 : decode cX2_become 10 = .ok (.getfield 52, 3) := by decide +kernel
theorem dX2_become_13 : decode cX2_become 13 = .ok (.putfield 52, 3) := by decide +kernel
theorem dX2_become_16 : decode cX2_become 16 = .ok (.aload_n 0, 1) := by decide +kernel
theorem dX2_become_17 : decode cX2_become 17 = .ok (.aload_n 1, 1) := by decide +kernel
theorem dX2_become_18 : decode cX2_become 18 = .ok (.getfield 70, 3) := by decide +kernel
theorem dX2_become_21 : decode cX2_become 21 = .ok (.putfield 70, 3) := by decide +kernel
theorem dX2_become_24 : decode cX2_become 24 = .ok (.aload_n 0, 1) := by decide +kernel
theorem dX2_become_25 : decode cX2_become 25 = .ok (.aload_n 1, 1) := by decide +kernel
theorem dX2_become_26 : decode cX2_become 26 = .ok (.getfield 64, 3) := by decide +kernel
theorem dX2_become_29 : decode cX2_become 29 = .ok (.putfield 64, 3) := by decide +kernel
theorem dX2_become_32 : decode cX2_become 32 = .ok (.aload_n 0, 1) := by decide +kernel
theorem dX2_become_33 : decode cX2_become 33 = .ok (.getfield 9, 3) := by decide +kernel
theorem dX2_become_36 : decode cX2_become 36 = .ok (.aload_n 1, 1) := by decide +kernel
theorem dX2_become_37 : decode cX2_become 37 = .ok (.getfield 9, 3) := by decide +kernel
theorem dX2_become_40 : decode cX2_become 40 = .ok (.invokestatic 56, 3) := by decide +kernel
theorem dX2_become_43 : decode cX2_become 43 = .ok (.aload_n 0, 1) := by decide +kernel
theorem dX2_become_44 : decode cX2_become 44 = .ok (.getfield 15, 3) := by decide +kernel
theorem dX2_become_47 : decode cX2_become 47 = .ok (.aload_n 1, 1) := by decide +kernel
theorem dX2_become_48 : decode cX2_become 48 = .ok (.getfield 15, 3) := by decide +kernel
theorem dX2_become_51 : decode cX2_become 51 = .ok (.invokestatic 56, 3) := by decide +kernel
theorem dX2_become_54 : decode cX2_become 54 = .ok (.aload_n 0, 1) := by decide +kernel
theorem dX2_become_55 : decode cX2_become 55 = .ok (.getfield 18, 3) := by decide +kernel
theorem dX2_become_58 : decode cX2_become 58 = .ok (.aload_n 1, 1) := by decide +kernel
theorem dX2_become_59 : decode cX2_become 59 = .ok (.getfield 18, 3) := by decide +kernel
theorem dX2_become_62 : decode cX2_become 62 = .ok (.invokestatic 56, 3) := by decide +kernel
theorem dX2_become_65 : decode cX2_become 65 = .ok (.aload_n 0, 1) := by decide +kernel
theorem dX2_become_66 : decode cX2_become 66 = .ok (.getfield 21, 3) := by decide +kernel
theorem dX2_become_69 : decode cX2_become 69 = .ok (.aload_n 1, 1) := by decide +kernel
theorem dX2_become_70 : decode cX2_become 70 = .ok (.getfield 21, 3) := by decide +kernel
theorem dX2_become_73 : decode cX2_become 73 = .ok (.invokestatic 56, 3) := by decide +kernel
theorem dX2_become_76 : decode cX2_become 76 = .ok (.aload_n 0, 1) := by decide +kernel
theorem dX2_become_77 : decode cX2_become 77 = .ok (.getfield 24, 3) := by decide +kernel
theorem dX2_become_80 : decode cX2_become 80 = .ok (.aload_n 1, 1) := by decide +kernel
theorem dX2_become_81 : decode cX2_become 81 = .ok (.getfield 24, 3) := by decide +kernel
theorem dX2_become_84 : decode cX2_become 84 = .ok (.invokestatic 56, 3) := by decide +kernel
theorem dX2_become_87 : decode cX2_become 87 = .ok (.aload_n 0, 1) := by decide +kernel
theorem dX2_become_88 : decode cX2_become 88 = .ok (.getfield 27, 3) := by decide +kernel
theorem dX2_become_91 : decode cX2_become 91 = .ok (.aload_n 1, 1) := by decide +kernel
theorem dX2_become_92 : decode cX2_become 92 = .ok (.getfield 27, 3) := by decide +kernel
theorem dX2_become_95 : decode cX2_become 95 = .ok (.invokestatic 56, 3) := by decide +kernel
theorem dX2_become_98 : decode cX2_become 98 = .ok (.aload_n 0, 1) := by decide +kernel
theorem dX2_become_99 : decode cX2_become 99 = .ok (.getfield 30, 3) := by decide +kernel
theorem dX2_become_102 : decode cX2_become 102 = .ok (.aload_n 1, 1) := by decide +kernel
theorem dX2_become_103 : decode cX2_become 103 = .ok (.getfield 30, 3) := by decide +kernel
theorem dX2_become_106 : decode cX2_become 106 = .ok (.invokestatic 56, 3) := by decide +kernel
theorem dX2_become_109 : decode cX2_become 109 = .ok (.aload_n 0, 1) := by decide +kernel
theorem dX2_become_110 : decode cX2_become 110 = .ok (.getfield 33, 3) := by decide +kernel
theorem dX2_become_113 : decode cX2_become 113 = .ok (.aload_n 1, 1) := by decide +kernel
theorem dX2_become_114 : decode cX2_become 114 = .ok (.getfield 33, 3) := by decide +kernel
theorem dX2_become_117 : decode cX2_become 117 = .ok (.invokestatic 56, 3) := by decide +kernel
theorem dX2_become_120 : decode cX2_become 120 = .ok (.aload_n 0, 1) := by decide +kernel
theorem dX2_become_121 : decode cX2_become 121 = .ok (.getfield 36, 3) := by decide +kernel
theorem dX2_become_124 : decode cX2_become 124 = .ok (.aload_n 1, 1) := by decide +kernel
theorem dX2_become_125 : decode cX2_become 125 = .ok (.getfield 36, 3) := by decide +kernel
theorem dX2_become_128 : decode cX2_become 128 = .ok (.invokestatic 56, 3) := by decide +kernel
theorem dX2_become_131 : decode cX2_become 131 = .ok (.aload_n 0, 1) := by decide +kernel
theorem dX2_become_132 : decode cX2_become 132 = .ok (.getfield 39, 3) := by decide +kernel
theorem dX2_become_135 : decode cX2_become 135 = .ok (.aload_n 1, 1) := by decide +kernel
theorem dX2_become_136 : decode cX2_become 136 = .ok (.getfield 39, 3) := by decide +kernel
theorem dX2_become_139 : decode cX2_become 139 = .ok (.invokestatic 56, 3) := by decide +kernel
theorem dX2_become_142 : decode cX2_become 142 = .ok (.return_, 1) := by decide +kernel
def F_X2_become (fu : Nat) (M : Mm) (c0 : Nat) (c1 : Nat) : Option Mm :=
  lt1 (pI M c0 0 (M.1 c1 0)) (fun M1 =>
  lt1 (pI M1 c0 1 (M1.1 c1 1)) (fun M2 =>
  lt1 (pI M2 c0 2 (M2.1 c1 2)) (fun M3 =>
  lt1 (pI M3 c0 3 (M3.1 c1 3)) (fun M4 =>
  ob1 (F_X6_writeAll fu M4 (c0 + 1) (c1 + 1)) (fun M6 =>
  ob1 (F_X6_writeAll fu M6 (c0 + 2) (c1 + 2)) (fun M8 =>
  ob1 (F_X6_writeAll fu M8 (c0 + 3) (c1 + 3)) (fun M10 =>
  ob1 (F_X6_writeAll fu M10 (c0 + 4) (c1 + 4)) (fun M12 =>
  ob1 (F_X6_writeAll fu M12 (c0 + 5) (c1 + 5)) (fun M14 =>
  ob1 (F_X6_writeAll fu M14 (c0 + 6) (c1 + 6)) (fun M16 =>
  ob1 (F_X6_writeAll fu M16 (c0 + 7) (c1 + 7)) (fun M18 =>
  ob1 (F_X6_writeAll fu M18 (c0 + 8) (c1 + 8)) (fun M20 =>
  ob1 (F_X6_writeAll fu M20 (c0 + 9) (c1 + 9)) (fun M22 =>
  ob1 (F_X6_writeAll fu M22 (c0 + 10) (c1 + 10)) (fun M24 =>
  some M24))))))))))))))
set_option maxRecDepth 100000 in
set_option maxHeartbeats 4000000 in
theorem c_X2_become {l : Launch} {G : Gv} {fu : Nat} {M : Mm} {c0 : Nat} {c1 : Nat} (hk0 : kd c0 = 11) (hk1 : kd c1 = 11) {M' : Mm} (hF : F_X2_become fu M c0 c1 = some M') : Met l yX2_become (.code yX2_become cX2_become 2 none :: zU) rm_X2_become (va_Pc [.ref (ad G c0), .ref (ad G c1)] (Wd G M)) (QV G M') 0 0 (zA G) := by
  refine zMet (by decide) rfl (Nat.le_of_ble_eq_true rfl) ?_
  intro p e s m below meth c hC hw ls hl
  have hl : lv_has ls 2 [(0, .ref (ad G c0)), (1, .ref (ad G c1))] := hl
  unfold F_X2_become at hF
  refine lv_aload_n hC.1 hC.2.1 dX2_become_0 rfl (lv_at hl 0 rfl) ?_
  refine lv_aload_n hC.1 hC.2.1 dX2_become_1 rfl (lv_at hl 1 rfl) ?_
  refine g2_men hC hw hk1 q1_28 dX2_become_2 ?_
  refine u2_men hC hw hk0 q1_28 dX2_become_5 (fun H locs hw => ?_)
  obtain ⟨M1, hw, hF⟩ := lt1W hF hw
  refine lv_aload_n hC.1 hC.2.1 dX2_become_8 rfl (lv_at hl 0 rfl) ?_
  refine lv_aload_n hC.1 hC.2.1 dX2_become_9 rfl (lv_at hl 1 rfl) ?_
  refine g2_rightNow hC hw hk1 q1_30 dX2_become_10 ?_
  refine u2_rightNow hC hw hk0 q1_30 dX2_become_13 (fun H locs hw => ?_)
  obtain ⟨M2, hw, hF⟩ := lt1W hF hw
  refine lv_aload_n hC.1 hC.2.1 dX2_become_16 rfl (lv_at hl 0 rfl) ?_
  refine lv_aload_n hC.1 hC.2.1 dX2_become_17 rfl (lv_at hl 1 rfl) ?_
  refine g2_today hC hw hk1 q1_32 dX2_become_18 ?_
  refine u2_today hC hw hk0 q1_32 dX2_become_21 (fun H locs hw => ?_)
  obtain ⟨M3, hw, hF⟩ := lt1W hF hw
  refine lv_aload_n hC.1 hC.2.1 dX2_become_24 rfl (lv_at hl 0 rfl) ?_
  refine lv_aload_n hC.1 hC.2.1 dX2_become_25 rfl (lv_at hl 1 rfl) ?_
  refine g2_deeds hC hw hk1 q1_34 dX2_become_26 ?_
  refine u2_deeds hC hw hk0 q1_34 dX2_become_29 (fun H locs hw => ?_)
  obtain ⟨M4, hw, hF⟩ := lt1W hF hw
  refine lv_aload_n hC.1 hC.2.1 dX2_become_32 rfl (lv_at hl 0 rfl) ?_
  refine g2_suns hC hw hk0 q1_36 dX2_become_33 ?_
  refine lv_aload_n hC.1 hC.2.1 dX2_become_36 rfl (lv_at hl 1 rfl) ?_
  refine g2_suns hC hw hk1 q1_36 dX2_become_37 ?_
  obtain ⟨M6, h5, hF⟩ := ob1S hF
  refine k_Nv (As := [.ref (ad G (c0 + 1)), .ref (ad G (c1 + 1))]) (rest := []) hC hw (c_X6_writeAll (M := M4) (kdN1 hk0) (kdN1 hk1) h5) ys_X6_writeAll (k := 9) rfl ⟨rfl, rfl⟩ ⟨Nat.le_of_ble_eq_true rfl, Nat.le_of_ble_eq_true rfl⟩ ⟨Nat.zero_le _, Nat.zero_le _⟩ rfl rfl (Nat.le_of_ble_eq_true rfl) hl dX2_become_40 (fun H locs hw => ?_)
  refine lv_aload_n hC.1 hC.2.1 dX2_become_43 rfl (lv_at hl 0 rfl) ?_
  refine g2_kindOf hC hw hk0 q1_37 dX2_become_44 ?_
  refine lv_aload_n hC.1 hC.2.1 dX2_become_47 rfl (lv_at hl 1 rfl) ?_
  refine g2_kindOf hC hw hk1 q1_37 dX2_become_48 ?_
  obtain ⟨M8, h7, hF⟩ := ob1S hF
  refine k_Nv (As := [.ref (ad G (c0 + 2)), .ref (ad G (c1 + 2))]) (rest := []) hC hw (c_X6_writeAll (M := M6) (kdN2 hk0) (kdN2 hk1) h7) ys_X6_writeAll (k := 9) rfl ⟨rfl, rfl⟩ ⟨Nat.le_of_ble_eq_true rfl, Nat.le_of_ble_eq_true rfl⟩ ⟨Nat.zero_le _, Nat.zero_le _⟩ rfl rfl (Nat.le_of_ble_eq_true rfl) hl dX2_become_51 (fun H locs hw => ?_)
  refine lv_aload_n hC.1 hC.2.1 dX2_become_54 rfl (lv_at hl 0 rfl) ?_
  refine g2_voteOf hC hw hk0 q1_39 dX2_become_55 ?_
  refine lv_aload_n hC.1 hC.2.1 dX2_become_58 rfl (lv_at hl 1 rfl) ?_
  refine g2_voteOf hC hw hk1 q1_39 dX2_become_59 ?_
  obtain ⟨M10, h9, hF⟩ := ob1S hF
  refine k_Nv (As := [.ref (ad G (c0 + 3)), .ref (ad G (c1 + 3))]) (rest := []) hC hw (c_X6_writeAll (M := M8) (kdN3 hk0) (kdN3 hk1) h9) ys_X6_writeAll (k := 9) rfl ⟨rfl, rfl⟩ ⟨Nat.le_of_ble_eq_true rfl, Nat.le_of_ble_eq_true rfl⟩ ⟨Nat.zero_le _, Nat.zero_le _⟩ rfl rfl (Nat.le_of_ble_eq_true rfl) hl dX2_become_62 (fun H locs hw => ?_)
  refine lv_aload_n hC.1 hC.2.1 dX2_become_65 rfl (lv_at hl 0 rfl) ?_
  refine g2_bulkOf hC hw hk0 q1_40 dX2_become_66 ?_
  refine lv_aload_n hC.1 hC.2.1 dX2_become_69 rfl (lv_at hl 1 rfl) ?_
  refine g2_bulkOf hC hw hk1 q1_40 dX2_become_70 ?_
  obtain ⟨M12, h11, hF⟩ := ob1S hF
  refine k_Nv (As := [.ref (ad G (c0 + 4)), .ref (ad G (c1 + 4))]) (rest := []) hC hw (c_X6_writeAll (M := M10) (kdN4 hk0) (kdN4 hk1) h11) ys_X6_writeAll (k := 9) rfl ⟨rfl, rfl⟩ ⟨Nat.le_of_ble_eq_true rfl, Nat.le_of_ble_eq_true rfl⟩ ⟨Nat.zero_le _, Nat.zero_le _⟩ rfl rfl (Nat.le_of_ble_eq_true rfl) hl dX2_become_73 (fun H locs hw => ?_)
  refine lv_aload_n hC.1 hC.2.1 dX2_become_76 rfl (lv_at hl 0 rfl) ?_
  refine g2_shadeOf hC hw hk0 q1_43 dX2_become_77 ?_
  refine lv_aload_n hC.1 hC.2.1 dX2_become_80 rfl (lv_at hl 1 rfl) ?_
  refine g2_shadeOf hC hw hk1 q1_43 dX2_become_81 ?_
  obtain ⟨M14, h13, hF⟩ := ob1S hF
  refine k_Nv (As := [.ref (ad G (c0 + 5)), .ref (ad G (c1 + 5))]) (rest := []) hC hw (c_X6_writeAll (M := M12) (kdN5 hk0) (kdN5 hk1) h13) ys_X6_writeAll (k := 9) rfl ⟨rfl, rfl⟩ ⟨Nat.le_of_ble_eq_true rfl, Nat.le_of_ble_eq_true rfl⟩ ⟨Nat.zero_le _, Nat.zero_le _⟩ rfl rfl (Nat.le_of_ble_eq_true rfl) hl dX2_become_84 (fun H locs hw => ?_)
  refine lv_aload_n hC.1 hC.2.1 dX2_become_87 rfl (lv_at hl 0 rfl) ?_
  refine g2_firstBulkOf hC hw hk0 q1_45 dX2_become_88 ?_
  refine lv_aload_n hC.1 hC.2.1 dX2_become_91 rfl (lv_at hl 1 rfl) ?_
  refine g2_firstBulkOf hC hw hk1 q1_45 dX2_become_92 ?_
  obtain ⟨M16, h15, hF⟩ := ob1S hF
  refine k_Nv (As := [.ref (ad G (c0 + 6)), .ref (ad G (c1 + 6))]) (rest := []) hC hw (c_X6_writeAll (M := M14) (kdN6 hk0) (kdN6 hk1) h15) ys_X6_writeAll (k := 9) rfl ⟨rfl, rfl⟩ ⟨Nat.le_of_ble_eq_true rfl, Nat.le_of_ble_eq_true rfl⟩ ⟨Nat.zero_le _, Nat.zero_le _⟩ rfl rfl (Nat.le_of_ble_eq_true rfl) hl dX2_become_95 (fun H locs hw => ?_)
  refine lv_aload_n hC.1 hC.2.1 dX2_become_98 rfl (lv_at hl 0 rfl) ?_
  refine g2_firstShadeOf hC hw hk0 q1_46 dX2_become_99 ?_
  refine lv_aload_n hC.1 hC.2.1 dX2_become_102 rfl (lv_at hl 1 rfl) ?_
  refine g2_firstShadeOf hC hw hk1 q1_46 dX2_become_103 ?_
  obtain ⟨M18, h17, hF⟩ := ob1S hF
  refine k_Nv (As := [.ref (ad G (c0 + 7)), .ref (ad G (c1 + 7))]) (rest := []) hC hw (c_X6_writeAll (M := M16) (kdN7 hk0) (kdN7 hk1) h17) ys_X6_writeAll (k := 9) rfl ⟨rfl, rfl⟩ ⟨Nat.le_of_ble_eq_true rfl, Nat.le_of_ble_eq_true rfl⟩ ⟨Nat.zero_le _, Nat.zero_le _⟩ rfl rfl (Nat.le_of_ble_eq_true rfl) hl dX2_become_106 (fun H locs hw => ?_)
  refine lv_aload_n hC.1 hC.2.1 dX2_become_109 rfl (lv_at hl 0 rfl) ?_
  refine g2_deedSorts hC hw hk0 q1_47 dX2_become_110 ?_
  refine lv_aload_n hC.1 hC.2.1 dX2_become_113 rfl (lv_at hl 1 rfl) ?_
  refine g2_deedSorts hC hw hk1 q1_47 dX2_become_114 ?_
  obtain ⟨M20, h19, hF⟩ := ob1S hF
  refine k_Nv (As := [.ref (ad G (c0 + 8)), .ref (ad G (c1 + 8))]) (rest := []) hC hw (c_X6_writeAll (M := M18) (kdN8 hk0) (kdN8 hk1) h19) ys_X6_writeAll (k := 9) rfl ⟨rfl, rfl⟩ ⟨Nat.le_of_ble_eq_true rfl, Nat.le_of_ble_eq_true rfl⟩ ⟨Nat.zero_le _, Nat.zero_le _⟩ rfl rfl (Nat.le_of_ble_eq_true rfl) hl dX2_become_117 (fun H locs hw => ?_)
  refine lv_aload_n hC.1 hC.2.1 dX2_become_120 rfl (lv_at hl 0 rfl) ?_
  refine g2_deedMen hC hw hk0 q1_48 dX2_become_121 ?_
  refine lv_aload_n hC.1 hC.2.1 dX2_become_124 rfl (lv_at hl 1 rfl) ?_
  refine g2_deedMen hC hw hk1 q1_48 dX2_become_125 ?_
  obtain ⟨M22, h21, hF⟩ := ob1S hF
  refine k_Nv (As := [.ref (ad G (c0 + 9)), .ref (ad G (c1 + 9))]) (rest := []) hC hw (c_X6_writeAll (M := M20) (kdN9 hk0) (kdN9 hk1) h21) ys_X6_writeAll (k := 9) rfl ⟨rfl, rfl⟩ ⟨Nat.le_of_ble_eq_true rfl, Nat.le_of_ble_eq_true rfl⟩ ⟨Nat.zero_le _, Nat.zero_le _⟩ rfl rfl (Nat.le_of_ble_eq_true rfl) hl dX2_become_128 (fun H locs hw => ?_)
  refine lv_aload_n hC.1 hC.2.1 dX2_become_131 rfl (lv_at hl 0 rfl) ?_
  refine g2_deedValues hC hw hk0 q1_49 dX2_become_132 ?_
  refine lv_aload_n hC.1 hC.2.1 dX2_become_135 rfl (lv_at hl 1 rfl) ?_
  refine g2_deedValues hC hw hk1 q1_49 dX2_become_136 ?_
  obtain ⟨M24, h23, hF⟩ := ob1S hF
  refine k_Nv (As := [.ref (ad G (c0 + 10)), .ref (ad G (c1 + 10))]) (rest := []) hC hw (c_X6_writeAll (M := M22) (kdN10 hk0) (kdN10 hk1) h23) ys_X6_writeAll (k := 9) rfl ⟨rfl, rfl⟩ ⟨Nat.le_of_ble_eq_true rfl, Nat.le_of_ble_eq_true rfl⟩ ⟨Nat.zero_le _, Nat.zero_le _⟩ rfl rfl (Nat.le_of_ble_eq_true rfl) hl dX2_become_139 (fun H locs hw => ?_)
  exact r_vretE hC hw hF dX2_become_142
abbrev rm_X2_isMan : Room := { frames := 0, cells := 0, slots := 0, locals := 0 }
theorem yv_X2_isMan : YV yX2_isMan cX2_isMan 2 (some .boolean) 1 RX2 := ⟨⟨q2_32, q2_33, q1_2, q2_34⟩, by decide +kernel⟩
theorem dX2_isMan_0 : decode cX2_isMan 0 = .ok (.iload_n 1, 1) := by decide +kernel
theorem dX2_isMan_1 : decode cX2_isMan 1 = .ok (.ifCond .lt 15, 3) := by decide +kernel
theorem dX2_isMan_4 : decode cX2_isMan 4 = .ok (.iload_n 1, 1) := by decide +kernel
theorem dX2_isMan_5 : decode cX2_isMan 5 = .ok (.aload_n 0, 1) := by decide +kernel
theorem dX2_isMan_6 : decode cX2_isMan 6 = .ok (.getfield 48, 3) := by decide +kernel
theorem dX2_isMan_9 : decode cX2_isMan 9 = .ok (.if_icmp .ge 7, 3) := by decide +kernel
theorem dX2_isMan_12 : decode cX2_isMan 12 = .ok (.iconst 1, 1) := by decide +kernel
theorem dX2_isMan_13 : decode cX2_isMan 13 = .ok (.goto 4, 3) := by decide +kernel
theorem dX2_isMan_16 : decode cX2_isMan 16 = .ok (.iconst 0, 1) := by decide +kernel
theorem dX2_isMan_17 : decode cX2_isMan 17 = .ok (.ireturn, 1) := by decide +kernel
def F_X2_isMan (fu : Nat) (M : Mm) (c0 : Nat) (x1 : Int32) : Option Int32 :=
  if x1 < 0 then
    some (0 : Int32)
  else
    if (M.1 c0 0) ≤ x1 then
      some (0 : Int32)
    else
      some (1 : Int32)
set_option maxRecDepth 100000 in
set_option maxHeartbeats 4000000 in
theorem c_X2_isMan {l : Launch} {G : Gv} {fu : Nat} {M : Mm} {c0 : Nat} {x1 : Int32} (hk0 : kd c0 = 11) {r : Int32} (hF : F_X2_isMan fu M c0 x1 = some r) : Met l yX2_isMan (.code yX2_isMan cX2_isMan 2 (some .boolean) :: zU) rm_X2_isMan (va_Pc [.ref (ad G c0), .int x1] (Wd G M)) (QI G r M) 0 0 (zA G) := by
  refine zMet (by decide) rfl (Nat.le_of_ble_eq_true rfl) ?_
  intro p e s m below meth c hC hw ls hl
  have hl : lv_has ls 2 [(0, .ref (ad G c0)), (1, .int x1)] := hl
  unfold F_X2_isMan at hF
  refine lv_iload_n hC.1 hC.2.1 dX2_isMan_0 rfl (lv_at hl 1 rfl) ?_
  refine lv_if_lt (tgt := 16) hC.1 hC.2.1 dX2_isMan_1 (by decide) (fun b1 => ?_) (fun b1 => ?_)
  · have hF := ifP hF b1
    refine lv_iconst (v := (0 : Int32)) hC.1 hC.2.1 dX2_isMan_16 (by decide) ?_
    exact r_zretP hC hw (by decide) hF dX2_isMan_17
  · have hF := ifN hF b1
    refine lv_iload_n hC.1 hC.2.1 dX2_isMan_4 rfl (lv_at hl 1 rfl) ?_
    refine lv_aload_n hC.1 hC.2.1 dX2_isMan_5 rfl (lv_at hl 0 rfl) ?_
    refine g2_men hC hw hk0 q1_28 dX2_isMan_6 ?_
    refine lv_icmp_ge (tgt := 16) hC.1 hC.2.1 dX2_isMan_9 (by decide) (fun b2 => ?_) (fun b2 => ?_)
    · have hF := ifP hF b2
      refine lv_iconst (v := (0 : Int32)) hC.1 hC.2.1 dX2_isMan_16 (by decide) ?_
      exact r_zretP hC hw (by decide) hF dX2_isMan_17
    · have hF := ifN hF b2
      refine lv_iconst (v := (1 : Int32)) hC.1 hC.2.1 dX2_isMan_12 (by decide) ?_
      refine lv_goto (tgt := 17) hC.1 hC.2.1 dX2_isMan_13 (by decide) ?_
      exact r_zretP hC hw (by decide) hF dX2_isMan_17
abbrev rm_X2_isSet : Room := { frames := 0, cells := 0, slots := 0, locals := 0 }
theorem yv_X2_isSet : YV yX2_isSet cX2_isSet 2 (some .boolean) 1 RX2 := ⟨⟨q2_196, q2_197, q1_2, q2_198⟩, by decide +kernel⟩
theorem dX2_isSet_0 : decode cX2_isSet 0 = .ok (.iload_n 1, 1) := by decide +kernel
theorem dX2_isSet_1 : decode cX2_isSet 1 = .ok (.ifCond .lt 17, 3) := by decide +kernel
theorem dX2_isSet_4 : decode cX2_isSet 4 = .ok (.iload_n 1, 1) := by decide +kernel
theorem dX2_isSet_5 : decode cX2_isSet 5 = .ok (.iconst 1, 1) := by decide +kernel
theorem dX2_isSet_6 : decode cX2_isSet 6 = .ok (.aload_n 0, 1) := by decide +kernel
theorem dX2_isSet_7 : decode cX2_isSet 7 = .ok (.getfield 48, 3) := by decide +kernel
theorem dX2_isSet_10 : decode cX2_isSet 10 = .ok (.ishl, 1) := by decide +kernel
theorem dX2_isSet_11 : decode cX2_isSet 11 = .ok (.if_icmp .ge 7, 3) := by decide +kernel
theorem dX2_isSet_14 : decode cX2_isSet 14 = .ok (.iconst 1, 1) := by decide +kernel
theorem dX2_isSet_15 : decode cX2_isSet 15 = .ok (.goto 4, 3) := by decide +kernel
theorem dX2_isSet_18 : decode cX2_isSet 18 = .ok (.iconst 0, 1) := by decide +kernel
theorem dX2_isSet_19 : decode cX2_isSet 19 = .ok (.ireturn, 1) := by decide +kernel
def F_X2_isSet (fu : Nat) (M : Mm) (c0 : Nat) (x1 : Int32) : Option Int32 :=
  if x1 < 0 then
    some (0 : Int32)
  else
    if ((1 : Int32) <<< ((M.1 c0 0) &&& 31)) ≤ x1 then
      some (0 : Int32)
    else
      some (1 : Int32)
set_option maxRecDepth 100000 in
set_option maxHeartbeats 4000000 in
theorem c_X2_isSet {l : Launch} {G : Gv} {fu : Nat} {M : Mm} {c0 : Nat} {x1 : Int32} (hk0 : kd c0 = 11) {r : Int32} (hF : F_X2_isSet fu M c0 x1 = some r) : Met l yX2_isSet (.code yX2_isSet cX2_isSet 2 (some .boolean) :: zU) rm_X2_isSet (va_Pc [.ref (ad G c0), .int x1] (Wd G M)) (QI G r M) 0 0 (zA G) := by
  refine zMet (by decide) rfl (Nat.le_of_ble_eq_true rfl) ?_
  intro p e s m below meth c hC hw ls hl
  have hl : lv_has ls 2 [(0, .ref (ad G c0)), (1, .int x1)] := hl
  unfold F_X2_isSet at hF
  refine lv_iload_n hC.1 hC.2.1 dX2_isSet_0 rfl (lv_at hl 1 rfl) ?_
  refine lv_if_lt (tgt := 18) hC.1 hC.2.1 dX2_isSet_1 (by decide) (fun b1 => ?_) (fun b1 => ?_)
  · have hF := ifP hF b1
    refine lv_iconst (v := (0 : Int32)) hC.1 hC.2.1 dX2_isSet_18 (by decide) ?_
    exact r_zretP hC hw (by decide) hF dX2_isSet_19
  · have hF := ifN hF b1
    refine lv_iload_n hC.1 hC.2.1 dX2_isSet_4 rfl (lv_at hl 1 rfl) ?_
    refine lv_iconst (v := (1 : Int32)) hC.1 hC.2.1 dX2_isSet_5 (by decide) ?_
    refine lv_aload_n hC.1 hC.2.1 dX2_isSet_6 rfl (lv_at hl 0 rfl) ?_
    refine g2_men hC hw hk0 q1_28 dX2_isSet_7 ?_
    refine lv_ishl hC.1 hC.2.1 dX2_isSet_10 ?_
    refine lv_icmp_ge (tgt := 18) hC.1 hC.2.1 dX2_isSet_11 (by decide) (fun b2 => ?_) (fun b2 => ?_)
    · have hF := ifP hF b2
      refine lv_iconst (v := (0 : Int32)) hC.1 hC.2.1 dX2_isSet_18 (by decide) ?_
      exact r_zretP hC hw (by decide) hF dX2_isSet_19
    · have hF := ifN hF b2
      refine lv_iconst (v := (1 : Int32)) hC.1 hC.2.1 dX2_isSet_14 (by decide) ?_
      refine lv_goto (tgt := 19) hC.1 hC.2.1 dX2_isSet_15 (by decide) ?_
      exact r_zretP hC hw (by decide) hF dX2_isSet_19
abbrev rm_X6_write : Room := { frames := 0, cells := 0, slots := 0, locals := 0 }
theorem ys_X6_write : YS yX6_write cX6_write 3 none 3 := ⟨⟨q2_21, q1_1, q2_22⟩, by decide +kernel⟩
theorem dX6_write_0 : decode cX6_write 0 = .ok (.iload_n 1, 1) := by decide +kernel
theorem dX6_write_1 : decode cX6_write 1 = .ok (.ifCond .lt 13, 3) := by decide +kernel
theorem dX6_write_4 : decode cX6_write 4 = .ok (.iload_n 1, 1) := by decide +kernel
theorem dX6_write_5 : decode cX6_write 5 = .ok (.aload_n 0, 1) := by decide +kernel
theorem dX6_write_6 : decode cX6_write 6 = .ok (.arraylength, 1) := by decide +kernel
theorem dX6_write_7 : decode cX6_write 7 = .ok (.if_icmp .ge 7, 3) := by decide +kernel
theorem dX6_write_10 : decode cX6_write 10 = .ok (.aload_n 0, 1) := by decide +kernel
theorem dX6_write_11 : decode cX6_write 11 = .ok (.iload_n 1, 1) := by decide +kernel
theorem dX6_write_12 : decode cX6_write 12 = .ok (.iload_n 2, 1) := by decide +kernel
theorem dX6_write_13 : decode cX6_write 13 = .ok (.iastore, 1) := by decide +kernel
theorem dX6_write_14 : decode cX6_write 14 = .ok (.return_, 1) := by decide +kernel
def F_X6_write (fu : Nat) (M : Mm) (c0 : Nat) (x1 : Int32) (x2 : Int32) : Option Mm :=
  if x1 < 0 then
    some M
  else
    if (nI (ln c0)) ≤ x1 then
      some M
    else
      if x1 < 0 ∨ ln c0 ≤ x1.toNatClampNeg then none else (
      lt1 (pI M c0 x1.toNatClampNeg x2) (fun M4 =>
      some M4))
set_option maxRecDepth 100000 in
set_option maxHeartbeats 4000000 in
theorem c_X6_write {l : Launch} {G : Gv} {fu : Nat} {M : Mm} {c0 : Nat} {x1 : Int32} {x2 : Int32} (hk0 : kd c0 = 1) {M' : Mm} (hF : F_X6_write fu M c0 x1 x2 = some M') : Met l yX6_write (.code yX6_write cX6_write 3 none :: zU) rm_X6_write (va_Pc [.ref (ad G c0), .int x1, .int x2] (Wd G M)) (QV G M') 0 0 (zA G) := by
  refine zMet (by decide) rfl (Nat.le_of_ble_eq_true rfl) ?_
  intro p e s m below meth c hC hw ls hl
  have hl : lv_has ls 3 [(0, .ref (ad G c0)), (1, .int x1), (2, .int x2)] := hl
  unfold F_X6_write at hF
  refine lv_iload_n hC.1 hC.2.1 dX6_write_0 rfl (lv_at hl 1 rfl) ?_
  refine lv_if_lt (tgt := 14) hC.1 hC.2.1 dX6_write_1 (by decide) (fun b1 => ?_) (fun b1 => ?_)
  · have hF := ifP hF b1
    exact r_vretE hC hw hF dX6_write_14
  · have hF := ifN hF b1
    refine lv_iload_n hC.1 hC.2.1 dX6_write_4 rfl (lv_at hl 1 rfl) ?_
    refine lv_aload_n hC.1 hC.2.1 dX6_write_5 rfl (lv_at hl 0 rfl) ?_
    refine r_alenI hC.1 hC.2.1 hw hk0 dX6_write_6 ?_
    refine lv_icmp_ge (tgt := 14) hC.1 hC.2.1 dX6_write_7 (by decide) (fun b2 => ?_) (fun b2 => ?_)
    · have hF := ifP hF b2
      exact r_vretE hC hw hF dX6_write_14
    · have hF := ifN hF b2
      refine lv_aload_n hC.1 hC.2.1 dX6_write_10 rfl (lv_at hl 0 rfl) ?_
      refine lv_iload_n hC.1 hC.2.1 dX6_write_11 rfl (lv_at hl 1 rfl) ?_
      refine lv_iload_n hC.1 hC.2.1 dX6_write_12 rfl (lv_at hl 2 rfl) ?_
      obtain ⟨n3, hF⟩ := ifO hF
      refine r_iast hC.1 hC.2.1 hw hk0 n3 dX6_write_13 (fun H locs hw => ?_)
      obtain ⟨M4, hw, hF⟩ := lt1W hF hw
      exact r_vretE hC hw hF dX6_write_14
abbrev rm_X2_meltAll : Room := { frames := 3, cells := 0, slots := 0, locals := 76 }
theorem yv_X2_meltAll : YV yX2_meltAll cX2_meltAll 2 none 0 RX2 := ⟨⟨q2_81, qs_6, q1_2, q2_82⟩, by decide +kernel⟩
theorem dX2_meltAll_0 : decode cX2_meltAll 0 = .ok (.iconst 0, 1) := by decide +kernel
theorem dX2_meltAll_1 : decode cX2_meltAll 1 = .ok (.istore_n 1, 1) := by decide +kernel
theorem dX2_meltAll_2 : decode cX2_meltAll 2 = .ok (.iload_n 1, 1) := by decide +kernel
theorem dX2_meltAll_3 : decode cX2_meltAll 3 = .ok (.aload_n 0, 1) := by decide +kernel
theorem dX2_meltAll_4 : decode cX2_meltAll 4 = .ok (.getfield 48, 3) := by decide +kernel
theorem dX2_meltAll_7 : decode cX2_meltAll 7 = .ok (.if_icmp .ge 36, 3) := by decide +kernel
theorem dX2_meltAll_10 : decode cX2_meltAll 10 = .ok (.aload_n 0, 1) := by decide +kernel
theorem dX2_meltAll_11 : decode cX2_meltAll 11 = .ok (.getfield 21, 3) := by decide +kernel
theorem dX2_meltAll_14 : decode cX2_meltAll 14 = .ok (.iload_n 1, 1) := by decide +kernel
theorem dX2_meltAll_15 : decode cX2_meltAll 15 = .ok (.iconst 0, 1) := by decide +kernel
theorem dX2_meltAll_16 : decode cX2_meltAll 16 = .ok (.aload_n 0, 1) := by decide +kernel
theorem dX2_meltAll_17 : decode cX2_meltAll 17 = .ok (.getfield 21, 3) := by decide +kernel
theorem dX2_meltAll_20 : decode cX2_meltAll 20 = .ok (.iload_n 1, 1) := by decide +kernel
theorem dX2_meltAll_21 : decode cX2_meltAll 21 = .ok (.invokestatic 81, 3) := by decide +kernel
theorem dX2_meltAll_24 : decode cX2_meltAll 24 = .ok (.aload_n 0, 1) := by decide +kernel
theorem dX2_meltAll_25 : decode cX2_meltAll 25 = .ok (.iload_n 1, 1) := by decide +kernel
theorem dX2_meltAll_26 : decode cX2_meltAll 26 = .ok (.iconst 0, 1) := by decide +kernel
theorem dX2_meltAll_27 : decode cX2_meltAll 27 = .ok (.invokevirtual 94, 3) := by decide +kernel
theorem dX2_meltAll_30 : decode cX2_meltAll 30 = .ok (.isub, 1) := by decide +kernel
theorem dX2_meltAll_31 : decode cX2_meltAll 31 = .ok (.invokestatic 97, 3) := by decide +kernel
theorem dX2_meltAll_34 : decode cX2_meltAll 34 = .ok (.invokestatic 73, 3) := by decide +kernel
theorem dX2_meltAll_37 : decode cX2_meltAll 37 = .ok (.iinc 1 1, 3) := by decide +kernel
theorem dX2_meltAll_40 : decode cX2_meltAll 40 = .ok (.goto (-38), 3) := by decide +kernel
theorem dX2_meltAll_43 : decode cX2_meltAll 43 = .ok (.return_, 1) := by decide +kernel
def F_X2_meltAll_2 (fu : Nat) : Nat → Mm → Nat → Int32 → Option Mm
  | 0, _, _, _ => none
  | n + 1, M, c0, x1 =>
    if (M.1 c0 0) ≤ x1 then
      some M
    else
      ob1 (F_X6_read fu M (c0 + 4) x1) (fun r3 =>
      ob1 (F_X2_meltingIn fu M c0 x1 (0 : Int32)) (fun r5 =>
      ob1 (F_X6_write fu M (c0 + 4) x1 (zmx (0 : Int32) (r3 - r5))) (fun M7 =>
      F_X2_meltAll_2 fu n M7 c0 (x1 + (1 : Int32)))))
set_option maxRecDepth 100000 in
set_option maxHeartbeats 4000000 in
theorem w_X2_meltAll_2 {p : Program} {l : Launch} {e : Env} {s : State} {m : MethodId} {args : Array Value} {below : List Frame} {meth : Method} {c : Code} {G : Gv} (hC : Cx p s m args meth c cX2_meltAll 2 none RX2) {fu : Nat} {M' : Mm} : ∀ (n : Nat) {c0 : Nat} {x1 : Int32} {M : Mm} {H : Heap} {locs : List Loc} {ls : Array Slot} (hk0 : kd c0 = 11), F_X2_meltAll_2 fu n M c0 x1 = some M' → St G s H locs M → lv_has ls 2 [(0, .ref (ad G c0)), (1, .int x1)] → W p l e rm_X2_meltAll s m args below meth c H locs 0 0 (MQ below (QV G M') args s 0 0 (zA G)) (F0 m 2 ls []) := by
  intro n
  induction n with
  | zero =>
    intro c0 x1 M H locs ls hk0 hF hw hl
    cases hF
  | succ n ih =>
    intro c0 x1 M H locs ls hk0 hF hw hl
    unfold F_X2_meltAll_2 at hF
    refine lv_iload_n hC.1 hC.2.1 dX2_meltAll_2 rfl (lv_at hl 1 rfl) ?_
    refine lv_aload_n hC.1 hC.2.1 dX2_meltAll_3 rfl (lv_at hl 0 rfl) ?_
    refine g2_men hC hw hk0 q1_28 dX2_meltAll_4 ?_
    refine lv_icmp_ge (tgt := 43) hC.1 hC.2.1 dX2_meltAll_7 (by decide) (fun b1 => ?_) (fun b1 => ?_)
    · have hF := ifP hF b1
      exact r_vretE hC hw hF dX2_meltAll_43
    · have hF := ifN hF b1
      refine lv_aload_n hC.1 hC.2.1 dX2_meltAll_10 rfl (lv_at hl 0 rfl) ?_
      refine g2_bulkOf hC hw hk0 q1_40 dX2_meltAll_11 ?_
      refine lv_iload_n hC.1 hC.2.1 dX2_meltAll_14 rfl (lv_at hl 1 rfl) ?_
      refine lv_iconst (v := (0 : Int32)) hC.1 hC.2.1 dX2_meltAll_15 (by decide) ?_
      refine lv_aload_n hC.1 hC.2.1 dX2_meltAll_16 rfl (lv_at hl 0 rfl) ?_
      refine g2_bulkOf hC hw hk0 q1_40 dX2_meltAll_17 ?_
      refine lv_iload_n hC.1 hC.2.1 dX2_meltAll_20 rfl (lv_at hl 1 rfl) ?_
      obtain ⟨r3, h2, hF⟩ := ob1S hF
      refine k_Ni (As := [.ref (ad G (c0 + 4)), .int x1]) (rest := [.int (0 : Int32), .int x1, .ref (ad G (c0 + 4))]) hC hw (c_X6_read (M := M) (kdN4 hk0) h2) ys_X6_read (k := 6) rfl ⟨rfl, rfl⟩ ⟨Nat.le_of_ble_eq_true rfl, Nat.le_of_ble_eq_true rfl⟩ ⟨Nat.zero_le _, Nat.zero_le _⟩ rfl rfl (Nat.le_of_ble_eq_true rfl) hl dX2_meltAll_21 (fun H locs hw => ?_)
      refine lv_aload_n hC.1 hC.2.1 dX2_meltAll_24 rfl (lv_at hl 0 rfl) ?_
      refine lv_iload_n hC.1 hC.2.1 dX2_meltAll_25 rfl (lv_at hl 1 rfl) ?_
      refine lv_iconst (v := (0 : Int32)) hC.1 hC.2.1 dX2_meltAll_26 (by decide) ?_
      obtain ⟨r5, h4, hF⟩ := ob1S hF
      refine k_Vi (As := [.int x1, .int (0 : Int32)]) (rest := [.int r3, .int (0 : Int32), .int x1, .ref (ad G (c0 + 4))]) hC hw (c_X2_meltingIn (M := M) hk0 h4) (RC_N hk0) yv_X2_meltingIn q2_83 ⟨rfl, rfl⟩ ⟨Nat.le_of_ble_eq_true rfl, Nat.le_of_ble_eq_true rfl⟩ ⟨Nat.zero_le _, Nat.zero_le _⟩ rfl rfl (Nat.le_of_ble_eq_true rfl) hl dX2_meltAll_27 (fun H locs hw => ?_)
      refine lv_isub hC.1 hC.2.1 dX2_meltAll_30 ?_
      refine r_max ⟨hC.1, hC.2.1, by rw [hC.2.2.1]; exact hl.1.symm, hC.2.2.2.1, hC.2.2.2.2.1⟩ q2_91 ⟨Nat.le_of_ble_eq_true rfl, Nat.le_of_ble_eq_true rfl⟩ ⟨Nat.zero_le _, Nat.zero_le _⟩ dX2_meltAll_31 ?_
      obtain ⟨M7, h6, hF⟩ := ob1S hF
      refine k_Nv (As := [.ref (ad G (c0 + 4)), .int x1, .int (zmx (0 : Int32) (r3 - r5))]) (rest := []) hC hw (c_X6_write (M := M) (kdN4 hk0) h6) ys_X6_write (k := 8) rfl ⟨rfl, rfl⟩ ⟨Nat.le_of_ble_eq_true rfl, Nat.le_of_ble_eq_true rfl⟩ ⟨Nat.zero_le _, Nat.zero_le _⟩ rfl rfl (Nat.le_of_ble_eq_true rfl) hl dX2_meltAll_34 (fun H locs hw => ?_)
      refine lv_iinc (v := (x1 + (1 : Int32))) (lv' := [(1, .int (x1 + (1 : Int32))), (0, .ref (ad G c0))]) hC.1 hC.2.1 dX2_meltAll_37 hl (k := 1) rfl rfl (by decide) rfl (fun ls hl => ?_)
      refine lv_goto (tgt := 2) hC.1 hC.2.1 dX2_meltAll_40 (by decide) ?_
      exact ih hk0 hF hw (lv_sub hl [1, 0] rfl)
def F_X2_meltAll (fu : Nat) (M : Mm) (c0 : Nat) : Option Mm :=
  F_X2_meltAll_2 fu fu M c0 (0 : Int32)
set_option maxRecDepth 100000 in
set_option maxHeartbeats 4000000 in
theorem c_X2_meltAll {l : Launch} {G : Gv} {fu : Nat} {M : Mm} {c0 : Nat} (hk0 : kd c0 = 11) {M' : Mm} (hF : F_X2_meltAll fu M c0 = some M') : Met l yX2_meltAll (.code yX2_meltAll cX2_meltAll 2 none :: zU) rm_X2_meltAll (va_Pc [.ref (ad G c0)] (Wd G M)) (QV G M') 0 0 (zA G) := by
  refine zMet (by decide) rfl (Nat.le_of_ble_eq_true rfl) ?_
  intro p e s m below meth c hC hw ls hl
  have hl : lv_has ls 2 [(0, .ref (ad G c0))] := hl
  unfold F_X2_meltAll at hF
  refine lv_iconst (v := (0 : Int32)) hC.1 hC.2.1 dX2_meltAll_0 (by decide) ?_
  refine lv_istore_n (lv' := [(1, .int (0 : Int32)), (0, .ref (ad G c0))]) hC.1 hC.2.1 dX2_meltAll_1 rfl hl (by decide) rfl (fun ls hl => ?_)
  exact w_X2_meltAll_2 hC _ hk0 hF hw (lv_sub hl [1, 0] rfl)
abbrev rm_X2_perform : Room := { frames := 4, cells := 0, slots := 0, locals := 97 }
theorem yv_X2_perform : YV yX2_perform cX2_perform 4 none 3 RX2 := ⟨⟨q2_74, qs_5, q1_2, q2_75⟩, by decide +kernel⟩
theorem dX2_perform_0 : decode cX2_perform 0 = .ok (.iload_n 1, 1) := by decide +kernel
theorem dX2_perform_1 : decode cX2_perform 1 = .ok (.tableswitch 86 0 3 #[69, 86, 31, 43], 31) := by decide +kernel
theorem dX2_perform_32 : decode cX2_perform 32 = .ok (.aload_n 0, 1) := by decide +kernel
theorem dX2_perform_33 : decode cX2_perform 33 = .ok (.getfield 24, 3) := by decide +kernel
theorem dX2_perform_36 : decode cX2_perform 36 = .ok (.iload_n 2, 1) := by decide +kernel
theorem dX2_perform_37 : decode cX2_perform 37 = .ok (.iload_n 3, 1) := by decide +kernel
theorem dX2_perform_38 : decode cX2_perform 38 = .ok (.invokestatic 73, 3) := by decide +kernel
theorem dX2_perform_41 : decode cX2_perform 41 = .ok (.goto 56, 3) := by decide +kernel
theorem dX2_perform_44 : decode cX2_perform 44 = .ok (.aload_n 0, 1) := by decide +kernel
theorem dX2_perform_45 : decode cX2_perform 45 = .ok (.getfield 21, 3) := by decide +kernel
theorem dX2_perform_48 : decode cX2_perform 48 = .ok (.iload_n 2, 1) := by decide +kernel
theorem dX2_perform_49 : decode cX2_perform 49 = .ok (.bipush 99, 2) := by decide +kernel
theorem dX2_perform_51 : decode cX2_perform 51 = .ok (.aload_n 0, 1) := by decide +kernel
theorem dX2_perform_52 : decode cX2_perform 52 = .ok (.getfield 21, 3) := by decide +kernel
theorem dX2_perform_55 : decode cX2_perform 55 = .ok (.iload_n 2, 1) := by decide +kernel
theorem dX2_perform_56 : decode cX2_perform 56 = .ok (.invokestatic 81, 3) := by decide +kernel
theorem dX2_perform_59 : decode cX2_perform 59 = .ok (.iload_n 3, 1) := by decide +kernel
theorem dX2_perform_60 : decode cX2_perform 60 = .ok (.iadd, 1) := by decide +kernel
theorem dX2_perform_61 : decode cX2_perform 61 = .ok (.invokestatic 85, 3) := by decide +kernel
theorem dX2_perform_64 : decode cX2_perform 64 = .ok (.invokestatic 73, 3) := by decide +kernel
theorem dX2_perform_67 : decode cX2_perform 67 = .ok (.goto 30, 3) := by decide +kernel
theorem dX2_perform_70 : decode cX2_perform 70 = .ok (.aload_n 0, 1) := by decide +kernel
theorem dX2_perform_71 : decode cX2_perform 71 = .ok (.invokevirtual 91, 3) := by decide +kernel
theorem dX2_perform_74 : decode cX2_perform 74 = .ok (.aload_n 0, 1) := by decide +kernel
theorem dX2_perform_75 : decode cX2_perform 75 = .ok (.dup, 1) := by decide +kernel
theorem dX2_perform_76 : decode cX2_perform 76 = .ok (.getfield 70, 3) := by decide +kernel
theorem dX2_perform_79 : decode cX2_perform 79 = .ok (.iconst 1, 1) := by decide +kernel
theorem dX2_perform_80 : decode cX2_perform 80 = .ok (.iadd, 1) := by decide +kernel
theorem dX2_perform_81 : decode cX2_perform 81 = .ok (.putfield 70, 3) := by decide +kernel
theorem dX2_perform_84 : decode cX2_perform 84 = .ok (.goto 13, 3) := by decide +kernel
theorem dX2_perform_87 : decode cX2_perform 87 = .ok (.aload_n 0, 1) := by decide +kernel
theorem dX2_perform_88 : decode cX2_perform 88 = .ok (.dup, 1) := by decide +kernel
theorem dX2_perform_89 : decode cX2_perform 89 = .ok (.getfield 70, 3) := by decide +kernel
theorem dX2_perform_92 : decode cX2_perform 92 = .ok (.iconst 1, 1) := by decide +kernel
theorem dX2_perform_93 : decode cX2_perform 93 = .ok (.iadd, 1) := by decide +kernel
theorem dX2_perform_94 : decode cX2_perform 94 = .ok (.putfield 70, 3) := by decide +kernel
theorem dX2_perform_97 : decode cX2_perform 97 = .ok (.return_, 1) := by decide +kernel
def F_X2_perform (fu : Nat) (M : Mm) (c0 : Nat) (x1 : Int32) (x2 : Int32) (x3 : Int32) : Option Mm :=
  if x1 = (0 : Int32) then
    ob1 (F_X2_meltAll fu M c0) (fun M3 =>
    lt1 (pI M3 c0 2 ((M3.1 c0 2) + (1 : Int32))) (fun M4 =>
    some M4))
  else
  if x1 = (2 : Int32) then
    ob1 (F_X6_write fu M (c0 + 5) x2 x3) (fun M7 =>
    some M7)
  else
  if x1 = (3 : Int32) then
    ob1 (F_X6_read fu M (c0 + 4) x2) (fun r10 =>
    ob1 (F_X6_write fu M (c0 + 4) x2 (zmn (99 : Int32) (r10 + x3))) (fun M12 =>
    some M12))
  else
  lt1 (pI M c0 2 ((M.1 c0 2) + (1 : Int32))) (fun M13 =>
  some M13)
set_option maxRecDepth 100000 in
set_option maxHeartbeats 4000000 in
theorem c_X2_perform {l : Launch} {G : Gv} {fu : Nat} {M : Mm} {c0 : Nat} {x1 : Int32} {x2 : Int32} {x3 : Int32} (hk0 : kd c0 = 11) {M' : Mm} (hF : F_X2_perform fu M c0 x1 x2 x3 = some M') : Met l yX2_perform (.code yX2_perform cX2_perform 4 none :: zU) rm_X2_perform (va_Pc [.ref (ad G c0), .int x1, .int x2, .int x3] (Wd G M)) (QV G M') 0 0 (zA G) := by
  refine zMet (by decide) rfl (Nat.le_of_ble_eq_true rfl) ?_
  intro p e s m below meth c hC hw ls hl
  have hl : lv_has ls 4 [(0, .ref (ad G c0)), (1, .int x1), (2, .int x2), (3, .int x3)] := hl
  unfold F_X2_perform at hF
  refine lv_iload_n hC.1 hC.2.1 dX2_perform_0 rfl (lv_at hl 1 rfl) ?_
  rcases Classical.em (x1 = (0 : Int32)) with w1 | w1
  · have hF := ifP hF w1
    refine r_swI (v := (0 : Int32)) (off := 69) (tgt := 70) hC.1 hC.2.1 w1 dX2_perform_1 (by decide) (by decide) rfl (by decide) ?_
    refine lv_aload_n hC.1 hC.2.1 dX2_perform_70 rfl (lv_at hl 0 rfl) ?_
    obtain ⟨M3, h2, hF⟩ := ob1S hF
    refine k_Vv (As := []) (rest := []) hC hw (c_X2_meltAll (M := M) hk0 h2) (RC_N hk0) yv_X2_meltAll q2_79 ⟨rfl, rfl⟩ ⟨Nat.le_of_ble_eq_true rfl, Nat.le_of_ble_eq_true rfl⟩ ⟨Nat.zero_le _, Nat.zero_le _⟩ rfl rfl (Nat.le_of_ble_eq_true rfl) hl dX2_perform_71 (fun H locs hw => ?_)
    refine lv_aload_n hC.1 hC.2.1 dX2_perform_74 rfl (lv_at hl 0 rfl) ?_
    refine lv_dup hC.1 hC.2.1 dX2_perform_75 rfl ?_
    refine g2_today hC hw hk0 q1_32 dX2_perform_76 ?_
    refine lv_iconst (v := (1 : Int32)) hC.1 hC.2.1 dX2_perform_79 (by decide) ?_
    refine lv_iadd hC.1 hC.2.1 dX2_perform_80 ?_
    refine u2_today hC hw hk0 q1_32 dX2_perform_81 (fun H locs hw => ?_)
    obtain ⟨M4, hw, hF⟩ := lt1W hF hw
    refine lv_goto (tgt := 97) hC.1 hC.2.1 dX2_perform_84 (by decide) ?_
    exact r_vretE hC hw hF dX2_perform_97
  have hF := ifN hF w1
  rcases Classical.em (x1 = (2 : Int32)) with w5 | w5
  · have hF := ifP hF w5
    refine r_swI (v := (2 : Int32)) (off := 31) (tgt := 32) hC.1 hC.2.1 w5 dX2_perform_1 (by decide) (by decide) rfl (by decide) ?_
    refine lv_aload_n hC.1 hC.2.1 dX2_perform_32 rfl (lv_at hl 0 rfl) ?_
    refine g2_shadeOf hC hw hk0 q1_43 dX2_perform_33 ?_
    refine lv_iload_n hC.1 hC.2.1 dX2_perform_36 rfl (lv_at hl 2 rfl) ?_
    refine lv_iload_n hC.1 hC.2.1 dX2_perform_37 rfl (lv_at hl 3 rfl) ?_
    obtain ⟨M7, h6, hF⟩ := ob1S hF
    refine k_Nv (As := [.ref (ad G (c0 + 5)), .int x2, .int x3]) (rest := []) hC hw (c_X6_write (M := M) (kdN5 hk0) h6) ys_X6_write (k := 8) rfl ⟨rfl, rfl⟩ ⟨Nat.le_of_ble_eq_true rfl, Nat.le_of_ble_eq_true rfl⟩ ⟨Nat.zero_le _, Nat.zero_le _⟩ rfl rfl (Nat.le_of_ble_eq_true rfl) hl dX2_perform_38 (fun H locs hw => ?_)
    refine lv_goto (tgt := 97) hC.1 hC.2.1 dX2_perform_41 (by decide) ?_
    exact r_vretE hC hw hF dX2_perform_97
  have hF := ifN hF w5
  rcases Classical.em (x1 = (3 : Int32)) with w8 | w8
  · have hF := ifP hF w8
    refine r_swI (v := (3 : Int32)) (off := 43) (tgt := 44) hC.1 hC.2.1 w8 dX2_perform_1 (by decide) (by decide) rfl (by decide) ?_
    refine lv_aload_n hC.1 hC.2.1 dX2_perform_44 rfl (lv_at hl 0 rfl) ?_
    refine g2_bulkOf hC hw hk0 q1_40 dX2_perform_45 ?_
    refine lv_iload_n hC.1 hC.2.1 dX2_perform_48 rfl (lv_at hl 2 rfl) ?_
    refine lv_bipush (v := (99 : Int32)) hC.1 hC.2.1 dX2_perform_49 (by decide) ?_
    refine lv_aload_n hC.1 hC.2.1 dX2_perform_51 rfl (lv_at hl 0 rfl) ?_
    refine g2_bulkOf hC hw hk0 q1_40 dX2_perform_52 ?_
    refine lv_iload_n hC.1 hC.2.1 dX2_perform_55 rfl (lv_at hl 2 rfl) ?_
    obtain ⟨r10, h9, hF⟩ := ob1S hF
    refine k_Ni (As := [.ref (ad G (c0 + 4)), .int x2]) (rest := [.int (99 : Int32), .int x2, .ref (ad G (c0 + 4))]) hC hw (c_X6_read (M := M) (kdN4 hk0) h9) ys_X6_read (k := 6) rfl ⟨rfl, rfl⟩ ⟨Nat.le_of_ble_eq_true rfl, Nat.le_of_ble_eq_true rfl⟩ ⟨Nat.zero_le _, Nat.zero_le _⟩ rfl rfl (Nat.le_of_ble_eq_true rfl) hl dX2_perform_56 (fun H locs hw => ?_)
    refine lv_iload_n hC.1 hC.2.1 dX2_perform_59 rfl (lv_at hl 3 rfl) ?_
    refine lv_iadd hC.1 hC.2.1 dX2_perform_60 ?_
    refine r_min ⟨hC.1, hC.2.1, by rw [hC.2.2.1]; exact hl.1.symm, hC.2.2.2.1, hC.2.2.2.2.1⟩ q2_76 ⟨Nat.le_of_ble_eq_true rfl, Nat.le_of_ble_eq_true rfl⟩ ⟨Nat.zero_le _, Nat.zero_le _⟩ dX2_perform_61 ?_
    obtain ⟨M12, h11, hF⟩ := ob1S hF
    refine k_Nv (As := [.ref (ad G (c0 + 4)), .int x2, .int (zmn (99 : Int32) (r10 + x3))]) (rest := []) hC hw (c_X6_write (M := M) (kdN4 hk0) h11) ys_X6_write (k := 8) rfl ⟨rfl, rfl⟩ ⟨Nat.le_of_ble_eq_true rfl, Nat.le_of_ble_eq_true rfl⟩ ⟨Nat.zero_le _, Nat.zero_le _⟩ rfl rfl (Nat.le_of_ble_eq_true rfl) hl dX2_perform_64 (fun H locs hw => ?_)
    refine lv_goto (tgt := 97) hC.1 hC.2.1 dX2_perform_67 (by decide) ?_
    exact r_vretE hC hw hF dX2_perform_97
  have hF := ifN hF w8
  refine r_swD (tgt := 87) (vs := [(0 : Int32), (2 : Int32), (3 : Int32)]) hC.1 hC.2.1 (List.forall_mem_cons.mpr ⟨w1, List.forall_mem_cons.mpr ⟨w5, List.forall_mem_cons.mpr ⟨w8, fun v hv => absurd hv List.not_mem_nil⟩⟩⟩) dX2_perform_1 (by decide) rfl (by decide) ?_
  refine lv_aload_n hC.1 hC.2.1 dX2_perform_87 rfl (lv_at hl 0 rfl) ?_
  refine lv_dup hC.1 hC.2.1 dX2_perform_88 rfl ?_
  refine g2_today hC hw hk0 q1_32 dX2_perform_89 ?_
  refine lv_iconst (v := (1 : Int32)) hC.1 hC.2.1 dX2_perform_92 (by decide) ?_
  refine lv_iadd hC.1 hC.2.1 dX2_perform_93 ?_
  refine u2_today hC hw hk0 q1_32 dX2_perform_94 (fun H locs hw => ?_)
  obtain ⟨M13, hw, hF⟩ := lt1W hF hw
  exact r_vretE hC hw hF dX2_perform_97
abbrev rm_X2_act : Room := { frames := 5, cells := 0, slots := 0, locals := 120 }
theorem yv_X2_act : YV yX2_act cX2_act 4 none 3 RX2 := ⟨⟨q2_68, q2_69, q1_2, q2_70⟩, by decide +kernel⟩
theorem dX2_act_0 : decode cX2_act 0 = .ok (.aload_n 0, 1) := by decide +kernel
theorem dX2_act_1 : decode cX2_act 1 = .ok (.getfield 33, 3) := by decide +kernel
theorem dX2_act_4 : decode cX2_act 4 = .ok (.aload_n 0, 1) := by decide +kernel
theorem dX2_act_5 : decode cX2_act 5 = .ok (.getfield 64, 3) := by decide +kernel
theorem dX2_act_8 : decode cX2_act 8 = .ok (.iload_n 1, 1) := by decide +kernel
theorem dX2_act_9 : decode cX2_act 9 = .ok (.invokestatic 73, 3) := by decide +kernel
theorem dX2_act_12 : decode cX2_act 12 = .ok (.aload_n 0, 1) := by decide +kernel
theorem dX2_act_13 : decode cX2_act 13 = .ok (.getfield 36, 3) := by decide +kernel
theorem dX2_act_16 : decode cX2_act 16 = .ok (.aload_n 0, 1) := by decide +kernel
theorem dX2_act_17 : decode cX2_act 17 = .ok (.getfield 64, 3) := by decide +kernel
theorem dX2_act_20 : decode cX2_act 20 = .ok (.iload_n 2, 1) := by decide +kernel
theorem dX2_act_21 : decode cX2_act 21 = .ok (.invokestatic 73, 3) := by decide +kernel
theorem dX2_act_24 : decode cX2_act 24 = .ok (.aload_n 0, 1) := by decide +kernel
theorem dX2_act_25 : decode cX2_act 25 = .ok (.getfield 39, 3) := by decide +kernel
theorem dX2_act_28 : decode cX2_act 28 = .ok (.aload_n 0, 1) := by decide +kernel
theorem dX2_act_29 : decode cX2_act 29 = .ok (.getfield 64, 3) := by decide +kernel
theorem dX2_act_32 : decode cX2_act 32 = .ok (.iload_n 3, 1) := by decide +kernel
theorem dX2_act_33 : decode cX2_act 33 = .ok (.invokestatic 73, 3) := by decide +kernel
theorem dX2_act_36 : decode cX2_act 36 = .ok (.aload_n 0, 1) := by decide +kernel
theorem dX2_act_37 : decode cX2_act 37 = .ok (.dup, 1) := by decide +kernel
theorem dX2_act_38 : decode cX2_act 38 = .ok (.getfield 64, 3) := by decide +kernel
theorem dX2_act_41 : decode cX2_act 41 = .ok (.iconst 1, 1) := by decide +kernel
theorem dX2_act_42 : decode cX2_act 42 = .ok (.iadd, 1) := by decide +kernel
theorem dX2_act_43 : decode cX2_act 43 = .ok (.putfield 64, 3) := by decide +kernel
theorem dX2_act_46 : decode cX2_act 46 = .ok (.aload_n 0, 1) := by decide +kernel
theorem dX2_act_47 : decode cX2_act 47 = .ok (.iload_n 1, 1) := by decide +kernel
theorem dX2_act_48 : decode cX2_act 48 = .ok (.iload_n 2, 1) := by decide +kernel
theorem dX2_act_49 : decode cX2_act 49 = .ok (.iload_n 3, 1) := by decide +kernel
theorem dX2_act_50 : decode cX2_act 50 = .ok (.invokevirtual 77, 3) := by decide +kernel
theorem dX2_act_53 : decode cX2_act 53 = .ok (.return_, 1) := by decide +kernel
def F_X2_act (fu : Nat) (M : Mm) (c0 : Nat) (x1 : Int32) (x2 : Int32) (x3 : Int32) : Option Mm :=
  ob1 (F_X6_write fu M (c0 + 8) (M.1 c0 3) x1) (fun M2 =>
  ob1 (F_X6_write fu M2 (c0 + 9) (M2.1 c0 3) x2) (fun M4 =>
  ob1 (F_X6_write fu M4 (c0 + 10) (M4.1 c0 3) x3) (fun M6 =>
  lt1 (pI M6 c0 3 ((M6.1 c0 3) + (1 : Int32))) (fun M7 =>
  ob1 (F_X2_perform fu M7 c0 x1 x2 x3) (fun M9 =>
  some M9)))))
set_option maxRecDepth 100000 in
set_option maxHeartbeats 4000000 in
theorem c_X2_act {l : Launch} {G : Gv} {fu : Nat} {M : Mm} {c0 : Nat} {x1 : Int32} {x2 : Int32} {x3 : Int32} (hk0 : kd c0 = 11) {M' : Mm} (hF : F_X2_act fu M c0 x1 x2 x3 = some M') : Met l yX2_act (.code yX2_act cX2_act 4 none :: zU) rm_X2_act (va_Pc [.ref (ad G c0), .int x1, .int x2, .int x3] (Wd G M)) (QV G M') 0 0 (zA G) := by
  refine zMet (by decide) rfl (Nat.le_of_ble_eq_true rfl) ?_
  intro p e s m below meth c hC hw ls hl
  have hl : lv_has ls 4 [(0, .ref (ad G c0)), (1, .int x1), (2, .int x2), (3, .int x3)] := hl
  unfold F_X2_act at hF
  refine lv_aload_n hC.1 hC.2.1 dX2_act_0 rfl (lv_at hl 0 rfl) ?_
  refine g2_deedSorts hC hw hk0 q1_47 dX2_act_1 ?_
  refine lv_aload_n hC.1 hC.2.1 dX2_act_4 rfl (lv_at hl 0 rfl) ?_
  refine g2_deeds hC hw hk0 q1_34 dX2_act_5 ?_
  refine lv_iload_n hC.1 hC.2.1 dX2_act_8 rfl (lv_at hl 1 rfl) ?_
  obtain ⟨M2, h1, hF⟩ := ob1S hF
  refine k_Nv (As := [.ref (ad G (c0 + 8)), .int (M.1 c0 3), .int x1]) (rest := []) hC hw (c_X6_write (M := M) (kdN8 hk0) h1) ys_X6_write (k := 8) rfl ⟨rfl, rfl⟩ ⟨Nat.le_of_ble_eq_true rfl, Nat.le_of_ble_eq_true rfl⟩ ⟨Nat.zero_le _, Nat.zero_le _⟩ rfl rfl (Nat.le_of_ble_eq_true rfl) hl dX2_act_9 (fun H locs hw => ?_)
  refine lv_aload_n hC.1 hC.2.1 dX2_act_12 rfl (lv_at hl 0 rfl) ?_
  refine g2_deedMen hC hw hk0 q1_48 dX2_act_13 ?_
  refine lv_aload_n hC.1 hC.2.1 dX2_act_16 rfl (lv_at hl 0 rfl) ?_
  refine g2_deeds hC hw hk0 q1_34 dX2_act_17 ?_
  refine lv_iload_n hC.1 hC.2.1 dX2_act_20 rfl (lv_at hl 2 rfl) ?_
  obtain ⟨M4, h3, hF⟩ := ob1S hF
  refine k_Nv (As := [.ref (ad G (c0 + 9)), .int (M2.1 c0 3), .int x2]) (rest := []) hC hw (c_X6_write (M := M2) (kdN9 hk0) h3) ys_X6_write (k := 8) rfl ⟨rfl, rfl⟩ ⟨Nat.le_of_ble_eq_true rfl, Nat.le_of_ble_eq_true rfl⟩ ⟨Nat.zero_le _, Nat.zero_le _⟩ rfl rfl (Nat.le_of_ble_eq_true rfl) hl dX2_act_21 (fun H locs hw => ?_)
  refine lv_aload_n hC.1 hC.2.1 dX2_act_24 rfl (lv_at hl 0 rfl) ?_
  refine g2_deedValues hC hw hk0 q1_49 dX2_act_25 ?_
  refine lv_aload_n hC.1 hC.2.1 dX2_act_28 rfl (lv_at hl 0 rfl) ?_
  refine g2_deeds hC hw hk0 q1_34 dX2_act_29 ?_
  refine lv_iload_n hC.1 hC.2.1 dX2_act_32 rfl (lv_at hl 3 rfl) ?_
  obtain ⟨M6, h5, hF⟩ := ob1S hF
  refine k_Nv (As := [.ref (ad G (c0 + 10)), .int (M4.1 c0 3), .int x3]) (rest := []) hC hw (c_X6_write (M := M4) (kdN10 hk0) h5) ys_X6_write (k := 8) rfl ⟨rfl, rfl⟩ ⟨Nat.le_of_ble_eq_true rfl, Nat.le_of_ble_eq_true rfl⟩ ⟨Nat.zero_le _, Nat.zero_le _⟩ rfl rfl (Nat.le_of_ble_eq_true rfl) hl dX2_act_33 (fun H locs hw => ?_)
  refine lv_aload_n hC.1 hC.2.1 dX2_act_36 rfl (lv_at hl 0 rfl) ?_
  refine lv_dup hC.1 hC.2.1 dX2_act_37 rfl ?_
  refine g2_deeds hC hw hk0 q1_34 dX2_act_38 ?_
  refine lv_iconst (v := (1 : Int32)) hC.1 hC.2.1 dX2_act_41 (by decide) ?_
  refine lv_iadd hC.1 hC.2.1 dX2_act_42 ?_
  refine u2_deeds hC hw hk0 q1_34 dX2_act_43 (fun H locs hw => ?_)
  obtain ⟨M7, hw, hF⟩ := lt1W hF hw
  refine lv_aload_n hC.1 hC.2.1 dX2_act_46 rfl (lv_at hl 0 rfl) ?_
  refine lv_iload_n hC.1 hC.2.1 dX2_act_47 rfl (lv_at hl 1 rfl) ?_
  refine lv_iload_n hC.1 hC.2.1 dX2_act_48 rfl (lv_at hl 2 rfl) ?_
  refine lv_iload_n hC.1 hC.2.1 dX2_act_49 rfl (lv_at hl 3 rfl) ?_
  obtain ⟨M9, h8, hF⟩ := ob1S hF
  refine k_Vv (As := [.int x1, .int x2, .int x3]) (rest := []) hC hw (c_X2_perform (M := M7) hk0 h8) (RC_N hk0) yv_X2_perform q2_72 ⟨rfl, rfl⟩ ⟨Nat.le_of_ble_eq_true rfl, Nat.le_of_ble_eq_true rfl⟩ ⟨Nat.zero_le _, Nat.zero_le _⟩ rfl rfl (Nat.le_of_ble_eq_true rfl) hl dX2_act_50 (fun H locs hw => ?_)
  exact r_vretE hC hw hF dX2_act_53
abbrev rm_X2_undoFrom : Room := { frames := 5, cells := 0, slots := 0, locals := 120 }
theorem yv_X2_undoFrom : YV yX2_undoFrom cX2_undoFrom 3 none 1 RX2 := ⟨⟨q2_117, q2_118, q1_2, q2_119⟩, by decide +kernel⟩
theorem dX2_undoFrom_0 : decode cX2_undoFrom 0 = .ok (.aload_n 0, 1) := by decide +kernel
theorem dX2_undoFrom_1 : decode cX2_undoFrom 1 = .ok (.iload_n 1, 1) := by decide +kernel
theorem dX2_undoFrom_2 : decode cX2_undoFrom 2 = .ok (.putfield 64, 3) := by decide +kernel
theorem dX2_undoFrom_5 : decode cX2_undoFrom 5 = .ok (.aload_n 0, 1) := by decide +kernel
theorem dX2_undoFrom_6 : decode cX2_undoFrom 6 = .ok (.invokevirtual 67, 3) := by decide +kernel
theorem dX2_undoFrom_9 : decode cX2_undoFrom 9 = .ok (.iconst 0, 1) := by decide +kernel
theorem dX2_undoFrom_10 : decode cX2_undoFrom 10 = .ok (.istore_n 2, 1) := by decide +kernel
theorem dX2_undoFrom_11 : decode cX2_undoFrom 11 = .ok (.iload_n 2, 1) := by decide +kernel
theorem dX2_undoFrom_12 : decode cX2_undoFrom 12 = .ok (.iload_n 1, 1) := by decide +kernel
theorem dX2_undoFrom_13 : decode cX2_undoFrom 13 = .ok (.if_icmp .ge 37, 3) := by decide +kernel
theorem dX2_undoFrom_16 : decode cX2_undoFrom 16 = .ok (.aload_n 0, 1) := by decide +kernel
theorem dX2_undoFrom_17 : decode cX2_undoFrom 17 = .ok (.aload_n 0, 1) := by decide +kernel
theorem dX2_undoFrom_18 : decode cX2_undoFrom 18 = .ok (.getfield 33, 3) := by decide +kernel
theorem dX2_undoFrom_21 : decode cX2_undoFrom 21 = .ok (.iload_n 2, 1) := by decide +kernel
theorem dX2_undoFrom_22 : decode cX2_undoFrom 22 = .ok (.invokestatic 81, 3) := by decide +kernel
theorem dX2_undoFrom_25 : decode cX2_undoFrom 25 = .ok (.aload_n 0, 1) := by decide +kernel
theorem dX2_undoFrom_26 : decode cX2_undoFrom 26 = .ok (.getfield 36, 3) := by decide +kernel
theorem dX2_undoFrom_29 : decode cX2_undoFrom 29 = .ok (.iload_n 2, 1) := by decide +kernel
theorem dX2_undoFrom_30 : decode cX2_undoFrom 30 = .ok (.invokestatic 81, 3) := by decide +kernel
theorem dX2_undoFrom_33 : decode cX2_undoFrom 33 = .ok (.aload_n 0, 1) := by decide +kernel
theorem dX2_undoFrom_34 : decode cX2_undoFrom 34 = .ok (.getfield 39, 3) := by decide +kernel
theorem dX2_undoFrom_37 : decode cX2_undoFrom 37 = .ok (.iload_n 2, 1) := by decide +kernel
theorem dX2_undoFrom_38 : decode cX2_undoFrom 38 = .ok (.invokestatic 81, 3) := by decide +kernel
theorem dX2_undoFrom_41 : decode cX2_undoFrom 41 = .ok (.invokevirtual 77, 3) := by decide +kernel
theorem dX2_undoFrom_44 : decode cX2_undoFrom 44 = .ok (.iinc 2 1, 3) := by decide +kernel
theorem dX2_undoFrom_47 : decode cX2_undoFrom 47 = .ok (.goto (-36), 3) := by decide +kernel
theorem dX2_undoFrom_50 : decode cX2_undoFrom 50 = .ok (.return_, 1) := by decide +kernel
def F_X2_undoFrom_11 (fu : Nat) : Nat → Mm → Nat → Int32 → Int32 → Option Mm
  | 0, _, _, _, _ => none
  | n + 1, M, c0, x1, x2 =>
    if x1 ≤ x2 then
      some M
    else
      ob1 (F_X6_read fu M (c0 + 8) x2) (fun r3 =>
      ob1 (F_X6_read fu M (c0 + 9) x2) (fun r5 =>
      ob1 (F_X6_read fu M (c0 + 10) x2) (fun r7 =>
      ob1 (F_X2_perform fu M c0 r3 r5 r7) (fun M9 =>
      F_X2_undoFrom_11 fu n M9 c0 x1 (x2 + (1 : Int32))))))
set_option maxRecDepth 100000 in
set_option maxHeartbeats 4000000 in
theorem w_X2_undoFrom_11 {p : Program} {l : Launch} {e : Env} {s : State} {m : MethodId} {args : Array Value} {below : List Frame} {meth : Method} {c : Code} {G : Gv} (hC : Cx p s m args meth c cX2_undoFrom 3 none RX2) {fu : Nat} {M' : Mm} : ∀ (n : Nat) {c0 : Nat} {x1 : Int32} {x2 : Int32} {M : Mm} {H : Heap} {locs : List Loc} {ls : Array Slot} (hk0 : kd c0 = 11), F_X2_undoFrom_11 fu n M c0 x1 x2 = some M' → St G s H locs M → lv_has ls 3 [(0, .ref (ad G c0)), (1, .int x1), (2, .int x2)] → W p l e rm_X2_undoFrom s m args below meth c H locs 0 0 (MQ below (QV G M') args s 0 0 (zA G)) (F0 m 11 ls []) := by
  intro n
  induction n with
  | zero =>
    intro c0 x1 x2 M H locs ls hk0 hF hw hl
    cases hF
  | succ n ih =>
    intro c0 x1 x2 M H locs ls hk0 hF hw hl
    unfold F_X2_undoFrom_11 at hF
    refine lv_iload_n hC.1 hC.2.1 dX2_undoFrom_11 rfl (lv_at hl 2 rfl) ?_
    refine lv_iload_n hC.1 hC.2.1 dX2_undoFrom_12 rfl (lv_at hl 1 rfl) ?_
    refine lv_icmp_ge (tgt := 50) hC.1 hC.2.1 dX2_undoFrom_13 (by decide) (fun b1 => ?_) (fun b1 => ?_)
    · have hF := ifP hF b1
      exact r_vretE hC hw hF dX2_undoFrom_50
    · have hF := ifN hF b1
      refine lv_aload_n hC.1 hC.2.1 dX2_undoFrom_16 rfl (lv_at hl 0 rfl) ?_
      refine lv_aload_n hC.1 hC.2.1 dX2_undoFrom_17 rfl (lv_at hl 0 rfl) ?_
      refine g2_deedSorts hC hw hk0 q1_47 dX2_undoFrom_18 ?_
      refine lv_iload_n hC.1 hC.2.1 dX2_undoFrom_21 rfl (lv_at hl 2 rfl) ?_
      obtain ⟨r3, h2, hF⟩ := ob1S hF
      refine k_Ni (As := [.ref (ad G (c0 + 8)), .int x2]) (rest := [.ref (ad G c0)]) hC hw (c_X6_read (M := M) (kdN8 hk0) h2) ys_X6_read (k := 6) rfl ⟨rfl, rfl⟩ ⟨Nat.le_of_ble_eq_true rfl, Nat.le_of_ble_eq_true rfl⟩ ⟨Nat.zero_le _, Nat.zero_le _⟩ rfl rfl (Nat.le_of_ble_eq_true rfl) hl dX2_undoFrom_22 (fun H locs hw => ?_)
      refine lv_aload_n hC.1 hC.2.1 dX2_undoFrom_25 rfl (lv_at hl 0 rfl) ?_
      refine g2_deedMen hC hw hk0 q1_48 dX2_undoFrom_26 ?_
      refine lv_iload_n hC.1 hC.2.1 dX2_undoFrom_29 rfl (lv_at hl 2 rfl) ?_
      obtain ⟨r5, h4, hF⟩ := ob1S hF
      refine k_Ni (As := [.ref (ad G (c0 + 9)), .int x2]) (rest := [.int r3, .ref (ad G c0)]) hC hw (c_X6_read (M := M) (kdN9 hk0) h4) ys_X6_read (k := 6) rfl ⟨rfl, rfl⟩ ⟨Nat.le_of_ble_eq_true rfl, Nat.le_of_ble_eq_true rfl⟩ ⟨Nat.zero_le _, Nat.zero_le _⟩ rfl rfl (Nat.le_of_ble_eq_true rfl) hl dX2_undoFrom_30 (fun H locs hw => ?_)
      refine lv_aload_n hC.1 hC.2.1 dX2_undoFrom_33 rfl (lv_at hl 0 rfl) ?_
      refine g2_deedValues hC hw hk0 q1_49 dX2_undoFrom_34 ?_
      refine lv_iload_n hC.1 hC.2.1 dX2_undoFrom_37 rfl (lv_at hl 2 rfl) ?_
      obtain ⟨r7, h6, hF⟩ := ob1S hF
      refine k_Ni (As := [.ref (ad G (c0 + 10)), .int x2]) (rest := [.int r5, .int r3, .ref (ad G c0)]) hC hw (c_X6_read (M := M) (kdN10 hk0) h6) ys_X6_read (k := 6) rfl ⟨rfl, rfl⟩ ⟨Nat.le_of_ble_eq_true rfl, Nat.le_of_ble_eq_true rfl⟩ ⟨Nat.zero_le _, Nat.zero_le _⟩ rfl rfl (Nat.le_of_ble_eq_true rfl) hl dX2_undoFrom_38 (fun H locs hw => ?_)
      obtain ⟨M9, h8, hF⟩ := ob1S hF
      refine k_Vv (As := [.int r3, .int r5, .int r7]) (rest := []) hC hw (c_X2_perform (M := M) hk0 h8) (RC_N hk0) yv_X2_perform q2_72 ⟨rfl, rfl⟩ ⟨Nat.le_of_ble_eq_true rfl, Nat.le_of_ble_eq_true rfl⟩ ⟨Nat.zero_le _, Nat.zero_le _⟩ rfl rfl (Nat.le_of_ble_eq_true rfl) hl dX2_undoFrom_41 (fun H locs hw => ?_)
      refine lv_iinc (v := (x2 + (1 : Int32))) (lv' := [(2, .int (x2 + (1 : Int32))), (0, .ref (ad G c0)), (1, .int x1)]) hC.1 hC.2.1 dX2_undoFrom_44 hl (k := 2) rfl rfl (by decide) rfl (fun ls hl => ?_)
      refine lv_goto (tgt := 11) hC.1 hC.2.1 dX2_undoFrom_47 (by decide) ?_
      exact ih hk0 hF hw (lv_sub hl [1, 2, 0] rfl)
def F_X2_undoFrom (fu : Nat) (M : Mm) (c0 : Nat) (x1 : Int32) : Option Mm :=
  lt1 (pI M c0 3 x1) (fun M1 =>
  ob1 (F_X2_restart fu M1 c0) (fun M3 =>
  F_X2_undoFrom_11 fu fu M3 c0 x1 (0 : Int32)))
set_option maxRecDepth 100000 in
set_option maxHeartbeats 4000000 in
theorem c_X2_undoFrom {l : Launch} {G : Gv} {fu : Nat} {M : Mm} {c0 : Nat} {x1 : Int32} (hk0 : kd c0 = 11) {M' : Mm} (hF : F_X2_undoFrom fu M c0 x1 = some M') : Met l yX2_undoFrom (.code yX2_undoFrom cX2_undoFrom 3 none :: zU) rm_X2_undoFrom (va_Pc [.ref (ad G c0), .int x1] (Wd G M)) (QV G M') 0 0 (zA G) := by
  refine zMet (by decide) rfl (Nat.le_of_ble_eq_true rfl) ?_
  intro p e s m below meth c hC hw ls hl
  have hl : lv_has ls 3 [(0, .ref (ad G c0)), (1, .int x1)] := hl
  unfold F_X2_undoFrom at hF
  refine lv_aload_n hC.1 hC.2.1 dX2_undoFrom_0 rfl (lv_at hl 0 rfl) ?_
  refine lv_iload_n hC.1 hC.2.1 dX2_undoFrom_1 rfl (lv_at hl 1 rfl) ?_
  refine u2_deeds hC hw hk0 q1_34 dX2_undoFrom_2 (fun H locs hw => ?_)
  obtain ⟨M1, hw, hF⟩ := lt1W hF hw
  refine lv_aload_n hC.1 hC.2.1 dX2_undoFrom_5 rfl (lv_at hl 0 rfl) ?_
  obtain ⟨M3, h2, hF⟩ := ob1S hF
  refine k_Vv (As := []) (rest := []) hC hw (c_X2_restart (M := M1) hk0 h2) (RC_N hk0) yv_X2_restart q2_120 ⟨rfl, rfl⟩ ⟨Nat.le_of_ble_eq_true rfl, Nat.le_of_ble_eq_true rfl⟩ ⟨Nat.zero_le _, Nat.zero_le _⟩ rfl rfl (Nat.le_of_ble_eq_true rfl) hl dX2_undoFrom_6 (fun H locs hw => ?_)
  refine lv_iconst (v := (0 : Int32)) hC.1 hC.2.1 dX2_undoFrom_9 (by decide) ?_
  refine lv_istore_n (lv' := [(2, .int (0 : Int32)), (0, .ref (ad G c0)), (1, .int x1)]) hC.1 hC.2.1 dX2_undoFrom_10 rfl hl (by decide) rfl (fun ls hl => ?_)
  exact w_X2_undoFrom_11 hC _ hk0 hF hw (lv_sub hl [1, 2, 0] rfl)
abbrev rm_X2_meltedIn : Room := { frames := 2, cells := 0, slots := 0, locals := 54 }
theorem yv_X2_meltedIn : YV yX2_meltedIn cX2_meltedIn 6 (some .int) 3 RX2 := ⟨⟨q2_159, q2_160, q1_2, q2_161⟩, by decide +kernel⟩
theorem dX2_meltedIn_0 : decode cX2_meltedIn 0 = .ok (.iconst 0, 1) := by decide +kernel
theorem dX2_meltedIn_1 : decode cX2_meltedIn 1 = .ok (.istore 4, 2) := by decide +kernel
theorem dX2_meltedIn_3 : decode cX2_meltedIn 3 = .ok (.iconst 0, 1) := by decide +kernel
theorem dX2_meltedIn_4 : decode cX2_meltedIn 4 = .ok (.istore 5, 2) := by decide +kernel
theorem dX2_meltedIn_6 : decode cX2_meltedIn 6 = .ok (.iload 5, 2) := by decide +kernel
theorem dX2_meltedIn_8 : decode cX2_meltedIn 8 = .ok (.iload_n 3, 1) := by decide +kernel
theorem dX2_meltedIn_9 : decode cX2_meltedIn 9 = .ok (.if_icmp .ge 27, 3) := by decide +kernel
theorem dX2_meltedIn_12 : decode cX2_meltedIn 12 = .ok (.iload 4, 2) := by decide +kernel
theorem dX2_meltedIn_14 : decode cX2_meltedIn 14 = .ok (.aload_n 0, 1) := by decide +kernel
theorem dX2_meltedIn_15 : decode cX2_meltedIn 15 = .ok (.iload_n 1, 1) := by decide +kernel
theorem dX2_meltedIn_16 : decode cX2_meltedIn 16 = .ok (.iload_n 2, 1) := by decide +kernel
theorem dX2_meltedIn_17 : decode cX2_meltedIn 17 = .ok (.aload_n 0, 1) := by decide +kernel
theorem dX2_meltedIn_18 : decode cX2_meltedIn 18 = .ok (.getfield 70, 3) := by decide +kernel
theorem dX2_meltedIn_21 : decode cX2_meltedIn 21 = .ok (.iload 5, 2) := by decide +kernel
theorem dX2_meltedIn_23 : decode cX2_meltedIn 23 = .ok (.iadd, 1) := by decide +kernel
theorem dX2_meltedIn_24 : decode cX2_meltedIn 24 = .ok (.invokevirtual 100, 3) := by decide +kernel
theorem dX2_meltedIn_27 : decode cX2_meltedIn 27 = .ok (.iadd, 1) := by decide +kernel
theorem dX2_meltedIn_28 : decode cX2_meltedIn 28 = .ok (.istore 4, 2) := by decide +kernel
theorem dX2_meltedIn_30 : decode cX2_meltedIn 30 = .ok (.iinc 5 1, 3) := by decide +kernel
theorem dX2_meltedIn_33 : decode cX2_meltedIn 33 = .ok (.goto (-27), 3) := by decide +kernel
theorem dX2_meltedIn_36 : decode cX2_meltedIn 36 = .ok (.iload 4, 2) := by decide +kernel
theorem dX2_meltedIn_38 : decode cX2_meltedIn 38 = .ok (.ireturn, 1) := by decide +kernel
def F_X2_meltedIn_6 (fu : Nat) (M : Mm) : Nat → Nat → Int32 → Int32 → Int32 → Int32 → Int32 → Option Int32
  | 0, _, _, _, _, _, _ => none
  | n + 1, c0, x1, x2, x3, x4, x5 =>
    if x3 ≤ x5 then
      some x4
    else
      ob1 (F_X2_melting fu M c0 x1 x2 ((M.1 c0 2) + x5)) (fun r3 =>
      F_X2_meltedIn_6 fu M n c0 x1 x2 x3 (x4 + r3) (x5 + (1 : Int32)))
set_option maxRecDepth 100000 in
set_option maxHeartbeats 4000000 in
theorem w_X2_meltedIn_6 {p : Program} {l : Launch} {e : Env} {s : State} {m : MethodId} {args : Array Value} {below : List Frame} {meth : Method} {c : Code} {G : Gv} (hC : Cx p s m args meth c cX2_meltedIn 6 (some .int) RX2) {fu : Nat} {r : Int32} {M : Mm} : ∀ (n : Nat) {c0 : Nat} {x1 : Int32} {x2 : Int32} {x3 : Int32} {x4 : Int32} {x5 : Int32} {H : Heap} {locs : List Loc} {ls : Array Slot} (hk0 : kd c0 = 11), F_X2_meltedIn_6 fu M n c0 x1 x2 x3 x4 x5 = some r → St G s H locs M → lv_has ls 6 [(0, .ref (ad G c0)), (1, .int x1), (2, .int x2), (3, .int x3), (4, .int x4), (5, .int x5)] → W p l e rm_X2_meltedIn s m args below meth c H locs 0 0 (MQ below (QI G r M) args s 0 0 (zA G)) (F0 m 6 ls []) := by
  intro n
  induction n with
  | zero =>
    intro c0 x1 x2 x3 x4 x5 H locs ls hk0 hF hw hl
    cases hF
  | succ n ih =>
    intro c0 x1 x2 x3 x4 x5 H locs ls hk0 hF hw hl
    unfold F_X2_meltedIn_6 at hF
    refine lv_iload hC.1 hC.2.1 dX2_meltedIn_6 (lv_at hl 5 rfl) ?_
    refine lv_iload_n hC.1 hC.2.1 dX2_meltedIn_8 rfl (lv_at hl 3 rfl) ?_
    refine lv_icmp_ge (tgt := 36) hC.1 hC.2.1 dX2_meltedIn_9 (by decide) (fun b1 => ?_) (fun b1 => ?_)
    · have hF := ifP hF b1
      refine lv_iload hC.1 hC.2.1 dX2_meltedIn_36 (lv_at hl 4 rfl) ?_
      exact r_iretP hC hw hF dX2_meltedIn_38
    · have hF := ifN hF b1
      refine lv_iload hC.1 hC.2.1 dX2_meltedIn_12 (lv_at hl 4 rfl) ?_
      refine lv_aload_n hC.1 hC.2.1 dX2_meltedIn_14 rfl (lv_at hl 0 rfl) ?_
      refine lv_iload_n hC.1 hC.2.1 dX2_meltedIn_15 rfl (lv_at hl 1 rfl) ?_
      refine lv_iload_n hC.1 hC.2.1 dX2_meltedIn_16 rfl (lv_at hl 2 rfl) ?_
      refine lv_aload_n hC.1 hC.2.1 dX2_meltedIn_17 rfl (lv_at hl 0 rfl) ?_
      refine g2_today hC hw hk0 q1_32 dX2_meltedIn_18 ?_
      refine lv_iload hC.1 hC.2.1 dX2_meltedIn_21 (lv_at hl 5 rfl) ?_
      refine lv_iadd hC.1 hC.2.1 dX2_meltedIn_23 ?_
      obtain ⟨r3, h2, hF⟩ := ob1S hF
      refine k_Vi (As := [.int x1, .int x2, .int ((M.1 c0 2) + x5)]) (rest := [.int x4]) hC hw (c_X2_melting (M := M) hk0 h2) (RC_N hk0) yv_X2_melting q2_87 ⟨rfl, rfl⟩ ⟨Nat.le_of_ble_eq_true rfl, Nat.le_of_ble_eq_true rfl⟩ ⟨Nat.zero_le _, Nat.zero_le _⟩ rfl rfl (Nat.le_of_ble_eq_true rfl) hl dX2_meltedIn_24 (fun H locs hw => ?_)
      refine lv_iadd hC.1 hC.2.1 dX2_meltedIn_27 ?_
      refine lv_istore (lv' := [(4, .int (x4 + r3)), (0, .ref (ad G c0)), (1, .int x1), (2, .int x2), (3, .int x3), (5, .int x5)]) hC.1 hC.2.1 dX2_meltedIn_28 hl (by decide) rfl (fun ls hl => ?_)
      refine lv_iinc (v := (x5 + (1 : Int32))) (lv' := [(5, .int (x5 + (1 : Int32))), (4, .int (x4 + r3)), (0, .ref (ad G c0)), (1, .int x1), (2, .int x2), (3, .int x3)]) hC.1 hC.2.1 dX2_meltedIn_30 hl (k := 5) rfl rfl (by decide) rfl (fun ls hl => ?_)
      refine lv_goto (tgt := 6) hC.1 hC.2.1 dX2_meltedIn_33 (by decide) ?_
      exact ih hk0 hF hw (lv_sub hl [2, 3, 4, 5, 1, 0] rfl)
def F_X2_meltedIn (fu : Nat) (M : Mm) (c0 : Nat) (x1 : Int32) (x2 : Int32) (x3 : Int32) : Option Int32 :=
  F_X2_meltedIn_6 fu M fu c0 x1 x2 x3 (0 : Int32) (0 : Int32)
set_option maxRecDepth 100000 in
set_option maxHeartbeats 4000000 in
theorem c_X2_meltedIn {l : Launch} {G : Gv} {fu : Nat} {M : Mm} {c0 : Nat} {x1 : Int32} {x2 : Int32} {x3 : Int32} (hk0 : kd c0 = 11) {r : Int32} (hF : F_X2_meltedIn fu M c0 x1 x2 x3 = some r) : Met l yX2_meltedIn (.code yX2_meltedIn cX2_meltedIn 6 (some .int) :: zU) rm_X2_meltedIn (va_Pc [.ref (ad G c0), .int x1, .int x2, .int x3] (Wd G M)) (QI G r M) 0 0 (zA G) := by
  refine zMet (by decide) rfl (Nat.le_of_ble_eq_true rfl) ?_
  intro p e s m below meth c hC hw ls hl
  have hl : lv_has ls 6 [(0, .ref (ad G c0)), (1, .int x1), (2, .int x2), (3, .int x3)] := hl
  unfold F_X2_meltedIn at hF
  refine lv_iconst (v := (0 : Int32)) hC.1 hC.2.1 dX2_meltedIn_0 (by decide) ?_
  refine lv_istore (lv' := [(4, .int (0 : Int32)), (0, .ref (ad G c0)), (1, .int x1), (2, .int x2), (3, .int x3)]) hC.1 hC.2.1 dX2_meltedIn_1 hl (by decide) rfl (fun ls hl => ?_)
  refine lv_iconst (v := (0 : Int32)) hC.1 hC.2.1 dX2_meltedIn_3 (by decide) ?_
  refine lv_istore (lv' := [(5, .int (0 : Int32)), (4, .int (0 : Int32)), (0, .ref (ad G c0)), (1, .int x1), (2, .int x2), (3, .int x3)]) hC.1 hC.2.1 dX2_meltedIn_4 hl (by decide) rfl (fun ls hl => ?_)
  exact w_X2_meltedIn_6 hC _ hk0 hF hw (lv_sub hl [2, 3, 4, 5, 1, 0] rfl)
abbrev rm_X2_bulkBy : Room := { frames := 3, cells := 0, slots := 0, locals := 79 }
theorem yv_X2_bulkBy : YV yX2_bulkBy cX2_bulkBy 4 (some .int) 3 RX2 := ⟨⟨q2_156, qs_10, q1_2, q2_157⟩, by decide +kernel⟩
theorem dX2_bulkBy_0 : decode cX2_bulkBy 0 = .ok (.iconst 0, 1) := by decide +kernel
theorem dX2_bulkBy_1 : decode cX2_bulkBy 1 = .ok (.aload_n 0, 1) := by decide +kernel
theorem dX2_bulkBy_2 : decode cX2_bulkBy 2 = .ok (.getfield 21, 3) := by decide +kernel
theorem dX2_bulkBy_5 : decode cX2_bulkBy 5 = .ok (.iload_n 1, 1) := by decide +kernel
theorem dX2_bulkBy_6 : decode cX2_bulkBy 6 = .ok (.invokestatic 81, 3) := by decide +kernel
theorem dX2_bulkBy_9 : decode cX2_bulkBy 9 = .ok (.aload_n 0, 1) := by decide +kernel
theorem dX2_bulkBy_10 : decode cX2_bulkBy 10 = .ok (.aload_n 0, 1) := by decide +kernel
theorem dX2_bulkBy_11 : decode cX2_bulkBy 11 = .ok (.getfield 15, 3) := by decide +kernel
theorem dX2_bulkBy_14 : decode cX2_bulkBy 14 = .ok (.iload_n 1, 1) := by decide +kernel
theorem dX2_bulkBy_15 : decode cX2_bulkBy 15 = .ok (.invokestatic 81, 3) := by decide +kernel
theorem dX2_bulkBy_18 : decode cX2_bulkBy 18 = .ok (.iload_n 2, 1) := by decide +kernel
theorem dX2_bulkBy_19 : decode cX2_bulkBy 19 = .ok (.iload_n 3, 1) := by decide +kernel
theorem dX2_bulkBy_20 : decode cX2_bulkBy 20 = .ok (.invokevirtual 107, 3) := by decide +kernel
theorem dX2_bulkBy_23 : decode cX2_bulkBy 23 = .ok (.isub, 1) := by decide +kernel
theorem dX2_bulkBy_24 : decode cX2_bulkBy 24 = .ok (.invokestatic 97, 3) := by decide +kernel
theorem dX2_bulkBy_27 : decode cX2_bulkBy 27 = .ok (.ireturn, 1) := by decide +kernel
def F_X2_bulkBy (fu : Nat) (M : Mm) (c0 : Nat) (x1 : Int32) (x2 : Int32) (x3 : Int32) : Option Int32 :=
  ob1 (F_X6_read fu M (c0 + 4) x1) (fun r2 =>
  ob1 (F_X6_read fu M (c0 + 2) x1) (fun r4 =>
  ob1 (F_X2_meltedIn fu M c0 r4 x2 x3) (fun r6 =>
  some (zmx (0 : Int32) (r2 - r6)))))
set_option maxRecDepth 100000 in
set_option maxHeartbeats 4000000 in
theorem c_X2_bulkBy {l : Launch} {G : Gv} {fu : Nat} {M : Mm} {c0 : Nat} {x1 : Int32} {x2 : Int32} {x3 : Int32} (hk0 : kd c0 = 11) {r : Int32} (hF : F_X2_bulkBy fu M c0 x1 x2 x3 = some r) : Met l yX2_bulkBy (.code yX2_bulkBy cX2_bulkBy 4 (some .int) :: zU) rm_X2_bulkBy (va_Pc [.ref (ad G c0), .int x1, .int x2, .int x3] (Wd G M)) (QI G r M) 0 0 (zA G) := by
  refine zMet (by decide) rfl (Nat.le_of_ble_eq_true rfl) ?_
  intro p e s m below meth c hC hw ls hl
  have hl : lv_has ls 4 [(0, .ref (ad G c0)), (1, .int x1), (2, .int x2), (3, .int x3)] := hl
  unfold F_X2_bulkBy at hF
  refine lv_iconst (v := (0 : Int32)) hC.1 hC.2.1 dX2_bulkBy_0 (by decide) ?_
  refine lv_aload_n hC.1 hC.2.1 dX2_bulkBy_1 rfl (lv_at hl 0 rfl) ?_
  refine g2_bulkOf hC hw hk0 q1_40 dX2_bulkBy_2 ?_
  refine lv_iload_n hC.1 hC.2.1 dX2_bulkBy_5 rfl (lv_at hl 1 rfl) ?_
  obtain ⟨r2, h1, hF⟩ := ob1S hF
  refine k_Ni (As := [.ref (ad G (c0 + 4)), .int x1]) (rest := [.int (0 : Int32)]) hC hw (c_X6_read (M := M) (kdN4 hk0) h1) ys_X6_read (k := 6) rfl ⟨rfl, rfl⟩ ⟨Nat.le_of_ble_eq_true rfl, Nat.le_of_ble_eq_true rfl⟩ ⟨Nat.zero_le _, Nat.zero_le _⟩ rfl rfl (Nat.le_of_ble_eq_true rfl) hl dX2_bulkBy_6 (fun H locs hw => ?_)
  refine lv_aload_n hC.1 hC.2.1 dX2_bulkBy_9 rfl (lv_at hl 0 rfl) ?_
  refine lv_aload_n hC.1 hC.2.1 dX2_bulkBy_10 rfl (lv_at hl 0 rfl) ?_
  refine g2_kindOf hC hw hk0 q1_37 dX2_bulkBy_11 ?_
  refine lv_iload_n hC.1 hC.2.1 dX2_bulkBy_14 rfl (lv_at hl 1 rfl) ?_
  obtain ⟨r4, h3, hF⟩ := ob1S hF
  refine k_Ni (As := [.ref (ad G (c0 + 2)), .int x1]) (rest := [.ref (ad G c0), .int r2, .int (0 : Int32)]) hC hw (c_X6_read (M := M) (kdN2 hk0) h3) ys_X6_read (k := 6) rfl ⟨rfl, rfl⟩ ⟨Nat.le_of_ble_eq_true rfl, Nat.le_of_ble_eq_true rfl⟩ ⟨Nat.zero_le _, Nat.zero_le _⟩ rfl rfl (Nat.le_of_ble_eq_true rfl) hl dX2_bulkBy_15 (fun H locs hw => ?_)
  refine lv_iload_n hC.1 hC.2.1 dX2_bulkBy_18 rfl (lv_at hl 2 rfl) ?_
  refine lv_iload_n hC.1 hC.2.1 dX2_bulkBy_19 rfl (lv_at hl 3 rfl) ?_
  obtain ⟨r6, h5, hF⟩ := ob1S hF
  refine k_Vi (As := [.int r4, .int x2, .int x3]) (rest := [.int r2, .int (0 : Int32)]) hC hw (c_X2_meltedIn (M := M) hk0 h5) (RC_N hk0) yv_X2_meltedIn q2_158 ⟨rfl, rfl⟩ ⟨Nat.le_of_ble_eq_true rfl, Nat.le_of_ble_eq_true rfl⟩ ⟨Nat.zero_le _, Nat.zero_le _⟩ rfl rfl (Nat.le_of_ble_eq_true rfl) hl dX2_bulkBy_20 (fun H locs hw => ?_)
  refine lv_isub hC.1 hC.2.1 dX2_bulkBy_23 ?_
  refine r_max ⟨hC.1, hC.2.1, by rw [hC.2.2.1]; exact hl.1.symm, hC.2.2.2.1, hC.2.2.2.2.1⟩ q2_91 ⟨Nat.le_of_ble_eq_true rfl, Nat.le_of_ble_eq_true rfl⟩ ⟨Nat.zero_le _, Nat.zero_le _⟩ dX2_bulkBy_24 ?_
  exact r_iretP hC hw hF dX2_bulkBy_27
abbrev rm_X2_bulkIn : Room := { frames := 4, cells := 0, slots := 0, locals := 102 }
theorem yv_X2_bulkIn : YV yX2_bulkIn cX2_bulkIn 3 (some .int) 2 RX2 := ⟨⟨q2_151, q2_152, q1_2, q2_153⟩, by decide +kernel⟩
theorem dX2_bulkIn_0 : decode cX2_bulkIn 0 = .ok (.aload_n 0, 1) := by decide +kernel
theorem dX2_bulkIn_1 : decode cX2_bulkIn 1 = .ok (.iload_n 1, 1) := by decide +kernel
theorem dX2_bulkIn_2 : decode cX2_bulkIn 2 = .ok (.aload_n 0, 1) := by decide +kernel
theorem dX2_bulkIn_3 : decode cX2_bulkIn 3 = .ok (.getfield 24, 3) := by decide +kernel
theorem dX2_bulkIn_6 : decode cX2_bulkIn 6 = .ok (.iload_n 1, 1) := by decide +kernel
theorem dX2_bulkIn_7 : decode cX2_bulkIn 7 = .ok (.invokestatic 81, 3) := by decide +kernel
theorem dX2_bulkIn_10 : decode cX2_bulkIn 10 = .ok (.iload_n 2, 1) := by decide +kernel
theorem dX2_bulkIn_11 : decode cX2_bulkIn 11 = .ok (.invokevirtual 104, 3) := by decide +kernel
theorem dX2_bulkIn_14 : decode cX2_bulkIn 14 = .ok (.ireturn, 1) := by decide +kernel
def F_X2_bulkIn (fu : Nat) (M : Mm) (c0 : Nat) (x1 : Int32) (x2 : Int32) : Option Int32 :=
  ob1 (F_X6_read fu M (c0 + 5) x1) (fun r2 =>
  ob1 (F_X2_bulkBy fu M c0 x1 r2 x2) (fun r4 =>
  some r4))
set_option maxRecDepth 100000 in
set_option maxHeartbeats 4000000 in
theorem c_X2_bulkIn {l : Launch} {G : Gv} {fu : Nat} {M : Mm} {c0 : Nat} {x1 : Int32} {x2 : Int32} (hk0 : kd c0 = 11) {r : Int32} (hF : F_X2_bulkIn fu M c0 x1 x2 = some r) : Met l yX2_bulkIn (.code yX2_bulkIn cX2_bulkIn 3 (some .int) :: zU) rm_X2_bulkIn (va_Pc [.ref (ad G c0), .int x1, .int x2] (Wd G M)) (QI G r M) 0 0 (zA G) := by
  refine zMet (by decide) rfl (Nat.le_of_ble_eq_true rfl) ?_
  intro p e s m below meth c hC hw ls hl
  have hl : lv_has ls 3 [(0, .ref (ad G c0)), (1, .int x1), (2, .int x2)] := hl
  unfold F_X2_bulkIn at hF
  refine lv_aload_n hC.1 hC.2.1 dX2_bulkIn_0 rfl (lv_at hl 0 rfl) ?_
  refine lv_iload_n hC.1 hC.2.1 dX2_bulkIn_1 rfl (lv_at hl 1 rfl) ?_
  refine lv_aload_n hC.1 hC.2.1 dX2_bulkIn_2 rfl (lv_at hl 0 rfl) ?_
  refine g2_shadeOf hC hw hk0 q1_43 dX2_bulkIn_3 ?_
  refine lv_iload_n hC.1 hC.2.1 dX2_bulkIn_6 rfl (lv_at hl 1 rfl) ?_
  obtain ⟨r2, h1, hF⟩ := ob1S hF
  refine k_Ni (As := [.ref (ad G (c0 + 5)), .int x1]) (rest := [.int x1, .ref (ad G c0)]) hC hw (c_X6_read (M := M) (kdN5 hk0) h1) ys_X6_read (k := 6) rfl ⟨rfl, rfl⟩ ⟨Nat.le_of_ble_eq_true rfl, Nat.le_of_ble_eq_true rfl⟩ ⟨Nat.zero_le _, Nat.zero_le _⟩ rfl rfl (Nat.le_of_ble_eq_true rfl) hl dX2_bulkIn_7 (fun H locs hw => ?_)
  refine lv_iload_n hC.1 hC.2.1 dX2_bulkIn_10 rfl (lv_at hl 2 rfl) ?_
  obtain ⟨r4, h3, hF⟩ := ob1S hF
  refine k_Vi (As := [.int x1, .int r2, .int x2]) (rest := []) hC hw (c_X2_bulkBy (M := M) hk0 h3) (RC_N hk0) yv_X2_bulkBy q2_154 ⟨rfl, rfl⟩ ⟨Nat.le_of_ble_eq_true rfl, Nat.le_of_ble_eq_true rfl⟩ ⟨Nat.zero_le _, Nat.zero_le _⟩ rfl rfl (Nat.le_of_ble_eq_true rfl) hl dX2_bulkIn_11 (fun H locs hw => ?_)
  exact r_iretP hC hw hF dX2_bulkIn_14
abbrev rm_X2_goneIn : Room := { frames := 3, cells := 0, slots := 0, locals := 76 }
theorem yv_X2_goneIn : YV yX2_goneIn cX2_goneIn 4 (some .int) 1 RX2 := ⟨⟨q2_167, q2_168, q1_2, q2_169⟩, by decide +kernel⟩
theorem dX2_goneIn_0 : decode cX2_goneIn 0 = .ok (.aload_n 0, 1) := by decide +kernel
theorem dX2_goneIn_1 : decode cX2_goneIn 1 = .ok (.getfield 21, 3) := by decide +kernel
theorem dX2_goneIn_4 : decode cX2_goneIn 4 = .ok (.iload_n 1, 1) := by decide +kernel
theorem dX2_goneIn_5 : decode cX2_goneIn 5 = .ok (.invokestatic 81, 3) := by decide +kernel
theorem dX2_goneIn_8 : decode cX2_goneIn 8 = .ok (.istore_n 2, 1) := by decide +kernel
theorem dX2_goneIn_9 : decode cX2_goneIn 9 = .ok (.iconst 0, 1) := by decide +kernel
theorem dX2_goneIn_10 : decode cX2_goneIn 10 = .ok (.istore_n 3, 1) := by decide +kernel
theorem dX2_goneIn_11 : decode cX2_goneIn 11 = .ok (.iload_n 3, 1) := by decide +kernel
theorem dX2_goneIn_12 : decode cX2_goneIn 12 = .ok (.bipush 60, 2) := by decide +kernel
theorem dX2_goneIn_14 : decode cX2_goneIn 14 = .ok (.if_icmp .gt 24, 3) := by decide +kernel
theorem dX2_goneIn_17 : decode cX2_goneIn 17 = .ok (.iload_n 2, 1) := by decide +kernel
theorem dX2_goneIn_18 : decode cX2_goneIn 18 = .ok (.ifCond .gt 5, 3) := by decide +kernel
theorem dX2_goneIn_21 : decode cX2_goneIn 21 = .ok (.iload_n 3, 1) := by decide +kernel
theorem dX2_goneIn_22 : decode cX2_goneIn 22 = .ok (.ireturn, 1) := by decide +kernel
theorem dX2_goneIn_23 : decode cX2_goneIn 23 = .ok (.iload_n 2, 1) := by decide +kernel
theorem dX2_goneIn_24 : decode cX2_goneIn 24 = .ok (.aload_n 0, 1) := by decide +kernel
theorem dX2_goneIn_25 : decode cX2_goneIn 25 = .ok (.iload_n 1, 1) := by decide +kernel
theorem dX2_goneIn_26 : decode cX2_goneIn 26 = .ok (.iload_n 3, 1) := by decide +kernel
theorem dX2_goneIn_27 : decode cX2_goneIn 27 = .ok (.invokevirtual 94, 3) := by decide +kernel
theorem dX2_goneIn_30 : decode cX2_goneIn 30 = .ok (.isub, 1) := by decide +kernel
theorem dX2_goneIn_31 : decode cX2_goneIn 31 = .ok (.istore_n 2, 1) := by decide +kernel
theorem dX2_goneIn_32 : decode cX2_goneIn 32 = .ok (.iinc 3 1, 3) := by decide +kernel
theorem dX2_goneIn_35 : decode cX2_goneIn 35 = .ok (.goto (-24), 3) := by decide +kernel
theorem dX2_goneIn_38 : decode cX2_goneIn 38 = .ok (.bipush (-9), 2) := by decide +kernel
theorem dX2_goneIn_40 : decode cX2_goneIn 40 = .ok (.ireturn, 1) := by decide +kernel
def F_X2_goneIn_11 (fu : Nat) (M : Mm) : Nat → Nat → Int32 → Int32 → Int32 → Option Int32
  | 0, _, _, _, _ => none
  | n + 1, c0, x1, x2, x3 =>
    if (60 : Int32) < x3 then
      some (-9 : Int32)
    else
      if 0 < x2 then
        ob1 (F_X2_meltingIn fu M c0 x1 x3) (fun r4 =>
        F_X2_goneIn_11 fu M n c0 x1 (x2 - r4) (x3 + (1 : Int32)))
      else
        some x3
set_option maxRecDepth 100000 in
set_option maxHeartbeats 4000000 in
theorem w_X2_goneIn_11 {p : Program} {l : Launch} {e : Env} {s : State} {m : MethodId} {args : Array Value} {below : List Frame} {meth : Method} {c : Code} {G : Gv} (hC : Cx p s m args meth c cX2_goneIn 4 (some .int) RX2) {fu : Nat} {r : Int32} {M : Mm} : ∀ (n : Nat) {c0 : Nat} {x1 : Int32} {x2 : Int32} {x3 : Int32} {H : Heap} {locs : List Loc} {ls : Array Slot} (hk0 : kd c0 = 11), F_X2_goneIn_11 fu M n c0 x1 x2 x3 = some r → St G s H locs M → lv_has ls 4 [(0, .ref (ad G c0)), (1, .int x1), (2, .int x2), (3, .int x3)] → W p l e rm_X2_goneIn s m args below meth c H locs 0 0 (MQ below (QI G r M) args s 0 0 (zA G)) (F0 m 11 ls []) := by
  intro n
  induction n with
  | zero =>
    intro c0 x1 x2 x3 H locs ls hk0 hF hw hl
    cases hF
  | succ n ih =>
    intro c0 x1 x2 x3 H locs ls hk0 hF hw hl
    unfold F_X2_goneIn_11 at hF
    refine lv_iload_n hC.1 hC.2.1 dX2_goneIn_11 rfl (lv_at hl 3 rfl) ?_
    refine lv_bipush (v := (60 : Int32)) hC.1 hC.2.1 dX2_goneIn_12 (by decide) ?_
    refine lv_icmp_gt (tgt := 38) hC.1 hC.2.1 dX2_goneIn_14 (by decide) (fun b1 => ?_) (fun b1 => ?_)
    · have hF := ifP hF b1
      refine lv_bipush (v := (-9 : Int32)) hC.1 hC.2.1 dX2_goneIn_38 (by decide) ?_
      exact r_iretP hC hw hF dX2_goneIn_40
    · have hF := ifN hF b1
      refine lv_iload_n hC.1 hC.2.1 dX2_goneIn_17 rfl (lv_at hl 2 rfl) ?_
      refine lv_if_gt (tgt := 23) hC.1 hC.2.1 dX2_goneIn_18 (by decide) (fun b2 => ?_) (fun b2 => ?_)
      · have hF := ifP hF b2
        refine lv_iload_n hC.1 hC.2.1 dX2_goneIn_23 rfl (lv_at hl 2 rfl) ?_
        refine lv_aload_n hC.1 hC.2.1 dX2_goneIn_24 rfl (lv_at hl 0 rfl) ?_
        refine lv_iload_n hC.1 hC.2.1 dX2_goneIn_25 rfl (lv_at hl 1 rfl) ?_
        refine lv_iload_n hC.1 hC.2.1 dX2_goneIn_26 rfl (lv_at hl 3 rfl) ?_
        obtain ⟨r4, h3, hF⟩ := ob1S hF
        refine k_Vi (As := [.int x1, .int x3]) (rest := [.int x2]) hC hw (c_X2_meltingIn (M := M) hk0 h3) (RC_N hk0) yv_X2_meltingIn q2_83 ⟨rfl, rfl⟩ ⟨Nat.le_of_ble_eq_true rfl, Nat.le_of_ble_eq_true rfl⟩ ⟨Nat.zero_le _, Nat.zero_le _⟩ rfl rfl (Nat.le_of_ble_eq_true rfl) hl dX2_goneIn_27 (fun H locs hw => ?_)
        refine lv_isub hC.1 hC.2.1 dX2_goneIn_30 ?_
        refine lv_istore_n (lv' := [(2, .int (x2 - r4)), (0, .ref (ad G c0)), (1, .int x1), (3, .int x3)]) hC.1 hC.2.1 dX2_goneIn_31 rfl hl (by decide) rfl (fun ls hl => ?_)
        refine lv_iinc (v := (x3 + (1 : Int32))) (lv' := [(3, .int (x3 + (1 : Int32))), (2, .int (x2 - r4)), (0, .ref (ad G c0)), (1, .int x1)]) hC.1 hC.2.1 dX2_goneIn_32 hl (k := 3) rfl rfl (by decide) rfl (fun ls hl => ?_)
        refine lv_goto (tgt := 11) hC.1 hC.2.1 dX2_goneIn_35 (by decide) ?_
        exact ih hk0 hF hw (lv_sub hl [2, 3, 1, 0] rfl)
      · have hF := ifN hF b2
        refine lv_iload_n hC.1 hC.2.1 dX2_goneIn_21 rfl (lv_at hl 3 rfl) ?_
        exact r_iretP hC hw hF dX2_goneIn_22
def F_X2_goneIn (fu : Nat) (M : Mm) (c0 : Nat) (x1 : Int32) : Option Int32 :=
  ob1 (F_X6_read fu M (c0 + 4) x1) (fun r2 =>
  F_X2_goneIn_11 fu M fu c0 x1 r2 (0 : Int32))
set_option maxRecDepth 100000 in
set_option maxHeartbeats 4000000 in
theorem c_X2_goneIn {l : Launch} {G : Gv} {fu : Nat} {M : Mm} {c0 : Nat} {x1 : Int32} (hk0 : kd c0 = 11) {r : Int32} (hF : F_X2_goneIn fu M c0 x1 = some r) : Met l yX2_goneIn (.code yX2_goneIn cX2_goneIn 4 (some .int) :: zU) rm_X2_goneIn (va_Pc [.ref (ad G c0), .int x1] (Wd G M)) (QI G r M) 0 0 (zA G) := by
  refine zMet (by decide) rfl (Nat.le_of_ble_eq_true rfl) ?_
  intro p e s m below meth c hC hw ls hl
  have hl : lv_has ls 4 [(0, .ref (ad G c0)), (1, .int x1)] := hl
  unfold F_X2_goneIn at hF
  refine lv_aload_n hC.1 hC.2.1 dX2_goneIn_0 rfl (lv_at hl 0 rfl) ?_
  refine g2_bulkOf hC hw hk0 q1_40 dX2_goneIn_1 ?_
  refine lv_iload_n hC.1 hC.2.1 dX2_goneIn_4 rfl (lv_at hl 1 rfl) ?_
  obtain ⟨r2, h1, hF⟩ := ob1S hF
  refine k_Ni (As := [.ref (ad G (c0 + 4)), .int x1]) (rest := []) hC hw (c_X6_read (M := M) (kdN4 hk0) h1) ys_X6_read (k := 6) rfl ⟨rfl, rfl⟩ ⟨Nat.le_of_ble_eq_true rfl, Nat.le_of_ble_eq_true rfl⟩ ⟨Nat.zero_le _, Nat.zero_le _⟩ rfl rfl (Nat.le_of_ble_eq_true rfl) hl dX2_goneIn_5 (fun H locs hw => ?_)
  refine lv_istore_n (lv' := [(2, .int r2), (0, .ref (ad G c0)), (1, .int x1)]) hC.1 hC.2.1 dX2_goneIn_8 rfl hl (by decide) rfl (fun ls hl => ?_)
  refine lv_iconst (v := (0 : Int32)) hC.1 hC.2.1 dX2_goneIn_9 (by decide) ?_
  refine lv_istore_n (lv' := [(3, .int (0 : Int32)), (2, .int r2), (0, .ref (ad G c0)), (1, .int x1)]) hC.1 hC.2.1 dX2_goneIn_10 rfl hl (by decide) rfl (fun ls hl => ?_)
  exact w_X2_goneIn_11 hC _ hk0 hF hw (lv_sub hl [2, 3, 1, 0] rfl)
abbrev rm_X2_hasRight : Room := { frames := 1, cells := 0, slots := 0, locals := 21 }
theorem yv_X2_hasRight : YV yX2_hasRight cX2_hasRight 4 (some .boolean) 3 RX2 := ⟨⟨q2_45, q2_46, q1_2, q2_47⟩, by decide +kernel⟩
theorem dX2_hasRight_0 : decode cX2_hasRight 0 = .ok (.iload_n 2, 1) := by decide +kernel
theorem dX2_hasRight_1 : decode cX2_hasRight 1 = .ok (.iload_n 3, 1) := by decide +kernel
theorem dX2_hasRight_2 : decode cX2_hasRight 2 = .ok (.if_icmp .ge 19, 3) := by decide +kernel
theorem dX2_hasRight_5 : decode cX2_hasRight 5 = .ok (.iload_n 2, 1) := by decide +kernel
theorem dX2_hasRight_6 : decode cX2_hasRight 6 = .ok (.ifCond .le 19, 3) := by decide +kernel
theorem dX2_hasRight_9 : decode cX2_hasRight 9 = .ok (.aload_n 0, 1) := by decide +kernel
theorem dX2_hasRight_10 : decode cX2_hasRight 10 = .ok (.getfield 15, 3) := by decide +kernel
theorem dX2_hasRight_13 : decode cX2_hasRight 13 = .ok (.iload_n 1, 1) := by decide +kernel
theorem dX2_hasRight_14 : decode cX2_hasRight 14 = .ok (.invokestatic 81, 3) := by decide +kernel
theorem dX2_hasRight_17 : decode cX2_hasRight 17 = .ok (.iconst 4, 1) := by decide +kernel
theorem dX2_hasRight_18 : decode cX2_hasRight 18 = .ok (.if_icmp .ne 7, 3) := by decide +kernel
theorem dX2_hasRight_21 : decode cX2_hasRight 21 = .ok (.iconst 1, 1) := by decide +kernel
theorem dX2_hasRight_22 : decode cX2_hasRight 22 = .ok (.goto 4, 3) := by decide +kernel
theorem dX2_hasRight_25 : decode cX2_hasRight 25 = .ok (.iconst 0, 1) := by decide +kernel
theorem dX2_hasRight_26 : decode cX2_hasRight 26 = .ok (.ireturn, 1) := by decide +kernel
def F_X2_hasRight (fu : Nat) (M : Mm) (c0 : Nat) (x1 : Int32) (x2 : Int32) (x3 : Int32) : Option Int32 :=
  if x3 ≤ x2 then
    some (1 : Int32)
  else
    if x2 ≤ 0 then
      some (0 : Int32)
    else
      ob1 (F_X6_read fu M (c0 + 2) x1) (fun r4 =>
      if r4 = (4 : Int32) then
        some (1 : Int32)
      else
        some (0 : Int32))
set_option maxRecDepth 100000 in
set_option maxHeartbeats 4000000 in
theorem c_X2_hasRight {l : Launch} {G : Gv} {fu : Nat} {M : Mm} {c0 : Nat} {x1 : Int32} {x2 : Int32} {x3 : Int32} (hk0 : kd c0 = 11) {r : Int32} (hF : F_X2_hasRight fu M c0 x1 x2 x3 = some r) : Met l yX2_hasRight (.code yX2_hasRight cX2_hasRight 4 (some .boolean) :: zU) rm_X2_hasRight (va_Pc [.ref (ad G c0), .int x1, .int x2, .int x3] (Wd G M)) (QI G r M) 0 0 (zA G) := by
  refine zMet (by decide) rfl (Nat.le_of_ble_eq_true rfl) ?_
  intro p e s m below meth c hC hw ls hl
  have hl : lv_has ls 4 [(0, .ref (ad G c0)), (1, .int x1), (2, .int x2), (3, .int x3)] := hl
  unfold F_X2_hasRight at hF
  refine lv_iload_n hC.1 hC.2.1 dX2_hasRight_0 rfl (lv_at hl 2 rfl) ?_
  refine lv_iload_n hC.1 hC.2.1 dX2_hasRight_1 rfl (lv_at hl 3 rfl) ?_
  refine lv_icmp_ge (tgt := 21) hC.1 hC.2.1 dX2_hasRight_2 (by decide) (fun b1 => ?_) (fun b1 => ?_)
  · have hF := ifP hF b1
    refine lv_iconst (v := (1 : Int32)) hC.1 hC.2.1 dX2_hasRight_21 (by decide) ?_
    refine lv_goto (tgt := 26) hC.1 hC.2.1 dX2_hasRight_22 (by decide) ?_
    exact r_zretP hC hw (by decide) hF dX2_hasRight_26
  · have hF := ifN hF b1
    refine lv_iload_n hC.1 hC.2.1 dX2_hasRight_5 rfl (lv_at hl 2 rfl) ?_
    refine lv_if_le (tgt := 25) hC.1 hC.2.1 dX2_hasRight_6 (by decide) (fun b2 => ?_) (fun b2 => ?_)
    · have hF := ifP hF b2
      refine lv_iconst (v := (0 : Int32)) hC.1 hC.2.1 dX2_hasRight_25 (by decide) ?_
      exact r_zretP hC hw (by decide) hF dX2_hasRight_26
    · have hF := ifN hF b2
      refine lv_aload_n hC.1 hC.2.1 dX2_hasRight_9 rfl (lv_at hl 0 rfl) ?_
      refine g2_kindOf hC hw hk0 q1_37 dX2_hasRight_10 ?_
      refine lv_iload_n hC.1 hC.2.1 dX2_hasRight_13 rfl (lv_at hl 1 rfl) ?_
      obtain ⟨r4, h3, hF⟩ := ob1S hF
      refine k_Ni (As := [.ref (ad G (c0 + 2)), .int x1]) (rest := []) hC hw (c_X6_read (M := M) (kdN2 hk0) h3) ys_X6_read (k := 6) rfl ⟨rfl, rfl⟩ ⟨Nat.le_of_ble_eq_true rfl, Nat.le_of_ble_eq_true rfl⟩ ⟨Nat.zero_le _, Nat.zero_le _⟩ rfl rfl (Nat.le_of_ble_eq_true rfl) hl dX2_hasRight_14 (fun H locs hw => ?_)
      refine lv_iconst (v := (4 : Int32)) hC.1 hC.2.1 dX2_hasRight_17 (by decide) ?_
      refine lv_icmp_ne (tgt := 25) hC.1 hC.2.1 dX2_hasRight_18 (by decide) (fun b5 => ?_) (fun b5 => ?_)
      · have hF := ifN hF b5
        refine lv_iconst (v := (0 : Int32)) hC.1 hC.2.1 dX2_hasRight_25 (by decide) ?_
        exact r_zretP hC hw (by decide) hF dX2_hasRight_26
      · have hF := ifP hF b5
        refine lv_iconst (v := (1 : Int32)) hC.1 hC.2.1 dX2_hasRight_21 (by decide) ?_
        refine lv_goto (tgt := 26) hC.1 hC.2.1 dX2_hasRight_22 (by decide) ?_
        exact r_zretP hC hw (by decide) hF dX2_hasRight_26
