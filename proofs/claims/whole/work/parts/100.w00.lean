abbrev rm_X0_clear : Room := { frames := 0, cells := 0, slots := 0, locals := 0 }
theorem ys_X0_clear : YS yX0_clear cX0_clear 2 none 1 := ⟨⟨q4_10, q1_5, q4_11⟩, by decide +kernel⟩
theorem dX0_clear_0 : decode cX0_clear 0 = .ok (.iconst 0, 1) := by decide +kernel
theorem dX0_clear_1 : decode cX0_clear 1 = .ok (.istore_n 1, 1) := by decide +kernel
theorem dX0_clear_2 : decode cX0_clear 2 = .ok (.iload_n 1, 1) := by decide +kernel
theorem dX0_clear_3 : decode cX0_clear 3 = .ok (.aload_n 0, 1) := by decide +kernel
theorem dX0_clear_4 : decode cX0_clear 4 = .ok (.arraylength, 1) := by decide +kernel
theorem dX0_clear_5 : decode cX0_clear 5 = .ok (.if_icmp .ge 13, 3) := by decide +kernel
theorem dX0_clear_8 : decode cX0_clear 8 = .ok (.aload_n 0, 1) := by decide +kernel
theorem dX0_clear_9 : decode cX0_clear 9 = .ok (.iload_n 1, 1) := by decide +kernel
theorem dX0_clear_10 : decode cX0_clear 10 = .ok (.lconst 0, 1) := by decide +kernel
theorem dX0_clear_11 : decode cX0_clear 11 = .ok (.lastore, 1) := by decide +kernel
theorem dX0_clear_12 : decode cX0_clear 12 = .ok (.iinc 1 1, 3) := by decide +kernel
theorem dX0_clear_15 : decode cX0_clear 15 = .ok (.goto (-13), 3) := by decide +kernel
theorem dX0_clear_18 : decode cX0_clear 18 = .ok (.return_, 1) := by decide +kernel
def F_X0_clear_2 (fu : Nat) : Nat → Mm → Nat → Int32 → Option Mm
  | 0, _, _, _ => none
  | n + 1, M, c0, x1 =>
    if (nI (ln c0)) ≤ x1 then
      some M
    else
      if x1 < 0 ∨ ln c0 ≤ x1.toNatClampNeg then none else (
      lt1 (pL M c0 x1.toNatClampNeg (0 : Int64)) (fun M3 =>
      F_X0_clear_2 fu n M3 c0 (x1 + (1 : Int32))))
set_option maxRecDepth 100000 in
set_option maxHeartbeats 4000000 in
theorem w_X0_clear_2 {p : Program} {l : Launch} {e : Env} {s : State} {m : MethodId} {args : Array Value} {below : List Frame} {meth : Method} {c : Code} {G : Gv} (hC : Cx p s m args meth c cX0_clear 2 none RX0) {fu : Nat} {M' : Mm} : ∀ (n : Nat) {c0 : Nat} {x1 : Int32} {M : Mm} {H : Heap} {locs : List Loc} {ls : Array Slot} (hk0 : kd c0 = 2), F_X0_clear_2 fu n M c0 x1 = some M' → St G s H locs M → lv_has ls 2 [(0, .ref (ad G c0)), (1, .int x1)] → W p l e rm_X0_clear s m args below meth c H locs 0 0 (MQ below (QV G M') args s 0 0 (zA G)) (F0 m 2 ls []) := by
  intro n
  induction n with
  | zero =>
    intro c0 x1 M H locs ls hk0 hF hw hl
    cases hF
  | succ n ih =>
    intro c0 x1 M H locs ls hk0 hF hw hl
    unfold F_X0_clear_2 at hF
    refine lv_iload_n hC.1 hC.2.1 dX0_clear_2 rfl (lv_at hl 1 rfl) ?_
    refine lv_aload_n hC.1 hC.2.1 dX0_clear_3 rfl (lv_at hl 0 rfl) ?_
    refine r_alenJ hC.1 hC.2.1 hw hk0 dX0_clear_4 ?_
    refine lv_icmp_ge (tgt := 18) hC.1 hC.2.1 dX0_clear_5 (by decide) (fun b1 => ?_) (fun b1 => ?_)
    · have hF := ifP hF b1
      exact r_vretE hC hw hF dX0_clear_18
    · have hF := ifN hF b1
      refine lv_aload_n hC.1 hC.2.1 dX0_clear_8 rfl (lv_at hl 0 rfl) ?_
      refine lv_iload_n hC.1 hC.2.1 dX0_clear_9 rfl (lv_at hl 1 rfl) ?_
      refine lv_lconst (v := (0 : Int64)) hC.1 hC.2.1 dX0_clear_10 (by decide) ?_
      obtain ⟨n2, hF⟩ := ifO hF
      refine r_last hC.1 hC.2.1 hw hk0 n2 dX0_clear_11 (fun H locs hw => ?_)
      obtain ⟨M3, hw, hF⟩ := lt1W hF hw
      refine lv_iinc (v := (x1 + (1 : Int32))) (lv' := [(1, .int (x1 + (1 : Int32))), (0, .ref (ad G c0))]) hC.1 hC.2.1 dX0_clear_12 hl (k := 1) rfl rfl (by decide) rfl (fun ls hl => ?_)
      refine lv_goto (tgt := 2) hC.1 hC.2.1 dX0_clear_15 (by decide) ?_
      exact ih hk0 hF hw (lv_sub hl [1, 0] rfl)
def F_X0_clear (fu : Nat) (M : Mm) (c0 : Nat) : Option Mm :=
  F_X0_clear_2 fu fu M c0 (0 : Int32)
set_option maxRecDepth 100000 in
set_option maxHeartbeats 4000000 in
theorem c_X0_clear {l : Launch} {G : Gv} {fu : Nat} {M : Mm} {c0 : Nat} (hk0 : kd c0 = 2) {M' : Mm} (hF : F_X0_clear fu M c0 = some M') : Met l yX0_clear (.code yX0_clear cX0_clear 2 none :: zU) rm_X0_clear (va_Pc [.ref (ad G c0)] (Wd G M)) (QV G M') 0 0 (zA G) := by
  refine zMet (by decide) rfl (Nat.le_of_ble_eq_true rfl) ?_
  intro p e s m below meth c hC hw ls hl
  have hl : lv_has ls 2 [(0, .ref (ad G c0))] := hl
  unfold F_X0_clear at hF
  refine lv_iconst (v := (0 : Int32)) hC.1 hC.2.1 dX0_clear_0 (by decide) ?_
  refine lv_istore_n (lv' := [(1, .int (0 : Int32)), (0, .ref (ad G c0))]) hC.1 hC.2.1 dX0_clear_1 rfl hl (by decide) rfl (fun ls hl => ?_)
  exact w_X0_clear_2 hC _ hk0 hF hw (lv_sub hl [1, 0] rfl)
abbrev rm_X6_read : Room := { frames := 0, cells := 0, slots := 0, locals := 0 }
theorem ys_X6_read : YS yX6_read cX6_read 2 (some .int) 2 := ⟨⟨q2_25, q1_1, q2_26⟩, by decide +kernel⟩
theorem dX6_read_0 : decode cX6_read 0 = .ok (.iload_n 1, 1) := by decide +kernel
theorem dX6_read_1 : decode cX6_read 1 = .ok (.ifCond .lt 15, 3) := by decide +kernel
theorem dX6_read_4 : decode cX6_read 4 = .ok (.iload_n 1, 1) := by decide +kernel
theorem dX6_read_5 : decode cX6_read 5 = .ok (.aload_n 0, 1) := by decide +kernel
theorem dX6_read_6 : decode cX6_read 6 = .ok (.arraylength, 1) := by decide +kernel
theorem dX6_read_7 : decode cX6_read 7 = .ok (.if_icmp .ge 9, 3) := by decide +kernel
theorem dX6_read_10 : decode cX6_read 10 = .ok (.aload_n 0, 1) := by decide +kernel
theorem dX6_read_11 : decode cX6_read 11 = .ok (.iload_n 1, 1) := by decide +kernel
theorem dX6_read_12 : decode cX6_read 12 = .ok (.iaload, 1) := by decide +kernel
theorem dX6_read_13 : decode cX6_read 13 = .ok (.goto 4, 3) := by decide +kernel
theorem dX6_read_16 : decode cX6_read 16 = .ok (.iconst 0, 1) := by decide +kernel
theorem dX6_read_17 : decode cX6_read 17 = .ok (.ireturn, 1) := by decide +kernel
def F_X6_read (fu : Nat) (M : Mm) (c0 : Nat) (x1 : Int32) : Option Int32 :=
  if x1 < 0 then
    some (0 : Int32)
  else
    if (nI (ln c0)) ≤ x1 then
      some (0 : Int32)
    else
      if x1 < 0 ∨ ln c0 ≤ x1.toNatClampNeg then none else (
      some (M.1 c0 x1.toNatClampNeg))
set_option maxRecDepth 100000 in
set_option maxHeartbeats 4000000 in
theorem c_X6_read {l : Launch} {G : Gv} {fu : Nat} {M : Mm} {c0 : Nat} {x1 : Int32} (hk0 : kd c0 = 1) {r : Int32} (hF : F_X6_read fu M c0 x1 = some r) : Met l yX6_read (.code yX6_read cX6_read 2 (some .int) :: zU) rm_X6_read (va_Pc [.ref (ad G c0), .int x1] (Wd G M)) (QI G r M) 0 0 (zA G) := by
  refine zMet (by decide) rfl (Nat.le_of_ble_eq_true rfl) ?_
  intro p e s m below meth c hC hw ls hl
  have hl : lv_has ls 2 [(0, .ref (ad G c0)), (1, .int x1)] := hl
  unfold F_X6_read at hF
  refine lv_iload_n hC.1 hC.2.1 dX6_read_0 rfl (lv_at hl 1 rfl) ?_
  refine lv_if_lt (tgt := 16) hC.1 hC.2.1 dX6_read_1 (by decide) (fun b1 => ?_) (fun b1 => ?_)
  · have hF := ifP hF b1
    refine lv_iconst (v := (0 : Int32)) hC.1 hC.2.1 dX6_read_16 (by decide) ?_
    exact r_iretP hC hw hF dX6_read_17
  · have hF := ifN hF b1
    refine lv_iload_n hC.1 hC.2.1 dX6_read_4 rfl (lv_at hl 1 rfl) ?_
    refine lv_aload_n hC.1 hC.2.1 dX6_read_5 rfl (lv_at hl 0 rfl) ?_
    refine r_alenI hC.1 hC.2.1 hw hk0 dX6_read_6 ?_
    refine lv_icmp_ge (tgt := 16) hC.1 hC.2.1 dX6_read_7 (by decide) (fun b2 => ?_) (fun b2 => ?_)
    · have hF := ifP hF b2
      refine lv_iconst (v := (0 : Int32)) hC.1 hC.2.1 dX6_read_16 (by decide) ?_
      exact r_iretP hC hw hF dX6_read_17
    · have hF := ifN hF b2
      refine lv_aload_n hC.1 hC.2.1 dX6_read_10 rfl (lv_at hl 0 rfl) ?_
      refine lv_iload_n hC.1 hC.2.1 dX6_read_11 rfl (lv_at hl 1 rfl) ?_
      obtain ⟨n3, hF⟩ := ifO hF
      refine r_iald hC.1 hC.2.1 hw hk0 n3 dX6_read_12 ?_
      refine lv_goto (tgt := 17) hC.1 hC.2.1 dX6_read_13 (by decide) ?_
      exact r_iretP hC hw hF dX6_read_17
abbrev rm_X0_add : Room := { frames := 0, cells := 0, slots := 0, locals := 0 }
theorem ys_X0_add : YS yX0_add cX0_add 4 none 3 := ⟨⟨q4_14, q1_5, q4_15⟩, by decide +kernel⟩
theorem dX0_add_0 : decode cX0_add 0 = .ok (.iload_n 1, 1) := by decide +kernel
theorem dX0_add_1 : decode cX0_add 1 = .ok (.ifCond .lt 16, 3) := by decide +kernel
theorem dX0_add_4 : decode cX0_add 4 = .ok (.iload_n 1, 1) := by decide +kernel
theorem dX0_add_5 : decode cX0_add 5 = .ok (.aload_n 0, 1) := by decide +kernel
theorem dX0_add_6 : decode cX0_add 6 = .ok (.arraylength, 1) := by decide +kernel
theorem dX0_add_7 : decode cX0_add 7 = .ok (.if_icmp .ge 10, 3) := by decide +kernel
theorem dX0_add_10 : decode cX0_add 10 = .ok (.aload_n 0, 1) := by decide +kernel
theorem dX0_add_11 : decode cX0_add 11 = .ok (.iload_n 1, 1) := by decide +kernel
theorem dX0_add_12 : decode cX0_add 12 = .ok (.dup2, 1) := by decide +kernel
theorem dX0_add_13 : decode cX0_add 13 = .ok (.laload, 1) := by decide +kernel
theorem dX0_add_14 : decode cX0_add 14 = .ok (.lload_n 2, 1) := by decide +kernel
theorem dX0_add_15 : decode cX0_add 15 = .ok (.ladd, 1) := by decide +kernel
theorem dX0_add_16 : decode cX0_add 16 = .ok (.lastore, 1) := by decide +kernel
theorem dX0_add_17 : decode cX0_add 17 = .ok (.return_, 1) := by decide +kernel
def F_X0_add (fu : Nat) (M : Mm) (c0 : Nat) (x1 : Int32) (x2 : Int64) : Option Mm :=
  if x1 < 0 then
    some M
  else
    if (nI (ln c0)) ≤ x1 then
      some M
    else
      if x1 < 0 ∨ ln c0 ≤ x1.toNatClampNeg then none else (
      if x1 < 0 ∨ ln c0 ≤ x1.toNatClampNeg then none else (
      lt1 (pL M c0 x1.toNatClampNeg ((M.2 c0 x1.toNatClampNeg) + x2)) (fun M5 =>
      some M5)))
set_option maxRecDepth 100000 in
set_option maxHeartbeats 4000000 in
theorem c_X0_add {l : Launch} {G : Gv} {fu : Nat} {M : Mm} {c0 : Nat} {x1 : Int32} {x2 : Int64} (hk0 : kd c0 = 2) {M' : Mm} (hF : F_X0_add fu M c0 x1 x2 = some M') : Met l yX0_add (.code yX0_add cX0_add 4 none :: zU) rm_X0_add (va_Pc [.ref (ad G c0), .int x1, .long x2] (Wd G M)) (QV G M') 0 0 (zA G) := by
  refine zMet (by decide) rfl (Nat.le_of_ble_eq_true rfl) ?_
  intro p e s m below meth c hC hw ls hl
  have hl : lv_has ls 4 [(0, .ref (ad G c0)), (1, .int x1), (2, .long x2)] := hl
  unfold F_X0_add at hF
  refine lv_iload_n hC.1 hC.2.1 dX0_add_0 rfl (lv_at hl 1 rfl) ?_
  refine lv_if_lt (tgt := 17) hC.1 hC.2.1 dX0_add_1 (by decide) (fun b1 => ?_) (fun b1 => ?_)
  · have hF := ifP hF b1
    exact r_vretE hC hw hF dX0_add_17
  · have hF := ifN hF b1
    refine lv_iload_n hC.1 hC.2.1 dX0_add_4 rfl (lv_at hl 1 rfl) ?_
    refine lv_aload_n hC.1 hC.2.1 dX0_add_5 rfl (lv_at hl 0 rfl) ?_
    refine r_alenJ hC.1 hC.2.1 hw hk0 dX0_add_6 ?_
    refine lv_icmp_ge (tgt := 17) hC.1 hC.2.1 dX0_add_7 (by decide) (fun b2 => ?_) (fun b2 => ?_)
    · have hF := ifP hF b2
      exact r_vretE hC hw hF dX0_add_17
    · have hF := ifN hF b2
      refine lv_aload_n hC.1 hC.2.1 dX0_add_10 rfl (lv_at hl 0 rfl) ?_
      refine lv_iload_n hC.1 hC.2.1 dX0_add_11 rfl (lv_at hl 1 rfl) ?_
      refine lv_dup2_11 hC.1 hC.2.1 dX0_add_12 rfl rfl ?_
      obtain ⟨n3, hF⟩ := ifO hF
      refine r_lald hC.1 hC.2.1 hw hk0 n3 dX0_add_13 ?_
      refine lv_lload_n hC.1 hC.2.1 dX0_add_14 rfl (lv_at hl 2 rfl) ?_
      refine lv_ladd hC.1 hC.2.1 dX0_add_15 ?_
      obtain ⟨n4, hF⟩ := ifO hF
      refine r_last hC.1 hC.2.1 hw hk0 n4 dX0_add_16 (fun H locs hw => ?_)
      obtain ⟨M5, hw, hF⟩ := lt1W hF hw
      exact r_vretE hC hw hF dX0_add_17
abbrev rm_X2_melting : Room := { frames := 1, cells := 0, slots := 0, locals := 30 }
theorem yv_X2_melting : YV yX2_melting cX2_melting 5 (some .int) 3 RX2 := ⟨⟨q2_192, qs_12, q1_2, q2_193⟩, by decide +kernel⟩
theorem dX2_melting_0 : decode cX2_melting 0 = .ok (.iconst 0, 1) := by decide +kernel
theorem dX2_melting_1 : decode cX2_melting 1 = .ok (.aload_n 0, 1) := by decide +kernel
theorem dX2_melting_2 : decode cX2_melting 2 = .ok (.getfield 9, 3) := by decide +kernel
theorem dX2_melting_5 : decode cX2_melting 5 = .ok (.iload_n 3, 1) := by decide +kernel
theorem dX2_melting_6 : decode cX2_melting 6 = .ok (.bipush 8, 2) := by decide +kernel
theorem dX2_melting_8 : decode cX2_melting 8 = .ok (.irem, 1) := by decide +kernel
theorem dX2_melting_9 : decode cX2_melting 9 = .ok (.invokestatic 81, 3) := by decide +kernel
theorem dX2_melting_12 : decode cX2_melting 12 = .ok (.iload_n 2, 1) := by decide +kernel
theorem dX2_melting_13 : decode cX2_melting 13 = .ok (.isub, 1) := by decide +kernel
theorem dX2_melting_14 : decode cX2_melting 14 = .ok (.invokestatic 97, 3) := by decide +kernel
theorem dX2_melting_17 : decode cX2_melting 17 = .ok (.istore 4, 2) := by decide +kernel
theorem dX2_melting_19 : decode cX2_melting 19 = .ok (.iload_n 1, 1) := by decide +kernel
theorem dX2_melting_20 : decode cX2_melting 20 = .ok (.tableswitch 74 1 5 #[46, 36, 41, 46, 55], 36) := by decide +kernel
theorem dX2_melting_56 : decode cX2_melting 56 = .ok (.iload 4, 2) := by decide +kernel
theorem dX2_melting_58 : decode cX2_melting 58 = .ok (.iconst 2, 1) := by decide +kernel
theorem dX2_melting_59 : decode cX2_melting 59 = .ok (.idiv, 1) := by decide +kernel
theorem dX2_melting_60 : decode cX2_melting 60 = .ok (.ireturn, 1) := by decide +kernel
theorem dX2_melting_61 : decode cX2_melting 61 = .ok (.iload 4, 2) := by decide +kernel
theorem dX2_melting_63 : decode cX2_melting 63 = .ok (.iconst 1, 1) := by decide +kernel
theorem dX2_melting_64 : decode cX2_melting 64 = .ok (.iadd, 1) := by decide +kernel
theorem dX2_melting_65 : decode cX2_melting 65 = .ok (.ireturn, 1) := by decide +kernel
theorem dX2_melting_66 : decode cX2_melting 66 = .ok (.iconst 0, 1) := by decide +kernel
theorem dX2_melting_67 : decode cX2_melting 67 = .ok (.iload 4, 2) := by decide +kernel
theorem dX2_melting_69 : decode cX2_melting 69 = .ok (.iconst 1, 1) := by decide +kernel
theorem dX2_melting_70 : decode cX2_melting 70 = .ok (.isub, 1) := by decide +kernel
theorem dX2_melting_71 : decode cX2_melting 71 = .ok (.invokestatic 97, 3) := by decide +kernel
theorem dX2_melting_74 : decode cX2_melting 74 = .ok (.ireturn, 1) := by decide +kernel
theorem dX2_melting_75 : decode cX2_melting 75 = .ok (.iload_n 3, 1) := by decide +kernel
theorem dX2_melting_76 : decode cX2_melting 76 = .ok (.iconst 2, 1) := by decide +kernel
theorem dX2_melting_77 : decode cX2_melting 77 = .ok (.irem, 1) := by decide +kernel
theorem dX2_melting_78 : decode cX2_melting 78 = .ok (.ifCond .ne 7, 3) := by decide +kernel
theorem dX2_melting_81 : decode cX2_melting 81 = .ok (.iconst 0, 1) := by decide +kernel
theorem dX2_melting_82 : decode cX2_melting 82 = .ok (.goto 11, 3) := by decide +kernel
theorem dX2_melting_85 : decode cX2_melting 85 = .ok (.iconst 0, 1) := by decide +kernel
theorem dX2_melting_86 : decode cX2_melting 86 = .ok (.iload 4, 2) := by decide +kernel
theorem dX2_melting_88 : decode cX2_melting 88 = .ok (.iconst 1, 1) := by decide +kernel
theorem dX2_melting_89 : decode cX2_melting 89 = .ok (.isub, 1) := by decide +kernel
theorem dX2_melting_90 : decode cX2_melting 90 = .ok (.invokestatic 97, 3) := by decide +kernel
theorem dX2_melting_93 : decode cX2_melting 93 = .ok (.ireturn, 1) := by decide +kernel
theorem dX2_melting_94 : decode cX2_melting 94 = .ok (.iload 4, 2) := by decide +kernel
theorem dX2_melting_96 : decode cX2_melting 96 = .ok (.ireturn, 1) := by decide +kernel
def F_X2_melting (fu : Nat) (M : Mm) (c0 : Nat) (x1 : Int32) (x2 : Int32) (x3 : Int32) : Option Int32 :=
  ob1 (F_X6_read fu M (c0 + 1) (x3 - x3 / (8 : Int32) * (8 : Int32))) (fun r2 =>
  if x1 = (1 : Int32) then
    some (zmx (0 : Int32) ((zmx (0 : Int32) (r2 - x2)) - (1 : Int32)))
  else
  if x1 = (2 : Int32) then
    some ((zmx (0 : Int32) (r2 - x2)) / (2 : Int32))
  else
  if x1 = (3 : Int32) then
    some ((zmx (0 : Int32) (r2 - x2)) + (1 : Int32))
  else
  if x1 = (4 : Int32) then
    some (zmx (0 : Int32) ((zmx (0 : Int32) (r2 - x2)) - (1 : Int32)))
  else
  if x1 = (5 : Int32) then
    if (x3 - x3 / (2 : Int32) * (2 : Int32)) = 0 then
      some (0 : Int32)
    else
      some (zmx (0 : Int32) ((zmx (0 : Int32) (r2 - x2)) - (1 : Int32)))
  else
  some (zmx (0 : Int32) (r2 - x2)))
set_option maxRecDepth 100000 in
set_option maxHeartbeats 4000000 in
theorem c_X2_melting {l : Launch} {G : Gv} {fu : Nat} {M : Mm} {c0 : Nat} {x1 : Int32} {x2 : Int32} {x3 : Int32} (hk0 : kd c0 = 11) {r : Int32} (hF : F_X2_melting fu M c0 x1 x2 x3 = some r) : Met l yX2_melting (.code yX2_melting cX2_melting 5 (some .int) :: zU) rm_X2_melting (va_Pc [.ref (ad G c0), .int x1, .int x2, .int x3] (Wd G M)) (QI G r M) 0 0 (zA G) := by
  refine zMet (by decide) rfl (Nat.le_of_ble_eq_true rfl) ?_
  intro p e s m below meth c hC hw ls hl
  have hl : lv_has ls 5 [(0, .ref (ad G c0)), (1, .int x1), (2, .int x2), (3, .int x3)] := hl
  unfold F_X2_melting at hF
  refine lv_iconst (v := (0 : Int32)) hC.1 hC.2.1 dX2_melting_0 (by decide) ?_
  refine lv_aload_n hC.1 hC.2.1 dX2_melting_1 rfl (lv_at hl 0 rfl) ?_
  refine g2_suns hC hw hk0 q1_39 dX2_melting_2 ?_
  refine lv_iload_n hC.1 hC.2.1 dX2_melting_5 rfl (lv_at hl 3 rfl) ?_
  refine lv_bipush (v := (8 : Int32)) hC.1 hC.2.1 dX2_melting_6 (by decide) ?_
  refine lv_irem hC.1 hC.2.1 dX2_melting_8 (by decide) ?_
  obtain ⟨r2, h1, hF⟩ := ob1S hF
  refine k_Ni (As := [.ref (ad G (c0 + 1)), .int (x3 - x3 / (8 : Int32) * (8 : Int32))]) (rest := [.int (0 : Int32)]) hC hw (c_X6_read (M := M) (kdN1 hk0) h1) ys_X6_read (k := 10) rfl ⟨rfl, rfl⟩ ⟨Nat.le_of_ble_eq_true rfl, Nat.le_of_ble_eq_true rfl⟩ ⟨Nat.zero_le _, Nat.zero_le _⟩ rfl rfl (Nat.le_of_ble_eq_true rfl) hl dX2_melting_9 (fun H locs hw => ?_)
  refine lv_iload_n hC.1 hC.2.1 dX2_melting_12 rfl (lv_at hl 2 rfl) ?_
  refine lv_isub hC.1 hC.2.1 dX2_melting_13 ?_
  refine r_max ⟨hC.1, hC.2.1, by rw [hC.2.2.1]; exact hl.1.symm, hC.2.2.2.1, hC.2.2.2.2.1⟩ q2_194 ⟨Nat.le_of_ble_eq_true rfl, Nat.le_of_ble_eq_true rfl⟩ ⟨Nat.zero_le _, Nat.zero_le _⟩ dX2_melting_14 ?_
  refine lv_istore (lv' := [(4, .int (zmx (0 : Int32) (r2 - x2))), (0, .ref (ad G c0)), (1, .int x1), (2, .int x2), (3, .int x3)]) hC.1 hC.2.1 dX2_melting_17 hl (by decide) rfl (fun ls hl => ?_)
  refine lv_iload_n hC.1 hC.2.1 dX2_melting_19 rfl (lv_at hl 2 rfl) ?_
  rcases Classical.em (x1 = (1 : Int32)) with w3 | w3
  · have hF := ifP hF w3
    refine r_swI (v := (1 : Int32)) (off := 46) (tgt := 66) hC.1 hC.2.1 w3 dX2_melting_20 (by decide) (by decide) rfl (by decide) ?_
    refine lv_iconst (v := (0 : Int32)) hC.1 hC.2.1 dX2_melting_66 (by decide) ?_
    refine lv_iload hC.1 hC.2.1 dX2_melting_67 (lv_at hl 0 rfl) ?_
    refine lv_iconst (v := (1 : Int32)) hC.1 hC.2.1 dX2_melting_69 (by decide) ?_
    refine lv_isub hC.1 hC.2.1 dX2_melting_70 ?_
    refine r_max ⟨hC.1, hC.2.1, by rw [hC.2.2.1]; exact hl.1.symm, hC.2.2.2.1, hC.2.2.2.2.1⟩ q2_194 ⟨Nat.le_of_ble_eq_true rfl, Nat.le_of_ble_eq_true rfl⟩ ⟨Nat.zero_le _, Nat.zero_le _⟩ dX2_melting_71 ?_
    exact r_iretP hC hw hF dX2_melting_74
  have hF := ifN hF w3
  rcases Classical.em (x1 = (2 : Int32)) with w4 | w4
  · have hF := ifP hF w4
    refine r_swI (v := (2 : Int32)) (off := 36) (tgt := 56) hC.1 hC.2.1 w4 dX2_melting_20 (by decide) (by decide) rfl (by decide) ?_
    refine lv_iload hC.1 hC.2.1 dX2_melting_56 (lv_at hl 0 rfl) ?_
    refine lv_iconst (v := (2 : Int32)) hC.1 hC.2.1 dX2_melting_58 (by decide) ?_
    refine lv_idiv hC.1 hC.2.1 dX2_melting_59 (by decide) ?_
    exact r_iretP hC hw hF dX2_melting_60
  have hF := ifN hF w4
  rcases Classical.em (x1 = (3 : Int32)) with w5 | w5
  · have hF := ifP hF w5
    refine r_swI (v := (3 : Int32)) (off := 41) (tgt := 61) hC.1 hC.2.1 w5 dX2_melting_20 (by decide) (by decide) rfl (by decide) ?_
    refine lv_iload hC.1 hC.2.1 dX2_melting_61 (lv_at hl 0 rfl) ?_
    refine lv_iconst (v := (1 : Int32)) hC.1 hC.2.1 dX2_melting_63 (by decide) ?_
    refine lv_iadd hC.1 hC.2.1 dX2_melting_64 ?_
    exact r_iretP hC hw hF dX2_melting_65
  have hF := ifN hF w5
  rcases Classical.em (x1 = (4 : Int32)) with w6 | w6
  · have hF := ifP hF w6
    refine r_swI (v := (4 : Int32)) (off := 46) (tgt := 66) hC.1 hC.2.1 w6 dX2_melting_20 (by decide) (by decide) rfl (by decide) ?_
    refine lv_iconst (v := (0 : Int32)) hC.1 hC.2.1 dX2_melting_66 (by decide) ?_
    refine lv_iload hC.1 hC.2.1 dX2_melting_67 (lv_at hl 0 rfl) ?_
    refine lv_iconst (v := (1 : Int32)) hC.1 hC.2.1 dX2_melting_69 (by decide) ?_
    refine lv_isub hC.1 hC.2.1 dX2_melting_70 ?_
    refine r_max ⟨hC.1, hC.2.1, by rw [hC.2.2.1]; exact hl.1.symm, hC.2.2.2.1, hC.2.2.2.2.1⟩ q2_194 ⟨Nat.le_of_ble_eq_true rfl, Nat.le_of_ble_eq_true rfl⟩ ⟨Nat.zero_le _, Nat.zero_le _⟩ dX2_melting_71 ?_
    exact r_iretP hC hw hF dX2_melting_74
  have hF := ifN hF w6
  rcases Classical.em (x1 = (5 : Int32)) with w7 | w7
  · have hF := ifP hF w7
    refine r_swI (v := (5 : Int32)) (off := 55) (tgt := 75) hC.1 hC.2.1 w7 dX2_melting_20 (by decide) (by decide) rfl (by decide) ?_
    refine lv_iload_n hC.1 hC.2.1 dX2_melting_75 rfl (lv_at hl 4 rfl) ?_
    refine lv_iconst (v := (2 : Int32)) hC.1 hC.2.1 dX2_melting_76 (by decide) ?_
    refine lv_irem hC.1 hC.2.1 dX2_melting_77 (by decide) ?_
    refine lv_if_ne (tgt := 85) hC.1 hC.2.1 dX2_melting_78 (by decide) (fun b8 => ?_) (fun b8 => ?_)
    · have hF := ifN hF b8
      refine lv_iconst (v := (0 : Int32)) hC.1 hC.2.1 dX2_melting_85 (by decide) ?_
      refine lv_iload hC.1 hC.2.1 dX2_melting_86 (lv_at hl 0 rfl) ?_
      refine lv_iconst (v := (1 : Int32)) hC.1 hC.2.1 dX2_melting_88 (by decide) ?_
      refine lv_isub hC.1 hC.2.1 dX2_melting_89 ?_
      refine r_max ⟨hC.1, hC.2.1, by rw [hC.2.2.1]; exact hl.1.symm, hC.2.2.2.1, hC.2.2.2.2.1⟩ q2_194 ⟨Nat.le_of_ble_eq_true rfl, Nat.le_of_ble_eq_true rfl⟩ ⟨Nat.zero_le _, Nat.zero_le _⟩ dX2_melting_90 ?_
      exact r_iretP hC hw hF dX2_melting_93
    · have hF := ifP hF b8
      refine lv_iconst (v := (0 : Int32)) hC.1 hC.2.1 dX2_melting_81 (by decide) ?_
      refine lv_goto (tgt := 93) hC.1 hC.2.1 dX2_melting_82 (by decide) ?_
      exact r_iretP hC hw hF dX2_melting_93
  have hF := ifN hF w7
  refine r_swD (tgt := 94) (vs := [(1 : Int32), (2 : Int32), (3 : Int32), (4 : Int32), (5 : Int32)]) hC.1 hC.2.1 (List.forall_mem_cons.mpr ⟨w3, List.forall_mem_cons.mpr ⟨w4, List.forall_mem_cons.mpr ⟨w5, List.forall_mem_cons.mpr ⟨w6, List.forall_mem_cons.mpr ⟨w7, fun v hv => absurd hv List.not_mem_nil⟩⟩⟩⟩⟩) dX2_melting_20 (by decide) rfl (by decide) ?_
  refine lv_iload hC.1 hC.2.1 dX2_melting_94 (lv_at hl 0 rfl) ?_
  exact r_iretP hC hw hF dX2_melting_96
abbrev rm_X2_meltingIn : Room := { frames := 2, cells := 0, slots := 0, locals := 54 }
theorem yv_X2_meltingIn : YV yX2_meltingIn cX2_meltingIn 3 (some .int) 2 RX2 := ⟨⟨q2_187, q2_188, q1_2, q2_189⟩, by decide +kernel⟩
theorem dX2_meltingIn_0 : decode cX2_meltingIn 0 = .ok (.aload_n 0, 1) := by decide +kernel
theorem dX2_meltingIn_1 : decode cX2_meltingIn 1 = .ok (.aload_n 0, 1) := by decide +kernel
theorem dX2_meltingIn_2 : decode cX2_meltingIn 2 = .ok (.getfield 15, 3) := by decide +kernel
theorem dX2_meltingIn_5 : decode cX2_meltingIn 5 = .ok (.iload_n 1, 1) := by decide +kernel
theorem dX2_meltingIn_6 : decode cX2_meltingIn 6 = .ok (.invokestatic 81, 3) := by decide +kernel
theorem dX2_meltingIn_9 : decode cX2_meltingIn 9 = .ok (.aload_n 0, 1) := by decide +kernel
theorem dX2_meltingIn_10 : decode cX2_meltingIn 10 = .ok (.getfield 24, 3) := by decide +kernel
theorem dX2_meltingIn_13 : decode cX2_meltingIn 13 = .ok (.iload_n 1, 1) := by decide +kernel
theorem dX2_meltingIn_14 : decode cX2_meltingIn 14 = .ok (.invokestatic 81, 3) := by decide +kernel
theorem dX2_meltingIn_17 : decode cX2_meltingIn 17 = .ok (.aload_n 0, 1) := by decide +kernel
theorem dX2_meltingIn_18 : decode cX2_meltingIn 18 = .ok (.getfield 70, 3) := by decide +kernel
theorem dX2_meltingIn_21 : decode cX2_meltingIn 21 = .ok (.iload_n 2, 1) := by decide +kernel
theorem dX2_meltingIn_22 : decode cX2_meltingIn 22 = .ok (.iadd, 1) := by decide +kernel
theorem dX2_meltingIn_23 : decode cX2_meltingIn 23 = .ok (.invokevirtual 100, 3) := by decide +kernel
theorem dX2_meltingIn_26 : decode cX2_meltingIn 26 = .ok (.ireturn, 1) := by decide +kernel
def F_X2_meltingIn (fu : Nat) (M : Mm) (c0 : Nat) (x1 : Int32) (x2 : Int32) : Option Int32 :=
  ob1 (F_X6_read fu M (c0 + 2) x1) (fun r2 =>
  ob1 (F_X6_read fu M (c0 + 5) x1) (fun r4 =>
  ob1 (F_X2_melting fu M c0 r2 r4 ((M.1 c0 2) + x2)) (fun r6 =>
  some r6)))
set_option maxRecDepth 100000 in
set_option maxHeartbeats 4000000 in
theorem c_X2_meltingIn {l : Launch} {G : Gv} {fu : Nat} {M : Mm} {c0 : Nat} {x1 : Int32} {x2 : Int32} (hk0 : kd c0 = 11) {r : Int32} (hF : F_X2_meltingIn fu M c0 x1 x2 = some r) : Met l yX2_meltingIn (.code yX2_meltingIn cX2_meltingIn 3 (some .int) :: zU) rm_X2_meltingIn (va_Pc [.ref (ad G c0), .int x1, .int x2] (Wd G M)) (QI G r M) 0 0 (zA G) := by
  refine zMet (by decide) rfl (Nat.le_of_ble_eq_true rfl) ?_
  intro p e s m below meth c hC hw ls hl
  have hl : lv_has ls 3 [(0, .ref (ad G c0)), (1, .int x1), (2, .int x2)] := hl
  unfold F_X2_meltingIn at hF
  refine lv_aload_n hC.1 hC.2.1 dX2_meltingIn_0 rfl (lv_at hl 0 rfl) ?_
  refine lv_aload_n hC.1 hC.2.1 dX2_meltingIn_1 rfl (lv_at hl 0 rfl) ?_
  refine g2_kindOf hC hw hk0 q1_40 dX2_meltingIn_2 ?_
  refine lv_iload_n hC.1 hC.2.1 dX2_meltingIn_5 rfl (lv_at hl 1 rfl) ?_
  obtain ⟨r2, h1, hF⟩ := ob1S hF
  refine k_Ni (As := [.ref (ad G (c0 + 2)), .int x1]) (rest := [.ref (ad G c0)]) hC hw (c_X6_read (M := M) (kdN2 hk0) h1) ys_X6_read (k := 10) rfl ⟨rfl, rfl⟩ ⟨Nat.le_of_ble_eq_true rfl, Nat.le_of_ble_eq_true rfl⟩ ⟨Nat.zero_le _, Nat.zero_le _⟩ rfl rfl (Nat.le_of_ble_eq_true rfl) hl dX2_meltingIn_6 (fun H locs hw => ?_)
  refine lv_aload_n hC.1 hC.2.1 dX2_meltingIn_9 rfl (lv_at hl 0 rfl) ?_
  refine g2_shadeOf hC hw hk0 q1_46 dX2_meltingIn_10 ?_
  refine lv_iload_n hC.1 hC.2.1 dX2_meltingIn_13 rfl (lv_at hl 1 rfl) ?_
  obtain ⟨r4, h3, hF⟩ := ob1S hF
  refine k_Ni (As := [.ref (ad G (c0 + 5)), .int x1]) (rest := [.int r2, .ref (ad G c0)]) hC hw (c_X6_read (M := M) (kdN5 hk0) h3) ys_X6_read (k := 10) rfl ⟨rfl, rfl⟩ ⟨Nat.le_of_ble_eq_true rfl, Nat.le_of_ble_eq_true rfl⟩ ⟨Nat.zero_le _, Nat.zero_le _⟩ rfl rfl (Nat.le_of_ble_eq_true rfl) hl dX2_meltingIn_14 (fun H locs hw => ?_)
  refine lv_aload_n hC.1 hC.2.1 dX2_meltingIn_17 rfl (lv_at hl 0 rfl) ?_
  refine g2_today hC hw hk0 q1_35 dX2_meltingIn_18 ?_
  refine lv_iload_n hC.1 hC.2.1 dX2_meltingIn_21 rfl (lv_at hl 2 rfl) ?_
  refine lv_iadd hC.1 hC.2.1 dX2_meltingIn_22 ?_
  obtain ⟨r6, h5, hF⟩ := ob1S hF
  refine k_Vi (As := [.int r2, .int r4, .int ((M.1 c0 2) + x2)]) (rest := []) hC hw (c_X2_melting (M := M) hk0 h5) (RC_N hk0) yv_X2_melting q2_190 ⟨rfl, rfl⟩ ⟨Nat.le_of_ble_eq_true rfl, Nat.le_of_ble_eq_true rfl⟩ ⟨Nat.zero_le _, Nat.zero_le _⟩ rfl rfl (Nat.le_of_ble_eq_true rfl) hl dX2_meltingIn_23 (fun H locs hw => ?_)
  exact r_iretP hC hw hF dX2_meltingIn_26
abbrev rm_X0_pass : Room := { frames := 1, cells := 0, slots := 0, locals := 30 }
theorem yv_X0_pass : YV yX0_pass cX0_pass 4 none 2 RX0 := ⟨⟨q4_19, qs_26, q1_5, q4_20⟩, by decide +kernel⟩
theorem dX0_pass_0 : decode cX0_pass 0 = .ok (.aload_n 0, 1) := by decide +kernel
theorem dX0_pass_1 : decode cX0_pass 1 = .ok (.getfield 15, 3) := by decide +kernel
theorem dX0_pass_4 : decode cX0_pass 4 = .ok (.invokestatic 18, 3) := by decide +kernel
theorem dX0_pass_7 : decode cX0_pass 7 = .ok (.iconst 0, 1) := by decide +kernel
theorem dX0_pass_8 : decode cX0_pass 8 = .ok (.istore_n 3, 1) := by decide +kernel
theorem dX0_pass_9 : decode cX0_pass 9 = .ok (.iload_n 3, 1) := by decide +kernel
theorem dX0_pass_10 : decode cX0_pass 10 = .ok (.aload_n 0, 1) := by decide +kernel
theorem dX0_pass_11 : decode cX0_pass 11 = .ok (.getfield 9, 3) := by decide +kernel
theorem dX0_pass_14 : decode cX0_pass 14 = .ok (.arraylength, 1) := by decide +kernel
theorem dX0_pass_15 : decode cX0_pass 15 = .ok (.if_icmp .ge 52, 3) := by decide +kernel
theorem dX0_pass_18 : decode cX0_pass 18 = .ok (.aload_n 0, 1) := by decide +kernel
theorem dX0_pass_19 : decode cX0_pass 19 = .ok (.getfield 15, 3) := by decide +kernel
theorem dX0_pass_22 : decode cX0_pass 22 = .ok (.iload_n 3, 1) := by decide +kernel
theorem dX0_pass_23 : decode cX0_pass 23 = .ok (.aload_n 0, 1) := by decide +kernel
theorem dX0_pass_24 : decode cX0_pass 24 = .ok (.getfield 9, 3) := by decide +kernel
theorem dX0_pass_27 : decode cX0_pass 27 = .ok (.iload_n 3, 1) := by decide +kernel
theorem dX0_pass_28 : decode cX0_pass 28 = .ok (.laload, 1) := by decide +kernel
theorem dX0_pass_29 : decode cX0_pass 29 = .ok (.iload_n 2, 1) := by decide +kernel
theorem dX0_pass_30 : decode cX0_pass 30 = .ok (.i2l, 1) := by decide +kernel
theorem dX0_pass_31 : decode cX0_pass 31 = .ok (.lmul, 1) := by decide +kernel
theorem dX0_pass_32 : decode cX0_pass 32 = .ok (.invokestatic 32, 3) := by decide +kernel
theorem dX0_pass_35 : decode cX0_pass 35 = .ok (.aload_n 0, 1) := by decide +kernel
theorem dX0_pass_36 : decode cX0_pass 36 = .ok (.getfield 15, 3) := by decide +kernel
theorem dX0_pass_39 : decode cX0_pass 39 = .ok (.iconst 0, 1) := by decide +kernel
theorem dX0_pass_40 : decode cX0_pass 40 = .ok (.iload_n 3, 1) := by decide +kernel
theorem dX0_pass_41 : decode cX0_pass 41 = .ok (.iload_n 1, 1) := by decide +kernel
theorem dX0_pass_42 : decode cX0_pass 42 = .ok (.isub, 1) := by decide +kernel
theorem dX0_pass_43 : decode cX0_pass 43 = .ok (.invokestatic 50, 3) := by decide +kernel
theorem dX0_pass_46 : decode cX0_pass 46 = .ok (.aload_n 0, 1) := by decide +kernel
theorem dX0_pass_47 : decode cX0_pass 47 = .ok (.getfield 9, 3) := by decide +kernel
theorem dX0_pass_50 : decode cX0_pass 50 = .ok (.iload_n 3, 1) := by decide +kernel
theorem dX0_pass_51 : decode cX0_pass 51 = .ok (.laload, 1) := by decide +kernel
theorem dX0_pass_52 : decode cX0_pass 52 = .ok (.bipush 12, 2) := by decide +kernel
theorem dX0_pass_54 : decode cX0_pass 54 = .ok (.iload_n 2, 1) := by decide +kernel
theorem dX0_pass_55 : decode cX0_pass 55 = .ok (.isub, 1) := by decide +kernel
theorem dX0_pass_56 : decode cX0_pass 56 = .ok (.i2l, 1) := by decide +kernel
theorem dX0_pass_57 : decode cX0_pass 57 = .ok (.lmul, 1) := by decide +kernel
theorem dX0_pass_58 : decode cX0_pass 58 = .ok (.invokestatic 32, 3) := by decide +kernel
theorem dX0_pass_61 : decode cX0_pass 61 = .ok (.iinc 3 1, 3) := by decide +kernel
theorem dX0_pass_64 : decode cX0_pass 64 = .ok (.goto (-55), 3) := by decide +kernel
theorem dX0_pass_67 : decode cX0_pass 67 = .ok (.iconst 0, 1) := by decide +kernel
theorem dX0_pass_68 : decode cX0_pass 68 = .ok (.istore_n 3, 1) := by decide +kernel
theorem dX0_pass_69 : decode cX0_pass 69 = .ok (.iload_n 3, 1) := by decide +kernel
theorem dX0_pass_70 : decode cX0_pass 70 = .ok (.aload_n 0, 1) := by decide +kernel
theorem dX0_pass_71 : decode cX0_pass 71 = .ok (.getfield 9, 3) := by decide +kernel
theorem dX0_pass_74 : decode cX0_pass 74 = .ok (.arraylength, 1) := by decide +kernel
theorem dX0_pass_75 : decode cX0_pass 75 = .ok (.if_icmp .ge 30, 3) := by decide +kernel
theorem dX0_pass_78 : decode cX0_pass 78 = .ok (.iload_n 3, 1) := by decide +kernel
theorem dX0_pass_79 : decode cX0_pass 79 = .ok (.aload_n 0, 1) := by decide +kernel
theorem dX0_pass_80 : decode cX0_pass 80 = .ok (.getfield 15, 3) := by decide +kernel
theorem dX0_pass_83 : decode cX0_pass 83 = .ok (.arraylength, 1) := by decide +kernel
theorem dX0_pass_84 : decode cX0_pass 84 = .ok (.if_icmp .ge 21, 3) := by decide +kernel
theorem dX0_pass_87 : decode cX0_pass 87 = .ok (.aload_n 0, 1) := by decide +kernel
theorem dX0_pass_88 : decode cX0_pass 88 = .ok (.getfield 9, 3) := by decide +kernel
theorem dX0_pass_91 : decode cX0_pass 91 = .ok (.iload_n 3, 1) := by decide +kernel
theorem dX0_pass_92 : decode cX0_pass 92 = .ok (.aload_n 0, 1) := by decide +kernel
theorem dX0_pass_93 : decode cX0_pass 93 = .ok (.getfield 15, 3) := by decide +kernel
theorem dX0_pass_96 : decode cX0_pass 96 = .ok (.iload_n 3, 1) := by decide +kernel
theorem dX0_pass_97 : decode cX0_pass 97 = .ok (.laload, 1) := by decide +kernel
theorem dX0_pass_98 : decode cX0_pass 98 = .ok (.lastore, 1) := by decide +kernel
theorem dX0_pass_99 : decode cX0_pass 99 = .ok (.iinc 3 1, 3) := by decide +kernel
theorem dX0_pass_102 : decode cX0_pass 102 = .ok (.goto (-33), 3) := by decide +kernel
theorem dX0_pass_105 : decode cX0_pass 105 = .ok (.return_, 1) := by decide +kernel
def F_X0_pass_69 (fu : Nat) : Nat → Mm → Int32 → Option Mm
  | 0, _, _ => none
  | n + 1, M, x3 =>
    if (nI (ln 78)) ≤ x3 then
      some M
    else
      if (nI (ln 79)) ≤ x3 then
        some M
      else
        if x3 < 0 ∨ ln 79 ≤ x3.toNatClampNeg then none else (
        if x3 < 0 ∨ ln 78 ≤ x3.toNatClampNeg then none else (
        lt1 (pL M 78 x3.toNatClampNeg (M.2 79 x3.toNatClampNeg)) (fun M5 =>
        F_X0_pass_69 fu n M5 (x3 + (1 : Int32)))))
set_option maxRecDepth 100000 in
set_option maxHeartbeats 4000000 in
theorem w_X0_pass_69 {p : Program} {l : Launch} {e : Env} {s : State} {m : MethodId} {args : Array Value} {below : List Frame} {meth : Method} {c : Code} {G : Gv} (hC : Cx p s m args meth c cX0_pass 4 none RX0) {fu : Nat} {M' : Mm} : ∀ (n : Nat) {x3 : Int32} {M : Mm} {H : Heap} {locs : List Loc} {ls : Array Slot}, F_X0_pass_69 fu n M x3 = some M' → St G s H locs M → lv_has ls 4 [(0, .ref (ad G 77)), (3, .int x3)] → W p l e rm_X0_pass s m args below meth c H locs 0 0 (MQ below (QV G M') args s 0 0 (zA G)) (F0 m 69 ls []) := by
  intro n
  induction n with
  | zero =>
    intro x3 M H locs ls hF hw hl
    cases hF
  | succ n ih =>
    intro x3 M H locs ls hF hw hl
    unfold F_X0_pass_69 at hF
    refine lv_iload_n hC.1 hC.2.1 dX0_pass_69 rfl (lv_at hl 1 rfl) ?_
    refine lv_aload_n hC.1 hC.2.1 dX0_pass_70 rfl (lv_at hl 0 rfl) ?_
    refine g0_ways hC hw q1_151 dX0_pass_71 ?_
    refine r_alenJ hC.1 hC.2.1 hw (rfl : kd 78 = 2) dX0_pass_74 ?_
    refine lv_icmp_ge (tgt := 105) hC.1 hC.2.1 dX0_pass_75 (by decide) (fun b1 => ?_) (fun b1 => ?_)
    · have hF := ifP hF b1
      exact r_vretE hC hw hF dX0_pass_105
    · have hF := ifN hF b1
      refine lv_iload_n hC.1 hC.2.1 dX0_pass_78 rfl (lv_at hl 1 rfl) ?_
      refine lv_aload_n hC.1 hC.2.1 dX0_pass_79 rfl (lv_at hl 0 rfl) ?_
      refine g0_next hC hw q1_152 dX0_pass_80 ?_
      refine r_alenJ hC.1 hC.2.1 hw (rfl : kd 79 = 2) dX0_pass_83 ?_
      refine lv_icmp_ge (tgt := 105) hC.1 hC.2.1 dX0_pass_84 (by decide) (fun b2 => ?_) (fun b2 => ?_)
      · have hF := ifP hF b2
        exact r_vretE hC hw hF dX0_pass_105
      · have hF := ifN hF b2
        refine lv_aload_n hC.1 hC.2.1 dX0_pass_87 rfl (lv_at hl 0 rfl) ?_
        refine g0_ways hC hw q1_151 dX0_pass_88 ?_
        refine lv_iload_n hC.1 hC.2.1 dX0_pass_91 rfl (lv_at hl 1 rfl) ?_
        refine lv_aload_n hC.1 hC.2.1 dX0_pass_92 rfl (lv_at hl 0 rfl) ?_
        refine g0_next hC hw q1_152 dX0_pass_93 ?_
        refine lv_iload_n hC.1 hC.2.1 dX0_pass_96 rfl (lv_at hl 1 rfl) ?_
        obtain ⟨n3, hF⟩ := ifO hF
        refine r_lald hC.1 hC.2.1 hw (rfl : kd 79 = 2) n3 dX0_pass_97 ?_
        obtain ⟨n4, hF⟩ := ifO hF
        refine r_last hC.1 hC.2.1 hw (rfl : kd 78 = 2) n4 dX0_pass_98 (fun H locs hw => ?_)
        obtain ⟨M5, hw, hF⟩ := lt1W hF hw
        refine lv_iinc (v := (x3 + (1 : Int32))) (lv' := [(3, .int (x3 + (1 : Int32))), (0, .ref (ad G 77))]) hC.1 hC.2.1 dX0_pass_99 hl (k := 1) rfl rfl (by decide) rfl (fun ls hl => ?_)
        refine lv_goto (tgt := 69) hC.1 hC.2.1 dX0_pass_102 (by decide) ?_
        exact ih hF hw (lv_sub hl [1, 0] rfl)
def F_X0_pass_9 (fu : Nat) : Nat → Mm → Int32 → Int32 → Int32 → Option Mm
  | 0, _, _, _, _ => none
  | n + 1, M, x1, x2, x3 =>
    if (nI (ln 78)) ≤ x3 then
      F_X0_pass_69 fu fu M (0 : Int32)
    else
      if x3 < 0 ∨ ln 78 ≤ x3.toNatClampNeg then none else (
      ob1 (F_X0_add fu M 79 x3 ((M.2 78 x3.toNatClampNeg) * x2.toInt64)) (fun M4 =>
      if x3 < 0 ∨ ln 78 ≤ x3.toNatClampNeg then none else (
      ob1 (F_X0_add fu M4 79 (zmx (0 : Int32) (x3 - x1)) ((M4.2 78 x3.toNatClampNeg) * ((12 : Int32) - x2).toInt64)) (fun M7 =>
      F_X0_pass_9 fu n M7 x1 x2 (x3 + (1 : Int32))))))
set_option maxRecDepth 100000 in
set_option maxHeartbeats 4000000 in
theorem w_X0_pass_9 {p : Program} {l : Launch} {e : Env} {s : State} {m : MethodId} {args : Array Value} {below : List Frame} {meth : Method} {c : Code} {G : Gv} (hC : Cx p s m args meth c cX0_pass 4 none RX0) {fu : Nat} {M' : Mm} : ∀ (n : Nat) {x1 : Int32} {x2 : Int32} {x3 : Int32} {M : Mm} {H : Heap} {locs : List Loc} {ls : Array Slot}, F_X0_pass_9 fu n M x1 x2 x3 = some M' → St G s H locs M → lv_has ls 4 [(0, .ref (ad G 77)), (1, .int x1), (2, .int x2), (3, .int x3)] → W p l e rm_X0_pass s m args below meth c H locs 0 0 (MQ below (QV G M') args s 0 0 (zA G)) (F0 m 9 ls []) := by
  intro n
  induction n with
  | zero =>
    intro x1 x2 x3 M H locs ls hF hw hl
    cases hF
  | succ n ih =>
    intro x1 x2 x3 M H locs ls hF hw hl
    unfold F_X0_pass_9 at hF
    refine lv_iload_n hC.1 hC.2.1 dX0_pass_9 rfl (lv_at hl 3 rfl) ?_
    refine lv_aload_n hC.1 hC.2.1 dX0_pass_10 rfl (lv_at hl 0 rfl) ?_
    refine g0_ways hC hw q1_151 dX0_pass_11 ?_
    refine r_alenJ hC.1 hC.2.1 hw (rfl : kd 78 = 2) dX0_pass_14 ?_
    refine lv_icmp_ge (tgt := 67) hC.1 hC.2.1 dX0_pass_15 (by decide) (fun b1 => ?_) (fun b1 => ?_)
    · have hF := ifP hF b1
      refine lv_iconst (v := (0 : Int32)) hC.1 hC.2.1 dX0_pass_67 (by decide) ?_
      refine lv_istore_n (lv' := [(3, .int (0 : Int32)), (0, .ref (ad G 77)), (1, .int x1), (2, .int x2)]) hC.1 hC.2.1 dX0_pass_68 rfl hl (by decide) rfl (fun ls hl => ?_)
      exact w_X0_pass_69 hC _ hF hw (lv_sub hl [1, 0] rfl)
    · have hF := ifN hF b1
      refine lv_aload_n hC.1 hC.2.1 dX0_pass_18 rfl (lv_at hl 0 rfl) ?_
      refine g0_next hC hw q1_152 dX0_pass_19 ?_
      refine lv_iload_n hC.1 hC.2.1 dX0_pass_22 rfl (lv_at hl 3 rfl) ?_
      refine lv_aload_n hC.1 hC.2.1 dX0_pass_23 rfl (lv_at hl 0 rfl) ?_
      refine g0_ways hC hw q1_151 dX0_pass_24 ?_
      refine lv_iload_n hC.1 hC.2.1 dX0_pass_27 rfl (lv_at hl 3 rfl) ?_
      obtain ⟨n2, hF⟩ := ifO hF
      refine r_lald hC.1 hC.2.1 hw (rfl : kd 78 = 2) n2 dX0_pass_28 ?_
      refine lv_iload_n hC.1 hC.2.1 dX0_pass_29 rfl (lv_at hl 2 rfl) ?_
      refine lv_i2l hC.1 hC.2.1 dX0_pass_30 rfl ?_
      refine lv_lmul hC.1 hC.2.1 dX0_pass_31 ?_
      obtain ⟨M4, h3, hF⟩ := ob1S hF
      refine k_Sv (As := [.ref (ad G 79), .int x3, .long ((M.2 78 x3.toNatClampNeg) * x2.toInt64)]) (rest := []) hC hw (c_X0_add (M := M) (rfl : kd 79 = 2) h3) ys_X0_add q4_13 ⟨rfl, rfl⟩ ⟨Nat.le_of_ble_eq_true rfl, Nat.le_of_ble_eq_true rfl⟩ ⟨Nat.zero_le _, Nat.zero_le _⟩ rfl rfl (Nat.le_of_ble_eq_true rfl) hl dX0_pass_32 (fun H locs hw => ?_)
      refine lv_aload_n hC.1 hC.2.1 dX0_pass_35 rfl (lv_at hl 0 rfl) ?_
      refine g0_next hC hw q1_152 dX0_pass_36 ?_
      refine lv_iconst (v := (0 : Int32)) hC.1 hC.2.1 dX0_pass_39 (by decide) ?_
      refine lv_iload_n hC.1 hC.2.1 dX0_pass_40 rfl (lv_at hl 3 rfl) ?_
      refine lv_iload_n hC.1 hC.2.1 dX0_pass_41 rfl (lv_at hl 1 rfl) ?_
      refine lv_isub hC.1 hC.2.1 dX0_pass_42 ?_
      refine r_max ⟨hC.1, hC.2.1, by rw [hC.2.2.1]; exact hl.1.symm, hC.2.2.2.1, hC.2.2.2.2.1⟩ q4_21 ⟨Nat.le_of_ble_eq_true rfl, Nat.le_of_ble_eq_true rfl⟩ ⟨Nat.zero_le _, Nat.zero_le _⟩ dX0_pass_43 ?_
      refine lv_aload_n hC.1 hC.2.1 dX0_pass_46 rfl (lv_at hl 0 rfl) ?_
      refine g0_ways hC hw q1_151 dX0_pass_47 ?_
      refine lv_iload_n hC.1 hC.2.1 dX0_pass_50 rfl (lv_at hl 3 rfl) ?_
      obtain ⟨n5, hF⟩ := ifO hF
      refine r_lald hC.1 hC.2.1 hw (rfl : kd 78 = 2) n5 dX0_pass_51 ?_
      refine lv_bipush (v := (12 : Int32)) hC.1 hC.2.1 dX0_pass_52 (by decide) ?_
      refine lv_iload_n hC.1 hC.2.1 dX0_pass_54 rfl (lv_at hl 2 rfl) ?_
      refine lv_isub hC.1 hC.2.1 dX0_pass_55 ?_
      refine lv_i2l hC.1 hC.2.1 dX0_pass_56 rfl ?_
      refine lv_lmul hC.1 hC.2.1 dX0_pass_57 ?_
      obtain ⟨M7, h6, hF⟩ := ob1S hF
      refine k_Sv (As := [.ref (ad G 79), .int (zmx (0 : Int32) (x3 - x1)), .long ((M4.2 78 x3.toNatClampNeg) * ((12 : Int32) - x2).toInt64)]) (rest := []) hC hw (c_X0_add (M := M4) (rfl : kd 79 = 2) h6) ys_X0_add q4_13 ⟨rfl, rfl⟩ ⟨Nat.le_of_ble_eq_true rfl, Nat.le_of_ble_eq_true rfl⟩ ⟨Nat.zero_le _, Nat.zero_le _⟩ rfl rfl (Nat.le_of_ble_eq_true rfl) hl dX0_pass_58 (fun H locs hw => ?_)
      refine lv_iinc (v := (x3 + (1 : Int32))) (lv' := [(3, .int (x3 + (1 : Int32))), (0, .ref (ad G 77)), (1, .int x1), (2, .int x2)]) hC.1 hC.2.1 dX0_pass_61 hl (k := 3) rfl rfl (by decide) rfl (fun ls hl => ?_)
      refine lv_goto (tgt := 9) hC.1 hC.2.1 dX0_pass_64 (by decide) ?_
      exact ih hF hw (lv_sub hl [1, 2, 3, 0] rfl)
def F_X0_pass (fu : Nat) (M : Mm) (x1 : Int32) (x2 : Int32) : Option Mm :=
  ob1 (F_X0_clear fu M 79) (fun M2 =>
  F_X0_pass_9 fu fu M2 x1 x2 (0 : Int32))
set_option maxRecDepth 100000 in
set_option maxHeartbeats 4000000 in
theorem c_X0_pass {l : Launch} {G : Gv} {fu : Nat} {M : Mm} {x1 : Int32} {x2 : Int32} {M' : Mm} (hF : F_X0_pass fu M x1 x2 = some M') : Met l yX0_pass (.code yX0_pass cX0_pass 4 none :: zU) rm_X0_pass (va_Pc [.ref (ad G 77), .int x1, .int x2] (Wd G M)) (QV G M') 0 0 (zA G) := by
  refine zMet (by decide) rfl (Nat.le_of_ble_eq_true rfl) ?_
  intro p e s m below meth c hC hw ls hl
  have hl : lv_has ls 4 [(0, .ref (ad G 77)), (1, .int x1), (2, .int x2)] := hl
  unfold F_X0_pass at hF
  refine lv_aload_n hC.1 hC.2.1 dX0_pass_0 rfl (lv_at hl 0 rfl) ?_
  refine g0_next hC hw q1_152 dX0_pass_1 ?_
  obtain ⟨M2, h1, hF⟩ := ob1S hF
  refine k_Sv (As := [.ref (ad G 79)]) (rest := []) hC hw (c_X0_clear (M := M) (rfl : kd 79 = 2) h1) ys_X0_clear q4_9 ⟨rfl, rfl⟩ ⟨Nat.le_of_ble_eq_true rfl, Nat.le_of_ble_eq_true rfl⟩ ⟨Nat.zero_le _, Nat.zero_le _⟩ rfl rfl (Nat.le_of_ble_eq_true rfl) hl dX0_pass_4 (fun H locs hw => ?_)
  refine lv_iconst (v := (0 : Int32)) hC.1 hC.2.1 dX0_pass_7 (by decide) ?_
  refine lv_istore_n (lv' := [(3, .int (0 : Int32)), (0, .ref (ad G 77)), (1, .int x1), (2, .int x2)]) hC.1 hC.2.1 dX0_pass_8 rfl hl (by decide) rfl (fun ls hl => ?_)
  exact w_X0_pass_9 hC _ hF hw (lv_sub hl [1, 2, 3, 0] rfl)
abbrev rm_X0_weigh : Room := { frames := 3, cells := 0, slots := 0, locals := 76 }
theorem yv_X0_weigh : YV yX0_weigh cX0_weigh 6 none 4 RX0 := ⟨⟨q4_6, q4_7, q1_5, q4_8⟩, by decide +kernel⟩
theorem dX0_weigh_0 : decode cX0_weigh 0 = .ok (.aload_n 0, 1) := by decide +kernel
theorem dX0_weigh_1 : decode cX0_weigh 1 = .ok (.getfield 9, 3) := by decide +kernel
theorem dX0_weigh_4 : decode cX0_weigh 4 = .ok (.invokestatic 18, 3) := by decide +kernel
theorem dX0_weigh_7 : decode cX0_weigh 7 = .ok (.aload_n 0, 1) := by decide +kernel
theorem dX0_weigh_8 : decode cX0_weigh 8 = .ok (.getfield 9, 3) := by decide +kernel
theorem dX0_weigh_11 : decode cX0_weigh 11 = .ok (.aload_n 1, 1) := by decide +kernel
theorem dX0_weigh_12 : decode cX0_weigh 12 = .ok (.getfield 22, 3) := by decide +kernel
theorem dX0_weigh_15 : decode cX0_weigh 15 = .ok (.iload_n 2, 1) := by decide +kernel
theorem dX0_weigh_16 : decode cX0_weigh 16 = .ok (.invokestatic 28, 3) := by decide +kernel
theorem dX0_weigh_19 : decode cX0_weigh 19 = .ok (.lconst 1, 1) := by decide +kernel
theorem dX0_weigh_20 : decode cX0_weigh 20 = .ok (.invokestatic 32, 3) := by decide +kernel
theorem dX0_weigh_23 : decode cX0_weigh 23 = .ok (.aload_n 0, 1) := by decide +kernel
theorem dX0_weigh_24 : decode cX0_weigh 24 = .ok (.lconst 1, 1) := by decide +kernel
theorem dX0_weigh_25 : decode cX0_weigh 25 = .ok (.putfield 36, 3) := by decide +kernel
theorem dX0_weigh_28 : decode cX0_weigh 28 = .ok (.iconst 0, 1) := by decide +kernel
theorem dX0_weigh_29 : decode cX0_weigh 29 = .ok (.istore 5, 2) := by decide +kernel
theorem dX0_weigh_31 : decode cX0_weigh 31 = .ok (.iload 5, 2) := by decide +kernel
theorem dX0_weigh_33 : decode cX0_weigh 33 = .ok (.iload_n 3, 1) := by decide +kernel
theorem dX0_weigh_34 : decode cX0_weigh 34 = .ok (.if_icmp .ge 34, 3) := by decide +kernel
theorem dX0_weigh_37 : decode cX0_weigh 37 = .ok (.aload_n 0, 1) := by decide +kernel
theorem dX0_weigh_38 : decode cX0_weigh 38 = .ok (.aload_n 1, 1) := by decide +kernel
theorem dX0_weigh_39 : decode cX0_weigh 39 = .ok (.iload_n 2, 1) := by decide +kernel
theorem dX0_weigh_40 : decode cX0_weigh 40 = .ok (.iload 5, 2) := by decide +kernel
theorem dX0_weigh_42 : decode cX0_weigh 42 = .ok (.invokevirtual 40, 3) := by decide +kernel
theorem dX0_weigh_45 : decode cX0_weigh 45 = .ok (.iload 4, 2) := by decide +kernel
theorem dX0_weigh_47 : decode cX0_weigh 47 = .ok (.invokevirtual 44, 3) := by decide +kernel
theorem dX0_weigh_50 : decode cX0_weigh 50 = .ok (.aload_n 0, 1) := by decide +kernel
theorem dX0_weigh_51 : decode cX0_weigh 51 = .ok (.dup, 1) := by decide +kernel
theorem dX0_weigh_52 : decode cX0_weigh 52 = .ok (.getfield 36, 3) := by decide +kernel
theorem dX0_weigh_55 : decode cX0_weigh 55 = .ok (.ldc2_w 48, 3) := by decide +kernel
theorem dX0_weigh_58 : decode cX0_weigh 58 = .ok (.lmul, 1) := by decide +kernel
theorem dX0_weigh_59 : decode cX0_weigh 59 = .ok (.putfield 36, 3) := by decide +kernel
theorem dX0_weigh_62 : decode cX0_weigh 62 = .ok (.iinc 5 1, 3) := by decide +kernel
theorem dX0_weigh_65 : decode cX0_weigh 65 = .ok (.goto (-34), 3) := by decide +kernel
theorem dX0_weigh_68 : decode cX0_weigh 68 = .ok (.return_, 1) := by decide +kernel
def F_X0_weigh_31 (fu : Nat) : Nat → Mm → Nat → Int32 → Int32 → Int32 → Int32 → Option Mm
  | 0, _, _, _, _, _, _ => none
  | n + 1, M, c1, x2, x3, x4, x5 =>
    if x3 ≤ x5 then
      some M
    else
      ob1 (F_X2_meltingIn fu M c1 x2 x5) (fun r3 =>
      ob1 (F_X0_pass fu M r3 x4) (fun M5 =>
      lt1 (pL M5 77 2 ((M5.2 77 2) * (12 : Int64))) (fun M6 =>
      F_X0_weigh_31 fu n M6 c1 x2 x3 x4 (x5 + (1 : Int32)))))
set_option maxRecDepth 100000 in
set_option maxHeartbeats 4000000 in
theorem w_X0_weigh_31 {p : Program} {l : Launch} {e : Env} {s : State} {m : MethodId} {args : Array Value} {below : List Frame} {meth : Method} {c : Code} {G : Gv} (hC : Cx p s m args meth c cX0_weigh 6 none RX0) {fu : Nat} {M' : Mm} : ∀ (n : Nat) {c1 : Nat} {x2 : Int32} {x3 : Int32} {x4 : Int32} {x5 : Int32} {M : Mm} {H : Heap} {locs : List Loc} {ls : Array Slot} (hk1 : kd c1 = 11), F_X0_weigh_31 fu n M c1 x2 x3 x4 x5 = some M' → St G s H locs M → lv_has ls 6 [(0, .ref (ad G 77)), (1, .ref (ad G c1)), (2, .int x2), (3, .int x3), (4, .int x4), (5, .int x5)] → W p l e rm_X0_weigh s m args below meth c H locs 0 0 (MQ below (QV G M') args s 0 0 (zA G)) (F0 m 31 ls []) := by
  intro n
  induction n with
  | zero =>
    intro c1 x2 x3 x4 x5 M H locs ls hk1 hF hw hl
    cases hF
  | succ n ih =>
    intro c1 x2 x3 x4 x5 M H locs ls hk1 hF hw hl
    unfold F_X0_weigh_31 at hF
    refine lv_iload hC.1 hC.2.1 dX0_weigh_31 (lv_at hl 5 rfl) ?_
    refine lv_iload_n hC.1 hC.2.1 dX0_weigh_33 rfl (lv_at hl 3 rfl) ?_
    refine lv_icmp_ge (tgt := 68) hC.1 hC.2.1 dX0_weigh_34 (by decide) (fun b1 => ?_) (fun b1 => ?_)
    · have hF := ifP hF b1
      exact r_vretE hC hw hF dX0_weigh_68
    · have hF := ifN hF b1
      refine lv_aload_n hC.1 hC.2.1 dX0_weigh_37 rfl (lv_at hl 0 rfl) ?_
      refine lv_aload_n hC.1 hC.2.1 dX0_weigh_38 rfl (lv_at hl 1 rfl) ?_
      refine lv_iload_n hC.1 hC.2.1 dX0_weigh_39 rfl (lv_at hl 2 rfl) ?_
      refine lv_iload hC.1 hC.2.1 dX0_weigh_40 (lv_at hl 5 rfl) ?_
      obtain ⟨r3, h2, hF⟩ := ob1S hF
      refine k_Vi (As := [.int x2, .int x5]) (rest := [.ref (ad G 77)]) hC hw (c_X2_meltingIn (M := M) hk1 h2) (RC_N hk1) yv_X2_meltingIn q4_16 ⟨rfl, rfl⟩ ⟨Nat.le_of_ble_eq_true rfl, Nat.le_of_ble_eq_true rfl⟩ ⟨Nat.zero_le _, Nat.zero_le _⟩ rfl rfl (Nat.le_of_ble_eq_true rfl) hl dX0_weigh_42 (fun H locs hw => ?_)
      refine lv_iload hC.1 hC.2.1 dX0_weigh_45 (lv_at hl 4 rfl) ?_
      obtain ⟨M5, h4, hF⟩ := ob1S hF
      refine k_Vv (As := [.int r3, .int x4]) (rest := []) hC hw (c_X0_pass (M := M) h4) RC_C yv_X0_pass q4_17 ⟨rfl, rfl⟩ ⟨Nat.le_of_ble_eq_true rfl, Nat.le_of_ble_eq_true rfl⟩ ⟨Nat.zero_le _, Nat.zero_le _⟩ rfl rfl (Nat.le_of_ble_eq_true rfl) hl dX0_weigh_47 (fun H locs hw => ?_)
      refine lv_aload_n hC.1 hC.2.1 dX0_weigh_50 rfl (lv_at hl 0 rfl) ?_
      refine lv_dup hC.1 hC.2.1 dX0_weigh_51 rfl ?_
      refine g0_allWays hC hw q1_153 dX0_weigh_52 ?_
      refine lv_ldc2 (v := (12 : Int64)) hC.1 hC.2.1 hC.2.2.2.1 (hC.2.2.2.2.1 _ q4_22) dX0_weigh_55 ?_
      refine lv_lmul hC.1 hC.2.1 dX0_weigh_58 ?_
      refine u0_allWays hC hw q1_153 dX0_weigh_59 (fun H locs hw => ?_)
      obtain ⟨M6, hw, hF⟩ := lt1W hF hw
      refine lv_iinc (v := (x5 + (1 : Int32))) (lv' := [(5, .int (x5 + (1 : Int32))), (0, .ref (ad G 77)), (1, .ref (ad G c1)), (2, .int x2), (3, .int x3), (4, .int x4)]) hC.1 hC.2.1 dX0_weigh_62 hl (k := 5) rfl rfl (by decide) rfl (fun ls hl => ?_)
      refine lv_goto (tgt := 31) hC.1 hC.2.1 dX0_weigh_65 (by decide) ?_
      exact ih hk1 hF hw (lv_sub hl [1, 2, 3, 4, 5, 0] rfl)
def F_X0_weigh (fu : Nat) (M : Mm) (c1 : Nat) (x2 : Int32) (x3 : Int32) (x4 : Int32) : Option Mm :=
  ob1 (F_X0_clear fu M 78) (fun M2 =>
  ob1 (F_X6_read fu M2 (c1 + 4) x2) (fun r4 =>
  ob1 (F_X0_add fu M2 78 r4 (1 : Int64)) (fun M6 =>
  lt1 (pL M6 77 2 (1 : Int64)) (fun M7 =>
  F_X0_weigh_31 fu fu M7 c1 x2 x3 x4 (0 : Int32)))))
set_option maxRecDepth 100000 in
set_option maxHeartbeats 4000000 in
theorem c_X0_weigh {l : Launch} {G : Gv} {fu : Nat} {M : Mm} {c1 : Nat} {x2 : Int32} {x3 : Int32} {x4 : Int32} (hk1 : kd c1 = 11) {M' : Mm} (hF : F_X0_weigh fu M c1 x2 x3 x4 = some M') : Met l yX0_weigh (.code yX0_weigh cX0_weigh 6 none :: zU) rm_X0_weigh (va_Pc [.ref (ad G 77), .ref (ad G c1), .int x2, .int x3, .int x4] (Wd G M)) (QV G M') 0 0 (zA G) := by
  refine zMet (by decide) rfl (Nat.le_of_ble_eq_true rfl) ?_
  intro p e s m below meth c hC hw ls hl
  have hl : lv_has ls 6 [(0, .ref (ad G 77)), (1, .ref (ad G c1)), (2, .int x2), (3, .int x3), (4, .int x4)] := hl
  unfold F_X0_weigh at hF
  refine lv_aload_n hC.1 hC.2.1 dX0_weigh_0 rfl (lv_at hl 0 rfl) ?_
  refine g0_ways hC hw q1_151 dX0_weigh_1 ?_
  obtain ⟨M2, h1, hF⟩ := ob1S hF
  refine k_Sv (As := [.ref (ad G 78)]) (rest := []) hC hw (c_X0_clear (M := M) (rfl : kd 78 = 2) h1) ys_X0_clear q4_9 ⟨rfl, rfl⟩ ⟨Nat.le_of_ble_eq_true rfl, Nat.le_of_ble_eq_true rfl⟩ ⟨Nat.zero_le _, Nat.zero_le _⟩ rfl rfl (Nat.le_of_ble_eq_true rfl) hl dX0_weigh_4 (fun H locs hw => ?_)
  refine lv_aload_n hC.1 hC.2.1 dX0_weigh_7 rfl (lv_at hl 0 rfl) ?_
  refine g0_ways hC hw q1_151 dX0_weigh_8 ?_
  refine lv_aload_n hC.1 hC.2.1 dX0_weigh_11 rfl (lv_at hl 1 rfl) ?_
  refine g2_bulkOf hC hw hk1 q1_44 dX0_weigh_12 ?_
  refine lv_iload_n hC.1 hC.2.1 dX0_weigh_15 rfl (lv_at hl 2 rfl) ?_
  obtain ⟨r4, h3, hF⟩ := ob1S hF
  refine k_Ni (As := [.ref (ad G (c1 + 4)), .int x2]) (rest := [.ref (ad G 78)]) hC hw (c_X6_read (M := M2) (kdN4 hk1) h3) ys_X6_read (k := 18) rfl ⟨rfl, rfl⟩ ⟨Nat.le_of_ble_eq_true rfl, Nat.le_of_ble_eq_true rfl⟩ ⟨Nat.zero_le _, Nat.zero_le _⟩ rfl rfl (Nat.le_of_ble_eq_true rfl) hl dX0_weigh_16 (fun H locs hw => ?_)
  refine lv_lconst (v := (1 : Int64)) hC.1 hC.2.1 dX0_weigh_19 (by decide) ?_
  obtain ⟨M6, h5, hF⟩ := ob1S hF
  refine k_Sv (As := [.ref (ad G 78), .int r4, .long (1 : Int64)]) (rest := []) hC hw (c_X0_add (M := M2) (rfl : kd 78 = 2) h5) ys_X0_add q4_13 ⟨rfl, rfl⟩ ⟨Nat.le_of_ble_eq_true rfl, Nat.le_of_ble_eq_true rfl⟩ ⟨Nat.zero_le _, Nat.zero_le _⟩ rfl rfl (Nat.le_of_ble_eq_true rfl) hl dX0_weigh_20 (fun H locs hw => ?_)
  refine lv_aload_n hC.1 hC.2.1 dX0_weigh_23 rfl (lv_at hl 0 rfl) ?_
  refine lv_lconst (v := (1 : Int64)) hC.1 hC.2.1 dX0_weigh_24 (by decide) ?_
  refine u0_allWays hC hw q1_153 dX0_weigh_25 (fun H locs hw => ?_)
  obtain ⟨M7, hw, hF⟩ := lt1W hF hw
  refine lv_iconst (v := (0 : Int32)) hC.1 hC.2.1 dX0_weigh_28 (by decide) ?_
  refine lv_istore (lv' := [(5, .int (0 : Int32)), (0, .ref (ad G 77)), (1, .ref (ad G c1)), (2, .int x2), (3, .int x3), (4, .int x4)]) hC.1 hC.2.1 dX0_weigh_29 hl (by decide) rfl (fun ls hl => ?_)
  exact w_X0_weigh_31 hC _ hk1 hF hw (lv_sub hl [1, 2, 3, 4, 5, 0] rfl)
abbrev rm_X0_waysToLast : Room := { frames := 0, cells := 0, slots := 0, locals := 0 }
theorem yv_X0_waysToLast : YV yX0_waysToLast cX0_waysToLast 4 (some .long) 0 RX0 := ⟨⟨q4_24, q4_25, q1_5, q4_26⟩, by decide +kernel⟩
theorem dX0_waysToLast_0 : decode cX0_waysToLast 0 = .ok (.lconst 0, 1) := by decide +kernel
theorem dX0_waysToLast_1 : decode cX0_waysToLast 1 = .ok (.lstore_n 1, 1) := by decide +kernel
theorem dX0_waysToLast_2 : decode cX0_waysToLast 2 = .ok (.iconst 1, 1) := by decide +kernel
theorem dX0_waysToLast_3 : decode cX0_waysToLast 3 = .ok (.istore_n 3, 1) := by decide +kernel
theorem dX0_waysToLast_4 : decode cX0_waysToLast 4 = .ok (.iload_n 3, 1) := by decide +kernel
theorem dX0_waysToLast_5 : decode cX0_waysToLast 5 = .ok (.aload_n 0, 1) := by decide +kernel
theorem dX0_waysToLast_6 : decode cX0_waysToLast 6 = .ok (.getfield 9, 3) := by decide +kernel
theorem dX0_waysToLast_9 : decode cX0_waysToLast 9 = .ok (.arraylength, 1) := by decide +kernel
theorem dX0_waysToLast_10 : decode cX0_waysToLast 10 = .ok (.if_icmp .ge 18, 3) := by decide +kernel
theorem dX0_waysToLast_13 : decode cX0_waysToLast 13 = .ok (.lload_n 1, 1) := by decide +kernel
theorem dX0_waysToLast_14 : decode cX0_waysToLast 14 = .ok (.aload_n 0, 1) := by decide +kernel
theorem dX0_waysToLast_15 : decode cX0_waysToLast 15 = .ok (.getfield 9, 3) := by decide +kernel
theorem dX0_waysToLast_18 : decode cX0_waysToLast 18 = .ok (.iload_n 3, 1) := by decide +kernel
theorem dX0_waysToLast_19 : decode cX0_waysToLast 19 = .ok (.laload, 1) := by decide +kernel
theorem dX0_waysToLast_20 : decode cX0_waysToLast 20 = .ok (.ladd, 1) := by decide +kernel
theorem dX0_waysToLast_21 : decode cX0_waysToLast 21 = .ok (.lstore_n 1, 1) := by decide +kernel
theorem dX0_waysToLast_22 : decode cX0_waysToLast 22 = .ok (.iinc 3 1, 3) := by decide +kernel
theorem dX0_waysToLast_25 : decode cX0_waysToLast 25 = .ok (.goto (-21), 3) := by decide +kernel
theorem dX0_waysToLast_28 : decode cX0_waysToLast 28 = .ok (.lload_n 1, 1) := by decide +kernel
theorem dX0_waysToLast_29 : decode cX0_waysToLast 29 = .ok (.lreturn, 1) := by decide +kernel
def F_X0_waysToLast_4 (fu : Nat) (M : Mm) : Nat → Int64 → Int32 → Option Int64
  | 0, _, _ => none
  | n + 1, x1, x3 =>
    if (nI (ln 78)) ≤ x3 then
      some x1
    else
      if x3 < 0 ∨ ln 78 ≤ x3.toNatClampNeg then none else (
      F_X0_waysToLast_4 fu M n (x1 + (M.2 78 x3.toNatClampNeg)) (x3 + (1 : Int32)))
set_option maxRecDepth 100000 in
set_option maxHeartbeats 4000000 in
theorem w_X0_waysToLast_4 {p : Program} {l : Launch} {e : Env} {s : State} {m : MethodId} {args : Array Value} {below : List Frame} {meth : Method} {c : Code} {G : Gv} (hC : Cx p s m args meth c cX0_waysToLast 4 (some .long) RX0) {fu : Nat} {r : Int64} {M : Mm} : ∀ (n : Nat) {x1 : Int64} {x3 : Int32} {H : Heap} {locs : List Loc} {ls : Array Slot}, F_X0_waysToLast_4 fu M n x1 x3 = some r → St G s H locs M → lv_has ls 4 [(0, .ref (ad G 77)), (1, .long x1), (3, .int x3)] → W p l e rm_X0_waysToLast s m args below meth c H locs 0 0 (MQ below (QL G r M) args s 0 0 (zA G)) (F0 m 4 ls []) := by
  intro n
  induction n with
  | zero =>
    intro x1 x3 H locs ls hF hw hl
    cases hF
  | succ n ih =>
    intro x1 x3 H locs ls hF hw hl
    unfold F_X0_waysToLast_4 at hF
    refine lv_iload_n hC.1 hC.2.1 dX0_waysToLast_4 rfl (lv_at hl 2 rfl) ?_
    refine lv_aload_n hC.1 hC.2.1 dX0_waysToLast_5 rfl (lv_at hl 0 rfl) ?_
    refine g0_ways hC hw q1_151 dX0_waysToLast_6 ?_
    refine r_alenJ hC.1 hC.2.1 hw (rfl : kd 78 = 2) dX0_waysToLast_9 ?_
    refine lv_icmp_ge (tgt := 28) hC.1 hC.2.1 dX0_waysToLast_10 (by decide) (fun b1 => ?_) (fun b1 => ?_)
    · have hF := ifP hF b1
      refine lv_lload_n hC.1 hC.2.1 dX0_waysToLast_28 rfl (lv_at hl 1 rfl) ?_
      exact r_lretP hC hw hF dX0_waysToLast_29
    · have hF := ifN hF b1
      refine lv_lload_n hC.1 hC.2.1 dX0_waysToLast_13 rfl (lv_at hl 1 rfl) ?_
      refine lv_aload_n hC.1 hC.2.1 dX0_waysToLast_14 rfl (lv_at hl 0 rfl) ?_
      refine g0_ways hC hw q1_151 dX0_waysToLast_15 ?_
      refine lv_iload_n hC.1 hC.2.1 dX0_waysToLast_18 rfl (lv_at hl 2 rfl) ?_
      obtain ⟨n2, hF⟩ := ifO hF
      refine r_lald hC.1 hC.2.1 hw (rfl : kd 78 = 2) n2 dX0_waysToLast_19 ?_
      refine lv_ladd hC.1 hC.2.1 dX0_waysToLast_20 ?_
      refine lv_lstore_n (lv' := [(1, .long (x1 + (M.2 78 x3.toNatClampNeg))), (0, .ref (ad G 77)), (3, .int x3)]) hC.1 hC.2.1 dX0_waysToLast_21 rfl hl (by decide) rfl (fun ls hl => ?_)
      refine lv_iinc (v := (x3 + (1 : Int32))) (lv' := [(3, .int (x3 + (1 : Int32))), (1, .long (x1 + (M.2 78 x3.toNatClampNeg))), (0, .ref (ad G 77))]) hC.1 hC.2.1 dX0_waysToLast_22 hl (k := 2) rfl rfl (by decide) rfl (fun ls hl => ?_)
      refine lv_goto (tgt := 4) hC.1 hC.2.1 dX0_waysToLast_25 (by decide) ?_
      exact ih hF hw (lv_sub hl [2, 1, 0] rfl)
def F_X0_waysToLast (fu : Nat) (M : Mm) : Option Int64 :=
  F_X0_waysToLast_4 fu M fu (0 : Int64) (1 : Int32)
set_option maxRecDepth 100000 in
set_option maxHeartbeats 4000000 in
theorem c_X0_waysToLast {l : Launch} {G : Gv} {fu : Nat} {M : Mm} {r : Int64} (hF : F_X0_waysToLast fu M = some r) : Met l yX0_waysToLast (.code yX0_waysToLast cX0_waysToLast 4 (some .long) :: zU) rm_X0_waysToLast (va_Pc [.ref (ad G 77)] (Wd G M)) (QL G r M) 0 0 (zA G) := by
  refine zMet (by decide) rfl (Nat.le_of_ble_eq_true rfl) ?_
  intro p e s m below meth c hC hw ls hl
  have hl : lv_has ls 4 [(0, .ref (ad G 77))] := hl
  unfold F_X0_waysToLast at hF
  refine lv_lconst (v := (0 : Int64)) hC.1 hC.2.1 dX0_waysToLast_0 (by decide) ?_
  refine lv_lstore_n (lv' := [(1, .long (0 : Int64)), (0, .ref (ad G 77))]) hC.1 hC.2.1 dX0_waysToLast_1 rfl hl (by decide) rfl (fun ls hl => ?_)
  refine lv_iconst (v := (1 : Int32)) hC.1 hC.2.1 dX0_waysToLast_2 (by decide) ?_
  refine lv_istore_n (lv' := [(3, .int (1 : Int32)), (1, .long (0 : Int64)), (0, .ref (ad G 77))]) hC.1 hC.2.1 dX0_waysToLast_3 rfl hl (by decide) rfl (fun ls hl => ?_)
  exact w_X0_waysToLast_4 hC _ hF hw (lv_sub hl [2, 1, 0] rfl)
abbrev rm_X0_bulkOfWays : Room := { frames := 0, cells := 0, slots := 0, locals := 0 }
theorem yv_X0_bulkOfWays : YV yX0_bulkOfWays cX0_bulkOfWays 4 (some .long) 0 RX0 := ⟨⟨q4_39, q4_40, q1_5, q4_41⟩, by decide +kernel⟩
theorem dX0_bulkOfWays_0 : decode cX0_bulkOfWays 0 = .ok (.lconst 0, 1) := by decide +kernel
theorem dX0_bulkOfWays_1 : decode cX0_bulkOfWays 1 = .ok (.lstore_n 1, 1) := by decide +kernel
theorem dX0_bulkOfWays_2 : decode cX0_bulkOfWays 2 = .ok (.iconst 1, 1) := by decide +kernel
theorem dX0_bulkOfWays_3 : decode cX0_bulkOfWays 3 = .ok (.istore_n 3, 1) := by decide +kernel
theorem dX0_bulkOfWays_4 : decode cX0_bulkOfWays 4 = .ok (.iload_n 3, 1) := by decide +kernel
theorem dX0_bulkOfWays_5 : decode cX0_bulkOfWays 5 = .ok (.aload_n 0, 1) := by decide +kernel
theorem dX0_bulkOfWays_6 : decode cX0_bulkOfWays 6 = .ok (.getfield 9, 3) := by decide +kernel
theorem dX0_bulkOfWays_9 : decode cX0_bulkOfWays 9 = .ok (.arraylength, 1) := by decide +kernel
theorem dX0_bulkOfWays_10 : decode cX0_bulkOfWays 10 = .ok (.if_icmp .ge 21, 3) := by decide +kernel
theorem dX0_bulkOfWays_13 : decode cX0_bulkOfWays 13 = .ok (.lload_n 1, 1) := by decide +kernel
theorem dX0_bulkOfWays_14 : decode cX0_bulkOfWays 14 = .ok (.iload_n 3, 1) := by decide +kernel
theorem dX0_bulkOfWays_15 : decode cX0_bulkOfWays 15 = .ok (.i2l, 1) := by decide +kernel
theorem dX0_bulkOfWays_16 : decode cX0_bulkOfWays 16 = .ok (.aload_n 0, 1) := by decide +kernel
theorem dX0_bulkOfWays_17 : decode cX0_bulkOfWays 17 = .ok (.getfield 9, 3) := by decide +kernel
theorem dX0_bulkOfWays_20 : decode cX0_bulkOfWays 20 = .ok (.iload_n 3, 1) := by decide +kernel
theorem dX0_bulkOfWays_21 : decode cX0_bulkOfWays 21 = .ok (.laload, 1) := by decide +kernel
theorem dX0_bulkOfWays_22 : decode cX0_bulkOfWays 22 = .ok (.lmul, 1) := by decide +kernel
theorem dX0_bulkOfWays_23 : decode cX0_bulkOfWays 23 = .ok (.ladd, 1) := by decide +kernel
theorem dX0_bulkOfWays_24 : decode cX0_bulkOfWays 24 = .ok (.lstore_n 1, 1) := by decide +kernel
theorem dX0_bulkOfWays_25 : decode cX0_bulkOfWays 25 = .ok (.iinc 3 1, 3) := by decide +kernel
theorem dX0_bulkOfWays_28 : decode cX0_bulkOfWays 28 = .ok (.goto (-24), 3) := by decide +kernel
theorem dX0_bulkOfWays_31 : decode cX0_bulkOfWays 31 = .ok (.lload_n 1, 1) := by decide +kernel
theorem dX0_bulkOfWays_32 : decode cX0_bulkOfWays 32 = .ok (.lreturn, 1) := by decide +kernel
def F_X0_bulkOfWays_4 (fu : Nat) (M : Mm) : Nat → Int64 → Int32 → Option Int64
  | 0, _, _ => none
  | n + 1, x1, x3 =>
    if (nI (ln 78)) ≤ x3 then
      some x1
    else
      if x3 < 0 ∨ ln 78 ≤ x3.toNatClampNeg then none else (
      lt1 (x1 + (x3.toInt64 * (M.2 78 x3.toNatClampNeg))) (fun y3 =>
      F_X0_bulkOfWays_4 fu M n y3 (x3 + (1 : Int32))))
set_option maxRecDepth 100000 in
set_option maxHeartbeats 4000000 in
theorem w_X0_bulkOfWays_4 {p : Program} {l : Launch} {e : Env} {s : State} {m : MethodId} {args : Array Value} {below : List Frame} {meth : Method} {c : Code} {G : Gv} (hC : Cx p s m args meth c cX0_bulkOfWays 4 (some .long) RX0) {fu : Nat} {r : Int64} {M : Mm} : ∀ (n : Nat) {x1 : Int64} {x3 : Int32} {H : Heap} {locs : List Loc} {ls : Array Slot}, F_X0_bulkOfWays_4 fu M n x1 x3 = some r → St G s H locs M → lv_has ls 4 [(0, .ref (ad G 77)), (1, .long x1), (3, .int x3)] → W p l e rm_X0_bulkOfWays s m args below meth c H locs 0 0 (MQ below (QL G r M) args s 0 0 (zA G)) (F0 m 4 ls []) := by
  intro n
  induction n with
  | zero =>
    intro x1 x3 H locs ls hF hw hl
    cases hF
  | succ n ih =>
    intro x1 x3 H locs ls hF hw hl
    unfold F_X0_bulkOfWays_4 at hF
    refine lv_iload_n hC.1 hC.2.1 dX0_bulkOfWays_4 rfl (lv_at hl 2 rfl) ?_
    refine lv_aload_n hC.1 hC.2.1 dX0_bulkOfWays_5 rfl (lv_at hl 0 rfl) ?_
    refine g0_ways hC hw q1_151 dX0_bulkOfWays_6 ?_
    refine r_alenJ hC.1 hC.2.1 hw (rfl : kd 78 = 2) dX0_bulkOfWays_9 ?_
    refine lv_icmp_ge (tgt := 31) hC.1 hC.2.1 dX0_bulkOfWays_10 (by decide) (fun b1 => ?_) (fun b1 => ?_)
    · have hF := ifP hF b1
      refine lv_lload_n hC.1 hC.2.1 dX0_bulkOfWays_31 rfl (lv_at hl 1 rfl) ?_
      exact r_lretP hC hw hF dX0_bulkOfWays_32
    · have hF := ifN hF b1
      refine lv_lload_n hC.1 hC.2.1 dX0_bulkOfWays_13 rfl (lv_at hl 1 rfl) ?_
      refine lv_iload_n hC.1 hC.2.1 dX0_bulkOfWays_14 rfl (lv_at hl 2 rfl) ?_
      refine lv_i2l hC.1 hC.2.1 dX0_bulkOfWays_15 rfl ?_
      refine lv_aload_n hC.1 hC.2.1 dX0_bulkOfWays_16 rfl (lv_at hl 0 rfl) ?_
      refine g0_ways hC hw q1_151 dX0_bulkOfWays_17 ?_
      refine lv_iload_n hC.1 hC.2.1 dX0_bulkOfWays_20 rfl (lv_at hl 2 rfl) ?_
      obtain ⟨n2, hF⟩ := ifO hF
      refine r_lald hC.1 hC.2.1 hw (rfl : kd 78 = 2) n2 dX0_bulkOfWays_21 ?_
      refine lv_lmul hC.1 hC.2.1 dX0_bulkOfWays_22 ?_
      refine lv_ladd hC.1 hC.2.1 dX0_bulkOfWays_23 ?_
      refine lv_topl (fun y3 ey3 => ?_)
      have hF := lt1G hF ey3
      refine lv_lstore_n (lv' := [(1, .long y3), (0, .ref (ad G 77)), (3, .int x3)]) hC.1 hC.2.1 dX0_bulkOfWays_24 rfl hl (by decide) rfl (fun ls hl => ?_)
      refine lv_iinc (v := (x3 + (1 : Int32))) (lv' := [(3, .int (x3 + (1 : Int32))), (1, .long y3), (0, .ref (ad G 77))]) hC.1 hC.2.1 dX0_bulkOfWays_25 hl (k := 2) rfl rfl (by decide) rfl (fun ls hl => ?_)
      refine lv_goto (tgt := 4) hC.1 hC.2.1 dX0_bulkOfWays_28 (by decide) ?_
      exact ih hF hw (lv_sub hl [2, 1, 0] rfl)
def F_X0_bulkOfWays (fu : Nat) (M : Mm) : Option Int64 :=
  F_X0_bulkOfWays_4 fu M fu (0 : Int64) (1 : Int32)
set_option maxRecDepth 100000 in
set_option maxHeartbeats 4000000 in
theorem c_X0_bulkOfWays {l : Launch} {G : Gv} {fu : Nat} {M : Mm} {r : Int64} (hF : F_X0_bulkOfWays fu M = some r) : Met l yX0_bulkOfWays (.code yX0_bulkOfWays cX0_bulkOfWays 4 (some .long) :: zU) rm_X0_bulkOfWays (va_Pc [.ref (ad G 77)] (Wd G M)) (QL G r M) 0 0 (zA G) := by
  refine zMet (by decide) rfl (Nat.le_of_ble_eq_true rfl) ?_
  intro p e s m below meth c hC hw ls hl
  have hl : lv_has ls 4 [(0, .ref (ad G 77))] := hl
  unfold F_X0_bulkOfWays at hF
  refine lv_lconst (v := (0 : Int64)) hC.1 hC.2.1 dX0_bulkOfWays_0 (by decide) ?_
  refine lv_lstore_n (lv' := [(1, .long (0 : Int64)), (0, .ref (ad G 77))]) hC.1 hC.2.1 dX0_bulkOfWays_1 rfl hl (by decide) rfl (fun ls hl => ?_)
  refine lv_iconst (v := (1 : Int32)) hC.1 hC.2.1 dX0_bulkOfWays_2 (by decide) ?_
  refine lv_istore_n (lv' := [(3, .int (1 : Int32)), (1, .long (0 : Int64)), (0, .ref (ad G 77))]) hC.1 hC.2.1 dX0_bulkOfWays_3 rfl hl (by decide) rfl (fun ls hl => ?_)
  exact w_X0_bulkOfWays_4 hC _ hF hw (lv_sub hl [2, 1, 0] rfl)
abbrev rm_X2_meltedIn : Room := { frames := 2, cells := 0, slots := 0, locals := 54 }
theorem yv_X2_meltedIn : YV yX2_meltedIn cX2_meltedIn 6 (some .int) 3 RX2 := ⟨⟨q3_65, q3_66, q1_2, q3_67⟩, by decide +kernel⟩
theorem dX2_meltedIn_0 : decode cX2_meltedIn 0 = .ok (.iconst 0, 1) := by decide +kernel
theorem dX2_meltedIn_1 : decode cX2_meltedIn 1 = .ok (.istore 4, 2) := by decide +kernel
theorem dX2_meltedIn_3 : decode cX2_meltedIn 3 = .ok (.iconst 0, 1) := by decide +kernel
theorem dX2_meltedIn_4 : decode cX2_meltedIn 4 = .ok (.istore 5, 2) := by decide +kernel
theorem dX2_meltedIn_6 : decode cX2_meltedIn 6 = .ok (.iload 5, 2) := by decide +kernel
theorem dX2_meltedIn_8 : decode cX2_meltedIn 8 = .ok (.iload_n 3, 1) := by decide +kernel
theorem dX2_meltedIn_9 : decode cX2_meltedIn 9 = .ok (.if_icmp .ge 27, 3) := by decide +kernel
theorem dX2_meltedIn_12 : decode cX2_meltedIn 12 = .ok (.iload 4, 2) := by decide +kernel
theorem dX2_meltedIn_14 : decode cX2_meltedIn 14 = .ok (.aload_n 0, 1) := by decide +kernel
theorem dX2_meltedIn_15 : decode cX2_meltedIn 15 = .ok (.iload_n 1, 1) := by decide +kernel
theorem dX2_meltedIn_16 : decode cX2_meltedIn 16 = .ok (.iload_n 2, 1) := by decide +kernel
theorem dX2_meltedIn_17 : decode cX2_meltedIn 17 = .ok (.aload_n 0, 1) := by decide +kernel
theorem dX2_meltedIn_18 : decode cX2_meltedIn 18 = .ok (.getfield 70, 3) := by decide +kernel
theorem dX2_meltedIn_21 : decode cX2_meltedIn 21 = .ok (.iload 5, 2) := by decide +kernel
theorem dX2_meltedIn_23 : decode cX2_meltedIn 23 = .ok (.iadd, 1) := by decide +kernel
theorem dX2_meltedIn_24 : decode cX2_meltedIn 24 = .ok (.invokevirtual 100, 3) := by decide +kernel
theorem dX2_meltedIn_27 : decode cX2_meltedIn 27 = .ok (.iadd, 1) := by decide +kernel
theorem dX2_meltedIn_28 : decode cX2_meltedIn 28 = .ok (.istore 4, 2) := by decide +kernel
theorem dX2_meltedIn_30 : decode cX2_meltedIn 30 = .ok (.iinc 5 1, 3) := by decide +kernel
theorem dX2_meltedIn_33 : decode cX2_meltedIn 33 = .ok (.goto (-27), 3) := by decide +kernel
theorem dX2_meltedIn_36 : decode cX2_meltedIn 36 = .ok (.iload 4, 2) := by decide +kernel
theorem dX2_meltedIn_38 : decode cX2_meltedIn 38 = .ok (.ireturn, 1) := by decide +kernel
def F_X2_meltedIn_6 (fu : Nat) (M : Mm) : Nat → Nat → Int32 → Int32 → Int32 → Int32 → Int32 → Option Int32
  | 0, _, _, _, _, _, _ => none
  | n + 1, c0, x1, x2, x3, x4, x5 =>
    if x3 ≤ x5 then
      some x4
    else
      ob1 (F_X2_melting fu M c0 x1 x2 ((M.1 c0 2) + x5)) (fun r3 =>
      F_X2_meltedIn_6 fu M n c0 x1 x2 x3 (x4 + r3) (x5 + (1 : Int32)))
set_option maxRecDepth 100000 in
set_option maxHeartbeats 4000000 in
theorem w_X2_meltedIn_6 {p : Program} {l : Launch} {e : Env} {s : State} {m : MethodId} {args : Array Value} {below : List Frame} {meth : Method} {c : Code} {G : Gv} (hC : Cx p s m args meth c cX2_meltedIn 6 (some .int) RX2) {fu : Nat} {r : Int32} {M : Mm} : ∀ (n : Nat) {c0 : Nat} {x1 : Int32} {x2 : Int32} {x3 : Int32} {x4 : Int32} {x5 : Int32} {H : Heap} {locs : List Loc} {ls : Array Slot} (hk0 : kd c0 = 11), F_X2_meltedIn_6 fu M n c0 x1 x2 x3 x4 x5 = some r → St G s H locs M → lv_has ls 6 [(0, .ref (ad G c0)), (1, .int x1), (2, .int x2), (3, .int x3), (4, .int x4), (5, .int x5)] → W p l e rm_X2_meltedIn s m args below meth c H locs 0 0 (MQ below (QI G r M) args s 0 0 (zA G)) (F0 m 6 ls []) := by
  intro n
  induction n with
  | zero =>
    intro c0 x1 x2 x3 x4 x5 H locs ls hk0 hF hw hl
    cases hF
  | succ n ih =>
    intro c0 x1 x2 x3 x4 x5 H locs ls hk0 hF hw hl
    unfold F_X2_meltedIn_6 at hF
    refine lv_iload hC.1 hC.2.1 dX2_meltedIn_6 (lv_at hl 5 rfl) ?_
    refine lv_iload_n hC.1 hC.2.1 dX2_meltedIn_8 rfl (lv_at hl 3 rfl) ?_
    refine lv_icmp_ge (tgt := 36) hC.1 hC.2.1 dX2_meltedIn_9 (by decide) (fun b1 => ?_) (fun b1 => ?_)
    · have hF := ifP hF b1
      refine lv_iload hC.1 hC.2.1 dX2_meltedIn_36 (lv_at hl 4 rfl) ?_
      exact r_iretP hC hw hF dX2_meltedIn_38
    · have hF := ifN hF b1
      refine lv_iload hC.1 hC.2.1 dX2_meltedIn_12 (lv_at hl 4 rfl) ?_
      refine lv_aload_n hC.1 hC.2.1 dX2_meltedIn_14 rfl (lv_at hl 0 rfl) ?_
      refine lv_iload_n hC.1 hC.2.1 dX2_meltedIn_15 rfl (lv_at hl 1 rfl) ?_
      refine lv_iload_n hC.1 hC.2.1 dX2_meltedIn_16 rfl (lv_at hl 2 rfl) ?_
      refine lv_aload_n hC.1 hC.2.1 dX2_meltedIn_17 rfl (lv_at hl 0 rfl) ?_
      refine g2_today hC hw hk0 q1_35 dX2_meltedIn_18 ?_
      refine lv_iload hC.1 hC.2.1 dX2_meltedIn_21 (lv_at hl 5 rfl) ?_
      refine lv_iadd hC.1 hC.2.1 dX2_meltedIn_23 ?_
      obtain ⟨r3, h2, hF⟩ := ob1S hF
      refine k_Vi (As := [.int x1, .int x2, .int ((M.1 c0 2) + x5)]) (rest := [.int x4]) hC hw (c_X2_melting (M := M) hk0 h2) (RC_N hk0) yv_X2_melting q2_190 ⟨rfl, rfl⟩ ⟨Nat.le_of_ble_eq_true rfl, Nat.le_of_ble_eq_true rfl⟩ ⟨Nat.zero_le _, Nat.zero_le _⟩ rfl rfl (Nat.le_of_ble_eq_true rfl) hl dX2_meltedIn_24 (fun H locs hw => ?_)
      refine lv_iadd hC.1 hC.2.1 dX2_meltedIn_27 ?_
      refine lv_istore (lv' := [(4, .int (x4 + r3)), (0, .ref (ad G c0)), (1, .int x1), (2, .int x2), (3, .int x3), (5, .int x5)]) hC.1 hC.2.1 dX2_meltedIn_28 hl (by decide) rfl (fun ls hl => ?_)
      refine lv_iinc (v := (x5 + (1 : Int32))) (lv' := [(5, .int (x5 + (1 : Int32))), (4, .int (x4 + r3)), (0, .ref (ad G c0)), (1, .int x1), (2, .int x2), (3, .int x3)]) hC.1 hC.2.1 dX2_meltedIn_30 hl (k := 5) rfl rfl (by decide) rfl (fun ls hl => ?_)
      refine lv_goto (tgt := 6) hC.1 hC.2.1 dX2_meltedIn_33 (by decide) ?_
      exact ih hk0 hF hw (lv_sub hl [2, 3, 4, 5, 1, 0] rfl)
def F_X2_meltedIn (fu : Nat) (M : Mm) (c0 : Nat) (x1 : Int32) (x2 : Int32) (x3 : Int32) : Option Int32 :=
  F_X2_meltedIn_6 fu M fu c0 x1 x2 x3 (0 : Int32) (0 : Int32)
set_option maxRecDepth 100000 in
set_option maxHeartbeats 4000000 in
theorem c_X2_meltedIn {l : Launch} {G : Gv} {fu : Nat} {M : Mm} {c0 : Nat} {x1 : Int32} {x2 : Int32} {x3 : Int32} (hk0 : kd c0 = 11) {r : Int32} (hF : F_X2_meltedIn fu M c0 x1 x2 x3 = some r) : Met l yX2_meltedIn (.code yX2_meltedIn cX2_meltedIn 6 (some .int) :: zU) rm_X2_meltedIn (va_Pc [.ref (ad G c0), .int x1, .int x2, .int x3] (Wd G M)) (QI G r M) 0 0 (zA G) := by
  refine zMet (by decide) rfl (Nat.le_of_ble_eq_true rfl) ?_
  intro p e s m below meth c hC hw ls hl
  have hl : lv_has ls 6 [(0, .ref (ad G c0)), (1, .int x1), (2, .int x2), (3, .int x3)] := hl
  unfold F_X2_meltedIn at hF
  refine lv_iconst (v := (0 : Int32)) hC.1 hC.2.1 dX2_meltedIn_0 (by decide) ?_
  refine lv_istore (lv' := [(4, .int (0 : Int32)), (0, .ref (ad G c0)), (1, .int x1), (2, .int x2), (3, .int x3)]) hC.1 hC.2.1 dX2_meltedIn_1 hl (by decide) rfl (fun ls hl => ?_)
  refine lv_iconst (v := (0 : Int32)) hC.1 hC.2.1 dX2_meltedIn_3 (by decide) ?_
  refine lv_istore (lv' := [(5, .int (0 : Int32)), (4, .int (0 : Int32)), (0, .ref (ad G c0)), (1, .int x1), (2, .int x2), (3, .int x3)]) hC.1 hC.2.1 dX2_meltedIn_4 hl (by decide) rfl (fun ls hl => ?_)
  exact w_X2_meltedIn_6 hC _ hk0 hF hw (lv_sub hl [2, 3, 4, 5, 1, 0] rfl)
abbrev rm_X2_bulkBy : Room := { frames := 3, cells := 0, slots := 0, locals := 79 }
theorem yv_X2_bulkBy : YV yX2_bulkBy cX2_bulkBy 4 (some .int) 3 RX2 := ⟨⟨q3_62, qs_15, q1_2, q3_63⟩, by decide +kernel⟩
theorem dX2_bulkBy_0 : decode cX2_bulkBy 0 = .ok (.iconst 0, 1) := by decide +kernel
theorem dX2_bulkBy_1 : decode cX2_bulkBy 1 = .ok (.aload_n 0, 1) := by decide +kernel
theorem dX2_bulkBy_2 : decode cX2_bulkBy 2 = .ok (.getfield 21, 3) := by decide +kernel
theorem dX2_bulkBy_5 : decode cX2_bulkBy 5 = .ok (.iload_n 1, 1) := by decide +kernel
theorem dX2_bulkBy_6 : decode cX2_bulkBy 6 = .ok (.invokestatic 81, 3) := by decide +kernel
theorem dX2_bulkBy_9 : decode cX2_bulkBy 9 = .ok (.aload_n 0, 1) := by decide +kernel
theorem dX2_bulkBy_10 : decode cX2_bulkBy 10 = .ok (.aload_n 0, 1) := by decide +kernel
theorem dX2_bulkBy_11 : decode cX2_bulkBy 11 = .ok (.getfield 15, 3) := by decide +kernel
theorem dX2_bulkBy_14 : decode cX2_bulkBy 14 = .ok (.iload_n 1, 1) := by decide +kernel
theorem dX2_bulkBy_15 : decode cX2_bulkBy 15 = .ok (.invokestatic 81, 3) := by decide +kernel
theorem dX2_bulkBy_18 : decode cX2_bulkBy 18 = .ok (.iload_n 2, 1) := by decide +kernel
theorem dX2_bulkBy_19 : decode cX2_bulkBy 19 = .ok (.iload_n 3, 1) := by decide +kernel
theorem dX2_bulkBy_20 : decode cX2_bulkBy 20 = .ok (.invokevirtual 107, 3) := by decide +kernel
theorem dX2_bulkBy_23 : decode cX2_bulkBy 23 = .ok (.isub, 1) := by decide +kernel
theorem dX2_bulkBy_24 : decode cX2_bulkBy 24 = .ok (.invokestatic 97, 3) := by decide +kernel
theorem dX2_bulkBy_27 : decode cX2_bulkBy 27 = .ok (.ireturn, 1) := by decide +kernel
def F_X2_bulkBy (fu : Nat) (M : Mm) (c0 : Nat) (x1 : Int32) (x2 : Int32) (x3 : Int32) : Option Int32 :=
  ob1 (F_X6_read fu M (c0 + 4) x1) (fun r2 =>
  ob1 (F_X6_read fu M (c0 + 2) x1) (fun r4 =>
  ob1 (F_X2_meltedIn fu M c0 r4 x2 x3) (fun r6 =>
  some (zmx (0 : Int32) (r2 - r6)))))
set_option maxRecDepth 100000 in
set_option maxHeartbeats 4000000 in
theorem c_X2_bulkBy {l : Launch} {G : Gv} {fu : Nat} {M : Mm} {c0 : Nat} {x1 : Int32} {x2 : Int32} {x3 : Int32} (hk0 : kd c0 = 11) {r : Int32} (hF : F_X2_bulkBy fu M c0 x1 x2 x3 = some r) : Met l yX2_bulkBy (.code yX2_bulkBy cX2_bulkBy 4 (some .int) :: zU) rm_X2_bulkBy (va_Pc [.ref (ad G c0), .int x1, .int x2, .int x3] (Wd G M)) (QI G r M) 0 0 (zA G) := by
  refine zMet (by decide) rfl (Nat.le_of_ble_eq_true rfl) ?_
  intro p e s m below meth c hC hw ls hl
  have hl : lv_has ls 4 [(0, .ref (ad G c0)), (1, .int x1), (2, .int x2), (3, .int x3)] := hl
  unfold F_X2_bulkBy at hF
  refine lv_iconst (v := (0 : Int32)) hC.1 hC.2.1 dX2_bulkBy_0 (by decide) ?_
  refine lv_aload_n hC.1 hC.2.1 dX2_bulkBy_1 rfl (lv_at hl 0 rfl) ?_
  refine g2_bulkOf hC hw hk0 q1_43 dX2_bulkBy_2 ?_
  refine lv_iload_n hC.1 hC.2.1 dX2_bulkBy_5 rfl (lv_at hl 1 rfl) ?_
  obtain ⟨r2, h1, hF⟩ := ob1S hF
  refine k_Ni (As := [.ref (ad G (c0 + 4)), .int x1]) (rest := [.int (0 : Int32)]) hC hw (c_X6_read (M := M) (kdN4 hk0) h1) ys_X6_read (k := 10) rfl ⟨rfl, rfl⟩ ⟨Nat.le_of_ble_eq_true rfl, Nat.le_of_ble_eq_true rfl⟩ ⟨Nat.zero_le _, Nat.zero_le _⟩ rfl rfl (Nat.le_of_ble_eq_true rfl) hl dX2_bulkBy_6 (fun H locs hw => ?_)
  refine lv_aload_n hC.1 hC.2.1 dX2_bulkBy_9 rfl (lv_at hl 0 rfl) ?_
  refine lv_aload_n hC.1 hC.2.1 dX2_bulkBy_10 rfl (lv_at hl 0 rfl) ?_
  refine g2_kindOf hC hw hk0 q1_40 dX2_bulkBy_11 ?_
  refine lv_iload_n hC.1 hC.2.1 dX2_bulkBy_14 rfl (lv_at hl 1 rfl) ?_
  obtain ⟨r4, h3, hF⟩ := ob1S hF
  refine k_Ni (As := [.ref (ad G (c0 + 2)), .int x1]) (rest := [.ref (ad G c0), .int r2, .int (0 : Int32)]) hC hw (c_X6_read (M := M) (kdN2 hk0) h3) ys_X6_read (k := 10) rfl ⟨rfl, rfl⟩ ⟨Nat.le_of_ble_eq_true rfl, Nat.le_of_ble_eq_true rfl⟩ ⟨Nat.zero_le _, Nat.zero_le _⟩ rfl rfl (Nat.le_of_ble_eq_true rfl) hl dX2_bulkBy_15 (fun H locs hw => ?_)
  refine lv_iload_n hC.1 hC.2.1 dX2_bulkBy_18 rfl (lv_at hl 2 rfl) ?_
  refine lv_iload_n hC.1 hC.2.1 dX2_bulkBy_19 rfl (lv_at hl 3 rfl) ?_
  obtain ⟨r6, h5, hF⟩ := ob1S hF
  refine k_Vi (As := [.int r4, .int x2, .int x3]) (rest := [.int r2, .int (0 : Int32)]) hC hw (c_X2_meltedIn (M := M) hk0 h5) (RC_N hk0) yv_X2_meltedIn q3_64 ⟨rfl, rfl⟩ ⟨Nat.le_of_ble_eq_true rfl, Nat.le_of_ble_eq_true rfl⟩ ⟨Nat.zero_le _, Nat.zero_le _⟩ rfl rfl (Nat.le_of_ble_eq_true rfl) hl dX2_bulkBy_20 (fun H locs hw => ?_)
  refine lv_isub hC.1 hC.2.1 dX2_bulkBy_23 ?_
  refine r_max ⟨hC.1, hC.2.1, by rw [hC.2.2.1]; exact hl.1.symm, hC.2.2.2.1, hC.2.2.2.2.1⟩ q2_194 ⟨Nat.le_of_ble_eq_true rfl, Nat.le_of_ble_eq_true rfl⟩ ⟨Nat.zero_le _, Nat.zero_le _⟩ dX2_bulkBy_24 ?_
  exact r_iretP hC hw hF dX2_bulkBy_27
abbrev rm_X2_hasRight : Room := { frames := 1, cells := 0, slots := 0, locals := 21 }
theorem yv_X2_hasRight : YV yX2_hasRight cX2_hasRight 4 (some .boolean) 3 RX2 := ⟨⟨q2_161, q2_162, q1_2, q2_163⟩, by decide +kernel⟩
theorem dX2_hasRight_0 : decode cX2_hasRight 0 = .ok (.iload_n 2, 1) := by decide +kernel
theorem dX2_hasRight_1 : decode cX2_hasRight 1 = .ok (.iload_n 3, 1) := by decide +kernel
theorem dX2_hasRight_2 : decode cX2_hasRight 2 = .ok (.if_icmp .ge 19, 3) := by decide +kernel
theorem dX2_hasRight_5 : decode cX2_hasRight 5 = .ok (.iload_n 2, 1) := by decide +kernel
theorem dX2_hasRight_6 : decode cX2_hasRight 6 = .ok (.ifCond .le 19, 3) := by decide +kernel
theorem dX2_hasRight_9 : decode cX2_hasRight 9 = .ok (.aload_n 0, 1) := by decide +kernel
theorem dX2_hasRight_10 : decode cX2_hasRight 10 = .ok (.getfield 15, 3) := by decide +kernel
theorem dX2_hasRight_13 : decode cX2_hasRight 13 = .ok (.iload_n 1, 1) := by decide +kernel
theorem dX2_hasRight_14 : decode cX2_hasRight 14 = .ok (.invokestatic 81, 3) := by decide +kernel
theorem dX2_hasRight_17 : decode cX2_hasRight 17 = .ok (.iconst 4, 1) := by decide +kernel
theorem dX2_hasRight_18 : decode cX2_hasRight 18 = .ok (.if_icmp .ne 7, 3) := by decide +kernel
theorem dX2_hasRight_21 : decode cX2_hasRight 21 = .ok (.iconst 1, 1) := by decide +kernel
theorem dX2_hasRight_22 : decode cX2_hasRight 22 = .ok (.goto 4, 3) := by decide +kernel
theorem dX2_hasRight_25 : decode cX2_hasRight 25 = .ok (.iconst 0, 1) := by decide +kernel
theorem dX2_hasRight_26 : decode cX2_hasRight 26 = .ok (.ireturn, 1) := by decide +kernel
def F_X2_hasRight (fu : Nat) (M : Mm) (c0 : Nat) (x1 : Int32) (x2 : Int32) (x3 : Int32) : Option Int32 :=
  if x3 ≤ x2 then
    some (1 : Int32)
  else
    if x2 ≤ 0 then
      some (0 : Int32)
    else
      ob1 (F_X6_read fu M (c0 + 2) x1) (fun r4 =>
      if r4 = (4 : Int32) then
        some (1 : Int32)
      else
        some (0 : Int32))
set_option maxRecDepth 100000 in
set_option maxHeartbeats 4000000 in
theorem c_X2_hasRight {l : Launch} {G : Gv} {fu : Nat} {M : Mm} {c0 : Nat} {x1 : Int32} {x2 : Int32} {x3 : Int32} (hk0 : kd c0 = 11) {r : Int32} (hF : F_X2_hasRight fu M c0 x1 x2 x3 = some r) : Met l yX2_hasRight (.code yX2_hasRight cX2_hasRight 4 (some .boolean) :: zU) rm_X2_hasRight (va_Pc [.ref (ad G c0), .int x1, .int x2, .int x3] (Wd G M)) (QI G r M) 0 0 (zA G) := by
  refine zMet (by decide) rfl (Nat.le_of_ble_eq_true rfl) ?_
  intro p e s m below meth c hC hw ls hl
  have hl : lv_has ls 4 [(0, .ref (ad G c0)), (1, .int x1), (2, .int x2), (3, .int x3)] := hl
  unfold F_X2_hasRight at hF
  refine lv_iload_n hC.1 hC.2.1 dX2_hasRight_0 rfl (lv_at hl 2 rfl) ?_
  refine lv_iload_n hC.1 hC.2.1 dX2_hasRight_1 rfl (lv_at hl 3 rfl) ?_
  refine lv_icmp_ge (tgt := 21) hC.1 hC.2.1 dX2_hasRight_2 (by decide) (fun b1 => ?_) (fun b1 => ?_)
  · have hF := ifP hF b1
    refine lv_iconst (v := (1 : Int32)) hC.1 hC.2.1 dX2_hasRight_21 (by decide) ?_
    refine lv_goto (tgt := 26) hC.1 hC.2.1 dX2_hasRight_22 (by decide) ?_
    exact r_zretP hC hw (by decide) hF dX2_hasRight_26
  · have hF := ifN hF b1
    refine lv_iload_n hC.1 hC.2.1 dX2_hasRight_5 rfl (lv_at hl 2 rfl) ?_
    refine lv_if_le (tgt := 25) hC.1 hC.2.1 dX2_hasRight_6 (by decide) (fun b2 => ?_) (fun b2 => ?_)
    · have hF := ifP hF b2
      refine lv_iconst (v := (0 : Int32)) hC.1 hC.2.1 dX2_hasRight_25 (by decide) ?_
      exact r_zretP hC hw (by decide) hF dX2_hasRight_26
    · have hF := ifN hF b2
      refine lv_aload_n hC.1 hC.2.1 dX2_hasRight_9 rfl (lv_at hl 0 rfl) ?_
      refine g2_kindOf hC hw hk0 q1_40 dX2_hasRight_10 ?_
      refine lv_iload_n hC.1 hC.2.1 dX2_hasRight_13 rfl (lv_at hl 1 rfl) ?_
      obtain ⟨r4, h3, hF⟩ := ob1S hF
      refine k_Ni (As := [.ref (ad G (c0 + 2)), .int x1]) (rest := []) hC hw (c_X6_read (M := M) (kdN2 hk0) h3) ys_X6_read (k := 10) rfl ⟨rfl, rfl⟩ ⟨Nat.le_of_ble_eq_true rfl, Nat.le_of_ble_eq_true rfl⟩ ⟨Nat.zero_le _, Nat.zero_le _⟩ rfl rfl (Nat.le_of_ble_eq_true rfl) hl dX2_hasRight_14 (fun H locs hw => ?_)
      refine lv_iconst (v := (4 : Int32)) hC.1 hC.2.1 dX2_hasRight_17 (by decide) ?_
      refine lv_icmp_ne (tgt := 25) hC.1 hC.2.1 dX2_hasRight_18 (by decide) (fun b5 => ?_) (fun b5 => ?_)
      · have hF := ifN hF b5
        refine lv_iconst (v := (0 : Int32)) hC.1 hC.2.1 dX2_hasRight_25 (by decide) ?_
        exact r_zretP hC hw (by decide) hF dX2_hasRight_26
      · have hF := ifP hF b5
        refine lv_iconst (v := (1 : Int32)) hC.1 hC.2.1 dX2_hasRight_21 (by decide) ?_
        refine lv_goto (tgt := 26) hC.1 hC.2.1 dX2_hasRight_22 (by decide) ?_
        exact r_zretP hC hw (by decide) hF dX2_hasRight_26
abbrev rm_X2_hasRightBy : Room := { frames := 4, cells := 0, slots := 0, locals := 102 }
theorem yv_X2_hasRightBy : YV yX2_hasRightBy cX2_hasRightBy 4 (some .boolean) 3 RX2 := ⟨⟨q3_81, q3_82, q1_2, q3_83⟩, by decide +kernel⟩
theorem dX2_hasRightBy_0 : decode cX2_hasRightBy 0 = .ok (.aload_n 0, 1) := by decide +kernel
theorem dX2_hasRightBy_1 : decode cX2_hasRightBy 1 = .ok (.iload_n 1, 1) := by decide +kernel
theorem dX2_hasRightBy_2 : decode cX2_hasRightBy 2 = .ok (.aload_n 0, 1) := by decide +kernel
theorem dX2_hasRightBy_3 : decode cX2_hasRightBy 3 = .ok (.iload_n 1, 1) := by decide +kernel
theorem dX2_hasRightBy_4 : decode cX2_hasRightBy 4 = .ok (.iload_n 2, 1) := by decide +kernel
theorem dX2_hasRightBy_5 : decode cX2_hasRightBy 5 = .ok (.iload_n 3, 1) := by decide +kernel
theorem dX2_hasRightBy_6 : decode cX2_hasRightBy 6 = .ok (.invokevirtual 104, 3) := by decide +kernel
theorem dX2_hasRightBy_9 : decode cX2_hasRightBy 9 = .ok (.aload_n 0, 1) := by decide +kernel
theorem dX2_hasRightBy_10 : decode cX2_hasRightBy 10 = .ok (.getfield 52, 3) := by decide +kernel
theorem dX2_hasRightBy_13 : decode cX2_hasRightBy 13 = .ok (.invokevirtual 114, 3) := by decide +kernel
theorem dX2_hasRightBy_16 : decode cX2_hasRightBy 16 = .ok (.ireturn, 1) := by decide +kernel
def F_X2_hasRightBy (fu : Nat) (M : Mm) (c0 : Nat) (x1 : Int32) (x2 : Int32) (x3 : Int32) : Option Int32 :=
  ob1 (F_X2_bulkBy fu M c0 x1 x2 x3) (fun r2 =>
  ob1 (F_X2_hasRight fu M c0 x1 r2 (M.1 c0 1)) (fun r4 =>
  if ¬ (r4 = 0 ∨ r4 = 1) then none else (
  some r4)))
set_option maxRecDepth 100000 in
set_option maxHeartbeats 4000000 in
theorem c_X2_hasRightBy {l : Launch} {G : Gv} {fu : Nat} {M : Mm} {c0 : Nat} {x1 : Int32} {x2 : Int32} {x3 : Int32} (hk0 : kd c0 = 11) {r : Int32} (hF : F_X2_hasRightBy fu M c0 x1 x2 x3 = some r) : Met l yX2_hasRightBy (.code yX2_hasRightBy cX2_hasRightBy 4 (some .boolean) :: zU) rm_X2_hasRightBy (va_Pc [.ref (ad G c0), .int x1, .int x2, .int x3] (Wd G M)) (QI G r M) 0 0 (zA G) := by
  refine zMet (by decide) rfl (Nat.le_of_ble_eq_true rfl) ?_
  intro p e s m below meth c hC hw ls hl
  have hl : lv_has ls 4 [(0, .ref (ad G c0)), (1, .int x1), (2, .int x2), (3, .int x3)] := hl
  unfold F_X2_hasRightBy at hF
  refine lv_aload_n hC.1 hC.2.1 dX2_hasRightBy_0 rfl (lv_at hl 0 rfl) ?_
  refine lv_iload_n hC.1 hC.2.1 dX2_hasRightBy_1 rfl (lv_at hl 1 rfl) ?_
  refine lv_aload_n hC.1 hC.2.1 dX2_hasRightBy_2 rfl (lv_at hl 0 rfl) ?_
  refine lv_iload_n hC.1 hC.2.1 dX2_hasRightBy_3 rfl (lv_at hl 1 rfl) ?_
  refine lv_iload_n hC.1 hC.2.1 dX2_hasRightBy_4 rfl (lv_at hl 2 rfl) ?_
  refine lv_iload_n hC.1 hC.2.1 dX2_hasRightBy_5 rfl (lv_at hl 3 rfl) ?_
  obtain ⟨r2, h1, hF⟩ := ob1S hF
  refine k_Vi (As := [.int x1, .int x2, .int x3]) (rest := [.int x1, .ref (ad G c0)]) hC hw (c_X2_bulkBy (M := M) hk0 h1) (RC_N hk0) yv_X2_bulkBy q3_60 ⟨rfl, rfl⟩ ⟨Nat.le_of_ble_eq_true rfl, Nat.le_of_ble_eq_true rfl⟩ ⟨Nat.zero_le _, Nat.zero_le _⟩ rfl rfl (Nat.le_of_ble_eq_true rfl) hl dX2_hasRightBy_6 (fun H locs hw => ?_)
  refine lv_aload_n hC.1 hC.2.1 dX2_hasRightBy_9 rfl (lv_at hl 0 rfl) ?_
  refine g2_rightNow hC hw hk0 q1_33 dX2_hasRightBy_10 ?_
  obtain ⟨r4, h3, hF⟩ := ob1S hF
  refine k_Vi (As := [.int x1, .int r2, .int (M.1 c0 1)]) (rest := []) hC hw (c_X2_hasRight (M := M) hk0 h3) (RC_N hk0) yv_X2_hasRight q2_160 ⟨rfl, rfl⟩ ⟨Nat.le_of_ble_eq_true rfl, Nat.le_of_ble_eq_true rfl⟩ ⟨Nat.zero_le _, Nat.zero_le _⟩ rfl rfl (Nat.le_of_ble_eq_true rfl) hl dX2_hasRightBy_13 (fun H locs hw => ?_)
  obtain ⟨z5, hF⟩ := ifO hF
  exact r_zretP hC hw (Decidable.not_not.mp z5) hF dX2_hasRightBy_16
abbrev rm_X6_write : Room := { frames := 0, cells := 0, slots := 0, locals := 0 }
theorem ys_X6_write : YS yX6_write cX6_write 3 none 3 := ⟨⟨q2_28, q1_1, q2_29⟩, by decide +kernel⟩
theorem dX6_write_0 : decode cX6_write 0 = .ok (.iload_n 1, 1) := by decide +kernel
theorem dX6_write_1 : decode cX6_write 1 = .ok (.ifCond .lt 13, 3) := by decide +kernel
theorem dX6_write_4 : decode cX6_write 4 = .ok (.iload_n 1, 1) := by decide +kernel
theorem dX6_write_5 : decode cX6_write 5 = .ok (.aload_n 0, 1) := by decide +kernel
theorem dX6_write_6 : decode cX6_write 6 = .ok (.arraylength, 1) := by decide +kernel
theorem dX6_write_7 : decode cX6_write 7 = .ok (.if_icmp .ge 7, 3) := by decide +kernel
theorem dX6_write_10 : decode cX6_write 10 = .ok (.aload_n 0, 1) := by decide +kernel
theorem dX6_write_11 : decode cX6_write 11 = .ok (.iload_n 1, 1) := by decide +kernel
theorem dX6_write_12 : decode cX6_write 12 = .ok (.iload_n 2, 1) := by decide +kernel
theorem dX6_write_13 : decode cX6_write 13 = .ok (.iastore, 1) := by decide +kernel
theorem dX6_write_14 : decode cX6_write 14 = .ok (.return_, 1) := by decide +kernel
def F_X6_write (fu : Nat) (M : Mm) (c0 : Nat) (x1 : Int32) (x2 : Int32) : Option Mm :=
  if x1 < 0 then
    some M
  else
    if (nI (ln c0)) ≤ x1 then
      some M
    else
      if x1 < 0 ∨ ln c0 ≤ x1.toNatClampNeg then none else (
      lt1 (pI M c0 x1.toNatClampNeg x2) (fun M4 =>
      some M4))
set_option maxRecDepth 100000 in
set_option maxHeartbeats 4000000 in
theorem c_X6_write {l : Launch} {G : Gv} {fu : Nat} {M : Mm} {c0 : Nat} {x1 : Int32} {x2 : Int32} (hk0 : kd c0 = 1) {M' : Mm} (hF : F_X6_write fu M c0 x1 x2 = some M') : Met l yX6_write (.code yX6_write cX6_write 3 none :: zU) rm_X6_write (va_Pc [.ref (ad G c0), .int x1, .int x2] (Wd G M)) (QV G M') 0 0 (zA G) := by
  refine zMet (by decide) rfl (Nat.le_of_ble_eq_true rfl) ?_
  intro p e s m below meth c hC hw ls hl
  have hl : lv_has ls 3 [(0, .ref (ad G c0)), (1, .int x1), (2, .int x2)] := hl
  unfold F_X6_write at hF
  refine lv_iload_n hC.1 hC.2.1 dX6_write_0 rfl (lv_at hl 1 rfl) ?_
  refine lv_if_lt (tgt := 14) hC.1 hC.2.1 dX6_write_1 (by decide) (fun b1 => ?_) (fun b1 => ?_)
  · have hF := ifP hF b1
    exact r_vretE hC hw hF dX6_write_14
  · have hF := ifN hF b1
    refine lv_iload_n hC.1 hC.2.1 dX6_write_4 rfl (lv_at hl 1 rfl) ?_
    refine lv_aload_n hC.1 hC.2.1 dX6_write_5 rfl (lv_at hl 0 rfl) ?_
    refine r_alenI hC.1 hC.2.1 hw hk0 dX6_write_6 ?_
    refine lv_icmp_ge (tgt := 14) hC.1 hC.2.1 dX6_write_7 (by decide) (fun b2 => ?_) (fun b2 => ?_)
    · have hF := ifP hF b2
      exact r_vretE hC hw hF dX6_write_14
    · have hF := ifN hF b2
      refine lv_aload_n hC.1 hC.2.1 dX6_write_10 rfl (lv_at hl 0 rfl) ?_
      refine lv_iload_n hC.1 hC.2.1 dX6_write_11 rfl (lv_at hl 1 rfl) ?_
      refine lv_iload_n hC.1 hC.2.1 dX6_write_12 rfl (lv_at hl 2 rfl) ?_
      obtain ⟨n3, hF⟩ := ifO hF
      refine r_iast hC.1 hC.2.1 hw hk0 n3 dX6_write_13 (fun H locs hw => ?_)
      obtain ⟨M4, hw, hF⟩ := lt1W hF hw
      exact r_vretE hC hw hF dX6_write_14
abbrev rm_X6_isIn : Room := { frames := 0, cells := 0, slots := 0, locals := 0 }
theorem ys_X6_isIn : YS yX6_isIn cX6_isIn 2 (some .boolean) 2 := ⟨⟨q2_165, q1_1, q2_166⟩, by decide +kernel⟩
theorem dX6_isIn_0 : decode cX6_isIn 0 = .ok (.iload_n 0, 1) := by decide +kernel
theorem dX6_isIn_1 : decode cX6_isIn 1 = .ok (.iload_n 1, 1) := by decide +kernel
theorem dX6_isIn_2 : decode cX6_isIn 2 = .ok (.ishr, 1) := by decide +kernel
theorem dX6_isIn_3 : decode cX6_isIn 3 = .ok (.iconst 1, 1) := by decide +kernel
theorem dX6_isIn_4 : decode cX6_isIn 4 = .ok (.iand, 1) := by decide +kernel
theorem dX6_isIn_5 : decode cX6_isIn 5 = .ok (.iconst 1, 1) := by decide +kernel
theorem dX6_isIn_6 : decode cX6_isIn 6 = .ok (.if_icmp .ne 7, 3) := by decide +kernel
theorem dX6_isIn_9 : decode cX6_isIn 9 = .ok (.iconst 1, 1) := by decide +kernel
theorem dX6_isIn_10 : decode cX6_isIn 10 = .ok (.goto 4, 3) := by decide +kernel
theorem dX6_isIn_13 : decode cX6_isIn 13 = .ok (.iconst 0, 1) := by decide +kernel
theorem dX6_isIn_14 : decode cX6_isIn 14 = .ok (.ireturn, 1) := by decide +kernel
def F_X6_isIn (fu : Nat) (M : Mm) (x0 : Int32) (x1 : Int32) : Option Int32 :=
  if ((x0 >>> (x1 &&& 31)) &&& (1 : Int32)) = (1 : Int32) then
    some (1 : Int32)
  else
    some (0 : Int32)
set_option maxRecDepth 100000 in
set_option maxHeartbeats 4000000 in
theorem c_X6_isIn {l : Launch} {G : Gv} {fu : Nat} {M : Mm} {x0 : Int32} {x1 : Int32} {r : Int32} (hF : F_X6_isIn fu M x0 x1 = some r) : Met l yX6_isIn (.code yX6_isIn cX6_isIn 2 (some .boolean) :: zU) rm_X6_isIn (va_Pc [.int x0, .int x1] (Wd G M)) (QI G r M) 0 0 (zA G) := by
  refine zMet (by decide) rfl (Nat.le_of_ble_eq_true rfl) ?_
  intro p e s m below meth c hC hw ls hl
  have hl : lv_has ls 2 [(0, .int x0), (1, .int x1)] := hl
  unfold F_X6_isIn at hF
  refine lv_iload_n hC.1 hC.2.1 dX6_isIn_0 rfl (lv_at hl 0 rfl) ?_
  refine lv_iload_n hC.1 hC.2.1 dX6_isIn_1 rfl (lv_at hl 1 rfl) ?_
  refine lv_ishr hC.1 hC.2.1 dX6_isIn_2 ?_
  refine lv_iconst (v := (1 : Int32)) hC.1 hC.2.1 dX6_isIn_3 (by decide) ?_
  refine lv_iand hC.1 hC.2.1 dX6_isIn_4 ?_
  refine lv_iconst (v := (1 : Int32)) hC.1 hC.2.1 dX6_isIn_5 (by decide) ?_
  refine lv_icmp_ne (tgt := 13) hC.1 hC.2.1 dX6_isIn_6 (by decide) (fun b1 => ?_) (fun b1 => ?_)
  · have hF := ifN hF b1
    refine lv_iconst (v := (0 : Int32)) hC.1 hC.2.1 dX6_isIn_13 (by decide) ?_
    exact r_zretP hC hw (by decide) hF dX6_isIn_14
  · have hF := ifP hF b1
    refine lv_iconst (v := (1 : Int32)) hC.1 hC.2.1 dX6_isIn_9 (by decide) ?_
    refine lv_goto (tgt := 14) hC.1 hC.2.1 dX6_isIn_10 (by decide) ?_
    exact r_zretP hC hw (by decide) hF dX6_isIn_14
abbrev rm_X1_place : Room := { frames := 1, cells := 0, slots := 0, locals := 22 }
theorem yv_X1_place : YV yX1_place cX1_place 3 none 2 RX1 := ⟨⟨q3_221, qs_24, q1_4, q3_222⟩, by decide +kernel⟩
theorem dX1_place_0 : decode cX1_place 0 = .ok (.aload_n 0, 1) := by decide +kernel
theorem dX1_place_1 : decode cX1_place 1 = .ok (.getfield 9, 3) := by decide +kernel
theorem dX1_place_4 : decode cX1_place 4 = .ok (.iload_n 1, 1) := by decide +kernel
theorem dX1_place_5 : decode cX1_place 5 = .ok (.iload_n 2, 1) := by decide +kernel
theorem dX1_place_6 : decode cX1_place 6 = .ok (.invokestatic 32, 3) := by decide +kernel
theorem dX1_place_9 : decode cX1_place 9 = .ok (.aload_n 0, 1) := by decide +kernel
theorem dX1_place_10 : decode cX1_place 10 = .ok (.aload_n 0, 1) := by decide +kernel
theorem dX1_place_11 : decode cX1_place 11 = .ok (.getfield 15, 3) := by decide +kernel
theorem dX1_place_14 : decode cX1_place 14 = .ok (.iload_n 1, 1) := by decide +kernel
theorem dX1_place_15 : decode cX1_place 15 = .ok (.invokestatic 37, 3) := by decide +kernel
theorem dX1_place_18 : decode cX1_place 18 = .ok (.iload_n 2, 1) := by decide +kernel
theorem dX1_place_19 : decode cX1_place 19 = .ok (.invokestatic 53, 3) := by decide +kernel
theorem dX1_place_22 : decode cX1_place 22 = .ok (.ifCond .eq 14, 3) := by decide +kernel
theorem dX1_place_25 : decode cX1_place 25 = .ok (.aload_n 0, 1) := by decide +kernel
theorem dX1_place_26 : decode cX1_place 26 = .ok (.getfield 25, 3) := by decide +kernel
theorem dX1_place_29 : decode cX1_place 29 = .ok (.iconst 1, 1) := by decide +kernel
theorem dX1_place_30 : decode cX1_place 30 = .ok (.iload_n 1, 1) := by decide +kernel
theorem dX1_place_31 : decode cX1_place 31 = .ok (.ishl, 1) := by decide +kernel
theorem dX1_place_32 : decode cX1_place 32 = .ok (.ior, 1) := by decide +kernel
theorem dX1_place_33 : decode cX1_place 33 = .ok (.goto 13, 3) := by decide +kernel
theorem dX1_place_36 : decode cX1_place 36 = .ok (.aload_n 0, 1) := by decide +kernel
theorem dX1_place_37 : decode cX1_place 37 = .ok (.getfield 25, 3) := by decide +kernel
theorem dX1_place_40 : decode cX1_place 40 = .ok (.iconst 1, 1) := by decide +kernel
theorem dX1_place_41 : decode cX1_place 41 = .ok (.iload_n 1, 1) := by decide +kernel
theorem dX1_place_42 : decode cX1_place 42 = .ok (.ishl, 1) := by decide +kernel
theorem dX1_place_43 : decode cX1_place 43 = .ok (.iconst (-1), 1) := by decide +kernel
theorem dX1_place_44 : decode cX1_place 44 = .ok (.ixor, 1) := by decide +kernel
theorem dX1_place_45 : decode cX1_place 45 = .ok (.iand, 1) := by decide +kernel
theorem dX1_place_46 : decode cX1_place 46 = .ok (.putfield 25, 3) := by decide +kernel
theorem dX1_place_49 : decode cX1_place 49 = .ok (.return_, 1) := by decide +kernel
def F_X1_place (fu : Nat) (M : Mm) (x1 : Int32) (x2 : Int32) : Option Mm :=
  ob1 (F_X6_write fu M 75 x1 x2) (fun M2 =>
  ob1 (F_X6_read fu M2 76 x1) (fun r4 =>
  ob1 (F_X6_isIn fu M2 r4 x2) (fun r6 =>
  if r6 = 0 then
    lt1 (pI M2 74 1 ((M2.1 74 1) &&& (((1 : Int32) <<< (x1 &&& 31)) ^^^ (-1 : Int32)))) (fun M8 =>
    some M8)
  else
    lt1 (pI M2 74 1 ((M2.1 74 1) ||| ((1 : Int32) <<< (x1 &&& 31)))) (fun M9 =>
    some M9))))
set_option maxRecDepth 100000 in
set_option maxHeartbeats 4000000 in
theorem c_X1_place {l : Launch} {G : Gv} {fu : Nat} {M : Mm} {x1 : Int32} {x2 : Int32} {M' : Mm} (hF : F_X1_place fu M x1 x2 = some M') : Met l yX1_place (.code yX1_place cX1_place 3 none :: zU) rm_X1_place (va_Pc [.ref (ad G 74), .int x1, .int x2] (Wd G M)) (QV G M') 0 0 (zA G) := by
  refine zMet (by decide) rfl (Nat.le_of_ble_eq_true rfl) ?_
  intro p e s m below meth c hC hw ls hl
  have hl : lv_has ls 3 [(0, .ref (ad G 74)), (1, .int x1), (2, .int x2)] := hl
  unfold F_X1_place at hF
  refine lv_aload_n hC.1 hC.2.1 dX1_place_0 rfl (lv_at hl 0 rfl) ?_
  refine g1_shadeOf hC hw q1_132 dX1_place_1 ?_
  refine lv_iload_n hC.1 hC.2.1 dX1_place_4 rfl (lv_at hl 1 rfl) ?_
  refine lv_iload_n hC.1 hC.2.1 dX1_place_5 rfl (lv_at hl 2 rfl) ?_
  obtain ⟨M2, h1, hF⟩ := ob1S hF
  refine k_Nv (As := [.ref (ad G 75), .int x1, .int x2]) (rest := []) hC hw (c_X6_write (M := M) (rfl : kd 75 = 1) h1) ys_X6_write (k := 14) rfl ⟨rfl, rfl⟩ ⟨Nat.le_of_ble_eq_true rfl, Nat.le_of_ble_eq_true rfl⟩ ⟨Nat.zero_le _, Nat.zero_le _⟩ rfl rfl (Nat.le_of_ble_eq_true rfl) hl dX1_place_6 (fun H locs hw => ?_)
  refine lv_aload_n hC.1 hC.2.1 dX1_place_9 rfl (lv_at hl 0 rfl) ?_
  refine lv_aload_n hC.1 hC.2.1 dX1_place_10 rfl (lv_at hl 0 rfl) ?_
  refine g1_rightBy hC hw q1_133 dX1_place_11 ?_
  refine lv_iload_n hC.1 hC.2.1 dX1_place_14 rfl (lv_at hl 1 rfl) ?_
  obtain ⟨r4, h3, hF⟩ := ob1S hF
  refine k_Ni (As := [.ref (ad G 76), .int x1]) (rest := [.ref (ad G 74)]) hC hw (c_X6_read (M := M2) (rfl : kd 76 = 1) h3) ys_X6_read (k := 15) rfl ⟨rfl, rfl⟩ ⟨Nat.le_of_ble_eq_true rfl, Nat.le_of_ble_eq_true rfl⟩ ⟨Nat.zero_le _, Nat.zero_le _⟩ rfl rfl (Nat.le_of_ble_eq_true rfl) hl dX1_place_15 (fun H locs hw => ?_)
  refine lv_iload_n hC.1 hC.2.1 dX1_place_18 rfl (lv_at hl 2 rfl) ?_
  obtain ⟨r6, h5, hF⟩ := ob1S hF
  refine k_Ni (As := [.int r4, .int x2]) (rest := [.ref (ad G 74)]) hC hw (c_X6_isIn (M := M2) h5) ys_X6_isIn (k := 16) rfl ⟨rfl, rfl⟩ ⟨Nat.le_of_ble_eq_true rfl, Nat.le_of_ble_eq_true rfl⟩ ⟨Nat.zero_le _, Nat.zero_le _⟩ rfl rfl (Nat.le_of_ble_eq_true rfl) hl dX1_place_19 (fun H locs hw => ?_)
  refine lv_if_eq (tgt := 36) hC.1 hC.2.1 dX1_place_22 (by decide) (fun b7 => ?_) (fun b7 => ?_)
  · have hF := ifP hF b7
    refine lv_aload_n hC.1 hC.2.1 dX1_place_36 rfl (lv_at hl 0 rfl) ?_
    refine g1_voters hC hw q1_130 dX1_place_37 ?_
    refine lv_iconst (v := (1 : Int32)) hC.1 hC.2.1 dX1_place_40 (by decide) ?_
    refine lv_iload_n hC.1 hC.2.1 dX1_place_41 rfl (lv_at hl 1 rfl) ?_
    refine lv_ishl hC.1 hC.2.1 dX1_place_42 ?_
    refine lv_iconst (v := (-1 : Int32)) hC.1 hC.2.1 dX1_place_43 (by decide) ?_
    refine lv_ixor hC.1 hC.2.1 dX1_place_44 ?_
    refine lv_iand hC.1 hC.2.1 dX1_place_45 ?_
    refine u1_voters hC hw q1_130 dX1_place_46 (fun H locs hw => ?_)
    obtain ⟨M8, hw, hF⟩ := lt1W hF hw
    exact r_vretE hC hw hF dX1_place_49
  · have hF := ifN hF b7
    refine lv_aload_n hC.1 hC.2.1 dX1_place_25 rfl (lv_at hl 0 rfl) ?_
    refine g1_voters hC hw q1_130 dX1_place_26 ?_
    refine lv_iconst (v := (1 : Int32)) hC.1 hC.2.1 dX1_place_29 (by decide) ?_
    refine lv_iload_n hC.1 hC.2.1 dX1_place_30 rfl (lv_at hl 1 rfl) ?_
    refine lv_ishl hC.1 hC.2.1 dX1_place_31 ?_
    refine lv_ior hC.1 hC.2.1 dX1_place_32 ?_
    refine lv_goto (tgt := 46) hC.1 hC.2.1 dX1_place_33 (by decide) ?_
    refine u1_voters hC hw q1_130 dX1_place_46 (fun H locs hw => ?_)
    obtain ⟨M9, hw, hF⟩ := lt1W hF hw
    exact r_vretE hC hw hF dX1_place_49
abbrev rm_X2_votesOne : Room := { frames := 1, cells := 0, slots := 0, locals := 21 }
theorem yv_X2_votesOne : YV yX2_votesOne cX2_votesOne 5 (some .boolean) 3 RX2 := ⟨⟨q2_177, qs_11, q1_2, q2_178⟩, by decide +kernel⟩
theorem dX2_votesOne_0 : decode cX2_votesOne 0 = .ok (.aload_n 0, 1) := by decide +kernel
theorem dX2_votesOne_1 : decode cX2_votesOne 1 = .ok (.getfield 15, 3) := by decide +kernel
theorem dX2_votesOne_4 : decode cX2_votesOne 4 = .ok (.iload_n 1, 1) := by decide +kernel
theorem dX2_votesOne_5 : decode cX2_votesOne 5 = .ok (.invokestatic 81, 3) := by decide +kernel
theorem dX2_votesOne_8 : decode cX2_votesOne 8 = .ok (.istore 4, 2) := by decide +kernel
theorem dX2_votesOne_10 : decode cX2_votesOne 10 = .ok (.iload 4, 2) := by decide +kernel
theorem dX2_votesOne_12 : decode cX2_votesOne 12 = .ok (.iconst 3, 1) := by decide +kernel
theorem dX2_votesOne_13 : decode cX2_votesOne 13 = .ok (.if_icmp .ne 5, 3) := by decide +kernel
theorem dX2_votesOne_16 : decode cX2_votesOne 16 = .ok (.iconst 1, 1) := by decide +kernel
theorem dX2_votesOne_17 : decode cX2_votesOne 17 = .ok (.ireturn, 1) := by decide +kernel
theorem dX2_votesOne_18 : decode cX2_votesOne 18 = .ok (.iload 4, 2) := by decide +kernel
theorem dX2_votesOne_20 : decode cX2_votesOne 20 = .ok (.iconst 2, 1) := by decide +kernel
theorem dX2_votesOne_21 : decode cX2_votesOne 21 = .ok (.if_icmp .ne 25, 3) := by decide +kernel
theorem dX2_votesOne_24 : decode cX2_votesOne 24 = .ok (.iload_n 1, 1) := by decide +kernel
theorem dX2_votesOne_25 : decode cX2_votesOne 25 = .ok (.ifCond .le 21, 3) := by decide +kernel
theorem dX2_votesOne_28 : decode cX2_votesOne 28 = .ok (.iload_n 2, 1) := by decide +kernel
theorem dX2_votesOne_29 : decode cX2_votesOne 29 = .ok (.iload_n 1, 1) := by decide +kernel
theorem dX2_votesOne_30 : decode cX2_votesOne 30 = .ok (.iconst 1, 1) := by decide +kernel
theorem dX2_votesOne_31 : decode cX2_votesOne 31 = .ok (.isub, 1) := by decide +kernel
theorem dX2_votesOne_32 : decode cX2_votesOne 32 = .ok (.invokestatic 125, 3) := by decide +kernel
theorem dX2_votesOne_35 : decode cX2_votesOne 35 = .ok (.ifCond .eq 11, 3) := by decide +kernel
theorem dX2_votesOne_38 : decode cX2_votesOne 38 = .ok (.iload_n 3, 1) := by decide +kernel
theorem dX2_votesOne_39 : decode cX2_votesOne 39 = .ok (.iload_n 1, 1) := by decide +kernel
theorem dX2_votesOne_40 : decode cX2_votesOne 40 = .ok (.iconst 1, 1) := by decide +kernel
theorem dX2_votesOne_41 : decode cX2_votesOne 41 = .ok (.isub, 1) := by decide +kernel
theorem dX2_votesOne_42 : decode cX2_votesOne 42 = .ok (.invokestatic 125, 3) := by decide +kernel
theorem dX2_votesOne_45 : decode cX2_votesOne 45 = .ok (.ireturn, 1) := by decide +kernel
theorem dX2_votesOne_46 : decode cX2_votesOne 46 = .ok (.aload_n 0, 1) := by decide +kernel
theorem dX2_votesOne_47 : decode cX2_votesOne 47 = .ok (.getfield 18, 3) := by decide +kernel
theorem dX2_votesOne_50 : decode cX2_votesOne 50 = .ok (.iload_n 1, 1) := by decide +kernel
theorem dX2_votesOne_51 : decode cX2_votesOne 51 = .ok (.invokestatic 81, 3) := by decide +kernel
theorem dX2_votesOne_54 : decode cX2_votesOne 54 = .ok (.iconst 1, 1) := by decide +kernel
theorem dX2_votesOne_55 : decode cX2_votesOne 55 = .ok (.if_icmp .ne 7, 3) := by decide +kernel
theorem dX2_votesOne_58 : decode cX2_votesOne 58 = .ok (.iconst 1, 1) := by decide +kernel
theorem dX2_votesOne_59 : decode cX2_votesOne 59 = .ok (.goto 4, 3) := by decide +kernel
theorem dX2_votesOne_62 : decode cX2_votesOne 62 = .ok (.iconst 0, 1) := by decide +kernel
theorem dX2_votesOne_63 : decode cX2_votesOne 63 = .ok (.ireturn, 1) := by decide +kernel
def F_X2_votesOne_46 (fu : Nat) (M : Mm) (c0 : Nat) (x1 : Int32) : Option Int32 :=
  ob1 (F_X6_read fu M (c0 + 3) x1) (fun r2 =>
  if r2 = (1 : Int32) then
    some (1 : Int32)
  else
    some (0 : Int32))
set_option maxRecDepth 100000 in
set_option maxHeartbeats 4000000 in
theorem w_X2_votesOne_46 {p : Program} {l : Launch} {e : Env} {s : State} {m : MethodId} {args : Array Value} {below : List Frame} {meth : Method} {c : Code} {G : Gv} (hC : Cx p s m args meth c cX2_votesOne 5 (some .boolean) RX2) {fu : Nat} {r : Int32} {M : Mm} {c0 : Nat} {x1 : Int32} {H : Heap} {locs : List Loc} {ls : Array Slot} (hk0 : kd c0 = 11) (hF : F_X2_votesOne_46 fu M c0 x1 = some r) (hw : St G s H locs M) (hl : lv_has ls 5 [(0, .ref (ad G c0)), (1, .int x1)]) : W p l e rm_X2_votesOne s m args below meth c H locs 0 0 (MQ below (QI G r M) args s 0 0 (zA G)) (F0 m 46 ls []) := by
  unfold F_X2_votesOne_46 at hF
  refine lv_aload_n hC.1 hC.2.1 dX2_votesOne_46 rfl (lv_at hl 0 rfl) ?_
  refine g2_voteOf hC hw hk0 q1_42 dX2_votesOne_47 ?_
  refine lv_iload_n hC.1 hC.2.1 dX2_votesOne_50 rfl (lv_at hl 1 rfl) ?_
  obtain ⟨r2, h1, hF⟩ := ob1S hF
  refine k_Ni (As := [.ref (ad G (c0 + 3)), .int x1]) (rest := []) hC hw (c_X6_read (M := M) (kdN3 hk0) h1) ys_X6_read (k := 10) rfl ⟨rfl, rfl⟩ ⟨Nat.le_of_ble_eq_true rfl, Nat.le_of_ble_eq_true rfl⟩ ⟨Nat.zero_le _, Nat.zero_le _⟩ rfl rfl (Nat.le_of_ble_eq_true rfl) hl dX2_votesOne_51 (fun H locs hw => ?_)
  refine lv_iconst (v := (1 : Int32)) hC.1 hC.2.1 dX2_votesOne_54 (by decide) ?_
  refine lv_icmp_ne (tgt := 62) hC.1 hC.2.1 dX2_votesOne_55 (by decide) (fun b3 => ?_) (fun b3 => ?_)
  · have hF := ifN hF b3
    refine lv_iconst (v := (0 : Int32)) hC.1 hC.2.1 dX2_votesOne_62 (by decide) ?_
    exact r_zretP hC hw (by decide) hF dX2_votesOne_63
  · have hF := ifP hF b3
    refine lv_iconst (v := (1 : Int32)) hC.1 hC.2.1 dX2_votesOne_58 (by decide) ?_
    refine lv_goto (tgt := 63) hC.1 hC.2.1 dX2_votesOne_59 (by decide) ?_
    exact r_zretP hC hw (by decide) hF dX2_votesOne_63
def F_X2_votesOne (fu : Nat) (M : Mm) (c0 : Nat) (x1 : Int32) (x2 : Int32) (x3 : Int32) : Option Int32 :=
  ob1 (F_X6_read fu M (c0 + 2) x1) (fun r2 =>
  if r2 = (3 : Int32) then
    some (1 : Int32)
  else
    if r2 = (2 : Int32) then
      if x1 ≤ 0 then
        F_X2_votesOne_46 fu M c0 x1
      else
        ob1 (F_X6_isIn fu M x2 (x1 - (1 : Int32))) (fun r7 =>
        if r7 = 0 then
          F_X2_votesOne_46 fu M c0 x1
        else
          ob1 (F_X6_isIn fu M x3 (x1 - (1 : Int32))) (fun r10 =>
          if ¬ (r10 = 0 ∨ r10 = 1) then none else (
          some r10)))
    else
      F_X2_votesOne_46 fu M c0 x1)
set_option maxRecDepth 100000 in
set_option maxHeartbeats 4000000 in
theorem c_X2_votesOne {l : Launch} {G : Gv} {fu : Nat} {M : Mm} {c0 : Nat} {x1 : Int32} {x2 : Int32} {x3 : Int32} (hk0 : kd c0 = 11) {r : Int32} (hF : F_X2_votesOne fu M c0 x1 x2 x3 = some r) : Met l yX2_votesOne (.code yX2_votesOne cX2_votesOne 5 (some .boolean) :: zU) rm_X2_votesOne (va_Pc [.ref (ad G c0), .int x1, .int x2, .int x3] (Wd G M)) (QI G r M) 0 0 (zA G) := by
  refine zMet (by decide) rfl (Nat.le_of_ble_eq_true rfl) ?_
  intro p e s m below meth c hC hw ls hl
  have hl : lv_has ls 5 [(0, .ref (ad G c0)), (1, .int x1), (2, .int x2), (3, .int x3)] := hl
  unfold F_X2_votesOne at hF
  refine lv_aload_n hC.1 hC.2.1 dX2_votesOne_0 rfl (lv_at hl 0 rfl) ?_
  refine g2_kindOf hC hw hk0 q1_40 dX2_votesOne_1 ?_
  refine lv_iload_n hC.1 hC.2.1 dX2_votesOne_4 rfl (lv_at hl 1 rfl) ?_
  obtain ⟨r2, h1, hF⟩ := ob1S hF
  refine k_Ni (As := [.ref (ad G (c0 + 2)), .int x1]) (rest := []) hC hw (c_X6_read (M := M) (kdN2 hk0) h1) ys_X6_read (k := 10) rfl ⟨rfl, rfl⟩ ⟨Nat.le_of_ble_eq_true rfl, Nat.le_of_ble_eq_true rfl⟩ ⟨Nat.zero_le _, Nat.zero_le _⟩ rfl rfl (Nat.le_of_ble_eq_true rfl) hl dX2_votesOne_5 (fun H locs hw => ?_)
  refine lv_istore (lv' := [(4, .int r2), (0, .ref (ad G c0)), (1, .int x1), (2, .int x2), (3, .int x3)]) hC.1 hC.2.1 dX2_votesOne_8 hl (by decide) rfl (fun ls hl => ?_)
  refine lv_iload hC.1 hC.2.1 dX2_votesOne_10 (lv_at hl 0 rfl) ?_
  refine lv_iconst (v := (3 : Int32)) hC.1 hC.2.1 dX2_votesOne_12 (by decide) ?_
  refine lv_icmp_ne (tgt := 18) hC.1 hC.2.1 dX2_votesOne_13 (by decide) (fun b3 => ?_) (fun b3 => ?_)
  · have hF := ifN hF b3
    refine lv_iload hC.1 hC.2.1 dX2_votesOne_18 (lv_at hl 0 rfl) ?_
    refine lv_iconst (v := (2 : Int32)) hC.1 hC.2.1 dX2_votesOne_20 (by decide) ?_
    refine lv_icmp_ne (tgt := 46) hC.1 hC.2.1 dX2_votesOne_21 (by decide) (fun b4 => ?_) (fun b4 => ?_)
    · have hF := ifN hF b4
      exact w_X2_votesOne_46 hC hk0 hF hw (lv_sub hl [1, 2] rfl)
    · have hF := ifP hF b4
      refine lv_iload_n hC.1 hC.2.1 dX2_votesOne_24 rfl (lv_at hl 2 rfl) ?_
      refine lv_if_le (tgt := 46) hC.1 hC.2.1 dX2_votesOne_25 (by decide) (fun b5 => ?_) (fun b5 => ?_)
      · have hF := ifP hF b5
        exact w_X2_votesOne_46 hC hk0 hF hw (lv_sub hl [1, 2] rfl)
      · have hF := ifN hF b5
        refine lv_iload_n hC.1 hC.2.1 dX2_votesOne_28 rfl (lv_at hl 3 rfl) ?_
        refine lv_iload_n hC.1 hC.2.1 dX2_votesOne_29 rfl (lv_at hl 2 rfl) ?_
        refine lv_iconst (v := (1 : Int32)) hC.1 hC.2.1 dX2_votesOne_30 (by decide) ?_
        refine lv_isub hC.1 hC.2.1 dX2_votesOne_31 ?_
        obtain ⟨r7, h6, hF⟩ := ob1S hF
        refine k_Ni (As := [.int x2, .int (x1 - (1 : Int32))]) (rest := []) hC hw (c_X6_isIn (M := M) h6) ys_X6_isIn (k := 11) rfl ⟨rfl, rfl⟩ ⟨Nat.le_of_ble_eq_true rfl, Nat.le_of_ble_eq_true rfl⟩ ⟨Nat.zero_le _, Nat.zero_le _⟩ rfl rfl (Nat.le_of_ble_eq_true rfl) hl dX2_votesOne_32 (fun H locs hw => ?_)
        refine lv_if_eq (tgt := 46) hC.1 hC.2.1 dX2_votesOne_35 (by decide) (fun b8 => ?_) (fun b8 => ?_)
        · have hF := ifP hF b8
          exact w_X2_votesOne_46 hC hk0 hF hw (lv_sub hl [1, 2] rfl)
        · have hF := ifN hF b8
          refine lv_iload_n hC.1 hC.2.1 dX2_votesOne_38 rfl (lv_at hl 4 rfl) ?_
          refine lv_iload_n hC.1 hC.2.1 dX2_votesOne_39 rfl (lv_at hl 2 rfl) ?_
          refine lv_iconst (v := (1 : Int32)) hC.1 hC.2.1 dX2_votesOne_40 (by decide) ?_
          refine lv_isub hC.1 hC.2.1 dX2_votesOne_41 ?_
          obtain ⟨r10, h9, hF⟩ := ob1S hF
          refine k_Ni (As := [.int x3, .int (x1 - (1 : Int32))]) (rest := []) hC hw (c_X6_isIn (M := M) h9) ys_X6_isIn (k := 11) rfl ⟨rfl, rfl⟩ ⟨Nat.le_of_ble_eq_true rfl, Nat.le_of_ble_eq_true rfl⟩ ⟨Nat.zero_le _, Nat.zero_le _⟩ rfl rfl (Nat.le_of_ble_eq_true rfl) hl dX2_votesOne_42 (fun H locs hw => ?_)
          obtain ⟨z11, hF⟩ := ifO hF
          exact r_zretP hC hw (Decidable.not_not.mp z11) hF dX2_votesOne_45
  · have hF := ifP hF b3
    refine lv_iconst (v := (1 : Int32)) hC.1 hC.2.1 dX2_votesOne_16 (by decide) ?_
    exact r_zretP hC hw (by decide) hF dX2_votesOne_17
abbrev rm_X2_onesAmong : Room := { frames := 2, cells := 0, slots := 0, locals := 45 }
theorem yv_X2_onesAmong : YV yX2_onesAmong cX2_onesAmong 4 (some .int) 1 RX2 := ⟨⟨q2_172, q2_173, q1_2, q2_174⟩, by decide +kernel⟩
theorem dX2_onesAmong_0 : decode cX2_onesAmong 0 = .ok (.iconst 0, 1) := by decide +kernel
theorem dX2_onesAmong_1 : decode cX2_onesAmong 1 = .ok (.istore_n 2, 1) := by decide +kernel
theorem dX2_onesAmong_2 : decode cX2_onesAmong 2 = .ok (.iconst 0, 1) := by decide +kernel
theorem dX2_onesAmong_3 : decode cX2_onesAmong 3 = .ok (.istore_n 3, 1) := by decide +kernel
theorem dX2_onesAmong_4 : decode cX2_onesAmong 4 = .ok (.iload_n 3, 1) := by decide +kernel
theorem dX2_onesAmong_5 : decode cX2_onesAmong 5 = .ok (.aload_n 0, 1) := by decide +kernel
theorem dX2_onesAmong_6 : decode cX2_onesAmong 6 = .ok (.getfield 48, 3) := by decide +kernel
theorem dX2_onesAmong_9 : decode cX2_onesAmong 9 = .ok (.if_icmp .ge 33, 3) := by decide +kernel
theorem dX2_onesAmong_12 : decode cX2_onesAmong 12 = .ok (.iload_n 1, 1) := by decide +kernel
theorem dX2_onesAmong_13 : decode cX2_onesAmong 13 = .ok (.iload_n 3, 1) := by decide +kernel
theorem dX2_onesAmong_14 : decode cX2_onesAmong 14 = .ok (.invokestatic 125, 3) := by decide +kernel
theorem dX2_onesAmong_17 : decode cX2_onesAmong 17 = .ok (.ifCond .eq 19, 3) := by decide +kernel
theorem dX2_onesAmong_20 : decode cX2_onesAmong 20 = .ok (.aload_n 0, 1) := by decide +kernel
theorem dX2_onesAmong_21 : decode cX2_onesAmong 21 = .ok (.iload_n 3, 1) := by decide +kernel
theorem dX2_onesAmong_22 : decode cX2_onesAmong 22 = .ok (.iload_n 1, 1) := by decide +kernel
theorem dX2_onesAmong_23 : decode cX2_onesAmong 23 = .ok (.iload_n 2, 1) := by decide +kernel
theorem dX2_onesAmong_24 : decode cX2_onesAmong 24 = .ok (.invokevirtual 129, 3) := by decide +kernel
theorem dX2_onesAmong_27 : decode cX2_onesAmong 27 = .ok (.ifCond .eq 9, 3) := by decide +kernel
theorem dX2_onesAmong_30 : decode cX2_onesAmong 30 = .ok (.iload_n 2, 1) := by decide +kernel
theorem dX2_onesAmong_31 : decode cX2_onesAmong 31 = .ok (.iconst 1, 1) := by decide +kernel
theorem dX2_onesAmong_32 : decode cX2_onesAmong 32 = .ok (.iload_n 3, 1) := by decide +kernel
theorem dX2_onesAmong_33 : decode cX2_onesAmong 33 = .ok (.ishl, 1) := by decide +kernel
theorem dX2_onesAmong_34 : decode cX2_onesAmong 34 = .ok (.ior, 1) := by decide +kernel
theorem dX2_onesAmong_35 : decode cX2_onesAmong 35 = .ok (.istore_n 2, 1) := by decide +kernel
theorem dX2_onesAmong_36 : decode cX2_onesAmong 36 = .ok (.iinc 3 1, 3) := by decide +kernel
theorem dX2_onesAmong_39 : decode cX2_onesAmong 39 = .ok (.goto (-35), 3) := by decide +kernel
theorem dX2_onesAmong_42 : decode cX2_onesAmong 42 = .ok (.iload_n 2, 1) := by decide +kernel
theorem dX2_onesAmong_43 : decode cX2_onesAmong 43 = .ok (.ireturn, 1) := by decide +kernel
def F_X2_onesAmong_4 (fu : Nat) (M : Mm) : Nat → Nat → Int32 → Int32 → Int32 → Option Int32
  | 0, _, _, _, _ => none
  | n + 1, c0, x1, x2, x3 =>
    if (M.1 c0 0) ≤ x3 then
      some x2
    else
      ob1 (F_X6_isIn fu M x1 x3) (fun r3 =>
      if r3 = 0 then
        F_X2_onesAmong_4 fu M n c0 x1 x2 (x3 + (1 : Int32))
      else
        ob1 (F_X2_votesOne fu M c0 x3 x1 x2) (fun r6 =>
        if r6 = 0 then
          F_X2_onesAmong_4 fu M n c0 x1 x2 (x3 + (1 : Int32))
        else
          F_X2_onesAmong_4 fu M n c0 x1 (x2 ||| ((1 : Int32) <<< (x3 &&& 31))) (x3 + (1 : Int32))))
set_option maxRecDepth 100000 in
set_option maxHeartbeats 4000000 in
theorem w_X2_onesAmong_4 {p : Program} {l : Launch} {e : Env} {s : State} {m : MethodId} {args : Array Value} {below : List Frame} {meth : Method} {c : Code} {G : Gv} (hC : Cx p s m args meth c cX2_onesAmong 4 (some .int) RX2) {fu : Nat} {r : Int32} {M : Mm} : ∀ (n : Nat) {c0 : Nat} {x1 : Int32} {x2 : Int32} {x3 : Int32} {H : Heap} {locs : List Loc} {ls : Array Slot} (hk0 : kd c0 = 11), F_X2_onesAmong_4 fu M n c0 x1 x2 x3 = some r → St G s H locs M → lv_has ls 4 [(0, .ref (ad G c0)), (1, .int x1), (2, .int x2), (3, .int x3)] → W p l e rm_X2_onesAmong s m args below meth c H locs 0 0 (MQ below (QI G r M) args s 0 0 (zA G)) (F0 m 4 ls []) := by
  intro n
  induction n with
  | zero =>
    intro c0 x1 x2 x3 H locs ls hk0 hF hw hl
    cases hF
  | succ n ih =>
    intro c0 x1 x2 x3 H locs ls hk0 hF hw hl
    unfold F_X2_onesAmong_4 at hF
    refine lv_iload_n hC.1 hC.2.1 dX2_onesAmong_4 rfl (lv_at hl 3 rfl) ?_
    refine lv_aload_n hC.1 hC.2.1 dX2_onesAmong_5 rfl (lv_at hl 0 rfl) ?_
    refine g2_men hC hw hk0 q1_31 dX2_onesAmong_6 ?_
    refine lv_icmp_ge (tgt := 42) hC.1 hC.2.1 dX2_onesAmong_9 (by decide) (fun b1 => ?_) (fun b1 => ?_)
    · have hF := ifP hF b1
      refine lv_iload_n hC.1 hC.2.1 dX2_onesAmong_42 rfl (lv_at hl 2 rfl) ?_
      exact r_iretP hC hw hF dX2_onesAmong_43
    · have hF := ifN hF b1
      refine lv_iload_n hC.1 hC.2.1 dX2_onesAmong_12 rfl (lv_at hl 1 rfl) ?_
      refine lv_iload_n hC.1 hC.2.1 dX2_onesAmong_13 rfl (lv_at hl 3 rfl) ?_
      obtain ⟨r3, h2, hF⟩ := ob1S hF
      refine k_Ni (As := [.int x1, .int x3]) (rest := []) hC hw (c_X6_isIn (M := M) h2) ys_X6_isIn (k := 11) rfl ⟨rfl, rfl⟩ ⟨Nat.le_of_ble_eq_true rfl, Nat.le_of_ble_eq_true rfl⟩ ⟨Nat.zero_le _, Nat.zero_le _⟩ rfl rfl (Nat.le_of_ble_eq_true rfl) hl dX2_onesAmong_14 (fun H locs hw => ?_)
      refine lv_if_eq (tgt := 36) hC.1 hC.2.1 dX2_onesAmong_17 (by decide) (fun b4 => ?_) (fun b4 => ?_)
      · have hF := ifP hF b4
        refine lv_iinc (v := (x3 + (1 : Int32))) (lv' := [(3, .int (x3 + (1 : Int32))), (0, .ref (ad G c0)), (1, .int x1), (2, .int x2)]) hC.1 hC.2.1 dX2_onesAmong_36 hl (k := 3) rfl rfl (by decide) rfl (fun ls hl => ?_)
        refine lv_goto (tgt := 4) hC.1 hC.2.1 dX2_onesAmong_39 (by decide) ?_
        exact ih hk0 hF hw (lv_sub hl [1, 2, 3, 0] rfl)
      · have hF := ifN hF b4
        refine lv_aload_n hC.1 hC.2.1 dX2_onesAmong_20 rfl (lv_at hl 0 rfl) ?_
        refine lv_iload_n hC.1 hC.2.1 dX2_onesAmong_21 rfl (lv_at hl 3 rfl) ?_
        refine lv_iload_n hC.1 hC.2.1 dX2_onesAmong_22 rfl (lv_at hl 1 rfl) ?_
        refine lv_iload_n hC.1 hC.2.1 dX2_onesAmong_23 rfl (lv_at hl 2 rfl) ?_
        obtain ⟨r6, h5, hF⟩ := ob1S hF
        refine k_Vi (As := [.int x3, .int x1, .int x2]) (rest := []) hC hw (c_X2_votesOne (M := M) hk0 h5) (RC_N hk0) yv_X2_votesOne q2_175 ⟨rfl, rfl⟩ ⟨Nat.le_of_ble_eq_true rfl, Nat.le_of_ble_eq_true rfl⟩ ⟨Nat.zero_le _, Nat.zero_le _⟩ rfl rfl (Nat.le_of_ble_eq_true rfl) hl dX2_onesAmong_24 (fun H locs hw => ?_)
        refine lv_if_eq (tgt := 36) hC.1 hC.2.1 dX2_onesAmong_27 (by decide) (fun b7 => ?_) (fun b7 => ?_)
        · have hF := ifP hF b7
          refine lv_iinc (v := (x3 + (1 : Int32))) (lv' := [(3, .int (x3 + (1 : Int32))), (0, .ref (ad G c0)), (1, .int x1), (2, .int x2)]) hC.1 hC.2.1 dX2_onesAmong_36 hl (k := 3) rfl rfl (by decide) rfl (fun ls hl => ?_)
          refine lv_goto (tgt := 4) hC.1 hC.2.1 dX2_onesAmong_39 (by decide) ?_
          exact ih hk0 hF hw (lv_sub hl [1, 2, 3, 0] rfl)
        · have hF := ifN hF b7
          refine lv_iload_n hC.1 hC.2.1 dX2_onesAmong_30 rfl (lv_at hl 2 rfl) ?_
          refine lv_iconst (v := (1 : Int32)) hC.1 hC.2.1 dX2_onesAmong_31 (by decide) ?_
          refine lv_iload_n hC.1 hC.2.1 dX2_onesAmong_32 rfl (lv_at hl 3 rfl) ?_
          refine lv_ishl hC.1 hC.2.1 dX2_onesAmong_33 ?_
          refine lv_ior hC.1 hC.2.1 dX2_onesAmong_34 ?_
          refine lv_istore_n (lv' := [(2, .int (x2 ||| ((1 : Int32) <<< (x3 &&& 31)))), (0, .ref (ad G c0)), (1, .int x1), (3, .int x3)]) hC.1 hC.2.1 dX2_onesAmong_35 rfl hl (by decide) rfl (fun ls hl => ?_)
          refine lv_iinc (v := (x3 + (1 : Int32))) (lv' := [(3, .int (x3 + (1 : Int32))), (2, .int (x2 ||| ((1 : Int32) <<< (x3 &&& 31)))), (0, .ref (ad G c0)), (1, .int x1)]) hC.1 hC.2.1 dX2_onesAmong_36 hl (k := 3) rfl rfl (by decide) rfl (fun ls hl => ?_)
          refine lv_goto (tgt := 4) hC.1 hC.2.1 dX2_onesAmong_39 (by decide) ?_
          exact ih hk0 hF hw (lv_sub hl [2, 3, 1, 0] rfl)
def F_X2_onesAmong (fu : Nat) (M : Mm) (c0 : Nat) (x1 : Int32) : Option Int32 :=
  F_X2_onesAmong_4 fu M fu c0 x1 (0 : Int32) (0 : Int32)
set_option maxRecDepth 100000 in
set_option maxHeartbeats 4000000 in
theorem c_X2_onesAmong {l : Launch} {G : Gv} {fu : Nat} {M : Mm} {c0 : Nat} {x1 : Int32} (hk0 : kd c0 = 11) {r : Int32} (hF : F_X2_onesAmong fu M c0 x1 = some r) : Met l yX2_onesAmong (.code yX2_onesAmong cX2_onesAmong 4 (some .int) :: zU) rm_X2_onesAmong (va_Pc [.ref (ad G c0), .int x1] (Wd G M)) (QI G r M) 0 0 (zA G) := by
  refine zMet (by decide) rfl (Nat.le_of_ble_eq_true rfl) ?_
  intro p e s m below meth c hC hw ls hl
  have hl : lv_has ls 4 [(0, .ref (ad G c0)), (1, .int x1)] := hl
  unfold F_X2_onesAmong at hF
  refine lv_iconst (v := (0 : Int32)) hC.1 hC.2.1 dX2_onesAmong_0 (by decide) ?_
  refine lv_istore_n (lv' := [(2, .int (0 : Int32)), (0, .ref (ad G c0)), (1, .int x1)]) hC.1 hC.2.1 dX2_onesAmong_1 rfl hl (by decide) rfl (fun ls hl => ?_)
  refine lv_iconst (v := (0 : Int32)) hC.1 hC.2.1 dX2_onesAmong_2 (by decide) ?_
  refine lv_istore_n (lv' := [(3, .int (0 : Int32)), (2, .int (0 : Int32)), (0, .ref (ad G c0)), (1, .int x1)]) hC.1 hC.2.1 dX2_onesAmong_3 rfl hl (by decide) rfl (fun ls hl => ?_)
  exact w_X2_onesAmong_4 hC _ hk0 hF hw (lv_sub hl [2, 3, 1, 0] rfl)
abbrev rm_J6_bitCount_0f7a4 : Room := { frames := 0, cells := 0, slots := 0, locals := 0 }
theorem ys_J6_bitCount_0f7a4 : YS yJ6_bitCount_0f7a4 cJ6_bitCount_0f7a4 1 (some .int) 1 := ⟨⟨q3_12, q1_11, q3_13⟩, by decide +kernel⟩
theorem dJ6_bitCount_0f7a4_0 : decode cJ6_bitCount_0f7a4 0 = .ok (.iload_n 0, 1) := by decide +kernel
theorem dJ6_bitCount_0f7a4_1 : decode cJ6_bitCount_0f7a4 1 = .ok (.iload_n 0, 1) := by decide +kernel
theorem dJ6_bitCount_0f7a4_2 : decode cJ6_bitCount_0f7a4 2 = .ok (.iconst 1, 1) := by decide +kernel
theorem dJ6_bitCount_0f7a4_3 : decode cJ6_bitCount_0f7a4 3 = .ok (.iushr, 1) := by decide +kernel
theorem dJ6_bitCount_0f7a4_4 : decode cJ6_bitCount_0f7a4 4 = .ok (.ldc_w 265, 3) := by decide +kernel
theorem dJ6_bitCount_0f7a4_7 : decode cJ6_bitCount_0f7a4 7 = .ok (.iand, 1) := by decide +kernel
theorem dJ6_bitCount_0f7a4_8 : decode cJ6_bitCount_0f7a4 8 = .ok (.isub, 1) := by decide +kernel
theorem dJ6_bitCount_0f7a4_9 : decode cJ6_bitCount_0f7a4 9 = .ok (.istore_n 0, 1) := by decide +kernel
theorem dJ6_bitCount_0f7a4_10 : decode cJ6_bitCount_0f7a4 10 = .ok (.iload_n 0, 1) := by decide +kernel
theorem dJ6_bitCount_0f7a4_11 : decode cJ6_bitCount_0f7a4 11 = .ok (.ldc_w 266, 3) := by decide +kernel
theorem dJ6_bitCount_0f7a4_14 : decode cJ6_bitCount_0f7a4 14 = .ok (.iand, 1) := by decide +kernel
theorem dJ6_bitCount_0f7a4_15 : decode cJ6_bitCount_0f7a4 15 = .ok (.iload_n 0, 1) := by decide +kernel
theorem dJ6_bitCount_0f7a4_16 : decode cJ6_bitCount_0f7a4 16 = .ok (.iconst 2, 1) := by decide +kernel
theorem dJ6_bitCount_0f7a4_17 : decode cJ6_bitCount_0f7a4 17 = .ok (.iushr, 1) := by decide +kernel
theorem dJ6_bitCount_0f7a4_18 : decode cJ6_bitCount_0f7a4 18 = .ok (.ldc_w 266, 3) := by decide +kernel
theorem dJ6_bitCount_0f7a4_21 : decode cJ6_bitCount_0f7a4 21 = .ok (.iand, 1) := by decide +kernel
theorem dJ6_bitCount_0f7a4_22 : decode cJ6_bitCount_0f7a4 22 = .ok (.iadd, 1) := by decide +kernel
theorem dJ6_bitCount_0f7a4_23 : decode cJ6_bitCount_0f7a4 23 = .ok (.istore_n 0, 1) := by decide +kernel
theorem dJ6_bitCount_0f7a4_24 : decode cJ6_bitCount_0f7a4 24 = .ok (.iload_n 0, 1) := by decide +kernel
theorem dJ6_bitCount_0f7a4_25 : decode cJ6_bitCount_0f7a4 25 = .ok (.iload_n 0, 1) := by decide +kernel
theorem dJ6_bitCount_0f7a4_26 : decode cJ6_bitCount_0f7a4 26 = .ok (.iconst 4, 1) := by decide +kernel
theorem dJ6_bitCount_0f7a4_27 : decode cJ6_bitCount_0f7a4 27 = .ok (.iushr, 1) := by decide +kernel
theorem dJ6_bitCount_0f7a4_28 : decode cJ6_bitCount_0f7a4 28 = .ok (.iadd, 1) := by decide +kernel
theorem dJ6_bitCount_0f7a4_29 : decode cJ6_bitCount_0f7a4 29 = .ok (.ldc_w 267, 3) := by decide +kernel
theorem dJ6_bitCount_0f7a4_32 : decode cJ6_bitCount_0f7a4 32 = .ok (.iand, 1) := by decide +kernel
theorem dJ6_bitCount_0f7a4_33 : decode cJ6_bitCount_0f7a4 33 = .ok (.istore_n 0, 1) := by decide +kernel
theorem dJ6_bitCount_0f7a4_34 : decode cJ6_bitCount_0f7a4 34 = .ok (.iload_n 0, 1) := by decide +kernel
theorem dJ6_bitCount_0f7a4_35 : decode cJ6_bitCount_0f7a4 35 = .ok (.iload_n 0, 1) := by decide +kernel
theorem dJ6_bitCount_0f7a4_36 : decode cJ6_bitCount_0f7a4 36 = .ok (.bipush 8, 2) := by decide +kernel
theorem dJ6_bitCount_0f7a4_38 : decode cJ6_bitCount_0f7a4 38 = .ok (.iushr, 1) := by decide +kernel
theorem dJ6_bitCount_0f7a4_39 : decode cJ6_bitCount_0f7a4 39 = .ok (.iadd, 1) := by decide +kernel
theorem dJ6_bitCount_0f7a4_40 : decode cJ6_bitCount_0f7a4 40 = .ok (.istore_n 0, 1) := by decide +kernel
theorem dJ6_bitCount_0f7a4_41 : decode cJ6_bitCount_0f7a4 41 = .ok (.iload_n 0, 1) := by decide +kernel
theorem dJ6_bitCount_0f7a4_42 : decode cJ6_bitCount_0f7a4 42 = .ok (.iload_n 0, 1) := by decide +kernel
theorem dJ6_bitCount_0f7a4_43 : decode cJ6_bitCount_0f7a4 43 = .ok (.bipush 16, 2) := by decide +kernel
theorem dJ6_bitCount_0f7a4_45 : decode cJ6_bitCount_0f7a4 45 = .ok (.iushr, 1) := by decide +kernel
theorem dJ6_bitCount_0f7a4_46 : decode cJ6_bitCount_0f7a4 46 = .ok (.iadd, 1) := by decide +kernel
theorem dJ6_bitCount_0f7a4_47 : decode cJ6_bitCount_0f7a4 47 = .ok (.istore_n 0, 1) := by decide +kernel
theorem dJ6_bitCount_0f7a4_48 : decode cJ6_bitCount_0f7a4 48 = .ok (.iload_n 0, 1) := by decide +kernel
theorem dJ6_bitCount_0f7a4_49 : decode cJ6_bitCount_0f7a4 49 = .ok (.bipush 63, 2) := by decide +kernel
theorem dJ6_bitCount_0f7a4_51 : decode cJ6_bitCount_0f7a4 51 = .ok (.iand, 1) := by decide +kernel
theorem dJ6_bitCount_0f7a4_52 : decode cJ6_bitCount_0f7a4 52 = .ok (.ireturn, 1) := by decide +kernel
def F_J6_bitCount_0f7a4 (fu : Nat) (M : Mm) (x0 : Int32) : Option Int32 :=
  lt1 (x0 - ((x0.toUInt32 >>> ((1 : Int32).toUInt32 &&& Int32.toUInt32 31)).toInt32 &&& (1431655765 : Int32))) (fun y1 =>
  lt1 ((y1 &&& (858993459 : Int32)) + ((y1.toUInt32 >>> ((2 : Int32).toUInt32 &&& Int32.toUInt32 31)).toInt32 &&& (858993459 : Int32))) (fun y2 =>
  lt1 ((y2 + (y2.toUInt32 >>> ((4 : Int32).toUInt32 &&& Int32.toUInt32 31)).toInt32) &&& (252645135 : Int32)) (fun y3 =>
  lt1 (y3 + (y3.toUInt32 >>> ((8 : Int32).toUInt32 &&& Int32.toUInt32 31)).toInt32) (fun y4 =>
  lt1 (y4 + (y4.toUInt32 >>> ((16 : Int32).toUInt32 &&& Int32.toUInt32 31)).toInt32) (fun y5 =>
  some (y5 &&& (63 : Int32)))))))
set_option maxRecDepth 100000 in
set_option maxHeartbeats 4000000 in
theorem c_J6_bitCount_0f7a4 {l : Launch} {G : Gv} {fu : Nat} {M : Mm} {x0 : Int32} {r : Int32} (hF : F_J6_bitCount_0f7a4 fu M x0 = some r) : Met l yJ6_bitCount_0f7a4 (.code yJ6_bitCount_0f7a4 cJ6_bitCount_0f7a4 1 (some .int) :: zU) rm_J6_bitCount_0f7a4 (va_Pc [.int x0] (Wd G M)) (QI G r M) 0 0 (zA G) := by
  refine zMet (by decide) rfl (Nat.le_of_ble_eq_true rfl) ?_
  intro p e s m below meth c hC hw ls hl
  have hl : lv_has ls 1 [(0, .int x0)] := hl
  unfold F_J6_bitCount_0f7a4 at hF
  refine lv_iload_n hC.1 hC.2.1 dJ6_bitCount_0f7a4_0 rfl (lv_at hl 0 rfl) ?_
  refine lv_iload_n hC.1 hC.2.1 dJ6_bitCount_0f7a4_1 rfl (lv_at hl 0 rfl) ?_
  refine lv_iconst (v := (1 : Int32)) hC.1 hC.2.1 dJ6_bitCount_0f7a4_2 (by decide) ?_
  refine lv_iushr hC.1 hC.2.1 dJ6_bitCount_0f7a4_3 rfl ?_
  refine lv_ldcw (v := (1431655765 : Int32)) hC.1 hC.2.1 hC.2.2.2.1 (hC.2.2.2.2.1 _ q3_14) dJ6_bitCount_0f7a4_4 ?_
  refine lv_iand hC.1 hC.2.1 dJ6_bitCount_0f7a4_7 ?_
  refine lv_isub hC.1 hC.2.1 dJ6_bitCount_0f7a4_8 ?_
  refine lv_topi (fun y1 ey1 => ?_)
  have hF := lt1G hF ey1
  refine lv_istore_n (lv' := [(0, .int y1)]) hC.1 hC.2.1 dJ6_bitCount_0f7a4_9 rfl hl (by decide) rfl (fun ls hl => ?_)
  refine lv_iload_n hC.1 hC.2.1 dJ6_bitCount_0f7a4_10 rfl (lv_at hl 0 rfl) ?_
  refine lv_ldcw (v := (858993459 : Int32)) hC.1 hC.2.1 hC.2.2.2.1 (hC.2.2.2.2.1 _ q3_15) dJ6_bitCount_0f7a4_11 ?_
  refine lv_iand hC.1 hC.2.1 dJ6_bitCount_0f7a4_14 ?_
  refine lv_iload_n hC.1 hC.2.1 dJ6_bitCount_0f7a4_15 rfl (lv_at hl 0 rfl) ?_
  refine lv_iconst (v := (2 : Int32)) hC.1 hC.2.1 dJ6_bitCount_0f7a4_16 (by decide) ?_
  refine lv_iushr hC.1 hC.2.1 dJ6_bitCount_0f7a4_17 rfl ?_
  refine lv_ldcw (v := (858993459 : Int32)) hC.1 hC.2.1 hC.2.2.2.1 (hC.2.2.2.2.1 _ q3_15) dJ6_bitCount_0f7a4_18 ?_
  refine lv_iand hC.1 hC.2.1 dJ6_bitCount_0f7a4_21 ?_
  refine lv_iadd hC.1 hC.2.1 dJ6_bitCount_0f7a4_22 ?_
  refine lv_topi (fun y2 ey2 => ?_)
  have hF := lt1G hF ey2
  refine lv_istore_n (lv' := [(0, .int y2)]) hC.1 hC.2.1 dJ6_bitCount_0f7a4_23 rfl hl (by decide) rfl (fun ls hl => ?_)
  refine lv_iload_n hC.1 hC.2.1 dJ6_bitCount_0f7a4_24 rfl (lv_at hl 0 rfl) ?_
  refine lv_iload_n hC.1 hC.2.1 dJ6_bitCount_0f7a4_25 rfl (lv_at hl 0 rfl) ?_
  refine lv_iconst (v := (4 : Int32)) hC.1 hC.2.1 dJ6_bitCount_0f7a4_26 (by decide) ?_
  refine lv_iushr hC.1 hC.2.1 dJ6_bitCount_0f7a4_27 rfl ?_
  refine lv_iadd hC.1 hC.2.1 dJ6_bitCount_0f7a4_28 ?_
  refine lv_ldcw (v := (252645135 : Int32)) hC.1 hC.2.1 hC.2.2.2.1 (hC.2.2.2.2.1 _ q3_16) dJ6_bitCount_0f7a4_29 ?_
  refine lv_iand hC.1 hC.2.1 dJ6_bitCount_0f7a4_32 ?_
  refine lv_topi (fun y3 ey3 => ?_)
  have hF := lt1G hF ey3
  refine lv_istore_n (lv' := [(0, .int y3)]) hC.1 hC.2.1 dJ6_bitCount_0f7a4_33 rfl hl (by decide) rfl (fun ls hl => ?_)
  refine lv_iload_n hC.1 hC.2.1 dJ6_bitCount_0f7a4_34 rfl (lv_at hl 0 rfl) ?_
  refine lv_iload_n hC.1 hC.2.1 dJ6_bitCount_0f7a4_35 rfl (lv_at hl 0 rfl) ?_
  refine lv_bipush (v := (8 : Int32)) hC.1 hC.2.1 dJ6_bitCount_0f7a4_36 (by decide) ?_
  refine lv_iushr hC.1 hC.2.1 dJ6_bitCount_0f7a4_38 rfl ?_
  refine lv_iadd hC.1 hC.2.1 dJ6_bitCount_0f7a4_39 ?_
  refine lv_topi (fun y4 ey4 => ?_)
  have hF := lt1G hF ey4
  refine lv_istore_n (lv' := [(0, .int y4)]) hC.1 hC.2.1 dJ6_bitCount_0f7a4_40 rfl hl (by decide) rfl (fun ls hl => ?_)
  refine lv_iload_n hC.1 hC.2.1 dJ6_bitCount_0f7a4_41 rfl (lv_at hl 0 rfl) ?_
  refine lv_iload_n hC.1 hC.2.1 dJ6_bitCount_0f7a4_42 rfl (lv_at hl 0 rfl) ?_
  refine lv_bipush (v := (16 : Int32)) hC.1 hC.2.1 dJ6_bitCount_0f7a4_43 (by decide) ?_
  refine lv_iushr hC.1 hC.2.1 dJ6_bitCount_0f7a4_45 rfl ?_
  refine lv_iadd hC.1 hC.2.1 dJ6_bitCount_0f7a4_46 ?_
  refine lv_topi (fun y5 ey5 => ?_)
  have hF := lt1G hF ey5
  refine lv_istore_n (lv' := [(0, .int y5)]) hC.1 hC.2.1 dJ6_bitCount_0f7a4_47 rfl hl (by decide) rfl (fun ls hl => ?_)
  refine lv_iload_n hC.1 hC.2.1 dJ6_bitCount_0f7a4_48 rfl (lv_at hl 0 rfl) ?_
  refine lv_bipush (v := (63 : Int32)) hC.1 hC.2.1 dJ6_bitCount_0f7a4_49 (by decide) ?_
  refine lv_iand hC.1 hC.2.1 dJ6_bitCount_0f7a4_51 ?_
  exact r_iretP hC hw hF dJ6_bitCount_0f7a4_52
abbrev rm_X2_isCarriedBy : Room := { frames := 3, cells := 0, slots := 0, locals := 68 }
theorem yv_X2_isCarriedBy : YV yX2_isCarriedBy cX2_isCarriedBy 2 (some .boolean) 1 RX2 := ⟨⟨q3_94, q3_95, q1_2, q3_96⟩, by decide +kernel⟩
theorem dX2_isCarriedBy_0 : decode cX2_isCarriedBy 0 = .ok (.iconst 2, 1) := by decide +kernel
theorem dX2_isCarriedBy_1 : decode cX2_isCarriedBy 1 = .ok (.aload_n 0, 1) := by decide +kernel
theorem dX2_isCarriedBy_2 : decode cX2_isCarriedBy 2 = .ok (.iload_n 1, 1) := by decide +kernel
theorem dX2_isCarriedBy_3 : decode cX2_isCarriedBy 3 = .ok (.invokevirtual 132, 3) := by decide +kernel
theorem dX2_isCarriedBy_6 : decode cX2_isCarriedBy 6 = .ok (.invokestatic 135, 3) := by decide +kernel
theorem dX2_isCarriedBy_9 : decode cX2_isCarriedBy 9 = .ok (.imul, 1) := by decide +kernel
theorem dX2_isCarriedBy_10 : decode cX2_isCarriedBy 10 = .ok (.iload_n 1, 1) := by decide +kernel
theorem dX2_isCarriedBy_11 : decode cX2_isCarriedBy 11 = .ok (.invokestatic 135, 3) := by decide +kernel
theorem dX2_isCarriedBy_14 : decode cX2_isCarriedBy 14 = .ok (.if_icmp .le 7, 3) := by decide +kernel
theorem dX2_isCarriedBy_17 : decode cX2_isCarriedBy 17 = .ok (.iconst 1, 1) := by decide +kernel
theorem dX2_isCarriedBy_18 : decode cX2_isCarriedBy 18 = .ok (.goto 4, 3) := by decide +kernel
theorem dX2_isCarriedBy_21 : decode cX2_isCarriedBy 21 = .ok (.iconst 0, 1) := by decide +kernel
theorem dX2_isCarriedBy_22 : decode cX2_isCarriedBy 22 = .ok (.ireturn, 1) := by decide +kernel
def F_X2_isCarriedBy (fu : Nat) (M : Mm) (c0 : Nat) (x1 : Int32) : Option Int32 :=
  ob1 (F_X2_onesAmong fu M c0 x1) (fun r2 =>
  ob1 (F_J6_bitCount_0f7a4 fu M r2) (fun r4 =>
  ob1 (F_J6_bitCount_0f7a4 fu M x1) (fun r6 =>
  if ((2 : Int32) * r4) ≤ r6 then
    some (0 : Int32)
  else
    some (1 : Int32))))
set_option maxRecDepth 100000 in
set_option maxHeartbeats 4000000 in
theorem c_X2_isCarriedBy {l : Launch} {G : Gv} {fu : Nat} {M : Mm} {c0 : Nat} {x1 : Int32} (hk0 : kd c0 = 11) {r : Int32} (hF : F_X2_isCarriedBy fu M c0 x1 = some r) : Met l yX2_isCarriedBy (.code yX2_isCarriedBy cX2_isCarriedBy 2 (some .boolean) :: zU) rm_X2_isCarriedBy (va_Pc [.ref (ad G c0), .int x1] (Wd G M)) (QI G r M) 0 0 (zA G) := by
  refine zMet (by decide) rfl (Nat.le_of_ble_eq_true rfl) ?_
  intro p e s m below meth c hC hw ls hl
  have hl : lv_has ls 2 [(0, .ref (ad G c0)), (1, .int x1)] := hl
  unfold F_X2_isCarriedBy at hF
  refine lv_iconst (v := (2 : Int32)) hC.1 hC.2.1 dX2_isCarriedBy_0 (by decide) ?_
  refine lv_aload_n hC.1 hC.2.1 dX2_isCarriedBy_1 rfl (lv_at hl 0 rfl) ?_
  refine lv_iload_n hC.1 hC.2.1 dX2_isCarriedBy_2 rfl (lv_at hl 1 rfl) ?_
  obtain ⟨r2, h1, hF⟩ := ob1S hF
  refine k_Vi (As := [.int x1]) (rest := [.int (2 : Int32)]) hC hw (c_X2_onesAmong (M := M) hk0 h1) (RC_N hk0) yv_X2_onesAmong q2_171 ⟨rfl, rfl⟩ ⟨Nat.le_of_ble_eq_true rfl, Nat.le_of_ble_eq_true rfl⟩ ⟨Nat.zero_le _, Nat.zero_le _⟩ rfl rfl (Nat.le_of_ble_eq_true rfl) hl dX2_isCarriedBy_3 (fun H locs hw => ?_)
  obtain ⟨r4, h3, hF⟩ := ob1S hF
  refine k_Si (As := [.int r2]) (rest := [.int (2 : Int32)]) hC hw (c_J6_bitCount_0f7a4 (M := M) h3) ys_J6_bitCount_0f7a4 q3_97 ⟨rfl, rfl⟩ ⟨Nat.le_of_ble_eq_true rfl, Nat.le_of_ble_eq_true rfl⟩ ⟨Nat.zero_le _, Nat.zero_le _⟩ rfl rfl (Nat.le_of_ble_eq_true rfl) hl dX2_isCarriedBy_6 (fun H locs hw => ?_)
  refine lv_imul hC.1 hC.2.1 dX2_isCarriedBy_9 ?_
  refine lv_iload_n hC.1 hC.2.1 dX2_isCarriedBy_10 rfl (lv_at hl 1 rfl) ?_
  obtain ⟨r6, h5, hF⟩ := ob1S hF
  refine k_Si (As := [.int x1]) (rest := [.int ((2 : Int32) * r4)]) hC hw (c_J6_bitCount_0f7a4 (M := M) h5) ys_J6_bitCount_0f7a4 q3_97 ⟨rfl, rfl⟩ ⟨Nat.le_of_ble_eq_true rfl, Nat.le_of_ble_eq_true rfl⟩ ⟨Nat.zero_le _, Nat.zero_le _⟩ rfl rfl (Nat.le_of_ble_eq_true rfl) hl dX2_isCarriedBy_11 (fun H locs hw => ?_)
  refine lv_icmp_le (tgt := 21) hC.1 hC.2.1 dX2_isCarriedBy_14 (by decide) (fun b7 => ?_) (fun b7 => ?_)
  · have hF := ifP hF b7
    refine lv_iconst (v := (0 : Int32)) hC.1 hC.2.1 dX2_isCarriedBy_21 (by decide) ?_
    exact r_zretP hC hw (by decide) hF dX2_isCarriedBy_22
  · have hF := ifN hF b7
    refine lv_iconst (v := (1 : Int32)) hC.1 hC.2.1 dX2_isCarriedBy_17 (by decide) ?_
    refine lv_goto (tgt := 22) hC.1 hC.2.1 dX2_isCarriedBy_18 (by decide) ?_
    exact r_zretP hC hw (by decide) hF dX2_isCarriedBy_22
abbrev rm_X1_prepare : Room := { frames := 5, cells := 0, slots := 0, locals := 125 }
theorem yv_X1_prepare : YV yX1_prepare cX1_prepare 5 none 1 RX1 := ⟨⟨q3_213, q3_214, q1_4, q3_215⟩, by decide +kernel⟩
theorem dX1_prepare_0 : decode cX1_prepare 0 = .ok (.aload_n 0, 1) := by decide +kernel
theorem dX1_prepare_1 : decode cX1_prepare 1 = .ok (.aload_n 1, 1) := by decide +kernel
theorem dX1_prepare_2 : decode cX1_prepare 2 = .ok (.getfield 18, 3) := by decide +kernel
theorem dX1_prepare_5 : decode cX1_prepare 5 = .ok (.putfield 24, 3) := by decide +kernel
theorem dX1_prepare_8 : decode cX1_prepare 8 = .ok (.aload_n 0, 1) := by decide +kernel
theorem dX1_prepare_9 : decode cX1_prepare 9 = .ok (.iconst 0, 1) := by decide +kernel
theorem dX1_prepare_10 : decode cX1_prepare 10 = .ok (.putfield 25, 3) := by decide +kernel
theorem dX1_prepare_13 : decode cX1_prepare 13 = .ok (.iconst 0, 1) := by decide +kernel
theorem dX1_prepare_14 : decode cX1_prepare 14 = .ok (.istore_n 2, 1) := by decide +kernel
theorem dX1_prepare_15 : decode cX1_prepare 15 = .ok (.iload_n 2, 1) := by decide +kernel
theorem dX1_prepare_16 : decode cX1_prepare 16 = .ok (.aload_n 0, 1) := by decide +kernel
theorem dX1_prepare_17 : decode cX1_prepare 17 = .ok (.getfield 24, 3) := by decide +kernel
theorem dX1_prepare_20 : decode cX1_prepare 20 = .ok (.if_icmp .ge 67, 3) := by decide +kernel
theorem dX1_prepare_23 : decode cX1_prepare 23 = .ok (.iconst 0, 1) := by decide +kernel
theorem dX1_prepare_24 : decode cX1_prepare 24 = .ok (.istore_n 3, 1) := by decide +kernel
theorem dX1_prepare_25 : decode cX1_prepare 25 = .ok (.iconst 0, 1) := by decide +kernel
theorem dX1_prepare_26 : decode cX1_prepare 26 = .ok (.istore 4, 2) := by decide +kernel
theorem dX1_prepare_28 : decode cX1_prepare 28 = .ok (.iload 4, 2) := by decide +kernel
theorem dX1_prepare_30 : decode cX1_prepare 30 = .ok (.bipush 9, 2) := by decide +kernel
theorem dX1_prepare_32 : decode cX1_prepare 32 = .ok (.if_icmp .gt 27, 3) := by decide +kernel
theorem dX1_prepare_35 : decode cX1_prepare 35 = .ok (.aload_n 1, 1) := by decide +kernel
theorem dX1_prepare_36 : decode cX1_prepare 36 = .ok (.iload_n 2, 1) := by decide +kernel
theorem dX1_prepare_37 : decode cX1_prepare 37 = .ok (.iload 4, 2) := by decide +kernel
theorem dX1_prepare_39 : decode cX1_prepare 39 = .ok (.iconst 3, 1) := by decide +kernel
theorem dX1_prepare_40 : decode cX1_prepare 40 = .ok (.invokevirtual 28, 3) := by decide +kernel
theorem dX1_prepare_43 : decode cX1_prepare 43 = .ok (.ifCond .eq 10, 3) := by decide +kernel
theorem dX1_prepare_46 : decode cX1_prepare 46 = .ok (.iload_n 3, 1) := by decide +kernel
theorem dX1_prepare_47 : decode cX1_prepare 47 = .ok (.iconst 1, 1) := by decide +kernel
theorem dX1_prepare_48 : decode cX1_prepare 48 = .ok (.iload 4, 2) := by decide +kernel
theorem dX1_prepare_50 : decode cX1_prepare 50 = .ok (.ishl, 1) := by decide +kernel
theorem dX1_prepare_51 : decode cX1_prepare 51 = .ok (.ior, 1) := by decide +kernel
theorem dX1_prepare_52 : decode cX1_prepare 52 = .ok (.istore_n 3, 1) := by decide +kernel
theorem dX1_prepare_53 : decode cX1_prepare 53 = .ok (.iinc 4 1, 3) := by decide +kernel
theorem dX1_prepare_56 : decode cX1_prepare 56 = .ok (.goto (-28), 3) := by decide +kernel
theorem dX1_prepare_59 : decode cX1_prepare 59 = .ok (.aload_n 0, 1) := by decide +kernel
theorem dX1_prepare_60 : decode cX1_prepare 60 = .ok (.getfield 15, 3) := by decide +kernel
theorem dX1_prepare_63 : decode cX1_prepare 63 = .ok (.iload_n 2, 1) := by decide +kernel
theorem dX1_prepare_64 : decode cX1_prepare 64 = .ok (.iload_n 3, 1) := by decide +kernel
theorem dX1_prepare_65 : decode cX1_prepare 65 = .ok (.invokestatic 32, 3) := by decide +kernel
theorem dX1_prepare_68 : decode cX1_prepare 68 = .ok (.aload_n 0, 1) := by decide +kernel
theorem dX1_prepare_69 : decode cX1_prepare 69 = .ok (.iload_n 2, 1) := by decide +kernel
theorem dX1_prepare_70 : decode cX1_prepare 70 = .ok (.aload_n 1, 1) := by decide +kernel
theorem dX1_prepare_71 : decode cX1_prepare 71 = .ok (.getfield 36, 3) := by decide +kernel
theorem dX1_prepare_74 : decode cX1_prepare 74 = .ok (.iload_n 2, 1) := by decide +kernel
theorem dX1_prepare_75 : decode cX1_prepare 75 = .ok (.invokestatic 37, 3) := by decide +kernel
theorem dX1_prepare_78 : decode cX1_prepare 78 = .ok (.invokevirtual 41, 3) := by decide +kernel
theorem dX1_prepare_81 : decode cX1_prepare 81 = .ok (.iinc 2 1, 3) := by decide +kernel
theorem dX1_prepare_84 : decode cX1_prepare 84 = .ok (.goto (-69), 3) := by decide +kernel
theorem dX1_prepare_87 : decode cX1_prepare 87 = .ok (.aload_n 0, 1) := by decide +kernel
theorem dX1_prepare_88 : decode cX1_prepare 88 = .ok (.lconst 0, 1) := by decide +kernel
theorem dX1_prepare_89 : decode cX1_prepare 89 = .ok (.putfield 45, 3) := by decide +kernel
theorem dX1_prepare_92 : decode cX1_prepare 92 = .ok (.iconst 0, 1) := by decide +kernel
theorem dX1_prepare_93 : decode cX1_prepare 93 = .ok (.istore_n 2, 1) := by decide +kernel
theorem dX1_prepare_94 : decode cX1_prepare 94 = .ok (.iload_n 2, 1) := by decide +kernel
theorem dX1_prepare_95 : decode cX1_prepare 95 = .ok (.iconst 1, 1) := by decide +kernel
theorem dX1_prepare_96 : decode cX1_prepare 96 = .ok (.aload_n 0, 1) := by decide +kernel
theorem dX1_prepare_97 : decode cX1_prepare 97 = .ok (.getfield 24, 3) := by decide +kernel
theorem dX1_prepare_100 : decode cX1_prepare 100 = .ok (.ishl, 1) := by decide +kernel
theorem dX1_prepare_101 : decode cX1_prepare 101 = .ok (.if_icmp .ge 29, 3) := by decide +kernel
theorem dX1_prepare_104 : decode cX1_prepare 104 = .ok (.aload_n 1, 1) := by decide +kernel
theorem dX1_prepare_105 : decode cX1_prepare 105 = .ok (.iload_n 2, 1) := by decide +kernel
theorem dX1_prepare_106 : decode cX1_prepare 106 = .ok (.invokevirtual 49, 3) := by decide +kernel
theorem dX1_prepare_109 : decode cX1_prepare 109 = .ok (.ifCond .eq 15, 3) := by decide +kernel
theorem dX1_prepare_112 : decode cX1_prepare 112 = .ok (.aload_n 0, 1) := by decide +kernel
theorem dX1_prepare_113 : decode cX1_prepare 113 = .ok (.dup, 1) := by decide +kernel
theorem dX1_prepare_114 : decode cX1_prepare 114 = .ok (.getfield 45, 3) := by decide +kernel
theorem dX1_prepare_117 : decode cX1_prepare 117 = .ok (.lconst 1, 1) := by decide +kernel
theorem dX1_prepare_118 : decode cX1_prepare 118 = .ok (.iload_n 2, 1) := by decide +kernel
theorem dX1_prepare_119 : decode cX1_prepare 119 = .ok (.lshl, 1) := by decide +kernel
theorem dX1_prepare_120 : decode cX1_prepare 120 = .ok (.lor, 1) := by decide +kernel
theorem dX1_prepare_121 : decode cX1_prepare 121 = .ok (.putfield 45, 3) := by decide +kernel
theorem dX1_prepare_124 : decode cX1_prepare 124 = .ok (.iinc 2 1, 3) := by decide +kernel
theorem dX1_prepare_127 : decode cX1_prepare 127 = .ok (.goto (-33), 3) := by decide +kernel
theorem dX1_prepare_130 : decode cX1_prepare 130 = .ok (.return_, 1) := by decide +kernel
def F_X1_prepare_28 (fu : Nat) (k15 : Mm → Nat → Int32 → Option Mm) : Nat → Mm → Nat → Int32 → Int32 → Int32 → Option Mm
  | 0, _, _, _, _, _ => none
  | n + 1, M, c1, x2, x3, x4 =>
    if (9 : Int32) < x4 then
      ob1 (F_X6_write fu M 76 x2 x3) (fun M3 =>
      ob1 (F_X6_read fu M3 (c1 + 5) x2) (fun r5 =>
      ob1 (F_X1_place fu M3 x2 r5) (fun M7 =>
      k15 M7 c1 (x2 + (1 : Int32)))))
    else
      ob1 (F_X2_hasRightBy fu M c1 x2 x4 (3 : Int32)) (fun r9 =>
      if r9 = 0 then
        F_X1_prepare_28 fu k15 n M c1 x2 x3 (x4 + (1 : Int32))
      else
        F_X1_prepare_28 fu k15 n M c1 x2 (x3 ||| ((1 : Int32) <<< (x4 &&& 31))) (x4 + (1 : Int32)))
set_option maxRecDepth 100000 in
set_option maxHeartbeats 4000000 in
theorem w_X1_prepare_28 {p : Program} {l : Launch} {e : Env} {s : State} {m : MethodId} {args : Array Value} {below : List Frame} {meth : Method} {c : Code} {G : Gv} (hC : Cx p s m args meth c cX1_prepare 5 none RX1) {fu : Nat} {M' : Mm} {k15 : Mm → Nat → Int32 → Option Mm} (hk_15 : ∀ {c1 : Nat} {x2 : Int32} {M : Mm} {H : Heap} {locs : List Loc} {ls : Array Slot} (hk1 : kd c1 = 11), k15 M c1 x2 = some M' → St G s H locs M → lv_has ls 5 [(0, .ref (ad G 74)), (1, .ref (ad G c1)), (2, .int x2)] → W p l e rm_X1_prepare s m args below meth c H locs 0 0 (MQ below (QV G M') args s 0 0 (zA G)) (F0 m 15 ls [])) : ∀ (n : Nat) {c1 : Nat} {x2 : Int32} {x3 : Int32} {x4 : Int32} {M : Mm} {H : Heap} {locs : List Loc} {ls : Array Slot} (hk1 : kd c1 = 11), F_X1_prepare_28 fu k15 n M c1 x2 x3 x4 = some M' → St G s H locs M → lv_has ls 5 [(0, .ref (ad G 74)), (1, .ref (ad G c1)), (2, .int x2), (3, .int x3), (4, .int x4)] → W p l e rm_X1_prepare s m args below meth c H locs 0 0 (MQ below (QV G M') args s 0 0 (zA G)) (F0 m 28 ls []) := by
  intro n
  induction n with
  | zero =>
    intro c1 x2 x3 x4 M H locs ls hk1 hF hw hl
    cases hF
  | succ n ih =>
    intro c1 x2 x3 x4 M H locs ls hk1 hF hw hl
    unfold F_X1_prepare_28 at hF
    refine lv_iload hC.1 hC.2.1 dX1_prepare_28 (lv_at hl 4 rfl) ?_
    refine lv_bipush (v := (9 : Int32)) hC.1 hC.2.1 dX1_prepare_30 (by decide) ?_
    refine lv_icmp_gt (tgt := 59) hC.1 hC.2.1 dX1_prepare_32 (by decide) (fun b1 => ?_) (fun b1 => ?_)
    · have hF := ifP hF b1
      refine lv_aload_n hC.1 hC.2.1 dX1_prepare_59 rfl (lv_at hl 0 rfl) ?_
      refine g1_rightBy hC hw q1_133 dX1_prepare_60 ?_
      refine lv_iload_n hC.1 hC.2.1 dX1_prepare_63 rfl (lv_at hl 2 rfl) ?_
      refine lv_iload_n hC.1 hC.2.1 dX1_prepare_64 rfl (lv_at hl 3 rfl) ?_
      obtain ⟨M3, h2, hF⟩ := ob1S hF
      refine k_Nv (As := [.ref (ad G 76), .int x2, .int x3]) (rest := []) hC hw (c_X6_write (M := M) (rfl : kd 76 = 1) h2) ys_X6_write (k := 14) rfl ⟨rfl, rfl⟩ ⟨Nat.le_of_ble_eq_true rfl, Nat.le_of_ble_eq_true rfl⟩ ⟨Nat.zero_le _, Nat.zero_le _⟩ rfl rfl (Nat.le_of_ble_eq_true rfl) hl dX1_prepare_65 (fun H locs hw => ?_)
      refine lv_aload_n hC.1 hC.2.1 dX1_prepare_68 rfl (lv_at hl 0 rfl) ?_
      refine lv_iload_n hC.1 hC.2.1 dX1_prepare_69 rfl (lv_at hl 2 rfl) ?_
      refine lv_aload_n hC.1 hC.2.1 dX1_prepare_70 rfl (lv_at hl 1 rfl) ?_
      refine g2_shadeOf hC hw hk1 q1_47 dX1_prepare_71 ?_
      refine lv_iload_n hC.1 hC.2.1 dX1_prepare_74 rfl (lv_at hl 2 rfl) ?_
      obtain ⟨r5, h4, hF⟩ := ob1S hF
      refine k_Ni (As := [.ref (ad G (c1 + 5)), .int x2]) (rest := [.int x2, .ref (ad G 74)]) hC hw (c_X6_read (M := M3) (kdN5 hk1) h4) ys_X6_read (k := 15) rfl ⟨rfl, rfl⟩ ⟨Nat.le_of_ble_eq_true rfl, Nat.le_of_ble_eq_true rfl⟩ ⟨Nat.zero_le _, Nat.zero_le _⟩ rfl rfl (Nat.le_of_ble_eq_true rfl) hl dX1_prepare_75 (fun H locs hw => ?_)
      obtain ⟨M7, h6, hF⟩ := ob1S hF
      refine k_Vv (As := [.int x2, .int r5]) (rest := []) hC hw (c_X1_place (M := M3) h6) RC_G yv_X1_place q3_219 ⟨rfl, rfl⟩ ⟨Nat.le_of_ble_eq_true rfl, Nat.le_of_ble_eq_true rfl⟩ ⟨Nat.zero_le _, Nat.zero_le _⟩ rfl rfl (Nat.le_of_ble_eq_true rfl) hl dX1_prepare_78 (fun H locs hw => ?_)
      refine lv_iinc (v := (x2 + (1 : Int32))) (lv' := [(2, .int (x2 + (1 : Int32))), (0, .ref (ad G 74)), (1, .ref (ad G c1)), (3, .int x3), (4, .int x4)]) hC.1 hC.2.1 dX1_prepare_81 hl (k := 2) rfl rfl (by decide) rfl (fun ls hl => ?_)
      refine lv_goto (tgt := 15) hC.1 hC.2.1 dX1_prepare_84 (by decide) ?_
      exact hk_15 hk1 hF hw (lv_sub hl [1, 2, 0] rfl)
    · have hF := ifN hF b1
      refine lv_aload_n hC.1 hC.2.1 dX1_prepare_35 rfl (lv_at hl 1 rfl) ?_
      refine lv_iload_n hC.1 hC.2.1 dX1_prepare_36 rfl (lv_at hl 2 rfl) ?_
      refine lv_iload hC.1 hC.2.1 dX1_prepare_37 (lv_at hl 4 rfl) ?_
      refine lv_iconst (v := (3 : Int32)) hC.1 hC.2.1 dX1_prepare_39 (by decide) ?_
      obtain ⟨r9, h8, hF⟩ := ob1S hF
      refine k_Vi (As := [.int x2, .int x4, .int (3 : Int32)]) (rest := []) hC hw (c_X2_hasRightBy (M := M) hk1 h8) (RC_N hk1) yv_X2_hasRightBy q3_216 ⟨rfl, rfl⟩ ⟨Nat.le_of_ble_eq_true rfl, Nat.le_of_ble_eq_true rfl⟩ ⟨Nat.zero_le _, Nat.zero_le _⟩ rfl rfl (Nat.le_of_ble_eq_true rfl) hl dX1_prepare_40 (fun H locs hw => ?_)
      refine lv_if_eq (tgt := 53) hC.1 hC.2.1 dX1_prepare_43 (by decide) (fun b10 => ?_) (fun b10 => ?_)
      · have hF := ifP hF b10
        refine lv_iinc (v := (x4 + (1 : Int32))) (lv' := [(4, .int (x4 + (1 : Int32))), (0, .ref (ad G 74)), (1, .ref (ad G c1)), (2, .int x2), (3, .int x3)]) hC.1 hC.2.1 dX1_prepare_53 hl (k := 4) rfl rfl (by decide) rfl (fun ls hl => ?_)
        refine lv_goto (tgt := 28) hC.1 hC.2.1 dX1_prepare_56 (by decide) ?_
        exact ih hk1 hF hw (lv_sub hl [1, 2, 3, 4, 0] rfl)
      · have hF := ifN hF b10
        refine lv_iload_n hC.1 hC.2.1 dX1_prepare_46 rfl (lv_at hl 3 rfl) ?_
        refine lv_iconst (v := (1 : Int32)) hC.1 hC.2.1 dX1_prepare_47 (by decide) ?_
        refine lv_iload hC.1 hC.2.1 dX1_prepare_48 (lv_at hl 4 rfl) ?_
        refine lv_ishl hC.1 hC.2.1 dX1_prepare_50 ?_
        refine lv_ior hC.1 hC.2.1 dX1_prepare_51 ?_
        refine lv_istore_n (lv' := [(3, .int (x3 ||| ((1 : Int32) <<< (x4 &&& 31)))), (0, .ref (ad G 74)), (1, .ref (ad G c1)), (2, .int x2), (4, .int x4)]) hC.1 hC.2.1 dX1_prepare_52 rfl hl (by decide) rfl (fun ls hl => ?_)
        refine lv_iinc (v := (x4 + (1 : Int32))) (lv' := [(4, .int (x4 + (1 : Int32))), (3, .int (x3 ||| ((1 : Int32) <<< (x4 &&& 31)))), (0, .ref (ad G 74)), (1, .ref (ad G c1)), (2, .int x2)]) hC.1 hC.2.1 dX1_prepare_53 hl (k := 4) rfl rfl (by decide) rfl (fun ls hl => ?_)
        refine lv_goto (tgt := 28) hC.1 hC.2.1 dX1_prepare_56 (by decide) ?_
        exact ih hk1 hF hw (lv_sub hl [2, 3, 4, 1, 0] rfl)
def F_X1_prepare_94 (fu : Nat) : Nat → Mm → Nat → Int32 → Option Mm
  | 0, _, _, _ => none
  | n + 1, M, c1, x2 =>
    if ((1 : Int32) <<< ((M.1 74 0) &&& 31)) ≤ x2 then
      some M
    else
      ob1 (F_X2_isCarriedBy fu M c1 x2) (fun r3 =>
      if r3 = 0 then
        F_X1_prepare_94 fu n M c1 (x2 + (1 : Int32))
      else
        lt1 (pL M 74 2 ((M.2 74 2) ||| ((1 : Int64) <<< (x2.toInt64 &&& 63)))) (fun M5 =>
        F_X1_prepare_94 fu n M5 c1 (x2 + (1 : Int32))))
set_option maxRecDepth 100000 in
set_option maxHeartbeats 4000000 in
theorem w_X1_prepare_94 {p : Program} {l : Launch} {e : Env} {s : State} {m : MethodId} {args : Array Value} {below : List Frame} {meth : Method} {c : Code} {G : Gv} (hC : Cx p s m args meth c cX1_prepare 5 none RX1) {fu : Nat} {M' : Mm} : ∀ (n : Nat) {c1 : Nat} {x2 : Int32} {M : Mm} {H : Heap} {locs : List Loc} {ls : Array Slot} (hk1 : kd c1 = 11), F_X1_prepare_94 fu n M c1 x2 = some M' → St G s H locs M → lv_has ls 5 [(0, .ref (ad G 74)), (1, .ref (ad G c1)), (2, .int x2)] → W p l e rm_X1_prepare s m args below meth c H locs 0 0 (MQ below (QV G M') args s 0 0 (zA G)) (F0 m 94 ls []) := by
  intro n
  induction n with
  | zero =>
    intro c1 x2 M H locs ls hk1 hF hw hl
    cases hF
  | succ n ih =>
    intro c1 x2 M H locs ls hk1 hF hw hl
    unfold F_X1_prepare_94 at hF
    refine lv_iload_n hC.1 hC.2.1 dX1_prepare_94 rfl (lv_at hl 2 rfl) ?_
    refine lv_iconst (v := (1 : Int32)) hC.1 hC.2.1 dX1_prepare_95 (by decide) ?_
    refine lv_aload_n hC.1 hC.2.1 dX1_prepare_96 rfl (lv_at hl 0 rfl) ?_
    refine g1_men hC hw q1_129 dX1_prepare_97 ?_
    refine lv_ishl hC.1 hC.2.1 dX1_prepare_100 ?_
    refine lv_icmp_ge (tgt := 130) hC.1 hC.2.1 dX1_prepare_101 (by decide) (fun b1 => ?_) (fun b1 => ?_)
    · have hF := ifP hF b1
      exact r_vretE hC hw hF dX1_prepare_130
    · have hF := ifN hF b1
      refine lv_aload_n hC.1 hC.2.1 dX1_prepare_104 rfl (lv_at hl 1 rfl) ?_
      refine lv_iload_n hC.1 hC.2.1 dX1_prepare_105 rfl (lv_at hl 2 rfl) ?_
      obtain ⟨r3, h2, hF⟩ := ob1S hF
      refine k_Vi (As := [.int x2]) (rest := []) hC hw (c_X2_isCarriedBy (M := M) hk1 h2) (RC_N hk1) yv_X2_isCarriedBy q3_224 ⟨rfl, rfl⟩ ⟨Nat.le_of_ble_eq_true rfl, Nat.le_of_ble_eq_true rfl⟩ ⟨Nat.zero_le _, Nat.zero_le _⟩ rfl rfl (Nat.le_of_ble_eq_true rfl) hl dX1_prepare_106 (fun H locs hw => ?_)
      refine lv_if_eq (tgt := 124) hC.1 hC.2.1 dX1_prepare_109 (by decide) (fun b4 => ?_) (fun b4 => ?_)
      · have hF := ifP hF b4
        refine lv_iinc (v := (x2 + (1 : Int32))) (lv' := [(2, .int (x2 + (1 : Int32))), (0, .ref (ad G 74)), (1, .ref (ad G c1))]) hC.1 hC.2.1 dX1_prepare_124 hl (k := 2) rfl rfl (by decide) rfl (fun ls hl => ?_)
        refine lv_goto (tgt := 94) hC.1 hC.2.1 dX1_prepare_127 (by decide) ?_
        exact ih hk1 hF hw (lv_sub hl [1, 2, 0] rfl)
      · have hF := ifN hF b4
        refine lv_aload_n hC.1 hC.2.1 dX1_prepare_112 rfl (lv_at hl 0 rfl) ?_
        refine lv_dup hC.1 hC.2.1 dX1_prepare_113 rfl ?_
        refine g1_carriedBy hC hw q1_131 dX1_prepare_114 ?_
        refine lv_lconst (v := (1 : Int64)) hC.1 hC.2.1 dX1_prepare_117 (by decide) ?_
        refine lv_iload_n hC.1 hC.2.1 dX1_prepare_118 rfl (lv_at hl 2 rfl) ?_
        refine lv_lshl hC.1 hC.2.1 dX1_prepare_119 rfl ?_
        refine lv_lor hC.1 hC.2.1 dX1_prepare_120 ?_
        refine u1_carriedBy hC hw q1_131 dX1_prepare_121 (fun H locs hw => ?_)
        obtain ⟨M5, hw, hF⟩ := lt1W hF hw
        refine lv_iinc (v := (x2 + (1 : Int32))) (lv' := [(2, .int (x2 + (1 : Int32))), (0, .ref (ad G 74)), (1, .ref (ad G c1))]) hC.1 hC.2.1 dX1_prepare_124 hl (k := 2) rfl rfl (by decide) rfl (fun ls hl => ?_)
        refine lv_goto (tgt := 94) hC.1 hC.2.1 dX1_prepare_127 (by decide) ?_
        exact ih hk1 hF hw (lv_sub hl [1, 2, 0] rfl)
def F_X1_prepare_15 (fu : Nat) : Nat → Mm → Nat → Int32 → Option Mm
  | 0, _, _, _ => none
  | n + 1, M, c1, x2 =>
    if (M.1 74 0) ≤ x2 then
      lt1 (pL M 74 2 (0 : Int64)) (fun M2 =>
      F_X1_prepare_94 fu fu M2 c1 (0 : Int32))
    else
      F_X1_prepare_28 fu (F_X1_prepare_15 fu n) fu M c1 x2 (0 : Int32) (0 : Int32)
set_option maxRecDepth 100000 in
set_option maxHeartbeats 4000000 in
theorem w_X1_prepare_15 {p : Program} {l : Launch} {e : Env} {s : State} {m : MethodId} {args : Array Value} {below : List Frame} {meth : Method} {c : Code} {G : Gv} (hC : Cx p s m args meth c cX1_prepare 5 none RX1) {fu : Nat} {M' : Mm} : ∀ (n : Nat) {c1 : Nat} {x2 : Int32} {M : Mm} {H : Heap} {locs : List Loc} {ls : Array Slot} (hk1 : kd c1 = 11), F_X1_prepare_15 fu n M c1 x2 = some M' → St G s H locs M → lv_has ls 5 [(0, .ref (ad G 74)), (1, .ref (ad G c1)), (2, .int x2)] → W p l e rm_X1_prepare s m args below meth c H locs 0 0 (MQ below (QV G M') args s 0 0 (zA G)) (F0 m 15 ls []) := by
  intro n
  induction n with
  | zero =>
    intro c1 x2 M H locs ls hk1 hF hw hl
    cases hF
  | succ n ih =>
    intro c1 x2 M H locs ls hk1 hF hw hl
    unfold F_X1_prepare_15 at hF
    refine lv_iload_n hC.1 hC.2.1 dX1_prepare_15 rfl (lv_at hl 2 rfl) ?_
    refine lv_aload_n hC.1 hC.2.1 dX1_prepare_16 rfl (lv_at hl 0 rfl) ?_
    refine g1_men hC hw q1_129 dX1_prepare_17 ?_
    refine lv_icmp_ge (tgt := 87) hC.1 hC.2.1 dX1_prepare_20 (by decide) (fun b1 => ?_) (fun b1 => ?_)
    · have hF := ifP hF b1
      refine lv_aload_n hC.1 hC.2.1 dX1_prepare_87 rfl (lv_at hl 0 rfl) ?_
      refine lv_lconst (v := (0 : Int64)) hC.1 hC.2.1 dX1_prepare_88 (by decide) ?_
      refine u1_carriedBy hC hw q1_131 dX1_prepare_89 (fun H locs hw => ?_)
      obtain ⟨M2, hw, hF⟩ := lt1W hF hw
      refine lv_iconst (v := (0 : Int32)) hC.1 hC.2.1 dX1_prepare_92 (by decide) ?_
      refine lv_istore_n (lv' := [(2, .int (0 : Int32)), (0, .ref (ad G 74)), (1, .ref (ad G c1))]) hC.1 hC.2.1 dX1_prepare_93 rfl hl (by decide) rfl (fun ls hl => ?_)
      exact w_X1_prepare_94 hC _ hk1 hF hw (lv_sub hl [1, 2, 0] rfl)
    · have hF := ifN hF b1
      refine lv_iconst (v := (0 : Int32)) hC.1 hC.2.1 dX1_prepare_23 (by decide) ?_
      refine lv_istore_n (lv' := [(3, .int (0 : Int32)), (0, .ref (ad G 74)), (1, .ref (ad G c1)), (2, .int x2)]) hC.1 hC.2.1 dX1_prepare_24 rfl hl (by decide) rfl (fun ls hl => ?_)
      refine lv_iconst (v := (0 : Int32)) hC.1 hC.2.1 dX1_prepare_25 (by decide) ?_
      refine lv_istore (lv' := [(4, .int (0 : Int32)), (3, .int (0 : Int32)), (0, .ref (ad G 74)), (1, .ref (ad G c1)), (2, .int x2)]) hC.1 hC.2.1 dX1_prepare_26 hl (by decide) rfl (fun ls hl => ?_)
      exact w_X1_prepare_28 hC (hk_15 := ih) _ hk1 hF hw (lv_sub hl [2, 3, 4, 1, 0] rfl)
def F_X1_prepare (fu : Nat) (M : Mm) (c1 : Nat) : Option Mm :=
  lt1 (pI M 74 0 (M.1 c1 0)) (fun M1 =>
  lt1 (pI M1 74 1 (0 : Int32)) (fun M2 =>
  F_X1_prepare_15 fu fu M2 c1 (0 : Int32)))
set_option maxRecDepth 100000 in
set_option maxHeartbeats 4000000 in
theorem c_X1_prepare {l : Launch} {G : Gv} {fu : Nat} {M : Mm} {c1 : Nat} (hk1 : kd c1 = 11) {M' : Mm} (hF : F_X1_prepare fu M c1 = some M') : Met l yX1_prepare (.code yX1_prepare cX1_prepare 5 none :: zU) rm_X1_prepare (va_Pc [.ref (ad G 74), .ref (ad G c1)] (Wd G M)) (QV G M') 0 0 (zA G) := by
  refine zMet (by decide) rfl (Nat.le_of_ble_eq_true rfl) ?_
  intro p e s m below meth c hC hw ls hl
  have hl : lv_has ls 5 [(0, .ref (ad G 74)), (1, .ref (ad G c1))] := hl
  unfold F_X1_prepare at hF
  refine lv_aload_n hC.1 hC.2.1 dX1_prepare_0 rfl (lv_at hl 0 rfl) ?_
  refine lv_aload_n hC.1 hC.2.1 dX1_prepare_1 rfl (lv_at hl 1 rfl) ?_
  refine g2_men hC hw hk1 q1_30 dX1_prepare_2 ?_
  refine u1_men hC hw q1_129 dX1_prepare_5 (fun H locs hw => ?_)
  obtain ⟨M1, hw, hF⟩ := lt1W hF hw
  refine lv_aload_n hC.1 hC.2.1 dX1_prepare_8 rfl (lv_at hl 0 rfl) ?_
  refine lv_iconst (v := (0 : Int32)) hC.1 hC.2.1 dX1_prepare_9 (by decide) ?_
  refine u1_voters hC hw q1_130 dX1_prepare_10 (fun H locs hw => ?_)
  obtain ⟨M2, hw, hF⟩ := lt1W hF hw
  refine lv_iconst (v := (0 : Int32)) hC.1 hC.2.1 dX1_prepare_13 (by decide) ?_
  refine lv_istore_n (lv' := [(2, .int (0 : Int32)), (0, .ref (ad G 74)), (1, .ref (ad G c1))]) hC.1 hC.2.1 dX1_prepare_14 rfl hl (by decide) rfl (fun ls hl => ?_)
  exact w_X1_prepare_15 hC _ hk1 hF hw (lv_sub hl [1, 2, 0] rfl)
abbrev rm_X1_makes : Room := { frames := 2, cells := 0, slots := 0, locals := 44 }
theorem yv_X1_makes : YV yX1_makes cX1_makes 4 (some .boolean) 1 RX1 := ⟨⟨q3_230, qs_25, q1_4, q3_231⟩, by decide +kernel⟩
theorem dX1_makes_0 : decode cX1_makes 0 = .ok (.iload_n 1, 1) := by decide +kernel
theorem dX1_makes_1 : decode cX1_makes 1 = .ok (.iconst 2, 1) := by decide +kernel
theorem dX1_makes_2 : decode cX1_makes 2 = .ok (.idiv, 1) := by decide +kernel
theorem dX1_makes_3 : decode cX1_makes 3 = .ok (.istore_n 2, 1) := by decide +kernel
theorem dX1_makes_4 : decode cX1_makes 4 = .ok (.aload_n 0, 1) := by decide +kernel
theorem dX1_makes_5 : decode cX1_makes 5 = .ok (.getfield 9, 3) := by decide +kernel
theorem dX1_makes_8 : decode cX1_makes 8 = .ok (.iload_n 2, 1) := by decide +kernel
theorem dX1_makes_9 : decode cX1_makes 9 = .ok (.invokestatic 37, 3) := by decide +kernel
theorem dX1_makes_12 : decode cX1_makes 12 = .ok (.iload_n 1, 1) := by decide +kernel
theorem dX1_makes_13 : decode cX1_makes 13 = .ok (.iconst 2, 1) := by decide +kernel
theorem dX1_makes_14 : decode cX1_makes 14 = .ok (.irem, 1) := by decide +kernel
theorem dX1_makes_15 : decode cX1_makes 15 = .ok (.ifCond .ne 7, 3) := by decide +kernel
theorem dX1_makes_18 : decode cX1_makes 18 = .ok (.iconst 1, 1) := by decide +kernel
theorem dX1_makes_19 : decode cX1_makes 19 = .ok (.goto 4, 3) := by decide +kernel
theorem dX1_makes_22 : decode cX1_makes 22 = .ok (.iconst (-1), 1) := by decide +kernel
theorem dX1_makes_23 : decode cX1_makes 23 = .ok (.iadd, 1) := by decide +kernel
theorem dX1_makes_24 : decode cX1_makes 24 = .ok (.istore_n 3, 1) := by decide +kernel
theorem dX1_makes_25 : decode cX1_makes 25 = .ok (.iload_n 3, 1) := by decide +kernel
theorem dX1_makes_26 : decode cX1_makes 26 = .ok (.ifCond .lt 9, 3) := by decide +kernel
theorem dX1_makes_29 : decode cX1_makes 29 = .ok (.iload_n 3, 1) := by decide +kernel
theorem dX1_makes_30 : decode cX1_makes 30 = .ok (.bipush 9, 2) := by decide +kernel
theorem dX1_makes_32 : decode cX1_makes 32 = .ok (.if_icmp .le 5, 3) := by decide +kernel
theorem dX1_makes_35 : decode cX1_makes 35 = .ok (.iconst 0, 1) := by decide +kernel
theorem dX1_makes_36 : decode cX1_makes 36 = .ok (.ireturn, 1) := by decide +kernel
theorem dX1_makes_37 : decode cX1_makes 37 = .ok (.aload_n 0, 1) := by decide +kernel
theorem dX1_makes_38 : decode cX1_makes 38 = .ok (.iload_n 2, 1) := by decide +kernel
theorem dX1_makes_39 : decode cX1_makes 39 = .ok (.iload_n 3, 1) := by decide +kernel
theorem dX1_makes_40 : decode cX1_makes 40 = .ok (.invokevirtual 41, 3) := by decide +kernel
theorem dX1_makes_43 : decode cX1_makes 43 = .ok (.iconst 1, 1) := by decide +kernel
theorem dX1_makes_44 : decode cX1_makes 44 = .ok (.ireturn, 1) := by decide +kernel
def F_X1_makes_23 (fu : Nat) (M : Mm) (x2 : Int32) (t0 : Int32) (t1 : Int32) : Option (Int32 × Mm) :=
  if (t0 + t1) < 0 then
    some ((0 : Int32), M)
  else
    if (t0 + t1) ≤ (9 : Int32) then
      ob1 (F_X1_place fu M x2 (t0 + t1)) (fun M4 =>
      some ((1 : Int32), M4))
    else
      some ((0 : Int32), M)
set_option maxRecDepth 100000 in
set_option maxHeartbeats 4000000 in
theorem w_X1_makes_23 {p : Program} {l : Launch} {e : Env} {s : State} {m : MethodId} {args : Array Value} {below : List Frame} {meth : Method} {c : Code} {G : Gv} (hC : Cx p s m args meth c cX1_makes 4 (some .boolean) RX1) {fu : Nat} {r : Int32} {M' : Mm} {x2 : Int32} {t0 : Int32} {t1 : Int32} {M : Mm} {H : Heap} {locs : List Loc} {ls : Array Slot} (hF : F_X1_makes_23 fu M x2 t0 t1 = some (r, M')) (hw : St G s H locs M) (hl : lv_has ls 4 [(0, .ref (ad G 74)), (2, .int x2)]) : W p l e rm_X1_makes s m args below meth c H locs 0 0 (MQ below (QI G r M') args s 0 0 (zA G)) (F0 m 23 ls [.int t1, .int t0]) := by
  unfold F_X1_makes_23 at hF
  refine lv_iadd hC.1 hC.2.1 dX1_makes_23 ?_
  refine lv_istore_n (lv' := [(3, .int (t0 + t1)), (0, .ref (ad G 74)), (2, .int x2)]) hC.1 hC.2.1 dX1_makes_24 rfl hl (by decide) rfl (fun ls hl => ?_)
  refine lv_iload_n hC.1 hC.2.1 dX1_makes_25 rfl (lv_at hl 0 rfl) ?_
  refine lv_if_lt (tgt := 35) hC.1 hC.2.1 dX1_makes_26 (by decide) (fun b1 => ?_) (fun b1 => ?_)
  · have hF := ifP hF b1
    refine lv_iconst (v := (0 : Int32)) hC.1 hC.2.1 dX1_makes_35 (by decide) ?_
    exact r_zretE hC hw (by decide) hF dX1_makes_36
  · have hF := ifN hF b1
    refine lv_iload_n hC.1 hC.2.1 dX1_makes_29 rfl (lv_at hl 0 rfl) ?_
    refine lv_bipush (v := (9 : Int32)) hC.1 hC.2.1 dX1_makes_30 (by decide) ?_
    refine lv_icmp_le (tgt := 37) hC.1 hC.2.1 dX1_makes_32 (by decide) (fun b2 => ?_) (fun b2 => ?_)
    · have hF := ifP hF b2
      refine lv_aload_n hC.1 hC.2.1 dX1_makes_37 rfl (lv_at hl 1 rfl) ?_
      refine lv_iload_n hC.1 hC.2.1 dX1_makes_38 rfl (lv_at hl 2 rfl) ?_
      refine lv_iload_n hC.1 hC.2.1 dX1_makes_39 rfl (lv_at hl 0 rfl) ?_
      obtain ⟨M4, h3, hF⟩ := ob1S hF
      refine k_Vv (As := [.int x2, .int (t0 + t1)]) (rest := []) hC hw (c_X1_place (M := M) h3) RC_G yv_X1_place q3_219 ⟨rfl, rfl⟩ ⟨Nat.le_of_ble_eq_true rfl, Nat.le_of_ble_eq_true rfl⟩ ⟨Nat.zero_le _, Nat.zero_le _⟩ rfl rfl (Nat.le_of_ble_eq_true rfl) hl dX1_makes_40 (fun H locs hw => ?_)
      refine lv_iconst (v := (1 : Int32)) hC.1 hC.2.1 dX1_makes_43 (by decide) ?_
      exact r_zretE hC hw (by decide) hF dX1_makes_44
    · have hF := ifN hF b2
      refine lv_iconst (v := (0 : Int32)) hC.1 hC.2.1 dX1_makes_35 (by decide) ?_
      exact r_zretE hC hw (by decide) hF dX1_makes_36
def F_X1_makes (fu : Nat) (M : Mm) (x1 : Int32) : Option (Int32 × Mm) :=
  ob1 (F_X6_read fu M 75 (x1 / (2 : Int32))) (fun r2 =>
  if (x1 - x1 / (2 : Int32) * (2 : Int32)) = 0 then
    F_X1_makes_23 fu M (x1 / (2 : Int32)) r2 (1 : Int32)
  else
    F_X1_makes_23 fu M (x1 / (2 : Int32)) r2 (-1 : Int32))
set_option maxRecDepth 100000 in
set_option maxHeartbeats 4000000 in
theorem c_X1_makes {l : Launch} {G : Gv} {fu : Nat} {M : Mm} {x1 : Int32} {r : Int32} {M' : Mm} (hF : F_X1_makes fu M x1 = some (r, M')) : Met l yX1_makes (.code yX1_makes cX1_makes 4 (some .boolean) :: zU) rm_X1_makes (va_Pc [.ref (ad G 74), .int x1] (Wd G M)) (QI G r M') 0 0 (zA G) := by
  refine zMet (by decide) rfl (Nat.le_of_ble_eq_true rfl) ?_
  intro p e s m below meth c hC hw ls hl
  have hl : lv_has ls 4 [(0, .ref (ad G 74)), (1, .int x1)] := hl
  unfold F_X1_makes at hF
  refine lv_iload_n hC.1 hC.2.1 dX1_makes_0 rfl (lv_at hl 1 rfl) ?_
  refine lv_iconst (v := (2 : Int32)) hC.1 hC.2.1 dX1_makes_1 (by decide) ?_
  refine lv_idiv hC.1 hC.2.1 dX1_makes_2 (by decide) ?_
  refine lv_istore_n (lv' := [(2, .int (x1 / (2 : Int32))), (0, .ref (ad G 74)), (1, .int x1)]) hC.1 hC.2.1 dX1_makes_3 rfl hl (by decide) rfl (fun ls hl => ?_)
  refine lv_aload_n hC.1 hC.2.1 dX1_makes_4 rfl (lv_at hl 1 rfl) ?_
  refine g1_shadeOf hC hw q1_132 dX1_makes_5 ?_
  refine lv_iload_n hC.1 hC.2.1 dX1_makes_8 rfl (lv_at hl 0 rfl) ?_
  obtain ⟨r2, h1, hF⟩ := ob1S hF
  refine k_Ni (As := [.ref (ad G 75), .int (x1 / (2 : Int32))]) (rest := []) hC hw (c_X6_read (M := M) (rfl : kd 75 = 1) h1) ys_X6_read (k := 15) rfl ⟨rfl, rfl⟩ ⟨Nat.le_of_ble_eq_true rfl, Nat.le_of_ble_eq_true rfl⟩ ⟨Nat.zero_le _, Nat.zero_le _⟩ rfl rfl (Nat.le_of_ble_eq_true rfl) hl dX1_makes_9 (fun H locs hw => ?_)
  refine lv_iload_n hC.1 hC.2.1 dX1_makes_12 rfl (lv_at hl 2 rfl) ?_
  refine lv_iconst (v := (2 : Int32)) hC.1 hC.2.1 dX1_makes_13 (by decide) ?_
  refine lv_irem hC.1 hC.2.1 dX1_makes_14 (by decide) ?_
  refine lv_if_ne (tgt := 22) hC.1 hC.2.1 dX1_makes_15 (by decide) (fun b3 => ?_) (fun b3 => ?_)
  · have hF := ifN hF b3
    refine lv_iconst (v := (-1 : Int32)) hC.1 hC.2.1 dX1_makes_22 (by decide) ?_
    exact w_X1_makes_23 hC hF hw (lv_sub hl [1, 0] rfl)
  · have hF := ifP hF b3
    refine lv_iconst (v := (1 : Int32)) hC.1 hC.2.1 dX1_makes_18 (by decide) ?_
    refine lv_goto (tgt := 23) hC.1 hC.2.1 dX1_makes_19 (by decide) ?_
    exact w_X1_makes_23 hC hF hw (lv_sub hl [1, 0] rfl)
