abbrev rm_X4_digestedOnto : Room := { frames := 1, cells := 0, slots := 0, locals := 21 }
theorem yv_X4_digestedOnto : YV yX4_digestedOnto cX4_digestedOnto 6 (some .long) 1 RX4 := ⟨⟨q4_106, q4_107, q1_6, q4_108⟩, by decide +kernel⟩
theorem dX4_digestedOnto_0 : decode cX4_digestedOnto 0 = .ok (.aload_n 0, 1) := by decide +kernel
theorem dX4_digestedOnto_1 : decode cX4_digestedOnto 1 = .ok (.getfield 15, 3) := by decide +kernel
theorem dX4_digestedOnto_4 : decode cX4_digestedOnto 4 = .ok (.ifCond .ne 11, 3) := by decide +kernel
theorem dX4_digestedOnto_7 : decode cX4_digestedOnto 7 = .ok (.ldc2_w 31, 3) := by decide +kernel
theorem dX4_digestedOnto_10 : decode cX4_digestedOnto 10 = .ok (.lload_n 1, 1) := by decide +kernel
theorem dX4_digestedOnto_11 : decode cX4_digestedOnto 11 = .ok (.lmul, 1) := by decide +kernel
theorem dX4_digestedOnto_12 : decode cX4_digestedOnto 12 = .ok (.lconst 1, 1) := by decide +kernel
theorem dX4_digestedOnto_13 : decode cX4_digestedOnto 13 = .ok (.lsub, 1) := by decide +kernel
theorem dX4_digestedOnto_14 : decode cX4_digestedOnto 14 = .ok (.lreturn, 1) := by decide +kernel
theorem dX4_digestedOnto_15 : decode cX4_digestedOnto 15 = .ok (.ldc2_w 31, 3) := by decide +kernel
theorem dX4_digestedOnto_18 : decode cX4_digestedOnto 18 = .ok (.lload_n 1, 1) := by decide +kernel
theorem dX4_digestedOnto_19 : decode cX4_digestedOnto 19 = .ok (.lmul, 1) := by decide +kernel
theorem dX4_digestedOnto_20 : decode cX4_digestedOnto 20 = .ok (.aload_n 0, 1) := by decide +kernel
theorem dX4_digestedOnto_21 : decode cX4_digestedOnto 21 = .ok (.getfield 19, 3) := by decide +kernel
theorem dX4_digestedOnto_24 : decode cX4_digestedOnto 24 = .ok (.i2l, 1) := by decide +kernel
theorem dX4_digestedOnto_25 : decode cX4_digestedOnto 25 = .ok (.ladd, 1) := by decide +kernel
theorem dX4_digestedOnto_26 : decode cX4_digestedOnto 26 = .ok (.lstore_n 3, 1) := by decide +kernel
theorem dX4_digestedOnto_27 : decode cX4_digestedOnto 27 = .ok (.iconst 0, 1) := by decide +kernel
theorem dX4_digestedOnto_28 : decode cX4_digestedOnto 28 = .ok (.istore 5, 2) := by decide +kernel
theorem dX4_digestedOnto_30 : decode cX4_digestedOnto 30 = .ok (.iload 5, 2) := by decide +kernel
theorem dX4_digestedOnto_32 : decode cX4_digestedOnto 32 = .ok (.aload_n 0, 1) := by decide +kernel
theorem dX4_digestedOnto_33 : decode cX4_digestedOnto 33 = .ok (.getfield 19, 3) := by decide +kernel
theorem dX4_digestedOnto_36 : decode cX4_digestedOnto 36 = .ok (.if_icmp .ge 26, 3) := by decide +kernel
theorem dX4_digestedOnto_39 : decode cX4_digestedOnto 39 = .ok (.ldc2_w 31, 3) := by decide +kernel
theorem dX4_digestedOnto_42 : decode cX4_digestedOnto 42 = .ok (.lload_n 3, 1) := by decide +kernel
theorem dX4_digestedOnto_43 : decode cX4_digestedOnto 43 = .ok (.lmul, 1) := by decide +kernel
theorem dX4_digestedOnto_44 : decode cX4_digestedOnto 44 = .ok (.aload_n 0, 1) := by decide +kernel
theorem dX4_digestedOnto_45 : decode cX4_digestedOnto 45 = .ok (.getfield 9, 3) := by decide +kernel
theorem dX4_digestedOnto_48 : decode cX4_digestedOnto 48 = .ok (.iload 5, 2) := by decide +kernel
theorem dX4_digestedOnto_50 : decode cX4_digestedOnto 50 = .ok (.invokestatic 27, 3) := by decide +kernel
theorem dX4_digestedOnto_53 : decode cX4_digestedOnto 53 = .ok (.i2l, 1) := by decide +kernel
theorem dX4_digestedOnto_54 : decode cX4_digestedOnto 54 = .ok (.ladd, 1) := by decide +kernel
theorem dX4_digestedOnto_55 : decode cX4_digestedOnto 55 = .ok (.lstore_n 3, 1) := by decide +kernel
theorem dX4_digestedOnto_56 : decode cX4_digestedOnto 56 = .ok (.iinc 5 1, 3) := by decide +kernel
theorem dX4_digestedOnto_59 : decode cX4_digestedOnto 59 = .ok (.goto (-29), 3) := by decide +kernel
theorem dX4_digestedOnto_62 : decode cX4_digestedOnto 62 = .ok (.lload_n 3, 1) := by decide +kernel
theorem dX4_digestedOnto_63 : decode cX4_digestedOnto 63 = .ok (.lreturn, 1) := by decide +kernel
def F_X4_digestedOnto_30 (fu : Nat) (M : Mm) : Nat → Nat → Int64 → Int32 → Option Int64
  | 0, _, _, _ => none
  | n + 1, c0, x3, x5 =>
    if (M.1 c0 1) ≤ x5 then
      some x3
    else
      ob1 (F_X6_read fu M (c0 + 6) x5) (fun r3 =>
      F_X4_digestedOnto_30 fu M n c0 (((31 : Int64) * x3) + r3.toInt64) (x5 + (1 : Int32)))
set_option maxRecDepth 100000 in
set_option maxHeartbeats 4000000 in
theorem w_X4_digestedOnto_30 {p : Program} {l : Launch} {e : Env} {s : State} {m : MethodId} {args : Array Value} {below : List Frame} {meth : Method} {c : Code} {G : Gv} (hC : Cx p s m args meth c cX4_digestedOnto 6 (some .long) RX4) {fu : Nat} {r : Int64} {M : Mm} : ∀ (n : Nat) {c0 : Nat} {x3 : Int64} {x5 : Int32} {H : Heap} {locs : List Loc} {ls : Array Slot} (hk0 : kd c0 = 12), F_X4_digestedOnto_30 fu M n c0 x3 x5 = some r → St G s H locs M → lv_has ls 6 [(0, .ref (ad G c0)), (3, .long x3), (5, .int x5)] → W p l e rm_X4_digestedOnto s m args below meth c H locs 0 0 (MQ below (QL G r M) args s 0 0 (zA G)) (F0 m 30 ls []) := by
  intro n
  induction n with
  | zero =>
    intro c0 x3 x5 H locs ls hk0 hF hw hl
    cases hF
  | succ n ih =>
    intro c0 x3 x5 H locs ls hk0 hF hw hl
    unfold F_X4_digestedOnto_30 at hF
    refine lv_iload hC.1 hC.2.1 dX4_digestedOnto_30 (lv_at hl 2 rfl) ?_
    refine lv_aload_n hC.1 hC.2.1 dX4_digestedOnto_32 rfl (lv_at hl 0 rfl) ?_
    refine g4_size hC hw hk0 q1_170 dX4_digestedOnto_33 ?_
    refine lv_icmp_ge (tgt := 62) hC.1 hC.2.1 dX4_digestedOnto_36 (by decide) (fun b1 => ?_) (fun b1 => ?_)
    · have hF := ifP hF b1
      refine lv_lload_n hC.1 hC.2.1 dX4_digestedOnto_62 rfl (lv_at hl 1 rfl) ?_
      exact r_lretP hC hw hF dX4_digestedOnto_63
    · have hF := ifN hF b1
      refine lv_ldc2 (v := (31 : Int64)) hC.1 hC.2.1 hC.2.2.2.1 (hC.2.2.2.2.1 _ q4_109) dX4_digestedOnto_39 ?_
      refine lv_lload_n hC.1 hC.2.1 dX4_digestedOnto_42 rfl (lv_at hl 1 rfl) ?_
      refine lv_lmul hC.1 hC.2.1 dX4_digestedOnto_43 ?_
      refine lv_aload_n hC.1 hC.2.1 dX4_digestedOnto_44 rfl (lv_at hl 0 rfl) ?_
      refine g4_cells hC hw hk0 q1_172 dX4_digestedOnto_45 ?_
      refine lv_iload hC.1 hC.2.1 dX4_digestedOnto_48 (lv_at hl 2 rfl) ?_
      obtain ⟨r3, h2, hF⟩ := ob1S hF
      refine k_Ni (As := [.ref (ad G (c0 + 6)), .int x5]) (rest := [.long ((31 : Int64) * x3)]) hC hw (c_X6_read (M := M) (kdRc hk0) h2) ys_X6_read (k := 6) rfl ⟨rfl, rfl⟩ ⟨Nat.le_of_ble_eq_true rfl, Nat.le_of_ble_eq_true rfl⟩ ⟨Nat.zero_le _, Nat.zero_le _⟩ rfl rfl (Nat.le_of_ble_eq_true rfl) hl dX4_digestedOnto_50 (fun H locs hw => ?_)
      refine lv_i2l hC.1 hC.2.1 dX4_digestedOnto_53 rfl ?_
      refine lv_ladd hC.1 hC.2.1 dX4_digestedOnto_54 ?_
      refine lv_lstore_n (lv' := [(3, .long (((31 : Int64) * x3) + r3.toInt64)), (0, .ref (ad G c0)), (5, .int x5)]) hC.1 hC.2.1 dX4_digestedOnto_55 rfl hl (by decide) rfl (fun ls hl => ?_)
      refine lv_iinc (v := (x5 + (1 : Int32))) (lv' := [(5, .int (x5 + (1 : Int32))), (3, .long (((31 : Int64) * x3) + r3.toInt64)), (0, .ref (ad G c0))]) hC.1 hC.2.1 dX4_digestedOnto_56 hl (k := 2) rfl rfl (by decide) rfl (fun ls hl => ?_)
      refine lv_goto (tgt := 30) hC.1 hC.2.1 dX4_digestedOnto_59 (by decide) ?_
      exact ih hk0 hF hw (lv_sub hl [2, 1, 0] rfl)
def F_X4_digestedOnto (fu : Nat) (M : Mm) (c0 : Nat) (x1 : Int64) : Option Int64 :=
  if (M.1 c0 0) = 0 then
    some (((31 : Int64) * x1) - (1 : Int64))
  else
    lt1 (((31 : Int64) * x1) + (M.1 c0 1).toInt64) (fun y2 =>
    F_X4_digestedOnto_30 fu M fu c0 y2 (0 : Int32))
set_option maxRecDepth 100000 in
set_option maxHeartbeats 4000000 in
theorem c_X4_digestedOnto {l : Launch} {G : Gv} {fu : Nat} {M : Mm} {c0 : Nat} {x1 : Int64} (hk0 : kd c0 = 12) {r : Int64} (hF : F_X4_digestedOnto fu M c0 x1 = some r) : Met l yX4_digestedOnto (.code yX4_digestedOnto cX4_digestedOnto 6 (some .long) :: zU) rm_X4_digestedOnto (va_Pc [.ref (ad G c0), .long x1] (Wd G M)) (QL G r M) 0 0 (zA G) := by
  refine zMet (by decide) rfl (Nat.le_of_ble_eq_true rfl) ?_
  intro p e s m below meth c hC hw ls hl
  have hl : lv_has ls 6 [(0, .ref (ad G c0)), (1, .long x1)] := hl
  unfold F_X4_digestedOnto at hF
  refine lv_aload_n hC.1 hC.2.1 dX4_digestedOnto_0 rfl (lv_at hl 0 rfl) ?_
  refine g4_there hC hw hk0 q1_168 dX4_digestedOnto_1 ?_
  refine lv_if_ne (tgt := 15) hC.1 hC.2.1 dX4_digestedOnto_4 (by decide) (fun b1 => ?_) (fun b1 => ?_)
  · have hF := ifN hF b1
    refine lv_ldc2 (v := (31 : Int64)) hC.1 hC.2.1 hC.2.2.2.1 (hC.2.2.2.2.1 _ q4_109) dX4_digestedOnto_15 ?_
    refine lv_lload_n hC.1 hC.2.1 dX4_digestedOnto_18 rfl (lv_at hl 1 rfl) ?_
    refine lv_lmul hC.1 hC.2.1 dX4_digestedOnto_19 ?_
    refine lv_aload_n hC.1 hC.2.1 dX4_digestedOnto_20 rfl (lv_at hl 0 rfl) ?_
    refine g4_size hC hw hk0 q1_170 dX4_digestedOnto_21 ?_
    refine lv_i2l hC.1 hC.2.1 dX4_digestedOnto_24 rfl ?_
    refine lv_ladd hC.1 hC.2.1 dX4_digestedOnto_25 ?_
    refine lv_topl (fun y2 ey2 => ?_)
    have hF := lt1G hF ey2
    refine lv_lstore_n (lv' := [(3, .long y2), (0, .ref (ad G c0)), (1, .long x1)]) hC.1 hC.2.1 dX4_digestedOnto_26 rfl hl (by decide) rfl (fun ls hl => ?_)
    refine lv_iconst (v := (0 : Int32)) hC.1 hC.2.1 dX4_digestedOnto_27 (by decide) ?_
    refine lv_istore (lv' := [(5, .int (0 : Int32)), (3, .long y2), (0, .ref (ad G c0)), (1, .long x1)]) hC.1 hC.2.1 dX4_digestedOnto_28 hl (by decide) rfl (fun ls hl => ?_)
    exact w_X4_digestedOnto_30 hC _ hk0 hF hw (lv_sub hl [2, 1, 0] rfl)
  · have hF := ifP hF b1
    refine lv_ldc2 (v := (31 : Int64)) hC.1 hC.2.1 hC.2.2.2.1 (hC.2.2.2.2.1 _ q4_109) dX4_digestedOnto_7 ?_
    refine lv_lload_n hC.1 hC.2.1 dX4_digestedOnto_10 rfl (lv_at hl 1 rfl) ?_
    refine lv_lmul hC.1 hC.2.1 dX4_digestedOnto_11 ?_
    refine lv_lconst (v := (1 : Int64)) hC.1 hC.2.1 dX4_digestedOnto_12 (by decide) ?_
    refine lv_lsub hC.1 hC.2.1 dX4_digestedOnto_13 ?_
    exact r_lretP hC hw hF dX4_digestedOnto_14
abbrev rm_X5_renew : Room := { frames := 0, cells := 0, slots := 0, locals := 0 }
theorem yv_X5_renew : YV yX5_renew cX5_renew 3 none 1 RX5 := ⟨⟨q2_79, q2_80, q1_7, q2_81⟩, by decide +kernel⟩
theorem dX5_renew_0 : decode cX5_renew 0 = .ok (.aload_n 0, 1) := by decide +kernel
theorem dX5_renew_1 : decode cX5_renew 1 = .ok (.iconst 1, 1) := by decide +kernel
theorem dX5_renew_2 : decode cX5_renew 2 = .ok (.putfield 15, 3) := by decide +kernel
theorem dX5_renew_5 : decode cX5_renew 5 = .ok (.aload_n 0, 1) := by decide +kernel
theorem dX5_renew_6 : decode cX5_renew 6 = .ok (.iload_n 1, 1) := by decide +kernel
theorem dX5_renew_7 : decode cX5_renew 7 = .ok (.putfield 19, 3) := by decide +kernel
theorem dX5_renew_10 : decode cX5_renew 10 = .ok (.iconst 0, 1) := by decide +kernel
theorem dX5_renew_11 : decode cX5_renew 11 = .ok (.istore_n 2, 1) := by decide +kernel
theorem dX5_renew_12 : decode cX5_renew 12 = .ok (.iload_n 2, 1) := by decide +kernel
theorem dX5_renew_13 : decode cX5_renew 13 = .ok (.aload_n 0, 1) := by decide +kernel
theorem dX5_renew_14 : decode cX5_renew 14 = .ok (.getfield 9, 3) := by decide +kernel
theorem dX5_renew_17 : decode cX5_renew 17 = .ok (.arraylength, 1) := by decide +kernel
theorem dX5_renew_18 : decode cX5_renew 18 = .ok (.if_icmp .ge 17, 3) := by decide +kernel
theorem dX5_renew_21 : decode cX5_renew 21 = .ok (.aload_n 0, 1) := by decide +kernel
theorem dX5_renew_22 : decode cX5_renew 22 = .ok (.getfield 9, 3) := by decide +kernel
theorem dX5_renew_25 : decode cX5_renew 25 = .ok (.iload_n 2, 1) := by decide +kernel
theorem dX5_renew_26 : decode cX5_renew 26 = .ok (.bipush 32, 2) := by decide +kernel
theorem dX5_renew_28 : decode cX5_renew 28 = .ok (.bastore, 1) := by decide +kernel
theorem dX5_renew_29 : decode cX5_renew 29 = .ok (.iinc 2 1, 3) := by decide +kernel
theorem dX5_renew_32 : decode cX5_renew 32 = .ok (.goto (-20), 3) := by decide +kernel
theorem dX5_renew_35 : decode cX5_renew 35 = .ok (.return_, 1) := by decide +kernel
def F_X5_renew_12 (fu : Nat) : Nat → Mm → Nat → Int32 → Option Mm
  | 0, _, _, _ => none
  | n + 1, M, c0, x2 =>
    if (nI (ln (c0 + 4))) ≤ x2 then
      some M
    else
      if x2 < 0 ∨ ln (c0 + 4) ≤ x2.toNatClampNeg then none else (
      lt1 (pI M (c0 + 4) x2.toNatClampNeg (vp_nar .byte (32 : Int32))) (fun M3 =>
      F_X5_renew_12 fu n M3 c0 (x2 + (1 : Int32))))
set_option maxRecDepth 100000 in
set_option maxHeartbeats 4000000 in
theorem w_X5_renew_12 {p : Program} {l : Launch} {e : Env} {s : State} {m : MethodId} {args : Array Value} {below : List Frame} {meth : Method} {c : Code} {G : Gv} (hC : Cx p s m args meth c cX5_renew 3 none RX5) {fu : Nat} {M' : Mm} : ∀ (n : Nat) {c0 : Nat} {x2 : Int32} {M : Mm} {H : Heap} {locs : List Loc} {ls : Array Slot} (hk0 : kd c0 = 13), F_X5_renew_12 fu n M c0 x2 = some M' → St G s H locs M → lv_has ls 3 [(0, .ref (ad G c0)), (2, .int x2)] → W p l e rm_X5_renew s m args below meth c H locs 0 0 (MQ below (QV G M') args s 0 0 (zA G)) (F0 m 12 ls []) := by
  intro n
  induction n with
  | zero =>
    intro c0 x2 M H locs ls hk0 hF hw hl
    cases hF
  | succ n ih =>
    intro c0 x2 M H locs ls hk0 hF hw hl
    unfold F_X5_renew_12 at hF
    refine lv_iload_n hC.1 hC.2.1 dX5_renew_12 rfl (lv_at hl 1 rfl) ?_
    refine lv_aload_n hC.1 hC.2.1 dX5_renew_13 rfl (lv_at hl 0 rfl) ?_
    refine g5_signs hC hw hk0 q1_191 dX5_renew_14 ?_
    refine r_alenB hC.1 hC.2.1 hw (kdTc hk0) dX5_renew_17 ?_
    refine lv_icmp_ge (tgt := 35) hC.1 hC.2.1 dX5_renew_18 (by decide) (fun b1 => ?_) (fun b1 => ?_)
    · have hF := ifP hF b1
      exact r_vretE hC hw hF dX5_renew_35
    · have hF := ifN hF b1
      refine lv_aload_n hC.1 hC.2.1 dX5_renew_21 rfl (lv_at hl 0 rfl) ?_
      refine g5_signs hC hw hk0 q1_191 dX5_renew_22 ?_
      refine lv_iload_n hC.1 hC.2.1 dX5_renew_25 rfl (lv_at hl 1 rfl) ?_
      refine lv_bipush (v := (32 : Int32)) hC.1 hC.2.1 dX5_renew_26 (by decide) ?_
      obtain ⟨n2, hF⟩ := ifO hF
      refine r_bast hC.1 hC.2.1 hw (kdTc hk0) n2 dX5_renew_28 (fun H locs hw => ?_)
      obtain ⟨M3, hw, hF⟩ := lt1W hF hw
      refine lv_iinc (v := (x2 + (1 : Int32))) (lv' := [(2, .int (x2 + (1 : Int32))), (0, .ref (ad G c0))]) hC.1 hC.2.1 dX5_renew_29 hl (k := 1) rfl rfl (by decide) rfl (fun ls hl => ?_)
      refine lv_goto (tgt := 12) hC.1 hC.2.1 dX5_renew_32 (by decide) ?_
      exact ih hk0 hF hw (lv_sub hl [1, 0] rfl)
def F_X5_renew (fu : Nat) (M : Mm) (c0 : Nat) (x1 : Int32) : Option Mm :=
  lt1 (pI M c0 0 (1 : Int32)) (fun M1 =>
  lt1 (pI M1 c0 1 x1) (fun M2 =>
  F_X5_renew_12 fu fu M2 c0 (0 : Int32)))
set_option maxRecDepth 100000 in
set_option maxHeartbeats 4000000 in
theorem c_X5_renew {l : Launch} {G : Gv} {fu : Nat} {M : Mm} {c0 : Nat} {x1 : Int32} (hk0 : kd c0 = 13) {M' : Mm} (hF : F_X5_renew fu M c0 x1 = some M') : Met l yX5_renew (.code yX5_renew cX5_renew 3 none :: zU) rm_X5_renew (va_Pc [.ref (ad G c0), .int x1] (Wd G M)) (QV G M') 0 0 (zA G) := by
  refine zMet (by decide) rfl (Nat.le_of_ble_eq_true rfl) ?_
  intro p e s m below meth c hC hw ls hl
  have hl : lv_has ls 3 [(0, .ref (ad G c0)), (1, .int x1)] := hl
  unfold F_X5_renew at hF
  refine lv_aload_n hC.1 hC.2.1 dX5_renew_0 rfl (lv_at hl 0 rfl) ?_
  refine lv_iconst (v := (1 : Int32)) hC.1 hC.2.1 dX5_renew_1 (by decide) ?_
  refine u5_there hC hw hk0 (by decide) q1_186 dX5_renew_2 (fun H locs hw => ?_)
  obtain ⟨M1, hw, hF⟩ := lt1W hF hw
  refine lv_aload_n hC.1 hC.2.1 dX5_renew_5 rfl (lv_at hl 0 rfl) ?_
  refine lv_iload_n hC.1 hC.2.1 dX5_renew_6 rfl (lv_at hl 1 rfl) ?_
  refine u5_size hC hw hk0 q1_188 dX5_renew_7 (fun H locs hw => ?_)
  obtain ⟨M2, hw, hF⟩ := lt1W hF hw
  refine lv_iconst (v := (0 : Int32)) hC.1 hC.2.1 dX5_renew_10 (by decide) ?_
  refine lv_istore_n (lv' := [(2, .int (0 : Int32)), (0, .ref (ad G c0)), (1, .int x1)]) hC.1 hC.2.1 dX5_renew_11 rfl hl (by decide) rfl (fun ls hl => ?_)
  exact w_X5_renew_12 hC _ hk0 hF hw (lv_sub hl [1, 0] rfl)
abbrev rm_X5_change : Room := { frames := 0, cells := 0, slots := 0, locals := 0 }
theorem yv_X5_change : YV yX5_change cX5_change 3 none 2 RX5 := ⟨⟨q2_91, q2_92, q1_7, q2_93⟩, by decide +kernel⟩
theorem dX5_change_0 : decode cX5_change 0 = .ok (.iload_n 1, 1) := by decide +kernel
theorem dX5_change_1 : decode cX5_change 1 = .ok (.ifCond .lt 19, 3) := by decide +kernel
theorem dX5_change_4 : decode cX5_change 4 = .ok (.iload_n 1, 1) := by decide +kernel
theorem dX5_change_5 : decode cX5_change 5 = .ok (.aload_n 0, 1) := by decide +kernel
theorem dX5_change_6 : decode cX5_change 6 = .ok (.getfield 9, 3) := by decide +kernel
theorem dX5_change_9 : decode cX5_change 9 = .ok (.arraylength, 1) := by decide +kernel
theorem dX5_change_10 : decode cX5_change 10 = .ok (.if_icmp .ge 10, 3) := by decide +kernel
theorem dX5_change_13 : decode cX5_change 13 = .ok (.aload_n 0, 1) := by decide +kernel
theorem dX5_change_14 : decode cX5_change 14 = .ok (.getfield 9, 3) := by decide +kernel
theorem dX5_change_17 : decode cX5_change 17 = .ok (.iload_n 1, 1) := by decide +kernel
theorem dX5_change_18 : decode cX5_change 18 = .ok (.iload_n 2, 1) := by decide +kernel
theorem dX5_change_19 : decode cX5_change 19 = .ok (.bastore, 1) := by decide +kernel
theorem dX5_change_20 : decode cX5_change 20 = .ok (.return_, 1) := by decide +kernel
def F_X5_change (fu : Nat) (M : Mm) (c0 : Nat) (x1 : Int32) (x2 : Int32) : Option Mm :=
  if x1 < 0 then
    some M
  else
    if (nI (ln (c0 + 4))) ≤ x1 then
      some M
    else
      if x1 < 0 ∨ ln (c0 + 4) ≤ x1.toNatClampNeg then none else (
      lt1 (pI M (c0 + 4) x1.toNatClampNeg (vp_nar .byte x2)) (fun M4 =>
      some M4))
set_option maxRecDepth 100000 in
set_option maxHeartbeats 4000000 in
theorem c_X5_change {l : Launch} {G : Gv} {fu : Nat} {M : Mm} {c0 : Nat} {x1 : Int32} {x2 : Int32} (hk0 : kd c0 = 13) {M' : Mm} (hF : F_X5_change fu M c0 x1 x2 = some M') : Met l yX5_change (.code yX5_change cX5_change 3 none :: zU) rm_X5_change (va_Pc [.ref (ad G c0), .int x1, .int x2] (Wd G M)) (QV G M') 0 0 (zA G) := by
  refine zMet (by decide) rfl (Nat.le_of_ble_eq_true rfl) ?_
  intro p e s m below meth c hC hw ls hl
  have hl : lv_has ls 3 [(0, .ref (ad G c0)), (1, .int x1), (2, .int x2)] := hl
  unfold F_X5_change at hF
  refine lv_iload_n hC.1 hC.2.1 dX5_change_0 rfl (lv_at hl 1 rfl) ?_
  refine lv_if_lt (tgt := 20) hC.1 hC.2.1 dX5_change_1 (by decide) (fun b1 => ?_) (fun b1 => ?_)
  · have hF := ifP hF b1
    exact r_vretE hC hw hF dX5_change_20
  · have hF := ifN hF b1
    refine lv_iload_n hC.1 hC.2.1 dX5_change_4 rfl (lv_at hl 1 rfl) ?_
    refine lv_aload_n hC.1 hC.2.1 dX5_change_5 rfl (lv_at hl 0 rfl) ?_
    refine g5_signs hC hw hk0 q1_191 dX5_change_6 ?_
    refine r_alenB hC.1 hC.2.1 hw (kdTc hk0) dX5_change_9 ?_
    refine lv_icmp_ge (tgt := 20) hC.1 hC.2.1 dX5_change_10 (by decide) (fun b2 => ?_) (fun b2 => ?_)
    · have hF := ifP hF b2
      exact r_vretE hC hw hF dX5_change_20
    · have hF := ifN hF b2
      refine lv_aload_n hC.1 hC.2.1 dX5_change_13 rfl (lv_at hl 0 rfl) ?_
      refine g5_signs hC hw hk0 q1_191 dX5_change_14 ?_
      refine lv_iload_n hC.1 hC.2.1 dX5_change_17 rfl (lv_at hl 1 rfl) ?_
      refine lv_iload_n hC.1 hC.2.1 dX5_change_18 rfl (lv_at hl 2 rfl) ?_
      obtain ⟨n3, hF⟩ := ifO hF
      refine r_bast hC.1 hC.2.1 hw (kdTc hk0) n3 dX5_change_19 (fun H locs hw => ?_)
      obtain ⟨M4, hw, hF⟩ := lt1W hF hw
      exact r_vretE hC hw hF dX5_change_20
abbrev rm_X5_digestedOnto : Room := { frames := 1, cells := 0, slots := 0, locals := 21 }
theorem yv_X5_digestedOnto : YV yX5_digestedOnto cX5_digestedOnto 6 (some .long) 1 RX5 := ⟨⟨q4_111, q4_112, q1_7, q4_113⟩, by decide +kernel⟩
theorem dX5_digestedOnto_0 : decode cX5_digestedOnto 0 = .ok (.aload_n 0, 1) := by decide +kernel
theorem dX5_digestedOnto_1 : decode cX5_digestedOnto 1 = .ok (.getfield 15, 3) := by decide +kernel
theorem dX5_digestedOnto_4 : decode cX5_digestedOnto 4 = .ok (.ifCond .ne 11, 3) := by decide +kernel
theorem dX5_digestedOnto_7 : decode cX5_digestedOnto 7 = .ok (.ldc2_w 23, 3) := by decide +kernel
theorem dX5_digestedOnto_10 : decode cX5_digestedOnto 10 = .ok (.lload_n 1, 1) := by decide +kernel
theorem dX5_digestedOnto_11 : decode cX5_digestedOnto 11 = .ok (.lmul, 1) := by decide +kernel
theorem dX5_digestedOnto_12 : decode cX5_digestedOnto 12 = .ok (.lconst 1, 1) := by decide +kernel
theorem dX5_digestedOnto_13 : decode cX5_digestedOnto 13 = .ok (.lsub, 1) := by decide +kernel
theorem dX5_digestedOnto_14 : decode cX5_digestedOnto 14 = .ok (.lreturn, 1) := by decide +kernel
theorem dX5_digestedOnto_15 : decode cX5_digestedOnto 15 = .ok (.ldc2_w 23, 3) := by decide +kernel
theorem dX5_digestedOnto_18 : decode cX5_digestedOnto 18 = .ok (.lload_n 1, 1) := by decide +kernel
theorem dX5_digestedOnto_19 : decode cX5_digestedOnto 19 = .ok (.lmul, 1) := by decide +kernel
theorem dX5_digestedOnto_20 : decode cX5_digestedOnto 20 = .ok (.aload_n 0, 1) := by decide +kernel
theorem dX5_digestedOnto_21 : decode cX5_digestedOnto 21 = .ok (.getfield 19, 3) := by decide +kernel
theorem dX5_digestedOnto_24 : decode cX5_digestedOnto 24 = .ok (.i2l, 1) := by decide +kernel
theorem dX5_digestedOnto_25 : decode cX5_digestedOnto 25 = .ok (.ladd, 1) := by decide +kernel
theorem dX5_digestedOnto_26 : decode cX5_digestedOnto 26 = .ok (.lstore_n 3, 1) := by decide +kernel
theorem dX5_digestedOnto_27 : decode cX5_digestedOnto 27 = .ok (.iconst 0, 1) := by decide +kernel
theorem dX5_digestedOnto_28 : decode cX5_digestedOnto 28 = .ok (.istore 5, 2) := by decide +kernel
theorem dX5_digestedOnto_30 : decode cX5_digestedOnto 30 = .ok (.iload 5, 2) := by decide +kernel
theorem dX5_digestedOnto_32 : decode cX5_digestedOnto 32 = .ok (.aload_n 0, 1) := by decide +kernel
theorem dX5_digestedOnto_33 : decode cX5_digestedOnto 33 = .ok (.getfield 19, 3) := by decide +kernel
theorem dX5_digestedOnto_36 : decode cX5_digestedOnto 36 = .ok (.if_icmp .ge 23, 3) := by decide +kernel
theorem dX5_digestedOnto_39 : decode cX5_digestedOnto 39 = .ok (.ldc2_w 23, 3) := by decide +kernel
theorem dX5_digestedOnto_42 : decode cX5_digestedOnto 42 = .ok (.lload_n 3, 1) := by decide +kernel
theorem dX5_digestedOnto_43 : decode cX5_digestedOnto 43 = .ok (.lmul, 1) := by decide +kernel
theorem dX5_digestedOnto_44 : decode cX5_digestedOnto 44 = .ok (.aload_n 0, 1) := by decide +kernel
theorem dX5_digestedOnto_45 : decode cX5_digestedOnto 45 = .ok (.iload 5, 2) := by decide +kernel
theorem dX5_digestedOnto_47 : decode cX5_digestedOnto 47 = .ok (.invokevirtual 25, 3) := by decide +kernel
theorem dX5_digestedOnto_50 : decode cX5_digestedOnto 50 = .ok (.i2l, 1) := by decide +kernel
theorem dX5_digestedOnto_51 : decode cX5_digestedOnto 51 = .ok (.ladd, 1) := by decide +kernel
theorem dX5_digestedOnto_52 : decode cX5_digestedOnto 52 = .ok (.lstore_n 3, 1) := by decide +kernel
theorem dX5_digestedOnto_53 : decode cX5_digestedOnto 53 = .ok (.iinc 5 1, 3) := by decide +kernel
theorem dX5_digestedOnto_56 : decode cX5_digestedOnto 56 = .ok (.goto (-26), 3) := by decide +kernel
theorem dX5_digestedOnto_59 : decode cX5_digestedOnto 59 = .ok (.lload_n 3, 1) := by decide +kernel
theorem dX5_digestedOnto_60 : decode cX5_digestedOnto 60 = .ok (.lreturn, 1) := by decide +kernel
def F_X5_digestedOnto_30 (fu : Nat) (M : Mm) : Nat → Nat → Int64 → Int32 → Option Int64
  | 0, _, _, _ => none
  | n + 1, c0, x3, x5 =>
    if (M.1 c0 1) ≤ x5 then
      some x3
    else
      ob1 (F_X5_sign fu M c0 x5) (fun r3 =>
      F_X5_digestedOnto_30 fu M n c0 (((31 : Int64) * x3) + r3.toInt64) (x5 + (1 : Int32)))
set_option maxRecDepth 100000 in
set_option maxHeartbeats 4000000 in
theorem w_X5_digestedOnto_30 {p : Program} {l : Launch} {e : Env} {s : State} {m : MethodId} {args : Array Value} {below : List Frame} {meth : Method} {c : Code} {G : Gv} (hC : Cx p s m args meth c cX5_digestedOnto 6 (some .long) RX5) {fu : Nat} {r : Int64} {M : Mm} : ∀ (n : Nat) {c0 : Nat} {x3 : Int64} {x5 : Int32} {H : Heap} {locs : List Loc} {ls : Array Slot} (hk0 : kd c0 = 13), F_X5_digestedOnto_30 fu M n c0 x3 x5 = some r → St G s H locs M → lv_has ls 6 [(0, .ref (ad G c0)), (3, .long x3), (5, .int x5)] → W p l e rm_X5_digestedOnto s m args below meth c H locs 0 0 (MQ below (QL G r M) args s 0 0 (zA G)) (F0 m 30 ls []) := by
  intro n
  induction n with
  | zero =>
    intro c0 x3 x5 H locs ls hk0 hF hw hl
    cases hF
  | succ n ih =>
    intro c0 x3 x5 H locs ls hk0 hF hw hl
    unfold F_X5_digestedOnto_30 at hF
    refine lv_iload hC.1 hC.2.1 dX5_digestedOnto_30 (lv_at hl 2 rfl) ?_
    refine lv_aload_n hC.1 hC.2.1 dX5_digestedOnto_32 rfl (lv_at hl 0 rfl) ?_
    refine g5_size hC hw hk0 q1_188 dX5_digestedOnto_33 ?_
    refine lv_icmp_ge (tgt := 59) hC.1 hC.2.1 dX5_digestedOnto_36 (by decide) (fun b1 => ?_) (fun b1 => ?_)
    · have hF := ifP hF b1
      refine lv_lload_n hC.1 hC.2.1 dX5_digestedOnto_59 rfl (lv_at hl 1 rfl) ?_
      exact r_lretP hC hw hF dX5_digestedOnto_60
    · have hF := ifN hF b1
      refine lv_ldc2 (v := (31 : Int64)) hC.1 hC.2.1 hC.2.2.2.1 (hC.2.2.2.2.1 _ q4_114) dX5_digestedOnto_39 ?_
      refine lv_lload_n hC.1 hC.2.1 dX5_digestedOnto_42 rfl (lv_at hl 1 rfl) ?_
      refine lv_lmul hC.1 hC.2.1 dX5_digestedOnto_43 ?_
      refine lv_aload_n hC.1 hC.2.1 dX5_digestedOnto_44 rfl (lv_at hl 0 rfl) ?_
      refine lv_iload hC.1 hC.2.1 dX5_digestedOnto_45 (lv_at hl 2 rfl) ?_
      obtain ⟨r3, h2, hF⟩ := ob1S hF
      refine k_Vi (As := [.int x5]) (rest := [.long ((31 : Int64) * x3)]) hC hw (c_X5_sign (M := M) hk0 h2) (RC_T hk0) yv_X5_sign q4_115 ⟨rfl, rfl⟩ ⟨Nat.le_of_ble_eq_true rfl, Nat.le_of_ble_eq_true rfl⟩ ⟨Nat.zero_le _, Nat.zero_le _⟩ rfl rfl (Nat.le_of_ble_eq_true rfl) hl dX5_digestedOnto_47 (fun H locs hw => ?_)
      refine lv_i2l hC.1 hC.2.1 dX5_digestedOnto_50 rfl ?_
      refine lv_ladd hC.1 hC.2.1 dX5_digestedOnto_51 ?_
      refine lv_lstore_n (lv' := [(3, .long (((31 : Int64) * x3) + r3.toInt64)), (0, .ref (ad G c0)), (5, .int x5)]) hC.1 hC.2.1 dX5_digestedOnto_52 rfl hl (by decide) rfl (fun ls hl => ?_)
      refine lv_iinc (v := (x5 + (1 : Int32))) (lv' := [(5, .int (x5 + (1 : Int32))), (3, .long (((31 : Int64) * x3) + r3.toInt64)), (0, .ref (ad G c0))]) hC.1 hC.2.1 dX5_digestedOnto_53 hl (k := 2) rfl rfl (by decide) rfl (fun ls hl => ?_)
      refine lv_goto (tgt := 30) hC.1 hC.2.1 dX5_digestedOnto_56 (by decide) ?_
      exact ih hk0 hF hw (lv_sub hl [2, 1, 0] rfl)
def F_X5_digestedOnto (fu : Nat) (M : Mm) (c0 : Nat) (x1 : Int64) : Option Int64 :=
  if (M.1 c0 0) = 0 then
    some (((31 : Int64) * x1) - (1 : Int64))
  else
    lt1 (((31 : Int64) * x1) + (M.1 c0 1).toInt64) (fun y2 =>
    F_X5_digestedOnto_30 fu M fu c0 y2 (0 : Int32))
set_option maxRecDepth 100000 in
set_option maxHeartbeats 4000000 in
theorem c_X5_digestedOnto {l : Launch} {G : Gv} {fu : Nat} {M : Mm} {c0 : Nat} {x1 : Int64} (hk0 : kd c0 = 13) {r : Int64} (hF : F_X5_digestedOnto fu M c0 x1 = some r) : Met l yX5_digestedOnto (.code yX5_digestedOnto cX5_digestedOnto 6 (some .long) :: zU) rm_X5_digestedOnto (va_Pc [.ref (ad G c0), .long x1] (Wd G M)) (QL G r M) 0 0 (zA G) := by
  refine zMet (by decide) rfl (Nat.le_of_ble_eq_true rfl) ?_
  intro p e s m below meth c hC hw ls hl
  have hl : lv_has ls 6 [(0, .ref (ad G c0)), (1, .long x1)] := hl
  unfold F_X5_digestedOnto at hF
  refine lv_aload_n hC.1 hC.2.1 dX5_digestedOnto_0 rfl (lv_at hl 0 rfl) ?_
  refine g5_there hC hw hk0 q1_186 dX5_digestedOnto_1 ?_
  refine lv_if_ne (tgt := 15) hC.1 hC.2.1 dX5_digestedOnto_4 (by decide) (fun b1 => ?_) (fun b1 => ?_)
  · have hF := ifN hF b1
    refine lv_ldc2 (v := (31 : Int64)) hC.1 hC.2.1 hC.2.2.2.1 (hC.2.2.2.2.1 _ q4_114) dX5_digestedOnto_15 ?_
    refine lv_lload_n hC.1 hC.2.1 dX5_digestedOnto_18 rfl (lv_at hl 1 rfl) ?_
    refine lv_lmul hC.1 hC.2.1 dX5_digestedOnto_19 ?_
    refine lv_aload_n hC.1 hC.2.1 dX5_digestedOnto_20 rfl (lv_at hl 0 rfl) ?_
    refine g5_size hC hw hk0 q1_188 dX5_digestedOnto_21 ?_
    refine lv_i2l hC.1 hC.2.1 dX5_digestedOnto_24 rfl ?_
    refine lv_ladd hC.1 hC.2.1 dX5_digestedOnto_25 ?_
    refine lv_topl (fun y2 ey2 => ?_)
    have hF := lt1G hF ey2
    refine lv_lstore_n (lv' := [(3, .long y2), (0, .ref (ad G c0)), (1, .long x1)]) hC.1 hC.2.1 dX5_digestedOnto_26 rfl hl (by decide) rfl (fun ls hl => ?_)
    refine lv_iconst (v := (0 : Int32)) hC.1 hC.2.1 dX5_digestedOnto_27 (by decide) ?_
    refine lv_istore (lv' := [(5, .int (0 : Int32)), (3, .long y2), (0, .ref (ad G c0)), (1, .long x1)]) hC.1 hC.2.1 dX5_digestedOnto_28 hl (by decide) rfl (fun ls hl => ?_)
    exact w_X5_digestedOnto_30 hC _ hk0 hF hw (lv_sub hl [2, 1, 0] rfl)
  · have hF := ifP hF b1
    refine lv_ldc2 (v := (31 : Int64)) hC.1 hC.2.1 hC.2.2.2.1 (hC.2.2.2.2.1 _ q4_114) dX5_digestedOnto_7 ?_
    refine lv_lload_n hC.1 hC.2.1 dX5_digestedOnto_10 rfl (lv_at hl 1 rfl) ?_
    refine lv_lmul hC.1 hC.2.1 dX5_digestedOnto_11 ?_
    refine lv_lconst (v := (1 : Int64)) hC.1 hC.2.1 dX5_digestedOnto_12 (by decide) ?_
    refine lv_lsub hC.1 hC.2.1 dX5_digestedOnto_13 ?_
    exact r_lretP hC hw hF dX5_digestedOnto_14
abbrev rm_X6_rowOf : Room := { frames := 0, cells := 0, slots := 0, locals := 0 }
theorem yv_X6_rowOf : YV yX6_rowOf cX6_rowOf 2 (Option.some (.object "SnowCitizens$Row")) 1 RX6 := ⟨⟨q2_18, qs_0, q1_1, q2_19⟩, by decide +kernel⟩
theorem dX6_rowOf_0 : decode cX6_rowOf 0 = .ok (.iload_n 1, 1) := by decide +kernel
theorem dX6_rowOf_1 : decode cX6_rowOf 1 = .ok (.ifCond .lt 21, 3) := by decide +kernel
theorem dX6_rowOf_4 : decode cX6_rowOf 4 = .ok (.iload_n 1, 1) := by decide +kernel
theorem dX6_rowOf_5 : decode cX6_rowOf 5 = .ok (.aload_n 0, 1) := by decide +kernel
theorem dX6_rowOf_6 : decode cX6_rowOf 6 = .ok (.getfield 11, 3) := by decide +kernel
theorem dX6_rowOf_9 : decode cX6_rowOf 9 = .ok (.arraylength, 1) := by decide +kernel
theorem dX6_rowOf_10 : decode cX6_rowOf 10 = .ok (.if_icmp .ge 12, 3) := by decide +kernel
theorem dX6_rowOf_13 : decode cX6_rowOf 13 = .ok (.aload_n 0, 1) := by decide +kernel
theorem dX6_rowOf_14 : decode cX6_rowOf 14 = .ok (.getfield 11, 3) := by decide +kernel
theorem dX6_rowOf_17 : decode cX6_rowOf 17 = .ok (.iload_n 1, 1) := by decide +kernel
theorem dX6_rowOf_18 : decode cX6_rowOf 18 = .ok (.aaload, 1) := by decide +kernel
theorem dX6_rowOf_19 : decode cX6_rowOf 19 = .ok (.goto 4, 3) := by decide +kernel
theorem dX6_rowOf_22 : decode cX6_rowOf 22 = .ok (.aconst_null, 1) := by decide +kernel
theorem dX6_rowOf_23 : decode cX6_rowOf 23 = .ok (.areturn, 1) := by decide +kernel
def F_X6_rowOf (fu : Nat) (M : Mm) (x1 : Int32) : Option (Option Nat) :=
  if x1 < 0 then
    some none
  else
    if (6 : Int32) ≤ x1 then
      some none
    else
      if x1 < 0 ∨ 6 ≤ x1.toNatClampNeg then none else (
      some (some (1 + x1.toNatClampNeg)))
set_option maxRecDepth 100000 in
set_option maxHeartbeats 4000000 in
theorem c_X6_rowOf {l : Launch} {G : Gv} {fu : Nat} {M : Mm} {x1 : Int32} {r : Option Nat} (hF : F_X6_rowOf fu M x1 = some r) : Met l yX6_rowOf (.code yX6_rowOf cX6_rowOf 2 (Option.some (.object "SnowCitizens$Row")) :: zU) rm_X6_rowOf (va_Pc [.ref (ad G 0), .int x1] (Wd G M)) (QQ G r M) 0 0 (zA G) := by
  refine zMet (by decide) rfl (Nat.le_of_ble_eq_true rfl) ?_
  intro p e s m below meth c hC hw ls hl
  have hl : lv_has ls 2 [(0, .ref (ad G 0)), (1, .int x1)] := hl
  unfold F_X6_rowOf at hF
  refine lv_iload_n hC.1 hC.2.1 dX6_rowOf_0 rfl (lv_at hl 1 rfl) ?_
  refine lv_if_lt (tgt := 22) hC.1 hC.2.1 dX6_rowOf_1 (by decide) (fun b1 => ?_) (fun b1 => ?_)
  · have hF := ifP hF b1
    refine lv_null hC.1 hC.2.1 dX6_rowOf_22 ?_
    exact r_nretP hC hw hF dX6_rowOf_23
  · have hF := ifN hF b1
    refine lv_iload_n hC.1 hC.2.1 dX6_rowOf_4 rfl (lv_at hl 1 rfl) ?_
    refine lv_aload_n hC.1 hC.2.1 dX6_rowOf_5 rfl (lv_at hl 0 rfl) ?_
    refine g6_rows hC hw q1_200 dX6_rowOf_6 ?_
    refine r_alenR hC.1 hC.2.1 hw dX6_rowOf_9 ?_
    refine lv_icmp_ge (tgt := 22) hC.1 hC.2.1 dX6_rowOf_10 (by decide) (fun b2 => ?_) (fun b2 => ?_)
    · have hF := ifP hF b2
      refine lv_null hC.1 hC.2.1 dX6_rowOf_22 ?_
      exact r_nretP hC hw hF dX6_rowOf_23
    · have hF := ifN hF b2
      refine lv_aload_n hC.1 hC.2.1 dX6_rowOf_13 rfl (lv_at hl 0 rfl) ?_
      refine g6_rows hC hw q1_200 dX6_rowOf_14 ?_
      refine lv_iload_n hC.1 hC.2.1 dX6_rowOf_17 rfl (lv_at hl 1 rfl) ?_
      obtain ⟨n3, hF⟩ := ifO hF
      refine r_aldR hC.1 hC.2.1 hw n3 dX6_rowOf_18 ?_
      refine lv_goto (tgt := 23) hC.1 hC.2.1 dX6_rowOf_19 (by decide) ?_
      exact r_aretP hC hw hF dX6_rowOf_23
abbrev rm_X6_found : Room := { frames := 1, cells := 0, slots := 0, locals := 22 }
theorem yv_X6_found : YV yX6_found cX6_found 2 (some .int) 1 RX6 := ⟨⟨q2_22, qs_1, q1_1, q2_23⟩, by decide +kernel⟩
theorem dX6_found_0 : decode cX6_found 0 = .ok (.aload_n 0, 1) := by decide +kernel
theorem dX6_found_1 : decode cX6_found 1 = .ok (.iload_n 1, 1) := by decide +kernel
theorem dX6_found_2 : decode cX6_found 2 = .ok (.putfield 347, 3) := by decide +kernel
theorem dX6_found_5 : decode cX6_found 5 = .ok (.aload_n 0, 1) := by decide +kernel
theorem dX6_found_6 : decode cX6_found 6 = .ok (.getfield 53, 3) := by decide +kernel
theorem dX6_found_9 : decode cX6_found 9 = .ok (.iload_n 1, 1) := by decide +kernel
theorem dX6_found_10 : decode cX6_found 10 = .ok (.aload_n 0, 1) := by decide +kernel
theorem dX6_found_11 : decode cX6_found 11 = .ok (.getfield 53, 3) := by decide +kernel
theorem dX6_found_14 : decode cX6_found 14 = .ok (.iload_n 1, 1) := by decide +kernel
theorem dX6_found_15 : decode cX6_found 15 = .ok (.invokestatic 101, 3) := by decide +kernel
theorem dX6_found_18 : decode cX6_found 18 = .ok (.iconst 1, 1) := by decide +kernel
theorem dX6_found_19 : decode cX6_found 19 = .ok (.iadd, 1) := by decide +kernel
theorem dX6_found_20 : decode cX6_found 20 = .ok (.invokestatic 105, 3) := by decide +kernel
theorem dX6_found_23 : decode cX6_found 23 = .ok (.bipush (-3), 2) := by decide +kernel
theorem dX6_found_25 : decode cX6_found 25 = .ok (.ireturn, 1) := by decide +kernel
def F_X6_found (fu : Nat) (M : Mm) (x1 : Int32) : Option (Int32 × Mm) :=
  lt1 (pI M 0 8 x1) (fun M1 =>
  ob1 (F_X6_read fu M1 80 x1) (fun r3 =>
  ob1 (F_X6_write fu M1 80 x1 (r3 + (1 : Int32))) (fun M5 =>
  some ((-3 : Int32), M5))))
set_option maxRecDepth 100000 in
set_option maxHeartbeats 4000000 in
theorem c_X6_found {l : Launch} {G : Gv} {fu : Nat} {M : Mm} {x1 : Int32} {r : Int32} {M' : Mm} (hF : F_X6_found fu M x1 = some (r, M')) : Met l yX6_found (.code yX6_found cX6_found 2 (some .int) :: zU) rm_X6_found (va_Pc [.ref (ad G 0), .int x1] (Wd G M)) (QI G r M') 0 0 (zA G) := by
  refine zMet (by decide) rfl (Nat.le_of_ble_eq_true rfl) ?_
  intro p e s m below meth c hC hw ls hl
  have hl : lv_has ls 2 [(0, .ref (ad G 0)), (1, .int x1)] := hl
  unfold F_X6_found at hF
  refine lv_aload_n hC.1 hC.2.1 dX6_found_0 rfl (lv_at hl 0 rfl) ?_
  refine lv_iload_n hC.1 hC.2.1 dX6_found_1 rfl (lv_at hl 1 rfl) ?_
  refine u6_latestFinding hC hw q1_208 dX6_found_2 (fun H locs hw => ?_)
  obtain ⟨M1, hw, hF⟩ := lt1W hF hw
  refine lv_aload_n hC.1 hC.2.1 dX6_found_5 rfl (lv_at hl 0 rfl) ?_
  refine g6_findingCounts hC hw q1_207 dX6_found_6 ?_
  refine lv_iload_n hC.1 hC.2.1 dX6_found_9 rfl (lv_at hl 1 rfl) ?_
  refine lv_aload_n hC.1 hC.2.1 dX6_found_10 rfl (lv_at hl 0 rfl) ?_
  refine g6_findingCounts hC hw q1_207 dX6_found_11 ?_
  refine lv_iload_n hC.1 hC.2.1 dX6_found_14 rfl (lv_at hl 1 rfl) ?_
  obtain ⟨r3, h2, hF⟩ := ob1S hF
  refine k_Si (As := [.ref (ad G 80), .int x1]) (rest := [.int x1, .ref (ad G 80)]) hC hw (c_X6_read (M := M1) (rfl : kd 80 = 1) h2) ys_X6_read q2_24 ⟨rfl, rfl⟩ ⟨Nat.le_of_ble_eq_true rfl, Nat.le_of_ble_eq_true rfl⟩ ⟨Nat.zero_le _, Nat.zero_le _⟩ rfl rfl (Nat.le_of_ble_eq_true rfl) hl dX6_found_15 (fun H locs hw => ?_)
  refine lv_iconst (v := (1 : Int32)) hC.1 hC.2.1 dX6_found_18 (by decide) ?_
  refine lv_iadd hC.1 hC.2.1 dX6_found_19 ?_
  obtain ⟨M5, h4, hF⟩ := ob1S hF
  refine k_Sv (As := [.ref (ad G 80), .int x1, .int (r3 + (1 : Int32))]) (rest := []) hC hw (c_X6_write (M := M1) (rfl : kd 80 = 1) h4) ys_X6_write q2_27 ⟨rfl, rfl⟩ ⟨Nat.le_of_ble_eq_true rfl, Nat.le_of_ble_eq_true rfl⟩ ⟨Nat.zero_le _, Nat.zero_le _⟩ rfl rfl (Nat.le_of_ble_eq_true rfl) hl dX6_found_20 (fun H locs hw => ?_)
  refine lv_bipush (v := (-3 : Int32)) hC.1 hC.2.1 dX6_found_23 (by decide) ?_
  exact r_iretE hC hw hF dX6_found_25
abbrev rm_X6_row : Room := { frames := 2, cells := 0, slots := 0, locals := 43 }
theorem yv_X6_row : YV yX6_row cX6_row 4 (some .int) 2 RX6 := ⟨⟨q2_13, q2_14, q1_1, q2_15⟩, by decide +kernel⟩
theorem dX6_row_0 : decode cX6_row 0 = .ok (.aload_n 0, 1) := by decide +kernel
theorem dX6_row_1 : decode cX6_row 1 = .ok (.iload_n 1, 1) := by decide +kernel
theorem dX6_row_2 : decode cX6_row 2 = .ok (.invokevirtual 78, 3) := by decide +kernel
theorem dX6_row_5 : decode cX6_row 5 = .ok (.astore_n 3, 1) := by decide +kernel
theorem dX6_row_6 : decode cX6_row 6 = .ok (.aload_n 3, 1) := by decide +kernel
theorem dX6_row_7 : decode cX6_row 7 = .ok (.ifnull 9, 3) := by decide +kernel
theorem dX6_row_10 : decode cX6_row 10 = .ok (.iload_n 2, 1) := by decide +kernel
theorem dX6_row_11 : decode cX6_row 11 = .ok (.bipush 40, 2) := by decide +kernel
theorem dX6_row_13 : decode cX6_row 13 = .ok (.if_icmp .le 5, 3) := by decide +kernel
theorem dX6_row_16 : decode cX6_row 16 = .ok (.iconst (-1), 1) := by decide +kernel
theorem dX6_row_17 : decode cX6_row 17 = .ok (.ireturn, 1) := by decide +kernel
theorem dX6_row_18 : decode cX6_row 18 = .ok (.iload_n 2, 1) := by decide +kernel
theorem dX6_row_19 : decode cX6_row 19 = .ok (.ifCond .ge 9, 3) := by decide +kernel
theorem dX6_row_22 : decode cX6_row 22 = .ok (.aload_n 0, 1) := by decide +kernel
theorem dX6_row_23 : decode cX6_row 23 = .ok (.iconst 5, 1) := by decide +kernel
theorem dX6_row_24 : decode cX6_row 24 = .ok (.invokevirtual 82, 3) := by decide +kernel
theorem dX6_row_27 : decode cX6_row 27 = .ok (.ireturn, 1) := by decide +kernel
theorem dX6_row_28 : decode cX6_row 28 = .ok (.aload_n 3, 1) := by decide +kernel
theorem dX6_row_29 : decode cX6_row 29 = .ok (.iload_n 2, 1) := by decide +kernel
theorem dX6_row_30 : decode cX6_row 30 = .ok (.invokevirtual 86, 3) := by decide +kernel
theorem dX6_row_33 : decode cX6_row 33 = .ok (.iload_n 2, 1) := by decide +kernel
theorem dX6_row_34 : decode cX6_row 34 = .ok (.ireturn, 1) := by decide +kernel
def F_X6_row (fu : Nat) (M : Mm) (x1 : Int32) (x2 : Int32) : Option (Int32 × Mm) :=
  ob1 (F_X6_rowOf fu M x1) (fun r2 =>
  op1 r2 (
    some ((-1 : Int32), M)) (fun c3 =>
    if ¬ kd c3 = 12 then none else (
    if x2 ≤ (40 : Int32) then
      if 0 ≤ x2 then
        ob1 (F_X4_renew fu M c3 x2) (fun M8 =>
        some (x2, M8))
      else
        ob2 (F_X6_found fu M (5 : Int32)) (fun r10 M11 =>
        some (r10, M11))
    else
      some ((-1 : Int32), M))))
set_option maxRecDepth 100000 in
set_option maxHeartbeats 4000000 in
theorem c_X6_row {l : Launch} {G : Gv} {fu : Nat} {M : Mm} {x1 : Int32} {x2 : Int32} {r : Int32} {M' : Mm} (hF : F_X6_row fu M x1 x2 = some (r, M')) : Met l yX6_row (.code yX6_row cX6_row 4 (some .int) :: zU) rm_X6_row (va_Pc [.ref (ad G 0), .int x1, .int x2] (Wd G M)) (QI G r M') 0 0 (zA G) := by
  refine zMet (by decide) rfl (Nat.le_of_ble_eq_true rfl) ?_
  intro p e s m below meth c hC hw ls hl
  have hl : lv_has ls 4 [(0, .ref (ad G 0)), (1, .int x1), (2, .int x2)] := hl
  unfold F_X6_row at hF
  refine lv_aload_n hC.1 hC.2.1 dX6_row_0 rfl (lv_at hl 0 rfl) ?_
  refine lv_iload_n hC.1 hC.2.1 dX6_row_1 rfl (lv_at hl 1 rfl) ?_
  obtain ⟨r2, h1, hF⟩ := ob1S hF
  refine k_Vq (As := [.int x1]) (rest := []) hC hw (c_X6_rowOf (M := M) h1) RC_S yv_X6_rowOf q2_16 ⟨rfl, rfl⟩ ⟨Nat.le_of_ble_eq_true rfl, Nat.le_of_ble_eq_true rfl⟩ ⟨Nat.zero_le _, Nat.zero_le _⟩ rfl rfl (Nat.le_of_ble_eq_true rfl) hl dX6_row_2 (fun H locs hw => ?_)
  cases r2 with
  | none =>
    have hF := op1N hF
    refine topN ?_
    refine lv_astore_nN (lv' := [(3, .null), (0, .ref (ad G 0)), (1, .int x1), (2, .int x2)]) hC.1 hC.2.1 dX6_row_5 rfl hl (by decide) rfl (fun ls hl => ?_)
    refine lv_aload_nN hC.1 hC.2.1 dX6_row_6 rfl (lv_at hl 0 rfl) ?_
    refine lv_ifnullN (tgt := 16) hC.1 hC.2.1 dX6_row_7 (by decide) ?_
    refine lv_iconst (v := (-1 : Int32)) hC.1 hC.2.1 dX6_row_16 (by decide) ?_
    exact r_iretE hC hw hF dX6_row_17
  | some c3 =>
    obtain ⟨g4, hF⟩ := ifO (op1C hF)
    have g4 := Decidable.not_not.mp g4
    refine topC ?_
    refine lv_astore_n (lv' := [(3, .ref (ad G c3)), (0, .ref (ad G 0)), (1, .int x1), (2, .int x2)]) hC.1 hC.2.1 dX6_row_5 rfl hl (by decide) rfl (fun ls hl => ?_)
    refine lv_aload_n hC.1 hC.2.1 dX6_row_6 rfl (lv_at hl 0 rfl) ?_
    refine lv_ifnull hC.1 hC.2.1 dX6_row_7 ?_
    refine lv_iload_n hC.1 hC.2.1 dX6_row_10 rfl (lv_at hl 3 rfl) ?_
    refine lv_bipush (v := (40 : Int32)) hC.1 hC.2.1 dX6_row_11 (by decide) ?_
    refine lv_icmp_le (tgt := 18) hC.1 hC.2.1 dX6_row_13 (by decide) (fun b5 => ?_) (fun b5 => ?_)
    · have hF := ifP hF b5
      refine lv_iload_n hC.1 hC.2.1 dX6_row_18 rfl (lv_at hl 3 rfl) ?_
      refine lv_if_ge (tgt := 28) hC.1 hC.2.1 dX6_row_19 (by decide) (fun b6 => ?_) (fun b6 => ?_)
      · have hF := ifP hF b6
        refine lv_aload_n hC.1 hC.2.1 dX6_row_28 rfl (lv_at hl 0 rfl) ?_
        refine lv_iload_n hC.1 hC.2.1 dX6_row_29 rfl (lv_at hl 3 rfl) ?_
        obtain ⟨M8, h7, hF⟩ := ob1S hF
        refine k_Vv (As := [.int x2]) (rest := []) hC hw (c_X4_renew (M := M) g4 h7) (RC_R g4) yv_X4_renew q2_30 ⟨rfl, rfl⟩ ⟨Nat.le_of_ble_eq_true rfl, Nat.le_of_ble_eq_true rfl⟩ ⟨Nat.zero_le _, Nat.zero_le _⟩ rfl rfl (Nat.le_of_ble_eq_true rfl) hl dX6_row_30 (fun H locs hw => ?_)
        refine lv_iload_n hC.1 hC.2.1 dX6_row_33 rfl (lv_at hl 3 rfl) ?_
        exact r_iretE hC hw hF dX6_row_34
      · have hF := ifN hF b6
        refine lv_aload_n hC.1 hC.2.1 dX6_row_22 rfl (lv_at hl 1 rfl) ?_
        refine lv_iconst (v := (5 : Int32)) hC.1 hC.2.1 dX6_row_23 (by decide) ?_
        obtain ⟨r10, M11, h9, hF⟩ := ob2S hF
        refine k_Vi (As := [.int (5 : Int32)]) (rest := []) hC hw (c_X6_found (M := M) h9) RC_S yv_X6_found q2_20 ⟨rfl, rfl⟩ ⟨Nat.le_of_ble_eq_true rfl, Nat.le_of_ble_eq_true rfl⟩ ⟨Nat.zero_le _, Nat.zero_le _⟩ rfl rfl (Nat.le_of_ble_eq_true rfl) hl dX6_row_24 (fun H locs hw => ?_)
        exact r_iretE hC hw hF dX6_row_27
    · have hF := ifN hF b5
      refine lv_iconst (v := (-1 : Int32)) hC.1 hC.2.1 dX6_row_16 (by decide) ?_
      exact r_iretE hC hw hF dX6_row_17
abbrev rm_X6_tell : Room := { frames := 0, cells := 0, slots := 0, locals := 0 }
theorem yv_X6_tell : YV yX6_tell cX6_tell 2 (some .int) 1 RX6 := ⟨⟨q2_40, qs_2, q1_1, q2_41⟩, by decide +kernel⟩
theorem dX6_tell_0 : decode cX6_tell 0 = .ok (.aload_n 0, 1) := by decide +kernel
theorem dX6_tell_1 : decode cX6_tell 1 = .ok (.iload_n 1, 1) := by decide +kernel
theorem dX6_tell_2 : decode cX6_tell 2 = .ok (.putfield 220, 3) := by decide +kernel
theorem dX6_tell_5 : decode cX6_tell 5 = .ok (.iconst 1, 1) := by decide +kernel
theorem dX6_tell_6 : decode cX6_tell 6 = .ok (.ireturn, 1) := by decide +kernel
def F_X6_tell (fu : Nat) (M : Mm) (x1 : Int32) : Option (Int32 × Mm) :=
  lt1 (pI M 0 9 x1) (fun M1 =>
  some ((1 : Int32), M1))
set_option maxRecDepth 100000 in
set_option maxHeartbeats 4000000 in
theorem c_X6_tell {l : Launch} {G : Gv} {fu : Nat} {M : Mm} {x1 : Int32} {r : Int32} {M' : Mm} (hF : F_X6_tell fu M x1 = some (r, M')) : Met l yX6_tell (.code yX6_tell cX6_tell 2 (some .int) :: zU) rm_X6_tell (va_Pc [.ref (ad G 0), .int x1] (Wd G M)) (QI G r M') 0 0 (zA G) := by
  refine zMet (by decide) rfl (Nat.le_of_ble_eq_true rfl) ?_
  intro p e s m below meth c hC hw ls hl
  have hl : lv_has ls 2 [(0, .ref (ad G 0)), (1, .int x1)] := hl
  unfold F_X6_tell at hF
  refine lv_aload_n hC.1 hC.2.1 dX6_tell_0 rfl (lv_at hl 0 rfl) ?_
  refine lv_iload_n hC.1 hC.2.1 dX6_tell_1 rfl (lv_at hl 1 rfl) ?_
  refine u6_told hC hw q1_209 dX6_tell_2 (fun H locs hw => ?_)
  obtain ⟨M1, hw, hF⟩ := lt1W hF hw
  refine lv_iconst (v := (1 : Int32)) hC.1 hC.2.1 dX6_tell_5 (by decide) ?_
  exact r_iretE hC hw hF dX6_tell_6
abbrev rm_X6_lay : Room := { frames := 2, cells := 0, slots := 0, locals := 43 }
theorem yv_X6_lay : YV yX6_lay cX6_lay 6 (some .int) 3 RX6 := ⟨⟨q2_35, q2_36, q1_1, q2_37⟩, by decide +kernel⟩
theorem dX6_lay_0 : decode cX6_lay 0 = .ok (.aload_n 0, 1) := by decide +kernel
theorem dX6_lay_1 : decode cX6_lay 1 = .ok (.iload_n 1, 1) := by decide +kernel
theorem dX6_lay_2 : decode cX6_lay 2 = .ok (.invokevirtual 78, 3) := by decide +kernel
theorem dX6_lay_5 : decode cX6_lay 5 = .ok (.astore 4, 2) := by decide +kernel
theorem dX6_lay_7 : decode cX6_lay 7 = .ok (.aload 4, 2) := by decide +kernel
theorem dX6_lay_9 : decode cX6_lay 9 = .ok (.ifnonnull 5, 3) := by decide +kernel
theorem dX6_lay_12 : decode cX6_lay 12 = .ok (.iconst (-1), 1) := by decide +kernel
theorem dX6_lay_13 : decode cX6_lay 13 = .ok (.ireturn, 1) := by decide +kernel
theorem dX6_lay_14 : decode cX6_lay 14 = .ok (.aload 4, 2) := by decide +kernel
theorem dX6_lay_16 : decode cX6_lay 16 = .ok (.getfield 90, 3) := by decide +kernel
theorem dX6_lay_19 : decode cX6_lay 19 = .ok (.ifCond .ne 9, 3) := by decide +kernel
theorem dX6_lay_22 : decode cX6_lay 22 = .ok (.aload_n 0, 1) := by decide +kernel
theorem dX6_lay_23 : decode cX6_lay 23 = .ok (.iconst 1, 1) := by decide +kernel
theorem dX6_lay_24 : decode cX6_lay 24 = .ok (.invokevirtual 82, 3) := by decide +kernel
theorem dX6_lay_27 : decode cX6_lay 27 = .ok (.ireturn, 1) := by decide +kernel
theorem dX6_lay_28 : decode cX6_lay 28 = .ok (.iload_n 2, 1) := by decide +kernel
theorem dX6_lay_29 : decode cX6_lay 29 = .ok (.ifCond .lt 12, 3) := by decide +kernel
theorem dX6_lay_32 : decode cX6_lay 32 = .ok (.iload_n 2, 1) := by decide +kernel
theorem dX6_lay_33 : decode cX6_lay 33 = .ok (.aload 4, 2) := by decide +kernel
theorem dX6_lay_35 : decode cX6_lay 35 = .ok (.getfield 94, 3) := by decide +kernel
theorem dX6_lay_38 : decode cX6_lay 38 = .ok (.if_icmp .lt 9, 3) := by decide +kernel
theorem dX6_lay_41 : decode cX6_lay 41 = .ok (.aload_n 0, 1) := by decide +kernel
theorem dX6_lay_42 : decode cX6_lay 42 = .ok (.iconst 2, 1) := by decide +kernel
theorem dX6_lay_43 : decode cX6_lay 43 = .ok (.invokevirtual 82, 3) := by decide +kernel
theorem dX6_lay_46 : decode cX6_lay 46 = .ok (.ireturn, 1) := by decide +kernel
theorem dX6_lay_47 : decode cX6_lay 47 = .ok (.aload 4, 2) := by decide +kernel
theorem dX6_lay_49 : decode cX6_lay 49 = .ok (.getfield 98, 3) := by decide +kernel
theorem dX6_lay_52 : decode cX6_lay 52 = .ok (.iload_n 2, 1) := by decide +kernel
theorem dX6_lay_53 : decode cX6_lay 53 = .ok (.invokestatic 101, 3) := by decide +kernel
theorem dX6_lay_56 : decode cX6_lay 56 = .ok (.istore 5, 2) := by decide +kernel
theorem dX6_lay_58 : decode cX6_lay 58 = .ok (.aload 4, 2) := by decide +kernel
theorem dX6_lay_60 : decode cX6_lay 60 = .ok (.getfield 98, 3) := by decide +kernel
theorem dX6_lay_63 : decode cX6_lay 63 = .ok (.iload_n 2, 1) := by decide +kernel
theorem dX6_lay_64 : decode cX6_lay 64 = .ok (.iload_n 3, 1) := by decide +kernel
theorem dX6_lay_65 : decode cX6_lay 65 = .ok (.invokestatic 105, 3) := by decide +kernel
theorem dX6_lay_68 : decode cX6_lay 68 = .ok (.aload_n 0, 1) := by decide +kernel
theorem dX6_lay_69 : decode cX6_lay 69 = .ok (.iload 5, 2) := by decide +kernel
theorem dX6_lay_71 : decode cX6_lay 71 = .ok (.invokevirtual 109, 3) := by decide +kernel
theorem dX6_lay_74 : decode cX6_lay 74 = .ok (.ireturn, 1) := by decide +kernel
def F_X6_lay_41 (fu : Nat) (M : Mm) : Option (Int32 × Mm) :=
  ob2 (F_X6_found fu M (2 : Int32)) (fun r2 M3 =>
  some (r2, M3))
set_option maxRecDepth 100000 in
set_option maxHeartbeats 4000000 in
theorem w_X6_lay_41 {p : Program} {l : Launch} {e : Env} {s : State} {m : MethodId} {args : Array Value} {below : List Frame} {meth : Method} {c : Code} {G : Gv} (hC : Cx p s m args meth c cX6_lay 6 (some .int) RX6) {fu : Nat} {r : Int32} {M' : Mm} {M : Mm} {H : Heap} {locs : List Loc} {ls : Array Slot} (hF : F_X6_lay_41 fu M = some (r, M')) (hw : St G s H locs M) (hl : lv_has ls 6 [(0, .ref (ad G 0))]) : W p l e rm_X6_lay s m args below meth c H locs 0 0 (MQ below (QI G r M') args s 0 0 (zA G)) (F0 m 41 ls []) := by
  unfold F_X6_lay_41 at hF
  refine lv_aload_n hC.1 hC.2.1 dX6_lay_41 rfl (lv_at hl 0 rfl) ?_
  refine lv_iconst (v := (2 : Int32)) hC.1 hC.2.1 dX6_lay_42 (by decide) ?_
  obtain ⟨r2, M3, h1, hF⟩ := ob2S hF
  refine k_Vi (As := [.int (2 : Int32)]) (rest := []) hC hw (c_X6_found (M := M) h1) RC_S yv_X6_found q2_20 ⟨rfl, rfl⟩ ⟨Nat.le_of_ble_eq_true rfl, Nat.le_of_ble_eq_true rfl⟩ ⟨Nat.zero_le _, Nat.zero_le _⟩ rfl rfl (Nat.le_of_ble_eq_true rfl) hl dX6_lay_43 (fun H locs hw => ?_)
  exact r_iretE hC hw hF dX6_lay_46
def F_X6_lay (fu : Nat) (M : Mm) (x1 : Int32) (x2 : Int32) (x3 : Int32) : Option (Int32 × Mm) :=
  ob1 (F_X6_rowOf fu M x1) (fun r2 =>
  op1 r2 (
    some ((-1 : Int32), M)) (fun c3 =>
    if ¬ kd c3 = 12 then none else (
    if (M.1 c3 0) = 0 then
      ob2 (F_X6_found fu M (1 : Int32)) (fun r16 M17 =>
      some (r16, M17))
    else
      if x2 < 0 then
        F_X6_lay_41 fu M
      else
        if x2 < (M.1 c3 1) then
          ob1 (F_X6_read fu M (c3 + 6) x2) (fun r9 =>
          ob1 (F_X6_write fu M (c3 + 6) x2 x3) (fun M11 =>
          ob2 (F_X6_tell fu M11 r9) (fun r13 M14 =>
          some (r13, M14))))
        else
          F_X6_lay_41 fu M)))
set_option maxRecDepth 100000 in
set_option maxHeartbeats 4000000 in
theorem c_X6_lay {l : Launch} {G : Gv} {fu : Nat} {M : Mm} {x1 : Int32} {x2 : Int32} {x3 : Int32} {r : Int32} {M' : Mm} (hF : F_X6_lay fu M x1 x2 x3 = some (r, M')) : Met l yX6_lay (.code yX6_lay cX6_lay 6 (some .int) :: zU) rm_X6_lay (va_Pc [.ref (ad G 0), .int x1, .int x2, .int x3] (Wd G M)) (QI G r M') 0 0 (zA G) := by
  refine zMet (by decide) rfl (Nat.le_of_ble_eq_true rfl) ?_
  intro p e s m below meth c hC hw ls hl
  have hl : lv_has ls 6 [(0, .ref (ad G 0)), (1, .int x1), (2, .int x2), (3, .int x3)] := hl
  unfold F_X6_lay at hF
  refine lv_aload_n hC.1 hC.2.1 dX6_lay_0 rfl (lv_at hl 0 rfl) ?_
  refine lv_iload_n hC.1 hC.2.1 dX6_lay_1 rfl (lv_at hl 1 rfl) ?_
  obtain ⟨r2, h1, hF⟩ := ob1S hF
  refine k_Vq (As := [.int x1]) (rest := []) hC hw (c_X6_rowOf (M := M) h1) RC_S yv_X6_rowOf q2_16 ⟨rfl, rfl⟩ ⟨Nat.le_of_ble_eq_true rfl, Nat.le_of_ble_eq_true rfl⟩ ⟨Nat.zero_le _, Nat.zero_le _⟩ rfl rfl (Nat.le_of_ble_eq_true rfl) hl dX6_lay_2 (fun H locs hw => ?_)
  cases r2 with
  | none =>
    have hF := op1N hF
    refine topN ?_
    refine lv_astoreN (lv' := [(4, .null), (0, .ref (ad G 0)), (1, .int x1), (2, .int x2), (3, .int x3)]) hC.1 hC.2.1 dX6_lay_5 hl (by decide) rfl (fun ls hl => ?_)
    refine lv_aloadN hC.1 hC.2.1 dX6_lay_7 (lv_at hl 0 rfl) ?_
    refine lv_ifnonnullN hC.1 hC.2.1 dX6_lay_9 ?_
    refine lv_iconst (v := (-1 : Int32)) hC.1 hC.2.1 dX6_lay_12 (by decide) ?_
    exact r_iretE hC hw hF dX6_lay_13
  | some c3 =>
    obtain ⟨g4, hF⟩ := ifO (op1C hF)
    have g4 := Decidable.not_not.mp g4
    refine topC ?_
    refine lv_astore (lv' := [(4, .ref (ad G c3)), (0, .ref (ad G 0)), (1, .int x1), (2, .int x2), (3, .int x3)]) hC.1 hC.2.1 dX6_lay_5 hl (by decide) rfl (fun ls hl => ?_)
    refine lv_aload hC.1 hC.2.1 dX6_lay_7 (lv_at hl 0 rfl) ?_
    refine lv_ifnonnull (tgt := 14) hC.1 hC.2.1 dX6_lay_9 (by decide) ?_
    refine lv_aload hC.1 hC.2.1 dX6_lay_14 (lv_at hl 0 rfl) ?_
    refine g4_there hC hw g4 q1_169 dX6_lay_16 ?_
    refine lv_if_ne (tgt := 28) hC.1 hC.2.1 dX6_lay_19 (by decide) (fun b5 => ?_) (fun b5 => ?_)
    · have hF := ifN hF b5
      refine lv_iload_n hC.1 hC.2.1 dX6_lay_28 rfl (lv_at hl 3 rfl) ?_
      refine lv_if_lt (tgt := 41) hC.1 hC.2.1 dX6_lay_29 (by decide) (fun b6 => ?_) (fun b6 => ?_)
      · have hF := ifP hF b6
        exact w_X6_lay_41 hC hF hw (lv_sub hl [1] rfl)
      · have hF := ifN hF b6
        refine lv_iload_n hC.1 hC.2.1 dX6_lay_32 rfl (lv_at hl 3 rfl) ?_
        refine lv_aload hC.1 hC.2.1 dX6_lay_33 (lv_at hl 0 rfl) ?_
        refine g4_size hC hw g4 q1_171 dX6_lay_35 ?_
        refine lv_icmp_lt (tgt := 47) hC.1 hC.2.1 dX6_lay_38 (by decide) (fun b7 => ?_) (fun b7 => ?_)
        · have hF := ifP hF b7
          refine lv_aload hC.1 hC.2.1 dX6_lay_47 (lv_at hl 0 rfl) ?_
          refine g4_cells hC hw g4 q1_173 dX6_lay_49 ?_
          refine lv_iload_n hC.1 hC.2.1 dX6_lay_52 rfl (lv_at hl 3 rfl) ?_
          obtain ⟨r9, h8, hF⟩ := ob1S hF
          refine k_Si (As := [.ref (ad G (c3 + 6)), .int x2]) (rest := []) hC hw (c_X6_read (M := M) (kdRc g4) h8) ys_X6_read q2_24 ⟨rfl, rfl⟩ ⟨Nat.le_of_ble_eq_true rfl, Nat.le_of_ble_eq_true rfl⟩ ⟨Nat.zero_le _, Nat.zero_le _⟩ rfl rfl (Nat.le_of_ble_eq_true rfl) hl dX6_lay_53 (fun H locs hw => ?_)
          refine lv_istore (lv' := [(5, .int r9), (4, .ref (ad G c3)), (0, .ref (ad G 0)), (1, .int x1), (2, .int x2), (3, .int x3)]) hC.1 hC.2.1 dX6_lay_56 hl (by decide) rfl (fun ls hl => ?_)
          refine lv_aload hC.1 hC.2.1 dX6_lay_58 (lv_at hl 1 rfl) ?_
          refine g4_cells hC hw g4 q1_173 dX6_lay_60 ?_
          refine lv_iload_n hC.1 hC.2.1 dX6_lay_63 rfl (lv_at hl 4 rfl) ?_
          refine lv_iload_n hC.1 hC.2.1 dX6_lay_64 rfl (lv_at hl 5 rfl) ?_
          obtain ⟨M11, h10, hF⟩ := ob1S hF
          refine k_Sv (As := [.ref (ad G (c3 + 6)), .int x2, .int x3]) (rest := []) hC hw (c_X6_write (M := M) (kdRc g4) h10) ys_X6_write q2_27 ⟨rfl, rfl⟩ ⟨Nat.le_of_ble_eq_true rfl, Nat.le_of_ble_eq_true rfl⟩ ⟨Nat.zero_le _, Nat.zero_le _⟩ rfl rfl (Nat.le_of_ble_eq_true rfl) hl dX6_lay_65 (fun H locs hw => ?_)
          refine lv_aload_n hC.1 hC.2.1 dX6_lay_68 rfl (lv_at hl 2 rfl) ?_
          refine lv_iload hC.1 hC.2.1 dX6_lay_69 (lv_at hl 0 rfl) ?_
          obtain ⟨r13, M14, h12, hF⟩ := ob2S hF
          refine k_Vi (As := [.int r9]) (rest := []) hC hw (c_X6_tell (M := M11) h12) RC_S yv_X6_tell q2_38 ⟨rfl, rfl⟩ ⟨Nat.le_of_ble_eq_true rfl, Nat.le_of_ble_eq_true rfl⟩ ⟨Nat.zero_le _, Nat.zero_le _⟩ rfl rfl (Nat.le_of_ble_eq_true rfl) hl dX6_lay_71 (fun H locs hw => ?_)
          exact r_iretE hC hw hF dX6_lay_74
        · have hF := ifN hF b7
          exact w_X6_lay_41 hC hF hw (lv_sub hl [1] rfl)
    · have hF := ifP hF b5
      refine lv_aload_n hC.1 hC.2.1 dX6_lay_22 rfl (lv_at hl 1 rfl) ?_
      refine lv_iconst (v := (1 : Int32)) hC.1 hC.2.1 dX6_lay_23 (by decide) ?_
      obtain ⟨r16, M17, h15, hF⟩ := ob2S hF
      refine k_Vi (As := [.int (1 : Int32)]) (rest := []) hC hw (c_X6_found (M := M) h15) RC_S yv_X6_found q2_20 ⟨rfl, rfl⟩ ⟨Nat.le_of_ble_eq_true rfl, Nat.le_of_ble_eq_true rfl⟩ ⟨Nat.zero_le _, Nat.zero_le _⟩ rfl rfl (Nat.le_of_ble_eq_true rfl) hl dX6_lay_24 (fun H locs hw => ?_)
      exact r_iretE hC hw hF dX6_lay_27
abbrev rm_X6_at : Room := { frames := 2, cells := 0, slots := 0, locals := 43 }
theorem yv_X6_at : YV yX6_at cX6_at 4 (some .int) 2 RX6 := ⟨⟨q2_43, q2_44, q1_1, q2_45⟩, by decide +kernel⟩
theorem dX6_at_0 : decode cX6_at 0 = .ok (.aload_n 0, 1) := by decide +kernel
theorem dX6_at_1 : decode cX6_at 1 = .ok (.iload_n 1, 1) := by decide +kernel
theorem dX6_at_2 : decode cX6_at 2 = .ok (.invokevirtual 78, 3) := by decide +kernel
theorem dX6_at_5 : decode cX6_at 5 = .ok (.astore_n 3, 1) := by decide +kernel
theorem dX6_at_6 : decode cX6_at 6 = .ok (.aload_n 3, 1) := by decide +kernel
theorem dX6_at_7 : decode cX6_at 7 = .ok (.ifnonnull 5, 3) := by decide +kernel
theorem dX6_at_10 : decode cX6_at 10 = .ok (.iconst (-1), 1) := by decide +kernel
theorem dX6_at_11 : decode cX6_at 11 = .ok (.ireturn, 1) := by decide +kernel
theorem dX6_at_12 : decode cX6_at 12 = .ok (.aload_n 3, 1) := by decide +kernel
theorem dX6_at_13 : decode cX6_at 13 = .ok (.getfield 90, 3) := by decide +kernel
theorem dX6_at_16 : decode cX6_at 16 = .ok (.ifCond .ne 9, 3) := by decide +kernel
theorem dX6_at_19 : decode cX6_at 19 = .ok (.aload_n 0, 1) := by decide +kernel
theorem dX6_at_20 : decode cX6_at 20 = .ok (.iconst 1, 1) := by decide +kernel
theorem dX6_at_21 : decode cX6_at 21 = .ok (.invokevirtual 82, 3) := by decide +kernel
theorem dX6_at_24 : decode cX6_at 24 = .ok (.ireturn, 1) := by decide +kernel
theorem dX6_at_25 : decode cX6_at 25 = .ok (.iload_n 2, 1) := by decide +kernel
theorem dX6_at_26 : decode cX6_at 26 = .ok (.ifCond .lt 11, 3) := by decide +kernel
theorem dX6_at_29 : decode cX6_at 29 = .ok (.iload_n 2, 1) := by decide +kernel
theorem dX6_at_30 : decode cX6_at 30 = .ok (.aload_n 3, 1) := by decide +kernel
theorem dX6_at_31 : decode cX6_at 31 = .ok (.getfield 94, 3) := by decide +kernel
theorem dX6_at_34 : decode cX6_at 34 = .ok (.if_icmp .lt 9, 3) := by decide +kernel
theorem dX6_at_37 : decode cX6_at 37 = .ok (.aload_n 0, 1) := by decide +kernel
theorem dX6_at_38 : decode cX6_at 38 = .ok (.iconst 2, 1) := by decide +kernel
theorem dX6_at_39 : decode cX6_at 39 = .ok (.invokevirtual 82, 3) := by decide +kernel
theorem dX6_at_42 : decode cX6_at 42 = .ok (.ireturn, 1) := by decide +kernel
theorem dX6_at_43 : decode cX6_at 43 = .ok (.aload_n 0, 1) := by decide +kernel
theorem dX6_at_44 : decode cX6_at 44 = .ok (.aload_n 3, 1) := by decide +kernel
theorem dX6_at_45 : decode cX6_at 45 = .ok (.getfield 98, 3) := by decide +kernel
theorem dX6_at_48 : decode cX6_at 48 = .ok (.iload_n 2, 1) := by decide +kernel
theorem dX6_at_49 : decode cX6_at 49 = .ok (.invokestatic 101, 3) := by decide +kernel
theorem dX6_at_52 : decode cX6_at 52 = .ok (.invokevirtual 109, 3) := by decide +kernel
theorem dX6_at_55 : decode cX6_at 55 = .ok (.ireturn, 1) := by decide +kernel
def F_X6_at_37 (fu : Nat) (M : Mm) : Option (Int32 × Mm) :=
  ob2 (F_X6_found fu M (2 : Int32)) (fun r2 M3 =>
  some (r2, M3))
set_option maxRecDepth 100000 in
set_option maxHeartbeats 4000000 in
theorem w_X6_at_37 {p : Program} {l : Launch} {e : Env} {s : State} {m : MethodId} {args : Array Value} {below : List Frame} {meth : Method} {c : Code} {G : Gv} (hC : Cx p s m args meth c cX6_at 4 (some .int) RX6) {fu : Nat} {r : Int32} {M' : Mm} {M : Mm} {H : Heap} {locs : List Loc} {ls : Array Slot} (hF : F_X6_at_37 fu M = some (r, M')) (hw : St G s H locs M) (hl : lv_has ls 4 [(0, .ref (ad G 0))]) : W p l e rm_X6_at s m args below meth c H locs 0 0 (MQ below (QI G r M') args s 0 0 (zA G)) (F0 m 37 ls []) := by
  unfold F_X6_at_37 at hF
  refine lv_aload_n hC.1 hC.2.1 dX6_at_37 rfl (lv_at hl 0 rfl) ?_
  refine lv_iconst (v := (2 : Int32)) hC.1 hC.2.1 dX6_at_38 (by decide) ?_
  obtain ⟨r2, M3, h1, hF⟩ := ob2S hF
  refine k_Vi (As := [.int (2 : Int32)]) (rest := []) hC hw (c_X6_found (M := M) h1) RC_S yv_X6_found q2_20 ⟨rfl, rfl⟩ ⟨Nat.le_of_ble_eq_true rfl, Nat.le_of_ble_eq_true rfl⟩ ⟨Nat.zero_le _, Nat.zero_le _⟩ rfl rfl (Nat.le_of_ble_eq_true rfl) hl dX6_at_39 (fun H locs hw => ?_)
  exact r_iretE hC hw hF dX6_at_42
def F_X6_at (fu : Nat) (M : Mm) (x1 : Int32) (x2 : Int32) : Option (Int32 × Mm) :=
  ob1 (F_X6_rowOf fu M x1) (fun r2 =>
  op1 r2 (
    some ((-1 : Int32), M)) (fun c3 =>
    if ¬ kd c3 = 12 then none else (
    if (M.1 c3 0) = 0 then
      ob2 (F_X6_found fu M (1 : Int32)) (fun r14 M15 =>
      some (r14, M15))
    else
      if x2 < 0 then
        F_X6_at_37 fu M
      else
        if x2 < (M.1 c3 1) then
          ob1 (F_X6_read fu M (c3 + 6) x2) (fun r9 =>
          ob2 (F_X6_tell fu M r9) (fun r11 M12 =>
          some (r11, M12)))
        else
          F_X6_at_37 fu M)))
set_option maxRecDepth 100000 in
set_option maxHeartbeats 4000000 in
theorem c_X6_at {l : Launch} {G : Gv} {fu : Nat} {M : Mm} {x1 : Int32} {x2 : Int32} {r : Int32} {M' : Mm} (hF : F_X6_at fu M x1 x2 = some (r, M')) : Met l yX6_at (.code yX6_at cX6_at 4 (some .int) :: zU) rm_X6_at (va_Pc [.ref (ad G 0), .int x1, .int x2] (Wd G M)) (QI G r M') 0 0 (zA G) := by
  refine zMet (by decide) rfl (Nat.le_of_ble_eq_true rfl) ?_
  intro p e s m below meth c hC hw ls hl
  have hl : lv_has ls 4 [(0, .ref (ad G 0)), (1, .int x1), (2, .int x2)] := hl
  unfold F_X6_at at hF
  refine lv_aload_n hC.1 hC.2.1 dX6_at_0 rfl (lv_at hl 0 rfl) ?_
  refine lv_iload_n hC.1 hC.2.1 dX6_at_1 rfl (lv_at hl 1 rfl) ?_
  obtain ⟨r2, h1, hF⟩ := ob1S hF
  refine k_Vq (As := [.int x1]) (rest := []) hC hw (c_X6_rowOf (M := M) h1) RC_S yv_X6_rowOf q2_16 ⟨rfl, rfl⟩ ⟨Nat.le_of_ble_eq_true rfl, Nat.le_of_ble_eq_true rfl⟩ ⟨Nat.zero_le _, Nat.zero_le _⟩ rfl rfl (Nat.le_of_ble_eq_true rfl) hl dX6_at_2 (fun H locs hw => ?_)
  cases r2 with
  | none =>
    have hF := op1N hF
    refine topN ?_
    refine lv_astore_nN (lv' := [(3, .null), (0, .ref (ad G 0)), (1, .int x1), (2, .int x2)]) hC.1 hC.2.1 dX6_at_5 rfl hl (by decide) rfl (fun ls hl => ?_)
    refine lv_aload_nN hC.1 hC.2.1 dX6_at_6 rfl (lv_at hl 0 rfl) ?_
    refine lv_ifnonnullN hC.1 hC.2.1 dX6_at_7 ?_
    refine lv_iconst (v := (-1 : Int32)) hC.1 hC.2.1 dX6_at_10 (by decide) ?_
    exact r_iretE hC hw hF dX6_at_11
  | some c3 =>
    obtain ⟨g4, hF⟩ := ifO (op1C hF)
    have g4 := Decidable.not_not.mp g4
    refine topC ?_
    refine lv_astore_n (lv' := [(3, .ref (ad G c3)), (0, .ref (ad G 0)), (1, .int x1), (2, .int x2)]) hC.1 hC.2.1 dX6_at_5 rfl hl (by decide) rfl (fun ls hl => ?_)
    refine lv_aload_n hC.1 hC.2.1 dX6_at_6 rfl (lv_at hl 0 rfl) ?_
    refine lv_ifnonnull (tgt := 12) hC.1 hC.2.1 dX6_at_7 (by decide) ?_
    refine lv_aload_n hC.1 hC.2.1 dX6_at_12 rfl (lv_at hl 0 rfl) ?_
    refine g4_there hC hw g4 q1_169 dX6_at_13 ?_
    refine lv_if_ne (tgt := 25) hC.1 hC.2.1 dX6_at_16 (by decide) (fun b5 => ?_) (fun b5 => ?_)
    · have hF := ifN hF b5
      refine lv_iload_n hC.1 hC.2.1 dX6_at_25 rfl (lv_at hl 3 rfl) ?_
      refine lv_if_lt (tgt := 37) hC.1 hC.2.1 dX6_at_26 (by decide) (fun b6 => ?_) (fun b6 => ?_)
      · have hF := ifP hF b6
        exact w_X6_at_37 hC hF hw (lv_sub hl [1] rfl)
      · have hF := ifN hF b6
        refine lv_iload_n hC.1 hC.2.1 dX6_at_29 rfl (lv_at hl 3 rfl) ?_
        refine lv_aload_n hC.1 hC.2.1 dX6_at_30 rfl (lv_at hl 0 rfl) ?_
        refine g4_size hC hw g4 q1_171 dX6_at_31 ?_
        refine lv_icmp_lt (tgt := 43) hC.1 hC.2.1 dX6_at_34 (by decide) (fun b7 => ?_) (fun b7 => ?_)
        · have hF := ifP hF b7
          refine lv_aload_n hC.1 hC.2.1 dX6_at_43 rfl (lv_at hl 1 rfl) ?_
          refine lv_aload_n hC.1 hC.2.1 dX6_at_44 rfl (lv_at hl 0 rfl) ?_
          refine g4_cells hC hw g4 q1_173 dX6_at_45 ?_
          refine lv_iload_n hC.1 hC.2.1 dX6_at_48 rfl (lv_at hl 3 rfl) ?_
          obtain ⟨r9, h8, hF⟩ := ob1S hF
          refine k_Si (As := [.ref (ad G (c3 + 6)), .int x2]) (rest := [.ref (ad G 0)]) hC hw (c_X6_read (M := M) (kdRc g4) h8) ys_X6_read q2_24 ⟨rfl, rfl⟩ ⟨Nat.le_of_ble_eq_true rfl, Nat.le_of_ble_eq_true rfl⟩ ⟨Nat.zero_le _, Nat.zero_le _⟩ rfl rfl (Nat.le_of_ble_eq_true rfl) hl dX6_at_49 (fun H locs hw => ?_)
          obtain ⟨r11, M12, h10, hF⟩ := ob2S hF
          refine k_Vi (As := [.int r9]) (rest := []) hC hw (c_X6_tell (M := M) h10) RC_S yv_X6_tell q2_38 ⟨rfl, rfl⟩ ⟨Nat.le_of_ble_eq_true rfl, Nat.le_of_ble_eq_true rfl⟩ ⟨Nat.zero_le _, Nat.zero_le _⟩ rfl rfl (Nat.le_of_ble_eq_true rfl) hl dX6_at_52 (fun H locs hw => ?_)
          exact r_iretE hC hw hF dX6_at_55
        · have hF := ifN hF b7
          exact w_X6_at_37 hC hF hw (lv_sub hl [1] rfl)
    · have hF := ifP hF b5
      refine lv_aload_n hC.1 hC.2.1 dX6_at_19 rfl (lv_at hl 1 rfl) ?_
      refine lv_iconst (v := (1 : Int32)) hC.1 hC.2.1 dX6_at_20 (by decide) ?_
      obtain ⟨r14, M15, h13, hF⟩ := ob2S hF
      refine k_Vi (As := [.int (1 : Int32)]) (rest := []) hC hw (c_X6_found (M := M) h13) RC_S yv_X6_found q2_20 ⟨rfl, rfl⟩ ⟨Nat.le_of_ble_eq_true rfl, Nat.le_of_ble_eq_true rfl⟩ ⟨Nat.zero_le _, Nat.zero_le _⟩ rfl rfl (Nat.le_of_ble_eq_true rfl) hl dX6_at_21 (fun H locs hw => ?_)
      exact r_iretE hC hw hF dX6_at_24
abbrev rm_X6_tear : Room := { frames := 2, cells := 0, slots := 0, locals := 43 }
theorem yv_X6_tear : YV yX6_tear cX6_tear 3 (some .int) 1 RX6 := ⟨⟨q2_47, q2_48, q1_1, q2_49⟩, by decide +kernel⟩
theorem dX6_tear_0 : decode cX6_tear 0 = .ok (.aload_n 0, 1) := by decide +kernel
theorem dX6_tear_1 : decode cX6_tear 1 = .ok (.iload_n 1, 1) := by decide +kernel
theorem dX6_tear_2 : decode cX6_tear 2 = .ok (.invokevirtual 78, 3) := by decide +kernel
theorem dX6_tear_5 : decode cX6_tear 5 = .ok (.astore_n 2, 1) := by decide +kernel
theorem dX6_tear_6 : decode cX6_tear 6 = .ok (.aload_n 2, 1) := by decide +kernel
theorem dX6_tear_7 : decode cX6_tear 7 = .ok (.ifnonnull 5, 3) := by decide +kernel
theorem dX6_tear_10 : decode cX6_tear 10 = .ok (.iconst (-1), 1) := by decide +kernel
theorem dX6_tear_11 : decode cX6_tear 11 = .ok (.ireturn, 1) := by decide +kernel
theorem dX6_tear_12 : decode cX6_tear 12 = .ok (.aload_n 2, 1) := by decide +kernel
theorem dX6_tear_13 : decode cX6_tear 13 = .ok (.getfield 90, 3) := by decide +kernel
theorem dX6_tear_16 : decode cX6_tear 16 = .ok (.ifCond .ne 9, 3) := by decide +kernel
theorem dX6_tear_19 : decode cX6_tear 19 = .ok (.aload_n 0, 1) := by decide +kernel
theorem dX6_tear_20 : decode cX6_tear 20 = .ok (.iconst 1, 1) := by decide +kernel
theorem dX6_tear_21 : decode cX6_tear 21 = .ok (.invokevirtual 82, 3) := by decide +kernel
theorem dX6_tear_24 : decode cX6_tear 24 = .ok (.ireturn, 1) := by decide +kernel
theorem dX6_tear_25 : decode cX6_tear 25 = .ok (.aload_n 2, 1) := by decide +kernel
theorem dX6_tear_26 : decode cX6_tear 26 = .ok (.iconst 0, 1) := by decide +kernel
theorem dX6_tear_27 : decode cX6_tear 27 = .ok (.putfield 90, 3) := by decide +kernel
theorem dX6_tear_30 : decode cX6_tear 30 = .ok (.iconst 1, 1) := by decide +kernel
theorem dX6_tear_31 : decode cX6_tear 31 = .ok (.ireturn, 1) := by decide +kernel
def F_X6_tear (fu : Nat) (M : Mm) (x1 : Int32) : Option (Int32 × Mm) :=
  ob1 (F_X6_rowOf fu M x1) (fun r2 =>
  op1 r2 (
    some ((-1 : Int32), M)) (fun c3 =>
    if ¬ kd c3 = 12 then none else (
    if (M.1 c3 0) = 0 then
      ob2 (F_X6_found fu M (1 : Int32)) (fun r8 M9 =>
      some (r8, M9))
    else
      lt1 (pI M c3 0 (0 : Int32)) (fun M6 =>
      some ((1 : Int32), M6)))))
set_option maxRecDepth 100000 in
set_option maxHeartbeats 4000000 in
theorem c_X6_tear {l : Launch} {G : Gv} {fu : Nat} {M : Mm} {x1 : Int32} {r : Int32} {M' : Mm} (hF : F_X6_tear fu M x1 = some (r, M')) : Met l yX6_tear (.code yX6_tear cX6_tear 3 (some .int) :: zU) rm_X6_tear (va_Pc [.ref (ad G 0), .int x1] (Wd G M)) (QI G r M') 0 0 (zA G) := by
  refine zMet (by decide) rfl (Nat.le_of_ble_eq_true rfl) ?_
  intro p e s m below meth c hC hw ls hl
  have hl : lv_has ls 3 [(0, .ref (ad G 0)), (1, .int x1)] := hl
  unfold F_X6_tear at hF
  refine lv_aload_n hC.1 hC.2.1 dX6_tear_0 rfl (lv_at hl 0 rfl) ?_
  refine lv_iload_n hC.1 hC.2.1 dX6_tear_1 rfl (lv_at hl 1 rfl) ?_
  obtain ⟨r2, h1, hF⟩ := ob1S hF
  refine k_Vq (As := [.int x1]) (rest := []) hC hw (c_X6_rowOf (M := M) h1) RC_S yv_X6_rowOf q2_16 ⟨rfl, rfl⟩ ⟨Nat.le_of_ble_eq_true rfl, Nat.le_of_ble_eq_true rfl⟩ ⟨Nat.zero_le _, Nat.zero_le _⟩ rfl rfl (Nat.le_of_ble_eq_true rfl) hl dX6_tear_2 (fun H locs hw => ?_)
  cases r2 with
  | none =>
    have hF := op1N hF
    refine topN ?_
    refine lv_astore_nN (lv' := [(2, .null), (0, .ref (ad G 0)), (1, .int x1)]) hC.1 hC.2.1 dX6_tear_5 rfl hl (by decide) rfl (fun ls hl => ?_)
    refine lv_aload_nN hC.1 hC.2.1 dX6_tear_6 rfl (lv_at hl 0 rfl) ?_
    refine lv_ifnonnullN hC.1 hC.2.1 dX6_tear_7 ?_
    refine lv_iconst (v := (-1 : Int32)) hC.1 hC.2.1 dX6_tear_10 (by decide) ?_
    exact r_iretE hC hw hF dX6_tear_11
  | some c3 =>
    obtain ⟨g4, hF⟩ := ifO (op1C hF)
    have g4 := Decidable.not_not.mp g4
    refine topC ?_
    refine lv_astore_n (lv' := [(2, .ref (ad G c3)), (0, .ref (ad G 0)), (1, .int x1)]) hC.1 hC.2.1 dX6_tear_5 rfl hl (by decide) rfl (fun ls hl => ?_)
    refine lv_aload_n hC.1 hC.2.1 dX6_tear_6 rfl (lv_at hl 0 rfl) ?_
    refine lv_ifnonnull (tgt := 12) hC.1 hC.2.1 dX6_tear_7 (by decide) ?_
    refine lv_aload_n hC.1 hC.2.1 dX6_tear_12 rfl (lv_at hl 0 rfl) ?_
    refine g4_there hC hw g4 q1_169 dX6_tear_13 ?_
    refine lv_if_ne (tgt := 25) hC.1 hC.2.1 dX6_tear_16 (by decide) (fun b5 => ?_) (fun b5 => ?_)
    · have hF := ifN hF b5
      refine lv_aload_n hC.1 hC.2.1 dX6_tear_25 rfl (lv_at hl 0 rfl) ?_
      refine lv_iconst (v := (0 : Int32)) hC.1 hC.2.1 dX6_tear_26 (by decide) ?_
      refine u4_there hC hw g4 (by decide) q1_169 dX6_tear_27 (fun H locs hw => ?_)
      obtain ⟨M6, hw, hF⟩ := lt1W hF hw
      refine lv_iconst (v := (1 : Int32)) hC.1 hC.2.1 dX6_tear_30 (by decide) ?_
      exact r_iretE hC hw hF dX6_tear_31
    · have hF := ifP hF b5
      refine lv_aload_n hC.1 hC.2.1 dX6_tear_19 rfl (lv_at hl 1 rfl) ?_
      refine lv_iconst (v := (1 : Int32)) hC.1 hC.2.1 dX6_tear_20 (by decide) ?_
      obtain ⟨r8, M9, h7, hF⟩ := ob2S hF
      refine k_Vi (As := [.int (1 : Int32)]) (rest := []) hC hw (c_X6_found (M := M) h7) RC_S yv_X6_found q2_20 ⟨rfl, rfl⟩ ⟨Nat.le_of_ble_eq_true rfl, Nat.le_of_ble_eq_true rfl⟩ ⟨Nat.zero_le _, Nat.zero_le _⟩ rfl rfl (Nat.le_of_ble_eq_true rfl) hl dX6_tear_21 (fun H locs hw => ?_)
      exact r_iretE hC hw hF dX6_tear_24
abbrev rm_X6_copy : Room := { frames := 2, cells := 0, slots := 0, locals := 43 }
theorem yv_X6_copy : YV yX6_copy cX6_copy 8 (some .int) 5 RX6 := ⟨⟨q2_51, q2_52, q1_1, q2_53⟩, by decide +kernel⟩
theorem dX6_copy_0 : decode cX6_copy 0 = .ok (.aload_n 0, 1) := by decide +kernel
theorem dX6_copy_1 : decode cX6_copy 1 = .ok (.iload_n 1, 1) := by decide +kernel
theorem dX6_copy_2 : decode cX6_copy 2 = .ok (.invokevirtual 78, 3) := by decide +kernel
theorem dX6_copy_5 : decode cX6_copy 5 = .ok (.astore 6, 2) := by decide +kernel
theorem dX6_copy_7 : decode cX6_copy 7 = .ok (.aload_n 0, 1) := by decide +kernel
theorem dX6_copy_8 : decode cX6_copy 8 = .ok (.iload_n 3, 1) := by decide +kernel
theorem dX6_copy_9 : decode cX6_copy 9 = .ok (.invokevirtual 78, 3) := by decide +kernel
theorem dX6_copy_12 : decode cX6_copy 12 = .ok (.astore 7, 2) := by decide +kernel
theorem dX6_copy_14 : decode cX6_copy 14 = .ok (.aload 6, 2) := by decide +kernel
theorem dX6_copy_16 : decode cX6_copy 16 = .ok (.ifnull 8, 3) := by decide +kernel
theorem dX6_copy_19 : decode cX6_copy 19 = .ok (.aload 7, 2) := by decide +kernel
theorem dX6_copy_21 : decode cX6_copy 21 = .ok (.ifnonnull 5, 3) := by decide +kernel
theorem dX6_copy_24 : decode cX6_copy 24 = .ok (.iconst (-1), 1) := by decide +kernel
theorem dX6_copy_25 : decode cX6_copy 25 = .ok (.ireturn, 1) := by decide +kernel
theorem dX6_copy_26 : decode cX6_copy 26 = .ok (.iload 5, 2) := by decide +kernel
theorem dX6_copy_28 : decode cX6_copy 28 = .ok (.ifCond .ge 9, 3) := by decide +kernel
theorem dX6_copy_31 : decode cX6_copy 31 = .ok (.aload_n 0, 1) := by decide +kernel
theorem dX6_copy_32 : decode cX6_copy 32 = .ok (.iconst 5, 1) := by decide +kernel
theorem dX6_copy_33 : decode cX6_copy 33 = .ok (.invokevirtual 82, 3) := by decide +kernel
theorem dX6_copy_36 : decode cX6_copy 36 = .ok (.ireturn, 1) := by decide +kernel
theorem dX6_copy_37 : decode cX6_copy 37 = .ok (.aload 6, 2) := by decide +kernel
theorem dX6_copy_39 : decode cX6_copy 39 = .ok (.getfield 90, 3) := by decide +kernel
theorem dX6_copy_42 : decode cX6_copy 42 = .ok (.ifCond .eq 11, 3) := by decide +kernel
theorem dX6_copy_45 : decode cX6_copy 45 = .ok (.aload 7, 2) := by decide +kernel
theorem dX6_copy_47 : decode cX6_copy 47 = .ok (.getfield 90, 3) := by decide +kernel
theorem dX6_copy_50 : decode cX6_copy 50 = .ok (.ifCond .ne 9, 3) := by decide +kernel
theorem dX6_copy_53 : decode cX6_copy 53 = .ok (.aload_n 0, 1) := by decide +kernel
theorem dX6_copy_54 : decode cX6_copy 54 = .ok (.iconst 1, 1) := by decide +kernel
theorem dX6_copy_55 : decode cX6_copy 55 = .ok (.invokevirtual 82, 3) := by decide +kernel
theorem dX6_copy_58 : decode cX6_copy 58 = .ok (.ireturn, 1) := by decide +kernel
theorem dX6_copy_59 : decode cX6_copy 59 = .ok (.aload 6, 2) := by decide +kernel
theorem dX6_copy_61 : decode cX6_copy 61 = .ok (.iload_n 2, 1) := by decide +kernel
theorem dX6_copy_62 : decode cX6_copy 62 = .ok (.iload 5, 2) := by decide +kernel
theorem dX6_copy_64 : decode cX6_copy 64 = .ok (.invokevirtual 112, 3) := by decide +kernel
theorem dX6_copy_67 : decode cX6_copy 67 = .ok (.ifCond .eq 15, 3) := by decide +kernel
theorem dX6_copy_70 : decode cX6_copy 70 = .ok (.aload 7, 2) := by decide +kernel
theorem dX6_copy_72 : decode cX6_copy 72 = .ok (.iload 4, 2) := by decide +kernel
theorem dX6_copy_74 : decode cX6_copy 74 = .ok (.iload 5, 2) := by decide +kernel
theorem dX6_copy_76 : decode cX6_copy 76 = .ok (.invokevirtual 112, 3) := by decide +kernel
theorem dX6_copy_79 : decode cX6_copy 79 = .ok (.ifCond .ne 9, 3) := by decide +kernel
theorem dX6_copy_82 : decode cX6_copy 82 = .ok (.aload_n 0, 1) := by decide +kernel
theorem dX6_copy_83 : decode cX6_copy 83 = .ok (.iconst 2, 1) := by decide +kernel
theorem dX6_copy_84 : decode cX6_copy 84 = .ok (.invokevirtual 82, 3) := by decide +kernel
theorem dX6_copy_87 : decode cX6_copy 87 = .ok (.ireturn, 1) := by decide +kernel
theorem dX6_copy_88 : decode cX6_copy 88 = .ok (.aload 6, 2) := by decide +kernel
theorem dX6_copy_90 : decode cX6_copy 90 = .ok (.getfield 98, 3) := by decide +kernel
theorem dX6_copy_93 : decode cX6_copy 93 = .ok (.iload_n 2, 1) := by decide +kernel
theorem dX6_copy_94 : decode cX6_copy 94 = .ok (.aload 7, 2) := by decide +kernel
theorem dX6_copy_96 : decode cX6_copy 96 = .ok (.getfield 98, 3) := by decide +kernel
theorem dX6_copy_99 : decode cX6_copy 99 = .ok (.iload 4, 2) := by decide +kernel
theorem dX6_copy_101 : decode cX6_copy 101 = .ok (.iload 5, 2) := by decide +kernel
theorem dX6_copy_103 : decode cX6_copy 103 = .ok (.invokestatic 116, 3) := by decide +kernel
theorem dX6_copy_106 : decode cX6_copy 106 = .ok (.iconst 1, 1) := by decide +kernel
theorem dX6_copy_107 : decode cX6_copy 107 = .ok (.ireturn, 1) := by decide +kernel
def F_X6_copy_53 (fu : Nat) (M : Mm) : Option (Int32 × Mm) :=
  ob2 (F_X6_found fu M (1 : Int32)) (fun r2 M3 =>
  some (r2, M3))
set_option maxRecDepth 100000 in
set_option maxHeartbeats 4000000 in
theorem w_X6_copy_53 {p : Program} {l : Launch} {e : Env} {s : State} {m : MethodId} {args : Array Value} {below : List Frame} {meth : Method} {c : Code} {G : Gv} (hC : Cx p s m args meth c cX6_copy 8 (some .int) RX6) {fu : Nat} {r : Int32} {M' : Mm} {M : Mm} {H : Heap} {locs : List Loc} {ls : Array Slot} (hF : F_X6_copy_53 fu M = some (r, M')) (hw : St G s H locs M) (hl : lv_has ls 8 [(0, .ref (ad G 0))]) : W p l e rm_X6_copy s m args below meth c H locs 0 0 (MQ below (QI G r M') args s 0 0 (zA G)) (F0 m 53 ls []) := by
  unfold F_X6_copy_53 at hF
  refine lv_aload_n hC.1 hC.2.1 dX6_copy_53 rfl (lv_at hl 0 rfl) ?_
  refine lv_iconst (v := (1 : Int32)) hC.1 hC.2.1 dX6_copy_54 (by decide) ?_
  obtain ⟨r2, M3, h1, hF⟩ := ob2S hF
  refine k_Vi (As := [.int (1 : Int32)]) (rest := []) hC hw (c_X6_found (M := M) h1) RC_S yv_X6_found q2_20 ⟨rfl, rfl⟩ ⟨Nat.le_of_ble_eq_true rfl, Nat.le_of_ble_eq_true rfl⟩ ⟨Nat.zero_le _, Nat.zero_le _⟩ rfl rfl (Nat.le_of_ble_eq_true rfl) hl dX6_copy_55 (fun H locs hw => ?_)
  exact r_iretE hC hw hF dX6_copy_58
def F_X6_copy_82 (fu : Nat) (M : Mm) : Option (Int32 × Mm) :=
  ob2 (F_X6_found fu M (2 : Int32)) (fun r2 M3 =>
  some (r2, M3))
set_option maxRecDepth 100000 in
set_option maxHeartbeats 4000000 in
theorem w_X6_copy_82 {p : Program} {l : Launch} {e : Env} {s : State} {m : MethodId} {args : Array Value} {below : List Frame} {meth : Method} {c : Code} {G : Gv} (hC : Cx p s m args meth c cX6_copy 8 (some .int) RX6) {fu : Nat} {r : Int32} {M' : Mm} {M : Mm} {H : Heap} {locs : List Loc} {ls : Array Slot} (hF : F_X6_copy_82 fu M = some (r, M')) (hw : St G s H locs M) (hl : lv_has ls 8 [(0, .ref (ad G 0))]) : W p l e rm_X6_copy s m args below meth c H locs 0 0 (MQ below (QI G r M') args s 0 0 (zA G)) (F0 m 82 ls []) := by
  unfold F_X6_copy_82 at hF
  refine lv_aload_n hC.1 hC.2.1 dX6_copy_82 rfl (lv_at hl 0 rfl) ?_
  refine lv_iconst (v := (2 : Int32)) hC.1 hC.2.1 dX6_copy_83 (by decide) ?_
  obtain ⟨r2, M3, h1, hF⟩ := ob2S hF
  refine k_Vi (As := [.int (2 : Int32)]) (rest := []) hC hw (c_X6_found (M := M) h1) RC_S yv_X6_found q2_20 ⟨rfl, rfl⟩ ⟨Nat.le_of_ble_eq_true rfl, Nat.le_of_ble_eq_true rfl⟩ ⟨Nat.zero_le _, Nat.zero_le _⟩ rfl rfl (Nat.le_of_ble_eq_true rfl) hl dX6_copy_84 (fun H locs hw => ?_)
  exact r_iretE hC hw hF dX6_copy_87
def F_X6_copy (fu : Nat) (M : Mm) (x1 : Int32) (x2 : Int32) (x3 : Int32) (x4 : Int32) (x5 : Int32) : Option (Int32 × Mm) :=
  ob1 (F_X6_rowOf fu M x1) (fun r2 =>
  op1 r2 (
    ob1 (F_X6_rowOf fu M x3) (fun r6 =>
    op1 r6 (
      some ((-1 : Int32), M)) (fun c7 =>
      if ¬ kd c7 = 12 then none else (
      some ((-1 : Int32), M))))) (fun c3 =>
    if ¬ kd c3 = 12 then none else (
    ob1 (F_X6_rowOf fu M x3) (fun r10 =>
    op1 r10 (
      some ((-1 : Int32), M)) (fun c11 =>
      if ¬ kd c11 = 12 then none else (
      if 0 ≤ x5 then
        if (M.1 c3 0) = 0 then
          F_X6_copy_53 fu M
        else
          if (M.1 c11 0) = 0 then
            F_X6_copy_53 fu M
          else
            ob1 (F_X4_reaches fu M c3 x2 x5) (fun r17 =>
            if r17 = 0 then
              F_X6_copy_82 fu M
            else
              ob1 (F_X4_reaches fu M c11 x4 x5) (fun r20 =>
              if r20 = 0 then
                F_X6_copy_82 fu M
              else
                if x2 < 0 then none else (
                if x4 < 0 then none else (
                if x5 < 0 then none else (
                if ln (c3 + 6) < x2.toNatClampNeg + x5.toNatClampNeg then none else (
                if ln (c11 + 6) < x4.toNatClampNeg + x5.toNatClampNeg then none else (
                lt1 (pC M (c3 + 6) (c11 + 6) x2.toNatClampNeg x4.toNatClampNeg x5.toNatClampNeg) (fun M22 =>
                some ((1 : Int32), M22)))))))))
      else
        ob2 (F_X6_found fu M (5 : Int32)) (fun r29 M30 =>
        some (r29, M30))))))))
set_option maxRecDepth 100000 in
set_option maxHeartbeats 4000000 in
theorem c_X6_copy {l : Launch} {G : Gv} {fu : Nat} {M : Mm} {x1 : Int32} {x2 : Int32} {x3 : Int32} {x4 : Int32} {x5 : Int32} {r : Int32} {M' : Mm} (hF : F_X6_copy fu M x1 x2 x3 x4 x5 = some (r, M')) : Met l yX6_copy (.code yX6_copy cX6_copy 8 (some .int) :: zU) rm_X6_copy (va_Pc [.ref (ad G 0), .int x1, .int x2, .int x3, .int x4, .int x5] (Wd G M)) (QI G r M') 0 0 (zA G) := by
  refine zMet (by decide) rfl (Nat.le_of_ble_eq_true rfl) ?_
  intro p e s m below meth c hC hw ls hl
  have hl : lv_has ls 8 [(0, .ref (ad G 0)), (1, .int x1), (2, .int x2), (3, .int x3), (4, .int x4), (5, .int x5)] := hl
  unfold F_X6_copy at hF
  refine lv_aload_n hC.1 hC.2.1 dX6_copy_0 rfl (lv_at hl 0 rfl) ?_
  refine lv_iload_n hC.1 hC.2.1 dX6_copy_1 rfl (lv_at hl 1 rfl) ?_
  obtain ⟨r2, h1, hF⟩ := ob1S hF
  refine k_Vq (As := [.int x1]) (rest := []) hC hw (c_X6_rowOf (M := M) h1) RC_S yv_X6_rowOf q2_16 ⟨rfl, rfl⟩ ⟨Nat.le_of_ble_eq_true rfl, Nat.le_of_ble_eq_true rfl⟩ ⟨Nat.zero_le _, Nat.zero_le _⟩ rfl rfl (Nat.le_of_ble_eq_true rfl) hl dX6_copy_2 (fun H locs hw => ?_)
  cases r2 with
  | none =>
    have hF := op1N hF
    refine topN ?_
    refine lv_astoreN (lv' := [(6, .null), (0, .ref (ad G 0)), (1, .int x1), (2, .int x2), (3, .int x3), (4, .int x4), (5, .int x5)]) hC.1 hC.2.1 dX6_copy_5 hl (by decide) rfl (fun ls hl => ?_)
    refine lv_aload_n hC.1 hC.2.1 dX6_copy_7 rfl (lv_at hl 1 rfl) ?_
    refine lv_iload_n hC.1 hC.2.1 dX6_copy_8 rfl (lv_at hl 4 rfl) ?_
    obtain ⟨r6, h5, hF⟩ := ob1S hF
    refine k_Vq (As := [.int x3]) (rest := []) hC hw (c_X6_rowOf (M := M) h5) RC_S yv_X6_rowOf q2_16 ⟨rfl, rfl⟩ ⟨Nat.le_of_ble_eq_true rfl, Nat.le_of_ble_eq_true rfl⟩ ⟨Nat.zero_le _, Nat.zero_le _⟩ rfl rfl (Nat.le_of_ble_eq_true rfl) hl dX6_copy_9 (fun H locs hw => ?_)
    cases r6 with
    | none =>
      have hF := op1N hF
      refine topN ?_
      refine lv_astoreN (lv' := [(7, .null), (6, .null), (0, .ref (ad G 0)), (1, .int x1), (2, .int x2), (3, .int x3), (4, .int x4), (5, .int x5)]) hC.1 hC.2.1 dX6_copy_12 hl (by decide) rfl (fun ls hl => ?_)
      refine lv_aloadN hC.1 hC.2.1 dX6_copy_14 (lv_at hl 1 rfl) ?_
      refine lv_ifnullN (tgt := 24) hC.1 hC.2.1 dX6_copy_16 (by decide) ?_
      refine lv_iconst (v := (-1 : Int32)) hC.1 hC.2.1 dX6_copy_24 (by decide) ?_
      exact r_iretE hC hw hF dX6_copy_25
    | some c7 =>
      obtain ⟨g8, hF⟩ := ifO (op1C hF)
      have g8 := Decidable.not_not.mp g8
      refine topC ?_
      refine lv_astore (lv' := [(7, .ref (ad G c7)), (6, .null), (0, .ref (ad G 0)), (1, .int x1), (2, .int x2), (3, .int x3), (4, .int x4), (5, .int x5)]) hC.1 hC.2.1 dX6_copy_12 hl (by decide) rfl (fun ls hl => ?_)
      refine lv_aloadN hC.1 hC.2.1 dX6_copy_14 (lv_at hl 1 rfl) ?_
      refine lv_ifnullN (tgt := 24) hC.1 hC.2.1 dX6_copy_16 (by decide) ?_
      refine lv_iconst (v := (-1 : Int32)) hC.1 hC.2.1 dX6_copy_24 (by decide) ?_
      exact r_iretE hC hw hF dX6_copy_25
  | some c3 =>
    obtain ⟨g4, hF⟩ := ifO (op1C hF)
    have g4 := Decidable.not_not.mp g4
    refine topC ?_
    refine lv_astore (lv' := [(6, .ref (ad G c3)), (0, .ref (ad G 0)), (1, .int x1), (2, .int x2), (3, .int x3), (4, .int x4), (5, .int x5)]) hC.1 hC.2.1 dX6_copy_5 hl (by decide) rfl (fun ls hl => ?_)
    refine lv_aload_n hC.1 hC.2.1 dX6_copy_7 rfl (lv_at hl 1 rfl) ?_
    refine lv_iload_n hC.1 hC.2.1 dX6_copy_8 rfl (lv_at hl 4 rfl) ?_
    obtain ⟨r10, h9, hF⟩ := ob1S hF
    refine k_Vq (As := [.int x3]) (rest := []) hC hw (c_X6_rowOf (M := M) h9) RC_S yv_X6_rowOf q2_16 ⟨rfl, rfl⟩ ⟨Nat.le_of_ble_eq_true rfl, Nat.le_of_ble_eq_true rfl⟩ ⟨Nat.zero_le _, Nat.zero_le _⟩ rfl rfl (Nat.le_of_ble_eq_true rfl) hl dX6_copy_9 (fun H locs hw => ?_)
    cases r10 with
    | none =>
      have hF := op1N hF
      refine topN ?_
      refine lv_astoreN (lv' := [(7, .null), (6, .ref (ad G c3)), (0, .ref (ad G 0)), (1, .int x1), (2, .int x2), (3, .int x3), (4, .int x4), (5, .int x5)]) hC.1 hC.2.1 dX6_copy_12 hl (by decide) rfl (fun ls hl => ?_)
      refine lv_aload hC.1 hC.2.1 dX6_copy_14 (lv_at hl 1 rfl) ?_
      refine lv_ifnull hC.1 hC.2.1 dX6_copy_16 ?_
      refine lv_aloadN hC.1 hC.2.1 dX6_copy_19 (lv_at hl 0 rfl) ?_
      refine lv_ifnonnullN hC.1 hC.2.1 dX6_copy_21 ?_
      refine lv_iconst (v := (-1 : Int32)) hC.1 hC.2.1 dX6_copy_24 (by decide) ?_
      exact r_iretE hC hw hF dX6_copy_25
    | some c11 =>
      obtain ⟨g12, hF⟩ := ifO (op1C hF)
      have g12 := Decidable.not_not.mp g12
      refine topC ?_
      refine lv_astore (lv' := [(7, .ref (ad G c11)), (6, .ref (ad G c3)), (0, .ref (ad G 0)), (1, .int x1), (2, .int x2), (3, .int x3), (4, .int x4), (5, .int x5)]) hC.1 hC.2.1 dX6_copy_12 hl (by decide) rfl (fun ls hl => ?_)
      refine lv_aload hC.1 hC.2.1 dX6_copy_14 (lv_at hl 1 rfl) ?_
      refine lv_ifnull hC.1 hC.2.1 dX6_copy_16 ?_
      refine lv_aload hC.1 hC.2.1 dX6_copy_19 (lv_at hl 0 rfl) ?_
      refine lv_ifnonnull (tgt := 26) hC.1 hC.2.1 dX6_copy_21 (by decide) ?_
      refine lv_iload hC.1 hC.2.1 dX6_copy_26 (lv_at hl 7 rfl) ?_
      refine lv_if_ge (tgt := 37) hC.1 hC.2.1 dX6_copy_28 (by decide) (fun b13 => ?_) (fun b13 => ?_)
      · have hF := ifP hF b13
        refine lv_aload hC.1 hC.2.1 dX6_copy_37 (lv_at hl 1 rfl) ?_
        refine g4_there hC hw g4 q1_169 dX6_copy_39 ?_
        refine lv_if_eq (tgt := 53) hC.1 hC.2.1 dX6_copy_42 (by decide) (fun b14 => ?_) (fun b14 => ?_)
        · have hF := ifP hF b14
          exact w_X6_copy_53 hC hF hw (lv_sub hl [2] rfl)
        · have hF := ifN hF b14
          refine lv_aload hC.1 hC.2.1 dX6_copy_45 (lv_at hl 0 rfl) ?_
          refine g4_there hC hw g12 q1_169 dX6_copy_47 ?_
          refine lv_if_ne (tgt := 59) hC.1 hC.2.1 dX6_copy_50 (by decide) (fun b15 => ?_) (fun b15 => ?_)
          · have hF := ifN hF b15
            refine lv_aload hC.1 hC.2.1 dX6_copy_59 (lv_at hl 1 rfl) ?_
            refine lv_iload_n hC.1 hC.2.1 dX6_copy_61 rfl (lv_at hl 4 rfl) ?_
            refine lv_iload hC.1 hC.2.1 dX6_copy_62 (lv_at hl 7 rfl) ?_
            obtain ⟨r17, h16, hF⟩ := ob1S hF
            refine k_Vi (As := [.int x2, .int x5]) (rest := []) hC hw (c_X4_reaches (M := M) g4 h16) (RC_R g4) yv_X4_reaches q2_54 ⟨rfl, rfl⟩ ⟨Nat.le_of_ble_eq_true rfl, Nat.le_of_ble_eq_true rfl⟩ ⟨Nat.zero_le _, Nat.zero_le _⟩ rfl rfl (Nat.le_of_ble_eq_true rfl) hl dX6_copy_64 (fun H locs hw => ?_)
            refine lv_if_eq (tgt := 82) hC.1 hC.2.1 dX6_copy_67 (by decide) (fun b18 => ?_) (fun b18 => ?_)
            · have hF := ifP hF b18
              exact w_X6_copy_82 hC hF hw (lv_sub hl [2] rfl)
            · have hF := ifN hF b18
              refine lv_aload hC.1 hC.2.1 dX6_copy_70 (lv_at hl 0 rfl) ?_
              refine lv_iload hC.1 hC.2.1 dX6_copy_72 (lv_at hl 6 rfl) ?_
              refine lv_iload hC.1 hC.2.1 dX6_copy_74 (lv_at hl 7 rfl) ?_
              obtain ⟨r20, h19, hF⟩ := ob1S hF
              refine k_Vi (As := [.int x4, .int x5]) (rest := []) hC hw (c_X4_reaches (M := M) g12 h19) (RC_R g12) yv_X4_reaches q2_54 ⟨rfl, rfl⟩ ⟨Nat.le_of_ble_eq_true rfl, Nat.le_of_ble_eq_true rfl⟩ ⟨Nat.zero_le _, Nat.zero_le _⟩ rfl rfl (Nat.le_of_ble_eq_true rfl) hl dX6_copy_76 (fun H locs hw => ?_)
              refine lv_if_ne (tgt := 88) hC.1 hC.2.1 dX6_copy_79 (by decide) (fun b21 => ?_) (fun b21 => ?_)
              · have hF := ifN hF b21
                refine lv_aload hC.1 hC.2.1 dX6_copy_88 (lv_at hl 1 rfl) ?_
                refine g4_cells hC hw g4 q1_173 dX6_copy_90 ?_
                refine lv_iload_n hC.1 hC.2.1 dX6_copy_93 rfl (lv_at hl 4 rfl) ?_
                refine lv_aload hC.1 hC.2.1 dX6_copy_94 (lv_at hl 0 rfl) ?_
                refine g4_cells hC hw g12 q1_173 dX6_copy_96 ?_
                refine lv_iload hC.1 hC.2.1 dX6_copy_99 (lv_at hl 6 rfl) ?_
                refine lv_iload hC.1 hC.2.1 dX6_copy_101 (lv_at hl 7 rfl) ?_
                obtain ⟨n23, hF⟩ := ifO hF
                obtain ⟨n24, hF⟩ := ifO hF
                obtain ⟨n25, hF⟩ := ifO hF
                obtain ⟨n26, hF⟩ := ifO hF
                obtain ⟨n27, hF⟩ := ifO hF
                refine r_copy ⟨hC.1, hC.2.1, by rw [hC.2.2.1]; exact hl.1.symm, hC.2.2.2.1, hC.2.2.2.2.1⟩ hw q2_58 (kdRc g4) (kdRc g12) n23 n24 n25 (Nat.le_of_not_lt n26) (Nat.le_of_not_lt n27) (Nat.le_of_ble_eq_true rfl) (Nat.le_of_ble_eq_true rfl) dX6_copy_103 (fun H locs hw => ?_)
                obtain ⟨M22, hw, hF⟩ := lt1W hF hw
                refine lv_iconst (v := (1 : Int32)) hC.1 hC.2.1 dX6_copy_106 (by decide) ?_
                exact r_iretE hC hw hF dX6_copy_107
              · have hF := ifP hF b21
                exact w_X6_copy_82 hC hF hw (lv_sub hl [2] rfl)
          · have hF := ifP hF b15
            exact w_X6_copy_53 hC hF hw (lv_sub hl [2] rfl)
      · have hF := ifN hF b13
        refine lv_aload_n hC.1 hC.2.1 dX6_copy_31 rfl (lv_at hl 2 rfl) ?_
        refine lv_iconst (v := (5 : Int32)) hC.1 hC.2.1 dX6_copy_32 (by decide) ?_
        obtain ⟨r29, M30, h28, hF⟩ := ob2S hF
        refine k_Vi (As := [.int (5 : Int32)]) (rest := []) hC hw (c_X6_found (M := M) h28) RC_S yv_X6_found q2_20 ⟨rfl, rfl⟩ ⟨Nat.le_of_ble_eq_true rfl, Nat.le_of_ble_eq_true rfl⟩ ⟨Nat.zero_le _, Nat.zero_le _⟩ rfl rfl (Nat.le_of_ble_eq_true rfl) hl dX6_copy_33 (fun H locs hw => ?_)
        exact r_iretE hC hw hF dX6_copy_36
abbrev rm_X6_mean : Room := { frames := 2, cells := 0, slots := 0, locals := 44 }
theorem yv_X6_mean : YV yX6_mean cX6_mean 3 (some .int) 1 RX6 := ⟨⟨q2_62, q2_63, q1_1, q2_64⟩, by decide +kernel⟩
theorem dX6_mean_0 : decode cX6_mean 0 = .ok (.aload_n 0, 1) := by decide +kernel
theorem dX6_mean_1 : decode cX6_mean 1 = .ok (.iload_n 1, 1) := by decide +kernel
theorem dX6_mean_2 : decode cX6_mean 2 = .ok (.invokevirtual 78, 3) := by decide +kernel
theorem dX6_mean_5 : decode cX6_mean 5 = .ok (.astore_n 2, 1) := by decide +kernel
theorem dX6_mean_6 : decode cX6_mean 6 = .ok (.aload_n 2, 1) := by decide +kernel
theorem dX6_mean_7 : decode cX6_mean 7 = .ok (.ifnonnull 5, 3) := by decide +kernel
theorem dX6_mean_10 : decode cX6_mean 10 = .ok (.iconst (-1), 1) := by decide +kernel
theorem dX6_mean_11 : decode cX6_mean 11 = .ok (.ireturn, 1) := by decide +kernel
theorem dX6_mean_12 : decode cX6_mean 12 = .ok (.aload_n 2, 1) := by decide +kernel
theorem dX6_mean_13 : decode cX6_mean 13 = .ok (.getfield 90, 3) := by decide +kernel
theorem dX6_mean_16 : decode cX6_mean 16 = .ok (.ifCond .ne 9, 3) := by decide +kernel
theorem dX6_mean_19 : decode cX6_mean 19 = .ok (.aload_n 0, 1) := by decide +kernel
theorem dX6_mean_20 : decode cX6_mean 20 = .ok (.iconst 1, 1) := by decide +kernel
theorem dX6_mean_21 : decode cX6_mean 21 = .ok (.invokevirtual 82, 3) := by decide +kernel
theorem dX6_mean_24 : decode cX6_mean 24 = .ok (.ireturn, 1) := by decide +kernel
theorem dX6_mean_25 : decode cX6_mean 25 = .ok (.aload_n 2, 1) := by decide +kernel
theorem dX6_mean_26 : decode cX6_mean 26 = .ok (.getfield 94, 3) := by decide +kernel
theorem dX6_mean_29 : decode cX6_mean 29 = .ok (.ifCond .ne 9, 3) := by decide +kernel
theorem dX6_mean_32 : decode cX6_mean 32 = .ok (.aload_n 0, 1) := by decide +kernel
theorem dX6_mean_33 : decode cX6_mean 33 = .ok (.iconst 4, 1) := by decide +kernel
theorem dX6_mean_34 : decode cX6_mean 34 = .ok (.invokevirtual 82, 3) := by decide +kernel
theorem dX6_mean_37 : decode cX6_mean 37 = .ok (.ireturn, 1) := by decide +kernel
theorem dX6_mean_38 : decode cX6_mean 38 = .ok (.aload_n 0, 1) := by decide +kernel
theorem dX6_mean_39 : decode cX6_mean 39 = .ok (.aload_n 2, 1) := by decide +kernel
theorem dX6_mean_40 : decode cX6_mean 40 = .ok (.invokevirtual 122, 3) := by decide +kernel
theorem dX6_mean_43 : decode cX6_mean 43 = .ok (.aload_n 2, 1) := by decide +kernel
theorem dX6_mean_44 : decode cX6_mean 44 = .ok (.getfield 94, 3) := by decide +kernel
theorem dX6_mean_47 : decode cX6_mean 47 = .ok (.i2l, 1) := by decide +kernel
theorem dX6_mean_48 : decode cX6_mean 48 = .ok (.ldiv, 1) := by decide +kernel
theorem dX6_mean_49 : decode cX6_mean 49 = .ok (.l2i, 1) := by decide +kernel
theorem dX6_mean_50 : decode cX6_mean 50 = .ok (.invokevirtual 109, 3) := by decide +kernel
theorem dX6_mean_53 : decode cX6_mean 53 = .ok (.ireturn, 1) := by decide +kernel
def F_X6_mean (fu : Nat) (M : Mm) (x1 : Int32) : Option (Int32 × Mm) :=
  ob1 (F_X6_rowOf fu M x1) (fun r2 =>
  op1 r2 (
    some ((-1 : Int32), M)) (fun c3 =>
    if ¬ kd c3 = 12 then none else (
    if (M.1 c3 0) = 0 then
      ob2 (F_X6_found fu M (1 : Int32)) (fun r17 M18 =>
      some (r17, M18))
    else
      if (M.1 c3 1) = 0 then
        ob2 (F_X6_found fu M (4 : Int32)) (fun r14 M15 =>
        some (r14, M15))
      else
        ob1 (F_X4_sum fu M c3) (fun r8 =>
        if (M.1 c3 1).toInt64 = 0 then none else (
        ob2 (F_X6_tell fu M (r8 / (M.1 c3 1).toInt64).toInt32) (fun r11 M12 =>
        some (r11, M12)))))))
set_option maxRecDepth 100000 in
set_option maxHeartbeats 4000000 in
theorem c_X6_mean {l : Launch} {G : Gv} {fu : Nat} {M : Mm} {x1 : Int32} {r : Int32} {M' : Mm} (hF : F_X6_mean fu M x1 = some (r, M')) : Met l yX6_mean (.code yX6_mean cX6_mean 3 (some .int) :: zU) rm_X6_mean (va_Pc [.ref (ad G 0), .int x1] (Wd G M)) (QI G r M') 0 0 (zA G) := by
  refine zMet (by decide) rfl (Nat.le_of_ble_eq_true rfl) ?_
  intro p e s m below meth c hC hw ls hl
  have hl : lv_has ls 3 [(0, .ref (ad G 0)), (1, .int x1)] := hl
  unfold F_X6_mean at hF
  refine lv_aload_n hC.1 hC.2.1 dX6_mean_0 rfl (lv_at hl 0 rfl) ?_
  refine lv_iload_n hC.1 hC.2.1 dX6_mean_1 rfl (lv_at hl 1 rfl) ?_
  obtain ⟨r2, h1, hF⟩ := ob1S hF
  refine k_Vq (As := [.int x1]) (rest := []) hC hw (c_X6_rowOf (M := M) h1) RC_S yv_X6_rowOf q2_16 ⟨rfl, rfl⟩ ⟨Nat.le_of_ble_eq_true rfl, Nat.le_of_ble_eq_true rfl⟩ ⟨Nat.zero_le _, Nat.zero_le _⟩ rfl rfl (Nat.le_of_ble_eq_true rfl) hl dX6_mean_2 (fun H locs hw => ?_)
  cases r2 with
  | none =>
    have hF := op1N hF
    refine topN ?_
    refine lv_astore_nN (lv' := [(2, .null), (0, .ref (ad G 0)), (1, .int x1)]) hC.1 hC.2.1 dX6_mean_5 rfl hl (by decide) rfl (fun ls hl => ?_)
    refine lv_aload_nN hC.1 hC.2.1 dX6_mean_6 rfl (lv_at hl 0 rfl) ?_
    refine lv_ifnonnullN hC.1 hC.2.1 dX6_mean_7 ?_
    refine lv_iconst (v := (-1 : Int32)) hC.1 hC.2.1 dX6_mean_10 (by decide) ?_
    exact r_iretE hC hw hF dX6_mean_11
  | some c3 =>
    obtain ⟨g4, hF⟩ := ifO (op1C hF)
    have g4 := Decidable.not_not.mp g4
    refine topC ?_
    refine lv_astore_n (lv' := [(2, .ref (ad G c3)), (0, .ref (ad G 0)), (1, .int x1)]) hC.1 hC.2.1 dX6_mean_5 rfl hl (by decide) rfl (fun ls hl => ?_)
    refine lv_aload_n hC.1 hC.2.1 dX6_mean_6 rfl (lv_at hl 0 rfl) ?_
    refine lv_ifnonnull (tgt := 12) hC.1 hC.2.1 dX6_mean_7 (by decide) ?_
    refine lv_aload_n hC.1 hC.2.1 dX6_mean_12 rfl (lv_at hl 0 rfl) ?_
    refine g4_there hC hw g4 q1_169 dX6_mean_13 ?_
    refine lv_if_ne (tgt := 25) hC.1 hC.2.1 dX6_mean_16 (by decide) (fun b5 => ?_) (fun b5 => ?_)
    · have hF := ifN hF b5
      refine lv_aload_n hC.1 hC.2.1 dX6_mean_25 rfl (lv_at hl 0 rfl) ?_
      refine g4_size hC hw g4 q1_171 dX6_mean_26 ?_
      refine lv_if_ne (tgt := 38) hC.1 hC.2.1 dX6_mean_29 (by decide) (fun b6 => ?_) (fun b6 => ?_)
      · have hF := ifN hF b6
        refine lv_aload_n hC.1 hC.2.1 dX6_mean_38 rfl (lv_at hl 1 rfl) ?_
        refine lv_aload_n hC.1 hC.2.1 dX6_mean_39 rfl (lv_at hl 0 rfl) ?_
        obtain ⟨r8, h7, hF⟩ := ob1S hF
        refine k_Vl (As := []) (rest := [.ref (ad G 0)]) hC hw (c_X4_sum (M := M) g4 h7) (RC_R g4) yv_X4_sum q2_65 ⟨rfl, rfl⟩ ⟨Nat.le_of_ble_eq_true rfl, Nat.le_of_ble_eq_true rfl⟩ ⟨Nat.zero_le _, Nat.zero_le _⟩ rfl rfl (Nat.le_of_ble_eq_true rfl) hl dX6_mean_40 (fun H locs hw => ?_)
        refine lv_aload_n hC.1 hC.2.1 dX6_mean_43 rfl (lv_at hl 0 rfl) ?_
        refine g4_size hC hw g4 q1_171 dX6_mean_44 ?_
        refine lv_i2l hC.1 hC.2.1 dX6_mean_47 rfl ?_
        obtain ⟨n9, hF⟩ := ifO hF
        refine lv_ldiv hC.1 hC.2.1 dX6_mean_48 n9 ?_
        refine lv_l2i hC.1 hC.2.1 dX6_mean_49 rfl ?_
        obtain ⟨r11, M12, h10, hF⟩ := ob2S hF
        refine k_Vi (As := [.int (r8 / (M.1 c3 1).toInt64).toInt32]) (rest := []) hC hw (c_X6_tell (M := M) h10) RC_S yv_X6_tell q2_38 ⟨rfl, rfl⟩ ⟨Nat.le_of_ble_eq_true rfl, Nat.le_of_ble_eq_true rfl⟩ ⟨Nat.zero_le _, Nat.zero_le _⟩ rfl rfl (Nat.le_of_ble_eq_true rfl) hl dX6_mean_50 (fun H locs hw => ?_)
        exact r_iretE hC hw hF dX6_mean_53
      · have hF := ifP hF b6
        refine lv_aload_n hC.1 hC.2.1 dX6_mean_32 rfl (lv_at hl 1 rfl) ?_
        refine lv_iconst (v := (4 : Int32)) hC.1 hC.2.1 dX6_mean_33 (by decide) ?_
        obtain ⟨r14, M15, h13, hF⟩ := ob2S hF
        refine k_Vi (As := [.int (4 : Int32)]) (rest := []) hC hw (c_X6_found (M := M) h13) RC_S yv_X6_found q2_20 ⟨rfl, rfl⟩ ⟨Nat.le_of_ble_eq_true rfl, Nat.le_of_ble_eq_true rfl⟩ ⟨Nat.zero_le _, Nat.zero_le _⟩ rfl rfl (Nat.le_of_ble_eq_true rfl) hl dX6_mean_34 (fun H locs hw => ?_)
        exact r_iretE hC hw hF dX6_mean_37
    · have hF := ifP hF b5
      refine lv_aload_n hC.1 hC.2.1 dX6_mean_19 rfl (lv_at hl 1 rfl) ?_
      refine lv_iconst (v := (1 : Int32)) hC.1 hC.2.1 dX6_mean_20 (by decide) ?_
      obtain ⟨r17, M18, h16, hF⟩ := ob2S hF
      refine k_Vi (As := [.int (1 : Int32)]) (rest := []) hC hw (c_X6_found (M := M) h16) RC_S yv_X6_found q2_20 ⟨rfl, rfl⟩ ⟨Nat.le_of_ble_eq_true rfl, Nat.le_of_ble_eq_true rfl⟩ ⟨Nat.zero_le _, Nat.zero_le _⟩ rfl rfl (Nat.le_of_ble_eq_true rfl) hl dX6_mean_21 (fun H locs hw => ?_)
      exact r_iretE hC hw hF dX6_mean_24
abbrev rm_X6_textOf : Room := { frames := 0, cells := 0, slots := 0, locals := 0 }
theorem yv_X6_textOf : YV yX6_textOf cX6_textOf 2 (Option.some (.object "SnowCitizens$Text")) 1 RX6 := ⟨⟨q2_76, qs_3, q1_1, q2_77⟩, by decide +kernel⟩
theorem dX6_textOf_0 : decode cX6_textOf 0 = .ok (.iload_n 1, 1) := by decide +kernel
theorem dX6_textOf_1 : decode cX6_textOf 1 = .ok (.ifCond .lt 21, 3) := by decide +kernel
theorem dX6_textOf_4 : decode cX6_textOf 4 = .ok (.iload_n 1, 1) := by decide +kernel
theorem dX6_textOf_5 : decode cX6_textOf 5 = .ok (.aload_n 0, 1) := by decide +kernel
theorem dX6_textOf_6 : decode cX6_textOf 6 = .ok (.getfield 17, 3) := by decide +kernel
theorem dX6_textOf_9 : decode cX6_textOf 9 = .ok (.arraylength, 1) := by decide +kernel
theorem dX6_textOf_10 : decode cX6_textOf 10 = .ok (.if_icmp .ge 12, 3) := by decide +kernel
theorem dX6_textOf_13 : decode cX6_textOf 13 = .ok (.aload_n 0, 1) := by decide +kernel
theorem dX6_textOf_14 : decode cX6_textOf 14 = .ok (.getfield 17, 3) := by decide +kernel
theorem dX6_textOf_17 : decode cX6_textOf 17 = .ok (.iload_n 1, 1) := by decide +kernel
theorem dX6_textOf_18 : decode cX6_textOf 18 = .ok (.aaload, 1) := by decide +kernel
theorem dX6_textOf_19 : decode cX6_textOf 19 = .ok (.goto 4, 3) := by decide +kernel
theorem dX6_textOf_22 : decode cX6_textOf 22 = .ok (.aconst_null, 1) := by decide +kernel
theorem dX6_textOf_23 : decode cX6_textOf 23 = .ok (.areturn, 1) := by decide +kernel
def F_X6_textOf (fu : Nat) (M : Mm) (x1 : Int32) : Option (Option Nat) :=
  if x1 < 0 then
    some none
  else
    if (4 : Int32) ≤ x1 then
      some none
    else
      if x1 < 0 ∨ 4 ≤ x1.toNatClampNeg then none else (
      some (some (13 + x1.toNatClampNeg)))
set_option maxRecDepth 100000 in
set_option maxHeartbeats 4000000 in
theorem c_X6_textOf {l : Launch} {G : Gv} {fu : Nat} {M : Mm} {x1 : Int32} {r : Option Nat} (hF : F_X6_textOf fu M x1 = some r) : Met l yX6_textOf (.code yX6_textOf cX6_textOf 2 (Option.some (.object "SnowCitizens$Text")) :: zU) rm_X6_textOf (va_Pc [.ref (ad G 0), .int x1] (Wd G M)) (QQ G r M) 0 0 (zA G) := by
  refine zMet (by decide) rfl (Nat.le_of_ble_eq_true rfl) ?_
  intro p e s m below meth c hC hw ls hl
  have hl : lv_has ls 2 [(0, .ref (ad G 0)), (1, .int x1)] := hl
  unfold F_X6_textOf at hF
  refine lv_iload_n hC.1 hC.2.1 dX6_textOf_0 rfl (lv_at hl 1 rfl) ?_
  refine lv_if_lt (tgt := 22) hC.1 hC.2.1 dX6_textOf_1 (by decide) (fun b1 => ?_) (fun b1 => ?_)
  · have hF := ifP hF b1
    refine lv_null hC.1 hC.2.1 dX6_textOf_22 ?_
    exact r_nretP hC hw hF dX6_textOf_23
  · have hF := ifN hF b1
    refine lv_iload_n hC.1 hC.2.1 dX6_textOf_4 rfl (lv_at hl 1 rfl) ?_
    refine lv_aload_n hC.1 hC.2.1 dX6_textOf_5 rfl (lv_at hl 0 rfl) ?_
    refine g6_texts hC hw q1_201 dX6_textOf_6 ?_
    refine r_alenT hC.1 hC.2.1 hw dX6_textOf_9 ?_
    refine lv_icmp_ge (tgt := 22) hC.1 hC.2.1 dX6_textOf_10 (by decide) (fun b2 => ?_) (fun b2 => ?_)
    · have hF := ifP hF b2
      refine lv_null hC.1 hC.2.1 dX6_textOf_22 ?_
      exact r_nretP hC hw hF dX6_textOf_23
    · have hF := ifN hF b2
      refine lv_aload_n hC.1 hC.2.1 dX6_textOf_13 rfl (lv_at hl 0 rfl) ?_
      refine g6_texts hC hw q1_201 dX6_textOf_14 ?_
      refine lv_iload_n hC.1 hC.2.1 dX6_textOf_17 rfl (lv_at hl 1 rfl) ?_
      obtain ⟨n3, hF⟩ := ifO hF
      refine r_aldT hC.1 hC.2.1 hw n3 dX6_textOf_18 ?_
      refine lv_goto (tgt := 23) hC.1 hC.2.1 dX6_textOf_19 (by decide) ?_
      exact r_aretP hC hw hF dX6_textOf_23
abbrev rm_X6_text : Room := { frames := 2, cells := 0, slots := 0, locals := 43 }
theorem yv_X6_text : YV yX6_text cX6_text 4 (some .int) 2 RX6 := ⟨⟨q2_71, q2_72, q1_1, q2_73⟩, by decide +kernel⟩
theorem dX6_text_0 : decode cX6_text 0 = .ok (.aload_n 0, 1) := by decide +kernel
theorem dX6_text_1 : decode cX6_text 1 = .ok (.iload_n 1, 1) := by decide +kernel
theorem dX6_text_2 : decode cX6_text 2 = .ok (.invokevirtual 126, 3) := by decide +kernel
theorem dX6_text_5 : decode cX6_text 5 = .ok (.astore_n 3, 1) := by decide +kernel
theorem dX6_text_6 : decode cX6_text 6 = .ok (.aload_n 3, 1) := by decide +kernel
theorem dX6_text_7 : decode cX6_text 7 = .ok (.ifnull 9, 3) := by decide +kernel
theorem dX6_text_10 : decode cX6_text 10 = .ok (.iload_n 2, 1) := by decide +kernel
theorem dX6_text_11 : decode cX6_text 11 = .ok (.bipush 60, 2) := by decide +kernel
theorem dX6_text_13 : decode cX6_text 13 = .ok (.if_icmp .le 5, 3) := by decide +kernel
theorem dX6_text_16 : decode cX6_text 16 = .ok (.iconst (-1), 1) := by decide +kernel
theorem dX6_text_17 : decode cX6_text 17 = .ok (.ireturn, 1) := by decide +kernel
theorem dX6_text_18 : decode cX6_text 18 = .ok (.iload_n 2, 1) := by decide +kernel
theorem dX6_text_19 : decode cX6_text 19 = .ok (.ifCond .ge 9, 3) := by decide +kernel
theorem dX6_text_22 : decode cX6_text 22 = .ok (.aload_n 0, 1) := by decide +kernel
theorem dX6_text_23 : decode cX6_text 23 = .ok (.iconst 5, 1) := by decide +kernel
theorem dX6_text_24 : decode cX6_text 24 = .ok (.invokevirtual 82, 3) := by decide +kernel
theorem dX6_text_27 : decode cX6_text 27 = .ok (.ireturn, 1) := by decide +kernel
theorem dX6_text_28 : decode cX6_text 28 = .ok (.aload_n 3, 1) := by decide +kernel
theorem dX6_text_29 : decode cX6_text 29 = .ok (.iload_n 2, 1) := by decide +kernel
theorem dX6_text_30 : decode cX6_text 30 = .ok (.invokevirtual 130, 3) := by decide +kernel
theorem dX6_text_33 : decode cX6_text 33 = .ok (.iload_n 2, 1) := by decide +kernel
theorem dX6_text_34 : decode cX6_text 34 = .ok (.ireturn, 1) := by decide +kernel
def F_X6_text (fu : Nat) (M : Mm) (x1 : Int32) (x2 : Int32) : Option (Int32 × Mm) :=
  ob1 (F_X6_textOf fu M x1) (fun r2 =>
  op1 r2 (
    some ((-1 : Int32), M)) (fun c3 =>
    if ¬ kd c3 = 13 then none else (
    if x2 ≤ (60 : Int32) then
      if 0 ≤ x2 then
        ob1 (F_X5_renew fu M c3 x2) (fun M8 =>
        some (x2, M8))
      else
        ob2 (F_X6_found fu M (5 : Int32)) (fun r10 M11 =>
        some (r10, M11))
    else
      some ((-1 : Int32), M))))
set_option maxRecDepth 100000 in
set_option maxHeartbeats 4000000 in
theorem c_X6_text {l : Launch} {G : Gv} {fu : Nat} {M : Mm} {x1 : Int32} {x2 : Int32} {r : Int32} {M' : Mm} (hF : F_X6_text fu M x1 x2 = some (r, M')) : Met l yX6_text (.code yX6_text cX6_text 4 (some .int) :: zU) rm_X6_text (va_Pc [.ref (ad G 0), .int x1, .int x2] (Wd G M)) (QI G r M') 0 0 (zA G) := by
  refine zMet (by decide) rfl (Nat.le_of_ble_eq_true rfl) ?_
  intro p e s m below meth c hC hw ls hl
  have hl : lv_has ls 4 [(0, .ref (ad G 0)), (1, .int x1), (2, .int x2)] := hl
  unfold F_X6_text at hF
  refine lv_aload_n hC.1 hC.2.1 dX6_text_0 rfl (lv_at hl 0 rfl) ?_
  refine lv_iload_n hC.1 hC.2.1 dX6_text_1 rfl (lv_at hl 1 rfl) ?_
  obtain ⟨r2, h1, hF⟩ := ob1S hF
  refine k_Vq (As := [.int x1]) (rest := []) hC hw (c_X6_textOf (M := M) h1) RC_S yv_X6_textOf q2_74 ⟨rfl, rfl⟩ ⟨Nat.le_of_ble_eq_true rfl, Nat.le_of_ble_eq_true rfl⟩ ⟨Nat.zero_le _, Nat.zero_le _⟩ rfl rfl (Nat.le_of_ble_eq_true rfl) hl dX6_text_2 (fun H locs hw => ?_)
  cases r2 with
  | none =>
    have hF := op1N hF
    refine topN ?_
    refine lv_astore_nN (lv' := [(3, .null), (0, .ref (ad G 0)), (1, .int x1), (2, .int x2)]) hC.1 hC.2.1 dX6_text_5 rfl hl (by decide) rfl (fun ls hl => ?_)
    refine lv_aload_nN hC.1 hC.2.1 dX6_text_6 rfl (lv_at hl 0 rfl) ?_
    refine lv_ifnullN (tgt := 16) hC.1 hC.2.1 dX6_text_7 (by decide) ?_
    refine lv_iconst (v := (-1 : Int32)) hC.1 hC.2.1 dX6_text_16 (by decide) ?_
    exact r_iretE hC hw hF dX6_text_17
  | some c3 =>
    obtain ⟨g4, hF⟩ := ifO (op1C hF)
    have g4 := Decidable.not_not.mp g4
    refine topC ?_
    refine lv_astore_n (lv' := [(3, .ref (ad G c3)), (0, .ref (ad G 0)), (1, .int x1), (2, .int x2)]) hC.1 hC.2.1 dX6_text_5 rfl hl (by decide) rfl (fun ls hl => ?_)
    refine lv_aload_n hC.1 hC.2.1 dX6_text_6 rfl (lv_at hl 0 rfl) ?_
    refine lv_ifnull hC.1 hC.2.1 dX6_text_7 ?_
    refine lv_iload_n hC.1 hC.2.1 dX6_text_10 rfl (lv_at hl 3 rfl) ?_
    refine lv_bipush (v := (60 : Int32)) hC.1 hC.2.1 dX6_text_11 (by decide) ?_
    refine lv_icmp_le (tgt := 18) hC.1 hC.2.1 dX6_text_13 (by decide) (fun b5 => ?_) (fun b5 => ?_)
    · have hF := ifP hF b5
      refine lv_iload_n hC.1 hC.2.1 dX6_text_18 rfl (lv_at hl 3 rfl) ?_
      refine lv_if_ge (tgt := 28) hC.1 hC.2.1 dX6_text_19 (by decide) (fun b6 => ?_) (fun b6 => ?_)
      · have hF := ifP hF b6
        refine lv_aload_n hC.1 hC.2.1 dX6_text_28 rfl (lv_at hl 0 rfl) ?_
        refine lv_iload_n hC.1 hC.2.1 dX6_text_29 rfl (lv_at hl 3 rfl) ?_
        obtain ⟨M8, h7, hF⟩ := ob1S hF
        refine k_Vv (As := [.int x2]) (rest := []) hC hw (c_X5_renew (M := M) g4 h7) (RC_T g4) yv_X5_renew q2_78 ⟨rfl, rfl⟩ ⟨Nat.le_of_ble_eq_true rfl, Nat.le_of_ble_eq_true rfl⟩ ⟨Nat.zero_le _, Nat.zero_le _⟩ rfl rfl (Nat.le_of_ble_eq_true rfl) hl dX6_text_30 (fun H locs hw => ?_)
        refine lv_iload_n hC.1 hC.2.1 dX6_text_33 rfl (lv_at hl 3 rfl) ?_
        exact r_iretE hC hw hF dX6_text_34
      · have hF := ifN hF b6
        refine lv_aload_n hC.1 hC.2.1 dX6_text_22 rfl (lv_at hl 1 rfl) ?_
        refine lv_iconst (v := (5 : Int32)) hC.1 hC.2.1 dX6_text_23 (by decide) ?_
        obtain ⟨r10, M11, h9, hF⟩ := ob2S hF
        refine k_Vi (As := [.int (5 : Int32)]) (rest := []) hC hw (c_X6_found (M := M) h9) RC_S yv_X6_found q2_20 ⟨rfl, rfl⟩ ⟨Nat.le_of_ble_eq_true rfl, Nat.le_of_ble_eq_true rfl⟩ ⟨Nat.zero_le _, Nat.zero_le _⟩ rfl rfl (Nat.le_of_ble_eq_true rfl) hl dX6_text_24 (fun H locs hw => ?_)
        exact r_iretE hC hw hF dX6_text_27
    · have hF := ifN hF b5
      refine lv_iconst (v := (-1 : Int32)) hC.1 hC.2.1 dX6_text_16 (by decide) ?_
      exact r_iretE hC hw hF dX6_text_17
abbrev rm_X6_put : Room := { frames := 2, cells := 0, slots := 0, locals := 43 }
theorem yv_X6_put : YV yX6_put cX6_put 6 (some .int) 3 RX6 := ⟨⟨q2_83, q2_84, q1_1, q2_85⟩, by decide +kernel⟩
theorem dX6_put_0 : decode cX6_put 0 = .ok (.aload_n 0, 1) := by decide +kernel
theorem dX6_put_1 : decode cX6_put 1 = .ok (.iload_n 1, 1) := by decide +kernel
theorem dX6_put_2 : decode cX6_put 2 = .ok (.invokevirtual 126, 3) := by decide +kernel
theorem dX6_put_5 : decode cX6_put 5 = .ok (.astore 4, 2) := by decide +kernel
theorem dX6_put_7 : decode cX6_put 7 = .ok (.aload 4, 2) := by decide +kernel
theorem dX6_put_9 : decode cX6_put 9 = .ok (.ifnonnull 5, 3) := by decide +kernel
theorem dX6_put_12 : decode cX6_put 12 = .ok (.iconst (-1), 1) := by decide +kernel
theorem dX6_put_13 : decode cX6_put 13 = .ok (.ireturn, 1) := by decide +kernel
theorem dX6_put_14 : decode cX6_put 14 = .ok (.aload 4, 2) := by decide +kernel
theorem dX6_put_16 : decode cX6_put 16 = .ok (.getfield 131, 3) := by decide +kernel
theorem dX6_put_19 : decode cX6_put 19 = .ok (.ifCond .ne 9, 3) := by decide +kernel
theorem dX6_put_22 : decode cX6_put 22 = .ok (.aload_n 0, 1) := by decide +kernel
theorem dX6_put_23 : decode cX6_put 23 = .ok (.iconst 1, 1) := by decide +kernel
theorem dX6_put_24 : decode cX6_put 24 = .ok (.invokevirtual 82, 3) := by decide +kernel
theorem dX6_put_27 : decode cX6_put 27 = .ok (.ireturn, 1) := by decide +kernel
theorem dX6_put_28 : decode cX6_put 28 = .ok (.iload_n 2, 1) := by decide +kernel
theorem dX6_put_29 : decode cX6_put 29 = .ok (.ifCond .lt 12, 3) := by decide +kernel
theorem dX6_put_32 : decode cX6_put 32 = .ok (.iload_n 2, 1) := by decide +kernel
theorem dX6_put_33 : decode cX6_put 33 = .ok (.aload 4, 2) := by decide +kernel
theorem dX6_put_35 : decode cX6_put 35 = .ok (.getfield 132, 3) := by decide +kernel
theorem dX6_put_38 : decode cX6_put 38 = .ok (.if_icmp .lt 9, 3) := by decide +kernel
theorem dX6_put_41 : decode cX6_put 41 = .ok (.aload_n 0, 1) := by decide +kernel
theorem dX6_put_42 : decode cX6_put 42 = .ok (.iconst 2, 1) := by decide +kernel
theorem dX6_put_43 : decode cX6_put 43 = .ok (.invokevirtual 82, 3) := by decide +kernel
theorem dX6_put_46 : decode cX6_put 46 = .ok (.ireturn, 1) := by decide +kernel
theorem dX6_put_47 : decode cX6_put 47 = .ok (.aload 4, 2) := by decide +kernel
theorem dX6_put_49 : decode cX6_put 49 = .ok (.iload_n 2, 1) := by decide +kernel
theorem dX6_put_50 : decode cX6_put 50 = .ok (.invokevirtual 133, 3) := by decide +kernel
theorem dX6_put_53 : decode cX6_put 53 = .ok (.istore 5, 2) := by decide +kernel
theorem dX6_put_55 : decode cX6_put 55 = .ok (.aload 4, 2) := by decide +kernel
theorem dX6_put_57 : decode cX6_put 57 = .ok (.iload_n 2, 1) := by decide +kernel
theorem dX6_put_58 : decode cX6_put 58 = .ok (.iload_n 3, 1) := by decide +kernel
theorem dX6_put_59 : decode cX6_put 59 = .ok (.i2b, 1) := by decide +kernel
theorem dX6_put_60 : decode cX6_put 60 = .ok (.invokevirtual 136, 3) := by decide +kernel
theorem dX6_put_63 : decode cX6_put 63 = .ok (.iload 5, 2) := by decide +kernel
theorem dX6_put_65 : decode cX6_put 65 = .ok (.sipush 1000, 3) := by decide +kernel
theorem dX6_put_68 : decode cX6_put 68 = .ok (.iadd, 1) := by decide +kernel
theorem dX6_put_69 : decode cX6_put 69 = .ok (.ireturn, 1) := by decide +kernel
def F_X6_put_41 (fu : Nat) (M : Mm) : Option (Int32 × Mm) :=
  ob2 (F_X6_found fu M (2 : Int32)) (fun r2 M3 =>
  some (r2, M3))
set_option maxRecDepth 100000 in
set_option maxHeartbeats 4000000 in
theorem w_X6_put_41 {p : Program} {l : Launch} {e : Env} {s : State} {m : MethodId} {args : Array Value} {below : List Frame} {meth : Method} {c : Code} {G : Gv} (hC : Cx p s m args meth c cX6_put 6 (some .int) RX6) {fu : Nat} {r : Int32} {M' : Mm} {M : Mm} {H : Heap} {locs : List Loc} {ls : Array Slot} (hF : F_X6_put_41 fu M = some (r, M')) (hw : St G s H locs M) (hl : lv_has ls 6 [(0, .ref (ad G 0))]) : W p l e rm_X6_put s m args below meth c H locs 0 0 (MQ below (QI G r M') args s 0 0 (zA G)) (F0 m 41 ls []) := by
  unfold F_X6_put_41 at hF
  refine lv_aload_n hC.1 hC.2.1 dX6_put_41 rfl (lv_at hl 0 rfl) ?_
  refine lv_iconst (v := (2 : Int32)) hC.1 hC.2.1 dX6_put_42 (by decide) ?_
  obtain ⟨r2, M3, h1, hF⟩ := ob2S hF
  refine k_Vi (As := [.int (2 : Int32)]) (rest := []) hC hw (c_X6_found (M := M) h1) RC_S yv_X6_found q2_20 ⟨rfl, rfl⟩ ⟨Nat.le_of_ble_eq_true rfl, Nat.le_of_ble_eq_true rfl⟩ ⟨Nat.zero_le _, Nat.zero_le _⟩ rfl rfl (Nat.le_of_ble_eq_true rfl) hl dX6_put_43 (fun H locs hw => ?_)
  exact r_iretE hC hw hF dX6_put_46
def F_X6_put (fu : Nat) (M : Mm) (x1 : Int32) (x2 : Int32) (x3 : Int32) : Option (Int32 × Mm) :=
  ob1 (F_X6_textOf fu M x1) (fun r2 =>
  op1 r2 (
    some ((-1 : Int32), M)) (fun c3 =>
    if ¬ kd c3 = 13 then none else (
    if (M.1 c3 0) = 0 then
      ob2 (F_X6_found fu M (1 : Int32)) (fun r13 M14 =>
      some (r13, M14))
    else
      if x2 < 0 then
        F_X6_put_41 fu M
      else
        if x2 < (M.1 c3 1) then
          ob1 (F_X5_sign fu M c3 x2) (fun r9 =>
          ob1 (F_X5_change fu M c3 x2 x3.toInt8.toInt32) (fun M11 =>
          some ((r9 + (1000 : Int32)), M11)))
        else
          F_X6_put_41 fu M)))
set_option maxRecDepth 100000 in
set_option maxHeartbeats 4000000 in
theorem c_X6_put {l : Launch} {G : Gv} {fu : Nat} {M : Mm} {x1 : Int32} {x2 : Int32} {x3 : Int32} {r : Int32} {M' : Mm} (hF : F_X6_put fu M x1 x2 x3 = some (r, M')) : Met l yX6_put (.code yX6_put cX6_put 6 (some .int) :: zU) rm_X6_put (va_Pc [.ref (ad G 0), .int x1, .int x2, .int x3] (Wd G M)) (QI G r M') 0 0 (zA G) := by
  refine zMet (by decide) rfl (Nat.le_of_ble_eq_true rfl) ?_
  intro p e s m below meth c hC hw ls hl
  have hl : lv_has ls 6 [(0, .ref (ad G 0)), (1, .int x1), (2, .int x2), (3, .int x3)] := hl
  unfold F_X6_put at hF
  refine lv_aload_n hC.1 hC.2.1 dX6_put_0 rfl (lv_at hl 0 rfl) ?_
  refine lv_iload_n hC.1 hC.2.1 dX6_put_1 rfl (lv_at hl 1 rfl) ?_
  obtain ⟨r2, h1, hF⟩ := ob1S hF
  refine k_Vq (As := [.int x1]) (rest := []) hC hw (c_X6_textOf (M := M) h1) RC_S yv_X6_textOf q2_74 ⟨rfl, rfl⟩ ⟨Nat.le_of_ble_eq_true rfl, Nat.le_of_ble_eq_true rfl⟩ ⟨Nat.zero_le _, Nat.zero_le _⟩ rfl rfl (Nat.le_of_ble_eq_true rfl) hl dX6_put_2 (fun H locs hw => ?_)
  cases r2 with
  | none =>
    have hF := op1N hF
    refine topN ?_
    refine lv_astoreN (lv' := [(4, .null), (0, .ref (ad G 0)), (1, .int x1), (2, .int x2), (3, .int x3)]) hC.1 hC.2.1 dX6_put_5 hl (by decide) rfl (fun ls hl => ?_)
    refine lv_aloadN hC.1 hC.2.1 dX6_put_7 (lv_at hl 0 rfl) ?_
    refine lv_ifnonnullN hC.1 hC.2.1 dX6_put_9 ?_
    refine lv_iconst (v := (-1 : Int32)) hC.1 hC.2.1 dX6_put_12 (by decide) ?_
    exact r_iretE hC hw hF dX6_put_13
  | some c3 =>
    obtain ⟨g4, hF⟩ := ifO (op1C hF)
    have g4 := Decidable.not_not.mp g4
    refine topC ?_
    refine lv_astore (lv' := [(4, .ref (ad G c3)), (0, .ref (ad G 0)), (1, .int x1), (2, .int x2), (3, .int x3)]) hC.1 hC.2.1 dX6_put_5 hl (by decide) rfl (fun ls hl => ?_)
    refine lv_aload hC.1 hC.2.1 dX6_put_7 (lv_at hl 0 rfl) ?_
    refine lv_ifnonnull (tgt := 14) hC.1 hC.2.1 dX6_put_9 (by decide) ?_
    refine lv_aload hC.1 hC.2.1 dX6_put_14 (lv_at hl 0 rfl) ?_
    refine g5_there hC hw g4 q1_187 dX6_put_16 ?_
    refine lv_if_ne (tgt := 28) hC.1 hC.2.1 dX6_put_19 (by decide) (fun b5 => ?_) (fun b5 => ?_)
    · have hF := ifN hF b5
      refine lv_iload_n hC.1 hC.2.1 dX6_put_28 rfl (lv_at hl 3 rfl) ?_
      refine lv_if_lt (tgt := 41) hC.1 hC.2.1 dX6_put_29 (by decide) (fun b6 => ?_) (fun b6 => ?_)
      · have hF := ifP hF b6
        exact w_X6_put_41 hC hF hw (lv_sub hl [1] rfl)
      · have hF := ifN hF b6
        refine lv_iload_n hC.1 hC.2.1 dX6_put_32 rfl (lv_at hl 3 rfl) ?_
        refine lv_aload hC.1 hC.2.1 dX6_put_33 (lv_at hl 0 rfl) ?_
        refine g5_size hC hw g4 q1_190 dX6_put_35 ?_
        refine lv_icmp_lt (tgt := 47) hC.1 hC.2.1 dX6_put_38 (by decide) (fun b7 => ?_) (fun b7 => ?_)
        · have hF := ifP hF b7
          refine lv_aload hC.1 hC.2.1 dX6_put_47 (lv_at hl 0 rfl) ?_
          refine lv_iload_n hC.1 hC.2.1 dX6_put_49 rfl (lv_at hl 3 rfl) ?_
          obtain ⟨r9, h8, hF⟩ := ob1S hF
          refine k_Vi (As := [.int x2]) (rest := []) hC hw (c_X5_sign (M := M) g4 h8) (RC_T g4) yv_X5_sign q2_86 ⟨rfl, rfl⟩ ⟨Nat.le_of_ble_eq_true rfl, Nat.le_of_ble_eq_true rfl⟩ ⟨Nat.zero_le _, Nat.zero_le _⟩ rfl rfl (Nat.le_of_ble_eq_true rfl) hl dX6_put_50 (fun H locs hw => ?_)
          refine lv_istore (lv' := [(5, .int r9), (4, .ref (ad G c3)), (0, .ref (ad G 0)), (1, .int x1), (2, .int x2), (3, .int x3)]) hC.1 hC.2.1 dX6_put_53 hl (by decide) rfl (fun ls hl => ?_)
          refine lv_aload hC.1 hC.2.1 dX6_put_55 (lv_at hl 1 rfl) ?_
          refine lv_iload_n hC.1 hC.2.1 dX6_put_57 rfl (lv_at hl 4 rfl) ?_
          refine lv_iload_n hC.1 hC.2.1 dX6_put_58 rfl (lv_at hl 5 rfl) ?_
          refine lv_i2b hC.1 hC.2.1 dX6_put_59 rfl ?_
          obtain ⟨M11, h10, hF⟩ := ob1S hF
          refine k_Vv (As := [.int x2, .int x3.toInt8.toInt32]) (rest := []) hC hw (c_X5_change (M := M) g4 h10) (RC_T g4) yv_X5_change q2_90 ⟨rfl, rfl⟩ ⟨Nat.le_of_ble_eq_true rfl, Nat.le_of_ble_eq_true rfl⟩ ⟨Nat.zero_le _, Nat.zero_le _⟩ rfl rfl (Nat.le_of_ble_eq_true rfl) hl dX6_put_60 (fun H locs hw => ?_)
          refine lv_iload hC.1 hC.2.1 dX6_put_63 (lv_at hl 0 rfl) ?_
          refine lv_sipush (v := (1000 : Int32)) hC.1 hC.2.1 dX6_put_65 (by decide) ?_
          refine lv_iadd hC.1 hC.2.1 dX6_put_68 ?_
          exact r_iretE hC hw hF dX6_put_69
        · have hF := ifN hF b7
          exact w_X6_put_41 hC hF hw (lv_sub hl [1] rfl)
    · have hF := ifP hF b5
      refine lv_aload_n hC.1 hC.2.1 dX6_put_22 rfl (lv_at hl 1 rfl) ?_
      refine lv_iconst (v := (1 : Int32)) hC.1 hC.2.1 dX6_put_23 (by decide) ?_
      obtain ⟨r13, M14, h12, hF⟩ := ob2S hF
      refine k_Vi (As := [.int (1 : Int32)]) (rest := []) hC hw (c_X6_found (M := M) h12) RC_S yv_X6_found q2_20 ⟨rfl, rfl⟩ ⟨Nat.le_of_ble_eq_true rfl, Nat.le_of_ble_eq_true rfl⟩ ⟨Nat.zero_le _, Nat.zero_le _⟩ rfl rfl (Nat.le_of_ble_eq_true rfl) hl dX6_put_24 (fun H locs hw => ?_)
      exact r_iretE hC hw hF dX6_put_27
abbrev rm_X6_fault : Room := { frames := 4, cells := 0, slots := 0, locals := 88 }
theorem yv_X6_fault : YV yX6_fault cX6_fault 3 (some .int) 1 RX6 := ⟨⟨q2_95, q2_96, q1_1, q2_97⟩, by decide +kernel⟩
theorem dX6_fault_0 : decode cX6_fault 0 = .ok (.aload_n 0, 1) := by decide +kernel
theorem dX6_fault_1 : decode cX6_fault 1 = .ok (.iload_n 1, 1) := by decide +kernel
theorem dX6_fault_2 : decode cX6_fault 2 = .ok (.invokevirtual 126, 3) := by decide +kernel
theorem dX6_fault_5 : decode cX6_fault 5 = .ok (.astore_n 2, 1) := by decide +kernel
theorem dX6_fault_6 : decode cX6_fault 6 = .ok (.aload_n 2, 1) := by decide +kernel
theorem dX6_fault_7 : decode cX6_fault 7 = .ok (.ifnonnull 5, 3) := by decide +kernel
theorem dX6_fault_10 : decode cX6_fault 10 = .ok (.iconst (-1), 1) := by decide +kernel
theorem dX6_fault_11 : decode cX6_fault 11 = .ok (.ireturn, 1) := by decide +kernel
theorem dX6_fault_12 : decode cX6_fault 12 = .ok (.aload_n 2, 1) := by decide +kernel
theorem dX6_fault_13 : decode cX6_fault 13 = .ok (.getfield 131, 3) := by decide +kernel
theorem dX6_fault_16 : decode cX6_fault 16 = .ok (.ifCond .ne 9, 3) := by decide +kernel
theorem dX6_fault_19 : decode cX6_fault 19 = .ok (.aload_n 0, 1) := by decide +kernel
theorem dX6_fault_20 : decode cX6_fault 20 = .ok (.iconst 1, 1) := by decide +kernel
theorem dX6_fault_21 : decode cX6_fault 21 = .ok (.invokevirtual 82, 3) := by decide +kernel
theorem dX6_fault_24 : decode cX6_fault 24 = .ok (.ireturn, 1) := by decide +kernel
theorem dX6_fault_25 : decode cX6_fault 25 = .ok (.aload_n 0, 1) := by decide +kernel
theorem dX6_fault_26 : decode cX6_fault 26 = .ok (.getfield 35, 3) := by decide +kernel
theorem dX6_fault_29 : decode cX6_fault 29 = .ok (.aload_n 2, 1) := by decide +kernel
theorem dX6_fault_30 : decode cX6_fault 30 = .ok (.invokevirtual 140, 3) := by decide +kernel
theorem dX6_fault_33 : decode cX6_fault 33 = .ok (.ireturn, 1) := by decide +kernel
def F_X6_fault (fu : Nat) (M : Mm) (x1 : Int32) : Option (Int32 × Mm) :=
  ob1 (F_X6_textOf fu M x1) (fun r2 =>
  op1 r2 (
    some ((-1 : Int32), M)) (fun c3 =>
    if ¬ kd c3 = 13 then none else (
    if (M.1 c3 0) = 0 then
      ob2 (F_X6_found fu M (1 : Int32)) (fun r10 M11 =>
      some (r10, M11))
    else
      ob2 (F_X3_faultIn fu M c3) (fun r7 M8 =>
      some (r7, M8)))))
set_option maxRecDepth 100000 in
set_option maxHeartbeats 4000000 in
theorem c_X6_fault {l : Launch} {G : Gv} {fu : Nat} {M : Mm} {x1 : Int32} {r : Int32} {M' : Mm} (hF : F_X6_fault fu M x1 = some (r, M')) : Met l yX6_fault (.code yX6_fault cX6_fault 3 (some .int) :: zU) rm_X6_fault (va_Pc [.ref (ad G 0), .int x1] (Wd G M)) (QI G r M') 0 0 (zA G) := by
  refine zMet (by decide) rfl (Nat.le_of_ble_eq_true rfl) ?_
  intro p e s m below meth c hC hw ls hl
  have hl : lv_has ls 3 [(0, .ref (ad G 0)), (1, .int x1)] := hl
  unfold F_X6_fault at hF
  refine lv_aload_n hC.1 hC.2.1 dX6_fault_0 rfl (lv_at hl 0 rfl) ?_
  refine lv_iload_n hC.1 hC.2.1 dX6_fault_1 rfl (lv_at hl 1 rfl) ?_
  obtain ⟨r2, h1, hF⟩ := ob1S hF
  refine k_Vq (As := [.int x1]) (rest := []) hC hw (c_X6_textOf (M := M) h1) RC_S yv_X6_textOf q2_74 ⟨rfl, rfl⟩ ⟨Nat.le_of_ble_eq_true rfl, Nat.le_of_ble_eq_true rfl⟩ ⟨Nat.zero_le _, Nat.zero_le _⟩ rfl rfl (Nat.le_of_ble_eq_true rfl) hl dX6_fault_2 (fun H locs hw => ?_)
  cases r2 with
  | none =>
    have hF := op1N hF
    refine topN ?_
    refine lv_astore_nN (lv' := [(2, .null), (0, .ref (ad G 0)), (1, .int x1)]) hC.1 hC.2.1 dX6_fault_5 rfl hl (by decide) rfl (fun ls hl => ?_)
    refine lv_aload_nN hC.1 hC.2.1 dX6_fault_6 rfl (lv_at hl 0 rfl) ?_
    refine lv_ifnonnullN hC.1 hC.2.1 dX6_fault_7 ?_
    refine lv_iconst (v := (-1 : Int32)) hC.1 hC.2.1 dX6_fault_10 (by decide) ?_
    exact r_iretE hC hw hF dX6_fault_11
  | some c3 =>
    obtain ⟨g4, hF⟩ := ifO (op1C hF)
    have g4 := Decidable.not_not.mp g4
    refine topC ?_
    refine lv_astore_n (lv' := [(2, .ref (ad G c3)), (0, .ref (ad G 0)), (1, .int x1)]) hC.1 hC.2.1 dX6_fault_5 rfl hl (by decide) rfl (fun ls hl => ?_)
    refine lv_aload_n hC.1 hC.2.1 dX6_fault_6 rfl (lv_at hl 0 rfl) ?_
    refine lv_ifnonnull (tgt := 12) hC.1 hC.2.1 dX6_fault_7 (by decide) ?_
    refine lv_aload_n hC.1 hC.2.1 dX6_fault_12 rfl (lv_at hl 0 rfl) ?_
    refine g5_there hC hw g4 q1_187 dX6_fault_13 ?_
    refine lv_if_ne (tgt := 25) hC.1 hC.2.1 dX6_fault_16 (by decide) (fun b5 => ?_) (fun b5 => ?_)
    · have hF := ifN hF b5
      refine lv_aload_n hC.1 hC.2.1 dX6_fault_25 rfl (lv_at hl 1 rfl) ?_
      refine g6_reading hC hw q1_204 dX6_fault_26 ?_
      refine lv_aload_n hC.1 hC.2.1 dX6_fault_29 rfl (lv_at hl 0 rfl) ?_
      obtain ⟨r7, M8, h6, hF⟩ := ob2S hF
      refine k_Vi (As := [.ref (ad G c3)]) (rest := []) hC hw (c_X3_faultIn (M := M) g4 h6) RC_D yv_X3_faultIn q2_98 ⟨rfl, rfl⟩ ⟨Nat.le_of_ble_eq_true rfl, Nat.le_of_ble_eq_true rfl⟩ ⟨Nat.zero_le _, Nat.zero_le _⟩ rfl rfl (Nat.le_of_ble_eq_true rfl) hl dX6_fault_30 (fun H locs hw => ?_)
      exact r_iretE hC hw hF dX6_fault_33
    · have hF := ifP hF b5
      refine lv_aload_n hC.1 hC.2.1 dX6_fault_19 rfl (lv_at hl 1 rfl) ?_
      refine lv_iconst (v := (1 : Int32)) hC.1 hC.2.1 dX6_fault_20 (by decide) ?_
      obtain ⟨r10, M11, h9, hF⟩ := ob2S hF
      refine k_Vi (As := [.int (1 : Int32)]) (rest := []) hC hw (c_X6_found (M := M) h9) RC_S yv_X6_found q2_20 ⟨rfl, rfl⟩ ⟨Nat.le_of_ble_eq_true rfl, Nat.le_of_ble_eq_true rfl⟩ ⟨Nat.zero_le _, Nat.zero_le _⟩ rfl rfl (Nat.le_of_ble_eq_true rfl) hl dX6_fault_21 (fun H locs hw => ?_)
      exact r_iretE hC hw hF dX6_fault_24
abbrev rm_X6_keptOf : Room := { frames := 0, cells := 0, slots := 0, locals := 0 }
theorem yv_X6_keptOf : YV yX6_keptOf cX6_keptOf 2 (Option.some (.object "SnowCitizens$North")) 1 RX6 := ⟨⟨q2_141, qs_9, q1_1, q2_142⟩, by decide +kernel⟩
theorem dX6_keptOf_0 : decode cX6_keptOf 0 = .ok (.iload_n 1, 1) := by decide +kernel
theorem dX6_keptOf_1 : decode cX6_keptOf 1 = .ok (.ifCond .lt 21, 3) := by decide +kernel
theorem dX6_keptOf_4 : decode cX6_keptOf 4 = .ok (.iload_n 1, 1) := by decide +kernel
theorem dX6_keptOf_5 : decode cX6_keptOf 5 = .ok (.aload_n 0, 1) := by decide +kernel
theorem dX6_keptOf_6 : decode cX6_keptOf 6 = .ok (.getfield 28, 3) := by decide +kernel
theorem dX6_keptOf_9 : decode cX6_keptOf 9 = .ok (.arraylength, 1) := by decide +kernel
theorem dX6_keptOf_10 : decode cX6_keptOf 10 = .ok (.if_icmp .ge 12, 3) := by decide +kernel
theorem dX6_keptOf_13 : decode cX6_keptOf 13 = .ok (.aload_n 0, 1) := by decide +kernel
theorem dX6_keptOf_14 : decode cX6_keptOf 14 = .ok (.getfield 28, 3) := by decide +kernel
theorem dX6_keptOf_17 : decode cX6_keptOf 17 = .ok (.iload_n 1, 1) := by decide +kernel
theorem dX6_keptOf_18 : decode cX6_keptOf 18 = .ok (.aaload, 1) := by decide +kernel
theorem dX6_keptOf_19 : decode cX6_keptOf 19 = .ok (.goto 4, 3) := by decide +kernel
theorem dX6_keptOf_22 : decode cX6_keptOf 22 = .ok (.aconst_null, 1) := by decide +kernel
theorem dX6_keptOf_23 : decode cX6_keptOf 23 = .ok (.areturn, 1) := by decide +kernel
def F_X6_keptOf (fu : Nat) (M : Mm) (x1 : Int32) : Option (Option Nat) :=
  if x1 < 0 then
    some none
  else
    if (3 : Int32) ≤ x1 then
      some none
    else
      if x1 < 0 ∨ 3 ≤ x1.toNatClampNeg then none else (
      some (some (35 + 11 * x1.toNatClampNeg)))
set_option maxRecDepth 100000 in
set_option maxHeartbeats 4000000 in
theorem c_X6_keptOf {l : Launch} {G : Gv} {fu : Nat} {M : Mm} {x1 : Int32} {r : Option Nat} (hF : F_X6_keptOf fu M x1 = some r) : Met l yX6_keptOf (.code yX6_keptOf cX6_keptOf 2 (Option.some (.object "SnowCitizens$North")) :: zU) rm_X6_keptOf (va_Pc [.ref (ad G 0), .int x1] (Wd G M)) (QQ G r M) 0 0 (zA G) := by
  refine zMet (by decide) rfl (Nat.le_of_ble_eq_true rfl) ?_
  intro p e s m below meth c hC hw ls hl
  have hl : lv_has ls 2 [(0, .ref (ad G 0)), (1, .int x1)] := hl
  unfold F_X6_keptOf at hF
  refine lv_iload_n hC.1 hC.2.1 dX6_keptOf_0 rfl (lv_at hl 1 rfl) ?_
  refine lv_if_lt (tgt := 22) hC.1 hC.2.1 dX6_keptOf_1 (by decide) (fun b1 => ?_) (fun b1 => ?_)
  · have hF := ifP hF b1
    refine lv_null hC.1 hC.2.1 dX6_keptOf_22 ?_
    exact r_nretP hC hw hF dX6_keptOf_23
  · have hF := ifN hF b1
    refine lv_iload_n hC.1 hC.2.1 dX6_keptOf_4 rfl (lv_at hl 1 rfl) ?_
    refine lv_aload_n hC.1 hC.2.1 dX6_keptOf_5 rfl (lv_at hl 0 rfl) ?_
    refine g6_kept hC hw q1_203 dX6_keptOf_6 ?_
    refine r_alenN hC.1 hC.2.1 hw dX6_keptOf_9 ?_
    refine lv_icmp_ge (tgt := 22) hC.1 hC.2.1 dX6_keptOf_10 (by decide) (fun b2 => ?_) (fun b2 => ?_)
    · have hF := ifP hF b2
      refine lv_null hC.1 hC.2.1 dX6_keptOf_22 ?_
      exact r_nretP hC hw hF dX6_keptOf_23
    · have hF := ifN hF b2
      refine lv_aload_n hC.1 hC.2.1 dX6_keptOf_13 rfl (lv_at hl 0 rfl) ?_
      refine g6_kept hC hw q1_203 dX6_keptOf_14 ?_
      refine lv_iload_n hC.1 hC.2.1 dX6_keptOf_17 rfl (lv_at hl 1 rfl) ?_
      obtain ⟨n3, hF⟩ := ifO hF
      refine r_aldN hC.1 hC.2.1 hw n3 dX6_keptOf_18 ?_
      refine lv_goto (tgt := 23) hC.1 hC.2.1 dX6_keptOf_19 (by decide) ?_
      exact r_aretP hC hw hF dX6_keptOf_23
abbrev rm_X6_north : Room := { frames := 4, cells := 0, slots := 0, locals := 88 }
theorem yv_X6_north : YV yX6_north cX6_north 5 (some .int) 1 RX6 := ⟨⟨q2_125, q2_126, q1_1, q2_127⟩, by decide +kernel⟩
theorem dX6_north_0 : decode cX6_north 0 = .ok (.aload_n 0, 1) := by decide +kernel
theorem dX6_north_1 : decode cX6_north 1 = .ok (.iload_n 1, 1) := by decide +kernel
theorem dX6_north_2 : decode cX6_north 2 = .ok (.invokevirtual 126, 3) := by decide +kernel
theorem dX6_north_5 : decode cX6_north 5 = .ok (.astore_n 2, 1) := by decide +kernel
theorem dX6_north_6 : decode cX6_north 6 = .ok (.aload_n 2, 1) := by decide +kernel
theorem dX6_north_7 : decode cX6_north 7 = .ok (.ifnonnull 5, 3) := by decide +kernel
theorem dX6_north_10 : decode cX6_north 10 = .ok (.iconst (-1), 1) := by decide +kernel
theorem dX6_north_11 : decode cX6_north 11 = .ok (.ireturn, 1) := by decide +kernel
theorem dX6_north_12 : decode cX6_north 12 = .ok (.aload_n 2, 1) := by decide +kernel
theorem dX6_north_13 : decode cX6_north 13 = .ok (.getfield 131, 3) := by decide +kernel
theorem dX6_north_16 : decode cX6_north 16 = .ok (.ifCond .ne 9, 3) := by decide +kernel
theorem dX6_north_19 : decode cX6_north 19 = .ok (.aload_n 0, 1) := by decide +kernel
theorem dX6_north_20 : decode cX6_north 20 = .ok (.iconst 1, 1) := by decide +kernel
theorem dX6_north_21 : decode cX6_north 21 = .ok (.invokevirtual 82, 3) := by decide +kernel
theorem dX6_north_24 : decode cX6_north 24 = .ok (.ireturn, 1) := by decide +kernel
theorem dX6_north_25 : decode cX6_north 25 = .ok (.aload_n 0, 1) := by decide +kernel
theorem dX6_north_26 : decode cX6_north 26 = .ok (.getfield 35, 3) := by decide +kernel
theorem dX6_north_29 : decode cX6_north 29 = .ok (.aload_n 2, 1) := by decide +kernel
theorem dX6_north_30 : decode cX6_north 30 = .ok (.invokevirtual 140, 3) := by decide +kernel
theorem dX6_north_33 : decode cX6_north 33 = .ok (.bipush (-9), 2) := by decide +kernel
theorem dX6_north_35 : decode cX6_north 35 = .ok (.if_icmp .eq 6, 3) := by decide +kernel
theorem dX6_north_38 : decode cX6_north 38 = .ok (.bipush (-4), 2) := by decide +kernel
theorem dX6_north_40 : decode cX6_north 40 = .ok (.ireturn, 1) := by decide +kernel
theorem dX6_north_41 : decode cX6_north 41 = .ok (.aload_n 0, 1) := by decide +kernel
theorem dX6_north_42 : decode cX6_north 42 = .ok (.getfield 24, 3) := by decide +kernel
theorem dX6_north_45 : decode cX6_north 45 = .ok (.aload_n 0, 1) := by decide +kernel
theorem dX6_north_46 : decode cX6_north 46 = .ok (.getfield 35, 3) := by decide +kernel
theorem dX6_north_49 : decode cX6_north 49 = .ok (.invokevirtual 144, 3) := by decide +kernel
theorem dX6_north_52 : decode cX6_north 52 = .ok (.iconst 0, 1) := by decide +kernel
theorem dX6_north_53 : decode cX6_north 53 = .ok (.istore_n 3, 1) := by decide +kernel
theorem dX6_north_54 : decode cX6_north 54 = .ok (.iload_n 3, 1) := by decide +kernel
theorem dX6_north_55 : decode cX6_north 55 = .ok (.iconst 3, 1) := by decide +kernel
theorem dX6_north_56 : decode cX6_north 56 = .ok (.if_icmp .ge 27, 3) := by decide +kernel
theorem dX6_north_59 : decode cX6_north 59 = .ok (.aload_n 0, 1) := by decide +kernel
theorem dX6_north_60 : decode cX6_north 60 = .ok (.iload_n 3, 1) := by decide +kernel
theorem dX6_north_61 : decode cX6_north 61 = .ok (.invokevirtual 148, 3) := by decide +kernel
theorem dX6_north_64 : decode cX6_north 64 = .ok (.astore 4, 2) := by decide +kernel
theorem dX6_north_66 : decode cX6_north 66 = .ok (.aload 4, 2) := by decide +kernel
theorem dX6_north_68 : decode cX6_north 68 = .ok (.ifnull 9, 3) := by decide +kernel
theorem dX6_north_71 : decode cX6_north 71 = .ok (.aload 4, 2) := by decide +kernel
theorem dX6_north_73 : decode cX6_north 73 = .ok (.iconst 0, 1) := by decide +kernel
theorem dX6_north_74 : decode cX6_north 74 = .ok (.putfield 152, 3) := by decide +kernel
theorem dX6_north_77 : decode cX6_north 77 = .ok (.iinc 3 1, 3) := by decide +kernel
theorem dX6_north_80 : decode cX6_north 80 = .ok (.goto (-26), 3) := by decide +kernel
theorem dX6_north_83 : decode cX6_north 83 = .ok (.aload_n 0, 1) := by decide +kernel
theorem dX6_north_84 : decode cX6_north 84 = .ok (.getfield 24, 3) := by decide +kernel
theorem dX6_north_87 : decode cX6_north 87 = .ok (.getfield 152, 3) := by decide +kernel
theorem dX6_north_90 : decode cX6_north 90 = .ok (.ireturn, 1) := by decide +kernel
def F_X6_north_54 (fu : Nat) : Nat → Mm → Int32 → Option (Int32 × Mm)
  | 0, _, _ => none
  | n + 1, M, x3 =>
    if (3 : Int32) ≤ x3 then
      some ((M.1 24 0), M)
    else
      ob1 (F_X6_keptOf fu M x3) (fun r3 =>
      op1 r3 (
        F_X6_north_54 fu n M (x3 + (1 : Int32))) (fun c4 =>
        if ¬ kd c4 = 11 then none else (
        lt1 (pI M c4 0 (0 : Int32)) (fun M6 =>
        F_X6_north_54 fu n M6 (x3 + (1 : Int32))))))
set_option maxRecDepth 100000 in
set_option maxHeartbeats 4000000 in
theorem w_X6_north_54 {p : Program} {l : Launch} {e : Env} {s : State} {m : MethodId} {args : Array Value} {below : List Frame} {meth : Method} {c : Code} {G : Gv} (hC : Cx p s m args meth c cX6_north 5 (some .int) RX6) {fu : Nat} {r : Int32} {M' : Mm} : ∀ (n : Nat) {x3 : Int32} {M : Mm} {H : Heap} {locs : List Loc} {ls : Array Slot}, F_X6_north_54 fu n M x3 = some (r, M') → St G s H locs M → lv_has ls 5 [(0, .ref (ad G 0)), (3, .int x3)] → W p l e rm_X6_north s m args below meth c H locs 0 0 (MQ below (QI G r M') args s 0 0 (zA G)) (F0 m 54 ls []) := by
  intro n
  induction n with
  | zero =>
    intro x3 M H locs ls hF hw hl
    cases hF
  | succ n ih =>
    intro x3 M H locs ls hF hw hl
    unfold F_X6_north_54 at hF
    refine lv_iload_n hC.1 hC.2.1 dX6_north_54 rfl (lv_at hl 1 rfl) ?_
    refine lv_iconst (v := (3 : Int32)) hC.1 hC.2.1 dX6_north_55 (by decide) ?_
    refine lv_icmp_ge (tgt := 83) hC.1 hC.2.1 dX6_north_56 (by decide) (fun b1 => ?_) (fun b1 => ?_)
    · have hF := ifP hF b1
      refine lv_aload_n hC.1 hC.2.1 dX6_north_83 rfl (lv_at hl 0 rfl) ?_
      refine g6_north hC hw q1_202 dX6_north_84 ?_
      refine g2_men hC hw (rfl : kd 24 = 11) q1_32 dX6_north_87 ?_
      exact r_iretE hC hw hF dX6_north_90
    · have hF := ifN hF b1
      refine lv_aload_n hC.1 hC.2.1 dX6_north_59 rfl (lv_at hl 0 rfl) ?_
      refine lv_iload_n hC.1 hC.2.1 dX6_north_60 rfl (lv_at hl 1 rfl) ?_
      obtain ⟨r3, h2, hF⟩ := ob1S hF
      refine k_Vq (As := [.int x3]) (rest := []) hC hw (c_X6_keptOf (M := M) h2) RC_S yv_X6_keptOf q2_139 ⟨rfl, rfl⟩ ⟨Nat.le_of_ble_eq_true rfl, Nat.le_of_ble_eq_true rfl⟩ ⟨Nat.zero_le _, Nat.zero_le _⟩ rfl rfl (Nat.le_of_ble_eq_true rfl) hl dX6_north_61 (fun H locs hw => ?_)
      cases r3 with
      | none =>
        have hF := op1N hF
        refine topN ?_
        refine lv_astoreN (lv' := [(4, .null), (0, .ref (ad G 0)), (3, .int x3)]) hC.1 hC.2.1 dX6_north_64 hl (by decide) rfl (fun ls hl => ?_)
        refine lv_aloadN hC.1 hC.2.1 dX6_north_66 (lv_at hl 0 rfl) ?_
        refine lv_ifnullN (tgt := 77) hC.1 hC.2.1 dX6_north_68 (by decide) ?_
        refine lv_iinc (v := (x3 + (1 : Int32))) (lv' := [(3, .int (x3 + (1 : Int32))), (4, .null), (0, .ref (ad G 0))]) hC.1 hC.2.1 dX6_north_77 hl (k := 2) rfl rfl (by decide) rfl (fun ls hl => ?_)
        refine lv_goto (tgt := 54) hC.1 hC.2.1 dX6_north_80 (by decide) ?_
        exact ih hF hw (lv_sub hl [2, 0] rfl)
      | some c4 =>
        obtain ⟨g5, hF⟩ := ifO (op1C hF)
        have g5 := Decidable.not_not.mp g5
        refine topC ?_
        refine lv_astore (lv' := [(4, .ref (ad G c4)), (0, .ref (ad G 0)), (3, .int x3)]) hC.1 hC.2.1 dX6_north_64 hl (by decide) rfl (fun ls hl => ?_)
        refine lv_aload hC.1 hC.2.1 dX6_north_66 (lv_at hl 0 rfl) ?_
        refine lv_ifnull hC.1 hC.2.1 dX6_north_68 ?_
        refine lv_aload hC.1 hC.2.1 dX6_north_71 (lv_at hl 0 rfl) ?_
        refine lv_iconst (v := (0 : Int32)) hC.1 hC.2.1 dX6_north_73 (by decide) ?_
        refine u2_men hC hw g5 q1_32 dX6_north_74 (fun H locs hw => ?_)
        obtain ⟨M6, hw, hF⟩ := lt1W hF hw
        refine lv_iinc (v := (x3 + (1 : Int32))) (lv' := [(3, .int (x3 + (1 : Int32))), (4, .ref (ad G c4)), (0, .ref (ad G 0))]) hC.1 hC.2.1 dX6_north_77 hl (k := 2) rfl rfl (by decide) rfl (fun ls hl => ?_)
        refine lv_goto (tgt := 54) hC.1 hC.2.1 dX6_north_80 (by decide) ?_
        exact ih hF hw (lv_sub hl [2, 0] rfl)
def F_X6_north (fu : Nat) (M : Mm) (x1 : Int32) : Option (Int32 × Mm) :=
  ob1 (F_X6_textOf fu M x1) (fun r2 =>
  op1 r2 (
    some ((-1 : Int32), M)) (fun c3 =>
    if ¬ kd c3 = 13 then none else (
    if (M.1 c3 0) = 0 then
      ob2 (F_X6_found fu M (1 : Int32)) (fun r13 M14 =>
      some (r13, M14))
    else
      ob2 (F_X3_faultIn fu M c3) (fun r7 M8 =>
      if r7 = (-9 : Int32) then
        ob1 (F_X2_settle fu M8 24) (fun M11 =>
        F_X6_north_54 fu fu M11 (0 : Int32))
      else
        some ((-4 : Int32), M8)))))
set_option maxRecDepth 100000 in
set_option maxHeartbeats 4000000 in
theorem c_X6_north {l : Launch} {G : Gv} {fu : Nat} {M : Mm} {x1 : Int32} {r : Int32} {M' : Mm} (hF : F_X6_north fu M x1 = some (r, M')) : Met l yX6_north (.code yX6_north cX6_north 5 (some .int) :: zU) rm_X6_north (va_Pc [.ref (ad G 0), .int x1] (Wd G M)) (QI G r M') 0 0 (zA G) := by
  refine zMet (by decide) rfl (Nat.le_of_ble_eq_true rfl) ?_
  intro p e s m below meth c hC hw ls hl
  have hl : lv_has ls 5 [(0, .ref (ad G 0)), (1, .int x1)] := hl
  unfold F_X6_north at hF
  refine lv_aload_n hC.1 hC.2.1 dX6_north_0 rfl (lv_at hl 0 rfl) ?_
  refine lv_iload_n hC.1 hC.2.1 dX6_north_1 rfl (lv_at hl 1 rfl) ?_
  obtain ⟨r2, h1, hF⟩ := ob1S hF
  refine k_Vq (As := [.int x1]) (rest := []) hC hw (c_X6_textOf (M := M) h1) RC_S yv_X6_textOf q2_74 ⟨rfl, rfl⟩ ⟨Nat.le_of_ble_eq_true rfl, Nat.le_of_ble_eq_true rfl⟩ ⟨Nat.zero_le _, Nat.zero_le _⟩ rfl rfl (Nat.le_of_ble_eq_true rfl) hl dX6_north_2 (fun H locs hw => ?_)
  cases r2 with
  | none =>
    have hF := op1N hF
    refine topN ?_
    refine lv_astore_nN (lv' := [(2, .null), (0, .ref (ad G 0)), (1, .int x1)]) hC.1 hC.2.1 dX6_north_5 rfl hl (by decide) rfl (fun ls hl => ?_)
    refine lv_aload_nN hC.1 hC.2.1 dX6_north_6 rfl (lv_at hl 0 rfl) ?_
    refine lv_ifnonnullN hC.1 hC.2.1 dX6_north_7 ?_
    refine lv_iconst (v := (-1 : Int32)) hC.1 hC.2.1 dX6_north_10 (by decide) ?_
    exact r_iretE hC hw hF dX6_north_11
  | some c3 =>
    obtain ⟨g4, hF⟩ := ifO (op1C hF)
    have g4 := Decidable.not_not.mp g4
    refine topC ?_
    refine lv_astore_n (lv' := [(2, .ref (ad G c3)), (0, .ref (ad G 0)), (1, .int x1)]) hC.1 hC.2.1 dX6_north_5 rfl hl (by decide) rfl (fun ls hl => ?_)
    refine lv_aload_n hC.1 hC.2.1 dX6_north_6 rfl (lv_at hl 0 rfl) ?_
    refine lv_ifnonnull (tgt := 12) hC.1 hC.2.1 dX6_north_7 (by decide) ?_
    refine lv_aload_n hC.1 hC.2.1 dX6_north_12 rfl (lv_at hl 0 rfl) ?_
    refine g5_there hC hw g4 q1_187 dX6_north_13 ?_
    refine lv_if_ne (tgt := 25) hC.1 hC.2.1 dX6_north_16 (by decide) (fun b5 => ?_) (fun b5 => ?_)
    · have hF := ifN hF b5
      refine lv_aload_n hC.1 hC.2.1 dX6_north_25 rfl (lv_at hl 1 rfl) ?_
      refine g6_reading hC hw q1_204 dX6_north_26 ?_
      refine lv_aload_n hC.1 hC.2.1 dX6_north_29 rfl (lv_at hl 0 rfl) ?_
      obtain ⟨r7, M8, h6, hF⟩ := ob2S hF
      refine k_Vi (As := [.ref (ad G c3)]) (rest := []) hC hw (c_X3_faultIn (M := M) g4 h6) RC_D yv_X3_faultIn q2_98 ⟨rfl, rfl⟩ ⟨Nat.le_of_ble_eq_true rfl, Nat.le_of_ble_eq_true rfl⟩ ⟨Nat.zero_le _, Nat.zero_le _⟩ rfl rfl (Nat.le_of_ble_eq_true rfl) hl dX6_north_30 (fun H locs hw => ?_)
      refine lv_bipush (v := (-9 : Int32)) hC.1 hC.2.1 dX6_north_33 (by decide) ?_
      refine lv_icmp_eq (tgt := 41) hC.1 hC.2.1 dX6_north_35 (by decide) (fun b9 => ?_) (fun b9 => ?_)
      · have hF := ifP hF b9
        refine lv_aload_n hC.1 hC.2.1 dX6_north_41 rfl (lv_at hl 1 rfl) ?_
        refine g6_north hC hw q1_202 dX6_north_42 ?_
        refine lv_aload_n hC.1 hC.2.1 dX6_north_45 rfl (lv_at hl 1 rfl) ?_
        refine g6_reading hC hw q1_204 dX6_north_46 ?_
        obtain ⟨M11, h10, hF⟩ := ob1S hF
        refine k_Vv (As := [.ref (ad G 68)]) (rest := []) hC hw (c_X2_settle (M := M8) (rfl : kd 24 = 11) h10) (RC_N (rfl : kd 24 = 11)) yv_X2_settle q2_128 ⟨rfl, rfl⟩ ⟨Nat.le_of_ble_eq_true rfl, Nat.le_of_ble_eq_true rfl⟩ ⟨Nat.zero_le _, Nat.zero_le _⟩ rfl rfl (Nat.le_of_ble_eq_true rfl) hl dX6_north_49 (fun H locs hw => ?_)
        refine lv_iconst (v := (0 : Int32)) hC.1 hC.2.1 dX6_north_52 (by decide) ?_
        refine lv_istore_n (lv' := [(3, .int (0 : Int32)), (2, .ref (ad G c3)), (0, .ref (ad G 0)), (1, .int x1)]) hC.1 hC.2.1 dX6_north_53 rfl hl (by decide) rfl (fun ls hl => ?_)
        exact w_X6_north_54 hC _ hF hw (lv_sub hl [2, 0] rfl)
      · have hF := ifN hF b9
        refine lv_bipush (v := (-4 : Int32)) hC.1 hC.2.1 dX6_north_38 (by decide) ?_
        exact r_iretE hC hw hF dX6_north_40
    · have hF := ifP hF b5
      refine lv_aload_n hC.1 hC.2.1 dX6_north_19 rfl (lv_at hl 1 rfl) ?_
      refine lv_iconst (v := (1 : Int32)) hC.1 hC.2.1 dX6_north_20 (by decide) ?_
      obtain ⟨r13, M14, h12, hF⟩ := ob2S hF
      refine k_Vi (As := [.int (1 : Int32)]) (rest := []) hC hw (c_X6_found (M := M) h12) RC_S yv_X6_found q2_20 ⟨rfl, rfl⟩ ⟨Nat.le_of_ble_eq_true rfl, Nat.le_of_ble_eq_true rfl⟩ ⟨Nat.zero_le _, Nat.zero_le _⟩ rfl rfl (Nat.le_of_ble_eq_true rfl) hl dX6_north_21 (fun H locs hw => ?_)
      exact r_iretE hC hw hF dX6_north_24
abbrev rm_X6_man : Room := { frames := 5, cells := 0, slots := 0, locals := 112 }
theorem yv_X6_man : YV yX6_man cX6_man 3 (some .int) 2 RX6 := ⟨⟨q2_144, q2_145, q1_1, q2_146⟩, by decide +kernel⟩
theorem dX6_man_0 : decode cX6_man 0 = .ok (.aload_n 0, 1) := by decide +kernel
theorem dX6_man_1 : decode cX6_man 1 = .ok (.getfield 24, 3) := by decide +kernel
theorem dX6_man_4 : decode cX6_man 4 = .ok (.iload_n 1, 1) := by decide +kernel
theorem dX6_man_5 : decode cX6_man 5 = .ok (.invokevirtual 155, 3) := by decide +kernel
theorem dX6_man_8 : decode cX6_man 8 = .ok (.ifCond .eq 13, 3) := by decide +kernel
theorem dX6_man_11 : decode cX6_man 11 = .ok (.iload_n 2, 1) := by decide +kernel
theorem dX6_man_12 : decode cX6_man 12 = .ok (.ifCond .lt 9, 3) := by decide +kernel
theorem dX6_man_15 : decode cX6_man 15 = .ok (.iload_n 2, 1) := by decide +kernel
theorem dX6_man_16 : decode cX6_man 16 = .ok (.bipush 6, 2) := by decide +kernel
theorem dX6_man_18 : decode cX6_man 18 = .ok (.if_icmp .lt 5, 3) := by decide +kernel
theorem dX6_man_21 : decode cX6_man 21 = .ok (.iconst (-1), 1) := by decide +kernel
theorem dX6_man_22 : decode cX6_man 22 = .ok (.ireturn, 1) := by decide +kernel
theorem dX6_man_23 : decode cX6_man 23 = .ok (.aload_n 0, 1) := by decide +kernel
theorem dX6_man_24 : decode cX6_man 24 = .ok (.aload_n 0, 1) := by decide +kernel
theorem dX6_man_25 : decode cX6_man 25 = .ok (.getfield 24, 3) := by decide +kernel
theorem dX6_man_28 : decode cX6_man 28 = .ok (.iload_n 1, 1) := by decide +kernel
theorem dX6_man_29 : decode cX6_man 29 = .ok (.iload_n 2, 1) := by decide +kernel
theorem dX6_man_30 : decode cX6_man 30 = .ok (.invokevirtual 159, 3) := by decide +kernel
theorem dX6_man_33 : decode cX6_man 33 = .ok (.invokevirtual 109, 3) := by decide +kernel
theorem dX6_man_36 : decode cX6_man 36 = .ok (.ireturn, 1) := by decide +kernel
def F_X6_man (fu : Nat) (M : Mm) (x1 : Int32) (x2 : Int32) : Option (Int32 × Mm) :=
  ob1 (F_X2_isMan fu M 24 x1) (fun r2 =>
  if r2 = 0 then
    some ((-1 : Int32), M)
  else
    if x2 < 0 then
      some ((-1 : Int32), M)
    else
      if x2 < (6 : Int32) then
        ob1 (F_X2_tellsOf fu M 24 x1 x2) (fun r7 =>
        ob2 (F_X6_tell fu M r7) (fun r9 M10 =>
        some (r9, M10)))
      else
        some ((-1 : Int32), M))
set_option maxRecDepth 100000 in
set_option maxHeartbeats 4000000 in
theorem c_X6_man {l : Launch} {G : Gv} {fu : Nat} {M : Mm} {x1 : Int32} {x2 : Int32} {r : Int32} {M' : Mm} (hF : F_X6_man fu M x1 x2 = some (r, M')) : Met l yX6_man (.code yX6_man cX6_man 3 (some .int) :: zU) rm_X6_man (va_Pc [.ref (ad G 0), .int x1, .int x2] (Wd G M)) (QI G r M') 0 0 (zA G) := by
  refine zMet (by decide) rfl (Nat.le_of_ble_eq_true rfl) ?_
  intro p e s m below meth c hC hw ls hl
  have hl : lv_has ls 3 [(0, .ref (ad G 0)), (1, .int x1), (2, .int x2)] := hl
  unfold F_X6_man at hF
  refine lv_aload_n hC.1 hC.2.1 dX6_man_0 rfl (lv_at hl 0 rfl) ?_
  refine g6_north hC hw q1_202 dX6_man_1 ?_
  refine lv_iload_n hC.1 hC.2.1 dX6_man_4 rfl (lv_at hl 1 rfl) ?_
  obtain ⟨r2, h1, hF⟩ := ob1S hF
  refine k_Vi (As := [.int x1]) (rest := []) hC hw (c_X2_isMan (M := M) (rfl : kd 24 = 11) h1) (RC_N (rfl : kd 24 = 11)) yv_X2_isMan q2_147 ⟨rfl, rfl⟩ ⟨Nat.le_of_ble_eq_true rfl, Nat.le_of_ble_eq_true rfl⟩ ⟨Nat.zero_le _, Nat.zero_le _⟩ rfl rfl (Nat.le_of_ble_eq_true rfl) hl dX6_man_5 (fun H locs hw => ?_)
  refine lv_if_eq (tgt := 21) hC.1 hC.2.1 dX6_man_8 (by decide) (fun b3 => ?_) (fun b3 => ?_)
  · have hF := ifP hF b3
    refine lv_iconst (v := (-1 : Int32)) hC.1 hC.2.1 dX6_man_21 (by decide) ?_
    exact r_iretE hC hw hF dX6_man_22
  · have hF := ifN hF b3
    refine lv_iload_n hC.1 hC.2.1 dX6_man_11 rfl (lv_at hl 2 rfl) ?_
    refine lv_if_lt (tgt := 21) hC.1 hC.2.1 dX6_man_12 (by decide) (fun b4 => ?_) (fun b4 => ?_)
    · have hF := ifP hF b4
      refine lv_iconst (v := (-1 : Int32)) hC.1 hC.2.1 dX6_man_21 (by decide) ?_
      exact r_iretE hC hw hF dX6_man_22
    · have hF := ifN hF b4
      refine lv_iload_n hC.1 hC.2.1 dX6_man_15 rfl (lv_at hl 2 rfl) ?_
      refine lv_bipush (v := (6 : Int32)) hC.1 hC.2.1 dX6_man_16 (by decide) ?_
      refine lv_icmp_lt (tgt := 23) hC.1 hC.2.1 dX6_man_18 (by decide) (fun b5 => ?_) (fun b5 => ?_)
      · have hF := ifP hF b5
        refine lv_aload_n hC.1 hC.2.1 dX6_man_23 rfl (lv_at hl 0 rfl) ?_
        refine lv_aload_n hC.1 hC.2.1 dX6_man_24 rfl (lv_at hl 0 rfl) ?_
        refine g6_north hC hw q1_202 dX6_man_25 ?_
        refine lv_iload_n hC.1 hC.2.1 dX6_man_28 rfl (lv_at hl 1 rfl) ?_
        refine lv_iload_n hC.1 hC.2.1 dX6_man_29 rfl (lv_at hl 2 rfl) ?_
        obtain ⟨r7, h6, hF⟩ := ob1S hF
        refine k_Vi (As := [.int x1, .int x2]) (rest := [.ref (ad G 0)]) hC hw (c_X2_tellsOf (M := M) (rfl : kd 24 = 11) h6) (RC_N (rfl : kd 24 = 11)) yv_X2_tellsOf q2_151 ⟨rfl, rfl⟩ ⟨Nat.le_of_ble_eq_true rfl, Nat.le_of_ble_eq_true rfl⟩ ⟨Nat.zero_le _, Nat.zero_le _⟩ rfl rfl (Nat.le_of_ble_eq_true rfl) hl dX6_man_30 (fun H locs hw => ?_)
        obtain ⟨r9, M10, h8, hF⟩ := ob2S hF
        refine k_Vi (As := [.int r7]) (rest := []) hC hw (c_X6_tell (M := M) h8) RC_S yv_X6_tell q2_38 ⟨rfl, rfl⟩ ⟨Nat.le_of_ble_eq_true rfl, Nat.le_of_ble_eq_true rfl⟩ ⟨Nat.zero_le _, Nat.zero_le _⟩ rfl rfl (Nat.le_of_ble_eq_true rfl) hl dX6_man_33 (fun H locs hw => ?_)
        exact r_iretE hC hw hF dX6_man_36
      · have hF := ifN hF b5
        refine lv_iconst (v := (-1 : Int32)) hC.1 hC.2.1 dX6_man_21 (by decide) ?_
        exact r_iretE hC hw hF dX6_man_22
abbrev rm_X6_mark : Room := { frames := 4, cells := 0, slots := 0, locals := 100 }
theorem yv_X6_mark : YV yX6_mark cX6_mark 3 (some .int) 2 RX6 := ⟨⟨q2_180, q2_181, q1_1, q2_182⟩, by decide +kernel⟩
theorem dX6_mark_0 : decode cX6_mark 0 = .ok (.aload_n 0, 1) := by decide +kernel
theorem dX6_mark_1 : decode cX6_mark 1 = .ok (.getfield 24, 3) := by decide +kernel
theorem dX6_mark_4 : decode cX6_mark 4 = .ok (.iload_n 1, 1) := by decide +kernel
theorem dX6_mark_5 : decode cX6_mark 5 = .ok (.invokevirtual 155, 3) := by decide +kernel
theorem dX6_mark_8 : decode cX6_mark 8 = .ok (.ifCond .eq 13, 3) := by decide +kernel
theorem dX6_mark_11 : decode cX6_mark 11 = .ok (.iload_n 2, 1) := by decide +kernel
theorem dX6_mark_12 : decode cX6_mark 12 = .ok (.ifCond .le 9, 3) := by decide +kernel
theorem dX6_mark_15 : decode cX6_mark 15 = .ok (.iload_n 2, 1) := by decide +kernel
theorem dX6_mark_16 : decode cX6_mark 16 = .ok (.bipush 6, 2) := by decide +kernel
theorem dX6_mark_18 : decode cX6_mark 18 = .ok (.if_icmp .lt 5, 3) := by decide +kernel
theorem dX6_mark_21 : decode cX6_mark 21 = .ok (.iconst (-1), 1) := by decide +kernel
theorem dX6_mark_22 : decode cX6_mark 22 = .ok (.ireturn, 1) := by decide +kernel
theorem dX6_mark_23 : decode cX6_mark 23 = .ok (.aload_n 0, 1) := by decide +kernel
theorem dX6_mark_24 : decode cX6_mark 24 = .ok (.getfield 24, 3) := by decide +kernel
theorem dX6_mark_27 : decode cX6_mark 27 = .ok (.getfield 163, 3) := by decide +kernel
theorem dX6_mark_30 : decode cX6_mark 30 = .ok (.iload_n 1, 1) := by decide +kernel
theorem dX6_mark_31 : decode cX6_mark 31 = .ok (.invokestatic 101, 3) := by decide +kernel
theorem dX6_mark_34 : decode cX6_mark 34 = .ok (.iload_n 2, 1) := by decide +kernel
theorem dX6_mark_35 : decode cX6_mark 35 = .ok (.invokestatic 166, 3) := by decide +kernel
theorem dX6_mark_38 : decode cX6_mark 38 = .ok (.ifCond .ne 9, 3) := by decide +kernel
theorem dX6_mark_41 : decode cX6_mark 41 = .ok (.aload_n 0, 1) := by decide +kernel
theorem dX6_mark_42 : decode cX6_mark 42 = .ok (.iconst 3, 1) := by decide +kernel
theorem dX6_mark_43 : decode cX6_mark 43 = .ok (.invokevirtual 82, 3) := by decide +kernel
theorem dX6_mark_46 : decode cX6_mark 46 = .ok (.ireturn, 1) := by decide +kernel
theorem dX6_mark_47 : decode cX6_mark 47 = .ok (.iload_n 2, 1) := by decide +kernel
theorem dX6_mark_48 : decode cX6_mark 48 = .ok (.tableswitch 83 1 4 #[32, 56, 65, 74], 32) := by decide +kernel
theorem dX6_mark_80 : decode cX6_mark 80 = .ok (.aload_n 0, 1) := by decide +kernel
theorem dX6_mark_81 : decode cX6_mark 81 = .ok (.getfield 24, 3) := by decide +kernel
theorem dX6_mark_84 : decode cX6_mark 84 = .ok (.getfield 169, 3) := by decide +kernel
theorem dX6_mark_87 : decode cX6_mark 87 = .ok (.iload_n 1, 1) := by decide +kernel
theorem dX6_mark_88 : decode cX6_mark 88 = .ok (.invokestatic 101, 3) := by decide +kernel
theorem dX6_mark_91 : decode cX6_mark 91 = .ok (.aload_n 0, 1) := by decide +kernel
theorem dX6_mark_92 : decode cX6_mark 92 = .ok (.getfield 24, 3) := by decide +kernel
theorem dX6_mark_95 : decode cX6_mark 95 = .ok (.iload_n 1, 1) := by decide +kernel
theorem dX6_mark_96 : decode cX6_mark 96 = .ok (.iconst 0, 1) := by decide +kernel
theorem dX6_mark_97 : decode cX6_mark 97 = .ok (.invokevirtual 172, 3) := by decide +kernel
theorem dX6_mark_100 : decode cX6_mark 100 = .ok (.invokestatic 175, 3) := by decide +kernel
theorem dX6_mark_103 : decode cX6_mark 103 = .ok (.ireturn, 1) := by decide +kernel
theorem dX6_mark_104 : decode cX6_mark 104 = .ok (.aload_n 0, 1) := by decide +kernel
theorem dX6_mark_105 : decode cX6_mark 105 = .ok (.getfield 24, 3) := by decide +kernel
theorem dX6_mark_108 : decode cX6_mark 108 = .ok (.iload_n 1, 1) := by decide +kernel
theorem dX6_mark_109 : decode cX6_mark 109 = .ok (.invokevirtual 180, 3) := by decide +kernel
theorem dX6_mark_112 : decode cX6_mark 112 = .ok (.ireturn, 1) := by decide +kernel
theorem dX6_mark_113 : decode cX6_mark 113 = .ok (.aload_n 0, 1) := by decide +kernel
theorem dX6_mark_114 : decode cX6_mark 114 = .ok (.getfield 24, 3) := by decide +kernel
theorem dX6_mark_117 : decode cX6_mark 117 = .ok (.iload_n 1, 1) := by decide +kernel
theorem dX6_mark_118 : decode cX6_mark 118 = .ok (.invokevirtual 183, 3) := by decide +kernel
theorem dX6_mark_121 : decode cX6_mark 121 = .ok (.ireturn, 1) := by decide +kernel
theorem dX6_mark_122 : decode cX6_mark 122 = .ok (.aload_n 0, 1) := by decide +kernel
theorem dX6_mark_123 : decode cX6_mark 123 = .ok (.getfield 24, 3) := by decide +kernel
theorem dX6_mark_126 : decode cX6_mark 126 = .ok (.iload_n 1, 1) := by decide +kernel
theorem dX6_mark_127 : decode cX6_mark 127 = .ok (.invokevirtual 186, 3) := by decide +kernel
theorem dX6_mark_130 : decode cX6_mark 130 = .ok (.ireturn, 1) := by decide +kernel
theorem dX6_mark_131 : decode cX6_mark 131 = .ok (.aload_n 0, 1) := by decide +kernel
theorem dX6_mark_132 : decode cX6_mark 132 = .ok (.getfield 24, 3) := by decide +kernel
theorem dX6_mark_135 : decode cX6_mark 135 = .ok (.iload_n 1, 1) := by decide +kernel
theorem dX6_mark_136 : decode cX6_mark 136 = .ok (.invokevirtual 189, 3) := by decide +kernel
theorem dX6_mark_139 : decode cX6_mark 139 = .ok (.ireturn, 1) := by decide +kernel
def F_X6_mark (fu : Nat) (M : Mm) (x1 : Int32) (x2 : Int32) : Option (Int32 × Mm) :=
  ob1 (F_X2_isMan fu M 24 x1) (fun r2 =>
  if r2 = 0 then
    some ((-1 : Int32), M)
  else
    if x2 ≤ 0 then
      some ((-1 : Int32), M)
    else
      if x2 < (6 : Int32) then
        ob1 (F_X6_read fu M 26 x1) (fun r7 =>
        ob1 (F_X6_isOfKind fu M r7 x2) (fun r9 =>
        if r9 = 0 then
          ob2 (F_X6_found fu M (3 : Int32)) (fun r28 M29 =>
          some (r28, M29))
        else
          if x2 = (1 : Int32) then
            ob1 (F_X6_read fu M 28 x1) (fun r13 =>
            ob1 (F_X2_meltingIn fu M 24 x1 (0 : Int32)) (fun r15 =>
            some ((zmn r13 r15), M)))
          else
          if x2 = (2 : Int32) then
            ob1 (F_X2_votesAs fu M 24 x1) (fun r18 =>
            some (r18, M))
          else
          if x2 = (3 : Int32) then
            ob1 (F_X2_goneIn fu M 24 x1) (fun r21 =>
            some (r21, M))
          else
          if x2 = (4 : Int32) then
            ob1 (F_X2_daysByLaw fu M 24 x1) (fun r24 =>
            some (r24, M))
          else
          ob1 (F_X2_meltingDays fu M 24 x1) (fun r26 =>
          some (r26, M))))
      else
        some ((-1 : Int32), M))
set_option maxRecDepth 100000 in
set_option maxHeartbeats 4000000 in
theorem c_X6_mark {l : Launch} {G : Gv} {fu : Nat} {M : Mm} {x1 : Int32} {x2 : Int32} {r : Int32} {M' : Mm} (hF : F_X6_mark fu M x1 x2 = some (r, M')) : Met l yX6_mark (.code yX6_mark cX6_mark 3 (some .int) :: zU) rm_X6_mark (va_Pc [.ref (ad G 0), .int x1, .int x2] (Wd G M)) (QI G r M') 0 0 (zA G) := by
  refine zMet (by decide) rfl (Nat.le_of_ble_eq_true rfl) ?_
  intro p e s m below meth c hC hw ls hl
  have hl : lv_has ls 3 [(0, .ref (ad G 0)), (1, .int x1), (2, .int x2)] := hl
  unfold F_X6_mark at hF
  refine lv_aload_n hC.1 hC.2.1 dX6_mark_0 rfl (lv_at hl 0 rfl) ?_
  refine g6_north hC hw q1_202 dX6_mark_1 ?_
  refine lv_iload_n hC.1 hC.2.1 dX6_mark_4 rfl (lv_at hl 1 rfl) ?_
  obtain ⟨r2, h1, hF⟩ := ob1S hF
  refine k_Vi (As := [.int x1]) (rest := []) hC hw (c_X2_isMan (M := M) (rfl : kd 24 = 11) h1) (RC_N (rfl : kd 24 = 11)) yv_X2_isMan q2_147 ⟨rfl, rfl⟩ ⟨Nat.le_of_ble_eq_true rfl, Nat.le_of_ble_eq_true rfl⟩ ⟨Nat.zero_le _, Nat.zero_le _⟩ rfl rfl (Nat.le_of_ble_eq_true rfl) hl dX6_mark_5 (fun H locs hw => ?_)
  refine lv_if_eq (tgt := 21) hC.1 hC.2.1 dX6_mark_8 (by decide) (fun b3 => ?_) (fun b3 => ?_)
  · have hF := ifP hF b3
    refine lv_iconst (v := (-1 : Int32)) hC.1 hC.2.1 dX6_mark_21 (by decide) ?_
    exact r_iretE hC hw hF dX6_mark_22
  · have hF := ifN hF b3
    refine lv_iload_n hC.1 hC.2.1 dX6_mark_11 rfl (lv_at hl 2 rfl) ?_
    refine lv_if_le (tgt := 21) hC.1 hC.2.1 dX6_mark_12 (by decide) (fun b4 => ?_) (fun b4 => ?_)
    · have hF := ifP hF b4
      refine lv_iconst (v := (-1 : Int32)) hC.1 hC.2.1 dX6_mark_21 (by decide) ?_
      exact r_iretE hC hw hF dX6_mark_22
    · have hF := ifN hF b4
      refine lv_iload_n hC.1 hC.2.1 dX6_mark_15 rfl (lv_at hl 2 rfl) ?_
      refine lv_bipush (v := (6 : Int32)) hC.1 hC.2.1 dX6_mark_16 (by decide) ?_
      refine lv_icmp_lt (tgt := 23) hC.1 hC.2.1 dX6_mark_18 (by decide) (fun b5 => ?_) (fun b5 => ?_)
      · have hF := ifP hF b5
        refine lv_aload_n hC.1 hC.2.1 dX6_mark_23 rfl (lv_at hl 0 rfl) ?_
        refine g6_north hC hw q1_202 dX6_mark_24 ?_
        refine g2_kindOf hC hw (rfl : kd 24 = 11) q1_41 dX6_mark_27 ?_
        refine lv_iload_n hC.1 hC.2.1 dX6_mark_30 rfl (lv_at hl 1 rfl) ?_
        obtain ⟨r7, h6, hF⟩ := ob1S hF
        refine k_Si (As := [.ref (ad G 26), .int x1]) (rest := []) hC hw (c_X6_read (M := M) (rfl : kd 26 = 1) h6) ys_X6_read q2_24 ⟨rfl, rfl⟩ ⟨Nat.le_of_ble_eq_true rfl, Nat.le_of_ble_eq_true rfl⟩ ⟨Nat.zero_le _, Nat.zero_le _⟩ rfl rfl (Nat.le_of_ble_eq_true rfl) hl dX6_mark_31 (fun H locs hw => ?_)
        refine lv_iload_n hC.1 hC.2.1 dX6_mark_34 rfl (lv_at hl 2 rfl) ?_
        obtain ⟨r9, h8, hF⟩ := ob1S hF
        refine k_Si (As := [.int r7, .int x2]) (rest := []) hC hw (c_X6_isOfKind (M := M) h8) ys_X6_isOfKind q2_183 ⟨rfl, rfl⟩ ⟨Nat.le_of_ble_eq_true rfl, Nat.le_of_ble_eq_true rfl⟩ ⟨Nat.zero_le _, Nat.zero_le _⟩ rfl rfl (Nat.le_of_ble_eq_true rfl) hl dX6_mark_35 (fun H locs hw => ?_)
        refine lv_if_ne (tgt := 47) hC.1 hC.2.1 dX6_mark_38 (by decide) (fun b10 => ?_) (fun b10 => ?_)
        · have hF := ifN hF b10
          refine lv_iload_n hC.1 hC.2.1 dX6_mark_47 rfl (lv_at hl 2 rfl) ?_
          rcases Classical.em (x2 = (1 : Int32)) with w11 | w11
          · have hF := ifP hF w11
            refine r_swI (v := (1 : Int32)) (off := 32) (tgt := 80) hC.1 hC.2.1 w11 dX6_mark_48 (by decide) (by decide) rfl (by decide) ?_
            refine lv_aload_n hC.1 hC.2.1 dX6_mark_80 rfl (lv_at hl 0 rfl) ?_
            refine g6_north hC hw q1_202 dX6_mark_81 ?_
            refine g2_bulkOf hC hw (rfl : kd 24 = 11) q1_45 dX6_mark_84 ?_
            refine lv_iload_n hC.1 hC.2.1 dX6_mark_87 rfl (lv_at hl 1 rfl) ?_
            obtain ⟨r13, h12, hF⟩ := ob1S hF
            refine k_Si (As := [.ref (ad G 28), .int x1]) (rest := []) hC hw (c_X6_read (M := M) (rfl : kd 28 = 1) h12) ys_X6_read q2_24 ⟨rfl, rfl⟩ ⟨Nat.le_of_ble_eq_true rfl, Nat.le_of_ble_eq_true rfl⟩ ⟨Nat.zero_le _, Nat.zero_le _⟩ rfl rfl (Nat.le_of_ble_eq_true rfl) hl dX6_mark_88 (fun H locs hw => ?_)
            refine lv_aload_n hC.1 hC.2.1 dX6_mark_91 rfl (lv_at hl 0 rfl) ?_
            refine g6_north hC hw q1_202 dX6_mark_92 ?_
            refine lv_iload_n hC.1 hC.2.1 dX6_mark_95 rfl (lv_at hl 1 rfl) ?_
            refine lv_iconst (v := (0 : Int32)) hC.1 hC.2.1 dX6_mark_96 (by decide) ?_
            obtain ⟨r15, h14, hF⟩ := ob1S hF
            refine k_Vi (As := [.int x1, .int (0 : Int32)]) (rest := [.int r13]) hC hw (c_X2_meltingIn (M := M) (rfl : kd 24 = 11) h14) (RC_N (rfl : kd 24 = 11)) yv_X2_meltingIn q2_186 ⟨rfl, rfl⟩ ⟨Nat.le_of_ble_eq_true rfl, Nat.le_of_ble_eq_true rfl⟩ ⟨Nat.zero_le _, Nat.zero_le _⟩ rfl rfl (Nat.le_of_ble_eq_true rfl) hl dX6_mark_97 (fun H locs hw => ?_)
            refine r_min ⟨hC.1, hC.2.1, by rw [hC.2.2.1]; exact hl.1.symm, hC.2.2.2.1, hC.2.2.2.2.1⟩ q2_197 ⟨Nat.le_of_ble_eq_true rfl, Nat.le_of_ble_eq_true rfl⟩ ⟨Nat.zero_le _, Nat.zero_le _⟩ dX6_mark_100 ?_
            exact r_iretE hC hw hF dX6_mark_103
          have hF := ifN hF w11
          rcases Classical.em (x2 = (2 : Int32)) with w16 | w16
          · have hF := ifP hF w16
            refine r_swI (v := (2 : Int32)) (off := 56) (tgt := 104) hC.1 hC.2.1 w16 dX6_mark_48 (by decide) (by decide) rfl (by decide) ?_
            refine lv_aload_n hC.1 hC.2.1 dX6_mark_104 rfl (lv_at hl 0 rfl) ?_
            refine g6_north hC hw q1_202 dX6_mark_105 ?_
            refine lv_iload_n hC.1 hC.2.1 dX6_mark_108 rfl (lv_at hl 1 rfl) ?_
            obtain ⟨r18, h17, hF⟩ := ob1S hF
            refine k_Vi (As := [.int x1]) (rest := []) hC hw (c_X2_votesAs (M := M) (rfl : kd 24 = 11) h17) (RC_N (rfl : kd 24 = 11)) yv_X2_votesAs q2_200 ⟨rfl, rfl⟩ ⟨Nat.le_of_ble_eq_true rfl, Nat.le_of_ble_eq_true rfl⟩ ⟨Nat.zero_le _, Nat.zero_le _⟩ rfl rfl (Nat.le_of_ble_eq_true rfl) hl dX6_mark_109 (fun H locs hw => ?_)
            exact r_iretE hC hw hF dX6_mark_112
          have hF := ifN hF w16
          rcases Classical.em (x2 = (3 : Int32)) with w19 | w19
          · have hF := ifP hF w19
            refine r_swI (v := (3 : Int32)) (off := 65) (tgt := 113) hC.1 hC.2.1 w19 dX6_mark_48 (by decide) (by decide) rfl (by decide) ?_
            refine lv_aload_n hC.1 hC.2.1 dX6_mark_113 rfl (lv_at hl 0 rfl) ?_
            refine g6_north hC hw q1_202 dX6_mark_114 ?_
            refine lv_iload_n hC.1 hC.2.1 dX6_mark_117 rfl (lv_at hl 1 rfl) ?_
            obtain ⟨r21, h20, hF⟩ := ob1S hF
            refine k_Vi (As := [.int x1]) (rest := []) hC hw (c_X2_goneIn (M := M) (rfl : kd 24 = 11) h20) (RC_N (rfl : kd 24 = 11)) yv_X2_goneIn q2_204 ⟨rfl, rfl⟩ ⟨Nat.le_of_ble_eq_true rfl, Nat.le_of_ble_eq_true rfl⟩ ⟨Nat.zero_le _, Nat.zero_le _⟩ rfl rfl (Nat.le_of_ble_eq_true rfl) hl dX6_mark_118 (fun H locs hw => ?_)
            exact r_iretE hC hw hF dX6_mark_121
          have hF := ifN hF w19
          rcases Classical.em (x2 = (4 : Int32)) with w22 | w22
          · have hF := ifP hF w22
            refine r_swI (v := (4 : Int32)) (off := 74) (tgt := 122) hC.1 hC.2.1 w22 dX6_mark_48 (by decide) (by decide) rfl (by decide) ?_
            refine lv_aload_n hC.1 hC.2.1 dX6_mark_122 rfl (lv_at hl 0 rfl) ?_
            refine g6_north hC hw q1_202 dX6_mark_123 ?_
            refine lv_iload_n hC.1 hC.2.1 dX6_mark_126 rfl (lv_at hl 1 rfl) ?_
            obtain ⟨r24, h23, hF⟩ := ob1S hF
            refine k_Vi (As := [.int x1]) (rest := []) hC hw (c_X2_daysByLaw (M := M) (rfl : kd 24 = 11) h23) (RC_N (rfl : kd 24 = 11)) yv_X2_daysByLaw q2_209 ⟨rfl, rfl⟩ ⟨Nat.le_of_ble_eq_true rfl, Nat.le_of_ble_eq_true rfl⟩ ⟨Nat.zero_le _, Nat.zero_le _⟩ rfl rfl (Nat.le_of_ble_eq_true rfl) hl dX6_mark_127 (fun H locs hw => ?_)
            exact r_iretE hC hw hF dX6_mark_130
          have hF := ifN hF w22
          refine r_swD (tgt := 131) (vs := [(1 : Int32), (2 : Int32), (3 : Int32), (4 : Int32)]) hC.1 hC.2.1 (List.forall_mem_cons.mpr ⟨w11, List.forall_mem_cons.mpr ⟨w16, List.forall_mem_cons.mpr ⟨w19, List.forall_mem_cons.mpr ⟨w22, fun v hv => absurd hv List.not_mem_nil⟩⟩⟩⟩) dX6_mark_48 (by decide) rfl (by decide) ?_
          refine lv_aload_n hC.1 hC.2.1 dX6_mark_131 rfl (lv_at hl 0 rfl) ?_
          refine g6_north hC hw q1_202 dX6_mark_132 ?_
          refine lv_iload_n hC.1 hC.2.1 dX6_mark_135 rfl (lv_at hl 1 rfl) ?_
          obtain ⟨r26, h25, hF⟩ := ob1S hF
          refine k_Vi (As := [.int x1]) (rest := []) hC hw (c_X2_meltingDays (M := M) (rfl : kd 24 = 11) h25) (RC_N (rfl : kd 24 = 11)) yv_X2_meltingDays q2_213 ⟨rfl, rfl⟩ ⟨Nat.le_of_ble_eq_true rfl, Nat.le_of_ble_eq_true rfl⟩ ⟨Nat.zero_le _, Nat.zero_le _⟩ rfl rfl (Nat.le_of_ble_eq_true rfl) hl dX6_mark_136 (fun H locs hw => ?_)
          exact r_iretE hC hw hF dX6_mark_139
        · have hF := ifP hF b10
          refine lv_aload_n hC.1 hC.2.1 dX6_mark_41 rfl (lv_at hl 0 rfl) ?_
          refine lv_iconst (v := (3 : Int32)) hC.1 hC.2.1 dX6_mark_42 (by decide) ?_
          obtain ⟨r28, M29, h27, hF⟩ := ob2S hF
          refine k_Vi (As := [.int (3 : Int32)]) (rest := []) hC hw (c_X6_found (M := M) h27) RC_S yv_X6_found q2_20 ⟨rfl, rfl⟩ ⟨Nat.le_of_ble_eq_true rfl, Nat.le_of_ble_eq_true rfl⟩ ⟨Nat.zero_le _, Nat.zero_le _⟩ rfl rfl (Nat.le_of_ble_eq_true rfl) hl dX6_mark_43 (fun H locs hw => ?_)
          exact r_iretE hC hw hF dX6_mark_46
      · have hF := ifN hF b5
        refine lv_iconst (v := (-1 : Int32)) hC.1 hC.2.1 dX6_mark_21 (by decide) ?_
        exact r_iretE hC hw hF dX6_mark_22
abbrev rm_X6_sun : Room := { frames := 2, cells := 0, slots := 0, locals := 42 }
theorem yv_X6_sun : YV yX6_sun cX6_sun 2 (some .int) 1 RX6 := ⟨⟨q2_218, q2_219, q1_1, q2_220⟩, by decide +kernel⟩
theorem dX6_sun_0 : decode cX6_sun 0 = .ok (.iload_n 1, 1) := by decide +kernel
theorem dX6_sun_1 : decode cX6_sun 1 = .ok (.ifCond .lt 9, 3) := by decide +kernel
theorem dX6_sun_4 : decode cX6_sun 4 = .ok (.iload_n 1, 1) := by decide +kernel
theorem dX6_sun_5 : decode cX6_sun 5 = .ok (.bipush 99, 2) := by decide +kernel
theorem dX6_sun_7 : decode cX6_sun 7 = .ok (.if_icmp .le 5, 3) := by decide +kernel
theorem dX6_sun_10 : decode cX6_sun 10 = .ok (.iconst (-1), 1) := by decide +kernel
theorem dX6_sun_11 : decode cX6_sun 11 = .ok (.ireturn, 1) := by decide +kernel
theorem dX6_sun_12 : decode cX6_sun 12 = .ok (.aload_n 0, 1) := by decide +kernel
theorem dX6_sun_13 : decode cX6_sun 13 = .ok (.getfield 24, 3) := by decide +kernel
theorem dX6_sun_16 : decode cX6_sun 16 = .ok (.getfield 152, 3) := by decide +kernel
theorem dX6_sun_19 : decode cX6_sun 19 = .ok (.ifCond .ne 6, 3) := by decide +kernel
theorem dX6_sun_22 : decode cX6_sun 22 = .ok (.bipush (-4), 2) := by decide +kernel
theorem dX6_sun_24 : decode cX6_sun 24 = .ok (.ireturn, 1) := by decide +kernel
theorem dX6_sun_25 : decode cX6_sun 25 = .ok (.aload_n 0, 1) := by decide +kernel
theorem dX6_sun_26 : decode cX6_sun 26 = .ok (.getfield 24, 3) := by decide +kernel
theorem dX6_sun_29 : decode cX6_sun 29 = .ok (.iload_n 1, 1) := by decide +kernel
theorem dX6_sun_30 : decode cX6_sun 30 = .ok (.invokevirtual 192, 3) := by decide +kernel
theorem dX6_sun_33 : decode cX6_sun 33 = .ok (.ireturn, 1) := by decide +kernel
def F_X6_sun (fu : Nat) (M : Mm) (x1 : Int32) : Option Int32 :=
  if x1 < 0 then
    some (-1 : Int32)
  else
    if x1 ≤ (99 : Int32) then
      if (M.1 24 0) = 0 then
        some (-4 : Int32)
      else
        ob1 (F_X2_sunOn fu M 24 x1) (fun r5 =>
        some r5)
    else
      some (-1 : Int32)
set_option maxRecDepth 100000 in
set_option maxHeartbeats 4000000 in
theorem c_X6_sun {l : Launch} {G : Gv} {fu : Nat} {M : Mm} {x1 : Int32} {r : Int32} (hF : F_X6_sun fu M x1 = some r) : Met l yX6_sun (.code yX6_sun cX6_sun 2 (some .int) :: zU) rm_X6_sun (va_Pc [.ref (ad G 0), .int x1] (Wd G M)) (QI G r M) 0 0 (zA G) := by
  refine zMet (by decide) rfl (Nat.le_of_ble_eq_true rfl) ?_
  intro p e s m below meth c hC hw ls hl
  have hl : lv_has ls 2 [(0, .ref (ad G 0)), (1, .int x1)] := hl
  unfold F_X6_sun at hF
  refine lv_iload_n hC.1 hC.2.1 dX6_sun_0 rfl (lv_at hl 1 rfl) ?_
  refine lv_if_lt (tgt := 10) hC.1 hC.2.1 dX6_sun_1 (by decide) (fun b1 => ?_) (fun b1 => ?_)
  · have hF := ifP hF b1
    refine lv_iconst (v := (-1 : Int32)) hC.1 hC.2.1 dX6_sun_10 (by decide) ?_
    exact r_iretP hC hw hF dX6_sun_11
  · have hF := ifN hF b1
    refine lv_iload_n hC.1 hC.2.1 dX6_sun_4 rfl (lv_at hl 1 rfl) ?_
    refine lv_bipush (v := (99 : Int32)) hC.1 hC.2.1 dX6_sun_5 (by decide) ?_
    refine lv_icmp_le (tgt := 12) hC.1 hC.2.1 dX6_sun_7 (by decide) (fun b2 => ?_) (fun b2 => ?_)
    · have hF := ifP hF b2
      refine lv_aload_n hC.1 hC.2.1 dX6_sun_12 rfl (lv_at hl 0 rfl) ?_
      refine g6_north hC hw q1_202 dX6_sun_13 ?_
      refine g2_men hC hw (rfl : kd 24 = 11) q1_32 dX6_sun_16 ?_
      refine lv_if_ne (tgt := 25) hC.1 hC.2.1 dX6_sun_19 (by decide) (fun b3 => ?_) (fun b3 => ?_)
      · have hF := ifN hF b3
        refine lv_aload_n hC.1 hC.2.1 dX6_sun_25 rfl (lv_at hl 0 rfl) ?_
        refine g6_north hC hw q1_202 dX6_sun_26 ?_
        refine lv_iload_n hC.1 hC.2.1 dX6_sun_29 rfl (lv_at hl 1 rfl) ?_
        obtain ⟨r5, h4, hF⟩ := ob1S hF
        refine k_Vi (As := [.int x1]) (rest := []) hC hw (c_X2_sunOn (M := M) (rfl : kd 24 = 11) h4) (RC_N (rfl : kd 24 = 11)) yv_X2_sunOn q2_221 ⟨rfl, rfl⟩ ⟨Nat.le_of_ble_eq_true rfl, Nat.le_of_ble_eq_true rfl⟩ ⟨Nat.zero_le _, Nat.zero_le _⟩ rfl rfl (Nat.le_of_ble_eq_true rfl) hl dX6_sun_30 (fun H locs hw => ?_)
        exact r_iretP hC hw hF dX6_sun_33
      · have hF := ifP hF b3
        refine lv_bipush (v := (-4 : Int32)) hC.1 hC.2.1 dX6_sun_22 (by decide) ?_
        exact r_iretP hC hw hF dX6_sun_24
    · have hF := ifN hF b2
      refine lv_iconst (v := (-1 : Int32)) hC.1 hC.2.1 dX6_sun_10 (by decide) ?_
      exact r_iretP hC hw hF dX6_sun_11
abbrev rm_X6_right : Room := { frames := 0, cells := 0, slots := 0, locals := 0 }
theorem yv_X6_right : YV yX6_right cX6_right 3 (some .int) 1 RX6 := ⟨⟨q2_226, q2_227, q1_1, q2_228⟩, by decide +kernel⟩
theorem dX6_right_0 : decode cX6_right 0 = .ok (.iload_n 1, 1) := by decide +kernel
theorem dX6_right_1 : decode cX6_right 1 = .ok (.iconst 1, 1) := by decide +kernel
theorem dX6_right_2 : decode cX6_right 2 = .ok (.if_icmp .lt 9, 3) := by decide +kernel
theorem dX6_right_5 : decode cX6_right 5 = .ok (.iload_n 1, 1) := by decide +kernel
theorem dX6_right_6 : decode cX6_right 6 = .ok (.bipush 9, 2) := by decide +kernel
theorem dX6_right_8 : decode cX6_right 8 = .ok (.if_icmp .le 5, 3) := by decide +kernel
theorem dX6_right_11 : decode cX6_right 11 = .ok (.iconst (-1), 1) := by decide +kernel
theorem dX6_right_12 : decode cX6_right 12 = .ok (.ireturn, 1) := by decide +kernel
theorem dX6_right_13 : decode cX6_right 13 = .ok (.aload_n 0, 1) := by decide +kernel
theorem dX6_right_14 : decode cX6_right 14 = .ok (.getfield 24, 3) := by decide +kernel
theorem dX6_right_17 : decode cX6_right 17 = .ok (.getfield 152, 3) := by decide +kernel
theorem dX6_right_20 : decode cX6_right 20 = .ok (.ifCond .ne 6, 3) := by decide +kernel
theorem dX6_right_23 : decode cX6_right 23 = .ok (.bipush (-4), 2) := by decide +kernel
theorem dX6_right_25 : decode cX6_right 25 = .ok (.ireturn, 1) := by decide +kernel
theorem dX6_right_26 : decode cX6_right 26 = .ok (.aload_n 0, 1) := by decide +kernel
theorem dX6_right_27 : decode cX6_right 27 = .ok (.getfield 24, 3) := by decide +kernel
theorem dX6_right_30 : decode cX6_right 30 = .ok (.getfield 195, 3) := by decide +kernel
theorem dX6_right_33 : decode cX6_right 33 = .ok (.istore_n 2, 1) := by decide +kernel
theorem dX6_right_34 : decode cX6_right 34 = .ok (.aload_n 0, 1) := by decide +kernel
theorem dX6_right_35 : decode cX6_right 35 = .ok (.getfield 24, 3) := by decide +kernel
theorem dX6_right_38 : decode cX6_right 38 = .ok (.iload_n 1, 1) := by decide +kernel
theorem dX6_right_39 : decode cX6_right 39 = .ok (.putfield 195, 3) := by decide +kernel
theorem dX6_right_42 : decode cX6_right 42 = .ok (.iload_n 2, 1) := by decide +kernel
theorem dX6_right_43 : decode cX6_right 43 = .ok (.ireturn, 1) := by decide +kernel
def F_X6_right (fu : Nat) (M : Mm) (x1 : Int32) : Option (Int32 × Mm) :=
  if x1 < (1 : Int32) then
    some ((-1 : Int32), M)
  else
    if x1 ≤ (9 : Int32) then
      if (M.1 24 0) = 0 then
        some ((-4 : Int32), M)
      else
        lt1 (pI M 24 1 x1) (fun M4 =>
        some ((M.1 24 1), M4))
    else
      some ((-1 : Int32), M)
set_option maxRecDepth 100000 in
set_option maxHeartbeats 4000000 in
theorem c_X6_right {l : Launch} {G : Gv} {fu : Nat} {M : Mm} {x1 : Int32} {r : Int32} {M' : Mm} (hF : F_X6_right fu M x1 = some (r, M')) : Met l yX6_right (.code yX6_right cX6_right 3 (some .int) :: zU) rm_X6_right (va_Pc [.ref (ad G 0), .int x1] (Wd G M)) (QI G r M') 0 0 (zA G) := by
  refine zMet (by decide) rfl (Nat.le_of_ble_eq_true rfl) ?_
  intro p e s m below meth c hC hw ls hl
  have hl : lv_has ls 3 [(0, .ref (ad G 0)), (1, .int x1)] := hl
  unfold F_X6_right at hF
  refine lv_iload_n hC.1 hC.2.1 dX6_right_0 rfl (lv_at hl 1 rfl) ?_
  refine lv_iconst (v := (1 : Int32)) hC.1 hC.2.1 dX6_right_1 (by decide) ?_
  refine lv_icmp_lt (tgt := 11) hC.1 hC.2.1 dX6_right_2 (by decide) (fun b1 => ?_) (fun b1 => ?_)
  · have hF := ifP hF b1
    refine lv_iconst (v := (-1 : Int32)) hC.1 hC.2.1 dX6_right_11 (by decide) ?_
    exact r_iretE hC hw hF dX6_right_12
  · have hF := ifN hF b1
    refine lv_iload_n hC.1 hC.2.1 dX6_right_5 rfl (lv_at hl 1 rfl) ?_
    refine lv_bipush (v := (9 : Int32)) hC.1 hC.2.1 dX6_right_6 (by decide) ?_
    refine lv_icmp_le (tgt := 13) hC.1 hC.2.1 dX6_right_8 (by decide) (fun b2 => ?_) (fun b2 => ?_)
    · have hF := ifP hF b2
      refine lv_aload_n hC.1 hC.2.1 dX6_right_13 rfl (lv_at hl 0 rfl) ?_
      refine g6_north hC hw q1_202 dX6_right_14 ?_
      refine g2_men hC hw (rfl : kd 24 = 11) q1_32 dX6_right_17 ?_
      refine lv_if_ne (tgt := 26) hC.1 hC.2.1 dX6_right_20 (by decide) (fun b3 => ?_) (fun b3 => ?_)
      · have hF := ifN hF b3
        refine lv_aload_n hC.1 hC.2.1 dX6_right_26 rfl (lv_at hl 0 rfl) ?_
        refine g6_north hC hw q1_202 dX6_right_27 ?_
        refine g2_rightNow hC hw (rfl : kd 24 = 11) q1_34 dX6_right_30 ?_
        refine lv_istore_n (lv' := [(2, .int (M.1 24 1)), (0, .ref (ad G 0)), (1, .int x1)]) hC.1 hC.2.1 dX6_right_33 rfl hl (by decide) rfl (fun ls hl => ?_)
        refine lv_aload_n hC.1 hC.2.1 dX6_right_34 rfl (lv_at hl 1 rfl) ?_
        refine g6_north hC hw q1_202 dX6_right_35 ?_
        refine lv_iload_n hC.1 hC.2.1 dX6_right_38 rfl (lv_at hl 2 rfl) ?_
        refine u2_rightNow hC hw (rfl : kd 24 = 11) q1_34 dX6_right_39 (fun H locs hw => ?_)
        obtain ⟨M4, hw, hF⟩ := lt1W hF hw
        refine lv_iload_n hC.1 hC.2.1 dX6_right_42 rfl (lv_at hl 0 rfl) ?_
        exact r_iretE hC hw hF dX6_right_43
      · have hF := ifP hF b3
        refine lv_bipush (v := (-4 : Int32)) hC.1 hC.2.1 dX6_right_23 (by decide) ?_
        exact r_iretE hC hw hF dX6_right_25
    · have hF := ifN hF b2
      refine lv_iconst (v := (-1 : Int32)) hC.1 hC.2.1 dX6_right_11 (by decide) ?_
      exact r_iretE hC hw hF dX6_right_12
