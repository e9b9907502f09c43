abbrev rm_X2_voteNow : Room := { frames := 3, cells := 0, slots := 0, locals := 68 }
theorem yv_X2_voteNow : YV yX2_voteNow cX2_voteNow 3 (some .int) 1 RX2 := ⟨⟨q2_169, qs_10, q1_2, q2_170⟩, by decide +kernel⟩
theorem dX2_voteNow_0 : decode cX2_voteNow 0 = .ok (.aload_n 0, 1) := by decide +kernel
theorem dX2_voteNow_1 : decode cX2_voteNow 1 = .ok (.aload_n 0, 1) := by decide +kernel
theorem dX2_voteNow_2 : decode cX2_voteNow 2 = .ok (.getfield 52, 3) := by decide +kernel
theorem dX2_voteNow_5 : decode cX2_voteNow 5 = .ok (.invokevirtual 110, 3) := by decide +kernel
theorem dX2_voteNow_8 : decode cX2_voteNow 8 = .ok (.istore_n 2, 1) := by decide +kernel
theorem dX2_voteNow_9 : decode cX2_voteNow 9 = .ok (.iload_n 2, 1) := by decide +kernel
theorem dX2_voteNow_10 : decode cX2_voteNow 10 = .ok (.iload_n 1, 1) := by decide +kernel
theorem dX2_voteNow_11 : decode cX2_voteNow 11 = .ok (.invokestatic 125, 3) := by decide +kernel
theorem dX2_voteNow_14 : decode cX2_voteNow 14 = .ok (.ifCond .ne 6, 3) := by decide +kernel
theorem dX2_voteNow_17 : decode cX2_voteNow 17 = .ok (.bipush (-9), 2) := by decide +kernel
theorem dX2_voteNow_19 : decode cX2_voteNow 19 = .ok (.ireturn, 1) := by decide +kernel
theorem dX2_voteNow_20 : decode cX2_voteNow 20 = .ok (.aload_n 0, 1) := by decide +kernel
theorem dX2_voteNow_21 : decode cX2_voteNow 21 = .ok (.iload_n 2, 1) := by decide +kernel
theorem dX2_voteNow_22 : decode cX2_voteNow 22 = .ok (.invokevirtual 132, 3) := by decide +kernel
theorem dX2_voteNow_25 : decode cX2_voteNow 25 = .ok (.iload_n 1, 1) := by decide +kernel
theorem dX2_voteNow_26 : decode cX2_voteNow 26 = .ok (.invokestatic 125, 3) := by decide +kernel
theorem dX2_voteNow_29 : decode cX2_voteNow 29 = .ok (.ifCond .eq 7, 3) := by decide +kernel
theorem dX2_voteNow_32 : decode cX2_voteNow 32 = .ok (.iconst 1, 1) := by decide +kernel
theorem dX2_voteNow_33 : decode cX2_voteNow 33 = .ok (.goto 4, 3) := by decide +kernel
theorem dX2_voteNow_36 : decode cX2_voteNow 36 = .ok (.iconst 0, 1) := by decide +kernel
theorem dX2_voteNow_37 : decode cX2_voteNow 37 = .ok (.ireturn, 1) := by decide +kernel
def F_X2_voteNow (fu : Nat) (M : Mm) (c0 : Nat) (x1 : Int32) : Option Int32 :=
  ob1 (F_X2_votersBy fu M c0 (M.1 c0 1)) (fun r2 =>
  ob1 (F_X6_isIn fu M r2 x1) (fun r4 =>
  if r4 = 0 then
    some (-9 : Int32)
  else
    ob1 (F_X2_onesAmong fu M c0 r2) (fun r7 =>
    ob1 (F_X6_isIn fu M r7 x1) (fun r9 =>
    if r9 = 0 then
      some (0 : Int32)
    else
      some (1 : Int32)))))
set_option maxRecDepth 100000 in
set_option maxHeartbeats 4000000 in
theorem c_X2_voteNow {l : Launch} {G : Gv} {fu : Nat} {M : Mm} {c0 : Nat} {x1 : Int32} (hk0 : kd c0 = 11) {r : Int32} (hF : F_X2_voteNow fu M c0 x1 = some r) : Met l yX2_voteNow (.code yX2_voteNow cX2_voteNow 3 (some .int) :: zU) rm_X2_voteNow (va_Pc [.ref (ad G c0), .int x1] (Wd G M)) (QI G r M) 0 0 (zA G) := by
  refine zMet (by decide) rfl (Nat.le_of_ble_eq_true rfl) ?_
  intro p e s m below meth c hC hw ls hl
  have hl : lv_has ls 3 [(0, .ref (ad G c0)), (1, .int x1)] := hl
  unfold F_X2_voteNow at hF
  refine lv_aload_n hC.1 hC.2.1 dX2_voteNow_0 rfl (lv_at hl 0 rfl) ?_
  refine lv_aload_n hC.1 hC.2.1 dX2_voteNow_1 rfl (lv_at hl 0 rfl) ?_
  refine g2_rightNow hC hw hk0 q1_33 dX2_voteNow_2 ?_
  obtain ⟨r2, h1, hF⟩ := ob1S hF
  refine k_Vi (As := [.int (M.1 c0 1)]) (rest := []) hC hw (c_X2_votersBy (M := M) hk0 h1) (RC_N hk0) yv_X2_votersBy q2_156 ⟨rfl, rfl⟩ ⟨Nat.le_of_ble_eq_true rfl, Nat.le_of_ble_eq_true rfl⟩ ⟨Nat.zero_le _, Nat.zero_le _⟩ rfl rfl (Nat.le_of_ble_eq_true rfl) hl dX2_voteNow_5 (fun H locs hw => ?_)
  refine lv_istore_n (lv' := [(2, .int r2), (0, .ref (ad G c0)), (1, .int x1)]) hC.1 hC.2.1 dX2_voteNow_8 rfl hl (by decide) rfl (fun ls hl => ?_)
  refine lv_iload_n hC.1 hC.2.1 dX2_voteNow_9 rfl (lv_at hl 0 rfl) ?_
  refine lv_iload_n hC.1 hC.2.1 dX2_voteNow_10 rfl (lv_at hl 2 rfl) ?_
  obtain ⟨r4, h3, hF⟩ := ob1S hF
  refine k_Ni (As := [.int r2, .int x1]) (rest := []) hC hw (c_X6_isIn (M := M) h3) ys_X6_isIn (k := 11) rfl ⟨rfl, rfl⟩ ⟨Nat.le_of_ble_eq_true rfl, Nat.le_of_ble_eq_true rfl⟩ ⟨Nat.zero_le _, Nat.zero_le _⟩ rfl rfl (Nat.le_of_ble_eq_true rfl) hl dX2_voteNow_11 (fun H locs hw => ?_)
  refine lv_if_ne (tgt := 20) hC.1 hC.2.1 dX2_voteNow_14 (by decide) (fun b5 => ?_) (fun b5 => ?_)
  · have hF := ifN hF b5
    refine lv_aload_n hC.1 hC.2.1 dX2_voteNow_20 rfl (lv_at hl 1 rfl) ?_
    refine lv_iload_n hC.1 hC.2.1 dX2_voteNow_21 rfl (lv_at hl 0 rfl) ?_
    obtain ⟨r7, h6, hF⟩ := ob1S hF
    refine k_Vi (As := [.int r2]) (rest := []) hC hw (c_X2_onesAmong (M := M) hk0 h6) (RC_N hk0) yv_X2_onesAmong q2_171 ⟨rfl, rfl⟩ ⟨Nat.le_of_ble_eq_true rfl, Nat.le_of_ble_eq_true rfl⟩ ⟨Nat.zero_le _, Nat.zero_le _⟩ rfl rfl (Nat.le_of_ble_eq_true rfl) hl dX2_voteNow_22 (fun H locs hw => ?_)
    refine lv_iload_n hC.1 hC.2.1 dX2_voteNow_25 rfl (lv_at hl 2 rfl) ?_
    obtain ⟨r9, h8, hF⟩ := ob1S hF
    refine k_Ni (As := [.int r7, .int x1]) (rest := []) hC hw (c_X6_isIn (M := M) h8) ys_X6_isIn (k := 11) rfl ⟨rfl, rfl⟩ ⟨Nat.le_of_ble_eq_true rfl, Nat.le_of_ble_eq_true rfl⟩ ⟨Nat.zero_le _, Nat.zero_le _⟩ rfl rfl (Nat.le_of_ble_eq_true rfl) hl dX2_voteNow_26 (fun H locs hw => ?_)
    refine lv_if_eq (tgt := 36) hC.1 hC.2.1 dX2_voteNow_29 (by decide) (fun b10 => ?_) (fun b10 => ?_)
    · have hF := ifP hF b10
      refine lv_iconst (v := (0 : Int32)) hC.1 hC.2.1 dX2_voteNow_36 (by decide) ?_
      exact r_iretP hC hw hF dX2_voteNow_37
    · have hF := ifN hF b10
      refine lv_iconst (v := (1 : Int32)) hC.1 hC.2.1 dX2_voteNow_32 (by decide) ?_
      refine lv_goto (tgt := 37) hC.1 hC.2.1 dX2_voteNow_33 (by decide) ?_
      exact r_iretP hC hw hF dX2_voteNow_37
  · have hF := ifP hF b5
    refine lv_bipush (v := (-9 : Int32)) hC.1 hC.2.1 dX2_voteNow_17 (by decide) ?_
    exact r_iretP hC hw hF dX2_voteNow_19
abbrev rm_X2_tellsOf : Room := { frames := 4, cells := 0, slots := 0, locals := 90 }
theorem yv_X2_tellsOf : YV yX2_tellsOf cX2_tellsOf 3 (some .int) 2 RX2 := ⟨⟨q2_152, q2_153, q1_2, q2_154⟩, by decide +kernel⟩
theorem dX2_tellsOf_0 : decode cX2_tellsOf 0 = .ok (.iload_n 2, 1) := by decide +kernel
theorem dX2_tellsOf_1 : decode cX2_tellsOf 1 = .ok (.tableswitch 92 0 4 #[35, 44, 53, 62, 71], 35) := by decide +kernel
theorem dX2_tellsOf_36 : decode cX2_tellsOf 36 = .ok (.aload_n 0, 1) := by decide +kernel
theorem dX2_tellsOf_37 : decode cX2_tellsOf 37 = .ok (.getfield 15, 3) := by decide +kernel
theorem dX2_tellsOf_40 : decode cX2_tellsOf 40 = .ok (.iload_n 1, 1) := by decide +kernel
theorem dX2_tellsOf_41 : decode cX2_tellsOf 41 = .ok (.invokestatic 81, 3) := by decide +kernel
theorem dX2_tellsOf_44 : decode cX2_tellsOf 44 = .ok (.ireturn, 1) := by decide +kernel
theorem dX2_tellsOf_45 : decode cX2_tellsOf 45 = .ok (.aload_n 0, 1) := by decide +kernel
theorem dX2_tellsOf_46 : decode cX2_tellsOf 46 = .ok (.getfield 21, 3) := by decide +kernel
theorem dX2_tellsOf_49 : decode cX2_tellsOf 49 = .ok (.iload_n 1, 1) := by decide +kernel
theorem dX2_tellsOf_50 : decode cX2_tellsOf 50 = .ok (.invokestatic 81, 3) := by decide +kernel
theorem dX2_tellsOf_53 : decode cX2_tellsOf 53 = .ok (.ireturn, 1) := by decide +kernel
theorem dX2_tellsOf_54 : decode cX2_tellsOf 54 = .ok (.aload_n 0, 1) := by decide +kernel
theorem dX2_tellsOf_55 : decode cX2_tellsOf 55 = .ok (.getfield 24, 3) := by decide +kernel
theorem dX2_tellsOf_58 : decode cX2_tellsOf 58 = .ok (.iload_n 1, 1) := by decide +kernel
theorem dX2_tellsOf_59 : decode cX2_tellsOf 59 = .ok (.invokestatic 81, 3) := by decide +kernel
theorem dX2_tellsOf_62 : decode cX2_tellsOf 62 = .ok (.ireturn, 1) := by decide +kernel
theorem dX2_tellsOf_63 : decode cX2_tellsOf 63 = .ok (.aload_n 0, 1) := by decide +kernel
theorem dX2_tellsOf_64 : decode cX2_tellsOf 64 = .ok (.getfield 18, 3) := by decide +kernel
theorem dX2_tellsOf_67 : decode cX2_tellsOf 67 = .ok (.iload_n 1, 1) := by decide +kernel
theorem dX2_tellsOf_68 : decode cX2_tellsOf 68 = .ok (.invokestatic 81, 3) := by decide +kernel
theorem dX2_tellsOf_71 : decode cX2_tellsOf 71 = .ok (.ireturn, 1) := by decide +kernel
theorem dX2_tellsOf_72 : decode cX2_tellsOf 72 = .ok (.aload_n 0, 1) := by decide +kernel
theorem dX2_tellsOf_73 : decode cX2_tellsOf 73 = .ok (.aload_n 0, 1) := by decide +kernel
theorem dX2_tellsOf_74 : decode cX2_tellsOf 74 = .ok (.getfield 52, 3) := by decide +kernel
theorem dX2_tellsOf_77 : decode cX2_tellsOf 77 = .ok (.invokevirtual 110, 3) := by decide +kernel
theorem dX2_tellsOf_80 : decode cX2_tellsOf 80 = .ok (.iload_n 1, 1) := by decide +kernel
theorem dX2_tellsOf_81 : decode cX2_tellsOf 81 = .ok (.invokestatic 125, 3) := by decide +kernel
theorem dX2_tellsOf_84 : decode cX2_tellsOf 84 = .ok (.ifCond .eq 7, 3) := by decide +kernel
theorem dX2_tellsOf_87 : decode cX2_tellsOf 87 = .ok (.iconst 1, 1) := by decide +kernel
theorem dX2_tellsOf_88 : decode cX2_tellsOf 88 = .ok (.goto 4, 3) := by decide +kernel
theorem dX2_tellsOf_91 : decode cX2_tellsOf 91 = .ok (.iconst 0, 1) := by decide +kernel
theorem dX2_tellsOf_92 : decode cX2_tellsOf 92 = .ok (.ireturn, 1) := by decide +kernel
theorem dX2_tellsOf_93 : decode cX2_tellsOf 93 = .ok (.aload_n 0, 1) := by decide +kernel
theorem dX2_tellsOf_94 : decode cX2_tellsOf 94 = .ok (.iload_n 1, 1) := by decide +kernel
theorem dX2_tellsOf_95 : decode cX2_tellsOf 95 = .ok (.invokevirtual 140, 3) := by decide +kernel
theorem dX2_tellsOf_98 : decode cX2_tellsOf 98 = .ok (.ireturn, 1) := by decide +kernel
def F_X2_tellsOf (fu : Nat) (M : Mm) (c0 : Nat) (x1 : Int32) (x2 : Int32) : Option Int32 :=
  if x2 = (0 : Int32) then
    ob1 (F_X6_read fu M (c0 + 2) x1) (fun r3 =>
    some r3)
  else
  if x2 = (1 : Int32) then
    ob1 (F_X6_read fu M (c0 + 4) x1) (fun r6 =>
    some r6)
  else
  if x2 = (2 : Int32) then
    ob1 (F_X6_read fu M (c0 + 5) x1) (fun r9 =>
    some r9)
  else
  if x2 = (3 : Int32) then
    ob1 (F_X6_read fu M (c0 + 3) x1) (fun r12 =>
    some r12)
  else
  if x2 = (4 : Int32) then
    ob1 (F_X2_votersBy fu M c0 (M.1 c0 1)) (fun r15 =>
    ob1 (F_X6_isIn fu M r15 x1) (fun r17 =>
    if r17 = 0 then
      some (0 : Int32)
    else
      some (1 : Int32)))
  else
  ob1 (F_X2_voteNow fu M c0 x1) (fun r20 =>
  some r20)
set_option maxRecDepth 100000 in
set_option maxHeartbeats 4000000 in
theorem c_X2_tellsOf {l : Launch} {G : Gv} {fu : Nat} {M : Mm} {c0 : Nat} {x1 : Int32} {x2 : Int32} (hk0 : kd c0 = 11) {r : Int32} (hF : F_X2_tellsOf fu M c0 x1 x2 = some r) : Met l yX2_tellsOf (.code yX2_tellsOf cX2_tellsOf 3 (some .int) :: zU) rm_X2_tellsOf (va_Pc [.ref (ad G c0), .int x1, .int x2] (Wd G M)) (QI G r M) 0 0 (zA G) := by
  refine zMet (by decide) rfl (Nat.le_of_ble_eq_true rfl) ?_
  intro p e s m below meth c hC hw ls hl
  have hl : lv_has ls 3 [(0, .ref (ad G c0)), (1, .int x1), (2, .int x2)] := hl
  unfold F_X2_tellsOf at hF
  refine lv_iload_n hC.1 hC.2.1 dX2_tellsOf_0 rfl (lv_at hl 2 rfl) ?_
  rcases Classical.em (x2 = (0 : Int32)) with w1 | w1
  · have hF := ifP hF w1
    refine r_swI (v := (0 : Int32)) (off := 35) (tgt := 36) hC.1 hC.2.1 w1 dX2_tellsOf_1 (by decide) (by decide) rfl (by decide) ?_
    refine lv_aload_n hC.1 hC.2.1 dX2_tellsOf_36 rfl (lv_at hl 0 rfl) ?_
    refine g2_kindOf hC hw hk0 q1_40 dX2_tellsOf_37 ?_
    refine lv_iload_n hC.1 hC.2.1 dX2_tellsOf_40 rfl (lv_at hl 1 rfl) ?_
    obtain ⟨r3, h2, hF⟩ := ob1S hF
    refine k_Ni (As := [.ref (ad G (c0 + 2)), .int x1]) (rest := []) hC hw (c_X6_read (M := M) (kdN2 hk0) h2) ys_X6_read (k := 10) rfl ⟨rfl, rfl⟩ ⟨Nat.le_of_ble_eq_true rfl, Nat.le_of_ble_eq_true rfl⟩ ⟨Nat.zero_le _, Nat.zero_le _⟩ rfl rfl (Nat.le_of_ble_eq_true rfl) hl dX2_tellsOf_41 (fun H locs hw => ?_)
    exact r_iretP hC hw hF dX2_tellsOf_44
  have hF := ifN hF w1
  rcases Classical.em (x2 = (1 : Int32)) with w4 | w4
  · have hF := ifP hF w4
    refine r_swI (v := (1 : Int32)) (off := 44) (tgt := 45) hC.1 hC.2.1 w4 dX2_tellsOf_1 (by decide) (by decide) rfl (by decide) ?_
    refine lv_aload_n hC.1 hC.2.1 dX2_tellsOf_45 rfl (lv_at hl 0 rfl) ?_
    refine g2_bulkOf hC hw hk0 q1_43 dX2_tellsOf_46 ?_
    refine lv_iload_n hC.1 hC.2.1 dX2_tellsOf_49 rfl (lv_at hl 1 rfl) ?_
    obtain ⟨r6, h5, hF⟩ := ob1S hF
    refine k_Ni (As := [.ref (ad G (c0 + 4)), .int x1]) (rest := []) hC hw (c_X6_read (M := M) (kdN4 hk0) h5) ys_X6_read (k := 10) rfl ⟨rfl, rfl⟩ ⟨Nat.le_of_ble_eq_true rfl, Nat.le_of_ble_eq_true rfl⟩ ⟨Nat.zero_le _, Nat.zero_le _⟩ rfl rfl (Nat.le_of_ble_eq_true rfl) hl dX2_tellsOf_50 (fun H locs hw => ?_)
    exact r_iretP hC hw hF dX2_tellsOf_53
  have hF := ifN hF w4
  rcases Classical.em (x2 = (2 : Int32)) with w7 | w7
  · have hF := ifP hF w7
    refine r_swI (v := (2 : Int32)) (off := 53) (tgt := 54) hC.1 hC.2.1 w7 dX2_tellsOf_1 (by decide) (by decide) rfl (by decide) ?_
    refine lv_aload_n hC.1 hC.2.1 dX2_tellsOf_54 rfl (lv_at hl 0 rfl) ?_
    refine g2_shadeOf hC hw hk0 q1_46 dX2_tellsOf_55 ?_
    refine lv_iload_n hC.1 hC.2.1 dX2_tellsOf_58 rfl (lv_at hl 1 rfl) ?_
    obtain ⟨r9, h8, hF⟩ := ob1S hF
    refine k_Ni (As := [.ref (ad G (c0 + 5)), .int x1]) (rest := []) hC hw (c_X6_read (M := M) (kdN5 hk0) h8) ys_X6_read (k := 10) rfl ⟨rfl, rfl⟩ ⟨Nat.le_of_ble_eq_true rfl, Nat.le_of_ble_eq_true rfl⟩ ⟨Nat.zero_le _, Nat.zero_le _⟩ rfl rfl (Nat.le_of_ble_eq_true rfl) hl dX2_tellsOf_59 (fun H locs hw => ?_)
    exact r_iretP hC hw hF dX2_tellsOf_62
  have hF := ifN hF w7
  rcases Classical.em (x2 = (3 : Int32)) with w10 | w10
  · have hF := ifP hF w10
    refine r_swI (v := (3 : Int32)) (off := 62) (tgt := 63) hC.1 hC.2.1 w10 dX2_tellsOf_1 (by decide) (by decide) rfl (by decide) ?_
    refine lv_aload_n hC.1 hC.2.1 dX2_tellsOf_63 rfl (lv_at hl 0 rfl) ?_
    refine g2_voteOf hC hw hk0 q1_42 dX2_tellsOf_64 ?_
    refine lv_iload_n hC.1 hC.2.1 dX2_tellsOf_67 rfl (lv_at hl 1 rfl) ?_
    obtain ⟨r12, h11, hF⟩ := ob1S hF
    refine k_Ni (As := [.ref (ad G (c0 + 3)), .int x1]) (rest := []) hC hw (c_X6_read (M := M) (kdN3 hk0) h11) ys_X6_read (k := 10) rfl ⟨rfl, rfl⟩ ⟨Nat.le_of_ble_eq_true rfl, Nat.le_of_ble_eq_true rfl⟩ ⟨Nat.zero_le _, Nat.zero_le _⟩ rfl rfl (Nat.le_of_ble_eq_true rfl) hl dX2_tellsOf_68 (fun H locs hw => ?_)
    exact r_iretP hC hw hF dX2_tellsOf_71
  have hF := ifN hF w10
  rcases Classical.em (x2 = (4 : Int32)) with w13 | w13
  · have hF := ifP hF w13
    refine r_swI (v := (4 : Int32)) (off := 71) (tgt := 72) hC.1 hC.2.1 w13 dX2_tellsOf_1 (by decide) (by decide) rfl (by decide) ?_
    refine lv_aload_n hC.1 hC.2.1 dX2_tellsOf_72 rfl (lv_at hl 0 rfl) ?_
    refine lv_aload_n hC.1 hC.2.1 dX2_tellsOf_73 rfl (lv_at hl 0 rfl) ?_
    refine g2_rightNow hC hw hk0 q1_33 dX2_tellsOf_74 ?_
    obtain ⟨r15, h14, hF⟩ := ob1S hF
    refine k_Vi (As := [.int (M.1 c0 1)]) (rest := []) hC hw (c_X2_votersBy (M := M) hk0 h14) (RC_N hk0) yv_X2_votersBy q2_156 ⟨rfl, rfl⟩ ⟨Nat.le_of_ble_eq_true rfl, Nat.le_of_ble_eq_true rfl⟩ ⟨Nat.zero_le _, Nat.zero_le _⟩ rfl rfl (Nat.le_of_ble_eq_true rfl) hl dX2_tellsOf_77 (fun H locs hw => ?_)
    refine lv_iload_n hC.1 hC.2.1 dX2_tellsOf_80 rfl (lv_at hl 1 rfl) ?_
    obtain ⟨r17, h16, hF⟩ := ob1S hF
    refine k_Ni (As := [.int r15, .int x1]) (rest := []) hC hw (c_X6_isIn (M := M) h16) ys_X6_isIn (k := 11) rfl ⟨rfl, rfl⟩ ⟨Nat.le_of_ble_eq_true rfl, Nat.le_of_ble_eq_true rfl⟩ ⟨Nat.zero_le _, Nat.zero_le _⟩ rfl rfl (Nat.le_of_ble_eq_true rfl) hl dX2_tellsOf_81 (fun H locs hw => ?_)
    refine lv_if_eq (tgt := 91) hC.1 hC.2.1 dX2_tellsOf_84 (by decide) (fun b18 => ?_) (fun b18 => ?_)
    · have hF := ifP hF b18
      refine lv_iconst (v := (0 : Int32)) hC.1 hC.2.1 dX2_tellsOf_91 (by decide) ?_
      exact r_iretP hC hw hF dX2_tellsOf_92
    · have hF := ifN hF b18
      refine lv_iconst (v := (1 : Int32)) hC.1 hC.2.1 dX2_tellsOf_87 (by decide) ?_
      refine lv_goto (tgt := 92) hC.1 hC.2.1 dX2_tellsOf_88 (by decide) ?_
      exact r_iretP hC hw hF dX2_tellsOf_92
  have hF := ifN hF w13
  refine r_swD (tgt := 93) (vs := [(0 : Int32), (1 : Int32), (2 : Int32), (3 : Int32), (4 : Int32)]) hC.1 hC.2.1 (List.forall_mem_cons.mpr ⟨w1, List.forall_mem_cons.mpr ⟨w4, List.forall_mem_cons.mpr ⟨w7, List.forall_mem_cons.mpr ⟨w10, List.forall_mem_cons.mpr ⟨w13, fun v hv => absurd hv List.not_mem_nil⟩⟩⟩⟩⟩) dX2_tellsOf_1 (by decide) rfl (by decide) ?_
  refine lv_aload_n hC.1 hC.2.1 dX2_tellsOf_93 rfl (lv_at hl 0 rfl) ?_
  refine lv_iload_n hC.1 hC.2.1 dX2_tellsOf_94 rfl (lv_at hl 1 rfl) ?_
  obtain ⟨r20, h19, hF⟩ := ob1S hF
  refine k_Vi (As := [.int x1]) (rest := []) hC hw (c_X2_voteNow (M := M) hk0 h19) (RC_N hk0) yv_X2_voteNow q2_167 ⟨rfl, rfl⟩ ⟨Nat.le_of_ble_eq_true rfl, Nat.le_of_ble_eq_true rfl⟩ ⟨Nat.zero_le _, Nat.zero_le _⟩ rfl rfl (Nat.le_of_ble_eq_true rfl) hl dX2_tellsOf_95 (fun H locs hw => ?_)
  exact r_iretP hC hw hF dX2_tellsOf_98
abbrev rm_X2_votesAs : Room := { frames := 3, cells := 0, slots := 0, locals := 67 }
theorem yv_X2_votesAs : YV yX2_votesAs cX2_votesAs 3 (some .int) 1 RX2 := ⟨⟨q2_201, q2_202, q1_2, q2_203⟩, by decide +kernel⟩
theorem dX2_votesAs_0 : decode cX2_votesAs 0 = .ok (.aload_n 0, 1) := by decide +kernel
theorem dX2_votesAs_1 : decode cX2_votesAs 1 = .ok (.aload_n 0, 1) := by decide +kernel
theorem dX2_votesAs_2 : decode cX2_votesAs 2 = .ok (.getfield 52, 3) := by decide +kernel
theorem dX2_votesAs_5 : decode cX2_votesAs 5 = .ok (.invokevirtual 110, 3) := by decide +kernel
theorem dX2_votesAs_8 : decode cX2_votesAs 8 = .ok (.istore_n 2, 1) := by decide +kernel
theorem dX2_votesAs_9 : decode cX2_votesAs 9 = .ok (.iload_n 2, 1) := by decide +kernel
theorem dX2_votesAs_10 : decode cX2_votesAs 10 = .ok (.iload_n 1, 1) := by decide +kernel
theorem dX2_votesAs_11 : decode cX2_votesAs 11 = .ok (.invokestatic 125, 3) := by decide +kernel
theorem dX2_votesAs_14 : decode cX2_votesAs 14 = .ok (.ifCond .ne 6, 3) := by decide +kernel
theorem dX2_votesAs_17 : decode cX2_votesAs 17 = .ok (.bipush (-9), 2) := by decide +kernel
theorem dX2_votesAs_19 : decode cX2_votesAs 19 = .ok (.ireturn, 1) := by decide +kernel
theorem dX2_votesAs_20 : decode cX2_votesAs 20 = .ok (.iload_n 1, 1) := by decide +kernel
theorem dX2_votesAs_21 : decode cX2_votesAs 21 = .ok (.ifCond .le 19, 3) := by decide +kernel
theorem dX2_votesAs_24 : decode cX2_votesAs 24 = .ok (.iload_n 2, 1) := by decide +kernel
theorem dX2_votesAs_25 : decode cX2_votesAs 25 = .ok (.iload_n 1, 1) := by decide +kernel
theorem dX2_votesAs_26 : decode cX2_votesAs 26 = .ok (.iconst 1, 1) := by decide +kernel
theorem dX2_votesAs_27 : decode cX2_votesAs 27 = .ok (.isub, 1) := by decide +kernel
theorem dX2_votesAs_28 : decode cX2_votesAs 28 = .ok (.invokestatic 125, 3) := by decide +kernel
theorem dX2_votesAs_31 : decode cX2_votesAs 31 = .ok (.ifCond .eq 9, 3) := by decide +kernel
theorem dX2_votesAs_34 : decode cX2_votesAs 34 = .ok (.iload_n 1, 1) := by decide +kernel
theorem dX2_votesAs_35 : decode cX2_votesAs 35 = .ok (.iconst 1, 1) := by decide +kernel
theorem dX2_votesAs_36 : decode cX2_votesAs 36 = .ok (.isub, 1) := by decide +kernel
theorem dX2_votesAs_37 : decode cX2_votesAs 37 = .ok (.goto 4, 3) := by decide +kernel
theorem dX2_votesAs_40 : decode cX2_votesAs 40 = .ok (.iload_n 1, 1) := by decide +kernel
theorem dX2_votesAs_41 : decode cX2_votesAs 41 = .ok (.ireturn, 1) := by decide +kernel
def F_X2_votesAs (fu : Nat) (M : Mm) (c0 : Nat) (x1 : Int32) : Option Int32 :=
  ob1 (F_X2_votersBy fu M c0 (M.1 c0 1)) (fun r2 =>
  ob1 (F_X6_isIn fu M r2 x1) (fun r4 =>
  if r4 = 0 then
    some (-9 : Int32)
  else
    if x1 ≤ 0 then
      some x1
    else
      ob1 (F_X6_isIn fu M r2 (x1 - (1 : Int32))) (fun r8 =>
      if r8 = 0 then
        some x1
      else
        some (x1 - (1 : Int32)))))
set_option maxRecDepth 100000 in
set_option maxHeartbeats 4000000 in
theorem c_X2_votesAs {l : Launch} {G : Gv} {fu : Nat} {M : Mm} {c0 : Nat} {x1 : Int32} (hk0 : kd c0 = 11) {r : Int32} (hF : F_X2_votesAs fu M c0 x1 = some r) : Met l yX2_votesAs (.code yX2_votesAs cX2_votesAs 3 (some .int) :: zU) rm_X2_votesAs (va_Pc [.ref (ad G c0), .int x1] (Wd G M)) (QI G r M) 0 0 (zA G) := by
  refine zMet (by decide) rfl (Nat.le_of_ble_eq_true rfl) ?_
  intro p e s m below meth c hC hw ls hl
  have hl : lv_has ls 3 [(0, .ref (ad G c0)), (1, .int x1)] := hl
  unfold F_X2_votesAs at hF
  refine lv_aload_n hC.1 hC.2.1 dX2_votesAs_0 rfl (lv_at hl 0 rfl) ?_
  refine lv_aload_n hC.1 hC.2.1 dX2_votesAs_1 rfl (lv_at hl 0 rfl) ?_
  refine g2_rightNow hC hw hk0 q1_33 dX2_votesAs_2 ?_
  obtain ⟨r2, h1, hF⟩ := ob1S hF
  refine k_Vi (As := [.int (M.1 c0 1)]) (rest := []) hC hw (c_X2_votersBy (M := M) hk0 h1) (RC_N hk0) yv_X2_votersBy q2_156 ⟨rfl, rfl⟩ ⟨Nat.le_of_ble_eq_true rfl, Nat.le_of_ble_eq_true rfl⟩ ⟨Nat.zero_le _, Nat.zero_le _⟩ rfl rfl (Nat.le_of_ble_eq_true rfl) hl dX2_votesAs_5 (fun H locs hw => ?_)
  refine lv_istore_n (lv' := [(2, .int r2), (0, .ref (ad G c0)), (1, .int x1)]) hC.1 hC.2.1 dX2_votesAs_8 rfl hl (by decide) rfl (fun ls hl => ?_)
  refine lv_iload_n hC.1 hC.2.1 dX2_votesAs_9 rfl (lv_at hl 0 rfl) ?_
  refine lv_iload_n hC.1 hC.2.1 dX2_votesAs_10 rfl (lv_at hl 2 rfl) ?_
  obtain ⟨r4, h3, hF⟩ := ob1S hF
  refine k_Ni (As := [.int r2, .int x1]) (rest := []) hC hw (c_X6_isIn (M := M) h3) ys_X6_isIn (k := 11) rfl ⟨rfl, rfl⟩ ⟨Nat.le_of_ble_eq_true rfl, Nat.le_of_ble_eq_true rfl⟩ ⟨Nat.zero_le _, Nat.zero_le _⟩ rfl rfl (Nat.le_of_ble_eq_true rfl) hl dX2_votesAs_11 (fun H locs hw => ?_)
  refine lv_if_ne (tgt := 20) hC.1 hC.2.1 dX2_votesAs_14 (by decide) (fun b5 => ?_) (fun b5 => ?_)
  · have hF := ifN hF b5
    refine lv_iload_n hC.1 hC.2.1 dX2_votesAs_20 rfl (lv_at hl 2 rfl) ?_
    refine lv_if_le (tgt := 40) hC.1 hC.2.1 dX2_votesAs_21 (by decide) (fun b6 => ?_) (fun b6 => ?_)
    · have hF := ifP hF b6
      refine lv_iload_n hC.1 hC.2.1 dX2_votesAs_40 rfl (lv_at hl 2 rfl) ?_
      exact r_iretP hC hw hF dX2_votesAs_41
    · have hF := ifN hF b6
      refine lv_iload_n hC.1 hC.2.1 dX2_votesAs_24 rfl (lv_at hl 0 rfl) ?_
      refine lv_iload_n hC.1 hC.2.1 dX2_votesAs_25 rfl (lv_at hl 2 rfl) ?_
      refine lv_iconst (v := (1 : Int32)) hC.1 hC.2.1 dX2_votesAs_26 (by decide) ?_
      refine lv_isub hC.1 hC.2.1 dX2_votesAs_27 ?_
      obtain ⟨r8, h7, hF⟩ := ob1S hF
      refine k_Ni (As := [.int r2, .int (x1 - (1 : Int32))]) (rest := []) hC hw (c_X6_isIn (M := M) h7) ys_X6_isIn (k := 11) rfl ⟨rfl, rfl⟩ ⟨Nat.le_of_ble_eq_true rfl, Nat.le_of_ble_eq_true rfl⟩ ⟨Nat.zero_le _, Nat.zero_le _⟩ rfl rfl (Nat.le_of_ble_eq_true rfl) hl dX2_votesAs_28 (fun H locs hw => ?_)
      refine lv_if_eq (tgt := 40) hC.1 hC.2.1 dX2_votesAs_31 (by decide) (fun b9 => ?_) (fun b9 => ?_)
      · have hF := ifP hF b9
        refine lv_iload_n hC.1 hC.2.1 dX2_votesAs_40 rfl (lv_at hl 2 rfl) ?_
        exact r_iretP hC hw hF dX2_votesAs_41
      · have hF := ifN hF b9
        refine lv_iload_n hC.1 hC.2.1 dX2_votesAs_34 rfl (lv_at hl 2 rfl) ?_
        refine lv_iconst (v := (1 : Int32)) hC.1 hC.2.1 dX2_votesAs_35 (by decide) ?_
        refine lv_isub hC.1 hC.2.1 dX2_votesAs_36 ?_
        refine lv_goto (tgt := 41) hC.1 hC.2.1 dX2_votesAs_37 (by decide) ?_
        exact r_iretP hC hw hF dX2_votesAs_41
  · have hF := ifP hF b5
    refine lv_bipush (v := (-9 : Int32)) hC.1 hC.2.1 dX2_votesAs_17 (by decide) ?_
    exact r_iretP hC hw hF dX2_votesAs_19
abbrev rm_X2_daysByLaw : Room := { frames := 3, cells := 0, slots := 0, locals := 76 }
theorem yv_X2_daysByLaw : YV yX2_daysByLaw cX2_daysByLaw 5 (some .int) 1 RX2 := ⟨⟨q2_210, q2_211, q1_2, q2_212⟩, by decide +kernel⟩
theorem dX2_daysByLaw_0 : decode cX2_daysByLaw 0 = .ok (.iconst 0, 1) := by decide +kernel
theorem dX2_daysByLaw_1 : decode cX2_daysByLaw 1 = .ok (.istore_n 2, 1) := by decide +kernel
theorem dX2_daysByLaw_2 : decode cX2_daysByLaw 2 = .ok (.aload_n 0, 1) := by decide +kernel
theorem dX2_daysByLaw_3 : decode cX2_daysByLaw 3 = .ok (.getfield 21, 3) := by decide +kernel
theorem dX2_daysByLaw_6 : decode cX2_daysByLaw 6 = .ok (.iload_n 1, 1) := by decide +kernel
theorem dX2_daysByLaw_7 : decode cX2_daysByLaw 7 = .ok (.invokestatic 81, 3) := by decide +kernel
theorem dX2_daysByLaw_10 : decode cX2_daysByLaw 10 = .ok (.istore_n 3, 1) := by decide +kernel
theorem dX2_daysByLaw_11 : decode cX2_daysByLaw 11 = .ok (.iconst 0, 1) := by decide +kernel
theorem dX2_daysByLaw_12 : decode cX2_daysByLaw 12 = .ok (.istore 4, 2) := by decide +kernel
theorem dX2_daysByLaw_14 : decode cX2_daysByLaw 14 = .ok (.iload 4, 2) := by decide +kernel
theorem dX2_daysByLaw_16 : decode cX2_daysByLaw 16 = .ok (.bipush 60, 2) := by decide +kernel
theorem dX2_daysByLaw_18 : decode cX2_daysByLaw 18 = .ok (.if_icmp .ge 34, 3) := by decide +kernel
theorem dX2_daysByLaw_21 : decode cX2_daysByLaw 21 = .ok (.iload_n 3, 1) := by decide +kernel
theorem dX2_daysByLaw_22 : decode cX2_daysByLaw 22 = .ok (.ifCond .le 14, 3) := by decide +kernel
theorem dX2_daysByLaw_25 : decode cX2_daysByLaw 25 = .ok (.iload_n 3, 1) := by decide +kernel
theorem dX2_daysByLaw_26 : decode cX2_daysByLaw 26 = .ok (.aload_n 0, 1) := by decide +kernel
theorem dX2_daysByLaw_27 : decode cX2_daysByLaw 27 = .ok (.getfield 52, 3) := by decide +kernel
theorem dX2_daysByLaw_30 : decode cX2_daysByLaw 30 = .ok (.if_icmp .ge 6, 3) := by decide +kernel
theorem dX2_daysByLaw_33 : decode cX2_daysByLaw 33 = .ok (.iinc 2 1, 3) := by decide +kernel
theorem dX2_daysByLaw_36 : decode cX2_daysByLaw 36 = .ok (.iload_n 3, 1) := by decide +kernel
theorem dX2_daysByLaw_37 : decode cX2_daysByLaw 37 = .ok (.aload_n 0, 1) := by decide +kernel
theorem dX2_daysByLaw_38 : decode cX2_daysByLaw 38 = .ok (.iload_n 1, 1) := by decide +kernel
theorem dX2_daysByLaw_39 : decode cX2_daysByLaw 39 = .ok (.iload 4, 2) := by decide +kernel
theorem dX2_daysByLaw_41 : decode cX2_daysByLaw 41 = .ok (.invokevirtual 94, 3) := by decide +kernel
theorem dX2_daysByLaw_44 : decode cX2_daysByLaw 44 = .ok (.isub, 1) := by decide +kernel
theorem dX2_daysByLaw_45 : decode cX2_daysByLaw 45 = .ok (.istore_n 3, 1) := by decide +kernel
theorem dX2_daysByLaw_46 : decode cX2_daysByLaw 46 = .ok (.iinc 4 1, 3) := by decide +kernel
theorem dX2_daysByLaw_49 : decode cX2_daysByLaw 49 = .ok (.goto (-35), 3) := by decide +kernel
theorem dX2_daysByLaw_52 : decode cX2_daysByLaw 52 = .ok (.iload_n 2, 1) := by decide +kernel
theorem dX2_daysByLaw_53 : decode cX2_daysByLaw 53 = .ok (.ireturn, 1) := by decide +kernel
def F_X2_daysByLaw_36 (fu : Nat) (M : Mm) (k14 : Nat → Int32 → Int32 → Int32 → Int32 → Option Int32) (c0 : Nat) (x1 : Int32) (x2 : Int32) (x3 : Int32) (x4 : Int32) : Option Int32 :=
  ob1 (F_X2_meltingIn fu M c0 x1 x4) (fun r2 =>
  k14 c0 x1 x2 (x3 - r2) (x4 + (1 : Int32)))
set_option maxRecDepth 100000 in
set_option maxHeartbeats 4000000 in
theorem w_X2_daysByLaw_36 {p : Program} {l : Launch} {e : Env} {s : State} {m : MethodId} {args : Array Value} {below : List Frame} {meth : Method} {c : Code} {G : Gv} (hC : Cx p s m args meth c cX2_daysByLaw 5 (some .int) RX2) {fu : Nat} {r : Int32} {M : Mm} {k14 : Nat → Int32 → Int32 → Int32 → Int32 → Option Int32} (hk_14 : ∀ {c0 : Nat} {x1 : Int32} {x2 : Int32} {x3 : Int32} {x4 : Int32} {H : Heap} {locs : List Loc} {ls : Array Slot} (hk0 : kd c0 = 11), k14 c0 x1 x2 x3 x4 = some r → St G s H locs M → lv_has ls 5 [(0, .ref (ad G c0)), (1, .int x1), (2, .int x2), (3, .int x3), (4, .int x4)] → W p l e rm_X2_daysByLaw s m args below meth c H locs 0 0 (MQ below (QI G r M) args s 0 0 (zA G)) (F0 m 14 ls [])) {c0 : Nat} {x1 : Int32} {x2 : Int32} {x3 : Int32} {x4 : Int32} {H : Heap} {locs : List Loc} {ls : Array Slot} (hk0 : kd c0 = 11) (hF : F_X2_daysByLaw_36 fu M k14 c0 x1 x2 x3 x4 = some r) (hw : St G s H locs M) (hl : lv_has ls 5 [(0, .ref (ad G c0)), (1, .int x1), (2, .int x2), (3, .int x3), (4, .int x4)]) : W p l e rm_X2_daysByLaw s m args below meth c H locs 0 0 (MQ below (QI G r M) args s 0 0 (zA G)) (F0 m 36 ls []) := by
  unfold F_X2_daysByLaw_36 at hF
  refine lv_iload_n hC.1 hC.2.1 dX2_daysByLaw_36 rfl (lv_at hl 3 rfl) ?_
  refine lv_aload_n hC.1 hC.2.1 dX2_daysByLaw_37 rfl (lv_at hl 0 rfl) ?_
  refine lv_iload_n hC.1 hC.2.1 dX2_daysByLaw_38 rfl (lv_at hl 1 rfl) ?_
  refine lv_iload hC.1 hC.2.1 dX2_daysByLaw_39 (lv_at hl 4 rfl) ?_
  obtain ⟨r2, h1, hF⟩ := ob1S hF
  refine k_Vi (As := [.int x1, .int x4]) (rest := [.int x3]) hC hw (c_X2_meltingIn (M := M) hk0 h1) (RC_N hk0) yv_X2_meltingIn q2_208 ⟨rfl, rfl⟩ ⟨Nat.le_of_ble_eq_true rfl, Nat.le_of_ble_eq_true rfl⟩ ⟨Nat.zero_le _, Nat.zero_le _⟩ rfl rfl (Nat.le_of_ble_eq_true rfl) hl dX2_daysByLaw_41 (fun H locs hw => ?_)
  refine lv_isub hC.1 hC.2.1 dX2_daysByLaw_44 ?_
  refine lv_istore_n (lv' := [(3, .int (x3 - r2)), (0, .ref (ad G c0)), (1, .int x1), (2, .int x2), (4, .int x4)]) hC.1 hC.2.1 dX2_daysByLaw_45 rfl hl (by decide) rfl (fun ls hl => ?_)
  refine lv_iinc (v := (x4 + (1 : Int32))) (lv' := [(4, .int (x4 + (1 : Int32))), (3, .int (x3 - r2)), (0, .ref (ad G c0)), (1, .int x1), (2, .int x2)]) hC.1 hC.2.1 dX2_daysByLaw_46 hl (k := 4) rfl rfl (by decide) rfl (fun ls hl => ?_)
  refine lv_goto (tgt := 14) hC.1 hC.2.1 dX2_daysByLaw_49 (by decide) ?_
  exact hk_14 hk0 hF hw (lv_sub hl [2, 3, 4, 1, 0] rfl)
def F_X2_daysByLaw_14 (fu : Nat) (M : Mm) : Nat → Nat → Int32 → Int32 → Int32 → Int32 → Option Int32
  | 0, _, _, _, _, _ => none
  | n + 1, c0, x1, x2, x3, x4 =>
    if (60 : Int32) ≤ x4 then
      some x2
    else
      if x3 ≤ 0 then
        F_X2_daysByLaw_36 fu M (F_X2_daysByLaw_14 fu M n) c0 x1 x2 x3 x4
      else
        if (M.1 c0 1) ≤ x3 then
          F_X2_daysByLaw_36 fu M (F_X2_daysByLaw_14 fu M n) c0 x1 x2 x3 x4
        else
          F_X2_daysByLaw_36 fu M (F_X2_daysByLaw_14 fu M n) c0 x1 (x2 + (1 : Int32)) x3 x4
set_option maxRecDepth 100000 in
set_option maxHeartbeats 4000000 in
theorem w_X2_daysByLaw_14 {p : Program} {l : Launch} {e : Env} {s : State} {m : MethodId} {args : Array Value} {below : List Frame} {meth : Method} {c : Code} {G : Gv} (hC : Cx p s m args meth c cX2_daysByLaw 5 (some .int) RX2) {fu : Nat} {r : Int32} {M : Mm} : ∀ (n : Nat) {c0 : Nat} {x1 : Int32} {x2 : Int32} {x3 : Int32} {x4 : Int32} {H : Heap} {locs : List Loc} {ls : Array Slot} (hk0 : kd c0 = 11), F_X2_daysByLaw_14 fu M n c0 x1 x2 x3 x4 = some r → St G s H locs M → lv_has ls 5 [(0, .ref (ad G c0)), (1, .int x1), (2, .int x2), (3, .int x3), (4, .int x4)] → W p l e rm_X2_daysByLaw s m args below meth c H locs 0 0 (MQ below (QI G r M) args s 0 0 (zA G)) (F0 m 14 ls []) := by
  intro n
  induction n with
  | zero =>
    intro c0 x1 x2 x3 x4 H locs ls hk0 hF hw hl
    cases hF
  | succ n ih =>
    intro c0 x1 x2 x3 x4 H locs ls hk0 hF hw hl
    unfold F_X2_daysByLaw_14 at hF
    refine lv_iload hC.1 hC.2.1 dX2_daysByLaw_14 (lv_at hl 4 rfl) ?_
    refine lv_bipush (v := (60 : Int32)) hC.1 hC.2.1 dX2_daysByLaw_16 (by decide) ?_
    refine lv_icmp_ge (tgt := 52) hC.1 hC.2.1 dX2_daysByLaw_18 (by decide) (fun b1 => ?_) (fun b1 => ?_)
    · have hF := ifP hF b1
      refine lv_iload_n hC.1 hC.2.1 dX2_daysByLaw_52 rfl (lv_at hl 2 rfl) ?_
      exact r_iretP hC hw hF dX2_daysByLaw_53
    · have hF := ifN hF b1
      refine lv_iload_n hC.1 hC.2.1 dX2_daysByLaw_21 rfl (lv_at hl 3 rfl) ?_
      refine lv_if_le (tgt := 36) hC.1 hC.2.1 dX2_daysByLaw_22 (by decide) (fun b2 => ?_) (fun b2 => ?_)
      · have hF := ifP hF b2
        exact w_X2_daysByLaw_36 hC (hk_14 := ih) hk0 hF hw (lv_sub hl [0, 1, 2, 3, 4] rfl)
      · have hF := ifN hF b2
        refine lv_iload_n hC.1 hC.2.1 dX2_daysByLaw_25 rfl (lv_at hl 3 rfl) ?_
        refine lv_aload_n hC.1 hC.2.1 dX2_daysByLaw_26 rfl (lv_at hl 0 rfl) ?_
        refine g2_rightNow hC hw hk0 q1_33 dX2_daysByLaw_27 ?_
        refine lv_icmp_ge (tgt := 36) hC.1 hC.2.1 dX2_daysByLaw_30 (by decide) (fun b3 => ?_) (fun b3 => ?_)
        · have hF := ifP hF b3
          exact w_X2_daysByLaw_36 hC (hk_14 := ih) hk0 hF hw (lv_sub hl [0, 1, 2, 3, 4] rfl)
        · have hF := ifN hF b3
          refine lv_iinc (v := (x2 + (1 : Int32))) (lv' := [(2, .int (x2 + (1 : Int32))), (0, .ref (ad G c0)), (1, .int x1), (3, .int x3), (4, .int x4)]) hC.1 hC.2.1 dX2_daysByLaw_33 hl (k := 2) rfl rfl (by decide) rfl (fun ls hl => ?_)
          exact w_X2_daysByLaw_36 hC (hk_14 := ih) hk0 hF hw (lv_sub hl [1, 2, 0, 3, 4] rfl)
def F_X2_daysByLaw (fu : Nat) (M : Mm) (c0 : Nat) (x1 : Int32) : Option Int32 :=
  ob1 (F_X6_read fu M (c0 + 4) x1) (fun r2 =>
  F_X2_daysByLaw_14 fu M fu c0 x1 (0 : Int32) r2 (0 : Int32))
set_option maxRecDepth 100000 in
set_option maxHeartbeats 4000000 in
theorem c_X2_daysByLaw {l : Launch} {G : Gv} {fu : Nat} {M : Mm} {c0 : Nat} {x1 : Int32} (hk0 : kd c0 = 11) {r : Int32} (hF : F_X2_daysByLaw fu M c0 x1 = some r) : Met l yX2_daysByLaw (.code yX2_daysByLaw cX2_daysByLaw 5 (some .int) :: zU) rm_X2_daysByLaw (va_Pc [.ref (ad G c0), .int x1] (Wd G M)) (QI G r M) 0 0 (zA G) := by
  refine zMet (by decide) rfl (Nat.le_of_ble_eq_true rfl) ?_
  intro p e s m below meth c hC hw ls hl
  have hl : lv_has ls 5 [(0, .ref (ad G c0)), (1, .int x1)] := hl
  unfold F_X2_daysByLaw at hF
  refine lv_iconst (v := (0 : Int32)) hC.1 hC.2.1 dX2_daysByLaw_0 (by decide) ?_
  refine lv_istore_n (lv' := [(2, .int (0 : Int32)), (0, .ref (ad G c0)), (1, .int x1)]) hC.1 hC.2.1 dX2_daysByLaw_1 rfl hl (by decide) rfl (fun ls hl => ?_)
  refine lv_aload_n hC.1 hC.2.1 dX2_daysByLaw_2 rfl (lv_at hl 1 rfl) ?_
  refine g2_bulkOf hC hw hk0 q1_43 dX2_daysByLaw_3 ?_
  refine lv_iload_n hC.1 hC.2.1 dX2_daysByLaw_6 rfl (lv_at hl 2 rfl) ?_
  obtain ⟨r2, h1, hF⟩ := ob1S hF
  refine k_Ni (As := [.ref (ad G (c0 + 4)), .int x1]) (rest := []) hC hw (c_X6_read (M := M) (kdN4 hk0) h1) ys_X6_read (k := 10) rfl ⟨rfl, rfl⟩ ⟨Nat.le_of_ble_eq_true rfl, Nat.le_of_ble_eq_true rfl⟩ ⟨Nat.zero_le _, Nat.zero_le _⟩ rfl rfl (Nat.le_of_ble_eq_true rfl) hl dX2_daysByLaw_7 (fun H locs hw => ?_)
  refine lv_istore_n (lv' := [(3, .int r2), (2, .int (0 : Int32)), (0, .ref (ad G c0)), (1, .int x1)]) hC.1 hC.2.1 dX2_daysByLaw_10 rfl hl (by decide) rfl (fun ls hl => ?_)
  refine lv_iconst (v := (0 : Int32)) hC.1 hC.2.1 dX2_daysByLaw_11 (by decide) ?_
  refine lv_istore (lv' := [(4, .int (0 : Int32)), (3, .int r2), (2, .int (0 : Int32)), (0, .ref (ad G c0)), (1, .int x1)]) hC.1 hC.2.1 dX2_daysByLaw_12 hl (by decide) rfl (fun ls hl => ?_)
  exact w_X2_daysByLaw_14 hC _ hk0 hF hw (lv_sub hl [3, 4, 2, 1, 0] rfl)
abbrev rm_X2_meltingDays : Room := { frames := 3, cells := 0, slots := 0, locals := 76 }
theorem yv_X2_meltingDays : YV yX2_meltingDays cX2_meltingDays 4 (some .int) 1 RX2 := ⟨⟨q2_214, q2_215, q1_2, q2_216⟩, by decide +kernel⟩
theorem dX2_meltingDays_0 : decode cX2_meltingDays 0 = .ok (.iconst 0, 1) := by decide +kernel
theorem dX2_meltingDays_1 : decode cX2_meltingDays 1 = .ok (.istore_n 2, 1) := by decide +kernel
theorem dX2_meltingDays_2 : decode cX2_meltingDays 2 = .ok (.iconst 0, 1) := by decide +kernel
theorem dX2_meltingDays_3 : decode cX2_meltingDays 3 = .ok (.istore_n 3, 1) := by decide +kernel
theorem dX2_meltingDays_4 : decode cX2_meltingDays 4 = .ok (.iload_n 3, 1) := by decide +kernel
theorem dX2_meltingDays_5 : decode cX2_meltingDays 5 = .ok (.bipush 8, 2) := by decide +kernel
theorem dX2_meltingDays_7 : decode cX2_meltingDays 7 = .ok (.if_icmp .ge 21, 3) := by decide +kernel
theorem dX2_meltingDays_10 : decode cX2_meltingDays 10 = .ok (.aload_n 0, 1) := by decide +kernel
theorem dX2_meltingDays_11 : decode cX2_meltingDays 11 = .ok (.iload_n 1, 1) := by decide +kernel
theorem dX2_meltingDays_12 : decode cX2_meltingDays 12 = .ok (.iload_n 3, 1) := by decide +kernel
theorem dX2_meltingDays_13 : decode cX2_meltingDays 13 = .ok (.invokevirtual 94, 3) := by decide +kernel
theorem dX2_meltingDays_16 : decode cX2_meltingDays 16 = .ok (.ifCond .le 6, 3) := by decide +kernel
theorem dX2_meltingDays_19 : decode cX2_meltingDays 19 = .ok (.iinc 2 1, 3) := by decide +kernel
theorem dX2_meltingDays_22 : decode cX2_meltingDays 22 = .ok (.iinc 3 1, 3) := by decide +kernel
theorem dX2_meltingDays_25 : decode cX2_meltingDays 25 = .ok (.goto (-21), 3) := by decide +kernel
theorem dX2_meltingDays_28 : decode cX2_meltingDays 28 = .ok (.iload_n 2, 1) := by decide +kernel
theorem dX2_meltingDays_29 : decode cX2_meltingDays 29 = .ok (.ireturn, 1) := by decide +kernel
def F_X2_meltingDays_4 (fu : Nat) (M : Mm) : Nat → Nat → Int32 → Int32 → Int32 → Option Int32
  | 0, _, _, _, _ => none
  | n + 1, c0, x1, x2, x3 =>
    if (8 : Int32) ≤ x3 then
      some x2
    else
      ob1 (F_X2_meltingIn fu M c0 x1 x3) (fun r3 =>
      if r3 ≤ 0 then
        F_X2_meltingDays_4 fu M n c0 x1 x2 (x3 + (1 : Int32))
      else
        F_X2_meltingDays_4 fu M n c0 x1 (x2 + (1 : Int32)) (x3 + (1 : Int32)))
set_option maxRecDepth 100000 in
set_option maxHeartbeats 4000000 in
theorem w_X2_meltingDays_4 {p : Program} {l : Launch} {e : Env} {s : State} {m : MethodId} {args : Array Value} {below : List Frame} {meth : Method} {c : Code} {G : Gv} (hC : Cx p s m args meth c cX2_meltingDays 4 (some .int) RX2) {fu : Nat} {r : Int32} {M : Mm} : ∀ (n : Nat) {c0 : Nat} {x1 : Int32} {x2 : Int32} {x3 : Int32} {H : Heap} {locs : List Loc} {ls : Array Slot} (hk0 : kd c0 = 11), F_X2_meltingDays_4 fu M n c0 x1 x2 x3 = some r → St G s H locs M → lv_has ls 4 [(0, .ref (ad G c0)), (1, .int x1), (2, .int x2), (3, .int x3)] → W p l e rm_X2_meltingDays s m args below meth c H locs 0 0 (MQ below (QI G r M) args s 0 0 (zA G)) (F0 m 4 ls []) := by
  intro n
  induction n with
  | zero =>
    intro c0 x1 x2 x3 H locs ls hk0 hF hw hl
    cases hF
  | succ n ih =>
    intro c0 x1 x2 x3 H locs ls hk0 hF hw hl
    unfold F_X2_meltingDays_4 at hF
    refine lv_iload_n hC.1 hC.2.1 dX2_meltingDays_4 rfl (lv_at hl 3 rfl) ?_
    refine lv_bipush (v := (8 : Int32)) hC.1 hC.2.1 dX2_meltingDays_5 (by decide) ?_
    refine lv_icmp_ge (tgt := 28) hC.1 hC.2.1 dX2_meltingDays_7 (by decide) (fun b1 => ?_) (fun b1 => ?_)
    · have hF := ifP hF b1
      refine lv_iload_n hC.1 hC.2.1 dX2_meltingDays_28 rfl (lv_at hl 2 rfl) ?_
      exact r_iretP hC hw hF dX2_meltingDays_29
    · have hF := ifN hF b1
      refine lv_aload_n hC.1 hC.2.1 dX2_meltingDays_10 rfl (lv_at hl 0 rfl) ?_
      refine lv_iload_n hC.1 hC.2.1 dX2_meltingDays_11 rfl (lv_at hl 1 rfl) ?_
      refine lv_iload_n hC.1 hC.2.1 dX2_meltingDays_12 rfl (lv_at hl 3 rfl) ?_
      obtain ⟨r3, h2, hF⟩ := ob1S hF
      refine k_Vi (As := [.int x1, .int x3]) (rest := []) hC hw (c_X2_meltingIn (M := M) hk0 h2) (RC_N hk0) yv_X2_meltingIn q2_208 ⟨rfl, rfl⟩ ⟨Nat.le_of_ble_eq_true rfl, Nat.le_of_ble_eq_true rfl⟩ ⟨Nat.zero_le _, Nat.zero_le _⟩ rfl rfl (Nat.le_of_ble_eq_true rfl) hl dX2_meltingDays_13 (fun H locs hw => ?_)
      refine lv_if_le (tgt := 22) hC.1 hC.2.1 dX2_meltingDays_16 (by decide) (fun b4 => ?_) (fun b4 => ?_)
      · have hF := ifP hF b4
        refine lv_iinc (v := (x3 + (1 : Int32))) (lv' := [(3, .int (x3 + (1 : Int32))), (0, .ref (ad G c0)), (1, .int x1), (2, .int x2)]) hC.1 hC.2.1 dX2_meltingDays_22 hl (k := 3) rfl rfl (by decide) rfl (fun ls hl => ?_)
        refine lv_goto (tgt := 4) hC.1 hC.2.1 dX2_meltingDays_25 (by decide) ?_
        exact ih hk0 hF hw (lv_sub hl [1, 2, 3, 0] rfl)
      · have hF := ifN hF b4
        refine lv_iinc (v := (x2 + (1 : Int32))) (lv' := [(2, .int (x2 + (1 : Int32))), (0, .ref (ad G c0)), (1, .int x1), (3, .int x3)]) hC.1 hC.2.1 dX2_meltingDays_19 hl (k := 2) rfl rfl (by decide) rfl (fun ls hl => ?_)
        refine lv_iinc (v := (x3 + (1 : Int32))) (lv' := [(3, .int (x3 + (1 : Int32))), (2, .int (x2 + (1 : Int32))), (0, .ref (ad G c0)), (1, .int x1)]) hC.1 hC.2.1 dX2_meltingDays_22 hl (k := 3) rfl rfl (by decide) rfl (fun ls hl => ?_)
        refine lv_goto (tgt := 4) hC.1 hC.2.1 dX2_meltingDays_25 (by decide) ?_
        exact ih hk0 hF hw (lv_sub hl [2, 3, 1, 0] rfl)
def F_X2_meltingDays (fu : Nat) (M : Mm) (c0 : Nat) (x1 : Int32) : Option Int32 :=
  F_X2_meltingDays_4 fu M fu c0 x1 (0 : Int32) (0 : Int32)
set_option maxRecDepth 100000 in
set_option maxHeartbeats 4000000 in
theorem c_X2_meltingDays {l : Launch} {G : Gv} {fu : Nat} {M : Mm} {c0 : Nat} {x1 : Int32} (hk0 : kd c0 = 11) {r : Int32} (hF : F_X2_meltingDays fu M c0 x1 = some r) : Met l yX2_meltingDays (.code yX2_meltingDays cX2_meltingDays 4 (some .int) :: zU) rm_X2_meltingDays (va_Pc [.ref (ad G c0), .int x1] (Wd G M)) (QI G r M) 0 0 (zA G) := by
  refine zMet (by decide) rfl (Nat.le_of_ble_eq_true rfl) ?_
  intro p e s m below meth c hC hw ls hl
  have hl : lv_has ls 4 [(0, .ref (ad G c0)), (1, .int x1)] := hl
  unfold F_X2_meltingDays at hF
  refine lv_iconst (v := (0 : Int32)) hC.1 hC.2.1 dX2_meltingDays_0 (by decide) ?_
  refine lv_istore_n (lv' := [(2, .int (0 : Int32)), (0, .ref (ad G c0)), (1, .int x1)]) hC.1 hC.2.1 dX2_meltingDays_1 rfl hl (by decide) rfl (fun ls hl => ?_)
  refine lv_iconst (v := (0 : Int32)) hC.1 hC.2.1 dX2_meltingDays_2 (by decide) ?_
  refine lv_istore_n (lv' := [(3, .int (0 : Int32)), (2, .int (0 : Int32)), (0, .ref (ad G c0)), (1, .int x1)]) hC.1 hC.2.1 dX2_meltingDays_3 rfl hl (by decide) rfl (fun ls hl => ?_)
  exact w_X2_meltingDays_4 hC _ hk0 hF hw (lv_sub hl [2, 3, 1, 0] rfl)
abbrev rm_X2_leastGuard : Room := { frames := 4, cells := 0, slots := 0, locals := 102 }
theorem yv_X2_leastGuard : YV yX2_leastGuard cX2_leastGuard 4 (some .int) 2 RX2 := ⟨⟨q3_120, q3_121, q1_2, q3_122⟩, by decide +kernel⟩
theorem dX2_leastGuard_0 : decode cX2_leastGuard 0 = .ok (.aload_n 0, 1) := by decide +kernel
theorem dX2_leastGuard_1 : decode cX2_leastGuard 1 = .ok (.getfield 24, 3) := by decide +kernel
theorem dX2_leastGuard_4 : decode cX2_leastGuard 4 = .ok (.iload_n 1, 1) := by decide +kernel
theorem dX2_leastGuard_5 : decode cX2_leastGuard 5 = .ok (.invokestatic 81, 3) := by decide +kernel
theorem dX2_leastGuard_8 : decode cX2_leastGuard 8 = .ok (.istore_n 3, 1) := by decide +kernel
theorem dX2_leastGuard_9 : decode cX2_leastGuard 9 = .ok (.iload_n 3, 1) := by decide +kernel
theorem dX2_leastGuard_10 : decode cX2_leastGuard 10 = .ok (.bipush 9, 2) := by decide +kernel
theorem dX2_leastGuard_12 : decode cX2_leastGuard 12 = .ok (.if_icmp .gt 21, 3) := by decide +kernel
theorem dX2_leastGuard_15 : decode cX2_leastGuard 15 = .ok (.aload_n 0, 1) := by decide +kernel
theorem dX2_leastGuard_16 : decode cX2_leastGuard 16 = .ok (.iload_n 1, 1) := by decide +kernel
theorem dX2_leastGuard_17 : decode cX2_leastGuard 17 = .ok (.iload_n 3, 1) := by decide +kernel
theorem dX2_leastGuard_18 : decode cX2_leastGuard 18 = .ok (.iload_n 2, 1) := by decide +kernel
theorem dX2_leastGuard_19 : decode cX2_leastGuard 19 = .ok (.invokevirtual 104, 3) := by decide +kernel
theorem dX2_leastGuard_22 : decode cX2_leastGuard 22 = .ok (.ifCond .le 5, 3) := by decide +kernel
theorem dX2_leastGuard_25 : decode cX2_leastGuard 25 = .ok (.iload_n 3, 1) := by decide +kernel
theorem dX2_leastGuard_26 : decode cX2_leastGuard 26 = .ok (.ireturn, 1) := by decide +kernel
theorem dX2_leastGuard_27 : decode cX2_leastGuard 27 = .ok (.iinc 3 1, 3) := by decide +kernel
theorem dX2_leastGuard_30 : decode cX2_leastGuard 30 = .ok (.goto (-21), 3) := by decide +kernel
theorem dX2_leastGuard_33 : decode cX2_leastGuard 33 = .ok (.bipush (-9), 2) := by decide +kernel
theorem dX2_leastGuard_35 : decode cX2_leastGuard 35 = .ok (.ireturn, 1) := by decide +kernel
def F_X2_leastGuard_9 (fu : Nat) (M : Mm) : Nat → Nat → Int32 → Int32 → Int32 → Option Int32
  | 0, _, _, _, _ => none
  | n + 1, c0, x1, x2, x3 =>
    if (9 : Int32) < x3 then
      some (-9 : Int32)
    else
      ob1 (F_X2_bulkBy fu M c0 x1 x3 x2) (fun r3 =>
      if r3 ≤ 0 then
        F_X2_leastGuard_9 fu M n c0 x1 x2 (x3 + (1 : Int32))
      else
        some x3)
set_option maxRecDepth 100000 in
set_option maxHeartbeats 4000000 in
theorem w_X2_leastGuard_9 {p : Program} {l : Launch} {e : Env} {s : State} {m : MethodId} {args : Array Value} {below : List Frame} {meth : Method} {c : Code} {G : Gv} (hC : Cx p s m args meth c cX2_leastGuard 4 (some .int) RX2) {fu : Nat} {r : Int32} {M : Mm} : ∀ (n : Nat) {c0 : Nat} {x1 : Int32} {x2 : Int32} {x3 : Int32} {H : Heap} {locs : List Loc} {ls : Array Slot} (hk0 : kd c0 = 11), F_X2_leastGuard_9 fu M n c0 x1 x2 x3 = some r → St G s H locs M → lv_has ls 4 [(0, .ref (ad G c0)), (1, .int x1), (2, .int x2), (3, .int x3)] → W p l e rm_X2_leastGuard s m args below meth c H locs 0 0 (MQ below (QI G r M) args s 0 0 (zA G)) (F0 m 9 ls []) := by
  intro n
  induction n with
  | zero =>
    intro c0 x1 x2 x3 H locs ls hk0 hF hw hl
    cases hF
  | succ n ih =>
    intro c0 x1 x2 x3 H locs ls hk0 hF hw hl
    unfold F_X2_leastGuard_9 at hF
    refine lv_iload_n hC.1 hC.2.1 dX2_leastGuard_9 rfl (lv_at hl 3 rfl) ?_
    refine lv_bipush (v := (9 : Int32)) hC.1 hC.2.1 dX2_leastGuard_10 (by decide) ?_
    refine lv_icmp_gt (tgt := 33) hC.1 hC.2.1 dX2_leastGuard_12 (by decide) (fun b1 => ?_) (fun b1 => ?_)
    · have hF := ifP hF b1
      refine lv_bipush (v := (-9 : Int32)) hC.1 hC.2.1 dX2_leastGuard_33 (by decide) ?_
      exact r_iretP hC hw hF dX2_leastGuard_35
    · have hF := ifN hF b1
      refine lv_aload_n hC.1 hC.2.1 dX2_leastGuard_15 rfl (lv_at hl 0 rfl) ?_
      refine lv_iload_n hC.1 hC.2.1 dX2_leastGuard_16 rfl (lv_at hl 1 rfl) ?_
      refine lv_iload_n hC.1 hC.2.1 dX2_leastGuard_17 rfl (lv_at hl 3 rfl) ?_
      refine lv_iload_n hC.1 hC.2.1 dX2_leastGuard_18 rfl (lv_at hl 2 rfl) ?_
      obtain ⟨r3, h2, hF⟩ := ob1S hF
      refine k_Vi (As := [.int x1, .int x3, .int x2]) (rest := []) hC hw (c_X2_bulkBy (M := M) hk0 h2) (RC_N hk0) yv_X2_bulkBy q3_60 ⟨rfl, rfl⟩ ⟨Nat.le_of_ble_eq_true rfl, Nat.le_of_ble_eq_true rfl⟩ ⟨Nat.zero_le _, Nat.zero_le _⟩ rfl rfl (Nat.le_of_ble_eq_true rfl) hl dX2_leastGuard_19 (fun H locs hw => ?_)
      refine lv_if_le (tgt := 27) hC.1 hC.2.1 dX2_leastGuard_22 (by decide) (fun b4 => ?_) (fun b4 => ?_)
      · have hF := ifP hF b4
        refine lv_iinc (v := (x3 + (1 : Int32))) (lv' := [(3, .int (x3 + (1 : Int32))), (0, .ref (ad G c0)), (1, .int x1), (2, .int x2)]) hC.1 hC.2.1 dX2_leastGuard_27 hl (k := 3) rfl rfl (by decide) rfl (fun ls hl => ?_)
        refine lv_goto (tgt := 9) hC.1 hC.2.1 dX2_leastGuard_30 (by decide) ?_
        exact ih hk0 hF hw (lv_sub hl [1, 2, 3, 0] rfl)
      · have hF := ifN hF b4
        refine lv_iload_n hC.1 hC.2.1 dX2_leastGuard_25 rfl (lv_at hl 3 rfl) ?_
        exact r_iretP hC hw hF dX2_leastGuard_26
def F_X2_leastGuard (fu : Nat) (M : Mm) (c0 : Nat) (x1 : Int32) (x2 : Int32) : Option Int32 :=
  ob1 (F_X6_read fu M (c0 + 5) x1) (fun r2 =>
  F_X2_leastGuard_9 fu M fu c0 x1 x2 r2)
set_option maxRecDepth 100000 in
set_option maxHeartbeats 4000000 in
theorem c_X2_leastGuard {l : Launch} {G : Gv} {fu : Nat} {M : Mm} {c0 : Nat} {x1 : Int32} {x2 : Int32} (hk0 : kd c0 = 11) {r : Int32} (hF : F_X2_leastGuard fu M c0 x1 x2 = some r) : Met l yX2_leastGuard (.code yX2_leastGuard cX2_leastGuard 4 (some .int) :: zU) rm_X2_leastGuard (va_Pc [.ref (ad G c0), .int x1, .int x2] (Wd G M)) (QI G r M) 0 0 (zA G) := by
  refine zMet (by decide) rfl (Nat.le_of_ble_eq_true rfl) ?_
  intro p e s m below meth c hC hw ls hl
  have hl : lv_has ls 4 [(0, .ref (ad G c0)), (1, .int x1), (2, .int x2)] := hl
  unfold F_X2_leastGuard at hF
  refine lv_aload_n hC.1 hC.2.1 dX2_leastGuard_0 rfl (lv_at hl 0 rfl) ?_
  refine g2_shadeOf hC hw hk0 q1_46 dX2_leastGuard_1 ?_
  refine lv_iload_n hC.1 hC.2.1 dX2_leastGuard_4 rfl (lv_at hl 1 rfl) ?_
  obtain ⟨r2, h1, hF⟩ := ob1S hF
  refine k_Ni (As := [.ref (ad G (c0 + 5)), .int x1]) (rest := []) hC hw (c_X6_read (M := M) (kdN5 hk0) h1) ys_X6_read (k := 10) rfl ⟨rfl, rfl⟩ ⟨Nat.le_of_ble_eq_true rfl, Nat.le_of_ble_eq_true rfl⟩ ⟨Nat.zero_le _, Nat.zero_le _⟩ rfl rfl (Nat.le_of_ble_eq_true rfl) hl dX2_leastGuard_5 (fun H locs hw => ?_)
  refine lv_istore_n (lv' := [(3, .int r2), (0, .ref (ad G c0)), (1, .int x1), (2, .int x2)]) hC.1 hC.2.1 dX2_leastGuard_8 rfl hl (by decide) rfl (fun ls hl => ?_)
  exact w_X2_leastGuard_9 hC _ hk0 hF hw (lv_sub hl [1, 2, 3, 0] rfl)
abbrev rm_X2_nearestShade : Room := { frames := 5, cells := 0, slots := 0, locals := 125 }
theorem yv_X2_nearestShade : YV yX2_nearestShade cX2_nearestShade 6 (some .int) 3 RX2 := ⟨⟨q3_133, q3_134, q1_2, q3_135⟩, by decide +kernel⟩
theorem dX2_nearestShade_0 : decode cX2_nearestShade 0 = .ok (.aload_n 0, 1) := by decide +kernel
theorem dX2_nearestShade_1 : decode cX2_nearestShade 1 = .ok (.getfield 24, 3) := by decide +kernel
theorem dX2_nearestShade_4 : decode cX2_nearestShade 4 = .ok (.iload_n 1, 1) := by decide +kernel
theorem dX2_nearestShade_5 : decode cX2_nearestShade 5 = .ok (.invokestatic 81, 3) := by decide +kernel
theorem dX2_nearestShade_8 : decode cX2_nearestShade 8 = .ok (.istore 4, 2) := by decide +kernel
theorem dX2_nearestShade_10 : decode cX2_nearestShade 10 = .ok (.iconst 0, 1) := by decide +kernel
theorem dX2_nearestShade_11 : decode cX2_nearestShade 11 = .ok (.istore 5, 2) := by decide +kernel
theorem dX2_nearestShade_13 : decode cX2_nearestShade 13 = .ok (.iload 5, 2) := by decide +kernel
theorem dX2_nearestShade_15 : decode cX2_nearestShade 15 = .ok (.bipush 9, 2) := by decide +kernel
theorem dX2_nearestShade_17 : decode cX2_nearestShade 17 = .ok (.if_icmp .gt 69, 3) := by decide +kernel
theorem dX2_nearestShade_20 : decode cX2_nearestShade 20 = .ok (.iload 4, 2) := by decide +kernel
theorem dX2_nearestShade_22 : decode cX2_nearestShade 22 = .ok (.iload 5, 2) := by decide +kernel
theorem dX2_nearestShade_24 : decode cX2_nearestShade 24 = .ok (.isub, 1) := by decide +kernel
theorem dX2_nearestShade_25 : decode cX2_nearestShade 25 = .ok (.ifCond .lt 24, 3) := by decide +kernel
theorem dX2_nearestShade_28 : decode cX2_nearestShade 28 = .ok (.aload_n 0, 1) := by decide +kernel
theorem dX2_nearestShade_29 : decode cX2_nearestShade 29 = .ok (.iload_n 1, 1) := by decide +kernel
theorem dX2_nearestShade_30 : decode cX2_nearestShade 30 = .ok (.iload 4, 2) := by decide +kernel
theorem dX2_nearestShade_32 : decode cX2_nearestShade 32 = .ok (.iload 5, 2) := by decide +kernel
theorem dX2_nearestShade_34 : decode cX2_nearestShade 34 = .ok (.isub, 1) := by decide +kernel
theorem dX2_nearestShade_35 : decode cX2_nearestShade 35 = .ok (.iload_n 2, 1) := by decide +kernel
theorem dX2_nearestShade_36 : decode cX2_nearestShade 36 = .ok (.invokevirtual 118, 3) := by decide +kernel
theorem dX2_nearestShade_39 : decode cX2_nearestShade 39 = .ok (.iload_n 3, 1) := by decide +kernel
theorem dX2_nearestShade_40 : decode cX2_nearestShade 40 = .ok (.if_icmp .ne 9, 3) := by decide +kernel
theorem dX2_nearestShade_43 : decode cX2_nearestShade 43 = .ok (.iload 4, 2) := by decide +kernel
theorem dX2_nearestShade_45 : decode cX2_nearestShade 45 = .ok (.iload 5, 2) := by decide +kernel
theorem dX2_nearestShade_47 : decode cX2_nearestShade 47 = .ok (.isub, 1) := by decide +kernel
theorem dX2_nearestShade_48 : decode cX2_nearestShade 48 = .ok (.ireturn, 1) := by decide +kernel
theorem dX2_nearestShade_49 : decode cX2_nearestShade 49 = .ok (.iload 4, 2) := by decide +kernel
theorem dX2_nearestShade_51 : decode cX2_nearestShade 51 = .ok (.iload 5, 2) := by decide +kernel
theorem dX2_nearestShade_53 : decode cX2_nearestShade 53 = .ok (.iadd, 1) := by decide +kernel
theorem dX2_nearestShade_54 : decode cX2_nearestShade 54 = .ok (.bipush 9, 2) := by decide +kernel
theorem dX2_nearestShade_56 : decode cX2_nearestShade 56 = .ok (.if_icmp .gt 24, 3) := by decide +kernel
theorem dX2_nearestShade_59 : decode cX2_nearestShade 59 = .ok (.aload_n 0, 1) := by decide +kernel
theorem dX2_nearestShade_60 : decode cX2_nearestShade 60 = .ok (.iload_n 1, 1) := by decide +kernel
theorem dX2_nearestShade_61 : decode cX2_nearestShade 61 = .ok (.iload 4, 2) := by decide +kernel
theorem dX2_nearestShade_63 : decode cX2_nearestShade 63 = .ok (.iload 5, 2) := by decide +kernel
theorem dX2_nearestShade_65 : decode cX2_nearestShade 65 = .ok (.iadd, 1) := by decide +kernel
theorem dX2_nearestShade_66 : decode cX2_nearestShade 66 = .ok (.iload_n 2, 1) := by decide +kernel
theorem dX2_nearestShade_67 : decode cX2_nearestShade 67 = .ok (.invokevirtual 118, 3) := by decide +kernel
theorem dX2_nearestShade_70 : decode cX2_nearestShade 70 = .ok (.iload_n 3, 1) := by decide +kernel
theorem dX2_nearestShade_71 : decode cX2_nearestShade 71 = .ok (.if_icmp .ne 9, 3) := by decide +kernel
theorem dX2_nearestShade_74 : decode cX2_nearestShade 74 = .ok (.iload 4, 2) := by decide +kernel
theorem dX2_nearestShade_76 : decode cX2_nearestShade 76 = .ok (.iload 5, 2) := by decide +kernel
theorem dX2_nearestShade_78 : decode cX2_nearestShade 78 = .ok (.iadd, 1) := by decide +kernel
theorem dX2_nearestShade_79 : decode cX2_nearestShade 79 = .ok (.ireturn, 1) := by decide +kernel
theorem dX2_nearestShade_80 : decode cX2_nearestShade 80 = .ok (.iinc 5 1, 3) := by decide +kernel
theorem dX2_nearestShade_83 : decode cX2_nearestShade 83 = .ok (.goto (-70), 3) := by decide +kernel
theorem dX2_nearestShade_86 : decode cX2_nearestShade 86 = .ok (.bipush (-9), 2) := by decide +kernel
theorem dX2_nearestShade_88 : decode cX2_nearestShade 88 = .ok (.ireturn, 1) := by decide +kernel
def F_X2_nearestShade_49 (fu : Nat) (M : Mm) (k13 : Nat → Int32 → Int32 → Int32 → Int32 → Int32 → Option Int32) (c0 : Nat) (x1 : Int32) (x2 : Int32) (x3 : Int32) (x4 : Int32) (x5 : Int32) : Option Int32 :=
  if (9 : Int32) < (x4 + x5) then
    k13 c0 x1 x2 x3 x4 (x5 + (1 : Int32))
  else
    ob1 (F_X2_hasRightBy fu M c0 x1 (x4 + x5) x2) (fun r3 =>
    if r3 = x3 then
      some (x4 + x5)
    else
      k13 c0 x1 x2 x3 x4 (x5 + (1 : Int32)))
set_option maxRecDepth 100000 in
set_option maxHeartbeats 4000000 in
theorem w_X2_nearestShade_49 {p : Program} {l : Launch} {e : Env} {s : State} {m : MethodId} {args : Array Value} {below : List Frame} {meth : Method} {c : Code} {G : Gv} (hC : Cx p s m args meth c cX2_nearestShade 6 (some .int) RX2) {fu : Nat} {r : Int32} {M : Mm} {k13 : Nat → Int32 → Int32 → Int32 → Int32 → Int32 → Option Int32} (hk_13 : ∀ {c0 : Nat} {x1 : Int32} {x2 : Int32} {x3 : Int32} {x4 : Int32} {x5 : Int32} {H : Heap} {locs : List Loc} {ls : Array Slot} (hk0 : kd c0 = 11), k13 c0 x1 x2 x3 x4 x5 = some r → St G s H locs M → lv_has ls 6 [(0, .ref (ad G c0)), (1, .int x1), (2, .int x2), (3, .int x3), (4, .int x4), (5, .int x5)] → W p l e rm_X2_nearestShade s m args below meth c H locs 0 0 (MQ below (QI G r M) args s 0 0 (zA G)) (F0 m 13 ls [])) {c0 : Nat} {x1 : Int32} {x2 : Int32} {x3 : Int32} {x4 : Int32} {x5 : Int32} {H : Heap} {locs : List Loc} {ls : Array Slot} (hk0 : kd c0 = 11) (hF : F_X2_nearestShade_49 fu M k13 c0 x1 x2 x3 x4 x5 = some r) (hw : St G s H locs M) (hl : lv_has ls 6 [(0, .ref (ad G c0)), (1, .int x1), (2, .int x2), (3, .int x3), (4, .int x4), (5, .int x5)]) : W p l e rm_X2_nearestShade s m args below meth c H locs 0 0 (MQ below (QI G r M) args s 0 0 (zA G)) (F0 m 49 ls []) := by
  unfold F_X2_nearestShade_49 at hF
  refine lv_iload hC.1 hC.2.1 dX2_nearestShade_49 (lv_at hl 4 rfl) ?_
  refine lv_iload hC.1 hC.2.1 dX2_nearestShade_51 (lv_at hl 5 rfl) ?_
  refine lv_iadd hC.1 hC.2.1 dX2_nearestShade_53 ?_
  refine lv_bipush (v := (9 : Int32)) hC.1 hC.2.1 dX2_nearestShade_54 (by decide) ?_
  refine lv_icmp_gt (tgt := 80) hC.1 hC.2.1 dX2_nearestShade_56 (by decide) (fun b1 => ?_) (fun b1 => ?_)
  · have hF := ifP hF b1
    refine lv_iinc (v := (x5 + (1 : Int32))) (lv' := [(5, .int (x5 + (1 : Int32))), (0, .ref (ad G c0)), (1, .int x1), (2, .int x2), (3, .int x3), (4, .int x4)]) hC.1 hC.2.1 dX2_nearestShade_80 hl (k := 5) rfl rfl (by decide) rfl (fun ls hl => ?_)
    refine lv_goto (tgt := 13) hC.1 hC.2.1 dX2_nearestShade_83 (by decide) ?_
    exact hk_13 hk0 hF hw (lv_sub hl [1, 2, 3, 4, 5, 0] rfl)
  · have hF := ifN hF b1
    refine lv_aload_n hC.1 hC.2.1 dX2_nearestShade_59 rfl (lv_at hl 0 rfl) ?_
    refine lv_iload_n hC.1 hC.2.1 dX2_nearestShade_60 rfl (lv_at hl 1 rfl) ?_
    refine lv_iload hC.1 hC.2.1 dX2_nearestShade_61 (lv_at hl 4 rfl) ?_
    refine lv_iload hC.1 hC.2.1 dX2_nearestShade_63 (lv_at hl 5 rfl) ?_
    refine lv_iadd hC.1 hC.2.1 dX2_nearestShade_65 ?_
    refine lv_iload_n hC.1 hC.2.1 dX2_nearestShade_66 rfl (lv_at hl 2 rfl) ?_
    obtain ⟨r3, h2, hF⟩ := ob1S hF
    refine k_Vi (As := [.int x1, .int (x4 + x5), .int x2]) (rest := []) hC hw (c_X2_hasRightBy (M := M) hk0 h2) (RC_N hk0) yv_X2_hasRightBy q3_80 ⟨rfl, rfl⟩ ⟨Nat.le_of_ble_eq_true rfl, Nat.le_of_ble_eq_true rfl⟩ ⟨Nat.zero_le _, Nat.zero_le _⟩ rfl rfl (Nat.le_of_ble_eq_true rfl) hl dX2_nearestShade_67 (fun H locs hw => ?_)
    refine lv_iload_n hC.1 hC.2.1 dX2_nearestShade_70 rfl (lv_at hl 3 rfl) ?_
    refine lv_icmp_ne (tgt := 80) hC.1 hC.2.1 dX2_nearestShade_71 (by decide) (fun b4 => ?_) (fun b4 => ?_)
    · have hF := ifN hF b4
      refine lv_iinc (v := (x5 + (1 : Int32))) (lv' := [(5, .int (x5 + (1 : Int32))), (0, .ref (ad G c0)), (1, .int x1), (2, .int x2), (3, .int x3), (4, .int x4)]) hC.1 hC.2.1 dX2_nearestShade_80 hl (k := 5) rfl rfl (by decide) rfl (fun ls hl => ?_)
      refine lv_goto (tgt := 13) hC.1 hC.2.1 dX2_nearestShade_83 (by decide) ?_
      exact hk_13 hk0 hF hw (lv_sub hl [1, 2, 3, 4, 5, 0] rfl)
    · have hF := ifP hF b4
      refine lv_iload hC.1 hC.2.1 dX2_nearestShade_74 (lv_at hl 4 rfl) ?_
      refine lv_iload hC.1 hC.2.1 dX2_nearestShade_76 (lv_at hl 5 rfl) ?_
      refine lv_iadd hC.1 hC.2.1 dX2_nearestShade_78 ?_
      exact r_iretP hC hw hF dX2_nearestShade_79
def F_X2_nearestShade_13 (fu : Nat) (M : Mm) : Nat → Nat → Int32 → Int32 → Int32 → Int32 → Int32 → Option Int32
  | 0, _, _, _, _, _, _ => none
  | n + 1, c0, x1, x2, x3, x4, x5 =>
    if (9 : Int32) < x5 then
      some (-9 : Int32)
    else
      if (x4 - x5) < 0 then
        F_X2_nearestShade_49 fu M (F_X2_nearestShade_13 fu M n) c0 x1 x2 x3 x4 x5
      else
        ob1 (F_X2_hasRightBy fu M c0 x1 (x4 - x5) x2) (fun r4 =>
        if r4 = x3 then
          some (x4 - x5)
        else
          F_X2_nearestShade_49 fu M (F_X2_nearestShade_13 fu M n) c0 x1 x2 x3 x4 x5)
set_option maxRecDepth 100000 in
set_option maxHeartbeats 4000000 in
theorem w_X2_nearestShade_13 {p : Program} {l : Launch} {e : Env} {s : State} {m : MethodId} {args : Array Value} {below : List Frame} {meth : Method} {c : Code} {G : Gv} (hC : Cx p s m args meth c cX2_nearestShade 6 (some .int) RX2) {fu : Nat} {r : Int32} {M : Mm} : ∀ (n : Nat) {c0 : Nat} {x1 : Int32} {x2 : Int32} {x3 : Int32} {x4 : Int32} {x5 : Int32} {H : Heap} {locs : List Loc} {ls : Array Slot} (hk0 : kd c0 = 11), F_X2_nearestShade_13 fu M n c0 x1 x2 x3 x4 x5 = some r → St G s H locs M → lv_has ls 6 [(0, .ref (ad G c0)), (1, .int x1), (2, .int x2), (3, .int x3), (4, .int x4), (5, .int x5)] → W p l e rm_X2_nearestShade s m args below meth c H locs 0 0 (MQ below (QI G r M) args s 0 0 (zA G)) (F0 m 13 ls []) := by
  intro n
  induction n with
  | zero =>
    intro c0 x1 x2 x3 x4 x5 H locs ls hk0 hF hw hl
    cases hF
  | succ n ih =>
    intro c0 x1 x2 x3 x4 x5 H locs ls hk0 hF hw hl
    unfold F_X2_nearestShade_13 at hF
    refine lv_iload hC.1 hC.2.1 dX2_nearestShade_13 (lv_at hl 5 rfl) ?_
    refine lv_bipush (v := (9 : Int32)) hC.1 hC.2.1 dX2_nearestShade_15 (by decide) ?_
    refine lv_icmp_gt (tgt := 86) hC.1 hC.2.1 dX2_nearestShade_17 (by decide) (fun b1 => ?_) (fun b1 => ?_)
    · have hF := ifP hF b1
      refine lv_bipush (v := (-9 : Int32)) hC.1 hC.2.1 dX2_nearestShade_86 (by decide) ?_
      exact r_iretP hC hw hF dX2_nearestShade_88
    · have hF := ifN hF b1
      refine lv_iload hC.1 hC.2.1 dX2_nearestShade_20 (lv_at hl 4 rfl) ?_
      refine lv_iload hC.1 hC.2.1 dX2_nearestShade_22 (lv_at hl 5 rfl) ?_
      refine lv_isub hC.1 hC.2.1 dX2_nearestShade_24 ?_
      refine lv_if_lt (tgt := 49) hC.1 hC.2.1 dX2_nearestShade_25 (by decide) (fun b2 => ?_) (fun b2 => ?_)
      · have hF := ifP hF b2
        exact w_X2_nearestShade_49 hC (hk_13 := ih) hk0 hF hw (lv_sub hl [0, 1, 2, 3, 4, 5] rfl)
      · have hF := ifN hF b2
        refine lv_aload_n hC.1 hC.2.1 dX2_nearestShade_28 rfl (lv_at hl 0 rfl) ?_
        refine lv_iload_n hC.1 hC.2.1 dX2_nearestShade_29 rfl (lv_at hl 1 rfl) ?_
        refine lv_iload hC.1 hC.2.1 dX2_nearestShade_30 (lv_at hl 4 rfl) ?_
        refine lv_iload hC.1 hC.2.1 dX2_nearestShade_32 (lv_at hl 5 rfl) ?_
        refine lv_isub hC.1 hC.2.1 dX2_nearestShade_34 ?_
        refine lv_iload_n hC.1 hC.2.1 dX2_nearestShade_35 rfl (lv_at hl 2 rfl) ?_
        obtain ⟨r4, h3, hF⟩ := ob1S hF
        refine k_Vi (As := [.int x1, .int (x4 - x5), .int x2]) (rest := []) hC hw (c_X2_hasRightBy (M := M) hk0 h3) (RC_N hk0) yv_X2_hasRightBy q3_80 ⟨rfl, rfl⟩ ⟨Nat.le_of_ble_eq_true rfl, Nat.le_of_ble_eq_true rfl⟩ ⟨Nat.zero_le _, Nat.zero_le _⟩ rfl rfl (Nat.le_of_ble_eq_true rfl) hl dX2_nearestShade_36 (fun H locs hw => ?_)
        refine lv_iload_n hC.1 hC.2.1 dX2_nearestShade_39 rfl (lv_at hl 3 rfl) ?_
        refine lv_icmp_ne (tgt := 49) hC.1 hC.2.1 dX2_nearestShade_40 (by decide) (fun b5 => ?_) (fun b5 => ?_)
        · have hF := ifN hF b5
          exact w_X2_nearestShade_49 hC (hk_13 := ih) hk0 hF hw (lv_sub hl [0, 1, 2, 3, 4, 5] rfl)
        · have hF := ifP hF b5
          refine lv_iload hC.1 hC.2.1 dX2_nearestShade_43 (lv_at hl 4 rfl) ?_
          refine lv_iload hC.1 hC.2.1 dX2_nearestShade_45 (lv_at hl 5 rfl) ?_
          refine lv_isub hC.1 hC.2.1 dX2_nearestShade_47 ?_
          exact r_iretP hC hw hF dX2_nearestShade_48
def F_X2_nearestShade (fu : Nat) (M : Mm) (c0 : Nat) (x1 : Int32) (x2 : Int32) (x3 : Int32) : Option Int32 :=
  ob1 (F_X6_read fu M (c0 + 5) x1) (fun r2 =>
  F_X2_nearestShade_13 fu M fu c0 x1 x2 x3 r2 (0 : Int32))
set_option maxRecDepth 100000 in
set_option maxHeartbeats 4000000 in
theorem c_X2_nearestShade {l : Launch} {G : Gv} {fu : Nat} {M : Mm} {c0 : Nat} {x1 : Int32} {x2 : Int32} {x3 : Int32} (hk0 : kd c0 = 11) {r : Int32} (hF : F_X2_nearestShade fu M c0 x1 x2 x3 = some r) : Met l yX2_nearestShade (.code yX2_nearestShade cX2_nearestShade 6 (some .int) :: zU) rm_X2_nearestShade (va_Pc [.ref (ad G c0), .int x1, .int x2, .int x3] (Wd G M)) (QI G r M) 0 0 (zA G) := by
  refine zMet (by decide) rfl (Nat.le_of_ble_eq_true rfl) ?_
  intro p e s m below meth c hC hw ls hl
  have hl : lv_has ls 6 [(0, .ref (ad G c0)), (1, .int x1), (2, .int x2), (3, .int x3)] := hl
  unfold F_X2_nearestShade at hF
  refine lv_aload_n hC.1 hC.2.1 dX2_nearestShade_0 rfl (lv_at hl 0 rfl) ?_
  refine g2_shadeOf hC hw hk0 q1_46 dX2_nearestShade_1 ?_
  refine lv_iload_n hC.1 hC.2.1 dX2_nearestShade_4 rfl (lv_at hl 1 rfl) ?_
  obtain ⟨r2, h1, hF⟩ := ob1S hF
  refine k_Ni (As := [.ref (ad G (c0 + 5)), .int x1]) (rest := []) hC hw (c_X6_read (M := M) (kdN5 hk0) h1) ys_X6_read (k := 10) rfl ⟨rfl, rfl⟩ ⟨Nat.le_of_ble_eq_true rfl, Nat.le_of_ble_eq_true rfl⟩ ⟨Nat.zero_le _, Nat.zero_le _⟩ rfl rfl (Nat.le_of_ble_eq_true rfl) hl dX2_nearestShade_5 (fun H locs hw => ?_)
  refine lv_istore (lv' := [(4, .int r2), (0, .ref (ad G c0)), (1, .int x1), (2, .int x2), (3, .int x3)]) hC.1 hC.2.1 dX2_nearestShade_8 hl (by decide) rfl (fun ls hl => ?_)
  refine lv_iconst (v := (0 : Int32)) hC.1 hC.2.1 dX2_nearestShade_10 (by decide) ?_
  refine lv_istore (lv' := [(5, .int (0 : Int32)), (4, .int r2), (0, .ref (ad G c0)), (1, .int x1), (2, .int x2), (3, .int x3)]) hC.1 hC.2.1 dX2_nearestShade_11 hl (by decide) rfl (fun ls hl => ?_)
  exact w_X2_nearestShade_13 hC _ hk0 hF hw (lv_sub hl [2, 3, 4, 5, 1, 0] rfl)
abbrev rm_X2_bulkOfAll : Room := { frames := 1, cells := 0, slots := 0, locals := 21 }
theorem yv_X2_bulkOfAll : YV yX2_bulkOfAll cX2_bulkOfAll 3 (some .int) 0 RX2 := ⟨⟨q4_71, q4_72, q1_2, q4_73⟩, by decide +kernel⟩
theorem dX2_bulkOfAll_0 : decode cX2_bulkOfAll 0 = .ok (.iconst 0, 1) := by decide +kernel
theorem dX2_bulkOfAll_1 : decode cX2_bulkOfAll 1 = .ok (.istore_n 1, 1) := by decide +kernel
theorem dX2_bulkOfAll_2 : decode cX2_bulkOfAll 2 = .ok (.iconst 0, 1) := by decide +kernel
theorem dX2_bulkOfAll_3 : decode cX2_bulkOfAll 3 = .ok (.istore_n 2, 1) := by decide +kernel
theorem dX2_bulkOfAll_4 : decode cX2_bulkOfAll 4 = .ok (.iload_n 2, 1) := by decide +kernel
theorem dX2_bulkOfAll_5 : decode cX2_bulkOfAll 5 = .ok (.aload_n 0, 1) := by decide +kernel
theorem dX2_bulkOfAll_6 : decode cX2_bulkOfAll 6 = .ok (.getfield 48, 3) := by decide +kernel
theorem dX2_bulkOfAll_9 : decode cX2_bulkOfAll 9 = .ok (.if_icmp .ge 20, 3) := by decide +kernel
theorem dX2_bulkOfAll_12 : decode cX2_bulkOfAll 12 = .ok (.iload_n 1, 1) := by decide +kernel
theorem dX2_bulkOfAll_13 : decode cX2_bulkOfAll 13 = .ok (.aload_n 0, 1) := by decide +kernel
theorem dX2_bulkOfAll_14 : decode cX2_bulkOfAll 14 = .ok (.getfield 21, 3) := by decide +kernel
theorem dX2_bulkOfAll_17 : decode cX2_bulkOfAll 17 = .ok (.iload_n 2, 1) := by decide +kernel
theorem dX2_bulkOfAll_18 : decode cX2_bulkOfAll 18 = .ok (.invokestatic 81, 3) := by decide +kernel
theorem dX2_bulkOfAll_21 : decode cX2_bulkOfAll 21 = .ok (.iadd, 1) := by decide +kernel
theorem dX2_bulkOfAll_22 : decode cX2_bulkOfAll 22 = .ok (.istore_n 1, 1) := by decide +kernel
theorem dX2_bulkOfAll_23 : decode cX2_bulkOfAll 23 = .ok (.iinc 2 1, 3) := by decide +kernel
theorem dX2_bulkOfAll_26 : decode cX2_bulkOfAll 26 = .ok (.goto (-22), 3) := by decide +kernel
theorem dX2_bulkOfAll_29 : decode cX2_bulkOfAll 29 = .ok (.iload_n 1, 1) := by decide +kernel
theorem dX2_bulkOfAll_30 : decode cX2_bulkOfAll 30 = .ok (.ireturn, 1) := by decide +kernel
def F_X2_bulkOfAll_4 (fu : Nat) (M : Mm) : Nat → Nat → Int32 → Int32 → Option Int32
  | 0, _, _, _ => none
  | n + 1, c0, x1, x2 =>
    if (M.1 c0 0) ≤ x2 then
      some x1
    else
      ob1 (F_X6_read fu M (c0 + 4) x2) (fun r3 =>
      F_X2_bulkOfAll_4 fu M n c0 (x1 + r3) (x2 + (1 : Int32)))
set_option maxRecDepth 100000 in
set_option maxHeartbeats 4000000 in
theorem w_X2_bulkOfAll_4 {p : Program} {l : Launch} {e : Env} {s : State} {m : MethodId} {args : Array Value} {below : List Frame} {meth : Method} {c : Code} {G : Gv} (hC : Cx p s m args meth c cX2_bulkOfAll 3 (some .int) RX2) {fu : Nat} {r : Int32} {M : Mm} : ∀ (n : Nat) {c0 : Nat} {x1 : Int32} {x2 : Int32} {H : Heap} {locs : List Loc} {ls : Array Slot} (hk0 : kd c0 = 11), F_X2_bulkOfAll_4 fu M n c0 x1 x2 = some r → St G s H locs M → lv_has ls 3 [(0, .ref (ad G c0)), (1, .int x1), (2, .int x2)] → W p l e rm_X2_bulkOfAll s m args below meth c H locs 0 0 (MQ below (QI G r M) args s 0 0 (zA G)) (F0 m 4 ls []) := by
  intro n
  induction n with
  | zero =>
    intro c0 x1 x2 H locs ls hk0 hF hw hl
    cases hF
  | succ n ih =>
    intro c0 x1 x2 H locs ls hk0 hF hw hl
    unfold F_X2_bulkOfAll_4 at hF
    refine lv_iload_n hC.1 hC.2.1 dX2_bulkOfAll_4 rfl (lv_at hl 2 rfl) ?_
    refine lv_aload_n hC.1 hC.2.1 dX2_bulkOfAll_5 rfl (lv_at hl 0 rfl) ?_
    refine g2_men hC hw hk0 q1_31 dX2_bulkOfAll_6 ?_
    refine lv_icmp_ge (tgt := 29) hC.1 hC.2.1 dX2_bulkOfAll_9 (by decide) (fun b1 => ?_) (fun b1 => ?_)
    · have hF := ifP hF b1
      refine lv_iload_n hC.1 hC.2.1 dX2_bulkOfAll_29 rfl (lv_at hl 1 rfl) ?_
      exact r_iretP hC hw hF dX2_bulkOfAll_30
    · have hF := ifN hF b1
      refine lv_iload_n hC.1 hC.2.1 dX2_bulkOfAll_12 rfl (lv_at hl 1 rfl) ?_
      refine lv_aload_n hC.1 hC.2.1 dX2_bulkOfAll_13 rfl (lv_at hl 0 rfl) ?_
      refine g2_bulkOf hC hw hk0 q1_43 dX2_bulkOfAll_14 ?_
      refine lv_iload_n hC.1 hC.2.1 dX2_bulkOfAll_17 rfl (lv_at hl 2 rfl) ?_
      obtain ⟨r3, h2, hF⟩ := ob1S hF
      refine k_Ni (As := [.ref (ad G (c0 + 4)), .int x2]) (rest := [.int x1]) hC hw (c_X6_read (M := M) (kdN4 hk0) h2) ys_X6_read (k := 10) rfl ⟨rfl, rfl⟩ ⟨Nat.le_of_ble_eq_true rfl, Nat.le_of_ble_eq_true rfl⟩ ⟨Nat.zero_le _, Nat.zero_le _⟩ rfl rfl (Nat.le_of_ble_eq_true rfl) hl dX2_bulkOfAll_18 (fun H locs hw => ?_)
      refine lv_iadd hC.1 hC.2.1 dX2_bulkOfAll_21 ?_
      refine lv_istore_n (lv' := [(1, .int (x1 + r3)), (0, .ref (ad G c0)), (2, .int x2)]) hC.1 hC.2.1 dX2_bulkOfAll_22 rfl hl (by decide) rfl (fun ls hl => ?_)
      refine lv_iinc (v := (x2 + (1 : Int32))) (lv' := [(2, .int (x2 + (1 : Int32))), (1, .int (x1 + r3)), (0, .ref (ad G c0))]) hC.1 hC.2.1 dX2_bulkOfAll_23 hl (k := 2) rfl rfl (by decide) rfl (fun ls hl => ?_)
      refine lv_goto (tgt := 4) hC.1 hC.2.1 dX2_bulkOfAll_26 (by decide) ?_
      exact ih hk0 hF hw (lv_sub hl [2, 1, 0] rfl)
def F_X2_bulkOfAll (fu : Nat) (M : Mm) (c0 : Nat) : Option Int32 :=
  F_X2_bulkOfAll_4 fu M fu c0 (0 : Int32) (0 : Int32)
set_option maxRecDepth 100000 in
set_option maxHeartbeats 4000000 in
theorem c_X2_bulkOfAll {l : Launch} {G : Gv} {fu : Nat} {M : Mm} {c0 : Nat} (hk0 : kd c0 = 11) {r : Int32} (hF : F_X2_bulkOfAll fu M c0 = some r) : Met l yX2_bulkOfAll (.code yX2_bulkOfAll cX2_bulkOfAll 3 (some .int) :: zU) rm_X2_bulkOfAll (va_Pc [.ref (ad G c0)] (Wd G M)) (QI G r M) 0 0 (zA G) := by
  refine zMet (by decide) rfl (Nat.le_of_ble_eq_true rfl) ?_
  intro p e s m below meth c hC hw ls hl
  have hl : lv_has ls 3 [(0, .ref (ad G c0))] := hl
  unfold F_X2_bulkOfAll at hF
  refine lv_iconst (v := (0 : Int32)) hC.1 hC.2.1 dX2_bulkOfAll_0 (by decide) ?_
  refine lv_istore_n (lv' := [(1, .int (0 : Int32)), (0, .ref (ad G c0))]) hC.1 hC.2.1 dX2_bulkOfAll_1 rfl hl (by decide) rfl (fun ls hl => ?_)
  refine lv_iconst (v := (0 : Int32)) hC.1 hC.2.1 dX2_bulkOfAll_2 (by decide) ?_
  refine lv_istore_n (lv' := [(2, .int (0 : Int32)), (1, .int (0 : Int32)), (0, .ref (ad G c0))]) hC.1 hC.2.1 dX2_bulkOfAll_3 rfl hl (by decide) rfl (fun ls hl => ?_)
  exact w_X2_bulkOfAll_4 hC _ hk0 hF hw (lv_sub hl [2, 1, 0] rfl)
abbrev rm_X6_isOfKind : Room := { frames := 0, cells := 0, slots := 0, locals := 0 }
theorem ys_X6_isOfKind : YS yX6_isOfKind cX6_isOfKind 2 (some .boolean) 2 := ⟨⟨q2_184, q1_1, q2_185⟩, by decide +kernel⟩
theorem dX6_isOfKind_0 : decode cX6_isOfKind 0 = .ok (.iload_n 0, 1) := by decide +kernel
theorem dX6_isOfKind_1 : decode cX6_isOfKind 1 = .ok (.iload_n 1, 1) := by decide +kernel
theorem dX6_isOfKind_2 : decode cX6_isOfKind 2 = .ok (.if_icmp .eq 18, 3) := by decide +kernel
theorem dX6_isOfKind_5 : decode cX6_isOfKind 5 = .ok (.iload_n 1, 1) := by decide +kernel
theorem dX6_isOfKind_6 : decode cX6_isOfKind 6 = .ok (.iconst 1, 1) := by decide +kernel
theorem dX6_isOfKind_7 : decode cX6_isOfKind 7 = .ok (.if_icmp .ne 17, 3) := by decide +kernel
theorem dX6_isOfKind_10 : decode cX6_isOfKind 10 = .ok (.iload_n 0, 1) := by decide +kernel
theorem dX6_isOfKind_11 : decode cX6_isOfKind 11 = .ok (.iconst 4, 1) := by decide +kernel
theorem dX6_isOfKind_12 : decode cX6_isOfKind 12 = .ok (.if_icmp .eq 8, 3) := by decide +kernel
theorem dX6_isOfKind_15 : decode cX6_isOfKind 15 = .ok (.iload_n 0, 1) := by decide +kernel
theorem dX6_isOfKind_16 : decode cX6_isOfKind 16 = .ok (.iconst 5, 1) := by decide +kernel
theorem dX6_isOfKind_17 : decode cX6_isOfKind 17 = .ok (.if_icmp .ne 7, 3) := by decide +kernel
theorem dX6_isOfKind_20 : decode cX6_isOfKind 20 = .ok (.iconst 1, 1) := by decide +kernel
theorem dX6_isOfKind_21 : decode cX6_isOfKind 21 = .ok (.goto 4, 3) := by decide +kernel
theorem dX6_isOfKind_24 : decode cX6_isOfKind 24 = .ok (.iconst 0, 1) := by decide +kernel
theorem dX6_isOfKind_25 : decode cX6_isOfKind 25 = .ok (.ireturn, 1) := by decide +kernel
def F_X6_isOfKind (fu : Nat) (M : Mm) (x0 : Int32) (x1 : Int32) : Option Int32 :=
  if x0 = x1 then
    some (1 : Int32)
  else
    if x1 = (1 : Int32) then
      if x0 = (4 : Int32) then
        some (1 : Int32)
      else
        if x0 = (5 : Int32) then
          some (1 : Int32)
        else
          some (0 : Int32)
    else
      some (0 : Int32)
set_option maxRecDepth 100000 in
set_option maxHeartbeats 4000000 in
theorem c_X6_isOfKind {l : Launch} {G : Gv} {fu : Nat} {M : Mm} {x0 : Int32} {x1 : Int32} {r : Int32} (hF : F_X6_isOfKind fu M x0 x1 = some r) : Met l yX6_isOfKind (.code yX6_isOfKind cX6_isOfKind 2 (some .boolean) :: zU) rm_X6_isOfKind (va_Pc [.int x0, .int x1] (Wd G M)) (QI G r M) 0 0 (zA G) := by
  refine zMet (by decide) rfl (Nat.le_of_ble_eq_true rfl) ?_
  intro p e s m below meth c hC hw ls hl
  have hl : lv_has ls 2 [(0, .int x0), (1, .int x1)] := hl
  unfold F_X6_isOfKind at hF
  refine lv_iload_n hC.1 hC.2.1 dX6_isOfKind_0 rfl (lv_at hl 0 rfl) ?_
  refine lv_iload_n hC.1 hC.2.1 dX6_isOfKind_1 rfl (lv_at hl 1 rfl) ?_
  refine lv_icmp_eq (tgt := 20) hC.1 hC.2.1 dX6_isOfKind_2 (by decide) (fun b1 => ?_) (fun b1 => ?_)
  · have hF := ifP hF b1
    refine lv_iconst (v := (1 : Int32)) hC.1 hC.2.1 dX6_isOfKind_20 (by decide) ?_
    refine lv_goto (tgt := 25) hC.1 hC.2.1 dX6_isOfKind_21 (by decide) ?_
    exact r_zretP hC hw (by decide) hF dX6_isOfKind_25
  · have hF := ifN hF b1
    refine lv_iload_n hC.1 hC.2.1 dX6_isOfKind_5 rfl (lv_at hl 1 rfl) ?_
    refine lv_iconst (v := (1 : Int32)) hC.1 hC.2.1 dX6_isOfKind_6 (by decide) ?_
    refine lv_icmp_ne (tgt := 24) hC.1 hC.2.1 dX6_isOfKind_7 (by decide) (fun b2 => ?_) (fun b2 => ?_)
    · have hF := ifN hF b2
      refine lv_iconst (v := (0 : Int32)) hC.1 hC.2.1 dX6_isOfKind_24 (by decide) ?_
      exact r_zretP hC hw (by decide) hF dX6_isOfKind_25
    · have hF := ifP hF b2
      refine lv_iload_n hC.1 hC.2.1 dX6_isOfKind_10 rfl (lv_at hl 0 rfl) ?_
      refine lv_iconst (v := (4 : Int32)) hC.1 hC.2.1 dX6_isOfKind_11 (by decide) ?_
      refine lv_icmp_eq (tgt := 20) hC.1 hC.2.1 dX6_isOfKind_12 (by decide) (fun b3 => ?_) (fun b3 => ?_)
      · have hF := ifP hF b3
        refine lv_iconst (v := (1 : Int32)) hC.1 hC.2.1 dX6_isOfKind_20 (by decide) ?_
        refine lv_goto (tgt := 25) hC.1 hC.2.1 dX6_isOfKind_21 (by decide) ?_
        exact r_zretP hC hw (by decide) hF dX6_isOfKind_25
      · have hF := ifN hF b3
        refine lv_iload_n hC.1 hC.2.1 dX6_isOfKind_15 rfl (lv_at hl 0 rfl) ?_
        refine lv_iconst (v := (5 : Int32)) hC.1 hC.2.1 dX6_isOfKind_16 (by decide) ?_
        refine lv_icmp_ne (tgt := 24) hC.1 hC.2.1 dX6_isOfKind_17 (by decide) (fun b4 => ?_) (fun b4 => ?_)
        · have hF := ifN hF b4
          refine lv_iconst (v := (0 : Int32)) hC.1 hC.2.1 dX6_isOfKind_24 (by decide) ?_
          exact r_zretP hC hw (by decide) hF dX6_isOfKind_25
        · have hF := ifP hF b4
          refine lv_iconst (v := (1 : Int32)) hC.1 hC.2.1 dX6_isOfKind_20 (by decide) ?_
          refine lv_goto (tgt := 25) hC.1 hC.2.1 dX6_isOfKind_21 (by decide) ?_
          exact r_zretP hC hw (by decide) hF dX6_isOfKind_25
abbrev rm_X2_hattedOnes : Room := { frames := 1, cells := 0, slots := 0, locals := 21 }
theorem yv_X2_hattedOnes : YV yX2_hattedOnes cX2_hattedOnes 3 (some .int) 0 RX2 := ⟨⟨q4_75, q4_76, q1_2, q4_77⟩, by decide +kernel⟩
theorem dX2_hattedOnes_0 : decode cX2_hattedOnes 0 = .ok (.iconst 0, 1) := by decide +kernel
theorem dX2_hattedOnes_1 : decode cX2_hattedOnes 1 = .ok (.istore_n 1, 1) := by decide +kernel
theorem dX2_hattedOnes_2 : decode cX2_hattedOnes 2 = .ok (.iconst 0, 1) := by decide +kernel
theorem dX2_hattedOnes_3 : decode cX2_hattedOnes 3 = .ok (.istore_n 2, 1) := by decide +kernel
theorem dX2_hattedOnes_4 : decode cX2_hattedOnes 4 = .ok (.iload_n 2, 1) := by decide +kernel
theorem dX2_hattedOnes_5 : decode cX2_hattedOnes 5 = .ok (.aload_n 0, 1) := by decide +kernel
theorem dX2_hattedOnes_6 : decode cX2_hattedOnes 6 = .ok (.getfield 48, 3) := by decide +kernel
theorem dX2_hattedOnes_9 : decode cX2_hattedOnes 9 = .ok (.if_icmp .ge 27, 3) := by decide +kernel
theorem dX2_hattedOnes_12 : decode cX2_hattedOnes 12 = .ok (.aload_n 0, 1) := by decide +kernel
theorem dX2_hattedOnes_13 : decode cX2_hattedOnes 13 = .ok (.getfield 15, 3) := by decide +kernel
theorem dX2_hattedOnes_16 : decode cX2_hattedOnes 16 = .ok (.iload_n 2, 1) := by decide +kernel
theorem dX2_hattedOnes_17 : decode cX2_hattedOnes 17 = .ok (.invokestatic 81, 3) := by decide +kernel
theorem dX2_hattedOnes_20 : decode cX2_hattedOnes 20 = .ok (.iconst 1, 1) := by decide +kernel
theorem dX2_hattedOnes_21 : decode cX2_hattedOnes 21 = .ok (.invokestatic 143, 3) := by decide +kernel
theorem dX2_hattedOnes_24 : decode cX2_hattedOnes 24 = .ok (.ifCond .eq 6, 3) := by decide +kernel
theorem dX2_hattedOnes_27 : decode cX2_hattedOnes 27 = .ok (.iinc 1 1, 3) := by decide +kernel
theorem dX2_hattedOnes_30 : decode cX2_hattedOnes 30 = .ok (.iinc 2 1, 3) := by decide +kernel
theorem dX2_hattedOnes_33 : decode cX2_hattedOnes 33 = .ok (.goto (-29), 3) := by decide +kernel
theorem dX2_hattedOnes_36 : decode cX2_hattedOnes 36 = .ok (.iload_n 1, 1) := by decide +kernel
theorem dX2_hattedOnes_37 : decode cX2_hattedOnes 37 = .ok (.ireturn, 1) := by decide +kernel
def F_X2_hattedOnes_4 (fu : Nat) (M : Mm) : Nat → Nat → Int32 → Int32 → Option Int32
  | 0, _, _, _ => none
  | n + 1, c0, x1, x2 =>
    if (M.1 c0 0) ≤ x2 then
      some x1
    else
      ob1 (F_X6_read fu M (c0 + 2) x2) (fun r3 =>
      ob1 (F_X6_isOfKind fu M r3 (1 : Int32)) (fun r5 =>
      if r5 = 0 then
        F_X2_hattedOnes_4 fu M n c0 x1 (x2 + (1 : Int32))
      else
        F_X2_hattedOnes_4 fu M n c0 (x1 + (1 : Int32)) (x2 + (1 : Int32))))
set_option maxRecDepth 100000 in
set_option maxHeartbeats 4000000 in
theorem w_X2_hattedOnes_4 {p : Program} {l : Launch} {e : Env} {s : State} {m : MethodId} {args : Array Value} {below : List Frame} {meth : Method} {c : Code} {G : Gv} (hC : Cx p s m args meth c cX2_hattedOnes 3 (some .int) RX2) {fu : Nat} {r : Int32} {M : Mm} : ∀ (n : Nat) {c0 : Nat} {x1 : Int32} {x2 : Int32} {H : Heap} {locs : List Loc} {ls : Array Slot} (hk0 : kd c0 = 11), F_X2_hattedOnes_4 fu M n c0 x1 x2 = some r → St G s H locs M → lv_has ls 3 [(0, .ref (ad G c0)), (1, .int x1), (2, .int x2)] → W p l e rm_X2_hattedOnes s m args below meth c H locs 0 0 (MQ below (QI G r M) args s 0 0 (zA G)) (F0 m 4 ls []) := by
  intro n
  induction n with
  | zero =>
    intro c0 x1 x2 H locs ls hk0 hF hw hl
    cases hF
  | succ n ih =>
    intro c0 x1 x2 H locs ls hk0 hF hw hl
    unfold F_X2_hattedOnes_4 at hF
    refine lv_iload_n hC.1 hC.2.1 dX2_hattedOnes_4 rfl (lv_at hl 2 rfl) ?_
    refine lv_aload_n hC.1 hC.2.1 dX2_hattedOnes_5 rfl (lv_at hl 0 rfl) ?_
    refine g2_men hC hw hk0 q1_31 dX2_hattedOnes_6 ?_
    refine lv_icmp_ge (tgt := 36) hC.1 hC.2.1 dX2_hattedOnes_9 (by decide) (fun b1 => ?_) (fun b1 => ?_)
    · have hF := ifP hF b1
      refine lv_iload_n hC.1 hC.2.1 dX2_hattedOnes_36 rfl (lv_at hl 1 rfl) ?_
      exact r_iretP hC hw hF dX2_hattedOnes_37
    · have hF := ifN hF b1
      refine lv_aload_n hC.1 hC.2.1 dX2_hattedOnes_12 rfl (lv_at hl 0 rfl) ?_
      refine g2_kindOf hC hw hk0 q1_40 dX2_hattedOnes_13 ?_
      refine lv_iload_n hC.1 hC.2.1 dX2_hattedOnes_16 rfl (lv_at hl 2 rfl) ?_
      obtain ⟨r3, h2, hF⟩ := ob1S hF
      refine k_Ni (As := [.ref (ad G (c0 + 2)), .int x2]) (rest := []) hC hw (c_X6_read (M := M) (kdN2 hk0) h2) ys_X6_read (k := 10) rfl ⟨rfl, rfl⟩ ⟨Nat.le_of_ble_eq_true rfl, Nat.le_of_ble_eq_true rfl⟩ ⟨Nat.zero_le _, Nat.zero_le _⟩ rfl rfl (Nat.le_of_ble_eq_true rfl) hl dX2_hattedOnes_17 (fun H locs hw => ?_)
      refine lv_iconst (v := (1 : Int32)) hC.1 hC.2.1 dX2_hattedOnes_20 (by decide) ?_
      obtain ⟨r5, h4, hF⟩ := ob1S hF
      refine k_Ni (As := [.int r3, .int (1 : Int32)]) (rest := []) hC hw (c_X6_isOfKind (M := M) h4) ys_X6_isOfKind (k := 19) rfl ⟨rfl, rfl⟩ ⟨Nat.le_of_ble_eq_true rfl, Nat.le_of_ble_eq_true rfl⟩ ⟨Nat.zero_le _, Nat.zero_le _⟩ rfl rfl (Nat.le_of_ble_eq_true rfl) hl dX2_hattedOnes_21 (fun H locs hw => ?_)
      refine lv_if_eq (tgt := 30) hC.1 hC.2.1 dX2_hattedOnes_24 (by decide) (fun b6 => ?_) (fun b6 => ?_)
      · have hF := ifP hF b6
        refine lv_iinc (v := (x2 + (1 : Int32))) (lv' := [(2, .int (x2 + (1 : Int32))), (0, .ref (ad G c0)), (1, .int x1)]) hC.1 hC.2.1 dX2_hattedOnes_30 hl (k := 2) rfl rfl (by decide) rfl (fun ls hl => ?_)
        refine lv_goto (tgt := 4) hC.1 hC.2.1 dX2_hattedOnes_33 (by decide) ?_
        exact ih hk0 hF hw (lv_sub hl [1, 2, 0] rfl)
      · have hF := ifN hF b6
        refine lv_iinc (v := (x1 + (1 : Int32))) (lv' := [(1, .int (x1 + (1 : Int32))), (0, .ref (ad G c0)), (2, .int x2)]) hC.1 hC.2.1 dX2_hattedOnes_27 hl (k := 1) rfl rfl (by decide) rfl (fun ls hl => ?_)
        refine lv_iinc (v := (x2 + (1 : Int32))) (lv' := [(2, .int (x2 + (1 : Int32))), (1, .int (x1 + (1 : Int32))), (0, .ref (ad G c0))]) hC.1 hC.2.1 dX2_hattedOnes_30 hl (k := 2) rfl rfl (by decide) rfl (fun ls hl => ?_)
        refine lv_goto (tgt := 4) hC.1 hC.2.1 dX2_hattedOnes_33 (by decide) ?_
        exact ih hk0 hF hw (lv_sub hl [2, 1, 0] rfl)
def F_X2_hattedOnes (fu : Nat) (M : Mm) (c0 : Nat) : Option Int32 :=
  F_X2_hattedOnes_4 fu M fu c0 (0 : Int32) (0 : Int32)
set_option maxRecDepth 100000 in
set_option maxHeartbeats 4000000 in
theorem c_X2_hattedOnes {l : Launch} {G : Gv} {fu : Nat} {M : Mm} {c0 : Nat} (hk0 : kd c0 = 11) {r : Int32} (hF : F_X2_hattedOnes fu M c0 = some r) : Met l yX2_hattedOnes (.code yX2_hattedOnes cX2_hattedOnes 3 (some .int) :: zU) rm_X2_hattedOnes (va_Pc [.ref (ad G c0)] (Wd G M)) (QI G r M) 0 0 (zA G) := by
  refine zMet (by decide) rfl (Nat.le_of_ble_eq_true rfl) ?_
  intro p e s m below meth c hC hw ls hl
  have hl : lv_has ls 3 [(0, .ref (ad G c0))] := hl
  unfold F_X2_hattedOnes at hF
  refine lv_iconst (v := (0 : Int32)) hC.1 hC.2.1 dX2_hattedOnes_0 (by decide) ?_
  refine lv_istore_n (lv' := [(1, .int (0 : Int32)), (0, .ref (ad G c0))]) hC.1 hC.2.1 dX2_hattedOnes_1 rfl hl (by decide) rfl (fun ls hl => ?_)
  refine lv_iconst (v := (0 : Int32)) hC.1 hC.2.1 dX2_hattedOnes_2 (by decide) ?_
  refine lv_istore_n (lv' := [(2, .int (0 : Int32)), (1, .int (0 : Int32)), (0, .ref (ad G c0))]) hC.1 hC.2.1 dX2_hattedOnes_3 rfl hl (by decide) rfl (fun ls hl => ?_)
  exact w_X2_hattedOnes_4 hC _ hk0 hF hw (lv_sub hl [2, 1, 0] rfl)
abbrev rm_X5_sign : Room := { frames := 0, cells := 0, slots := 0, locals := 0 }
theorem yv_X5_sign : YV yX5_sign cX5_sign 2 (some .int) 1 RX5 := ⟨⟨q2_87, q2_88, q1_7, q2_89⟩, by decide +kernel⟩
theorem dX5_sign_0 : decode cX5_sign 0 = .ok (.iload_n 1, 1) := by decide +kernel
theorem dX5_sign_1 : decode cX5_sign 1 = .ok (.ifCond .lt 21, 3) := by decide +kernel
theorem dX5_sign_4 : decode cX5_sign 4 = .ok (.iload_n 1, 1) := by decide +kernel
theorem dX5_sign_5 : decode cX5_sign 5 = .ok (.aload_n 0, 1) := by decide +kernel
theorem dX5_sign_6 : decode cX5_sign 6 = .ok (.getfield 9, 3) := by decide +kernel
theorem dX5_sign_9 : decode cX5_sign 9 = .ok (.arraylength, 1) := by decide +kernel
theorem dX5_sign_10 : decode cX5_sign 10 = .ok (.if_icmp .ge 12, 3) := by decide +kernel
theorem dX5_sign_13 : decode cX5_sign 13 = .ok (.aload_n 0, 1) := by decide +kernel
theorem dX5_sign_14 : decode cX5_sign 14 = .ok (.getfield 9, 3) := by decide +kernel
theorem dX5_sign_17 : decode cX5_sign 17 = .ok (.iload_n 1, 1) := by decide +kernel
theorem dX5_sign_18 : decode cX5_sign 18 = .ok (.baload, 1) := by decide +kernel
theorem dX5_sign_19 : decode cX5_sign 19 = .ok (.goto 4, 3) := by decide +kernel
theorem dX5_sign_22 : decode cX5_sign 22 = .ok (.iconst 0, 1) := by decide +kernel
theorem dX5_sign_23 : decode cX5_sign 23 = .ok (.ireturn, 1) := by decide +kernel
def F_X5_sign (fu : Nat) (M : Mm) (c0 : Nat) (x1 : Int32) : Option Int32 :=
  if x1 < 0 then
    some (0 : Int32)
  else
    if (nI (ln (c0 + 4))) ≤ x1 then
      some (0 : Int32)
    else
      if x1 < 0 ∨ ln (c0 + 4) ≤ x1.toNatClampNeg then none else (
      some (M.1 (c0 + 4) x1.toNatClampNeg))
set_option maxRecDepth 100000 in
set_option maxHeartbeats 4000000 in
theorem c_X5_sign {l : Launch} {G : Gv} {fu : Nat} {M : Mm} {c0 : Nat} {x1 : Int32} (hk0 : kd c0 = 13) {r : Int32} (hF : F_X5_sign fu M c0 x1 = some r) : Met l yX5_sign (.code yX5_sign cX5_sign 2 (some .int) :: zU) rm_X5_sign (va_Pc [.ref (ad G c0), .int x1] (Wd G M)) (QI G r M) 0 0 (zA G) := by
  refine zMet (by decide) rfl (Nat.le_of_ble_eq_true rfl) ?_
  intro p e s m below meth c hC hw ls hl
  have hl : lv_has ls 2 [(0, .ref (ad G c0)), (1, .int x1)] := hl
  unfold F_X5_sign at hF
  refine lv_iload_n hC.1 hC.2.1 dX5_sign_0 rfl (lv_at hl 1 rfl) ?_
  refine lv_if_lt (tgt := 22) hC.1 hC.2.1 dX5_sign_1 (by decide) (fun b1 => ?_) (fun b1 => ?_)
  · have hF := ifP hF b1
    refine lv_iconst (v := (0 : Int32)) hC.1 hC.2.1 dX5_sign_22 (by decide) ?_
    exact r_iretP hC hw hF dX5_sign_23
  · have hF := ifN hF b1
    refine lv_iload_n hC.1 hC.2.1 dX5_sign_4 rfl (lv_at hl 1 rfl) ?_
    refine lv_aload_n hC.1 hC.2.1 dX5_sign_5 rfl (lv_at hl 0 rfl) ?_
    refine g5_signs hC hw hk0 q1_191 dX5_sign_6 ?_
    refine r_alenB hC.1 hC.2.1 hw (kdTc hk0) dX5_sign_9 ?_
    refine lv_icmp_ge (tgt := 22) hC.1 hC.2.1 dX5_sign_10 (by decide) (fun b2 => ?_) (fun b2 => ?_)
    · have hF := ifP hF b2
      refine lv_iconst (v := (0 : Int32)) hC.1 hC.2.1 dX5_sign_22 (by decide) ?_
      exact r_iretP hC hw hF dX5_sign_23
    · have hF := ifN hF b2
      refine lv_aload_n hC.1 hC.2.1 dX5_sign_13 rfl (lv_at hl 0 rfl) ?_
      refine g5_signs hC hw hk0 q1_191 dX5_sign_14 ?_
      refine lv_iload_n hC.1 hC.2.1 dX5_sign_17 rfl (lv_at hl 1 rfl) ?_
      obtain ⟨n3, hF⟩ := ifO hF
      refine r_bald hC.1 hC.2.1 hw (kdTc hk0) n3 dX5_sign_18 ?_
      refine lv_goto (tgt := 23) hC.1 hC.2.1 dX5_sign_19 (by decide) ?_
      exact r_iretP hC hw hF dX5_sign_23
abbrev rm_X3_takesSun : Room := { frames := 0, cells := 0, slots := 0, locals := 0 }
theorem yv_X3_takesSun : YV yX3_takesSun cX3_takesSun 2 (some .boolean) 1 RX3 := ⟨⟨q2_109, qs_5, q1_3, q2_110⟩, by decide +kernel⟩
theorem dX3_takesSun_0 : decode cX3_takesSun 0 = .ok (.iload_n 1, 1) := by decide +kernel
theorem dX3_takesSun_1 : decode cX3_takesSun 1 = .ok (.bipush 122, 2) := by decide +kernel
theorem dX3_takesSun_3 : decode cX3_takesSun 3 = .ok (.if_icmp .eq 5, 3) := by decide +kernel
theorem dX3_takesSun_6 : decode cX3_takesSun 6 = .ok (.iconst 0, 1) := by decide +kernel
theorem dX3_takesSun_7 : decode cX3_takesSun 7 = .ok (.ireturn, 1) := by decide +kernel
theorem dX3_takesSun_8 : decode cX3_takesSun 8 = .ok (.aload_n 0, 1) := by decide +kernel
theorem dX3_takesSun_9 : decode cX3_takesSun 9 = .ok (.iconst 1, 1) := by decide +kernel
theorem dX3_takesSun_10 : decode cX3_takesSun 10 = .ok (.putfield 27, 3) := by decide +kernel
theorem dX3_takesSun_13 : decode cX3_takesSun 13 = .ok (.iconst 1, 1) := by decide +kernel
theorem dX3_takesSun_14 : decode cX3_takesSun 14 = .ok (.ireturn, 1) := by decide +kernel
def F_X3_takesSun (fu : Nat) (M : Mm) (x1 : Int32) : Option (Int32 × Mm) :=
  if x1 = (122 : Int32) then
    lt1 (pI M 68 0 (1 : Int32)) (fun M2 =>
    some ((1 : Int32), M2))
  else
    some ((0 : Int32), M)
set_option maxRecDepth 100000 in
set_option maxHeartbeats 4000000 in
theorem c_X3_takesSun {l : Launch} {G : Gv} {fu : Nat} {M : Mm} {x1 : Int32} {r : Int32} {M' : Mm} (hF : F_X3_takesSun fu M x1 = some (r, M')) : Met l yX3_takesSun (.code yX3_takesSun cX3_takesSun 2 (some .boolean) :: zU) rm_X3_takesSun (va_Pc [.ref (ad G 68), .int x1] (Wd G M)) (QI G r M') 0 0 (zA G) := by
  refine zMet (by decide) rfl (Nat.le_of_ble_eq_true rfl) ?_
  intro p e s m below meth c hC hw ls hl
  have hl : lv_has ls 2 [(0, .ref (ad G 68)), (1, .int x1)] := hl
  unfold F_X3_takesSun at hF
  refine lv_iload_n hC.1 hC.2.1 dX3_takesSun_0 rfl (lv_at hl 1 rfl) ?_
  refine lv_bipush (v := (122 : Int32)) hC.1 hC.2.1 dX3_takesSun_1 (by decide) ?_
  refine lv_icmp_eq (tgt := 8) hC.1 hC.2.1 dX3_takesSun_3 (by decide) (fun b1 => ?_) (fun b1 => ?_)
  · have hF := ifP hF b1
    refine lv_aload_n hC.1 hC.2.1 dX3_takesSun_8 rfl (lv_at hl 0 rfl) ?_
    refine lv_iconst (v := (1 : Int32)) hC.1 hC.2.1 dX3_takesSun_9 (by decide) ?_
    refine u3_stage hC hw q1_91 dX3_takesSun_10 (fun H locs hw => ?_)
    obtain ⟨M2, hw, hF⟩ := lt1W hF hw
    refine lv_iconst (v := (1 : Int32)) hC.1 hC.2.1 dX3_takesSun_13 (by decide) ?_
    exact r_zretE hC hw (by decide) hF dX3_takesSun_14
  · have hF := ifN hF b1
    refine lv_iconst (v := (0 : Int32)) hC.1 hC.2.1 dX3_takesSun_6 (by decide) ?_
    exact r_zretE hC hw (by decide) hF dX3_takesSun_7
abbrev rm_X3_kindBy : Room := { frames := 0, cells := 0, slots := 0, locals := 0 }
theorem ys_X3_kindBy : YS yX3_kindBy cX3_kindBy 1 (some .int) 1 := ⟨⟨q2_116, q1_3, q2_117⟩, by decide +kernel⟩
theorem dX3_kindBy_0 : decode cX3_kindBy 0 = .ok (.iload_n 0, 1) := by decide +kernel
theorem dX3_kindBy_1 : decode cX3_kindBy 1 = .ok (.tableswitch 91 104 119 #[81, 89, 91, 91, 87, 79, 91, 91, 91, 91, 91, 85, 91, 91, 91, 83], 79) := by decide +kernel
theorem dX3_kindBy_80 : decode cX3_kindBy 80 = .ok (.iconst 0, 1) := by decide +kernel
theorem dX3_kindBy_81 : decode cX3_kindBy 81 = .ok (.ireturn, 1) := by decide +kernel
theorem dX3_kindBy_82 : decode cX3_kindBy 82 = .ok (.iconst 1, 1) := by decide +kernel
theorem dX3_kindBy_83 : decode cX3_kindBy 83 = .ok (.ireturn, 1) := by decide +kernel
theorem dX3_kindBy_84 : decode cX3_kindBy 84 = .ok (.iconst 2, 1) := by decide +kernel
theorem dX3_kindBy_85 : decode cX3_kindBy 85 = .ok (.ireturn, 1) := by decide +kernel
theorem dX3_kindBy_86 : decode cX3_kindBy 86 = .ok (.iconst 3, 1) := by decide +kernel
theorem dX3_kindBy_87 : decode cX3_kindBy 87 = .ok (.ireturn, 1) := by decide +kernel
theorem dX3_kindBy_88 : decode cX3_kindBy 88 = .ok (.iconst 4, 1) := by decide +kernel
theorem dX3_kindBy_89 : decode cX3_kindBy 89 = .ok (.ireturn, 1) := by decide +kernel
theorem dX3_kindBy_90 : decode cX3_kindBy 90 = .ok (.iconst 5, 1) := by decide +kernel
theorem dX3_kindBy_91 : decode cX3_kindBy 91 = .ok (.ireturn, 1) := by decide +kernel
theorem dX3_kindBy_92 : decode cX3_kindBy 92 = .ok (.bipush (-9), 2) := by decide +kernel
theorem dX3_kindBy_94 : decode cX3_kindBy 94 = .ok (.ireturn, 1) := by decide +kernel
def F_X3_kindBy (fu : Nat) (M : Mm) (x0 : Int32) : Option Int32 :=
  if x0 = (104 : Int32) then
    some (1 : Int32)
  else
  if x0 = (105 : Int32) then
    some (5 : Int32)
  else
  if x0 = (108 : Int32) then
    some (4 : Int32)
  else
  if x0 = (109 : Int32) then
    some (0 : Int32)
  else
  if x0 = (115 : Int32) then
    some (3 : Int32)
  else
  if x0 = (119 : Int32) then
    some (2 : Int32)
  else
  some (-9 : Int32)
set_option maxRecDepth 100000 in
set_option maxHeartbeats 4000000 in
theorem c_X3_kindBy {l : Launch} {G : Gv} {fu : Nat} {M : Mm} {x0 : Int32} {r : Int32} (hF : F_X3_kindBy fu M x0 = some r) : Met l yX3_kindBy (.code yX3_kindBy cX3_kindBy 1 (some .int) :: zU) rm_X3_kindBy (va_Pc [.int x0] (Wd G M)) (QI G r M) 0 0 (zA G) := by
  refine zMet (by decide) rfl (Nat.le_of_ble_eq_true rfl) ?_
  intro p e s m below meth c hC hw ls hl
  have hl : lv_has ls 1 [(0, .int x0)] := hl
  unfold F_X3_kindBy at hF
  refine lv_iload_n hC.1 hC.2.1 dX3_kindBy_0 rfl (lv_at hl 0 rfl) ?_
  rcases Classical.em (x0 = (104 : Int32)) with w1 | w1
  · have hF := ifP hF w1
    refine r_swI (v := (104 : Int32)) (off := 81) (tgt := 82) hC.1 hC.2.1 w1 dX3_kindBy_1 (by decide) (by decide) rfl (by decide) ?_
    refine lv_iconst (v := (1 : Int32)) hC.1 hC.2.1 dX3_kindBy_82 (by decide) ?_
    exact r_iretP hC hw hF dX3_kindBy_83
  have hF := ifN hF w1
  rcases Classical.em (x0 = (105 : Int32)) with w2 | w2
  · have hF := ifP hF w2
    refine r_swI (v := (105 : Int32)) (off := 89) (tgt := 90) hC.1 hC.2.1 w2 dX3_kindBy_1 (by decide) (by decide) rfl (by decide) ?_
    refine lv_iconst (v := (5 : Int32)) hC.1 hC.2.1 dX3_kindBy_90 (by decide) ?_
    exact r_iretP hC hw hF dX3_kindBy_91
  have hF := ifN hF w2
  rcases Classical.em (x0 = (108 : Int32)) with w3 | w3
  · have hF := ifP hF w3
    refine r_swI (v := (108 : Int32)) (off := 87) (tgt := 88) hC.1 hC.2.1 w3 dX3_kindBy_1 (by decide) (by decide) rfl (by decide) ?_
    refine lv_iconst (v := (4 : Int32)) hC.1 hC.2.1 dX3_kindBy_88 (by decide) ?_
    exact r_iretP hC hw hF dX3_kindBy_89
  have hF := ifN hF w3
  rcases Classical.em (x0 = (109 : Int32)) with w4 | w4
  · have hF := ifP hF w4
    refine r_swI (v := (109 : Int32)) (off := 79) (tgt := 80) hC.1 hC.2.1 w4 dX3_kindBy_1 (by decide) (by decide) rfl (by decide) ?_
    refine lv_iconst (v := (0 : Int32)) hC.1 hC.2.1 dX3_kindBy_80 (by decide) ?_
    exact r_iretP hC hw hF dX3_kindBy_81
  have hF := ifN hF w4
  rcases Classical.em (x0 = (115 : Int32)) with w5 | w5
  · have hF := ifP hF w5
    refine r_swI (v := (115 : Int32)) (off := 85) (tgt := 86) hC.1 hC.2.1 w5 dX3_kindBy_1 (by decide) (by decide) rfl (by decide) ?_
    refine lv_iconst (v := (3 : Int32)) hC.1 hC.2.1 dX3_kindBy_86 (by decide) ?_
    exact r_iretP hC hw hF dX3_kindBy_87
  have hF := ifN hF w5
  rcases Classical.em (x0 = (119 : Int32)) with w6 | w6
  · have hF := ifP hF w6
    refine r_swI (v := (119 : Int32)) (off := 83) (tgt := 84) hC.1 hC.2.1 w6 dX3_kindBy_1 (by decide) (by decide) rfl (by decide) ?_
    refine lv_iconst (v := (2 : Int32)) hC.1 hC.2.1 dX3_kindBy_84 (by decide) ?_
    exact r_iretP hC hw hF dX3_kindBy_85
  have hF := ifN hF w6
  refine r_swD (tgt := 92) (vs := [(104 : Int32), (105 : Int32), (108 : Int32), (109 : Int32), (115 : Int32), (119 : Int32)]) hC.1 hC.2.1 (List.forall_mem_cons.mpr ⟨w1, List.forall_mem_cons.mpr ⟨w2, List.forall_mem_cons.mpr ⟨w3, List.forall_mem_cons.mpr ⟨w4, List.forall_mem_cons.mpr ⟨w5, List.forall_mem_cons.mpr ⟨w6, fun v hv => absurd hv List.not_mem_nil⟩⟩⟩⟩⟩⟩) dX3_kindBy_1 (by decide) rfl (by decide) ?_
  refine lv_bipush (v := (-9 : Int32)) hC.1 hC.2.1 dX3_kindBy_92 (by decide) ?_
  exact r_iretP hC hw hF dX3_kindBy_94
abbrev rm_X3_takesLetter : Room := { frames := 1, cells := 0, slots := 0, locals := 22 }
theorem yv_X3_takesLetter : YV yX3_takesLetter cX3_takesLetter 3 (some .boolean) 1 RX3 := ⟨⟨q2_113, qs_6, q1_3, q2_114⟩, by decide +kernel⟩
theorem dX3_takesLetter_0 : decode cX3_takesLetter 0 = .ok (.iload_n 1, 1) := by decide +kernel
theorem dX3_takesLetter_1 : decode cX3_takesLetter 1 = .ok (.invokestatic 56, 3) := by decide +kernel
theorem dX3_takesLetter_4 : decode cX3_takesLetter 4 = .ok (.istore_n 2, 1) := by decide +kernel
theorem dX3_takesLetter_5 : decode cX3_takesLetter 5 = .ok (.iload_n 2, 1) := by decide +kernel
theorem dX3_takesLetter_6 : decode cX3_takesLetter 6 = .ok (.bipush (-9), 2) := by decide +kernel
theorem dX3_takesLetter_8 : decode cX3_takesLetter 8 = .ok (.if_icmp .eq 12, 3) := by decide +kernel
theorem dX3_takesLetter_11 : decode cX3_takesLetter 11 = .ok (.aload_n 0, 1) := by decide +kernel
theorem dX3_takesLetter_12 : decode cX3_takesLetter 12 = .ok (.getfield 31, 3) := by decide +kernel
theorem dX3_takesLetter_15 : decode cX3_takesLetter 15 = .ok (.bipush 6, 2) := by decide +kernel
theorem dX3_takesLetter_17 : decode cX3_takesLetter 17 = .ok (.if_icmp .lt 5, 3) := by decide +kernel
theorem dX3_takesLetter_20 : decode cX3_takesLetter 20 = .ok (.iconst 0, 1) := by decide +kernel
theorem dX3_takesLetter_21 : decode cX3_takesLetter 21 = .ok (.ireturn, 1) := by decide +kernel
theorem dX3_takesLetter_22 : decode cX3_takesLetter 22 = .ok (.aload_n 0, 1) := by decide +kernel
theorem dX3_takesLetter_23 : decode cX3_takesLetter 23 = .ok (.getfield 15, 3) := by decide +kernel
theorem dX3_takesLetter_26 : decode cX3_takesLetter 26 = .ok (.aload_n 0, 1) := by decide +kernel
theorem dX3_takesLetter_27 : decode cX3_takesLetter 27 = .ok (.getfield 31, 3) := by decide +kernel
theorem dX3_takesLetter_30 : decode cX3_takesLetter 30 = .ok (.iload_n 2, 1) := by decide +kernel
theorem dX3_takesLetter_31 : decode cX3_takesLetter 31 = .ok (.invokestatic 59, 3) := by decide +kernel
theorem dX3_takesLetter_34 : decode cX3_takesLetter 34 = .ok (.aload_n 0, 1) := by decide +kernel
theorem dX3_takesLetter_35 : decode cX3_takesLetter 35 = .ok (.bipush 11, 2) := by decide +kernel
theorem dX3_takesLetter_37 : decode cX3_takesLetter 37 = .ok (.putfield 27, 3) := by decide +kernel
theorem dX3_takesLetter_40 : decode cX3_takesLetter 40 = .ok (.iconst 1, 1) := by decide +kernel
theorem dX3_takesLetter_41 : decode cX3_takesLetter 41 = .ok (.ireturn, 1) := by decide +kernel
def F_X3_takesLetter (fu : Nat) (M : Mm) (x1 : Int32) : Option (Int32 × Mm) :=
  ob1 (F_X3_kindBy fu M x1) (fun r2 =>
  if r2 = (-9 : Int32) then
    some ((0 : Int32), M)
  else
    if (M.1 68 1) < (6 : Int32) then
      ob1 (F_X6_write fu M 70 (M.1 68 1) r2) (fun M6 =>
      lt1 (pI M6 68 0 (11 : Int32)) (fun M7 =>
      some ((1 : Int32), M7)))
    else
      some ((0 : Int32), M))
set_option maxRecDepth 100000 in
set_option maxHeartbeats 4000000 in
theorem c_X3_takesLetter {l : Launch} {G : Gv} {fu : Nat} {M : Mm} {x1 : Int32} {r : Int32} {M' : Mm} (hF : F_X3_takesLetter fu M x1 = some (r, M')) : Met l yX3_takesLetter (.code yX3_takesLetter cX3_takesLetter 3 (some .boolean) :: zU) rm_X3_takesLetter (va_Pc [.ref (ad G 68), .int x1] (Wd G M)) (QI G r M') 0 0 (zA G) := by
  refine zMet (by decide) rfl (Nat.le_of_ble_eq_true rfl) ?_
  intro p e s m below meth c hC hw ls hl
  have hl : lv_has ls 3 [(0, .ref (ad G 68)), (1, .int x1)] := hl
  unfold F_X3_takesLetter at hF
  refine lv_iload_n hC.1 hC.2.1 dX3_takesLetter_0 rfl (lv_at hl 1 rfl) ?_
  obtain ⟨r2, h1, hF⟩ := ob1S hF
  refine k_Si (As := [.int x1]) (rest := []) hC hw (c_X3_kindBy (M := M) h1) ys_X3_kindBy q2_115 ⟨rfl, rfl⟩ ⟨Nat.le_of_ble_eq_true rfl, Nat.le_of_ble_eq_true rfl⟩ ⟨Nat.zero_le _, Nat.zero_le _⟩ rfl rfl (Nat.le_of_ble_eq_true rfl) hl dX3_takesLetter_1 (fun H locs hw => ?_)
  refine lv_istore_n (lv' := [(2, .int r2), (0, .ref (ad G 68)), (1, .int x1)]) hC.1 hC.2.1 dX3_takesLetter_4 rfl hl (by decide) rfl (fun ls hl => ?_)
  refine lv_iload_n hC.1 hC.2.1 dX3_takesLetter_5 rfl (lv_at hl 0 rfl) ?_
  refine lv_bipush (v := (-9 : Int32)) hC.1 hC.2.1 dX3_takesLetter_6 (by decide) ?_
  refine lv_icmp_eq (tgt := 20) hC.1 hC.2.1 dX3_takesLetter_8 (by decide) (fun b3 => ?_) (fun b3 => ?_)
  · have hF := ifP hF b3
    refine lv_iconst (v := (0 : Int32)) hC.1 hC.2.1 dX3_takesLetter_20 (by decide) ?_
    exact r_zretE hC hw (by decide) hF dX3_takesLetter_21
  · have hF := ifN hF b3
    refine lv_aload_n hC.1 hC.2.1 dX3_takesLetter_11 rfl (lv_at hl 1 rfl) ?_
    refine g3_men hC hw q1_93 dX3_takesLetter_12 ?_
    refine lv_bipush (v := (6 : Int32)) hC.1 hC.2.1 dX3_takesLetter_15 (by decide) ?_
    refine lv_icmp_lt (tgt := 22) hC.1 hC.2.1 dX3_takesLetter_17 (by decide) (fun b4 => ?_) (fun b4 => ?_)
    · have hF := ifP hF b4
      refine lv_aload_n hC.1 hC.2.1 dX3_takesLetter_22 rfl (lv_at hl 1 rfl) ?_
      refine g3_kindOf hC hw q1_98 dX3_takesLetter_23 ?_
      refine lv_aload_n hC.1 hC.2.1 dX3_takesLetter_26 rfl (lv_at hl 1 rfl) ?_
      refine g3_men hC hw q1_93 dX3_takesLetter_27 ?_
      refine lv_iload_n hC.1 hC.2.1 dX3_takesLetter_30 rfl (lv_at hl 0 rfl) ?_
      obtain ⟨M6, h5, hF⟩ := ob1S hF
      refine k_Nv (As := [.ref (ad G 70), .int (M.1 68 1), .int r2]) (rest := []) hC hw (c_X6_write (M := M) (rfl : kd 70 = 1) h5) ys_X6_write (k := 7) rfl ⟨rfl, rfl⟩ ⟨Nat.le_of_ble_eq_true rfl, Nat.le_of_ble_eq_true rfl⟩ ⟨Nat.zero_le _, Nat.zero_le _⟩ rfl rfl (Nat.le_of_ble_eq_true rfl) hl dX3_takesLetter_31 (fun H locs hw => ?_)
      refine lv_aload_n hC.1 hC.2.1 dX3_takesLetter_34 rfl (lv_at hl 1 rfl) ?_
      refine lv_bipush (v := (11 : Int32)) hC.1 hC.2.1 dX3_takesLetter_35 (by decide) ?_
      refine u3_stage hC hw q1_91 dX3_takesLetter_37 (fun H locs hw => ?_)
      obtain ⟨M7, hw, hF⟩ := lt1W hF hw
      refine lv_iconst (v := (1 : Int32)) hC.1 hC.2.1 dX3_takesLetter_40 (by decide) ?_
      exact r_zretE hC hw (by decide) hF dX3_takesLetter_41
    · have hF := ifN hF b4
      refine lv_iconst (v := (0 : Int32)) hC.1 hC.2.1 dX3_takesLetter_20 (by decide) ?_
      exact r_zretE hC hw (by decide) hF dX3_takesLetter_21
abbrev rm_X3_takesFigure : Room := { frames := 1, cells := 0, slots := 0, locals := 22 }
theorem yv_X3_takesFigure : YV yX3_takesFigure cX3_takesFigure 3 (some .boolean) 1 RX3 := ⟨⟨q2_121, qs_7, q1_3, q2_122⟩, by decide +kernel⟩
theorem dX3_takesFigure_0 : decode cX3_takesFigure 0 = .ok (.iconst 1, 1) := by decide +kernel
theorem dX3_takesFigure_1 : decode cX3_takesFigure 1 = .ok (.istore_n 2, 1) := by decide +kernel
theorem dX3_takesFigure_2 : decode cX3_takesFigure 2 = .ok (.aload_n 0, 1) := by decide +kernel
theorem dX3_takesFigure_3 : decode cX3_takesFigure 3 = .ok (.getfield 27, 3) := by decide +kernel
theorem dX3_takesFigure_6 : decode cX3_takesFigure 6 = .ok (.tableswitch 172 9 14 #[38, 172, 56, 74, 121, 136], 38) := by decide +kernel
theorem dX3_takesFigure_44 : decode cX3_takesFigure 44 = .ok (.iload_n 1, 1) := by decide +kernel
theorem dX3_takesFigure_45 : decode cX3_takesFigure 45 = .ok (.ifCond .le 7, 3) := by decide +kernel
theorem dX3_takesFigure_48 : decode cX3_takesFigure 48 = .ok (.iconst 1, 1) := by decide +kernel
theorem dX3_takesFigure_49 : decode cX3_takesFigure 49 = .ok (.goto 4, 3) := by decide +kernel
theorem dX3_takesFigure_52 : decode cX3_takesFigure 52 = .ok (.iconst 0, 1) := by decide +kernel
theorem dX3_takesFigure_53 : decode cX3_takesFigure 53 = .ok (.istore_n 2, 1) := by decide +kernel
theorem dX3_takesFigure_54 : decode cX3_takesFigure 54 = .ok (.aload_n 0, 1) := by decide +kernel
theorem dX3_takesFigure_55 : decode cX3_takesFigure 55 = .ok (.iload_n 1, 1) := by decide +kernel
theorem dX3_takesFigure_56 : decode cX3_takesFigure 56 = .ok (.putfield 63, 3) := by decide +kernel
theorem dX3_takesFigure_59 : decode cX3_takesFigure 59 = .ok (.goto 133, 3) := by decide +kernel
theorem dX3_takesFigure_62 : decode cX3_takesFigure 62 = .ok (.aload_n 0, 1) := by decide +kernel
theorem dX3_takesFigure_63 : decode cX3_takesFigure 63 = .ok (.getfield 18, 3) := by decide +kernel
theorem dX3_takesFigure_66 : decode cX3_takesFigure 66 = .ok (.aload_n 0, 1) := by decide +kernel
theorem dX3_takesFigure_67 : decode cX3_takesFigure 67 = .ok (.getfield 31, 3) := by decide +kernel
theorem dX3_takesFigure_70 : decode cX3_takesFigure 70 = .ok (.bipush 10, 2) := by decide +kernel
theorem dX3_takesFigure_72 : decode cX3_takesFigure 72 = .ok (.iload_n 1, 1) := by decide +kernel
theorem dX3_takesFigure_73 : decode cX3_takesFigure 73 = .ok (.imul, 1) := by decide +kernel
theorem dX3_takesFigure_74 : decode cX3_takesFigure 74 = .ok (.invokestatic 59, 3) := by decide +kernel
theorem dX3_takesFigure_77 : decode cX3_takesFigure 77 = .ok (.goto 115, 3) := by decide +kernel
theorem dX3_takesFigure_80 : decode cX3_takesFigure 80 = .ok (.aload_n 0, 1) := by decide +kernel
theorem dX3_takesFigure_81 : decode cX3_takesFigure 81 = .ok (.getfield 18, 3) := by decide +kernel
theorem dX3_takesFigure_84 : decode cX3_takesFigure 84 = .ok (.aload_n 0, 1) := by decide +kernel
theorem dX3_takesFigure_85 : decode cX3_takesFigure 85 = .ok (.getfield 31, 3) := by decide +kernel
theorem dX3_takesFigure_88 : decode cX3_takesFigure 88 = .ok (.aload_n 0, 1) := by decide +kernel
theorem dX3_takesFigure_89 : decode cX3_takesFigure 89 = .ok (.getfield 18, 3) := by decide +kernel
theorem dX3_takesFigure_92 : decode cX3_takesFigure 92 = .ok (.aload_n 0, 1) := by decide +kernel
theorem dX3_takesFigure_93 : decode cX3_takesFigure 93 = .ok (.getfield 31, 3) := by decide +kernel
theorem dX3_takesFigure_96 : decode cX3_takesFigure 96 = .ok (.invokestatic 66, 3) := by decide +kernel
theorem dX3_takesFigure_99 : decode cX3_takesFigure 99 = .ok (.iload_n 1, 1) := by decide +kernel
theorem dX3_takesFigure_100 : decode cX3_takesFigure 100 = .ok (.iadd, 1) := by decide +kernel
theorem dX3_takesFigure_101 : decode cX3_takesFigure 101 = .ok (.invokestatic 59, 3) := by decide +kernel
theorem dX3_takesFigure_104 : decode cX3_takesFigure 104 = .ok (.aload_n 0, 1) := by decide +kernel
theorem dX3_takesFigure_105 : decode cX3_takesFigure 105 = .ok (.getfield 18, 3) := by decide +kernel
theorem dX3_takesFigure_108 : decode cX3_takesFigure 108 = .ok (.aload_n 0, 1) := by decide +kernel
theorem dX3_takesFigure_109 : decode cX3_takesFigure 109 = .ok (.getfield 31, 3) := by decide +kernel
theorem dX3_takesFigure_112 : decode cX3_takesFigure 112 = .ok (.invokestatic 66, 3) := by decide +kernel
theorem dX3_takesFigure_115 : decode cX3_takesFigure 115 = .ok (.ifCond .le 7, 3) := by decide +kernel
theorem dX3_takesFigure_118 : decode cX3_takesFigure 118 = .ok (.iconst 1, 1) := by decide +kernel
theorem dX3_takesFigure_119 : decode cX3_takesFigure 119 = .ok (.goto 4, 3) := by decide +kernel
theorem dX3_takesFigure_122 : decode cX3_takesFigure 122 = .ok (.iconst 0, 1) := by decide +kernel
theorem dX3_takesFigure_123 : decode cX3_takesFigure 123 = .ok (.istore_n 2, 1) := by decide +kernel
theorem dX3_takesFigure_124 : decode cX3_takesFigure 124 = .ok (.goto 68, 3) := by decide +kernel
theorem dX3_takesFigure_127 : decode cX3_takesFigure 127 = .ok (.aload_n 0, 1) := by decide +kernel
theorem dX3_takesFigure_128 : decode cX3_takesFigure 128 = .ok (.getfield 21, 3) := by decide +kernel
theorem dX3_takesFigure_131 : decode cX3_takesFigure 131 = .ok (.aload_n 0, 1) := by decide +kernel
theorem dX3_takesFigure_132 : decode cX3_takesFigure 132 = .ok (.getfield 31, 3) := by decide +kernel
theorem dX3_takesFigure_135 : decode cX3_takesFigure 135 = .ok (.iload_n 1, 1) := by decide +kernel
theorem dX3_takesFigure_136 : decode cX3_takesFigure 136 = .ok (.invokestatic 59, 3) := by decide +kernel
theorem dX3_takesFigure_139 : decode cX3_takesFigure 139 = .ok (.goto 53, 3) := by decide +kernel
theorem dX3_takesFigure_142 : decode cX3_takesFigure 142 = .ok (.iload_n 1, 1) := by decide +kernel
theorem dX3_takesFigure_143 : decode cX3_takesFigure 143 = .ok (.iconst 1, 1) := by decide +kernel
theorem dX3_takesFigure_144 : decode cX3_takesFigure 144 = .ok (.if_icmp .gt 7, 3) := by decide +kernel
theorem dX3_takesFigure_147 : decode cX3_takesFigure 147 = .ok (.iconst 1, 1) := by decide +kernel
theorem dX3_takesFigure_148 : decode cX3_takesFigure 148 = .ok (.goto 4, 3) := by decide +kernel
theorem dX3_takesFigure_151 : decode cX3_takesFigure 151 = .ok (.iconst 0, 1) := by decide +kernel
theorem dX3_takesFigure_152 : decode cX3_takesFigure 152 = .ok (.istore_n 2, 1) := by decide +kernel
theorem dX3_takesFigure_153 : decode cX3_takesFigure 153 = .ok (.aload_n 0, 1) := by decide +kernel
theorem dX3_takesFigure_154 : decode cX3_takesFigure 154 = .ok (.getfield 24, 3) := by decide +kernel
theorem dX3_takesFigure_157 : decode cX3_takesFigure 157 = .ok (.aload_n 0, 1) := by decide +kernel
theorem dX3_takesFigure_158 : decode cX3_takesFigure 158 = .ok (.getfield 31, 3) := by decide +kernel
theorem dX3_takesFigure_161 : decode cX3_takesFigure 161 = .ok (.iload_n 1, 1) := by decide +kernel
theorem dX3_takesFigure_162 : decode cX3_takesFigure 162 = .ok (.invokestatic 59, 3) := by decide +kernel
theorem dX3_takesFigure_165 : decode cX3_takesFigure 165 = .ok (.aload_n 0, 1) := by decide +kernel
theorem dX3_takesFigure_166 : decode cX3_takesFigure 166 = .ok (.dup, 1) := by decide +kernel
theorem dX3_takesFigure_167 : decode cX3_takesFigure 167 = .ok (.getfield 31, 3) := by decide +kernel
theorem dX3_takesFigure_170 : decode cX3_takesFigure 170 = .ok (.iconst 1, 1) := by decide +kernel
theorem dX3_takesFigure_171 : decode cX3_takesFigure 171 = .ok (.iadd, 1) := by decide +kernel
theorem dX3_takesFigure_172 : decode cX3_takesFigure 172 = .ok (.putfield 31, 3) := by decide +kernel
theorem dX3_takesFigure_175 : decode cX3_takesFigure 175 = .ok (.goto 17, 3) := by decide +kernel
theorem dX3_takesFigure_178 : decode cX3_takesFigure 178 = .ok (.aload_n 0, 1) := by decide +kernel
theorem dX3_takesFigure_179 : decode cX3_takesFigure 179 = .ok (.getfield 9, 3) := by decide +kernel
theorem dX3_takesFigure_182 : decode cX3_takesFigure 182 = .ok (.aload_n 0, 1) := by decide +kernel
theorem dX3_takesFigure_183 : decode cX3_takesFigure 183 = .ok (.getfield 27, 3) := by decide +kernel
theorem dX3_takesFigure_186 : decode cX3_takesFigure 186 = .ok (.iconst 1, 1) := by decide +kernel
theorem dX3_takesFigure_187 : decode cX3_takesFigure 187 = .ok (.isub, 1) := by decide +kernel
theorem dX3_takesFigure_188 : decode cX3_takesFigure 188 = .ok (.iload_n 1, 1) := by decide +kernel
theorem dX3_takesFigure_189 : decode cX3_takesFigure 189 = .ok (.invokestatic 59, 3) := by decide +kernel
theorem dX3_takesFigure_192 : decode cX3_takesFigure 192 = .ok (.aload_n 0, 1) := by decide +kernel
theorem dX3_takesFigure_193 : decode cX3_takesFigure 193 = .ok (.aload_n 0, 1) := by decide +kernel
theorem dX3_takesFigure_194 : decode cX3_takesFigure 194 = .ok (.getfield 27, 3) := by decide +kernel
theorem dX3_takesFigure_197 : decode cX3_takesFigure 197 = .ok (.bipush 14, 2) := by decide +kernel
theorem dX3_takesFigure_199 : decode cX3_takesFigure 199 = .ok (.if_icmp .ne 8, 3) := by decide +kernel
theorem dX3_takesFigure_202 : decode cX3_takesFigure 202 = .ok (.bipush 10, 2) := by decide +kernel
theorem dX3_takesFigure_204 : decode cX3_takesFigure 204 = .ok (.goto 9, 3) := by decide +kernel
theorem dX3_takesFigure_207 : decode cX3_takesFigure 207 = .ok (.aload_n 0, 1) := by decide +kernel
theorem dX3_takesFigure_208 : decode cX3_takesFigure 208 = .ok (.getfield 27, 3) := by decide +kernel
theorem dX3_takesFigure_211 : decode cX3_takesFigure 211 = .ok (.iconst 1, 1) := by decide +kernel
theorem dX3_takesFigure_212 : decode cX3_takesFigure 212 = .ok (.iadd, 1) := by decide +kernel
theorem dX3_takesFigure_213 : decode cX3_takesFigure 213 = .ok (.putfield 27, 3) := by decide +kernel
theorem dX3_takesFigure_216 : decode cX3_takesFigure 216 = .ok (.iload_n 2, 1) := by decide +kernel
theorem dX3_takesFigure_217 : decode cX3_takesFigure 217 = .ok (.ireturn, 1) := by decide +kernel
def F_X3_takesFigure_192 (fu : Nat) (M : Mm) (x2 : Int32) : Option (Int32 × Mm) :=
  if (M.1 68 0) = (14 : Int32) then
    lt1 (pI M 68 0 (10 : Int32)) (fun M4 =>
    if ¬ (x2 = 0 ∨ x2 = 1) then none else (
    some (x2, M4)))
  else
    lt1 (pI M 68 0 ((M.1 68 0) + (1 : Int32))) (fun M2 =>
    if ¬ (x2 = 0 ∨ x2 = 1) then none else (
    some (x2, M2)))
set_option maxRecDepth 100000 in
set_option maxHeartbeats 4000000 in
theorem w_X3_takesFigure_192 {p : Program} {l : Launch} {e : Env} {s : State} {m : MethodId} {args : Array Value} {below : List Frame} {meth : Method} {c : Code} {G : Gv} (hC : Cx p s m args meth c cX3_takesFigure 3 (some .boolean) RX3) {fu : Nat} {r : Int32} {M' : Mm} {x2 : Int32} {M : Mm} {H : Heap} {locs : List Loc} {ls : Array Slot} (hF : F_X3_takesFigure_192 fu M x2 = some (r, M')) (hw : St G s H locs M) (hl : lv_has ls 3 [(0, .ref (ad G 68)), (2, .int x2)]) : W p l e rm_X3_takesFigure s m args below meth c H locs 0 0 (MQ below (QI G r M') args s 0 0 (zA G)) (F0 m 192 ls []) := by
  unfold F_X3_takesFigure_192 at hF
  refine lv_aload_n hC.1 hC.2.1 dX3_takesFigure_192 rfl (lv_at hl 0 rfl) ?_
  refine lv_aload_n hC.1 hC.2.1 dX3_takesFigure_193 rfl (lv_at hl 0 rfl) ?_
  refine g3_stage hC hw q1_91 dX3_takesFigure_194 ?_
  refine lv_bipush (v := (14 : Int32)) hC.1 hC.2.1 dX3_takesFigure_197 (by decide) ?_
  refine lv_icmp_ne (tgt := 207) hC.1 hC.2.1 dX3_takesFigure_199 (by decide) (fun b1 => ?_) (fun b1 => ?_)
  · have hF := ifN hF b1
    refine lv_aload_n hC.1 hC.2.1 dX3_takesFigure_207 rfl (lv_at hl 0 rfl) ?_
    refine g3_stage hC hw q1_91 dX3_takesFigure_208 ?_
    refine lv_iconst (v := (1 : Int32)) hC.1 hC.2.1 dX3_takesFigure_211 (by decide) ?_
    refine lv_iadd hC.1 hC.2.1 dX3_takesFigure_212 ?_
    refine u3_stage hC hw q1_91 dX3_takesFigure_213 (fun H locs hw => ?_)
    obtain ⟨M2, hw, hF⟩ := lt1W hF hw
    refine lv_iload_n hC.1 hC.2.1 dX3_takesFigure_216 rfl (lv_at hl 1 rfl) ?_
    obtain ⟨z3, hF⟩ := ifO hF
    exact r_zretE hC hw (Decidable.not_not.mp z3) hF dX3_takesFigure_217
  · have hF := ifP hF b1
    refine lv_bipush (v := (10 : Int32)) hC.1 hC.2.1 dX3_takesFigure_202 (by decide) ?_
    refine lv_goto (tgt := 213) hC.1 hC.2.1 dX3_takesFigure_204 (by decide) ?_
    refine u3_stage hC hw q1_91 dX3_takesFigure_213 (fun H locs hw => ?_)
    obtain ⟨M4, hw, hF⟩ := lt1W hF hw
    refine lv_iload_n hC.1 hC.2.1 dX3_takesFigure_216 rfl (lv_at hl 1 rfl) ?_
    obtain ⟨z5, hF⟩ := ifO hF
    exact r_zretE hC hw (Decidable.not_not.mp z5) hF dX3_takesFigure_217
def F_X3_takesFigure_53 (fu : Nat) (M : Mm) (x1 : Int32) (t0 : Int32) : Option (Int32 × Mm) :=
  lt1 (pI M 68 2 x1) (fun M1 =>
  F_X3_takesFigure_192 fu M1 t0)
set_option maxRecDepth 100000 in
set_option maxHeartbeats 4000000 in
theorem w_X3_takesFigure_53 {p : Program} {l : Launch} {e : Env} {s : State} {m : MethodId} {args : Array Value} {below : List Frame} {meth : Method} {c : Code} {G : Gv} (hC : Cx p s m args meth c cX3_takesFigure 3 (some .boolean) RX3) {fu : Nat} {r : Int32} {M' : Mm} {x1 : Int32} {t0 : Int32} {M : Mm} {H : Heap} {locs : List Loc} {ls : Array Slot} (hF : F_X3_takesFigure_53 fu M x1 t0 = some (r, M')) (hw : St G s H locs M) (hl : lv_has ls 3 [(0, .ref (ad G 68)), (1, .int x1)]) : W p l e rm_X3_takesFigure s m args below meth c H locs 0 0 (MQ below (QI G r M') args s 0 0 (zA G)) (F0 m 53 ls [.int t0]) := by
  unfold F_X3_takesFigure_53 at hF
  refine lv_istore_n (lv' := [(2, .int t0), (0, .ref (ad G 68)), (1, .int x1)]) hC.1 hC.2.1 dX3_takesFigure_53 rfl hl (by decide) rfl (fun ls hl => ?_)
  refine lv_aload_n hC.1 hC.2.1 dX3_takesFigure_54 rfl (lv_at hl 1 rfl) ?_
  refine lv_iload_n hC.1 hC.2.1 dX3_takesFigure_55 rfl (lv_at hl 2 rfl) ?_
  refine u3_right hC hw q1_95 dX3_takesFigure_56 (fun H locs hw => ?_)
  obtain ⟨M1, hw, hF⟩ := lt1W hF hw
  refine lv_goto (tgt := 192) hC.1 hC.2.1 dX3_takesFigure_59 (by decide) ?_
  exact w_X3_takesFigure_192 hC hF hw (lv_sub hl [1, 0] rfl)
def F_X3_takesFigure_123 (fu : Nat) (M : Mm) (t0 : Int32) : Option (Int32 × Mm) :=
  F_X3_takesFigure_192 fu M t0
set_option maxRecDepth 100000 in
set_option maxHeartbeats 4000000 in
theorem w_X3_takesFigure_123 {p : Program} {l : Launch} {e : Env} {s : State} {m : MethodId} {args : Array Value} {below : List Frame} {meth : Method} {c : Code} {G : Gv} (hC : Cx p s m args meth c cX3_takesFigure 3 (some .boolean) RX3) {fu : Nat} {r : Int32} {M' : Mm} {t0 : Int32} {M : Mm} {H : Heap} {locs : List Loc} {ls : Array Slot} (hF : F_X3_takesFigure_123 fu M t0 = some (r, M')) (hw : St G s H locs M) (hl : lv_has ls 3 [(0, .ref (ad G 68))]) : W p l e rm_X3_takesFigure s m args below meth c H locs 0 0 (MQ below (QI G r M') args s 0 0 (zA G)) (F0 m 123 ls [.int t0]) := by
  unfold F_X3_takesFigure_123 at hF
  refine lv_istore_n (lv' := [(2, .int t0), (0, .ref (ad G 68))]) hC.1 hC.2.1 dX3_takesFigure_123 rfl hl (by decide) rfl (fun ls hl => ?_)
  refine lv_goto (tgt := 192) hC.1 hC.2.1 dX3_takesFigure_124 (by decide) ?_
  exact w_X3_takesFigure_192 hC hF hw (lv_sub hl [1, 0] rfl)
def F_X3_takesFigure_152 (fu : Nat) (M : Mm) (x1 : Int32) (t0 : Int32) : Option (Int32 × Mm) :=
  ob1 (F_X6_write fu M 73 (M.1 68 1) x1) (fun M2 =>
  lt1 (pI M2 68 1 ((M2.1 68 1) + (1 : Int32))) (fun M3 =>
  F_X3_takesFigure_192 fu M3 t0))
set_option maxRecDepth 100000 in
set_option maxHeartbeats 4000000 in
theorem w_X3_takesFigure_152 {p : Program} {l : Launch} {e : Env} {s : State} {m : MethodId} {args : Array Value} {below : List Frame} {meth : Method} {c : Code} {G : Gv} (hC : Cx p s m args meth c cX3_takesFigure 3 (some .boolean) RX3) {fu : Nat} {r : Int32} {M' : Mm} {x1 : Int32} {t0 : Int32} {M : Mm} {H : Heap} {locs : List Loc} {ls : Array Slot} (hF : F_X3_takesFigure_152 fu M x1 t0 = some (r, M')) (hw : St G s H locs M) (hl : lv_has ls 3 [(0, .ref (ad G 68)), (1, .int x1)]) : W p l e rm_X3_takesFigure s m args below meth c H locs 0 0 (MQ below (QI G r M') args s 0 0 (zA G)) (F0 m 152 ls [.int t0]) := by
  unfold F_X3_takesFigure_152 at hF
  refine lv_istore_n (lv' := [(2, .int t0), (0, .ref (ad G 68)), (1, .int x1)]) hC.1 hC.2.1 dX3_takesFigure_152 rfl hl (by decide) rfl (fun ls hl => ?_)
  refine lv_aload_n hC.1 hC.2.1 dX3_takesFigure_153 rfl (lv_at hl 1 rfl) ?_
  refine g3_voteOf hC hw q1_104 dX3_takesFigure_154 ?_
  refine lv_aload_n hC.1 hC.2.1 dX3_takesFigure_157 rfl (lv_at hl 1 rfl) ?_
  refine g3_men hC hw q1_93 dX3_takesFigure_158 ?_
  refine lv_iload_n hC.1 hC.2.1 dX3_takesFigure_161 rfl (lv_at hl 2 rfl) ?_
  obtain ⟨M2, h1, hF⟩ := ob1S hF
  refine k_Nv (As := [.ref (ad G 73), .int (M.1 68 1), .int x1]) (rest := []) hC hw (c_X6_write (M := M) (rfl : kd 73 = 1) h1) ys_X6_write (k := 7) rfl ⟨rfl, rfl⟩ ⟨Nat.le_of_ble_eq_true rfl, Nat.le_of_ble_eq_true rfl⟩ ⟨Nat.zero_le _, Nat.zero_le _⟩ rfl rfl (Nat.le_of_ble_eq_true rfl) hl dX3_takesFigure_162 (fun H locs hw => ?_)
  refine lv_aload_n hC.1 hC.2.1 dX3_takesFigure_165 rfl (lv_at hl 1 rfl) ?_
  refine lv_dup hC.1 hC.2.1 dX3_takesFigure_166 rfl ?_
  refine g3_men hC hw q1_93 dX3_takesFigure_167 ?_
  refine lv_iconst (v := (1 : Int32)) hC.1 hC.2.1 dX3_takesFigure_170 (by decide) ?_
  refine lv_iadd hC.1 hC.2.1 dX3_takesFigure_171 ?_
  refine u3_men hC hw q1_93 dX3_takesFigure_172 (fun H locs hw => ?_)
  obtain ⟨M3, hw, hF⟩ := lt1W hF hw
  refine lv_goto (tgt := 192) hC.1 hC.2.1 dX3_takesFigure_175 (by decide) ?_
  exact w_X3_takesFigure_192 hC hF hw (lv_sub hl [1, 0] rfl)
def F_X3_takesFigure (fu : Nat) (M : Mm) (x1 : Int32) : Option (Int32 × Mm) :=
  if (M.1 68 0) = (9 : Int32) then
    if x1 ≤ 0 then
      F_X3_takesFigure_53 fu M x1 (0 : Int32)
    else
      F_X3_takesFigure_53 fu M x1 (1 : Int32)
  else
  if (M.1 68 0) = (11 : Int32) then
    ob1 (F_X6_write fu M 71 (M.1 68 1) ((10 : Int32) * x1)) (fun M5 =>
    F_X3_takesFigure_192 fu M5 (1 : Int32))
  else
  if (M.1 68 0) = (12 : Int32) then
    ob1 (F_X6_read fu M 71 (M.1 68 1)) (fun r8 =>
    ob1 (F_X6_write fu M 71 (M.1 68 1) (r8 + x1)) (fun M10 =>
    ob1 (F_X6_read fu M10 71 (M10.1 68 1)) (fun r12 =>
    if r12 ≤ 0 then
      F_X3_takesFigure_123 fu M10 (0 : Int32)
    else
      F_X3_takesFigure_123 fu M10 (1 : Int32))))
  else
  if (M.1 68 0) = (13 : Int32) then
    ob1 (F_X6_write fu M 72 (M.1 68 1) x1) (fun M16 =>
    F_X3_takesFigure_192 fu M16 (1 : Int32))
  else
  if (M.1 68 0) = (14 : Int32) then
    if (1 : Int32) < x1 then
      F_X3_takesFigure_152 fu M x1 (0 : Int32)
    else
      F_X3_takesFigure_152 fu M x1 (1 : Int32)
  else
  ob1 (F_X6_write fu M 69 ((M.1 68 0) - (1 : Int32)) x1) (fun M20 =>
  F_X3_takesFigure_192 fu M20 (1 : Int32))
set_option maxRecDepth 100000 in
set_option maxHeartbeats 4000000 in
theorem c_X3_takesFigure {l : Launch} {G : Gv} {fu : Nat} {M : Mm} {x1 : Int32} {r : Int32} {M' : Mm} (hF : F_X3_takesFigure fu M x1 = some (r, M')) : Met l yX3_takesFigure (.code yX3_takesFigure cX3_takesFigure 3 (some .boolean) :: zU) rm_X3_takesFigure (va_Pc [.ref (ad G 68), .int x1] (Wd G M)) (QI G r M') 0 0 (zA G) := by
  refine zMet (by decide) rfl (Nat.le_of_ble_eq_true rfl) ?_
  intro p e s m below meth c hC hw ls hl
  have hl : lv_has ls 3 [(0, .ref (ad G 68)), (1, .int x1)] := hl
  unfold F_X3_takesFigure at hF
  refine lv_iconst (v := (1 : Int32)) hC.1 hC.2.1 dX3_takesFigure_0 (by decide) ?_
  refine lv_istore_n (lv' := [(2, .int (1 : Int32)), (0, .ref (ad G 68)), (1, .int x1)]) hC.1 hC.2.1 dX3_takesFigure_1 rfl hl (by decide) rfl (fun ls hl => ?_)
  refine lv_aload_n hC.1 hC.2.1 dX3_takesFigure_2 rfl (lv_at hl 1 rfl) ?_
  refine g3_stage hC hw q1_91 dX3_takesFigure_3 ?_
  rcases Classical.em ((M.1 68 0) = (9 : Int32)) with w1 | w1
  · have hF := ifP hF w1
    refine r_swI (v := (9 : Int32)) (off := 38) (tgt := 44) hC.1 hC.2.1 w1 dX3_takesFigure_6 (by decide) (by decide) rfl (by decide) ?_
    refine lv_iload_n hC.1 hC.2.1 dX3_takesFigure_44 rfl (lv_at hl 2 rfl) ?_
    refine lv_if_le (tgt := 52) hC.1 hC.2.1 dX3_takesFigure_45 (by decide) (fun b2 => ?_) (fun b2 => ?_)
    · have hF := ifP hF b2
      refine lv_iconst (v := (0 : Int32)) hC.1 hC.2.1 dX3_takesFigure_52 (by decide) ?_
      exact w_X3_takesFigure_53 hC hF hw (lv_sub hl [1, 2] rfl)
    · have hF := ifN hF b2
      refine lv_iconst (v := (1 : Int32)) hC.1 hC.2.1 dX3_takesFigure_48 (by decide) ?_
      refine lv_goto (tgt := 53) hC.1 hC.2.1 dX3_takesFigure_49 (by decide) ?_
      exact w_X3_takesFigure_53 hC hF hw (lv_sub hl [1, 2] rfl)
  have hF := ifN hF w1
  rcases Classical.em ((M.1 68 0) = (11 : Int32)) with w3 | w3
  · have hF := ifP hF w3
    refine r_swI (v := (11 : Int32)) (off := 56) (tgt := 62) hC.1 hC.2.1 w3 dX3_takesFigure_6 (by decide) (by decide) rfl (by decide) ?_
    refine lv_aload_n hC.1 hC.2.1 dX3_takesFigure_62 rfl (lv_at hl 1 rfl) ?_
    refine g3_bulkOf hC hw q1_100 dX3_takesFigure_63 ?_
    refine lv_aload_n hC.1 hC.2.1 dX3_takesFigure_66 rfl (lv_at hl 1 rfl) ?_
    refine g3_men hC hw q1_93 dX3_takesFigure_67 ?_
    refine lv_bipush (v := (10 : Int32)) hC.1 hC.2.1 dX3_takesFigure_70 (by decide) ?_
    refine lv_iload_n hC.1 hC.2.1 dX3_takesFigure_72 rfl (lv_at hl 2 rfl) ?_
    refine lv_imul hC.1 hC.2.1 dX3_takesFigure_73 ?_
    obtain ⟨M5, h4, hF⟩ := ob1S hF
    refine k_Nv (As := [.ref (ad G 71), .int (M.1 68 1), .int ((10 : Int32) * x1)]) (rest := []) hC hw (c_X6_write (M := M) (rfl : kd 71 = 1) h4) ys_X6_write (k := 7) rfl ⟨rfl, rfl⟩ ⟨Nat.le_of_ble_eq_true rfl, Nat.le_of_ble_eq_true rfl⟩ ⟨Nat.zero_le _, Nat.zero_le _⟩ rfl rfl (Nat.le_of_ble_eq_true rfl) hl dX3_takesFigure_74 (fun H locs hw => ?_)
    refine lv_goto (tgt := 192) hC.1 hC.2.1 dX3_takesFigure_77 (by decide) ?_
    exact w_X3_takesFigure_192 hC hF hw (lv_sub hl [1, 0] rfl)
  have hF := ifN hF w3
  rcases Classical.em ((M.1 68 0) = (12 : Int32)) with w6 | w6
  · have hF := ifP hF w6
    refine r_swI (v := (12 : Int32)) (off := 74) (tgt := 80) hC.1 hC.2.1 w6 dX3_takesFigure_6 (by decide) (by decide) rfl (by decide) ?_
    refine lv_aload_n hC.1 hC.2.1 dX3_takesFigure_80 rfl (lv_at hl 1 rfl) ?_
    refine g3_bulkOf hC hw q1_100 dX3_takesFigure_81 ?_
    refine lv_aload_n hC.1 hC.2.1 dX3_takesFigure_84 rfl (lv_at hl 1 rfl) ?_
    refine g3_men hC hw q1_93 dX3_takesFigure_85 ?_
    refine lv_aload_n hC.1 hC.2.1 dX3_takesFigure_88 rfl (lv_at hl 1 rfl) ?_
    refine g3_bulkOf hC hw q1_100 dX3_takesFigure_89 ?_
    refine lv_aload_n hC.1 hC.2.1 dX3_takesFigure_92 rfl (lv_at hl 1 rfl) ?_
    refine g3_men hC hw q1_93 dX3_takesFigure_93 ?_
    obtain ⟨r8, h7, hF⟩ := ob1S hF
    refine k_Ni (As := [.ref (ad G 71), .int (M.1 68 1)]) (rest := [.int (M.1 68 1), .ref (ad G 71)]) hC hw (c_X6_read (M := M) (rfl : kd 71 = 1) h7) ys_X6_read (k := 8) rfl ⟨rfl, rfl⟩ ⟨Nat.le_of_ble_eq_true rfl, Nat.le_of_ble_eq_true rfl⟩ ⟨Nat.zero_le _, Nat.zero_le _⟩ rfl rfl (Nat.le_of_ble_eq_true rfl) hl dX3_takesFigure_96 (fun H locs hw => ?_)
    refine lv_iload_n hC.1 hC.2.1 dX3_takesFigure_99 rfl (lv_at hl 2 rfl) ?_
    refine lv_iadd hC.1 hC.2.1 dX3_takesFigure_100 ?_
    obtain ⟨M10, h9, hF⟩ := ob1S hF
    refine k_Nv (As := [.ref (ad G 71), .int (M.1 68 1), .int (r8 + x1)]) (rest := []) hC hw (c_X6_write (M := M) (rfl : kd 71 = 1) h9) ys_X6_write (k := 7) rfl ⟨rfl, rfl⟩ ⟨Nat.le_of_ble_eq_true rfl, Nat.le_of_ble_eq_true rfl⟩ ⟨Nat.zero_le _, Nat.zero_le _⟩ rfl rfl (Nat.le_of_ble_eq_true rfl) hl dX3_takesFigure_101 (fun H locs hw => ?_)
    refine lv_aload_n hC.1 hC.2.1 dX3_takesFigure_104 rfl (lv_at hl 1 rfl) ?_
    refine g3_bulkOf hC hw q1_100 dX3_takesFigure_105 ?_
    refine lv_aload_n hC.1 hC.2.1 dX3_takesFigure_108 rfl (lv_at hl 1 rfl) ?_
    refine g3_men hC hw q1_93 dX3_takesFigure_109 ?_
    obtain ⟨r12, h11, hF⟩ := ob1S hF
    refine k_Ni (As := [.ref (ad G 71), .int (M10.1 68 1)]) (rest := []) hC hw (c_X6_read (M := M10) (rfl : kd 71 = 1) h11) ys_X6_read (k := 8) rfl ⟨rfl, rfl⟩ ⟨Nat.le_of_ble_eq_true rfl, Nat.le_of_ble_eq_true rfl⟩ ⟨Nat.zero_le _, Nat.zero_le _⟩ rfl rfl (Nat.le_of_ble_eq_true rfl) hl dX3_takesFigure_112 (fun H locs hw => ?_)
    refine lv_if_le (tgt := 122) hC.1 hC.2.1 dX3_takesFigure_115 (by decide) (fun b13 => ?_) (fun b13 => ?_)
    · have hF := ifP hF b13
      refine lv_iconst (v := (0 : Int32)) hC.1 hC.2.1 dX3_takesFigure_122 (by decide) ?_
      exact w_X3_takesFigure_123 hC hF hw (lv_sub hl [1] rfl)
    · have hF := ifN hF b13
      refine lv_iconst (v := (1 : Int32)) hC.1 hC.2.1 dX3_takesFigure_118 (by decide) ?_
      refine lv_goto (tgt := 123) hC.1 hC.2.1 dX3_takesFigure_119 (by decide) ?_
      exact w_X3_takesFigure_123 hC hF hw (lv_sub hl [1] rfl)
  have hF := ifN hF w6
  rcases Classical.em ((M.1 68 0) = (13 : Int32)) with w14 | w14
  · have hF := ifP hF w14
    refine r_swI (v := (13 : Int32)) (off := 121) (tgt := 127) hC.1 hC.2.1 w14 dX3_takesFigure_6 (by decide) (by decide) rfl (by decide) ?_
    refine lv_aload_n hC.1 hC.2.1 dX3_takesFigure_127 rfl (lv_at hl 1 rfl) ?_
    refine g3_shadeOf hC hw q1_102 dX3_takesFigure_128 ?_
    refine lv_aload_n hC.1 hC.2.1 dX3_takesFigure_131 rfl (lv_at hl 1 rfl) ?_
    refine g3_men hC hw q1_93 dX3_takesFigure_132 ?_
    refine lv_iload_n hC.1 hC.2.1 dX3_takesFigure_135 rfl (lv_at hl 2 rfl) ?_
    obtain ⟨M16, h15, hF⟩ := ob1S hF
    refine k_Nv (As := [.ref (ad G 72), .int (M.1 68 1), .int x1]) (rest := []) hC hw (c_X6_write (M := M) (rfl : kd 72 = 1) h15) ys_X6_write (k := 7) rfl ⟨rfl, rfl⟩ ⟨Nat.le_of_ble_eq_true rfl, Nat.le_of_ble_eq_true rfl⟩ ⟨Nat.zero_le _, Nat.zero_le _⟩ rfl rfl (Nat.le_of_ble_eq_true rfl) hl dX3_takesFigure_136 (fun H locs hw => ?_)
    refine lv_goto (tgt := 192) hC.1 hC.2.1 dX3_takesFigure_139 (by decide) ?_
    exact w_X3_takesFigure_192 hC hF hw (lv_sub hl [1, 0] rfl)
  have hF := ifN hF w14
  rcases Classical.em ((M.1 68 0) = (14 : Int32)) with w17 | w17
  · have hF := ifP hF w17
    refine r_swI (v := (14 : Int32)) (off := 136) (tgt := 142) hC.1 hC.2.1 w17 dX3_takesFigure_6 (by decide) (by decide) rfl (by decide) ?_
    refine lv_iload_n hC.1 hC.2.1 dX3_takesFigure_142 rfl (lv_at hl 2 rfl) ?_
    refine lv_iconst (v := (1 : Int32)) hC.1 hC.2.1 dX3_takesFigure_143 (by decide) ?_
    refine lv_icmp_gt (tgt := 151) hC.1 hC.2.1 dX3_takesFigure_144 (by decide) (fun b18 => ?_) (fun b18 => ?_)
    · have hF := ifP hF b18
      refine lv_iconst (v := (0 : Int32)) hC.1 hC.2.1 dX3_takesFigure_151 (by decide) ?_
      exact w_X3_takesFigure_152 hC hF hw (lv_sub hl [1, 2] rfl)
    · have hF := ifN hF b18
      refine lv_iconst (v := (1 : Int32)) hC.1 hC.2.1 dX3_takesFigure_147 (by decide) ?_
      refine lv_goto (tgt := 152) hC.1 hC.2.1 dX3_takesFigure_148 (by decide) ?_
      exact w_X3_takesFigure_152 hC hF hw (lv_sub hl [1, 2] rfl)
  have hF := ifN hF w17
  refine r_swD (tgt := 178) (vs := [(9 : Int32), (11 : Int32), (12 : Int32), (13 : Int32), (14 : Int32)]) hC.1 hC.2.1 (List.forall_mem_cons.mpr ⟨w1, List.forall_mem_cons.mpr ⟨w3, List.forall_mem_cons.mpr ⟨w6, List.forall_mem_cons.mpr ⟨w14, List.forall_mem_cons.mpr ⟨w17, fun v hv => absurd hv List.not_mem_nil⟩⟩⟩⟩⟩) dX3_takesFigure_6 (by decide) rfl (by decide) ?_
  refine lv_aload_n hC.1 hC.2.1 dX3_takesFigure_178 rfl (lv_at hl 1 rfl) ?_
  refine g3_suns hC hw q1_96 dX3_takesFigure_179 ?_
  refine lv_aload_n hC.1 hC.2.1 dX3_takesFigure_182 rfl (lv_at hl 1 rfl) ?_
  refine g3_stage hC hw q1_91 dX3_takesFigure_183 ?_
  refine lv_iconst (v := (1 : Int32)) hC.1 hC.2.1 dX3_takesFigure_186 (by decide) ?_
  refine lv_isub hC.1 hC.2.1 dX3_takesFigure_187 ?_
  refine lv_iload_n hC.1 hC.2.1 dX3_takesFigure_188 rfl (lv_at hl 2 rfl) ?_
  obtain ⟨M20, h19, hF⟩ := ob1S hF
  refine k_Nv (As := [.ref (ad G 69), .int ((M.1 68 0) - (1 : Int32)), .int x1]) (rest := []) hC hw (c_X6_write (M := M) (rfl : kd 69 = 1) h19) ys_X6_write (k := 7) rfl ⟨rfl, rfl⟩ ⟨Nat.le_of_ble_eq_true rfl, Nat.le_of_ble_eq_true rfl⟩ ⟨Nat.zero_le _, Nat.zero_le _⟩ rfl rfl (Nat.le_of_ble_eq_true rfl) hl dX3_takesFigure_189 (fun H locs hw => ?_)
  exact w_X3_takesFigure_192 hC hF hw (lv_sub hl [1, 0] rfl)
abbrev rm_X3_takes : Room := { frames := 2, cells := 0, slots := 0, locals := 44 }
theorem yv_X3_takes : YV yX3_takes cX3_takes 3 (some .boolean) 1 RX3 := ⟨⟨q2_105, qs_4, q1_3, q2_106⟩, by decide +kernel⟩
theorem dX3_takes_0 : decode cX3_takes 0 = .ok (.aload_n 0, 1) := by decide +kernel
theorem dX3_takes_1 : decode cX3_takes 1 = .ok (.getfield 27, 3) := by decide +kernel
theorem dX3_takes_4 : decode cX3_takes 4 = .ok (.ifCond .eq 12, 3) := by decide +kernel
theorem dX3_takes_7 : decode cX3_takes 7 = .ok (.aload_n 0, 1) := by decide +kernel
theorem dX3_takes_8 : decode cX3_takes 8 = .ok (.getfield 27, 3) := by decide +kernel
theorem dX3_takes_11 : decode cX3_takes 11 = .ok (.bipush 10, 2) := by decide +kernel
theorem dX3_takes_13 : decode cX3_takes 13 = .ok (.if_icmp .ne 41, 3) := by decide +kernel
theorem dX3_takes_16 : decode cX3_takes 16 = .ok (.iload_n 1, 1) := by decide +kernel
theorem dX3_takes_17 : decode cX3_takes 17 = .ok (.bipush 32, 2) := by decide +kernel
theorem dX3_takes_19 : decode cX3_takes 19 = .ok (.if_icmp .eq 29, 3) := by decide +kernel
theorem dX3_takes_22 : decode cX3_takes 22 = .ok (.aload_n 0, 1) := by decide +kernel
theorem dX3_takes_23 : decode cX3_takes 23 = .ok (.getfield 27, 3) := by decide +kernel
theorem dX3_takes_26 : decode cX3_takes 26 = .ok (.ifCond .ne 14, 3) := by decide +kernel
theorem dX3_takes_29 : decode cX3_takes 29 = .ok (.aload_n 0, 1) := by decide +kernel
theorem dX3_takes_30 : decode cX3_takes 30 = .ok (.iload_n 1, 1) := by decide +kernel
theorem dX3_takes_31 : decode cX3_takes 31 = .ok (.invokevirtual 47, 3) := by decide +kernel
theorem dX3_takes_34 : decode cX3_takes 34 = .ok (.ifCond .eq 18, 3) := by decide +kernel
theorem dX3_takes_37 : decode cX3_takes 37 = .ok (.goto 11, 3) := by decide +kernel
theorem dX3_takes_40 : decode cX3_takes 40 = .ok (.aload_n 0, 1) := by decide +kernel
theorem dX3_takes_41 : decode cX3_takes 41 = .ok (.iload_n 1, 1) := by decide +kernel
theorem dX3_takes_42 : decode cX3_takes 42 = .ok (.invokevirtual 50, 3) := by decide +kernel
theorem dX3_takes_45 : decode cX3_takes 45 = .ok (.ifCond .eq 7, 3) := by decide +kernel
theorem dX3_takes_48 : decode cX3_takes 48 = .ok (.iconst 1, 1) := by decide +kernel
theorem dX3_takes_49 : decode cX3_takes 49 = .ok (.goto 4, 3) := by decide +kernel
theorem dX3_takes_52 : decode cX3_takes 52 = .ok (.iconst 0, 1) := by decide +kernel
theorem dX3_takes_53 : decode cX3_takes 53 = .ok (.ireturn, 1) := by decide +kernel
theorem dX3_takes_54 : decode cX3_takes 54 = .ok (.iload_n 1, 1) := by decide +kernel
theorem dX3_takes_55 : decode cX3_takes 55 = .ok (.bipush 48, 2) := by decide +kernel
theorem dX3_takes_57 : decode cX3_takes 57 = .ok (.isub, 1) := by decide +kernel
theorem dX3_takes_58 : decode cX3_takes 58 = .ok (.istore_n 2, 1) := by decide +kernel
theorem dX3_takes_59 : decode cX3_takes 59 = .ok (.iload_n 2, 1) := by decide +kernel
theorem dX3_takes_60 : decode cX3_takes 60 = .ok (.ifCond .lt 21, 3) := by decide +kernel
theorem dX3_takes_63 : decode cX3_takes 63 = .ok (.iload_n 2, 1) := by decide +kernel
theorem dX3_takes_64 : decode cX3_takes 64 = .ok (.bipush 9, 2) := by decide +kernel
theorem dX3_takes_66 : decode cX3_takes 66 = .ok (.if_icmp .gt 15, 3) := by decide +kernel
theorem dX3_takes_69 : decode cX3_takes 69 = .ok (.aload_n 0, 1) := by decide +kernel
theorem dX3_takes_70 : decode cX3_takes 70 = .ok (.iload_n 2, 1) := by decide +kernel
theorem dX3_takes_71 : decode cX3_takes 71 = .ok (.invokevirtual 53, 3) := by decide +kernel
theorem dX3_takes_74 : decode cX3_takes 74 = .ok (.ifCond .eq 7, 3) := by decide +kernel
theorem dX3_takes_77 : decode cX3_takes 77 = .ok (.iconst 1, 1) := by decide +kernel
theorem dX3_takes_78 : decode cX3_takes 78 = .ok (.goto 4, 3) := by decide +kernel
theorem dX3_takes_81 : decode cX3_takes 81 = .ok (.iconst 0, 1) := by decide +kernel
theorem dX3_takes_82 : decode cX3_takes 82 = .ok (.ireturn, 1) := by decide +kernel
def F_X3_takes_16 (fu : Nat) (M : Mm) (x1 : Int32) : Option (Int32 × Mm) :=
  if x1 = (32 : Int32) then
    some ((1 : Int32), M)
  else
    if (M.1 68 0) = 0 then
      ob2 (F_X3_takesSun fu M x1) (fun r8 M9 =>
      if r8 = 0 then
        some ((0 : Int32), M9)
      else
        some ((1 : Int32), M9))
    else
      ob2 (F_X3_takesLetter fu M x1) (fun r4 M5 =>
      if r4 = 0 then
        some ((0 : Int32), M5)
      else
        some ((1 : Int32), M5))
set_option maxRecDepth 100000 in
set_option maxHeartbeats 4000000 in
theorem w_X3_takes_16 {p : Program} {l : Launch} {e : Env} {s : State} {m : MethodId} {args : Array Value} {below : List Frame} {meth : Method} {c : Code} {G : Gv} (hC : Cx p s m args meth c cX3_takes 3 (some .boolean) RX3) {fu : Nat} {r : Int32} {M' : Mm} {x1 : Int32} {M : Mm} {H : Heap} {locs : List Loc} {ls : Array Slot} (hF : F_X3_takes_16 fu M x1 = some (r, M')) (hw : St G s H locs M) (hl : lv_has ls 3 [(0, .ref (ad G 68)), (1, .int x1)]) : W p l e rm_X3_takes s m args below meth c H locs 0 0 (MQ below (QI G r M') args s 0 0 (zA G)) (F0 m 16 ls []) := by
  unfold F_X3_takes_16 at hF
  refine lv_iload_n hC.1 hC.2.1 dX3_takes_16 rfl (lv_at hl 1 rfl) ?_
  refine lv_bipush (v := (32 : Int32)) hC.1 hC.2.1 dX3_takes_17 (by decide) ?_
  refine lv_icmp_eq (tgt := 48) hC.1 hC.2.1 dX3_takes_19 (by decide) (fun b1 => ?_) (fun b1 => ?_)
  · have hF := ifP hF b1
    refine lv_iconst (v := (1 : Int32)) hC.1 hC.2.1 dX3_takes_48 (by decide) ?_
    refine lv_goto (tgt := 53) hC.1 hC.2.1 dX3_takes_49 (by decide) ?_
    exact r_zretE hC hw (by decide) hF dX3_takes_53
  · have hF := ifN hF b1
    refine lv_aload_n hC.1 hC.2.1 dX3_takes_22 rfl (lv_at hl 0 rfl) ?_
    refine g3_stage hC hw q1_91 dX3_takes_23 ?_
    refine lv_if_ne (tgt := 40) hC.1 hC.2.1 dX3_takes_26 (by decide) (fun b2 => ?_) (fun b2 => ?_)
    · have hF := ifN hF b2
      refine lv_aload_n hC.1 hC.2.1 dX3_takes_40 rfl (lv_at hl 0 rfl) ?_
      refine lv_iload_n hC.1 hC.2.1 dX3_takes_41 rfl (lv_at hl 1 rfl) ?_
      obtain ⟨r4, M5, h3, hF⟩ := ob2S hF
      refine k_Vi (As := [.int x1]) (rest := []) hC hw (c_X3_takesLetter (M := M) h3) RC_D yv_X3_takesLetter q2_111 ⟨rfl, rfl⟩ ⟨Nat.le_of_ble_eq_true rfl, Nat.le_of_ble_eq_true rfl⟩ ⟨Nat.zero_le _, Nat.zero_le _⟩ rfl rfl (Nat.le_of_ble_eq_true rfl) hl dX3_takes_42 (fun H locs hw => ?_)
      refine lv_if_eq (tgt := 52) hC.1 hC.2.1 dX3_takes_45 (by decide) (fun b6 => ?_) (fun b6 => ?_)
      · have hF := ifP hF b6
        refine lv_iconst (v := (0 : Int32)) hC.1 hC.2.1 dX3_takes_52 (by decide) ?_
        exact r_zretE hC hw (by decide) hF dX3_takes_53
      · have hF := ifN hF b6
        refine lv_iconst (v := (1 : Int32)) hC.1 hC.2.1 dX3_takes_48 (by decide) ?_
        refine lv_goto (tgt := 53) hC.1 hC.2.1 dX3_takes_49 (by decide) ?_
        exact r_zretE hC hw (by decide) hF dX3_takes_53
    · have hF := ifP hF b2
      refine lv_aload_n hC.1 hC.2.1 dX3_takes_29 rfl (lv_at hl 0 rfl) ?_
      refine lv_iload_n hC.1 hC.2.1 dX3_takes_30 rfl (lv_at hl 1 rfl) ?_
      obtain ⟨r8, M9, h7, hF⟩ := ob2S hF
      refine k_Vi (As := [.int x1]) (rest := []) hC hw (c_X3_takesSun (M := M) h7) RC_D yv_X3_takesSun q2_107 ⟨rfl, rfl⟩ ⟨Nat.le_of_ble_eq_true rfl, Nat.le_of_ble_eq_true rfl⟩ ⟨Nat.zero_le _, Nat.zero_le _⟩ rfl rfl (Nat.le_of_ble_eq_true rfl) hl dX3_takes_31 (fun H locs hw => ?_)
      refine lv_if_eq (tgt := 52) hC.1 hC.2.1 dX3_takes_34 (by decide) (fun b10 => ?_) (fun b10 => ?_)
      · have hF := ifP hF b10
        refine lv_iconst (v := (0 : Int32)) hC.1 hC.2.1 dX3_takes_52 (by decide) ?_
        exact r_zretE hC hw (by decide) hF dX3_takes_53
      · have hF := ifN hF b10
        refine lv_goto (tgt := 48) hC.1 hC.2.1 dX3_takes_37 (by decide) ?_
        refine lv_iconst (v := (1 : Int32)) hC.1 hC.2.1 dX3_takes_48 (by decide) ?_
        refine lv_goto (tgt := 53) hC.1 hC.2.1 dX3_takes_49 (by decide) ?_
        exact r_zretE hC hw (by decide) hF dX3_takes_53
def F_X3_takes (fu : Nat) (M : Mm) (x1 : Int32) : Option (Int32 × Mm) :=
  if (M.1 68 0) = 0 then
    F_X3_takes_16 fu M x1
  else
    if (M.1 68 0) = (10 : Int32) then
      F_X3_takes_16 fu M x1
    else
      if (x1 - (48 : Int32)) < 0 then
        some ((0 : Int32), M)
      else
        if (9 : Int32) < (x1 - (48 : Int32)) then
          some ((0 : Int32), M)
        else
          ob2 (F_X3_takesFigure fu M (x1 - (48 : Int32))) (fun r6 M7 =>
          if r6 = 0 then
            some ((0 : Int32), M7)
          else
            some ((1 : Int32), M7))
set_option maxRecDepth 100000 in
set_option maxHeartbeats 4000000 in
theorem c_X3_takes {l : Launch} {G : Gv} {fu : Nat} {M : Mm} {x1 : Int32} {r : Int32} {M' : Mm} (hF : F_X3_takes fu M x1 = some (r, M')) : Met l yX3_takes (.code yX3_takes cX3_takes 3 (some .boolean) :: zU) rm_X3_takes (va_Pc [.ref (ad G 68), .int x1] (Wd G M)) (QI G r M') 0 0 (zA G) := by
  refine zMet (by decide) rfl (Nat.le_of_ble_eq_true rfl) ?_
  intro p e s m below meth c hC hw ls hl
  have hl : lv_has ls 3 [(0, .ref (ad G 68)), (1, .int x1)] := hl
  unfold F_X3_takes at hF
  refine lv_aload_n hC.1 hC.2.1 dX3_takes_0 rfl (lv_at hl 0 rfl) ?_
  refine g3_stage hC hw q1_91 dX3_takes_1 ?_
  refine lv_if_eq (tgt := 16) hC.1 hC.2.1 dX3_takes_4 (by decide) (fun b1 => ?_) (fun b1 => ?_)
  · have hF := ifP hF b1
    exact w_X3_takes_16 hC hF hw (lv_sub hl [0, 1] rfl)
  · have hF := ifN hF b1
    refine lv_aload_n hC.1 hC.2.1 dX3_takes_7 rfl (lv_at hl 0 rfl) ?_
    refine g3_stage hC hw q1_91 dX3_takes_8 ?_
    refine lv_bipush (v := (10 : Int32)) hC.1 hC.2.1 dX3_takes_11 (by decide) ?_
    refine lv_icmp_ne (tgt := 54) hC.1 hC.2.1 dX3_takes_13 (by decide) (fun b2 => ?_) (fun b2 => ?_)
    · have hF := ifN hF b2
      refine lv_iload_n hC.1 hC.2.1 dX3_takes_54 rfl (lv_at hl 1 rfl) ?_
      refine lv_bipush (v := (48 : Int32)) hC.1 hC.2.1 dX3_takes_55 (by decide) ?_
      refine lv_isub hC.1 hC.2.1 dX3_takes_57 ?_
      refine lv_istore_n (lv' := [(2, .int (x1 - (48 : Int32))), (0, .ref (ad G 68)), (1, .int x1)]) hC.1 hC.2.1 dX3_takes_58 rfl hl (by decide) rfl (fun ls hl => ?_)
      refine lv_iload_n hC.1 hC.2.1 dX3_takes_59 rfl (lv_at hl 0 rfl) ?_
      refine lv_if_lt (tgt := 81) hC.1 hC.2.1 dX3_takes_60 (by decide) (fun b3 => ?_) (fun b3 => ?_)
      · have hF := ifP hF b3
        refine lv_iconst (v := (0 : Int32)) hC.1 hC.2.1 dX3_takes_81 (by decide) ?_
        exact r_zretE hC hw (by decide) hF dX3_takes_82
      · have hF := ifN hF b3
        refine lv_iload_n hC.1 hC.2.1 dX3_takes_63 rfl (lv_at hl 0 rfl) ?_
        refine lv_bipush (v := (9 : Int32)) hC.1 hC.2.1 dX3_takes_64 (by decide) ?_
        refine lv_icmp_gt (tgt := 81) hC.1 hC.2.1 dX3_takes_66 (by decide) (fun b4 => ?_) (fun b4 => ?_)
        · have hF := ifP hF b4
          refine lv_iconst (v := (0 : Int32)) hC.1 hC.2.1 dX3_takes_81 (by decide) ?_
          exact r_zretE hC hw (by decide) hF dX3_takes_82
        · have hF := ifN hF b4
          refine lv_aload_n hC.1 hC.2.1 dX3_takes_69 rfl (lv_at hl 1 rfl) ?_
          refine lv_iload_n hC.1 hC.2.1 dX3_takes_70 rfl (lv_at hl 0 rfl) ?_
          obtain ⟨r6, M7, h5, hF⟩ := ob2S hF
          refine k_Vi (As := [.int (x1 - (48 : Int32))]) (rest := []) hC hw (c_X3_takesFigure (M := M) h5) RC_D yv_X3_takesFigure q2_119 ⟨rfl, rfl⟩ ⟨Nat.le_of_ble_eq_true rfl, Nat.le_of_ble_eq_true rfl⟩ ⟨Nat.zero_le _, Nat.zero_le _⟩ rfl rfl (Nat.le_of_ble_eq_true rfl) hl dX3_takes_71 (fun H locs hw => ?_)
          refine lv_if_eq (tgt := 81) hC.1 hC.2.1 dX3_takes_74 (by decide) (fun b8 => ?_) (fun b8 => ?_)
          · have hF := ifP hF b8
            refine lv_iconst (v := (0 : Int32)) hC.1 hC.2.1 dX3_takes_81 (by decide) ?_
            exact r_zretE hC hw (by decide) hF dX3_takes_82
          · have hF := ifN hF b8
            refine lv_iconst (v := (1 : Int32)) hC.1 hC.2.1 dX3_takes_77 (by decide) ?_
            refine lv_goto (tgt := 82) hC.1 hC.2.1 dX3_takes_78 (by decide) ?_
            exact r_zretE hC hw (by decide) hF dX3_takes_82
    · have hF := ifP hF b2
      exact w_X3_takes_16 hC hF hw (lv_sub hl [0, 1] rfl)
abbrev rm_X3_faultIn : Room := { frames := 3, cells := 0, slots := 0, locals := 66 }
theorem yv_X3_faultIn : YV yX3_faultIn cX3_faultIn 3 (some .int) 1 RX3 := ⟨⟨q2_99, q2_100, q1_3, q2_101⟩, by decide +kernel⟩
theorem dX3_faultIn_0 : decode cX3_faultIn 0 = .ok (.aload_n 0, 1) := by decide +kernel
theorem dX3_faultIn_1 : decode cX3_faultIn 1 = .ok (.iconst 0, 1) := by decide +kernel
theorem dX3_faultIn_2 : decode cX3_faultIn 2 = .ok (.putfield 27, 3) := by decide +kernel
theorem dX3_faultIn_5 : decode cX3_faultIn 5 = .ok (.aload_n 0, 1) := by decide +kernel
theorem dX3_faultIn_6 : decode cX3_faultIn 6 = .ok (.iconst 0, 1) := by decide +kernel
theorem dX3_faultIn_7 : decode cX3_faultIn 7 = .ok (.putfield 31, 3) := by decide +kernel
theorem dX3_faultIn_10 : decode cX3_faultIn 10 = .ok (.iconst 0, 1) := by decide +kernel
theorem dX3_faultIn_11 : decode cX3_faultIn 11 = .ok (.istore_n 2, 1) := by decide +kernel
theorem dX3_faultIn_12 : decode cX3_faultIn 12 = .ok (.iload_n 2, 1) := by decide +kernel
theorem dX3_faultIn_13 : decode cX3_faultIn 13 = .ok (.aload_n 1, 1) := by decide +kernel
theorem dX3_faultIn_14 : decode cX3_faultIn 14 = .ok (.getfield 34, 3) := by decide +kernel
theorem dX3_faultIn_17 : decode cX3_faultIn 17 = .ok (.if_icmp .ge 23, 3) := by decide +kernel
theorem dX3_faultIn_20 : decode cX3_faultIn 20 = .ok (.aload_n 0, 1) := by decide +kernel
theorem dX3_faultIn_21 : decode cX3_faultIn 21 = .ok (.aload_n 1, 1) := by decide +kernel
theorem dX3_faultIn_22 : decode cX3_faultIn 22 = .ok (.iload_n 2, 1) := by decide +kernel
theorem dX3_faultIn_23 : decode cX3_faultIn 23 = .ok (.invokevirtual 39, 3) := by decide +kernel
theorem dX3_faultIn_26 : decode cX3_faultIn 26 = .ok (.invokevirtual 43, 3) := by decide +kernel
theorem dX3_faultIn_29 : decode cX3_faultIn 29 = .ok (.ifCond .ne 5, 3) := by decide +kernel
theorem dX3_faultIn_32 : decode cX3_faultIn 32 = .ok (.iload_n 2, 1) := by decide +kernel
theorem dX3_faultIn_33 : decode cX3_faultIn 33 = .ok (.ireturn, 1) := by decide +kernel
theorem dX3_faultIn_34 : decode cX3_faultIn 34 = .ok (.iinc 2 1, 3) := by decide +kernel
theorem dX3_faultIn_37 : decode cX3_faultIn 37 = .ok (.goto (-25), 3) := by decide +kernel
theorem dX3_faultIn_40 : decode cX3_faultIn 40 = .ok (.aload_n 0, 1) := by decide +kernel
theorem dX3_faultIn_41 : decode cX3_faultIn 41 = .ok (.getfield 27, 3) := by decide +kernel
theorem dX3_faultIn_44 : decode cX3_faultIn 44 = .ok (.bipush 10, 2) := by decide +kernel
theorem dX3_faultIn_46 : decode cX3_faultIn 46 = .ok (.if_icmp .ne 15, 3) := by decide +kernel
theorem dX3_faultIn_49 : decode cX3_faultIn 49 = .ok (.aload_n 0, 1) := by decide +kernel
theorem dX3_faultIn_50 : decode cX3_faultIn 50 = .ok (.getfield 31, 3) := by decide +kernel
theorem dX3_faultIn_53 : decode cX3_faultIn 53 = .ok (.ifCond .le 8, 3) := by decide +kernel
theorem dX3_faultIn_56 : decode cX3_faultIn 56 = .ok (.bipush (-9), 2) := by decide +kernel
theorem dX3_faultIn_58 : decode cX3_faultIn 58 = .ok (.goto 7, 3) := by decide +kernel
theorem dX3_faultIn_61 : decode cX3_faultIn 61 = .ok (.aload_n 1, 1) := by decide +kernel
theorem dX3_faultIn_62 : decode cX3_faultIn 62 = .ok (.getfield 34, 3) := by decide +kernel
theorem dX3_faultIn_65 : decode cX3_faultIn 65 = .ok (.ireturn, 1) := by decide +kernel
def F_X3_faultIn_12 (fu : Nat) : Nat → Mm → Nat → Int32 → Option (Int32 × Mm)
  | 0, _, _, _ => none
  | n + 1, M, c1, x2 =>
    if (M.1 c1 1) ≤ x2 then
      if (M.1 68 0) = (10 : Int32) then
        if (M.1 68 1) ≤ 0 then
          some ((M.1 c1 1), M)
        else
          some ((-9 : Int32), M)
      else
        some ((M.1 c1 1), M)
    else
      ob1 (F_X5_sign fu M c1 x2) (fun r5 =>
      ob2 (F_X3_takes fu M r5) (fun r7 M8 =>
      if r7 = 0 then
        some (x2, M8)
      else
        F_X3_faultIn_12 fu n M8 c1 (x2 + (1 : Int32))))
set_option maxRecDepth 100000 in
set_option maxHeartbeats 4000000 in
theorem w_X3_faultIn_12 {p : Program} {l : Launch} {e : Env} {s : State} {m : MethodId} {args : Array Value} {below : List Frame} {meth : Method} {c : Code} {G : Gv} (hC : Cx p s m args meth c cX3_faultIn 3 (some .int) RX3) {fu : Nat} {r : Int32} {M' : Mm} : ∀ (n : Nat) {c1 : Nat} {x2 : Int32} {M : Mm} {H : Heap} {locs : List Loc} {ls : Array Slot} (hk1 : kd c1 = 13), F_X3_faultIn_12 fu n M c1 x2 = some (r, M') → St G s H locs M → lv_has ls 3 [(0, .ref (ad G 68)), (1, .ref (ad G c1)), (2, .int x2)] → W p l e rm_X3_faultIn s m args below meth c H locs 0 0 (MQ below (QI G r M') args s 0 0 (zA G)) (F0 m 12 ls []) := by
  intro n
  induction n with
  | zero =>
    intro c1 x2 M H locs ls hk1 hF hw hl
    cases hF
  | succ n ih =>
    intro c1 x2 M H locs ls hk1 hF hw hl
    unfold F_X3_faultIn_12 at hF
    refine lv_iload_n hC.1 hC.2.1 dX3_faultIn_12 rfl (lv_at hl 2 rfl) ?_
    refine lv_aload_n hC.1 hC.2.1 dX3_faultIn_13 rfl (lv_at hl 1 rfl) ?_
    refine g5_size hC hw hk1 q1_189 dX3_faultIn_14 ?_
    refine lv_icmp_ge (tgt := 40) hC.1 hC.2.1 dX3_faultIn_17 (by decide) (fun b1 => ?_) (fun b1 => ?_)
    · have hF := ifP hF b1
      refine lv_aload_n hC.1 hC.2.1 dX3_faultIn_40 rfl (lv_at hl 0 rfl) ?_
      refine g3_stage hC hw q1_91 dX3_faultIn_41 ?_
      refine lv_bipush (v := (10 : Int32)) hC.1 hC.2.1 dX3_faultIn_44 (by decide) ?_
      refine lv_icmp_ne (tgt := 61) hC.1 hC.2.1 dX3_faultIn_46 (by decide) (fun b2 => ?_) (fun b2 => ?_)
      · have hF := ifN hF b2
        refine lv_aload_n hC.1 hC.2.1 dX3_faultIn_61 rfl (lv_at hl 1 rfl) ?_
        refine g5_size hC hw hk1 q1_189 dX3_faultIn_62 ?_
        exact r_iretE hC hw hF dX3_faultIn_65
      · have hF := ifP hF b2
        refine lv_aload_n hC.1 hC.2.1 dX3_faultIn_49 rfl (lv_at hl 0 rfl) ?_
        refine g3_men hC hw q1_93 dX3_faultIn_50 ?_
        refine lv_if_le (tgt := 61) hC.1 hC.2.1 dX3_faultIn_53 (by decide) (fun b3 => ?_) (fun b3 => ?_)
        · have hF := ifP hF b3
          refine lv_aload_n hC.1 hC.2.1 dX3_faultIn_61 rfl (lv_at hl 1 rfl) ?_
          refine g5_size hC hw hk1 q1_189 dX3_faultIn_62 ?_
          exact r_iretE hC hw hF dX3_faultIn_65
        · have hF := ifN hF b3
          refine lv_bipush (v := (-9 : Int32)) hC.1 hC.2.1 dX3_faultIn_56 (by decide) ?_
          refine lv_goto (tgt := 65) hC.1 hC.2.1 dX3_faultIn_58 (by decide) ?_
          exact r_iretE hC hw hF dX3_faultIn_65
    · have hF := ifN hF b1
      refine lv_aload_n hC.1 hC.2.1 dX3_faultIn_20 rfl (lv_at hl 0 rfl) ?_
      refine lv_aload_n hC.1 hC.2.1 dX3_faultIn_21 rfl (lv_at hl 1 rfl) ?_
      refine lv_iload_n hC.1 hC.2.1 dX3_faultIn_22 rfl (lv_at hl 2 rfl) ?_
      obtain ⟨r5, h4, hF⟩ := ob1S hF
      refine k_Vi (As := [.int x2]) (rest := [.ref (ad G 68)]) hC hw (c_X5_sign (M := M) hk1 h4) (RC_T hk1) yv_X5_sign q2_102 ⟨rfl, rfl⟩ ⟨Nat.le_of_ble_eq_true rfl, Nat.le_of_ble_eq_true rfl⟩ ⟨Nat.zero_le _, Nat.zero_le _⟩ rfl rfl (Nat.le_of_ble_eq_true rfl) hl dX3_faultIn_23 (fun H locs hw => ?_)
      obtain ⟨r7, M8, h6, hF⟩ := ob2S hF
      refine k_Vi (As := [.int r5]) (rest := []) hC hw (c_X3_takes (M := M) h6) RC_D yv_X3_takes q2_103 ⟨rfl, rfl⟩ ⟨Nat.le_of_ble_eq_true rfl, Nat.le_of_ble_eq_true rfl⟩ ⟨Nat.zero_le _, Nat.zero_le _⟩ rfl rfl (Nat.le_of_ble_eq_true rfl) hl dX3_faultIn_26 (fun H locs hw => ?_)
      refine lv_if_ne (tgt := 34) hC.1 hC.2.1 dX3_faultIn_29 (by decide) (fun b9 => ?_) (fun b9 => ?_)
      · have hF := ifN hF b9
        refine lv_iinc (v := (x2 + (1 : Int32))) (lv' := [(2, .int (x2 + (1 : Int32))), (0, .ref (ad G 68)), (1, .ref (ad G c1))]) hC.1 hC.2.1 dX3_faultIn_34 hl (k := 2) rfl rfl (by decide) rfl (fun ls hl => ?_)
        refine lv_goto (tgt := 12) hC.1 hC.2.1 dX3_faultIn_37 (by decide) ?_
        exact ih hk1 hF hw (lv_sub hl [1, 2, 0] rfl)
      · have hF := ifP hF b9
        refine lv_iload_n hC.1 hC.2.1 dX3_faultIn_32 rfl (lv_at hl 2 rfl) ?_
        exact r_iretE hC hw hF dX3_faultIn_33
def F_X3_faultIn (fu : Nat) (M : Mm) (c1 : Nat) : Option (Int32 × Mm) :=
  lt1 (pI M 68 0 (0 : Int32)) (fun M1 =>
  lt1 (pI M1 68 1 (0 : Int32)) (fun M2 =>
  F_X3_faultIn_12 fu fu M2 c1 (0 : Int32)))
set_option maxRecDepth 100000 in
set_option maxHeartbeats 4000000 in
theorem c_X3_faultIn {l : Launch} {G : Gv} {fu : Nat} {M : Mm} {c1 : Nat} (hk1 : kd c1 = 13) {r : Int32} {M' : Mm} (hF : F_X3_faultIn fu M c1 = some (r, M')) : Met l yX3_faultIn (.code yX3_faultIn cX3_faultIn 3 (some .int) :: zU) rm_X3_faultIn (va_Pc [.ref (ad G 68), .ref (ad G c1)] (Wd G M)) (QI G r M') 0 0 (zA G) := by
  refine zMet (by decide) rfl (Nat.le_of_ble_eq_true rfl) ?_
  intro p e s m below meth c hC hw ls hl
  have hl : lv_has ls 3 [(0, .ref (ad G 68)), (1, .ref (ad G c1))] := hl
  unfold F_X3_faultIn at hF
  refine lv_aload_n hC.1 hC.2.1 dX3_faultIn_0 rfl (lv_at hl 0 rfl) ?_
  refine lv_iconst (v := (0 : Int32)) hC.1 hC.2.1 dX3_faultIn_1 (by decide) ?_
  refine u3_stage hC hw q1_91 dX3_faultIn_2 (fun H locs hw => ?_)
  obtain ⟨M1, hw, hF⟩ := lt1W hF hw
  refine lv_aload_n hC.1 hC.2.1 dX3_faultIn_5 rfl (lv_at hl 0 rfl) ?_
  refine lv_iconst (v := (0 : Int32)) hC.1 hC.2.1 dX3_faultIn_6 (by decide) ?_
  refine u3_men hC hw q1_93 dX3_faultIn_7 (fun H locs hw => ?_)
  obtain ⟨M2, hw, hF⟩ := lt1W hF hw
  refine lv_iconst (v := (0 : Int32)) hC.1 hC.2.1 dX3_faultIn_10 (by decide) ?_
  refine lv_istore_n (lv' := [(2, .int (0 : Int32)), (0, .ref (ad G 68)), (1, .ref (ad G c1))]) hC.1 hC.2.1 dX3_faultIn_11 rfl hl (by decide) rfl (fun ls hl => ?_)
  exact w_X3_faultIn_12 hC _ hk1 hF hw (lv_sub hl [1, 2, 0] rfl)
abbrev rm_X4_renew : Room := { frames := 0, cells := 0, slots := 0, locals := 0 }
theorem yv_X4_renew : YV yX4_renew cX4_renew 3 none 1 RX4 := ⟨⟨q2_31, q2_32, q1_6, q2_33⟩, by decide +kernel⟩
theorem dX4_renew_0 : decode cX4_renew 0 = .ok (.aload_n 0, 1) := by decide +kernel
theorem dX4_renew_1 : decode cX4_renew 1 = .ok (.iconst 1, 1) := by decide +kernel
theorem dX4_renew_2 : decode cX4_renew 2 = .ok (.putfield 15, 3) := by decide +kernel
theorem dX4_renew_5 : decode cX4_renew 5 = .ok (.aload_n 0, 1) := by decide +kernel
theorem dX4_renew_6 : decode cX4_renew 6 = .ok (.iload_n 1, 1) := by decide +kernel
theorem dX4_renew_7 : decode cX4_renew 7 = .ok (.putfield 19, 3) := by decide +kernel
theorem dX4_renew_10 : decode cX4_renew 10 = .ok (.iconst 0, 1) := by decide +kernel
theorem dX4_renew_11 : decode cX4_renew 11 = .ok (.istore_n 2, 1) := by decide +kernel
theorem dX4_renew_12 : decode cX4_renew 12 = .ok (.iload_n 2, 1) := by decide +kernel
theorem dX4_renew_13 : decode cX4_renew 13 = .ok (.aload_n 0, 1) := by decide +kernel
theorem dX4_renew_14 : decode cX4_renew 14 = .ok (.getfield 9, 3) := by decide +kernel
theorem dX4_renew_17 : decode cX4_renew 17 = .ok (.arraylength, 1) := by decide +kernel
theorem dX4_renew_18 : decode cX4_renew 18 = .ok (.if_icmp .ge 16, 3) := by decide +kernel
theorem dX4_renew_21 : decode cX4_renew 21 = .ok (.aload_n 0, 1) := by decide +kernel
theorem dX4_renew_22 : decode cX4_renew 22 = .ok (.getfield 9, 3) := by decide +kernel
theorem dX4_renew_25 : decode cX4_renew 25 = .ok (.iload_n 2, 1) := by decide +kernel
theorem dX4_renew_26 : decode cX4_renew 26 = .ok (.iconst 0, 1) := by decide +kernel
theorem dX4_renew_27 : decode cX4_renew 27 = .ok (.iastore, 1) := by decide +kernel
theorem dX4_renew_28 : decode cX4_renew 28 = .ok (.iinc 2 1, 3) := by decide +kernel
theorem dX4_renew_31 : decode cX4_renew 31 = .ok (.goto (-19), 3) := by decide +kernel
theorem dX4_renew_34 : decode cX4_renew 34 = .ok (.return_, 1) := by decide +kernel
def F_X4_renew_12 (fu : Nat) : Nat → Mm → Nat → Int32 → Option Mm
  | 0, _, _, _ => none
  | n + 1, M, c0, x2 =>
    if (nI (ln (c0 + 6))) ≤ x2 then
      some M
    else
      if x2 < 0 ∨ ln (c0 + 6) ≤ x2.toNatClampNeg then none else (
      lt1 (pI M (c0 + 6) x2.toNatClampNeg (0 : Int32)) (fun M3 =>
      F_X4_renew_12 fu n M3 c0 (x2 + (1 : Int32))))
set_option maxRecDepth 100000 in
set_option maxHeartbeats 4000000 in
theorem w_X4_renew_12 {p : Program} {l : Launch} {e : Env} {s : State} {m : MethodId} {args : Array Value} {below : List Frame} {meth : Method} {c : Code} {G : Gv} (hC : Cx p s m args meth c cX4_renew 3 none RX4) {fu : Nat} {M' : Mm} : ∀ (n : Nat) {c0 : Nat} {x2 : Int32} {M : Mm} {H : Heap} {locs : List Loc} {ls : Array Slot} (hk0 : kd c0 = 12), F_X4_renew_12 fu n M c0 x2 = some M' → St G s H locs M → lv_has ls 3 [(0, .ref (ad G c0)), (2, .int x2)] → W p l e rm_X4_renew s m args below meth c H locs 0 0 (MQ below (QV G M') args s 0 0 (zA G)) (F0 m 12 ls []) := by
  intro n
  induction n with
  | zero =>
    intro c0 x2 M H locs ls hk0 hF hw hl
    cases hF
  | succ n ih =>
    intro c0 x2 M H locs ls hk0 hF hw hl
    unfold F_X4_renew_12 at hF
    refine lv_iload_n hC.1 hC.2.1 dX4_renew_12 rfl (lv_at hl 1 rfl) ?_
    refine lv_aload_n hC.1 hC.2.1 dX4_renew_13 rfl (lv_at hl 0 rfl) ?_
    refine g4_cells hC hw hk0 q1_172 dX4_renew_14 ?_
    refine r_alenI hC.1 hC.2.1 hw (kdRc hk0) dX4_renew_17 ?_
    refine lv_icmp_ge (tgt := 34) hC.1 hC.2.1 dX4_renew_18 (by decide) (fun b1 => ?_) (fun b1 => ?_)
    · have hF := ifP hF b1
      exact r_vretE hC hw hF dX4_renew_34
    · have hF := ifN hF b1
      refine lv_aload_n hC.1 hC.2.1 dX4_renew_21 rfl (lv_at hl 0 rfl) ?_
      refine g4_cells hC hw hk0 q1_172 dX4_renew_22 ?_
      refine lv_iload_n hC.1 hC.2.1 dX4_renew_25 rfl (lv_at hl 1 rfl) ?_
      refine lv_iconst (v := (0 : Int32)) hC.1 hC.2.1 dX4_renew_26 (by decide) ?_
      obtain ⟨n2, hF⟩ := ifO hF
      refine r_iast hC.1 hC.2.1 hw (kdRc hk0) n2 dX4_renew_27 (fun H locs hw => ?_)
      obtain ⟨M3, hw, hF⟩ := lt1W hF hw
      refine lv_iinc (v := (x2 + (1 : Int32))) (lv' := [(2, .int (x2 + (1 : Int32))), (0, .ref (ad G c0))]) hC.1 hC.2.1 dX4_renew_28 hl (k := 1) rfl rfl (by decide) rfl (fun ls hl => ?_)
      refine lv_goto (tgt := 12) hC.1 hC.2.1 dX4_renew_31 (by decide) ?_
      exact ih hk0 hF hw (lv_sub hl [1, 0] rfl)
def F_X4_renew (fu : Nat) (M : Mm) (c0 : Nat) (x1 : Int32) : Option Mm :=
  lt1 (pI M c0 0 (1 : Int32)) (fun M1 =>
  lt1 (pI M1 c0 1 x1) (fun M2 =>
  F_X4_renew_12 fu fu M2 c0 (0 : Int32)))
set_option maxRecDepth 100000 in
set_option maxHeartbeats 4000000 in
theorem c_X4_renew {l : Launch} {G : Gv} {fu : Nat} {M : Mm} {c0 : Nat} {x1 : Int32} (hk0 : kd c0 = 12) {M' : Mm} (hF : F_X4_renew fu M c0 x1 = some M') : Met l yX4_renew (.code yX4_renew cX4_renew 3 none :: zU) rm_X4_renew (va_Pc [.ref (ad G c0), .int x1] (Wd G M)) (QV G M') 0 0 (zA G) := by
  refine zMet (by decide) rfl (Nat.le_of_ble_eq_true rfl) ?_
  intro p e s m below meth c hC hw ls hl
  have hl : lv_has ls 3 [(0, .ref (ad G c0)), (1, .int x1)] := hl
  unfold F_X4_renew at hF
  refine lv_aload_n hC.1 hC.2.1 dX4_renew_0 rfl (lv_at hl 0 rfl) ?_
  refine lv_iconst (v := (1 : Int32)) hC.1 hC.2.1 dX4_renew_1 (by decide) ?_
  refine u4_there hC hw hk0 (by decide) q1_168 dX4_renew_2 (fun H locs hw => ?_)
  obtain ⟨M1, hw, hF⟩ := lt1W hF hw
  refine lv_aload_n hC.1 hC.2.1 dX4_renew_5 rfl (lv_at hl 0 rfl) ?_
  refine lv_iload_n hC.1 hC.2.1 dX4_renew_6 rfl (lv_at hl 1 rfl) ?_
  refine u4_size hC hw hk0 q1_170 dX4_renew_7 (fun H locs hw => ?_)
  obtain ⟨M2, hw, hF⟩ := lt1W hF hw
  refine lv_iconst (v := (0 : Int32)) hC.1 hC.2.1 dX4_renew_10 (by decide) ?_
  refine lv_istore_n (lv' := [(2, .int (0 : Int32)), (0, .ref (ad G c0)), (1, .int x1)]) hC.1 hC.2.1 dX4_renew_11 rfl hl (by decide) rfl (fun ls hl => ?_)
  exact w_X4_renew_12 hC _ hk0 hF hw (lv_sub hl [1, 0] rfl)
abbrev rm_X4_take : Room := { frames := 1, cells := 0, slots := 0, locals := 22 }
theorem yv_X4_take : YV yX4_take cX4_take 3 none 2 RX4 := ⟨⟨q3_124, q3_125, q1_6, q3_126⟩, by decide +kernel⟩
theorem dX4_take_0 : decode cX4_take 0 = .ok (.aload_n 0, 1) := by decide +kernel
theorem dX4_take_1 : decode cX4_take 1 = .ok (.iconst 1, 1) := by decide +kernel
theorem dX4_take_2 : decode cX4_take 2 = .ok (.putfield 15, 3) := by decide +kernel
theorem dX4_take_5 : decode cX4_take 5 = .ok (.aload_n 0, 1) := by decide +kernel
theorem dX4_take_6 : decode cX4_take 6 = .ok (.iload_n 2, 1) := by decide +kernel
theorem dX4_take_7 : decode cX4_take 7 = .ok (.putfield 19, 3) := by decide +kernel
theorem dX4_take_10 : decode cX4_take 10 = .ok (.aload_n 0, 1) := by decide +kernel
theorem dX4_take_11 : decode cX4_take 11 = .ok (.getfield 9, 3) := by decide +kernel
theorem dX4_take_14 : decode cX4_take 14 = .ok (.aload_n 1, 1) := by decide +kernel
theorem dX4_take_15 : decode cX4_take 15 = .ok (.invokestatic 23, 3) := by decide +kernel
theorem dX4_take_18 : decode cX4_take 18 = .ok (.return_, 1) := by decide +kernel
def F_X4_take (fu : Nat) (M : Mm) (c0 : Nat) (c1 : Nat) (x2 : Int32) : Option Mm :=
  lt1 (pI M c0 0 (1 : Int32)) (fun M1 =>
  lt1 (pI M1 c0 1 x2) (fun M2 =>
  ob1 (F_X6_writeAll fu M2 (c0 + 6) c1) (fun M4 =>
  some M4)))
set_option maxRecDepth 100000 in
set_option maxHeartbeats 4000000 in
theorem c_X4_take {l : Launch} {G : Gv} {fu : Nat} {M : Mm} {c0 : Nat} {c1 : Nat} {x2 : Int32} (hk0 : kd c0 = 12) (hk1 : kd c1 = 1) {M' : Mm} (hF : F_X4_take fu M c0 c1 x2 = some M') : Met l yX4_take (.code yX4_take cX4_take 3 none :: zU) rm_X4_take (va_Pc [.ref (ad G c0), .ref (ad G c1), .int x2] (Wd G M)) (QV G M') 0 0 (zA G) := by
  refine zMet (by decide) rfl (Nat.le_of_ble_eq_true rfl) ?_
  intro p e s m below meth c hC hw ls hl
  have hl : lv_has ls 3 [(0, .ref (ad G c0)), (1, .ref (ad G c1)), (2, .int x2)] := hl
  unfold F_X4_take at hF
  refine lv_aload_n hC.1 hC.2.1 dX4_take_0 rfl (lv_at hl 0 rfl) ?_
  refine lv_iconst (v := (1 : Int32)) hC.1 hC.2.1 dX4_take_1 (by decide) ?_
  refine u4_there hC hw hk0 (by decide) q1_168 dX4_take_2 (fun H locs hw => ?_)
  obtain ⟨M1, hw, hF⟩ := lt1W hF hw
  refine lv_aload_n hC.1 hC.2.1 dX4_take_5 rfl (lv_at hl 0 rfl) ?_
  refine lv_iload_n hC.1 hC.2.1 dX4_take_6 rfl (lv_at hl 2 rfl) ?_
  refine u4_size hC hw hk0 q1_170 dX4_take_7 (fun H locs hw => ?_)
  obtain ⟨M2, hw, hF⟩ := lt1W hF hw
  refine lv_aload_n hC.1 hC.2.1 dX4_take_10 rfl (lv_at hl 0 rfl) ?_
  refine g4_cells hC hw hk0 q1_172 dX4_take_11 ?_
  refine lv_aload_n hC.1 hC.2.1 dX4_take_14 rfl (lv_at hl 1 rfl) ?_
  obtain ⟨M4, h3, hF⟩ := ob1S hF
  refine k_Nv (As := [.ref (ad G (c0 + 6)), .ref (ad G c1)]) (rest := []) hC hw (c_X6_writeAll (M := M2) (kdRc hk0) hk1 h3) ys_X6_writeAll (k := 13) rfl ⟨rfl, rfl⟩ ⟨Nat.le_of_ble_eq_true rfl, Nat.le_of_ble_eq_true rfl⟩ ⟨Nat.zero_le _, Nat.zero_le _⟩ rfl rfl (Nat.le_of_ble_eq_true rfl) hl dX4_take_15 (fun H locs hw => ?_)
  exact r_vretE hC hw hF dX4_take_18
abbrev rm_X4_reaches : Room := { frames := 0, cells := 0, slots := 0, locals := 0 }
theorem yv_X4_reaches : YV yX4_reaches cX4_reaches 3 (some .boolean) 2 RX4 := ⟨⟨q2_55, q2_56, q1_6, q2_57⟩, by decide +kernel⟩
theorem dX4_reaches_0 : decode cX4_reaches 0 = .ok (.iload_n 1, 1) := by decide +kernel
theorem dX4_reaches_1 : decode cX4_reaches 1 = .ok (.ifCond .lt 33, 3) := by decide +kernel
theorem dX4_reaches_4 : decode cX4_reaches 4 = .ok (.iload_n 2, 1) := by decide +kernel
theorem dX4_reaches_5 : decode cX4_reaches 5 = .ok (.ifCond .lt 29, 3) := by decide +kernel
theorem dX4_reaches_8 : decode cX4_reaches 8 = .ok (.aload_n 0, 1) := by decide +kernel
theorem dX4_reaches_9 : decode cX4_reaches 9 = .ok (.getfield 19, 3) := by decide +kernel
theorem dX4_reaches_12 : decode cX4_reaches 12 = .ok (.aload_n 0, 1) := by decide +kernel
theorem dX4_reaches_13 : decode cX4_reaches 13 = .ok (.getfield 9, 3) := by decide +kernel
theorem dX4_reaches_16 : decode cX4_reaches 16 = .ok (.arraylength, 1) := by decide +kernel
theorem dX4_reaches_17 : decode cX4_reaches 17 = .ok (.if_icmp .gt 17, 3) := by decide +kernel
theorem dX4_reaches_20 : decode cX4_reaches 20 = .ok (.iload_n 1, 1) := by decide +kernel
theorem dX4_reaches_21 : decode cX4_reaches 21 = .ok (.aload_n 0, 1) := by decide +kernel
theorem dX4_reaches_22 : decode cX4_reaches 22 = .ok (.getfield 19, 3) := by decide +kernel
theorem dX4_reaches_25 : decode cX4_reaches 25 = .ok (.iload_n 2, 1) := by decide +kernel
theorem dX4_reaches_26 : decode cX4_reaches 26 = .ok (.isub, 1) := by decide +kernel
theorem dX4_reaches_27 : decode cX4_reaches 27 = .ok (.if_icmp .gt 7, 3) := by decide +kernel
theorem dX4_reaches_30 : decode cX4_reaches 30 = .ok (.iconst 1, 1) := by decide +kernel
theorem dX4_reaches_31 : decode cX4_reaches 31 = .ok (.goto 4, 3) := by decide +kernel
theorem dX4_reaches_34 : decode cX4_reaches 34 = .ok (.iconst 0, 1) := by decide +kernel
theorem dX4_reaches_35 : decode cX4_reaches 35 = .ok (.ireturn, 1) := by decide +kernel
def F_X4_reaches (fu : Nat) (M : Mm) (c0 : Nat) (x1 : Int32) (x2 : Int32) : Option Int32 :=
  if x1 < 0 then
    some (0 : Int32)
  else
    if x2 < 0 then
      some (0 : Int32)
    else
      if (nI (ln (c0 + 6))) < (M.1 c0 1) then
        some (0 : Int32)
      else
        if ((M.1 c0 1) - x2) < x1 then
          some (0 : Int32)
        else
          some (1 : Int32)
set_option maxRecDepth 100000 in
set_option maxHeartbeats 4000000 in
theorem c_X4_reaches {l : Launch} {G : Gv} {fu : Nat} {M : Mm} {c0 : Nat} {x1 : Int32} {x2 : Int32} (hk0 : kd c0 = 12) {r : Int32} (hF : F_X4_reaches fu M c0 x1 x2 = some r) : Met l yX4_reaches (.code yX4_reaches cX4_reaches 3 (some .boolean) :: zU) rm_X4_reaches (va_Pc [.ref (ad G c0), .int x1, .int x2] (Wd G M)) (QI G r M) 0 0 (zA G) := by
  refine zMet (by decide) rfl (Nat.le_of_ble_eq_true rfl) ?_
  intro p e s m below meth c hC hw ls hl
  have hl : lv_has ls 3 [(0, .ref (ad G c0)), (1, .int x1), (2, .int x2)] := hl
  unfold F_X4_reaches at hF
  refine lv_iload_n hC.1 hC.2.1 dX4_reaches_0 rfl (lv_at hl 1 rfl) ?_
  refine lv_if_lt (tgt := 34) hC.1 hC.2.1 dX4_reaches_1 (by decide) (fun b1 => ?_) (fun b1 => ?_)
  · have hF := ifP hF b1
    refine lv_iconst (v := (0 : Int32)) hC.1 hC.2.1 dX4_reaches_34 (by decide) ?_
    exact r_zretP hC hw (by decide) hF dX4_reaches_35
  · have hF := ifN hF b1
    refine lv_iload_n hC.1 hC.2.1 dX4_reaches_4 rfl (lv_at hl 2 rfl) ?_
    refine lv_if_lt (tgt := 34) hC.1 hC.2.1 dX4_reaches_5 (by decide) (fun b2 => ?_) (fun b2 => ?_)
    · have hF := ifP hF b2
      refine lv_iconst (v := (0 : Int32)) hC.1 hC.2.1 dX4_reaches_34 (by decide) ?_
      exact r_zretP hC hw (by decide) hF dX4_reaches_35
    · have hF := ifN hF b2
      refine lv_aload_n hC.1 hC.2.1 dX4_reaches_8 rfl (lv_at hl 0 rfl) ?_
      refine g4_size hC hw hk0 q1_170 dX4_reaches_9 ?_
      refine lv_aload_n hC.1 hC.2.1 dX4_reaches_12 rfl (lv_at hl 0 rfl) ?_
      refine g4_cells hC hw hk0 q1_172 dX4_reaches_13 ?_
      refine r_alenI hC.1 hC.2.1 hw (kdRc hk0) dX4_reaches_16 ?_
      refine lv_icmp_gt (tgt := 34) hC.1 hC.2.1 dX4_reaches_17 (by decide) (fun b3 => ?_) (fun b3 => ?_)
      · have hF := ifP hF b3
        refine lv_iconst (v := (0 : Int32)) hC.1 hC.2.1 dX4_reaches_34 (by decide) ?_
        exact r_zretP hC hw (by decide) hF dX4_reaches_35
      · have hF := ifN hF b3
        refine lv_iload_n hC.1 hC.2.1 dX4_reaches_20 rfl (lv_at hl 1 rfl) ?_
        refine lv_aload_n hC.1 hC.2.1 dX4_reaches_21 rfl (lv_at hl 0 rfl) ?_
        refine g4_size hC hw hk0 q1_170 dX4_reaches_22 ?_
        refine lv_iload_n hC.1 hC.2.1 dX4_reaches_25 rfl (lv_at hl 2 rfl) ?_
        refine lv_isub hC.1 hC.2.1 dX4_reaches_26 ?_
        refine lv_icmp_gt (tgt := 34) hC.1 hC.2.1 dX4_reaches_27 (by decide) (fun b4 => ?_) (fun b4 => ?_)
        · have hF := ifP hF b4
          refine lv_iconst (v := (0 : Int32)) hC.1 hC.2.1 dX4_reaches_34 (by decide) ?_
          exact r_zretP hC hw (by decide) hF dX4_reaches_35
        · have hF := ifN hF b4
          refine lv_iconst (v := (1 : Int32)) hC.1 hC.2.1 dX4_reaches_30 (by decide) ?_
          refine lv_goto (tgt := 35) hC.1 hC.2.1 dX4_reaches_31 (by decide) ?_
          exact r_zretP hC hw (by decide) hF dX4_reaches_35
abbrev rm_X4_sum : Room := { frames := 1, cells := 0, slots := 0, locals := 21 }
theorem yv_X4_sum : YV yX4_sum cX4_sum 4 (some .long) 0 RX4 := ⟨⟨q2_66, q2_67, q1_6, q2_68⟩, by decide +kernel⟩
theorem dX4_sum_0 : decode cX4_sum 0 = .ok (.lconst 0, 1) := by decide +kernel
theorem dX4_sum_1 : decode cX4_sum 1 = .ok (.lstore_n 1, 1) := by decide +kernel
theorem dX4_sum_2 : decode cX4_sum 2 = .ok (.iconst 0, 1) := by decide +kernel
theorem dX4_sum_3 : decode cX4_sum 3 = .ok (.istore_n 3, 1) := by decide +kernel
theorem dX4_sum_4 : decode cX4_sum 4 = .ok (.iload_n 3, 1) := by decide +kernel
theorem dX4_sum_5 : decode cX4_sum 5 = .ok (.aload_n 0, 1) := by decide +kernel
theorem dX4_sum_6 : decode cX4_sum 6 = .ok (.getfield 19, 3) := by decide +kernel
theorem dX4_sum_9 : decode cX4_sum 9 = .ok (.if_icmp .ge 21, 3) := by decide +kernel
theorem dX4_sum_12 : decode cX4_sum 12 = .ok (.lload_n 1, 1) := by decide +kernel
theorem dX4_sum_13 : decode cX4_sum 13 = .ok (.aload_n 0, 1) := by decide +kernel
theorem dX4_sum_14 : decode cX4_sum 14 = .ok (.getfield 9, 3) := by decide +kernel
theorem dX4_sum_17 : decode cX4_sum 17 = .ok (.iload_n 3, 1) := by decide +kernel
theorem dX4_sum_18 : decode cX4_sum 18 = .ok (.invokestatic 27, 3) := by decide +kernel
theorem dX4_sum_21 : decode cX4_sum 21 = .ok (.i2l, 1) := by decide +kernel
theorem dX4_sum_22 : decode cX4_sum 22 = .ok (.ladd, 1) := by decide +kernel
theorem dX4_sum_23 : decode cX4_sum 23 = .ok (.lstore_n 1, 1) := by decide +kernel
theorem dX4_sum_24 : decode cX4_sum 24 = .ok (.iinc 3 1, 3) := by decide +kernel
theorem dX4_sum_27 : decode cX4_sum 27 = .ok (.goto (-23), 3) := by decide +kernel
theorem dX4_sum_30 : decode cX4_sum 30 = .ok (.lload_n 1, 1) := by decide +kernel
theorem dX4_sum_31 : decode cX4_sum 31 = .ok (.lreturn, 1) := by decide +kernel
def F_X4_sum_4 (fu : Nat) (M : Mm) : Nat → Nat → Int64 → Int32 → Option Int64
  | 0, _, _, _ => none
  | n + 1, c0, x1, x3 =>
    if (M.1 c0 1) ≤ x3 then
      some x1
    else
      ob1 (F_X6_read fu M (c0 + 6) x3) (fun r3 =>
      F_X4_sum_4 fu M n c0 (x1 + r3.toInt64) (x3 + (1 : Int32)))
set_option maxRecDepth 100000 in
set_option maxHeartbeats 4000000 in
theorem w_X4_sum_4 {p : Program} {l : Launch} {e : Env} {s : State} {m : MethodId} {args : Array Value} {below : List Frame} {meth : Method} {c : Code} {G : Gv} (hC : Cx p s m args meth c cX4_sum 4 (some .long) RX4) {fu : Nat} {r : Int64} {M : Mm} : ∀ (n : Nat) {c0 : Nat} {x1 : Int64} {x3 : Int32} {H : Heap} {locs : List Loc} {ls : Array Slot} (hk0 : kd c0 = 12), F_X4_sum_4 fu M n c0 x1 x3 = some r → St G s H locs M → lv_has ls 4 [(0, .ref (ad G c0)), (1, .long x1), (3, .int x3)] → W p l e rm_X4_sum s m args below meth c H locs 0 0 (MQ below (QL G r M) args s 0 0 (zA G)) (F0 m 4 ls []) := by
  intro n
  induction n with
  | zero =>
    intro c0 x1 x3 H locs ls hk0 hF hw hl
    cases hF
  | succ n ih =>
    intro c0 x1 x3 H locs ls hk0 hF hw hl
    unfold F_X4_sum_4 at hF
    refine lv_iload_n hC.1 hC.2.1 dX4_sum_4 rfl (lv_at hl 2 rfl) ?_
    refine lv_aload_n hC.1 hC.2.1 dX4_sum_5 rfl (lv_at hl 0 rfl) ?_
    refine g4_size hC hw hk0 q1_170 dX4_sum_6 ?_
    refine lv_icmp_ge (tgt := 30) hC.1 hC.2.1 dX4_sum_9 (by decide) (fun b1 => ?_) (fun b1 => ?_)
    · have hF := ifP hF b1
      refine lv_lload_n hC.1 hC.2.1 dX4_sum_30 rfl (lv_at hl 1 rfl) ?_
      exact r_lretP hC hw hF dX4_sum_31
    · have hF := ifN hF b1
      refine lv_lload_n hC.1 hC.2.1 dX4_sum_12 rfl (lv_at hl 1 rfl) ?_
      refine lv_aload_n hC.1 hC.2.1 dX4_sum_13 rfl (lv_at hl 0 rfl) ?_
      refine g4_cells hC hw hk0 q1_172 dX4_sum_14 ?_
      refine lv_iload_n hC.1 hC.2.1 dX4_sum_17 rfl (lv_at hl 2 rfl) ?_
      obtain ⟨r3, h2, hF⟩ := ob1S hF
      refine k_Ni (As := [.ref (ad G (c0 + 6)), .int x3]) (rest := [.long x1]) hC hw (c_X6_read (M := M) (kdRc hk0) h2) ys_X6_read (k := 6) rfl ⟨rfl, rfl⟩ ⟨Nat.le_of_ble_eq_true rfl, Nat.le_of_ble_eq_true rfl⟩ ⟨Nat.zero_le _, Nat.zero_le _⟩ rfl rfl (Nat.le_of_ble_eq_true rfl) hl dX4_sum_18 (fun H locs hw => ?_)
      refine lv_i2l hC.1 hC.2.1 dX4_sum_21 rfl ?_
      refine lv_ladd hC.1 hC.2.1 dX4_sum_22 ?_
      refine lv_lstore_n (lv' := [(1, .long (x1 + r3.toInt64)), (0, .ref (ad G c0)), (3, .int x3)]) hC.1 hC.2.1 dX4_sum_23 rfl hl (by decide) rfl (fun ls hl => ?_)
      refine lv_iinc (v := (x3 + (1 : Int32))) (lv' := [(3, .int (x3 + (1 : Int32))), (1, .long (x1 + r3.toInt64)), (0, .ref (ad G c0))]) hC.1 hC.2.1 dX4_sum_24 hl (k := 2) rfl rfl (by decide) rfl (fun ls hl => ?_)
      refine lv_goto (tgt := 4) hC.1 hC.2.1 dX4_sum_27 (by decide) ?_
      exact ih hk0 hF hw (lv_sub hl [2, 1, 0] rfl)
def F_X4_sum (fu : Nat) (M : Mm) (c0 : Nat) : Option Int64 :=
  F_X4_sum_4 fu M fu c0 (0 : Int64) (0 : Int32)
set_option maxRecDepth 100000 in
set_option maxHeartbeats 4000000 in
theorem c_X4_sum {l : Launch} {G : Gv} {fu : Nat} {M : Mm} {c0 : Nat} (hk0 : kd c0 = 12) {r : Int64} (hF : F_X4_sum fu M c0 = some r) : Met l yX4_sum (.code yX4_sum cX4_sum 4 (some .long) :: zU) rm_X4_sum (va_Pc [.ref (ad G c0)] (Wd G M)) (QL G r M) 0 0 (zA G) := by
  refine zMet (by decide) rfl (Nat.le_of_ble_eq_true rfl) ?_
  intro p e s m below meth c hC hw ls hl
  have hl : lv_has ls 4 [(0, .ref (ad G c0))] := hl
  unfold F_X4_sum at hF
  refine lv_lconst (v := (0 : Int64)) hC.1 hC.2.1 dX4_sum_0 (by decide) ?_
  refine lv_lstore_n (lv' := [(1, .long (0 : Int64)), (0, .ref (ad G c0))]) hC.1 hC.2.1 dX4_sum_1 rfl hl (by decide) rfl (fun ls hl => ?_)
  refine lv_iconst (v := (0 : Int32)) hC.1 hC.2.1 dX4_sum_2 (by decide) ?_
  refine lv_istore_n (lv' := [(3, .int (0 : Int32)), (1, .long (0 : Int64)), (0, .ref (ad G c0))]) hC.1 hC.2.1 dX4_sum_3 rfl hl (by decide) rfl (fun ls hl => ?_)
  exact w_X4_sum_4 hC _ hk0 hF hw (lv_sub hl [2, 1, 0] rfl)
