abbrev rm_X6_bulk : Room := { frames := 5, cells := 0, slots := 0, locals := 124 }
theorem yv_X6_bulk : YV yX6_bulk cX6_bulk 3 (some .int) 2 RX6 := ⟨⟨q2_144, q2_145, q1_1, q2_146⟩, by decide +kernel⟩
theorem dX6_bulk_0 : decode cX6_bulk 0 = .ok (.aload_n 0, 1) := by decide +kernel
theorem dX6_bulk_1 : decode cX6_bulk 1 = .ok (.getfield 24, 3) := by decide +kernel
theorem dX6_bulk_4 : decode cX6_bulk 4 = .ok (.iload_n 1, 1) := by decide +kernel
theorem dX6_bulk_5 : decode cX6_bulk 5 = .ok (.invokevirtual 155, 3) := by decide +kernel
theorem dX6_bulk_8 : decode cX6_bulk 8 = .ok (.ifCond .eq 10, 3) := by decide +kernel
theorem dX6_bulk_11 : decode cX6_bulk 11 = .ok (.iload_n 2, 1) := by decide +kernel
theorem dX6_bulk_12 : decode cX6_bulk 12 = .ok (.invokestatic 230, 3) := by decide +kernel
theorem dX6_bulk_15 : decode cX6_bulk 15 = .ok (.ifCond .ne 5, 3) := by decide +kernel
theorem dX6_bulk_18 : decode cX6_bulk 18 = .ok (.iconst (-1), 1) := by decide +kernel
theorem dX6_bulk_19 : decode cX6_bulk 19 = .ok (.ireturn, 1) := by decide +kernel
theorem dX6_bulk_20 : decode cX6_bulk 20 = .ok (.aload_n 0, 1) := by decide +kernel
theorem dX6_bulk_21 : decode cX6_bulk 21 = .ok (.getfield 24, 3) := by decide +kernel
theorem dX6_bulk_24 : decode cX6_bulk 24 = .ok (.iload_n 1, 1) := by decide +kernel
theorem dX6_bulk_25 : decode cX6_bulk 25 = .ok (.iload_n 2, 1) := by decide +kernel
theorem dX6_bulk_26 : decode cX6_bulk 26 = .ok (.invokevirtual 233, 3) := by decide +kernel
theorem dX6_bulk_29 : decode cX6_bulk 29 = .ok (.ireturn, 1) := by decide +kernel
def F_X6_bulk (fu : Nat) (M : Mm) (x1 : Int32) (x2 : Int32) : Option Int32 :=
  ob1 (F_X2_isMan fu M 24 x1) (fun r2 =>
  if r2 = 0 then
    some (-1 : Int32)
  else
    ob1 (F_X6_isAhead fu M x2) (fun r5 =>
    if r5 = 0 then
      some (-1 : Int32)
    else
      ob1 (F_X2_bulkIn fu M 24 x1 x2) (fun r8 =>
      some r8)))
set_option maxRecDepth 100000 in
set_option maxHeartbeats 4000000 in
theorem c_X6_bulk {l : Launch} {G : Gv} {fu : Nat} {M : Mm} {x1 : Int32} {x2 : Int32} {r : Int32} (hF : F_X6_bulk fu M x1 x2 = some r) : Met l yX6_bulk (.code yX6_bulk cX6_bulk 3 (some .int) :: zU) rm_X6_bulk (va_Pc [.ref (ad G 0), .int x1, .int x2] (Wd G M)) (QI G r M) 0 0 (zA G) := by
  refine zMet (by decide) rfl (Nat.le_of_ble_eq_true rfl) ?_
  intro p e s m below meth c hC hw ls hl
  have hl : lv_has ls 3 [(0, .ref (ad G 0)), (1, .int x1), (2, .int x2)] := hl
  unfold F_X6_bulk at hF
  refine lv_aload_n hC.1 hC.2.1 dX6_bulk_0 rfl (lv_at hl 0 rfl) ?_
  refine g6_north hC hw q1_195 dX6_bulk_1 ?_
  refine lv_iload_n hC.1 hC.2.1 dX6_bulk_4 rfl (lv_at hl 1 rfl) ?_
  obtain ⟨r2, h1, hF⟩ := ob1S hF
  refine k_Vi (As := [.int x1]) (rest := []) hC hw (c_X2_isMan (M := M) (rfl : kd 24 = 11) h1) (RC_N (rfl : kd 24 = 11)) yv_X2_isMan q2_31 ⟨rfl, rfl⟩ ⟨Nat.le_of_ble_eq_true rfl, Nat.le_of_ble_eq_true rfl⟩ ⟨Nat.zero_le _, Nat.zero_le _⟩ rfl rfl (Nat.le_of_ble_eq_true rfl) hl dX6_bulk_5 (fun H locs hw => ?_)
  refine lv_if_eq (tgt := 18) hC.1 hC.2.1 dX6_bulk_8 (by decide) (fun b3 => ?_) (fun b3 => ?_)
  · have hF := ifP hF b3
    refine lv_iconst (v := (-1 : Int32)) hC.1 hC.2.1 dX6_bulk_18 (by decide) ?_
    exact r_iretP hC hw hF dX6_bulk_19
  · have hF := ifN hF b3
    refine lv_iload_n hC.1 hC.2.1 dX6_bulk_11 rfl (lv_at hl 2 rfl) ?_
    obtain ⟨r5, h4, hF⟩ := ob1S hF
    refine k_Si (As := [.int x2]) (rest := []) hC hw (c_X6_isAhead (M := M) h4) ys_X6_isAhead q2_147 ⟨rfl, rfl⟩ ⟨Nat.le_of_ble_eq_true rfl, Nat.le_of_ble_eq_true rfl⟩ ⟨Nat.zero_le _, Nat.zero_le _⟩ rfl rfl (Nat.le_of_ble_eq_true rfl) hl dX6_bulk_12 (fun H locs hw => ?_)
    refine lv_if_ne (tgt := 20) hC.1 hC.2.1 dX6_bulk_15 (by decide) (fun b6 => ?_) (fun b6 => ?_)
    · have hF := ifN hF b6
      refine lv_aload_n hC.1 hC.2.1 dX6_bulk_20 rfl (lv_at hl 0 rfl) ?_
      refine g6_north hC hw q1_195 dX6_bulk_21 ?_
      refine lv_iload_n hC.1 hC.2.1 dX6_bulk_24 rfl (lv_at hl 1 rfl) ?_
      refine lv_iload_n hC.1 hC.2.1 dX6_bulk_25 rfl (lv_at hl 2 rfl) ?_
      obtain ⟨r8, h7, hF⟩ := ob1S hF
      refine k_Vi (As := [.int x1, .int x2]) (rest := []) hC hw (c_X2_bulkIn (M := M) (rfl : kd 24 = 11) h7) (RC_N (rfl : kd 24 = 11)) yv_X2_bulkIn q2_150 ⟨rfl, rfl⟩ ⟨Nat.le_of_ble_eq_true rfl, Nat.le_of_ble_eq_true rfl⟩ ⟨Nat.zero_le _, Nat.zero_le _⟩ rfl rfl (Nat.le_of_ble_eq_true rfl) hl dX6_bulk_26 (fun H locs hw => ?_)
      exact r_iretP hC hw hF dX6_bulk_29
    · have hF := ifP hF b6
      refine lv_iconst (v := (-1 : Int32)) hC.1 hC.2.1 dX6_bulk_18 (by decide) ?_
      exact r_iretP hC hw hF dX6_bulk_19
abbrev rm_X6_gone : Room := { frames := 4, cells := 0, slots := 0, locals := 99 }
theorem yv_X6_gone : YV yX6_gone cX6_gone 2 (some .int) 1 RX6 := ⟨⟨q2_163, q2_164, q1_1, q2_165⟩, by decide +kernel⟩
theorem dX6_gone_0 : decode cX6_gone 0 = .ok (.aload_n 0, 1) := by decide +kernel
theorem dX6_gone_1 : decode cX6_gone 1 = .ok (.getfield 24, 3) := by decide +kernel
theorem dX6_gone_4 : decode cX6_gone 4 = .ok (.iload_n 1, 1) := by decide +kernel
theorem dX6_gone_5 : decode cX6_gone 5 = .ok (.invokevirtual 155, 3) := by decide +kernel
theorem dX6_gone_8 : decode cX6_gone 8 = .ok (.ifCond .ne 5, 3) := by decide +kernel
theorem dX6_gone_11 : decode cX6_gone 11 = .ok (.iconst (-1), 1) := by decide +kernel
theorem dX6_gone_12 : decode cX6_gone 12 = .ok (.ireturn, 1) := by decide +kernel
theorem dX6_gone_13 : decode cX6_gone 13 = .ok (.aload_n 0, 1) := by decide +kernel
theorem dX6_gone_14 : decode cX6_gone 14 = .ok (.getfield 24, 3) := by decide +kernel
theorem dX6_gone_17 : decode cX6_gone 17 = .ok (.iload_n 1, 1) := by decide +kernel
theorem dX6_gone_18 : decode cX6_gone 18 = .ok (.invokevirtual 183, 3) := by decide +kernel
theorem dX6_gone_21 : decode cX6_gone 21 = .ok (.ireturn, 1) := by decide +kernel
def F_X6_gone (fu : Nat) (M : Mm) (x1 : Int32) : Option Int32 :=
  ob1 (F_X2_isMan fu M 24 x1) (fun r2 =>
  if r2 = 0 then
    some (-1 : Int32)
  else
    ob1 (F_X2_goneIn fu M 24 x1) (fun r5 =>
    some r5))
set_option maxRecDepth 100000 in
set_option maxHeartbeats 4000000 in
theorem c_X6_gone {l : Launch} {G : Gv} {fu : Nat} {M : Mm} {x1 : Int32} {r : Int32} (hF : F_X6_gone fu M x1 = some r) : Met l yX6_gone (.code yX6_gone cX6_gone 2 (some .int) :: zU) rm_X6_gone (va_Pc [.ref (ad G 0), .int x1] (Wd G M)) (QI G r M) 0 0 (zA G) := by
  refine zMet (by decide) rfl (Nat.le_of_ble_eq_true rfl) ?_
  intro p e s m below meth c hC hw ls hl
  have hl : lv_has ls 2 [(0, .ref (ad G 0)), (1, .int x1)] := hl
  unfold F_X6_gone at hF
  refine lv_aload_n hC.1 hC.2.1 dX6_gone_0 rfl (lv_at hl 0 rfl) ?_
  refine g6_north hC hw q1_195 dX6_gone_1 ?_
  refine lv_iload_n hC.1 hC.2.1 dX6_gone_4 rfl (lv_at hl 1 rfl) ?_
  obtain ⟨r2, h1, hF⟩ := ob1S hF
  refine k_Vi (As := [.int x1]) (rest := []) hC hw (c_X2_isMan (M := M) (rfl : kd 24 = 11) h1) (RC_N (rfl : kd 24 = 11)) yv_X2_isMan q2_31 ⟨rfl, rfl⟩ ⟨Nat.le_of_ble_eq_true rfl, Nat.le_of_ble_eq_true rfl⟩ ⟨Nat.zero_le _, Nat.zero_le _⟩ rfl rfl (Nat.le_of_ble_eq_true rfl) hl dX6_gone_5 (fun H locs hw => ?_)
  refine lv_if_ne (tgt := 13) hC.1 hC.2.1 dX6_gone_8 (by decide) (fun b3 => ?_) (fun b3 => ?_)
  · have hF := ifN hF b3
    refine lv_aload_n hC.1 hC.2.1 dX6_gone_13 rfl (lv_at hl 0 rfl) ?_
    refine g6_north hC hw q1_195 dX6_gone_14 ?_
    refine lv_iload_n hC.1 hC.2.1 dX6_gone_17 rfl (lv_at hl 1 rfl) ?_
    obtain ⟨r5, h4, hF⟩ := ob1S hF
    refine k_Vi (As := [.int x1]) (rest := []) hC hw (c_X2_goneIn (M := M) (rfl : kd 24 = 11) h4) (RC_N (rfl : kd 24 = 11)) yv_X2_goneIn q2_166 ⟨rfl, rfl⟩ ⟨Nat.le_of_ble_eq_true rfl, Nat.le_of_ble_eq_true rfl⟩ ⟨Nat.zero_le _, Nat.zero_le _⟩ rfl rfl (Nat.le_of_ble_eq_true rfl) hl dX6_gone_18 (fun H locs hw => ?_)
    exact r_iretP hC hw hF dX6_gone_21
  · have hF := ifP hF b3
    refine lv_iconst (v := (-1 : Int32)) hC.1 hC.2.1 dX6_gone_11 (by decide) ?_
    exact r_iretP hC hw hF dX6_gone_12
abbrev rm_X6_votes : Room := { frames := 6, cells := 0, slots := 0, locals := 148 }
theorem yv_X6_votes : YV yX6_votes cX6_votes 4 (some .int) 1 RX6 := ⟨⟨q2_171, q2_172, q1_1, q2_173⟩, by decide +kernel⟩
theorem dX6_votes_0 : decode cX6_votes 0 = .ok (.iload_n 1, 1) := by decide +kernel
theorem dX6_votes_1 : decode cX6_votes 1 = .ok (.invokestatic 230, 3) := by decide +kernel
theorem dX6_votes_4 : decode cX6_votes 4 = .ok (.ifCond .ne 5, 3) := by decide +kernel
theorem dX6_votes_7 : decode cX6_votes 7 = .ok (.iconst (-1), 1) := by decide +kernel
theorem dX6_votes_8 : decode cX6_votes 8 = .ok (.ireturn, 1) := by decide +kernel
theorem dX6_votes_9 : decode cX6_votes 9 = .ok (.aload_n 0, 1) := by decide +kernel
theorem dX6_votes_10 : decode cX6_votes 10 = .ok (.getfield 24, 3) := by decide +kernel
theorem dX6_votes_13 : decode cX6_votes 13 = .ok (.getfield 152, 3) := by decide +kernel
theorem dX6_votes_16 : decode cX6_votes 16 = .ok (.ifCond .ne 6, 3) := by decide +kernel
theorem dX6_votes_19 : decode cX6_votes 19 = .ok (.bipush (-4), 2) := by decide +kernel
theorem dX6_votes_21 : decode cX6_votes 21 = .ok (.ireturn, 1) := by decide +kernel
theorem dX6_votes_22 : decode cX6_votes 22 = .ok (.aload_n 0, 1) := by decide +kernel
theorem dX6_votes_23 : decode cX6_votes 23 = .ok (.getfield 24, 3) := by decide +kernel
theorem dX6_votes_26 : decode cX6_votes 26 = .ok (.iload_n 1, 1) := by decide +kernel
theorem dX6_votes_27 : decode cX6_votes 27 = .ok (.invokevirtual 236, 3) := by decide +kernel
theorem dX6_votes_30 : decode cX6_votes 30 = .ok (.istore_n 2, 1) := by decide +kernel
theorem dX6_votes_31 : decode cX6_votes 31 = .ok (.aload_n 0, 1) := by decide +kernel
theorem dX6_votes_32 : decode cX6_votes 32 = .ok (.getfield 24, 3) := by decide +kernel
theorem dX6_votes_35 : decode cX6_votes 35 = .ok (.iload_n 2, 1) := by decide +kernel
theorem dX6_votes_36 : decode cX6_votes 36 = .ok (.invokevirtual 239, 3) := by decide +kernel
theorem dX6_votes_39 : decode cX6_votes 39 = .ok (.invokestatic 209, 3) := by decide +kernel
theorem dX6_votes_42 : decode cX6_votes 42 = .ok (.istore_n 3, 1) := by decide +kernel
theorem dX6_votes_43 : decode cX6_votes 43 = .ok (.aload_n 0, 1) := by decide +kernel
theorem dX6_votes_44 : decode cX6_votes 44 = .ok (.iload_n 2, 1) := by decide +kernel
theorem dX6_votes_45 : decode cX6_votes 45 = .ok (.invokestatic 209, 3) := by decide +kernel
theorem dX6_votes_48 : decode cX6_votes 48 = .ok (.iload_n 3, 1) := by decide +kernel
theorem dX6_votes_49 : decode cX6_votes 49 = .ok (.isub, 1) := by decide +kernel
theorem dX6_votes_50 : decode cX6_votes 50 = .ok (.putfield 220, 3) := by decide +kernel
theorem dX6_votes_53 : decode cX6_votes 53 = .ok (.iload_n 3, 1) := by decide +kernel
theorem dX6_votes_54 : decode cX6_votes 54 = .ok (.ireturn, 1) := by decide +kernel
def F_X6_votes (fu : Nat) (M : Mm) (x1 : Int32) : Option (Int32 × Mm) :=
  ob1 (F_X6_isAhead fu M x1) (fun r2 =>
  if r2 = 0 then
    some ((-1 : Int32), M)
  else
    if (M.1 24 0) = 0 then
      some ((-4 : Int32), M)
    else
      ob1 (F_X2_votersIn fu M 24 x1) (fun r6 =>
      ob1 (F_X2_onesAmong fu M 24 r6) (fun r8 =>
      ob1 (F_J6_bitCount_0f7a4 fu M r8) (fun r10 =>
      ob1 (F_J6_bitCount_0f7a4 fu M r6) (fun r12 =>
      lt1 (pI M 0 9 (r12 - r10)) (fun M13 =>
      some (r10, M13)))))))
set_option maxRecDepth 100000 in
set_option maxHeartbeats 4000000 in
theorem c_X6_votes {l : Launch} {G : Gv} {fu : Nat} {M : Mm} {x1 : Int32} {r : Int32} {M' : Mm} (hF : F_X6_votes fu M x1 = some (r, M')) : Met l yX6_votes (.code yX6_votes cX6_votes 4 (some .int) :: zU) rm_X6_votes (va_Pc [.ref (ad G 0), .int x1] (Wd G M)) (QI G r M') 0 0 (zA G) := by
  refine zMet (by decide) rfl (Nat.le_of_ble_eq_true rfl) ?_
  intro p e s m below meth c hC hw ls hl
  have hl : lv_has ls 4 [(0, .ref (ad G 0)), (1, .int x1)] := hl
  unfold F_X6_votes at hF
  refine lv_iload_n hC.1 hC.2.1 dX6_votes_0 rfl (lv_at hl 1 rfl) ?_
  obtain ⟨r2, h1, hF⟩ := ob1S hF
  refine k_Si (As := [.int x1]) (rest := []) hC hw (c_X6_isAhead (M := M) h1) ys_X6_isAhead q2_147 ⟨rfl, rfl⟩ ⟨Nat.le_of_ble_eq_true rfl, Nat.le_of_ble_eq_true rfl⟩ ⟨Nat.zero_le _, Nat.zero_le _⟩ rfl rfl (Nat.le_of_ble_eq_true rfl) hl dX6_votes_1 (fun H locs hw => ?_)
  refine lv_if_ne (tgt := 9) hC.1 hC.2.1 dX6_votes_4 (by decide) (fun b3 => ?_) (fun b3 => ?_)
  · have hF := ifN hF b3
    refine lv_aload_n hC.1 hC.2.1 dX6_votes_9 rfl (lv_at hl 0 rfl) ?_
    refine g6_north hC hw q1_195 dX6_votes_10 ?_
    refine g2_men hC hw (rfl : kd 24 = 11) q1_29 dX6_votes_13 ?_
    refine lv_if_ne (tgt := 22) hC.1 hC.2.1 dX6_votes_16 (by decide) (fun b4 => ?_) (fun b4 => ?_)
    · have hF := ifN hF b4
      refine lv_aload_n hC.1 hC.2.1 dX6_votes_22 rfl (lv_at hl 0 rfl) ?_
      refine g6_north hC hw q1_195 dX6_votes_23 ?_
      refine lv_iload_n hC.1 hC.2.1 dX6_votes_26 rfl (lv_at hl 1 rfl) ?_
      obtain ⟨r6, h5, hF⟩ := ob1S hF
      refine k_Vi (As := [.int x1]) (rest := []) hC hw (c_X2_votersIn (M := M) (rfl : kd 24 = 11) h5) (RC_N (rfl : kd 24 = 11)) yv_X2_votersIn q2_174 ⟨rfl, rfl⟩ ⟨Nat.le_of_ble_eq_true rfl, Nat.le_of_ble_eq_true rfl⟩ ⟨Nat.zero_le _, Nat.zero_le _⟩ rfl rfl (Nat.le_of_ble_eq_true rfl) hl dX6_votes_27 (fun H locs hw => ?_)
      refine lv_istore_n (lv' := [(2, .int r6), (0, .ref (ad G 0)), (1, .int x1)]) hC.1 hC.2.1 dX6_votes_30 rfl hl (by decide) rfl (fun ls hl => ?_)
      refine lv_aload_n hC.1 hC.2.1 dX6_votes_31 rfl (lv_at hl 1 rfl) ?_
      refine g6_north hC hw q1_195 dX6_votes_32 ?_
      refine lv_iload_n hC.1 hC.2.1 dX6_votes_35 rfl (lv_at hl 0 rfl) ?_
      obtain ⟨r8, h7, hF⟩ := ob1S hF
      refine k_Vi (As := [.int r6]) (rest := []) hC hw (c_X2_onesAmong (M := M) (rfl : kd 24 = 11) h7) (RC_N (rfl : kd 24 = 11)) yv_X2_onesAmong q2_182 ⟨rfl, rfl⟩ ⟨Nat.le_of_ble_eq_true rfl, Nat.le_of_ble_eq_true rfl⟩ ⟨Nat.zero_le _, Nat.zero_le _⟩ rfl rfl (Nat.le_of_ble_eq_true rfl) hl dX6_votes_36 (fun H locs hw => ?_)
      obtain ⟨r10, h9, hF⟩ := ob1S hF
      refine k_Si (As := [.int r8]) (rest := []) hC hw (c_J6_bitCount_0f7a4 (M := M) h9) ys_J6_bitCount_0f7a4 q2_98 ⟨rfl, rfl⟩ ⟨Nat.le_of_ble_eq_true rfl, Nat.le_of_ble_eq_true rfl⟩ ⟨Nat.zero_le _, Nat.zero_le _⟩ rfl rfl (Nat.le_of_ble_eq_true rfl) hl dX6_votes_39 (fun H locs hw => ?_)
      refine lv_istore_n (lv' := [(3, .int r10), (2, .int r6), (0, .ref (ad G 0)), (1, .int x1)]) hC.1 hC.2.1 dX6_votes_42 rfl hl (by decide) rfl (fun ls hl => ?_)
      refine lv_aload_n hC.1 hC.2.1 dX6_votes_43 rfl (lv_at hl 2 rfl) ?_
      refine lv_iload_n hC.1 hC.2.1 dX6_votes_44 rfl (lv_at hl 1 rfl) ?_
      obtain ⟨r12, h11, hF⟩ := ob1S hF
      refine k_Si (As := [.int r6]) (rest := [.ref (ad G 0)]) hC hw (c_J6_bitCount_0f7a4 (M := M) h11) ys_J6_bitCount_0f7a4 q2_98 ⟨rfl, rfl⟩ ⟨Nat.le_of_ble_eq_true rfl, Nat.le_of_ble_eq_true rfl⟩ ⟨Nat.zero_le _, Nat.zero_le _⟩ rfl rfl (Nat.le_of_ble_eq_true rfl) hl dX6_votes_45 (fun H locs hw => ?_)
      refine lv_iload_n hC.1 hC.2.1 dX6_votes_48 rfl (lv_at hl 0 rfl) ?_
      refine lv_isub hC.1 hC.2.1 dX6_votes_49 ?_
      refine u6_told hC hw q1_202 dX6_votes_50 (fun H locs hw => ?_)
      obtain ⟨M13, hw, hF⟩ := lt1W hF hw
      refine lv_iload_n hC.1 hC.2.1 dX6_votes_53 rfl (lv_at hl 0 rfl) ?_
      exact r_iretE hC hw hF dX6_votes_54
    · have hF := ifP hF b4
      refine lv_bipush (v := (-4 : Int32)) hC.1 hC.2.1 dX6_votes_19 (by decide) ?_
      exact r_iretE hC hw hF dX6_votes_21
  · have hF := ifP hF b3
    refine lv_iconst (v := (-1 : Int32)) hC.1 hC.2.1 dX6_votes_7 (by decide) ?_
    exact r_iretE hC hw hF dX6_votes_8
abbrev rm_X6_widow : Room := { frames := 4, cells := 0, slots := 0, locals := 99 }
theorem yv_X6_widow : YV yX6_widow cX6_widow 5 (some .int) 0 RX6 := ⟨⟨q2_184, q2_185, q1_1, q2_186⟩, by decide +kernel⟩
theorem dX6_widow_0 : decode cX6_widow 0 = .ok (.aload_n 0, 1) := by decide +kernel
theorem dX6_widow_1 : decode cX6_widow 1 = .ok (.getfield 24, 3) := by decide +kernel
theorem dX6_widow_4 : decode cX6_widow 4 = .ok (.getfield 152, 3) := by decide +kernel
theorem dX6_widow_7 : decode cX6_widow 7 = .ok (.ifCond .ne 6, 3) := by decide +kernel
theorem dX6_widow_10 : decode cX6_widow 10 = .ok (.bipush (-4), 2) := by decide +kernel
theorem dX6_widow_12 : decode cX6_widow 12 = .ok (.ireturn, 1) := by decide +kernel
theorem dX6_widow_13 : decode cX6_widow 13 = .ok (.bipush (-9), 2) := by decide +kernel
theorem dX6_widow_15 : decode cX6_widow 15 = .ok (.istore_n 1, 1) := by decide +kernel
theorem dX6_widow_16 : decode cX6_widow 16 = .ok (.bipush 61, 2) := by decide +kernel
theorem dX6_widow_18 : decode cX6_widow 18 = .ok (.istore_n 2, 1) := by decide +kernel
theorem dX6_widow_19 : decode cX6_widow 19 = .ok (.iconst 0, 1) := by decide +kernel
theorem dX6_widow_20 : decode cX6_widow 20 = .ok (.istore_n 3, 1) := by decide +kernel
theorem dX6_widow_21 : decode cX6_widow 21 = .ok (.iload_n 3, 1) := by decide +kernel
theorem dX6_widow_22 : decode cX6_widow 22 = .ok (.aload_n 0, 1) := by decide +kernel
theorem dX6_widow_23 : decode cX6_widow 23 = .ok (.getfield 24, 3) := by decide +kernel
theorem dX6_widow_26 : decode cX6_widow 26 = .ok (.getfield 152, 3) := by decide +kernel
theorem dX6_widow_29 : decode cX6_widow 29 = .ok (.if_icmp .ge 35, 3) := by decide +kernel
theorem dX6_widow_32 : decode cX6_widow 32 = .ok (.aload_n 0, 1) := by decide +kernel
theorem dX6_widow_33 : decode cX6_widow 33 = .ok (.getfield 24, 3) := by decide +kernel
theorem dX6_widow_36 : decode cX6_widow 36 = .ok (.iload_n 3, 1) := by decide +kernel
theorem dX6_widow_37 : decode cX6_widow 37 = .ok (.invokevirtual 183, 3) := by decide +kernel
theorem dX6_widow_40 : decode cX6_widow 40 = .ok (.istore 4, 2) := by decide +kernel
theorem dX6_widow_42 : decode cX6_widow 42 = .ok (.iload 4, 2) := by decide +kernel
theorem dX6_widow_44 : decode cX6_widow 44 = .ok (.ifCond .le 14, 3) := by decide +kernel
theorem dX6_widow_47 : decode cX6_widow 47 = .ok (.iload 4, 2) := by decide +kernel
theorem dX6_widow_49 : decode cX6_widow 49 = .ok (.iload_n 2, 1) := by decide +kernel
theorem dX6_widow_50 : decode cX6_widow 50 = .ok (.if_icmp .ge 8, 3) := by decide +kernel
theorem dX6_widow_53 : decode cX6_widow 53 = .ok (.iload_n 3, 1) := by decide +kernel
theorem dX6_widow_54 : decode cX6_widow 54 = .ok (.istore_n 1, 1) := by decide +kernel
theorem dX6_widow_55 : decode cX6_widow 55 = .ok (.iload 4, 2) := by decide +kernel
theorem dX6_widow_57 : decode cX6_widow 57 = .ok (.istore_n 2, 1) := by decide +kernel
theorem dX6_widow_58 : decode cX6_widow 58 = .ok (.iinc 3 1, 3) := by decide +kernel
theorem dX6_widow_61 : decode cX6_widow 61 = .ok (.goto (-40), 3) := by decide +kernel
theorem dX6_widow_64 : decode cX6_widow 64 = .ok (.iload_n 1, 1) := by decide +kernel
theorem dX6_widow_65 : decode cX6_widow 65 = .ok (.bipush (-9), 2) := by decide +kernel
theorem dX6_widow_67 : decode cX6_widow 67 = .ok (.if_icmp .eq 8, 3) := by decide +kernel
theorem dX6_widow_70 : decode cX6_widow 70 = .ok (.aload_n 0, 1) := by decide +kernel
theorem dX6_widow_71 : decode cX6_widow 71 = .ok (.iload_n 2, 1) := by decide +kernel
theorem dX6_widow_72 : decode cX6_widow 72 = .ok (.putfield 220, 3) := by decide +kernel
theorem dX6_widow_75 : decode cX6_widow 75 = .ok (.iload_n 1, 1) := by decide +kernel
theorem dX6_widow_76 : decode cX6_widow 76 = .ok (.ireturn, 1) := by decide +kernel
def F_X6_widow_21 (fu : Nat) : Nat → Mm → Int32 → Int32 → Int32 → Option (Int32 × Mm)
  | 0, _, _, _, _ => none
  | n + 1, M, x1, x2, x3 =>
    if (M.1 24 0) ≤ x3 then
      if x1 = (-9 : Int32) then
        some (x1, M)
      else
        lt1 (pI M 0 9 x2) (fun M3 =>
        some (x1, M3))
    else
      ob1 (F_X2_goneIn fu M 24 x3) (fun r5 =>
      if r5 ≤ 0 then
        F_X6_widow_21 fu n M x1 x2 (x3 + (1 : Int32))
      else
        if x2 ≤ r5 then
          F_X6_widow_21 fu n M x1 x2 (x3 + (1 : Int32))
        else
          F_X6_widow_21 fu n M x3 r5 (x3 + (1 : Int32)))
set_option maxRecDepth 100000 in
set_option maxHeartbeats 4000000 in
theorem w_X6_widow_21 {p : Program} {l : Launch} {e : Env} {s : State} {m : MethodId} {args : Array Value} {below : List Frame} {meth : Method} {c : Code} {G : Gv} (hC : Cx p s m args meth c cX6_widow 5 (some .int) RX6) {fu : Nat} {r : Int32} {M' : Mm} : ∀ (n : Nat) {x1 : Int32} {x2 : Int32} {x3 : Int32} {M : Mm} {H : Heap} {locs : List Loc} {ls : Array Slot}, F_X6_widow_21 fu n M x1 x2 x3 = some (r, M') → St G s H locs M → lv_has ls 5 [(0, .ref (ad G 0)), (1, .int x1), (2, .int x2), (3, .int x3)] → W p l e rm_X6_widow s m args below meth c H locs 0 0 (MQ below (QI G r M') args s 0 0 (zA G)) (F0 m 21 ls []) := by
  intro n
  induction n with
  | zero =>
    intro x1 x2 x3 M H locs ls hF hw hl
    cases hF
  | succ n ih =>
    intro x1 x2 x3 M H locs ls hF hw hl
    unfold F_X6_widow_21 at hF
    refine lv_iload_n hC.1 hC.2.1 dX6_widow_21 rfl (lv_at hl 3 rfl) ?_
    refine lv_aload_n hC.1 hC.2.1 dX6_widow_22 rfl (lv_at hl 0 rfl) ?_
    refine g6_north hC hw q1_195 dX6_widow_23 ?_
    refine g2_men hC hw (rfl : kd 24 = 11) q1_29 dX6_widow_26 ?_
    refine lv_icmp_ge (tgt := 64) hC.1 hC.2.1 dX6_widow_29 (by decide) (fun b1 => ?_) (fun b1 => ?_)
    · have hF := ifP hF b1
      refine lv_iload_n hC.1 hC.2.1 dX6_widow_64 rfl (lv_at hl 1 rfl) ?_
      refine lv_bipush (v := (-9 : Int32)) hC.1 hC.2.1 dX6_widow_65 (by decide) ?_
      refine lv_icmp_eq (tgt := 75) hC.1 hC.2.1 dX6_widow_67 (by decide) (fun b2 => ?_) (fun b2 => ?_)
      · have hF := ifP hF b2
        refine lv_iload_n hC.1 hC.2.1 dX6_widow_75 rfl (lv_at hl 1 rfl) ?_
        exact r_iretE hC hw hF dX6_widow_76
      · have hF := ifN hF b2
        refine lv_aload_n hC.1 hC.2.1 dX6_widow_70 rfl (lv_at hl 0 rfl) ?_
        refine lv_iload_n hC.1 hC.2.1 dX6_widow_71 rfl (lv_at hl 2 rfl) ?_
        refine u6_told hC hw q1_202 dX6_widow_72 (fun H locs hw => ?_)
        obtain ⟨M3, hw, hF⟩ := lt1W hF hw
        refine lv_iload_n hC.1 hC.2.1 dX6_widow_75 rfl (lv_at hl 1 rfl) ?_
        exact r_iretE hC hw hF dX6_widow_76
    · have hF := ifN hF b1
      refine lv_aload_n hC.1 hC.2.1 dX6_widow_32 rfl (lv_at hl 0 rfl) ?_
      refine g6_north hC hw q1_195 dX6_widow_33 ?_
      refine lv_iload_n hC.1 hC.2.1 dX6_widow_36 rfl (lv_at hl 3 rfl) ?_
      obtain ⟨r5, h4, hF⟩ := ob1S hF
      refine k_Vi (As := [.int x3]) (rest := []) hC hw (c_X2_goneIn (M := M) (rfl : kd 24 = 11) h4) (RC_N (rfl : kd 24 = 11)) yv_X2_goneIn q2_166 ⟨rfl, rfl⟩ ⟨Nat.le_of_ble_eq_true rfl, Nat.le_of_ble_eq_true rfl⟩ ⟨Nat.zero_le _, Nat.zero_le _⟩ rfl rfl (Nat.le_of_ble_eq_true rfl) hl dX6_widow_37 (fun H locs hw => ?_)
      refine lv_istore (lv' := [(4, .int r5), (0, .ref (ad G 0)), (1, .int x1), (2, .int x2), (3, .int x3)]) hC.1 hC.2.1 dX6_widow_40 hl (by decide) rfl (fun ls hl => ?_)
      refine lv_iload hC.1 hC.2.1 dX6_widow_42 (lv_at hl 0 rfl) ?_
      refine lv_if_le (tgt := 58) hC.1 hC.2.1 dX6_widow_44 (by decide) (fun b6 => ?_) (fun b6 => ?_)
      · have hF := ifP hF b6
        refine lv_iinc (v := (x3 + (1 : Int32))) (lv' := [(3, .int (x3 + (1 : Int32))), (4, .int r5), (0, .ref (ad G 0)), (1, .int x1), (2, .int x2)]) hC.1 hC.2.1 dX6_widow_58 hl (k := 4) rfl rfl (by decide) rfl (fun ls hl => ?_)
        refine lv_goto (tgt := 21) hC.1 hC.2.1 dX6_widow_61 (by decide) ?_
        exact ih hF hw (lv_sub hl [2, 3, 4, 0] rfl)
      · have hF := ifN hF b6
        refine lv_iload hC.1 hC.2.1 dX6_widow_47 (lv_at hl 0 rfl) ?_
        refine lv_iload_n hC.1 hC.2.1 dX6_widow_49 rfl (lv_at hl 3 rfl) ?_
        refine lv_icmp_ge (tgt := 58) hC.1 hC.2.1 dX6_widow_50 (by decide) (fun b7 => ?_) (fun b7 => ?_)
        · have hF := ifP hF b7
          refine lv_iinc (v := (x3 + (1 : Int32))) (lv' := [(3, .int (x3 + (1 : Int32))), (4, .int r5), (0, .ref (ad G 0)), (1, .int x1), (2, .int x2)]) hC.1 hC.2.1 dX6_widow_58 hl (k := 4) rfl rfl (by decide) rfl (fun ls hl => ?_)
          refine lv_goto (tgt := 21) hC.1 hC.2.1 dX6_widow_61 (by decide) ?_
          exact ih hF hw (lv_sub hl [2, 3, 4, 0] rfl)
        · have hF := ifN hF b7
          refine lv_iload_n hC.1 hC.2.1 dX6_widow_53 rfl (lv_at hl 4 rfl) ?_
          refine lv_istore_n (lv' := [(1, .int x3), (4, .int r5), (0, .ref (ad G 0)), (2, .int x2), (3, .int x3)]) hC.1 hC.2.1 dX6_widow_54 rfl hl (by decide) rfl (fun ls hl => ?_)
          refine lv_iload hC.1 hC.2.1 dX6_widow_55 (lv_at hl 1 rfl) ?_
          refine lv_istore_n (lv' := [(2, .int r5), (1, .int x3), (4, .int r5), (0, .ref (ad G 0)), (3, .int x3)]) hC.1 hC.2.1 dX6_widow_57 rfl hl (by decide) rfl (fun ls hl => ?_)
          refine lv_iinc (v := (x3 + (1 : Int32))) (lv' := [(3, .int (x3 + (1 : Int32))), (2, .int r5), (1, .int x3), (4, .int r5), (0, .ref (ad G 0))]) hC.1 hC.2.1 dX6_widow_58 hl (k := 4) rfl rfl (by decide) rfl (fun ls hl => ?_)
          refine lv_goto (tgt := 21) hC.1 hC.2.1 dX6_widow_61 (by decide) ?_
          exact ih hF hw (lv_sub hl [4, 2, 1, 0] rfl)
def F_X6_widow (fu : Nat) (M : Mm) : Option (Int32 × Mm) :=
  if (M.1 24 0) = 0 then
    some ((-4 : Int32), M)
  else
    F_X6_widow_21 fu fu M (-9 : Int32) (61 : Int32) (0 : Int32)
set_option maxRecDepth 100000 in
set_option maxHeartbeats 4000000 in
theorem c_X6_widow {l : Launch} {G : Gv} {fu : Nat} {M : Mm} {r : Int32} {M' : Mm} (hF : F_X6_widow fu M = some (r, M')) : Met l yX6_widow (.code yX6_widow cX6_widow 5 (some .int) :: zU) rm_X6_widow (va_Pc [.ref (ad G 0)] (Wd G M)) (QI G r M') 0 0 (zA G) := by
  refine zMet (by decide) rfl (Nat.le_of_ble_eq_true rfl) ?_
  intro p e s m below meth c hC hw ls hl
  have hl : lv_has ls 5 [(0, .ref (ad G 0))] := hl
  unfold F_X6_widow at hF
  refine lv_aload_n hC.1 hC.2.1 dX6_widow_0 rfl (lv_at hl 0 rfl) ?_
  refine g6_north hC hw q1_195 dX6_widow_1 ?_
  refine g2_men hC hw (rfl : kd 24 = 11) q1_29 dX6_widow_4 ?_
  refine lv_if_ne (tgt := 13) hC.1 hC.2.1 dX6_widow_7 (by decide) (fun b1 => ?_) (fun b1 => ?_)
  · have hF := ifN hF b1
    refine lv_bipush (v := (-9 : Int32)) hC.1 hC.2.1 dX6_widow_13 (by decide) ?_
    refine lv_istore_n (lv' := [(1, .int (-9 : Int32)), (0, .ref (ad G 0))]) hC.1 hC.2.1 dX6_widow_15 rfl hl (by decide) rfl (fun ls hl => ?_)
    refine lv_bipush (v := (61 : Int32)) hC.1 hC.2.1 dX6_widow_16 (by decide) ?_
    refine lv_istore_n (lv' := [(2, .int (61 : Int32)), (1, .int (-9 : Int32)), (0, .ref (ad G 0))]) hC.1 hC.2.1 dX6_widow_18 rfl hl (by decide) rfl (fun ls hl => ?_)
    refine lv_iconst (v := (0 : Int32)) hC.1 hC.2.1 dX6_widow_19 (by decide) ?_
    refine lv_istore_n (lv' := [(3, .int (0 : Int32)), (2, .int (61 : Int32)), (1, .int (-9 : Int32)), (0, .ref (ad G 0))]) hC.1 hC.2.1 dX6_widow_20 rfl hl (by decide) rfl (fun ls hl => ?_)
    exact w_X6_widow_21 hC _ hF hw (lv_sub hl [3, 2, 1, 0] rfl)
  · have hF := ifP hF b1
    refine lv_bipush (v := (-4 : Int32)) hC.1 hC.2.1 dX6_widow_10 (by decide) ?_
    exact r_iretE hC hw hF dX6_widow_12
abbrev rm_X6_heir : Room := { frames := 5, cells := 0, slots := 0, locals := 124 }
theorem yv_X6_heir : YV yX6_heir cX6_heir 4 (some .int) 2 RX6 := ⟨⟨q2_188, q2_189, q1_1, q2_190⟩, by decide +kernel⟩
theorem dX6_heir_0 : decode cX6_heir 0 = .ok (.aload_n 0, 1) := by decide +kernel
theorem dX6_heir_1 : decode cX6_heir 1 = .ok (.getfield 24, 3) := by decide +kernel
theorem dX6_heir_4 : decode cX6_heir 4 = .ok (.iload_n 1, 1) := by decide +kernel
theorem dX6_heir_5 : decode cX6_heir 5 = .ok (.invokevirtual 155, 3) := by decide +kernel
theorem dX6_heir_8 : decode cX6_heir 8 = .ok (.ifCond .eq 10, 3) := by decide +kernel
theorem dX6_heir_11 : decode cX6_heir 11 = .ok (.iload_n 2, 1) := by decide +kernel
theorem dX6_heir_12 : decode cX6_heir 12 = .ok (.invokestatic 230, 3) := by decide +kernel
theorem dX6_heir_15 : decode cX6_heir 15 = .ok (.ifCond .ne 5, 3) := by decide +kernel
theorem dX6_heir_18 : decode cX6_heir 18 = .ok (.iconst (-1), 1) := by decide +kernel
theorem dX6_heir_19 : decode cX6_heir 19 = .ok (.ireturn, 1) := by decide +kernel
theorem dX6_heir_20 : decode cX6_heir 20 = .ok (.iload_n 1, 1) := by decide +kernel
theorem dX6_heir_21 : decode cX6_heir 21 = .ok (.istore_n 3, 1) := by decide +kernel
theorem dX6_heir_22 : decode cX6_heir 22 = .ok (.iload_n 3, 1) := by decide +kernel
theorem dX6_heir_23 : decode cX6_heir 23 = .ok (.aload_n 0, 1) := by decide +kernel
theorem dX6_heir_24 : decode cX6_heir 24 = .ok (.getfield 24, 3) := by decide +kernel
theorem dX6_heir_27 : decode cX6_heir 27 = .ok (.getfield 152, 3) := by decide +kernel
theorem dX6_heir_30 : decode cX6_heir 30 = .ok (.if_icmp .ge 23, 3) := by decide +kernel
theorem dX6_heir_33 : decode cX6_heir 33 = .ok (.aload_n 0, 1) := by decide +kernel
theorem dX6_heir_34 : decode cX6_heir 34 = .ok (.getfield 24, 3) := by decide +kernel
theorem dX6_heir_37 : decode cX6_heir 37 = .ok (.iload_n 3, 1) := by decide +kernel
theorem dX6_heir_38 : decode cX6_heir 38 = .ok (.iload_n 2, 1) := by decide +kernel
theorem dX6_heir_39 : decode cX6_heir 39 = .ok (.invokevirtual 233, 3) := by decide +kernel
theorem dX6_heir_42 : decode cX6_heir 42 = .ok (.ifCond .le 5, 3) := by decide +kernel
theorem dX6_heir_45 : decode cX6_heir 45 = .ok (.iload_n 3, 1) := by decide +kernel
theorem dX6_heir_46 : decode cX6_heir 46 = .ok (.ireturn, 1) := by decide +kernel
theorem dX6_heir_47 : decode cX6_heir 47 = .ok (.iinc 3 1, 3) := by decide +kernel
theorem dX6_heir_50 : decode cX6_heir 50 = .ok (.goto (-28), 3) := by decide +kernel
theorem dX6_heir_53 : decode cX6_heir 53 = .ok (.iload_n 1, 1) := by decide +kernel
theorem dX6_heir_54 : decode cX6_heir 54 = .ok (.iconst 1, 1) := by decide +kernel
theorem dX6_heir_55 : decode cX6_heir 55 = .ok (.isub, 1) := by decide +kernel
theorem dX6_heir_56 : decode cX6_heir 56 = .ok (.istore_n 3, 1) := by decide +kernel
theorem dX6_heir_57 : decode cX6_heir 57 = .ok (.iload_n 3, 1) := by decide +kernel
theorem dX6_heir_58 : decode cX6_heir 58 = .ok (.ifCond .lt 23, 3) := by decide +kernel
theorem dX6_heir_61 : decode cX6_heir 61 = .ok (.aload_n 0, 1) := by decide +kernel
theorem dX6_heir_62 : decode cX6_heir 62 = .ok (.getfield 24, 3) := by decide +kernel
theorem dX6_heir_65 : decode cX6_heir 65 = .ok (.iload_n 3, 1) := by decide +kernel
theorem dX6_heir_66 : decode cX6_heir 66 = .ok (.iload_n 2, 1) := by decide +kernel
theorem dX6_heir_67 : decode cX6_heir 67 = .ok (.invokevirtual 233, 3) := by decide +kernel
theorem dX6_heir_70 : decode cX6_heir 70 = .ok (.ifCond .le 5, 3) := by decide +kernel
theorem dX6_heir_73 : decode cX6_heir 73 = .ok (.iload_n 3, 1) := by decide +kernel
theorem dX6_heir_74 : decode cX6_heir 74 = .ok (.ireturn, 1) := by decide +kernel
theorem dX6_heir_75 : decode cX6_heir 75 = .ok (.iinc 3 (-1), 3) := by decide +kernel
theorem dX6_heir_78 : decode cX6_heir 78 = .ok (.goto (-21), 3) := by decide +kernel
theorem dX6_heir_81 : decode cX6_heir 81 = .ok (.bipush (-9), 2) := by decide +kernel
theorem dX6_heir_83 : decode cX6_heir 83 = .ok (.ireturn, 1) := by decide +kernel
def F_X6_heir_57 (fu : Nat) (M : Mm) : Nat → Int32 → Int32 → Option Int32
  | 0, _, _ => none
  | n + 1, x2, x3 =>
    if x3 < 0 then
      some (-9 : Int32)
    else
      ob1 (F_X2_bulkIn fu M 24 x3 x2) (fun r3 =>
      if r3 ≤ 0 then
        F_X6_heir_57 fu M n x2 (x3 + (-1 : Int32))
      else
        some x3)
set_option maxRecDepth 100000 in
set_option maxHeartbeats 4000000 in
theorem w_X6_heir_57 {p : Program} {l : Launch} {e : Env} {s : State} {m : MethodId} {args : Array Value} {below : List Frame} {meth : Method} {c : Code} {G : Gv} (hC : Cx p s m args meth c cX6_heir 4 (some .int) RX6) {fu : Nat} {r : Int32} {M : Mm} : ∀ (n : Nat) {x2 : Int32} {x3 : Int32} {H : Heap} {locs : List Loc} {ls : Array Slot}, F_X6_heir_57 fu M n x2 x3 = some r → St G s H locs M → lv_has ls 4 [(0, .ref (ad G 0)), (2, .int x2), (3, .int x3)] → W p l e rm_X6_heir s m args below meth c H locs 0 0 (MQ below (QI G r M) args s 0 0 (zA G)) (F0 m 57 ls []) := by
  intro n
  induction n with
  | zero =>
    intro x2 x3 H locs ls hF hw hl
    cases hF
  | succ n ih =>
    intro x2 x3 H locs ls hF hw hl
    unfold F_X6_heir_57 at hF
    refine lv_iload_n hC.1 hC.2.1 dX6_heir_57 rfl (lv_at hl 2 rfl) ?_
    refine lv_if_lt (tgt := 81) hC.1 hC.2.1 dX6_heir_58 (by decide) (fun b1 => ?_) (fun b1 => ?_)
    · have hF := ifP hF b1
      refine lv_bipush (v := (-9 : Int32)) hC.1 hC.2.1 dX6_heir_81 (by decide) ?_
      exact r_iretP hC hw hF dX6_heir_83
    · have hF := ifN hF b1
      refine lv_aload_n hC.1 hC.2.1 dX6_heir_61 rfl (lv_at hl 0 rfl) ?_
      refine g6_north hC hw q1_195 dX6_heir_62 ?_
      refine lv_iload_n hC.1 hC.2.1 dX6_heir_65 rfl (lv_at hl 2 rfl) ?_
      refine lv_iload_n hC.1 hC.2.1 dX6_heir_66 rfl (lv_at hl 1 rfl) ?_
      obtain ⟨r3, h2, hF⟩ := ob1S hF
      refine k_Vi (As := [.int x3, .int x2]) (rest := []) hC hw (c_X2_bulkIn (M := M) (rfl : kd 24 = 11) h2) (RC_N (rfl : kd 24 = 11)) yv_X2_bulkIn q2_150 ⟨rfl, rfl⟩ ⟨Nat.le_of_ble_eq_true rfl, Nat.le_of_ble_eq_true rfl⟩ ⟨Nat.zero_le _, Nat.zero_le _⟩ rfl rfl (Nat.le_of_ble_eq_true rfl) hl dX6_heir_67 (fun H locs hw => ?_)
      refine lv_if_le (tgt := 75) hC.1 hC.2.1 dX6_heir_70 (by decide) (fun b4 => ?_) (fun b4 => ?_)
      · have hF := ifP hF b4
        refine lv_iinc (v := (x3 + (-1 : Int32))) (lv' := [(3, .int (x3 + (-1 : Int32))), (0, .ref (ad G 0)), (2, .int x2)]) hC.1 hC.2.1 dX6_heir_75 hl (k := 2) rfl rfl (by decide) rfl (fun ls hl => ?_)
        refine lv_goto (tgt := 57) hC.1 hC.2.1 dX6_heir_78 (by decide) ?_
        exact ih hF hw (lv_sub hl [1, 2, 0] rfl)
      · have hF := ifN hF b4
        refine lv_iload_n hC.1 hC.2.1 dX6_heir_73 rfl (lv_at hl 2 rfl) ?_
        exact r_iretP hC hw hF dX6_heir_74
def F_X6_heir_22 (fu : Nat) (M : Mm) : Nat → Int32 → Int32 → Int32 → Option Int32
  | 0, _, _, _ => none
  | n + 1, x1, x2, x3 =>
    if (M.1 24 0) ≤ x3 then
      F_X6_heir_57 fu M fu x2 (x1 - (1 : Int32))
    else
      ob1 (F_X2_bulkIn fu M 24 x3 x2) (fun r3 =>
      if r3 ≤ 0 then
        F_X6_heir_22 fu M n x1 x2 (x3 + (1 : Int32))
      else
        some x3)
set_option maxRecDepth 100000 in
set_option maxHeartbeats 4000000 in
theorem w_X6_heir_22 {p : Program} {l : Launch} {e : Env} {s : State} {m : MethodId} {args : Array Value} {below : List Frame} {meth : Method} {c : Code} {G : Gv} (hC : Cx p s m args meth c cX6_heir 4 (some .int) RX6) {fu : Nat} {r : Int32} {M : Mm} : ∀ (n : Nat) {x1 : Int32} {x2 : Int32} {x3 : Int32} {H : Heap} {locs : List Loc} {ls : Array Slot}, F_X6_heir_22 fu M n x1 x2 x3 = some r → St G s H locs M → lv_has ls 4 [(0, .ref (ad G 0)), (1, .int x1), (2, .int x2), (3, .int x3)] → W p l e rm_X6_heir s m args below meth c H locs 0 0 (MQ below (QI G r M) args s 0 0 (zA G)) (F0 m 22 ls []) := by
  intro n
  induction n with
  | zero =>
    intro x1 x2 x3 H locs ls hF hw hl
    cases hF
  | succ n ih =>
    intro x1 x2 x3 H locs ls hF hw hl
    unfold F_X6_heir_22 at hF
    refine lv_iload_n hC.1 hC.2.1 dX6_heir_22 rfl (lv_at hl 3 rfl) ?_
    refine lv_aload_n hC.1 hC.2.1 dX6_heir_23 rfl (lv_at hl 0 rfl) ?_
    refine g6_north hC hw q1_195 dX6_heir_24 ?_
    refine g2_men hC hw (rfl : kd 24 = 11) q1_29 dX6_heir_27 ?_
    refine lv_icmp_ge (tgt := 53) hC.1 hC.2.1 dX6_heir_30 (by decide) (fun b1 => ?_) (fun b1 => ?_)
    · have hF := ifP hF b1
      refine lv_iload_n hC.1 hC.2.1 dX6_heir_53 rfl (lv_at hl 1 rfl) ?_
      refine lv_iconst (v := (1 : Int32)) hC.1 hC.2.1 dX6_heir_54 (by decide) ?_
      refine lv_isub hC.1 hC.2.1 dX6_heir_55 ?_
      refine lv_istore_n (lv' := [(3, .int (x1 - (1 : Int32))), (0, .ref (ad G 0)), (1, .int x1), (2, .int x2)]) hC.1 hC.2.1 dX6_heir_56 rfl hl (by decide) rfl (fun ls hl => ?_)
      exact w_X6_heir_57 hC _ hF hw (lv_sub hl [1, 3, 0] rfl)
    · have hF := ifN hF b1
      refine lv_aload_n hC.1 hC.2.1 dX6_heir_33 rfl (lv_at hl 0 rfl) ?_
      refine g6_north hC hw q1_195 dX6_heir_34 ?_
      refine lv_iload_n hC.1 hC.2.1 dX6_heir_37 rfl (lv_at hl 3 rfl) ?_
      refine lv_iload_n hC.1 hC.2.1 dX6_heir_38 rfl (lv_at hl 2 rfl) ?_
      obtain ⟨r3, h2, hF⟩ := ob1S hF
      refine k_Vi (As := [.int x3, .int x2]) (rest := []) hC hw (c_X2_bulkIn (M := M) (rfl : kd 24 = 11) h2) (RC_N (rfl : kd 24 = 11)) yv_X2_bulkIn q2_150 ⟨rfl, rfl⟩ ⟨Nat.le_of_ble_eq_true rfl, Nat.le_of_ble_eq_true rfl⟩ ⟨Nat.zero_le _, Nat.zero_le _⟩ rfl rfl (Nat.le_of_ble_eq_true rfl) hl dX6_heir_39 (fun H locs hw => ?_)
      refine lv_if_le (tgt := 47) hC.1 hC.2.1 dX6_heir_42 (by decide) (fun b4 => ?_) (fun b4 => ?_)
      · have hF := ifP hF b4
        refine lv_iinc (v := (x3 + (1 : Int32))) (lv' := [(3, .int (x3 + (1 : Int32))), (0, .ref (ad G 0)), (1, .int x1), (2, .int x2)]) hC.1 hC.2.1 dX6_heir_47 hl (k := 3) rfl rfl (by decide) rfl (fun ls hl => ?_)
        refine lv_goto (tgt := 22) hC.1 hC.2.1 dX6_heir_50 (by decide) ?_
        exact ih hF hw (lv_sub hl [1, 2, 3, 0] rfl)
      · have hF := ifN hF b4
        refine lv_iload_n hC.1 hC.2.1 dX6_heir_45 rfl (lv_at hl 3 rfl) ?_
        exact r_iretP hC hw hF dX6_heir_46
def F_X6_heir (fu : Nat) (M : Mm) (x1 : Int32) (x2 : Int32) : Option Int32 :=
  ob1 (F_X2_isMan fu M 24 x1) (fun r2 =>
  if r2 = 0 then
    some (-1 : Int32)
  else
    ob1 (F_X6_isAhead fu M x2) (fun r5 =>
    if r5 = 0 then
      some (-1 : Int32)
    else
      F_X6_heir_22 fu M fu x1 x2 x1))
set_option maxRecDepth 100000 in
set_option maxHeartbeats 4000000 in
theorem c_X6_heir {l : Launch} {G : Gv} {fu : Nat} {M : Mm} {x1 : Int32} {x2 : Int32} {r : Int32} (hF : F_X6_heir fu M x1 x2 = some r) : Met l yX6_heir (.code yX6_heir cX6_heir 4 (some .int) :: zU) rm_X6_heir (va_Pc [.ref (ad G 0), .int x1, .int x2] (Wd G M)) (QI G r M) 0 0 (zA G) := by
  refine zMet (by decide) rfl (Nat.le_of_ble_eq_true rfl) ?_
  intro p e s m below meth c hC hw ls hl
  have hl : lv_has ls 4 [(0, .ref (ad G 0)), (1, .int x1), (2, .int x2)] := hl
  unfold F_X6_heir at hF
  refine lv_aload_n hC.1 hC.2.1 dX6_heir_0 rfl (lv_at hl 0 rfl) ?_
  refine g6_north hC hw q1_195 dX6_heir_1 ?_
  refine lv_iload_n hC.1 hC.2.1 dX6_heir_4 rfl (lv_at hl 1 rfl) ?_
  obtain ⟨r2, h1, hF⟩ := ob1S hF
  refine k_Vi (As := [.int x1]) (rest := []) hC hw (c_X2_isMan (M := M) (rfl : kd 24 = 11) h1) (RC_N (rfl : kd 24 = 11)) yv_X2_isMan q2_31 ⟨rfl, rfl⟩ ⟨Nat.le_of_ble_eq_true rfl, Nat.le_of_ble_eq_true rfl⟩ ⟨Nat.zero_le _, Nat.zero_le _⟩ rfl rfl (Nat.le_of_ble_eq_true rfl) hl dX6_heir_5 (fun H locs hw => ?_)
  refine lv_if_eq (tgt := 18) hC.1 hC.2.1 dX6_heir_8 (by decide) (fun b3 => ?_) (fun b3 => ?_)
  · have hF := ifP hF b3
    refine lv_iconst (v := (-1 : Int32)) hC.1 hC.2.1 dX6_heir_18 (by decide) ?_
    exact r_iretP hC hw hF dX6_heir_19
  · have hF := ifN hF b3
    refine lv_iload_n hC.1 hC.2.1 dX6_heir_11 rfl (lv_at hl 2 rfl) ?_
    obtain ⟨r5, h4, hF⟩ := ob1S hF
    refine k_Si (As := [.int x2]) (rest := []) hC hw (c_X6_isAhead (M := M) h4) ys_X6_isAhead q2_147 ⟨rfl, rfl⟩ ⟨Nat.le_of_ble_eq_true rfl, Nat.le_of_ble_eq_true rfl⟩ ⟨Nat.zero_le _, Nat.zero_le _⟩ rfl rfl (Nat.le_of_ble_eq_true rfl) hl dX6_heir_12 (fun H locs hw => ?_)
    refine lv_if_ne (tgt := 20) hC.1 hC.2.1 dX6_heir_15 (by decide) (fun b6 => ?_) (fun b6 => ?_)
    · have hF := ifN hF b6
      refine lv_iload_n hC.1 hC.2.1 dX6_heir_20 rfl (lv_at hl 1 rfl) ?_
      refine lv_istore_n (lv' := [(3, .int x1), (0, .ref (ad G 0)), (1, .int x1), (2, .int x2)]) hC.1 hC.2.1 dX6_heir_21 rfl hl (by decide) rfl (fun ls hl => ?_)
      exact w_X6_heir_22 hC _ hF hw (lv_sub hl [1, 2, 3, 0] rfl)
    · have hF := ifP hF b6
      refine lv_iconst (v := (-1 : Int32)) hC.1 hC.2.1 dX6_heir_18 (by decide) ?_
      exact r_iretP hC hw hF dX6_heir_19
abbrev rm_X6_guard : Room := { frames := 5, cells := 0, slots := 0, locals := 125 }
theorem yv_X6_guard : YV yX6_guard cX6_guard 9 (some .int) 3 RX6 := ⟨⟨q2_192, q2_193, q1_1, q2_194⟩, by decide +kernel⟩
theorem dX6_guard_0 : decode cX6_guard 0 = .ok (.aload_n 0, 1) := by decide +kernel
theorem dX6_guard_1 : decode cX6_guard 1 = .ok (.iload_n 3, 1) := by decide +kernel
theorem dX6_guard_2 : decode cX6_guard 2 = .ok (.invokevirtual 78, 3) := by decide +kernel
theorem dX6_guard_5 : decode cX6_guard 5 = .ok (.astore 4, 2) := by decide +kernel
theorem dX6_guard_7 : decode cX6_guard 7 = .ok (.aload 4, 2) := by decide +kernel
theorem dX6_guard_9 : decode cX6_guard 9 = .ok (.ifnull 21, 3) := by decide +kernel
theorem dX6_guard_12 : decode cX6_guard 12 = .ok (.aload_n 0, 1) := by decide +kernel
theorem dX6_guard_13 : decode cX6_guard 13 = .ok (.getfield 24, 3) := by decide +kernel
theorem dX6_guard_16 : decode cX6_guard 16 = .ok (.iload_n 1, 1) := by decide +kernel
theorem dX6_guard_17 : decode cX6_guard 17 = .ok (.invokevirtual 249, 3) := by decide +kernel
theorem dX6_guard_20 : decode cX6_guard 20 = .ok (.ifCond .eq 10, 3) := by decide +kernel
theorem dX6_guard_23 : decode cX6_guard 23 = .ok (.iload_n 2, 1) := by decide +kernel
theorem dX6_guard_24 : decode cX6_guard 24 = .ok (.invokestatic 230, 3) := by decide +kernel
theorem dX6_guard_27 : decode cX6_guard 27 = .ok (.ifCond .ne 5, 3) := by decide +kernel
theorem dX6_guard_30 : decode cX6_guard 30 = .ok (.iconst (-1), 1) := by decide +kernel
theorem dX6_guard_31 : decode cX6_guard 31 = .ok (.ireturn, 1) := by decide +kernel
theorem dX6_guard_32 : decode cX6_guard 32 = .ok (.aload_n 0, 1) := by decide +kernel
theorem dX6_guard_33 : decode cX6_guard 33 = .ok (.getfield 24, 3) := by decide +kernel
theorem dX6_guard_36 : decode cX6_guard 36 = .ok (.getfield 152, 3) := by decide +kernel
theorem dX6_guard_39 : decode cX6_guard 39 = .ok (.ifCond .ne 6, 3) := by decide +kernel
theorem dX6_guard_42 : decode cX6_guard 42 = .ok (.bipush (-4), 2) := by decide +kernel
theorem dX6_guard_44 : decode cX6_guard 44 = .ok (.ireturn, 1) := by decide +kernel
theorem dX6_guard_45 : decode cX6_guard 45 = .ok (.iconst 0, 1) := by decide +kernel
theorem dX6_guard_46 : decode cX6_guard 46 = .ok (.istore 5, 2) := by decide +kernel
theorem dX6_guard_48 : decode cX6_guard 48 = .ok (.iconst 0, 1) := by decide +kernel
theorem dX6_guard_49 : decode cX6_guard 49 = .ok (.istore 6, 2) := by decide +kernel
theorem dX6_guard_51 : decode cX6_guard 51 = .ok (.iload 6, 2) := by decide +kernel
theorem dX6_guard_53 : decode cX6_guard 53 = .ok (.aload_n 0, 1) := by decide +kernel
theorem dX6_guard_54 : decode cX6_guard 54 = .ok (.getfield 24, 3) := by decide +kernel
theorem dX6_guard_57 : decode cX6_guard 57 = .ok (.getfield 152, 3) := by decide +kernel
theorem dX6_guard_60 : decode cX6_guard 60 = .ok (.if_icmp .ge 80, 3) := by decide +kernel
theorem dX6_guard_63 : decode cX6_guard 63 = .ok (.aload_n 0, 1) := by decide +kernel
theorem dX6_guard_64 : decode cX6_guard 64 = .ok (.getfield 24, 3) := by decide +kernel
theorem dX6_guard_67 : decode cX6_guard 67 = .ok (.getfield 214, 3) := by decide +kernel
theorem dX6_guard_70 : decode cX6_guard 70 = .ok (.iload 6, 2) := by decide +kernel
theorem dX6_guard_72 : decode cX6_guard 72 = .ok (.invokestatic 101, 3) := by decide +kernel
theorem dX6_guard_75 : decode cX6_guard 75 = .ok (.istore 7, 2) := by decide +kernel
theorem dX6_guard_77 : decode cX6_guard 77 = .ok (.iload_n 1, 1) := by decide +kernel
theorem dX6_guard_78 : decode cX6_guard 78 = .ok (.iload 6, 2) := by decide +kernel
theorem dX6_guard_80 : decode cX6_guard 80 = .ok (.invokestatic 252, 3) := by decide +kernel
theorem dX6_guard_83 : decode cX6_guard 83 = .ok (.ifCond .eq 16, 3) := by decide +kernel
theorem dX6_guard_86 : decode cX6_guard 86 = .ok (.aload_n 0, 1) := by decide +kernel
theorem dX6_guard_87 : decode cX6_guard 87 = .ok (.getfield 24, 3) := by decide +kernel
theorem dX6_guard_90 : decode cX6_guard 90 = .ok (.iload 6, 2) := by decide +kernel
theorem dX6_guard_92 : decode cX6_guard 92 = .ok (.iload_n 2, 1) := by decide +kernel
theorem dX6_guard_93 : decode cX6_guard 93 = .ok (.invokevirtual 255, 3) := by decide +kernel
theorem dX6_guard_96 : decode cX6_guard 96 = .ok (.goto 5, 3) := by decide +kernel
theorem dX6_guard_99 : decode cX6_guard 99 = .ok (.iload 7, 2) := by decide +kernel
theorem dX6_guard_101 : decode cX6_guard 101 = .ok (.istore 8, 2) := by decide +kernel
theorem dX6_guard_103 : decode cX6_guard 103 = .ok (.iload 8, 2) := by decide +kernel
theorem dX6_guard_105 : decode cX6_guard 105 = .ok (.bipush (-9), 2) := by decide +kernel
theorem dX6_guard_107 : decode cX6_guard 107 = .ok (.if_icmp .ne 6, 3) := by decide +kernel
theorem dX6_guard_110 : decode cX6_guard 110 = .ok (.bipush (-9), 2) := by decide +kernel
theorem dX6_guard_112 : decode cX6_guard 112 = .ok (.ireturn, 1) := by decide +kernel
theorem dX6_guard_113 : decode cX6_guard 113 = .ok (.iload 5, 2) := by decide +kernel
theorem dX6_guard_115 : decode cX6_guard 115 = .ok (.iload 8, 2) := by decide +kernel
theorem dX6_guard_117 : decode cX6_guard 117 = .ok (.iload 7, 2) := by decide +kernel
theorem dX6_guard_119 : decode cX6_guard 119 = .ok (.isub, 1) := by decide +kernel
theorem dX6_guard_120 : decode cX6_guard 120 = .ok (.iadd, 1) := by decide +kernel
theorem dX6_guard_121 : decode cX6_guard 121 = .ok (.istore 5, 2) := by decide +kernel
theorem dX6_guard_123 : decode cX6_guard 123 = .ok (.aload_n 0, 1) := by decide +kernel
theorem dX6_guard_124 : decode cX6_guard 124 = .ok (.getfield 64, 3) := by decide +kernel
theorem dX6_guard_127 : decode cX6_guard 127 = .ok (.iload 6, 2) := by decide +kernel
theorem dX6_guard_129 : decode cX6_guard 129 = .ok (.iload 8, 2) := by decide +kernel
theorem dX6_guard_131 : decode cX6_guard 131 = .ok (.invokestatic 105, 3) := by decide +kernel
theorem dX6_guard_134 : decode cX6_guard 134 = .ok (.iinc 6 1, 3) := by decide +kernel
theorem dX6_guard_137 : decode cX6_guard 137 = .ok (.goto (-86), 3) := by decide +kernel
theorem dX6_guard_140 : decode cX6_guard 140 = .ok (.aload 4, 2) := by decide +kernel
theorem dX6_guard_142 : decode cX6_guard 142 = .ok (.aload_n 0, 1) := by decide +kernel
theorem dX6_guard_143 : decode cX6_guard 143 = .ok (.getfield 64, 3) := by decide +kernel
theorem dX6_guard_146 : decode cX6_guard 146 = .ok (.aload_n 0, 1) := by decide +kernel
theorem dX6_guard_147 : decode cX6_guard 147 = .ok (.getfield 24, 3) := by decide +kernel
theorem dX6_guard_150 : decode cX6_guard 150 = .ok (.getfield 152, 3) := by decide +kernel
theorem dX6_guard_153 : decode cX6_guard 153 = .ok (.invokevirtual 258, 3) := by decide +kernel
theorem dX6_guard_156 : decode cX6_guard 156 = .ok (.iload 5, 2) := by decide +kernel
theorem dX6_guard_158 : decode cX6_guard 158 = .ok (.ireturn, 1) := by decide +kernel
def F_X6_guard_101 (fu : Nat) (k51 : Mm → Int32 → Int32 → Nat → Int32 → Int32 → Option (Int32 × Mm)) (M : Mm) (x1 : Int32) (x2 : Int32) (c4 : Nat) (x5 : Int32) (x6 : Int32) (x7 : Int32) (t0 : Int32) : Option (Int32 × Mm) :=
  if t0 = (-9 : Int32) then
    some ((-9 : Int32), M)
  else
    ob1 (F_X6_write fu M 82 x6 t0) (fun M3 =>
    k51 M3 x1 x2 c4 (x5 + (t0 - x7)) (x6 + (1 : Int32)))
set_option maxRecDepth 100000 in
set_option maxHeartbeats 4000000 in
theorem w_X6_guard_101 {p : Program} {l : Launch} {e : Env} {s : State} {m : MethodId} {args : Array Value} {below : List Frame} {meth : Method} {c : Code} {G : Gv} (hC : Cx p s m args meth c cX6_guard 9 (some .int) RX6) {fu : Nat} {r : Int32} {M' : Mm} {k51 : Mm → Int32 → Int32 → Nat → Int32 → Int32 → Option (Int32 × Mm)} (hk_51 : ∀ {x1 : Int32} {x2 : Int32} {c4 : Nat} {x5 : Int32} {x6 : Int32} {M : Mm} {H : Heap} {locs : List Loc} {ls : Array Slot} (hk4 : kd c4 = 12), k51 M x1 x2 c4 x5 x6 = some (r, M') → St G s H locs M → lv_has ls 9 [(0, .ref (ad G 0)), (1, .int x1), (2, .int x2), (4, .ref (ad G c4)), (5, .int x5), (6, .int x6)] → W p l e rm_X6_guard s m args below meth c H locs 0 0 (MQ below (QI G r M') args s 0 0 (zA G)) (F0 m 51 ls [])) {x1 : Int32} {x2 : Int32} {c4 : Nat} {x5 : Int32} {x6 : Int32} {x7 : Int32} {t0 : Int32} {M : Mm} {H : Heap} {locs : List Loc} {ls : Array Slot} (hk4 : kd c4 = 12) (hF : F_X6_guard_101 fu k51 M x1 x2 c4 x5 x6 x7 t0 = some (r, M')) (hw : St G s H locs M) (hl : lv_has ls 9 [(0, .ref (ad G 0)), (1, .int x1), (2, .int x2), (4, .ref (ad G c4)), (5, .int x5), (6, .int x6), (7, .int x7)]) : W p l e rm_X6_guard s m args below meth c H locs 0 0 (MQ below (QI G r M') args s 0 0 (zA G)) (F0 m 101 ls [.int t0]) := by
  unfold F_X6_guard_101 at hF
  refine lv_istore (lv' := [(8, .int t0), (0, .ref (ad G 0)), (1, .int x1), (2, .int x2), (4, .ref (ad G c4)), (5, .int x5), (6, .int x6), (7, .int x7)]) hC.1 hC.2.1 dX6_guard_101 hl (by decide) rfl (fun ls hl => ?_)
  refine lv_iload hC.1 hC.2.1 dX6_guard_103 (lv_at hl 0 rfl) ?_
  refine lv_bipush (v := (-9 : Int32)) hC.1 hC.2.1 dX6_guard_105 (by decide) ?_
  refine lv_icmp_ne (tgt := 113) hC.1 hC.2.1 dX6_guard_107 (by decide) (fun b1 => ?_) (fun b1 => ?_)
  · have hF := ifN hF b1
    refine lv_iload hC.1 hC.2.1 dX6_guard_113 (lv_at hl 5 rfl) ?_
    refine lv_iload hC.1 hC.2.1 dX6_guard_115 (lv_at hl 0 rfl) ?_
    refine lv_iload hC.1 hC.2.1 dX6_guard_117 (lv_at hl 7 rfl) ?_
    refine lv_isub hC.1 hC.2.1 dX6_guard_119 ?_
    refine lv_iadd hC.1 hC.2.1 dX6_guard_120 ?_
    refine lv_istore (lv' := [(5, .int (x5 + (t0 - x7))), (8, .int t0), (0, .ref (ad G 0)), (1, .int x1), (2, .int x2), (4, .ref (ad G c4)), (6, .int x6), (7, .int x7)]) hC.1 hC.2.1 dX6_guard_121 hl (by decide) rfl (fun ls hl => ?_)
    refine lv_aload_n hC.1 hC.2.1 dX6_guard_123 rfl (lv_at hl 2 rfl) ?_
    refine g6_plan hC hw q1_206 dX6_guard_124 ?_
    refine lv_iload hC.1 hC.2.1 dX6_guard_127 (lv_at hl 6 rfl) ?_
    refine lv_iload hC.1 hC.2.1 dX6_guard_129 (lv_at hl 1 rfl) ?_
    obtain ⟨M3, h2, hF⟩ := ob1S hF
    refine k_Sv (As := [.ref (ad G 82), .int x6, .int t0]) (rest := []) hC hw (c_X6_write (M := M) (rfl : kd 82 = 1) h2) ys_X6_write q2_20 ⟨rfl, rfl⟩ ⟨Nat.le_of_ble_eq_true rfl, Nat.le_of_ble_eq_true rfl⟩ ⟨Nat.zero_le _, Nat.zero_le _⟩ rfl rfl (Nat.le_of_ble_eq_true rfl) hl dX6_guard_131 (fun H locs hw => ?_)
    refine lv_iinc (v := (x6 + (1 : Int32))) (lv' := [(6, .int (x6 + (1 : Int32))), (5, .int (x5 + (t0 - x7))), (8, .int t0), (0, .ref (ad G 0)), (1, .int x1), (2, .int x2), (4, .ref (ad G c4)), (7, .int x7)]) hC.1 hC.2.1 dX6_guard_134 hl (k := 6) rfl rfl (by decide) rfl (fun ls hl => ?_)
    refine lv_goto (tgt := 51) hC.1 hC.2.1 dX6_guard_137 (by decide) ?_
    exact hk_51 hk4 hF hw (lv_sub hl [3, 4, 5, 6, 1, 0] rfl)
  · have hF := ifP hF b1
    refine lv_bipush (v := (-9 : Int32)) hC.1 hC.2.1 dX6_guard_110 (by decide) ?_
    exact r_iretE hC hw hF dX6_guard_112
def F_X6_guard_51 (fu : Nat) : Nat → Mm → Int32 → Int32 → Nat → Int32 → Int32 → Option (Int32 × Mm)
  | 0, _, _, _, _, _, _ => none
  | n + 1, M, x1, x2, c4, x5, x6 =>
    if (M.1 24 0) ≤ x6 then
      ob1 (F_X4_take fu M c4 82 (M.1 24 0)) (fun M3 =>
      some (x5, M3))
    else
      ob1 (F_X6_read fu M 29 x6) (fun r5 =>
      ob1 (F_X6_isIn fu M x1 x6) (fun r7 =>
      if r7 = 0 then
        F_X6_guard_101 fu (F_X6_guard_51 fu n) M x1 x2 c4 x5 x6 r5 r5
      else
        ob1 (F_X2_leastGuard fu M 24 x6 x2) (fun r10 =>
        F_X6_guard_101 fu (F_X6_guard_51 fu n) M x1 x2 c4 x5 x6 r5 r10)))
set_option maxRecDepth 100000 in
set_option maxHeartbeats 4000000 in
theorem w_X6_guard_51 {p : Program} {l : Launch} {e : Env} {s : State} {m : MethodId} {args : Array Value} {below : List Frame} {meth : Method} {c : Code} {G : Gv} (hC : Cx p s m args meth c cX6_guard 9 (some .int) RX6) {fu : Nat} {r : Int32} {M' : Mm} : ∀ (n : Nat) {x1 : Int32} {x2 : Int32} {c4 : Nat} {x5 : Int32} {x6 : Int32} {M : Mm} {H : Heap} {locs : List Loc} {ls : Array Slot} (hk4 : kd c4 = 12), F_X6_guard_51 fu n M x1 x2 c4 x5 x6 = some (r, M') → St G s H locs M → lv_has ls 9 [(0, .ref (ad G 0)), (1, .int x1), (2, .int x2), (4, .ref (ad G c4)), (5, .int x5), (6, .int x6)] → W p l e rm_X6_guard s m args below meth c H locs 0 0 (MQ below (QI G r M') args s 0 0 (zA G)) (F0 m 51 ls []) := by
  intro n
  induction n with
  | zero =>
    intro x1 x2 c4 x5 x6 M H locs ls hk4 hF hw hl
    cases hF
  | succ n ih =>
    intro x1 x2 c4 x5 x6 M H locs ls hk4 hF hw hl
    unfold F_X6_guard_51 at hF
    refine lv_iload hC.1 hC.2.1 dX6_guard_51 (lv_at hl 5 rfl) ?_
    refine lv_aload_n hC.1 hC.2.1 dX6_guard_53 rfl (lv_at hl 0 rfl) ?_
    refine g6_north hC hw q1_195 dX6_guard_54 ?_
    refine g2_men hC hw (rfl : kd 24 = 11) q1_29 dX6_guard_57 ?_
    refine lv_icmp_ge (tgt := 140) hC.1 hC.2.1 dX6_guard_60 (by decide) (fun b1 => ?_) (fun b1 => ?_)
    · have hF := ifP hF b1
      refine lv_aload hC.1 hC.2.1 dX6_guard_140 (lv_at hl 3 rfl) ?_
      refine lv_aload_n hC.1 hC.2.1 dX6_guard_142 rfl (lv_at hl 0 rfl) ?_
      refine g6_plan hC hw q1_206 dX6_guard_143 ?_
      refine lv_aload_n hC.1 hC.2.1 dX6_guard_146 rfl (lv_at hl 0 rfl) ?_
      refine g6_north hC hw q1_195 dX6_guard_147 ?_
      refine g2_men hC hw (rfl : kd 24 = 11) q1_29 dX6_guard_150 ?_
      obtain ⟨M3, h2, hF⟩ := ob1S hF
      refine k_Vv (As := [.ref (ad G 82), .int (M.1 24 0)]) (rest := []) hC hw (c_X4_take (M := M) hk4 (rfl : kd 82 = 1) h2) (RC_R hk4) yv_X4_take q2_204 ⟨rfl, rfl⟩ ⟨Nat.le_of_ble_eq_true rfl, Nat.le_of_ble_eq_true rfl⟩ ⟨Nat.zero_le _, Nat.zero_le _⟩ rfl rfl (Nat.le_of_ble_eq_true rfl) hl dX6_guard_153 (fun H locs hw => ?_)
      refine lv_iload hC.1 hC.2.1 dX6_guard_156 (lv_at hl 4 rfl) ?_
      exact r_iretE hC hw hF dX6_guard_158
    · have hF := ifN hF b1
      refine lv_aload_n hC.1 hC.2.1 dX6_guard_63 rfl (lv_at hl 0 rfl) ?_
      refine g6_north hC hw q1_195 dX6_guard_64 ?_
      refine g2_shadeOf hC hw (rfl : kd 24 = 11) q1_44 dX6_guard_67 ?_
      refine lv_iload hC.1 hC.2.1 dX6_guard_70 (lv_at hl 5 rfl) ?_
      obtain ⟨r5, h4, hF⟩ := ob1S hF
      refine k_Si (As := [.ref (ad G 29), .int x6]) (rest := []) hC hw (c_X6_read (M := M) (rfl : kd 29 = 1) h4) ys_X6_read q2_17 ⟨rfl, rfl⟩ ⟨Nat.le_of_ble_eq_true rfl, Nat.le_of_ble_eq_true rfl⟩ ⟨Nat.zero_le _, Nat.zero_le _⟩ rfl rfl (Nat.le_of_ble_eq_true rfl) hl dX6_guard_72 (fun H locs hw => ?_)
      refine lv_istore (lv' := [(7, .int r5), (0, .ref (ad G 0)), (1, .int x1), (2, .int x2), (4, .ref (ad G c4)), (5, .int x5), (6, .int x6)]) hC.1 hC.2.1 dX6_guard_75 hl (by decide) rfl (fun ls hl => ?_)
      refine lv_iload_n hC.1 hC.2.1 dX6_guard_77 rfl (lv_at hl 2 rfl) ?_
      refine lv_iload hC.1 hC.2.1 dX6_guard_78 (lv_at hl 6 rfl) ?_
      obtain ⟨r7, h6, hF⟩ := ob1S hF
      refine k_Si (As := [.int x1, .int x6]) (rest := []) hC hw (c_X6_isIn (M := M) h6) ys_X6_isIn q2_199 ⟨rfl, rfl⟩ ⟨Nat.le_of_ble_eq_true rfl, Nat.le_of_ble_eq_true rfl⟩ ⟨Nat.zero_le _, Nat.zero_le _⟩ rfl rfl (Nat.le_of_ble_eq_true rfl) hl dX6_guard_80 (fun H locs hw => ?_)
      refine lv_if_eq (tgt := 99) hC.1 hC.2.1 dX6_guard_83 (by decide) (fun b8 => ?_) (fun b8 => ?_)
      · have hF := ifP hF b8
        refine lv_iload hC.1 hC.2.1 dX6_guard_99 (lv_at hl 0 rfl) ?_
        exact w_X6_guard_101 hC (hk_51 := ih) hk4 hF hw (lv_sub hl [1, 2, 3, 4, 5, 6, 0] rfl)
      · have hF := ifN hF b8
        refine lv_aload_n hC.1 hC.2.1 dX6_guard_86 rfl (lv_at hl 1 rfl) ?_
        refine g6_north hC hw q1_195 dX6_guard_87 ?_
        refine lv_iload hC.1 hC.2.1 dX6_guard_90 (lv_at hl 6 rfl) ?_
        refine lv_iload_n hC.1 hC.2.1 dX6_guard_92 rfl (lv_at hl 3 rfl) ?_
        obtain ⟨r10, h9, hF⟩ := ob1S hF
        refine k_Vi (As := [.int x6, .int x2]) (rest := []) hC hw (c_X2_leastGuard (M := M) (rfl : kd 24 = 11) h9) (RC_N (rfl : kd 24 = 11)) yv_X2_leastGuard q2_200 ⟨rfl, rfl⟩ ⟨Nat.le_of_ble_eq_true rfl, Nat.le_of_ble_eq_true rfl⟩ ⟨Nat.zero_le _, Nat.zero_le _⟩ rfl rfl (Nat.le_of_ble_eq_true rfl) hl dX6_guard_93 (fun H locs hw => ?_)
        refine lv_goto (tgt := 101) hC.1 hC.2.1 dX6_guard_96 (by decide) ?_
        exact w_X6_guard_101 hC (hk_51 := ih) hk4 hF hw (lv_sub hl [1, 2, 3, 4, 5, 6, 0] rfl)
def F_X6_guard (fu : Nat) (M : Mm) (x1 : Int32) (x2 : Int32) (x3 : Int32) : Option (Int32 × Mm) :=
  ob1 (F_X6_rowOf fu M x3) (fun r2 =>
  op1 r2 (
    some ((-1 : Int32), M)) (fun c3 =>
    if ¬ kd c3 = 12 then none else (
    ob1 (F_X2_isSet fu M 24 x1) (fun r6 =>
    if r6 = 0 then
      some ((-1 : Int32), M)
    else
      ob1 (F_X6_isAhead fu M x2) (fun r9 =>
      if r9 = 0 then
        some ((-1 : Int32), M)
      else
        if (M.1 24 0) = 0 then
          some ((-4 : Int32), M)
        else
          F_X6_guard_51 fu fu M x1 x2 c3 (0 : Int32) (0 : Int32))))))
set_option maxRecDepth 100000 in
set_option maxHeartbeats 4000000 in
theorem c_X6_guard {l : Launch} {G : Gv} {fu : Nat} {M : Mm} {x1 : Int32} {x2 : Int32} {x3 : Int32} {r : Int32} {M' : Mm} (hF : F_X6_guard fu M x1 x2 x3 = some (r, M')) : Met l yX6_guard (.code yX6_guard cX6_guard 9 (some .int) :: zU) rm_X6_guard (va_Pc [.ref (ad G 0), .int x1, .int x2, .int x3] (Wd G M)) (QI G r M') 0 0 (zA G) := by
  refine zMet (by decide) rfl (Nat.le_of_ble_eq_true rfl) ?_
  intro p e s m below meth c hC hw ls hl
  have hl : lv_has ls 9 [(0, .ref (ad G 0)), (1, .int x1), (2, .int x2), (3, .int x3)] := hl
  unfold F_X6_guard at hF
  refine lv_aload_n hC.1 hC.2.1 dX6_guard_0 rfl (lv_at hl 0 rfl) ?_
  refine lv_iload_n hC.1 hC.2.1 dX6_guard_1 rfl (lv_at hl 3 rfl) ?_
  obtain ⟨r2, h1, hF⟩ := ob1S hF
  refine k_Vq (As := [.int x3]) (rest := []) hC hw (c_X6_rowOf (M := M) h1) RC_S yv_X6_rowOf q2_9 ⟨rfl, rfl⟩ ⟨Nat.le_of_ble_eq_true rfl, Nat.le_of_ble_eq_true rfl⟩ ⟨Nat.zero_le _, Nat.zero_le _⟩ rfl rfl (Nat.le_of_ble_eq_true rfl) hl dX6_guard_2 (fun H locs hw => ?_)
  cases r2 with
  | none =>
    have hF := op1N hF
    refine topN ?_
    refine lv_astoreN (lv' := [(4, .null), (0, .ref (ad G 0)), (1, .int x1), (2, .int x2), (3, .int x3)]) hC.1 hC.2.1 dX6_guard_5 hl (by decide) rfl (fun ls hl => ?_)
    refine lv_aloadN hC.1 hC.2.1 dX6_guard_7 (lv_at hl 0 rfl) ?_
    refine lv_ifnullN (tgt := 30) hC.1 hC.2.1 dX6_guard_9 (by decide) ?_
    refine lv_iconst (v := (-1 : Int32)) hC.1 hC.2.1 dX6_guard_30 (by decide) ?_
    exact r_iretE hC hw hF dX6_guard_31
  | some c3 =>
    obtain ⟨g4, hF⟩ := ifO (op1C hF)
    have g4 := Decidable.not_not.mp g4
    refine topC ?_
    refine lv_astore (lv' := [(4, .ref (ad G c3)), (0, .ref (ad G 0)), (1, .int x1), (2, .int x2), (3, .int x3)]) hC.1 hC.2.1 dX6_guard_5 hl (by decide) rfl (fun ls hl => ?_)
    refine lv_aload hC.1 hC.2.1 dX6_guard_7 (lv_at hl 0 rfl) ?_
    refine lv_ifnull hC.1 hC.2.1 dX6_guard_9 ?_
    refine lv_aload_n hC.1 hC.2.1 dX6_guard_12 rfl (lv_at hl 1 rfl) ?_
    refine g6_north hC hw q1_195 dX6_guard_13 ?_
    refine lv_iload_n hC.1 hC.2.1 dX6_guard_16 rfl (lv_at hl 2 rfl) ?_
    obtain ⟨r6, h5, hF⟩ := ob1S hF
    refine k_Vi (As := [.int x1]) (rest := []) hC hw (c_X2_isSet (M := M) (rfl : kd 24 = 11) h5) (RC_N (rfl : kd 24 = 11)) yv_X2_isSet q2_195 ⟨rfl, rfl⟩ ⟨Nat.le_of_ble_eq_true rfl, Nat.le_of_ble_eq_true rfl⟩ ⟨Nat.zero_le _, Nat.zero_le _⟩ rfl rfl (Nat.le_of_ble_eq_true rfl) hl dX6_guard_17 (fun H locs hw => ?_)
    refine lv_if_eq (tgt := 30) hC.1 hC.2.1 dX6_guard_20 (by decide) (fun b7 => ?_) (fun b7 => ?_)
    · have hF := ifP hF b7
      refine lv_iconst (v := (-1 : Int32)) hC.1 hC.2.1 dX6_guard_30 (by decide) ?_
      exact r_iretE hC hw hF dX6_guard_31
    · have hF := ifN hF b7
      refine lv_iload_n hC.1 hC.2.1 dX6_guard_23 rfl (lv_at hl 3 rfl) ?_
      obtain ⟨r9, h8, hF⟩ := ob1S hF
      refine k_Si (As := [.int x2]) (rest := []) hC hw (c_X6_isAhead (M := M) h8) ys_X6_isAhead q2_147 ⟨rfl, rfl⟩ ⟨Nat.le_of_ble_eq_true rfl, Nat.le_of_ble_eq_true rfl⟩ ⟨Nat.zero_le _, Nat.zero_le _⟩ rfl rfl (Nat.le_of_ble_eq_true rfl) hl dX6_guard_24 (fun H locs hw => ?_)
      refine lv_if_ne (tgt := 32) hC.1 hC.2.1 dX6_guard_27 (by decide) (fun b10 => ?_) (fun b10 => ?_)
      · have hF := ifN hF b10
        refine lv_aload_n hC.1 hC.2.1 dX6_guard_32 rfl (lv_at hl 1 rfl) ?_
        refine g6_north hC hw q1_195 dX6_guard_33 ?_
        refine g2_men hC hw (rfl : kd 24 = 11) q1_29 dX6_guard_36 ?_
        refine lv_if_ne (tgt := 45) hC.1 hC.2.1 dX6_guard_39 (by decide) (fun b11 => ?_) (fun b11 => ?_)
        · have hF := ifN hF b11
          refine lv_iconst (v := (0 : Int32)) hC.1 hC.2.1 dX6_guard_45 (by decide) ?_
          refine lv_istore (lv' := [(5, .int (0 : Int32)), (4, .ref (ad G c3)), (0, .ref (ad G 0)), (1, .int x1), (2, .int x2), (3, .int x3)]) hC.1 hC.2.1 dX6_guard_46 hl (by decide) rfl (fun ls hl => ?_)
          refine lv_iconst (v := (0 : Int32)) hC.1 hC.2.1 dX6_guard_48 (by decide) ?_
          refine lv_istore (lv' := [(6, .int (0 : Int32)), (5, .int (0 : Int32)), (4, .ref (ad G c3)), (0, .ref (ad G 0)), (1, .int x1), (2, .int x2), (3, .int x3)]) hC.1 hC.2.1 dX6_guard_49 hl (by decide) rfl (fun ls hl => ?_)
          exact w_X6_guard_51 hC _ g4 hF hw (lv_sub hl [3, 4, 5, 2, 1, 0] rfl)
        · have hF := ifP hF b11
          refine lv_bipush (v := (-4 : Int32)) hC.1 hC.2.1 dX6_guard_42 (by decide) ?_
          exact r_iretE hC hw hF dX6_guard_44
      · have hF := ifP hF b10
        refine lv_iconst (v := (-1 : Int32)) hC.1 hC.2.1 dX6_guard_30 (by decide) ?_
        exact r_iretE hC hw hF dX6_guard_31
abbrev rm_X6_shadeByVoters : Room := { frames := 1, cells := 0, slots := 0, locals := 21 }
theorem yv_X6_shadeByVoters : YV yX6_shadeByVoters cX6_shadeByVoters 3 (some .int) 2 RX6 := ⟨⟨q2_223, qs_12, q1_1, q2_224⟩, by decide +kernel⟩
theorem dX6_shadeByVoters_0 : decode cX6_shadeByVoters 0 = .ok (.iload_n 1, 1) := by decide +kernel
theorem dX6_shadeByVoters_1 : decode cX6_shadeByVoters 1 = .ok (.iload_n 2, 1) := by decide +kernel
theorem dX6_shadeByVoters_2 : decode cX6_shadeByVoters 2 = .ok (.invokestatic 252, 3) := by decide +kernel
theorem dX6_shadeByVoters_5 : decode cX6_shadeByVoters 5 = .ok (.ifCond .eq 10, 3) := by decide +kernel
theorem dX6_shadeByVoters_8 : decode cX6_shadeByVoters 8 = .ok (.aload_n 0, 1) := by decide +kernel
theorem dX6_shadeByVoters_9 : decode cX6_shadeByVoters 9 = .ok (.getfield 67, 3) := by decide +kernel
theorem dX6_shadeByVoters_12 : decode cX6_shadeByVoters 12 = .ok (.goto 7, 3) := by decide +kernel
theorem dX6_shadeByVoters_15 : decode cX6_shadeByVoters 15 = .ok (.aload_n 0, 1) := by decide +kernel
theorem dX6_shadeByVoters_16 : decode cX6_shadeByVoters 16 = .ok (.getfield 70, 3) := by decide +kernel
theorem dX6_shadeByVoters_19 : decode cX6_shadeByVoters 19 = .ok (.iload_n 2, 1) := by decide +kernel
theorem dX6_shadeByVoters_20 : decode cX6_shadeByVoters 20 = .ok (.invokestatic 101, 3) := by decide +kernel
theorem dX6_shadeByVoters_23 : decode cX6_shadeByVoters 23 = .ok (.ireturn, 1) := by decide +kernel
def F_X6_shadeByVoters (fu : Nat) (M : Mm) (x1 : Int32) (x2 : Int32) : Option Int32 :=
  ob1 (F_X6_isIn fu M x1 x2) (fun r2 =>
  if r2 = 0 then
    ob1 (F_X6_read fu M 84 x2) (fun r5 =>
    some r5)
  else
    ob1 (F_X6_read fu M 83 x2) (fun r7 =>
    some r7))
set_option maxRecDepth 100000 in
set_option maxHeartbeats 4000000 in
theorem c_X6_shadeByVoters {l : Launch} {G : Gv} {fu : Nat} {M : Mm} {x1 : Int32} {x2 : Int32} {r : Int32} (hF : F_X6_shadeByVoters fu M x1 x2 = some r) : Met l yX6_shadeByVoters (.code yX6_shadeByVoters cX6_shadeByVoters 3 (some .int) :: zU) rm_X6_shadeByVoters (va_Pc [.ref (ad G 0), .int x1, .int x2] (Wd G M)) (QI G r M) 0 0 (zA G) := by
  refine zMet (by decide) rfl (Nat.le_of_ble_eq_true rfl) ?_
  intro p e s m below meth c hC hw ls hl
  have hl : lv_has ls 3 [(0, .ref (ad G 0)), (1, .int x1), (2, .int x2)] := hl
  unfold F_X6_shadeByVoters at hF
  refine lv_iload_n hC.1 hC.2.1 dX6_shadeByVoters_0 rfl (lv_at hl 1 rfl) ?_
  refine lv_iload_n hC.1 hC.2.1 dX6_shadeByVoters_1 rfl (lv_at hl 2 rfl) ?_
  obtain ⟨r2, h1, hF⟩ := ob1S hF
  refine k_Si (As := [.int x1, .int x2]) (rest := []) hC hw (c_X6_isIn (M := M) h1) ys_X6_isIn q2_199 ⟨rfl, rfl⟩ ⟨Nat.le_of_ble_eq_true rfl, Nat.le_of_ble_eq_true rfl⟩ ⟨Nat.zero_le _, Nat.zero_le _⟩ rfl rfl (Nat.le_of_ble_eq_true rfl) hl dX6_shadeByVoters_2 (fun H locs hw => ?_)
  refine lv_if_eq (tgt := 15) hC.1 hC.2.1 dX6_shadeByVoters_5 (by decide) (fun b3 => ?_) (fun b3 => ?_)
  · have hF := ifP hF b3
    refine lv_aload_n hC.1 hC.2.1 dX6_shadeByVoters_15 rfl (lv_at hl 0 rfl) ?_
    refine g6_shadesWithout hC hw q1_208 dX6_shadeByVoters_16 ?_
    refine lv_iload_n hC.1 hC.2.1 dX6_shadeByVoters_19 rfl (lv_at hl 2 rfl) ?_
    obtain ⟨r5, h4, hF⟩ := ob1S hF
    refine k_Si (As := [.ref (ad G 84), .int x2]) (rest := []) hC hw (c_X6_read (M := M) (rfl : kd 84 = 1) h4) ys_X6_read q2_17 ⟨rfl, rfl⟩ ⟨Nat.le_of_ble_eq_true rfl, Nat.le_of_ble_eq_true rfl⟩ ⟨Nat.zero_le _, Nat.zero_le _⟩ rfl rfl (Nat.le_of_ble_eq_true rfl) hl dX6_shadeByVoters_20 (fun H locs hw => ?_)
    exact r_iretP hC hw hF dX6_shadeByVoters_23
  · have hF := ifN hF b3
    refine lv_aload_n hC.1 hC.2.1 dX6_shadeByVoters_8 rfl (lv_at hl 0 rfl) ?_
    refine g6_shadesWith hC hw q1_207 dX6_shadeByVoters_9 ?_
    refine lv_goto (tgt := 19) hC.1 hC.2.1 dX6_shadeByVoters_12 (by decide) ?_
    refine lv_iload_n hC.1 hC.2.1 dX6_shadeByVoters_19 rfl (lv_at hl 2 rfl) ?_
    obtain ⟨r7, h6, hF⟩ := ob1S hF
    refine k_Si (As := [.ref (ad G 83), .int x2]) (rest := []) hC hw (c_X6_read (M := M) (rfl : kd 83 = 1) h6) ys_X6_read q2_17 ⟨rfl, rfl⟩ ⟨Nat.le_of_ble_eq_true rfl, Nat.le_of_ble_eq_true rfl⟩ ⟨Nat.zero_le _, Nat.zero_le _⟩ rfl rfl (Nat.le_of_ble_eq_true rfl) hl dX6_shadeByVoters_20 (fun H locs hw => ?_)
    exact r_iretP hC hw hF dX6_shadeByVoters_23
abbrev rm_X6_costOfVoters : Room := { frames := 2, cells := 0, slots := 0, locals := 43 }
theorem yv_X6_costOfVoters : YV yX6_costOfVoters cX6_costOfVoters 5 (some .int) 1 RX6 := ⟨⟨q2_219, qs_11, q1_1, q2_220⟩, by decide +kernel⟩
theorem dX6_costOfVoters_0 : decode cX6_costOfVoters 0 = .ok (.iconst 0, 1) := by decide +kernel
theorem dX6_costOfVoters_1 : decode cX6_costOfVoters 1 = .ok (.istore_n 2, 1) := by decide +kernel
theorem dX6_costOfVoters_2 : decode cX6_costOfVoters 2 = .ok (.iconst 0, 1) := by decide +kernel
theorem dX6_costOfVoters_3 : decode cX6_costOfVoters 3 = .ok (.istore_n 3, 1) := by decide +kernel
theorem dX6_costOfVoters_4 : decode cX6_costOfVoters 4 = .ok (.iload_n 3, 1) := by decide +kernel
theorem dX6_costOfVoters_5 : decode cX6_costOfVoters 5 = .ok (.aload_n 0, 1) := by decide +kernel
theorem dX6_costOfVoters_6 : decode cX6_costOfVoters 6 = .ok (.getfield 24, 3) := by decide +kernel
theorem dX6_costOfVoters_9 : decode cX6_costOfVoters 9 = .ok (.getfield 152, 3) := by decide +kernel
theorem dX6_costOfVoters_12 : decode cX6_costOfVoters 12 = .ok (.if_icmp .ge 47, 3) := by decide +kernel
theorem dX6_costOfVoters_15 : decode cX6_costOfVoters 15 = .ok (.aload_n 0, 1) := by decide +kernel
theorem dX6_costOfVoters_16 : decode cX6_costOfVoters 16 = .ok (.iload_n 1, 1) := by decide +kernel
theorem dX6_costOfVoters_17 : decode cX6_costOfVoters 17 = .ok (.iload_n 3, 1) := by decide +kernel
theorem dX6_costOfVoters_18 : decode cX6_costOfVoters 18 = .ok (.invokevirtual 269, 3) := by decide +kernel
theorem dX6_costOfVoters_21 : decode cX6_costOfVoters 21 = .ok (.istore 4, 2) := by decide +kernel
theorem dX6_costOfVoters_23 : decode cX6_costOfVoters 23 = .ok (.iload 4, 2) := by decide +kernel
theorem dX6_costOfVoters_25 : decode cX6_costOfVoters 25 = .ok (.bipush (-9), 2) := by decide +kernel
theorem dX6_costOfVoters_27 : decode cX6_costOfVoters 27 = .ok (.if_icmp .ne 6, 3) := by decide +kernel
theorem dX6_costOfVoters_30 : decode cX6_costOfVoters 30 = .ok (.bipush (-9), 2) := by decide +kernel
theorem dX6_costOfVoters_32 : decode cX6_costOfVoters 32 = .ok (.ireturn, 1) := by decide +kernel
theorem dX6_costOfVoters_33 : decode cX6_costOfVoters 33 = .ok (.iload_n 2, 1) := by decide +kernel
theorem dX6_costOfVoters_34 : decode cX6_costOfVoters 34 = .ok (.iload 4, 2) := by decide +kernel
theorem dX6_costOfVoters_36 : decode cX6_costOfVoters 36 = .ok (.aload_n 0, 1) := by decide +kernel
theorem dX6_costOfVoters_37 : decode cX6_costOfVoters 37 = .ok (.getfield 24, 3) := by decide +kernel
theorem dX6_costOfVoters_40 : decode cX6_costOfVoters 40 = .ok (.getfield 214, 3) := by decide +kernel
theorem dX6_costOfVoters_43 : decode cX6_costOfVoters 43 = .ok (.iload_n 3, 1) := by decide +kernel
theorem dX6_costOfVoters_44 : decode cX6_costOfVoters 44 = .ok (.invokestatic 101, 3) := by decide +kernel
theorem dX6_costOfVoters_47 : decode cX6_costOfVoters 47 = .ok (.isub, 1) := by decide +kernel
theorem dX6_costOfVoters_48 : decode cX6_costOfVoters 48 = .ok (.invokestatic 378, 3) := by decide +kernel
theorem dX6_costOfVoters_51 : decode cX6_costOfVoters 51 = .ok (.iadd, 1) := by decide +kernel
theorem dX6_costOfVoters_52 : decode cX6_costOfVoters 52 = .ok (.istore_n 2, 1) := by decide +kernel
theorem dX6_costOfVoters_53 : decode cX6_costOfVoters 53 = .ok (.iinc 3 1, 3) := by decide +kernel
theorem dX6_costOfVoters_56 : decode cX6_costOfVoters 56 = .ok (.goto (-52), 3) := by decide +kernel
theorem dX6_costOfVoters_59 : decode cX6_costOfVoters 59 = .ok (.iload_n 2, 1) := by decide +kernel
theorem dX6_costOfVoters_60 : decode cX6_costOfVoters 60 = .ok (.ireturn, 1) := by decide +kernel
def F_X6_costOfVoters_4 (fu : Nat) (M : Mm) : Nat → Int32 → Int32 → Int32 → Option Int32
  | 0, _, _, _ => none
  | n + 1, x1, x2, x3 =>
    if (M.1 24 0) ≤ x3 then
      some x2
    else
      ob1 (F_X6_shadeByVoters fu M x1 x3) (fun r3 =>
      if r3 = (-9 : Int32) then
        some (-9 : Int32)
      else
        ob1 (F_X6_read fu M 29 x3) (fun r6 =>
        F_X6_costOfVoters_4 fu M n x1 (x2 + (zab (r3 - r6))) (x3 + (1 : Int32))))
set_option maxRecDepth 100000 in
set_option maxHeartbeats 4000000 in
theorem w_X6_costOfVoters_4 {p : Program} {l : Launch} {e : Env} {s : State} {m : MethodId} {args : Array Value} {below : List Frame} {meth : Method} {c : Code} {G : Gv} (hC : Cx p s m args meth c cX6_costOfVoters 5 (some .int) RX6) {fu : Nat} {r : Int32} {M : Mm} : ∀ (n : Nat) {x1 : Int32} {x2 : Int32} {x3 : Int32} {H : Heap} {locs : List Loc} {ls : Array Slot}, F_X6_costOfVoters_4 fu M n x1 x2 x3 = some r → St G s H locs M → lv_has ls 5 [(0, .ref (ad G 0)), (1, .int x1), (2, .int x2), (3, .int x3)] → W p l e rm_X6_costOfVoters s m args below meth c H locs 0 0 (MQ below (QI G r M) args s 0 0 (zA G)) (F0 m 4 ls []) := by
  intro n
  induction n with
  | zero =>
    intro x1 x2 x3 H locs ls hF hw hl
    cases hF
  | succ n ih =>
    intro x1 x2 x3 H locs ls hF hw hl
    unfold F_X6_costOfVoters_4 at hF
    refine lv_iload_n hC.1 hC.2.1 dX6_costOfVoters_4 rfl (lv_at hl 3 rfl) ?_
    refine lv_aload_n hC.1 hC.2.1 dX6_costOfVoters_5 rfl (lv_at hl 0 rfl) ?_
    refine g6_north hC hw q1_195 dX6_costOfVoters_6 ?_
    refine g2_men hC hw (rfl : kd 24 = 11) q1_29 dX6_costOfVoters_9 ?_
    refine lv_icmp_ge (tgt := 59) hC.1 hC.2.1 dX6_costOfVoters_12 (by decide) (fun b1 => ?_) (fun b1 => ?_)
    · have hF := ifP hF b1
      refine lv_iload_n hC.1 hC.2.1 dX6_costOfVoters_59 rfl (lv_at hl 2 rfl) ?_
      exact r_iretP hC hw hF dX6_costOfVoters_60
    · have hF := ifN hF b1
      refine lv_aload_n hC.1 hC.2.1 dX6_costOfVoters_15 rfl (lv_at hl 0 rfl) ?_
      refine lv_iload_n hC.1 hC.2.1 dX6_costOfVoters_16 rfl (lv_at hl 1 rfl) ?_
      refine lv_iload_n hC.1 hC.2.1 dX6_costOfVoters_17 rfl (lv_at hl 3 rfl) ?_
      obtain ⟨r3, h2, hF⟩ := ob1S hF
      refine k_Vi (As := [.int x1, .int x3]) (rest := []) hC hw (c_X6_shadeByVoters (M := M) h2) RC_S yv_X6_shadeByVoters q2_221 ⟨rfl, rfl⟩ ⟨Nat.le_of_ble_eq_true rfl, Nat.le_of_ble_eq_true rfl⟩ ⟨Nat.zero_le _, Nat.zero_le _⟩ rfl rfl (Nat.le_of_ble_eq_true rfl) hl dX6_costOfVoters_18 (fun H locs hw => ?_)
      refine lv_istore (lv' := [(4, .int r3), (0, .ref (ad G 0)), (1, .int x1), (2, .int x2), (3, .int x3)]) hC.1 hC.2.1 dX6_costOfVoters_21 hl (by decide) rfl (fun ls hl => ?_)
      refine lv_iload hC.1 hC.2.1 dX6_costOfVoters_23 (lv_at hl 0 rfl) ?_
      refine lv_bipush (v := (-9 : Int32)) hC.1 hC.2.1 dX6_costOfVoters_25 (by decide) ?_
      refine lv_icmp_ne (tgt := 33) hC.1 hC.2.1 dX6_costOfVoters_27 (by decide) (fun b4 => ?_) (fun b4 => ?_)
      · have hF := ifN hF b4
        refine lv_iload_n hC.1 hC.2.1 dX6_costOfVoters_33 rfl (lv_at hl 3 rfl) ?_
        refine lv_iload hC.1 hC.2.1 dX6_costOfVoters_34 (lv_at hl 0 rfl) ?_
        refine lv_aload_n hC.1 hC.2.1 dX6_costOfVoters_36 rfl (lv_at hl 1 rfl) ?_
        refine g6_north hC hw q1_195 dX6_costOfVoters_37 ?_
        refine g2_shadeOf hC hw (rfl : kd 24 = 11) q1_44 dX6_costOfVoters_40 ?_
        refine lv_iload_n hC.1 hC.2.1 dX6_costOfVoters_43 rfl (lv_at hl 4 rfl) ?_
        obtain ⟨r6, h5, hF⟩ := ob1S hF
        refine k_Si (As := [.ref (ad G 29), .int x3]) (rest := [.int r3, .int x2]) hC hw (c_X6_read (M := M) (rfl : kd 29 = 1) h5) ys_X6_read q2_17 ⟨rfl, rfl⟩ ⟨Nat.le_of_ble_eq_true rfl, Nat.le_of_ble_eq_true rfl⟩ ⟨Nat.zero_le _, Nat.zero_le _⟩ rfl rfl (Nat.le_of_ble_eq_true rfl) hl dX6_costOfVoters_44 (fun H locs hw => ?_)
        refine lv_isub hC.1 hC.2.1 dX6_costOfVoters_47 ?_
        refine r_abs ⟨hC.1, hC.2.1, by rw [hC.2.2.1]; exact hl.1.symm, hC.2.2.2.1, hC.2.2.2.2.1⟩ q2_225 ⟨Nat.le_of_ble_eq_true rfl, Nat.le_of_ble_eq_true rfl⟩ ⟨Nat.zero_le _, Nat.zero_le _⟩ dX6_costOfVoters_48 ?_
        refine lv_iadd hC.1 hC.2.1 dX6_costOfVoters_51 ?_
        refine lv_istore_n (lv' := [(2, .int (x2 + (zab (r3 - r6)))), (4, .int r3), (0, .ref (ad G 0)), (1, .int x1), (3, .int x3)]) hC.1 hC.2.1 dX6_costOfVoters_52 rfl hl (by decide) rfl (fun ls hl => ?_)
        refine lv_iinc (v := (x3 + (1 : Int32))) (lv' := [(3, .int (x3 + (1 : Int32))), (2, .int (x2 + (zab (r3 - r6)))), (4, .int r3), (0, .ref (ad G 0)), (1, .int x1)]) hC.1 hC.2.1 dX6_costOfVoters_53 hl (k := 4) rfl rfl (by decide) rfl (fun ls hl => ?_)
        refine lv_goto (tgt := 4) hC.1 hC.2.1 dX6_costOfVoters_56 (by decide) ?_
        exact ih hF hw (lv_sub hl [3, 4, 1, 0] rfl)
      · have hF := ifP hF b4
        refine lv_bipush (v := (-9 : Int32)) hC.1 hC.2.1 dX6_costOfVoters_30 (by decide) ?_
        exact r_iretP hC hw hF dX6_costOfVoters_32
def F_X6_costOfVoters (fu : Nat) (M : Mm) (x1 : Int32) : Option Int32 :=
  F_X6_costOfVoters_4 fu M fu x1 (0 : Int32) (0 : Int32)
set_option maxRecDepth 100000 in
set_option maxHeartbeats 4000000 in
theorem c_X6_costOfVoters {l : Launch} {G : Gv} {fu : Nat} {M : Mm} {x1 : Int32} {r : Int32} (hF : F_X6_costOfVoters fu M x1 = some r) : Met l yX6_costOfVoters (.code yX6_costOfVoters cX6_costOfVoters 5 (some .int) :: zU) rm_X6_costOfVoters (va_Pc [.ref (ad G 0), .int x1] (Wd G M)) (QI G r M) 0 0 (zA G) := by
  refine zMet (by decide) rfl (Nat.le_of_ble_eq_true rfl) ?_
  intro p e s m below meth c hC hw ls hl
  have hl : lv_has ls 5 [(0, .ref (ad G 0)), (1, .int x1)] := hl
  unfold F_X6_costOfVoters at hF
  refine lv_iconst (v := (0 : Int32)) hC.1 hC.2.1 dX6_costOfVoters_0 (by decide) ?_
  refine lv_istore_n (lv' := [(2, .int (0 : Int32)), (0, .ref (ad G 0)), (1, .int x1)]) hC.1 hC.2.1 dX6_costOfVoters_1 rfl hl (by decide) rfl (fun ls hl => ?_)
  refine lv_iconst (v := (0 : Int32)) hC.1 hC.2.1 dX6_costOfVoters_2 (by decide) ?_
  refine lv_istore_n (lv' := [(3, .int (0 : Int32)), (2, .int (0 : Int32)), (0, .ref (ad G 0)), (1, .int x1)]) hC.1 hC.2.1 dX6_costOfVoters_3 rfl hl (by decide) rfl (fun ls hl => ?_)
  exact w_X6_costOfVoters_4 hC _ hF hw (lv_sub hl [2, 3, 1, 0] rfl)
abbrev rm_X6_bribe : Room := { frames := 6, cells := 0, slots := 0, locals := 150 }
theorem yv_X6_bribe : YV yX6_bribe cX6_bribe 9 (some .int) 3 RX6 := ⟨⟨q2_210, q2_211, q1_1, q2_212⟩, by decide +kernel⟩
theorem dX6_bribe_0 : decode cX6_bribe 0 = .ok (.aload_n 0, 1) := by decide +kernel
theorem dX6_bribe_1 : decode cX6_bribe 1 = .ok (.iload_n 3, 1) := by decide +kernel
theorem dX6_bribe_2 : decode cX6_bribe 2 = .ok (.invokevirtual 78, 3) := by decide +kernel
theorem dX6_bribe_5 : decode cX6_bribe 5 = .ok (.astore 4, 2) := by decide +kernel
theorem dX6_bribe_7 : decode cX6_bribe 7 = .ok (.aload 4, 2) := by decide +kernel
theorem dX6_bribe_9 : decode cX6_bribe 9 = .ok (.ifnull 19, 3) := by decide +kernel
theorem dX6_bribe_12 : decode cX6_bribe 12 = .ok (.iload_n 1, 1) := by decide +kernel
theorem dX6_bribe_13 : decode cX6_bribe 13 = .ok (.ifCond .eq 8, 3) := by decide +kernel
theorem dX6_bribe_16 : decode cX6_bribe 16 = .ok (.iload_n 1, 1) := by decide +kernel
theorem dX6_bribe_17 : decode cX6_bribe 17 = .ok (.iconst 1, 1) := by decide +kernel
theorem dX6_bribe_18 : decode cX6_bribe 18 = .ok (.if_icmp .ne 10, 3) := by decide +kernel
theorem dX6_bribe_21 : decode cX6_bribe 21 = .ok (.iload_n 2, 1) := by decide +kernel
theorem dX6_bribe_22 : decode cX6_bribe 22 = .ok (.invokestatic 230, 3) := by decide +kernel
theorem dX6_bribe_25 : decode cX6_bribe 25 = .ok (.ifCond .ne 5, 3) := by decide +kernel
theorem dX6_bribe_28 : decode cX6_bribe 28 = .ok (.iconst (-1), 1) := by decide +kernel
theorem dX6_bribe_29 : decode cX6_bribe 29 = .ok (.ireturn, 1) := by decide +kernel
theorem dX6_bribe_30 : decode cX6_bribe 30 = .ok (.aload_n 0, 1) := by decide +kernel
theorem dX6_bribe_31 : decode cX6_bribe 31 = .ok (.getfield 24, 3) := by decide +kernel
theorem dX6_bribe_34 : decode cX6_bribe 34 = .ok (.getfield 152, 3) := by decide +kernel
theorem dX6_bribe_37 : decode cX6_bribe 37 = .ok (.ifCond .ne 6, 3) := by decide +kernel
theorem dX6_bribe_40 : decode cX6_bribe 40 = .ok (.bipush (-4), 2) := by decide +kernel
theorem dX6_bribe_42 : decode cX6_bribe 42 = .ok (.ireturn, 1) := by decide +kernel
theorem dX6_bribe_43 : decode cX6_bribe 43 = .ok (.iconst 0, 1) := by decide +kernel
theorem dX6_bribe_44 : decode cX6_bribe 44 = .ok (.istore 5, 2) := by decide +kernel
theorem dX6_bribe_46 : decode cX6_bribe 46 = .ok (.iload 5, 2) := by decide +kernel
theorem dX6_bribe_48 : decode cX6_bribe 48 = .ok (.aload_n 0, 1) := by decide +kernel
theorem dX6_bribe_49 : decode cX6_bribe 49 = .ok (.getfield 24, 3) := by decide +kernel
theorem dX6_bribe_52 : decode cX6_bribe 52 = .ok (.getfield 152, 3) := by decide +kernel
theorem dX6_bribe_55 : decode cX6_bribe 55 = .ok (.if_icmp .ge 49, 3) := by decide +kernel
theorem dX6_bribe_58 : decode cX6_bribe 58 = .ok (.aload_n 0, 1) := by decide +kernel
theorem dX6_bribe_59 : decode cX6_bribe 59 = .ok (.getfield 67, 3) := by decide +kernel
theorem dX6_bribe_62 : decode cX6_bribe 62 = .ok (.iload 5, 2) := by decide +kernel
theorem dX6_bribe_64 : decode cX6_bribe 64 = .ok (.aload_n 0, 1) := by decide +kernel
theorem dX6_bribe_65 : decode cX6_bribe 65 = .ok (.getfield 24, 3) := by decide +kernel
theorem dX6_bribe_68 : decode cX6_bribe 68 = .ok (.iload 5, 2) := by decide +kernel
theorem dX6_bribe_70 : decode cX6_bribe 70 = .ok (.iload_n 2, 1) := by decide +kernel
theorem dX6_bribe_71 : decode cX6_bribe 71 = .ok (.iconst 1, 1) := by decide +kernel
theorem dX6_bribe_72 : decode cX6_bribe 72 = .ok (.invokevirtual 262, 3) := by decide +kernel
theorem dX6_bribe_75 : decode cX6_bribe 75 = .ok (.invokestatic 105, 3) := by decide +kernel
theorem dX6_bribe_78 : decode cX6_bribe 78 = .ok (.aload_n 0, 1) := by decide +kernel
theorem dX6_bribe_79 : decode cX6_bribe 79 = .ok (.getfield 70, 3) := by decide +kernel
theorem dX6_bribe_82 : decode cX6_bribe 82 = .ok (.iload 5, 2) := by decide +kernel
theorem dX6_bribe_84 : decode cX6_bribe 84 = .ok (.aload_n 0, 1) := by decide +kernel
theorem dX6_bribe_85 : decode cX6_bribe 85 = .ok (.getfield 24, 3) := by decide +kernel
theorem dX6_bribe_88 : decode cX6_bribe 88 = .ok (.iload 5, 2) := by decide +kernel
theorem dX6_bribe_90 : decode cX6_bribe 90 = .ok (.iload_n 2, 1) := by decide +kernel
theorem dX6_bribe_91 : decode cX6_bribe 91 = .ok (.iconst 0, 1) := by decide +kernel
theorem dX6_bribe_92 : decode cX6_bribe 92 = .ok (.invokevirtual 262, 3) := by decide +kernel
theorem dX6_bribe_95 : decode cX6_bribe 95 = .ok (.invokestatic 105, 3) := by decide +kernel
theorem dX6_bribe_98 : decode cX6_bribe 98 = .ok (.iinc 5 1, 3) := by decide +kernel
theorem dX6_bribe_101 : decode cX6_bribe 101 = .ok (.goto (-55), 3) := by decide +kernel
theorem dX6_bribe_104 : decode cX6_bribe 104 = .ok (.bipush (-9), 2) := by decide +kernel
theorem dX6_bribe_106 : decode cX6_bribe 106 = .ok (.istore 5, 2) := by decide +kernel
theorem dX6_bribe_108 : decode cX6_bribe 108 = .ok (.iconst 0, 1) := by decide +kernel
theorem dX6_bribe_109 : decode cX6_bribe 109 = .ok (.istore 6, 2) := by decide +kernel
theorem dX6_bribe_111 : decode cX6_bribe 111 = .ok (.iconst 0, 1) := by decide +kernel
theorem dX6_bribe_112 : decode cX6_bribe 112 = .ok (.istore 7, 2) := by decide +kernel
theorem dX6_bribe_114 : decode cX6_bribe 114 = .ok (.iload 7, 2) := by decide +kernel
theorem dX6_bribe_116 : decode cX6_bribe 116 = .ok (.iconst 1, 1) := by decide +kernel
theorem dX6_bribe_117 : decode cX6_bribe 117 = .ok (.aload_n 0, 1) := by decide +kernel
theorem dX6_bribe_118 : decode cX6_bribe 118 = .ok (.getfield 24, 3) := by decide +kernel
theorem dX6_bribe_121 : decode cX6_bribe 121 = .ok (.getfield 152, 3) := by decide +kernel
theorem dX6_bribe_124 : decode cX6_bribe 124 = .ok (.ishl, 1) := by decide +kernel
theorem dX6_bribe_125 : decode cX6_bribe 125 = .ok (.if_icmp .ge 68, 3) := by decide +kernel
theorem dX6_bribe_128 : decode cX6_bribe 128 = .ok (.aload_n 0, 1) := by decide +kernel
theorem dX6_bribe_129 : decode cX6_bribe 129 = .ok (.iload 7, 2) := by decide +kernel
theorem dX6_bribe_131 : decode cX6_bribe 131 = .ok (.invokevirtual 266, 3) := by decide +kernel
theorem dX6_bribe_134 : decode cX6_bribe 134 = .ok (.istore 8, 2) := by decide +kernel
theorem dX6_bribe_136 : decode cX6_bribe 136 = .ok (.iload 8, 2) := by decide +kernel
theorem dX6_bribe_138 : decode cX6_bribe 138 = .ok (.bipush (-9), 2) := by decide +kernel
theorem dX6_bribe_140 : decode cX6_bribe 140 = .ok (.if_icmp .eq 47, 3) := by decide +kernel
theorem dX6_bribe_143 : decode cX6_bribe 143 = .ok (.iload 5, 2) := by decide +kernel
theorem dX6_bribe_145 : decode cX6_bribe 145 = .ok (.bipush (-9), 2) := by decide +kernel
theorem dX6_bribe_147 : decode cX6_bribe 147 = .ok (.if_icmp .eq 10, 3) := by decide +kernel
theorem dX6_bribe_150 : decode cX6_bribe 150 = .ok (.iload 8, 2) := by decide +kernel
theorem dX6_bribe_152 : decode cX6_bribe 152 = .ok (.iload 5, 2) := by decide +kernel
theorem dX6_bribe_154 : decode cX6_bribe 154 = .ok (.if_icmp .ge 33, 3) := by decide +kernel
theorem dX6_bribe_157 : decode cX6_bribe 157 = .ok (.aload_n 0, 1) := by decide +kernel
theorem dX6_bribe_158 : decode cX6_bribe 158 = .ok (.getfield 24, 3) := by decide +kernel
theorem dX6_bribe_161 : decode cX6_bribe 161 = .ok (.iload 7, 2) := by decide +kernel
theorem dX6_bribe_163 : decode cX6_bribe 163 = .ok (.invokevirtual 246, 3) := by decide +kernel
theorem dX6_bribe_166 : decode cX6_bribe 166 = .ok (.iload_n 1, 1) := by decide +kernel
theorem dX6_bribe_167 : decode cX6_bribe 167 = .ok (.iconst 1, 1) := by decide +kernel
theorem dX6_bribe_168 : decode cX6_bribe 168 = .ok (.if_icmp .ne 7, 3) := by decide +kernel
theorem dX6_bribe_171 : decode cX6_bribe 171 = .ok (.iconst 1, 1) := by decide +kernel
theorem dX6_bribe_172 : decode cX6_bribe 172 = .ok (.goto 4, 3) := by decide +kernel
theorem dX6_bribe_175 : decode cX6_bribe 175 = .ok (.iconst 0, 1) := by decide +kernel
theorem dX6_bribe_176 : decode cX6_bribe 176 = .ok (.if_icmp .ne 11, 3) := by decide +kernel
theorem dX6_bribe_179 : decode cX6_bribe 179 = .ok (.iload 8, 2) := by decide +kernel
theorem dX6_bribe_181 : decode cX6_bribe 181 = .ok (.istore 5, 2) := by decide +kernel
theorem dX6_bribe_183 : decode cX6_bribe 183 = .ok (.iload 7, 2) := by decide +kernel
theorem dX6_bribe_185 : decode cX6_bribe 185 = .ok (.istore 6, 2) := by decide +kernel
theorem dX6_bribe_187 : decode cX6_bribe 187 = .ok (.iinc 7 1, 3) := by decide +kernel
theorem dX6_bribe_190 : decode cX6_bribe 190 = .ok (.goto (-76), 3) := by decide +kernel
theorem dX6_bribe_193 : decode cX6_bribe 193 = .ok (.iload 5, 2) := by decide +kernel
theorem dX6_bribe_195 : decode cX6_bribe 195 = .ok (.bipush (-9), 2) := by decide +kernel
theorem dX6_bribe_197 : decode cX6_bribe 197 = .ok (.if_icmp .ne 6, 3) := by decide +kernel
theorem dX6_bribe_200 : decode cX6_bribe 200 = .ok (.bipush (-9), 2) := by decide +kernel
theorem dX6_bribe_202 : decode cX6_bribe 202 = .ok (.ireturn, 1) := by decide +kernel
theorem dX6_bribe_203 : decode cX6_bribe 203 = .ok (.iconst 0, 1) := by decide +kernel
theorem dX6_bribe_204 : decode cX6_bribe 204 = .ok (.istore 7, 2) := by decide +kernel
theorem dX6_bribe_206 : decode cX6_bribe 206 = .ok (.iload 7, 2) := by decide +kernel
theorem dX6_bribe_208 : decode cX6_bribe 208 = .ok (.aload_n 0, 1) := by decide +kernel
theorem dX6_bribe_209 : decode cX6_bribe 209 = .ok (.getfield 24, 3) := by decide +kernel
theorem dX6_bribe_212 : decode cX6_bribe 212 = .ok (.getfield 152, 3) := by decide +kernel
theorem dX6_bribe_215 : decode cX6_bribe 215 = .ok (.if_icmp .ge 26, 3) := by decide +kernel
theorem dX6_bribe_218 : decode cX6_bribe 218 = .ok (.aload_n 0, 1) := by decide +kernel
theorem dX6_bribe_219 : decode cX6_bribe 219 = .ok (.getfield 64, 3) := by decide +kernel
theorem dX6_bribe_222 : decode cX6_bribe 222 = .ok (.iload 7, 2) := by decide +kernel
theorem dX6_bribe_224 : decode cX6_bribe 224 = .ok (.aload_n 0, 1) := by decide +kernel
theorem dX6_bribe_225 : decode cX6_bribe 225 = .ok (.iload 6, 2) := by decide +kernel
theorem dX6_bribe_227 : decode cX6_bribe 227 = .ok (.iload 7, 2) := by decide +kernel
theorem dX6_bribe_229 : decode cX6_bribe 229 = .ok (.invokevirtual 269, 3) := by decide +kernel
theorem dX6_bribe_232 : decode cX6_bribe 232 = .ok (.invokestatic 105, 3) := by decide +kernel
theorem dX6_bribe_235 : decode cX6_bribe 235 = .ok (.iinc 7 1, 3) := by decide +kernel
theorem dX6_bribe_238 : decode cX6_bribe 238 = .ok (.goto (-32), 3) := by decide +kernel
theorem dX6_bribe_241 : decode cX6_bribe 241 = .ok (.aload 4, 2) := by decide +kernel
theorem dX6_bribe_243 : decode cX6_bribe 243 = .ok (.aload_n 0, 1) := by decide +kernel
theorem dX6_bribe_244 : decode cX6_bribe 244 = .ok (.getfield 64, 3) := by decide +kernel
theorem dX6_bribe_247 : decode cX6_bribe 247 = .ok (.aload_n 0, 1) := by decide +kernel
theorem dX6_bribe_248 : decode cX6_bribe 248 = .ok (.getfield 24, 3) := by decide +kernel
theorem dX6_bribe_251 : decode cX6_bribe 251 = .ok (.getfield 152, 3) := by decide +kernel
theorem dX6_bribe_254 : decode cX6_bribe 254 = .ok (.invokevirtual 258, 3) := by decide +kernel
theorem dX6_bribe_257 : decode cX6_bribe 257 = .ok (.iload 5, 2) := by decide +kernel
theorem dX6_bribe_259 : decode cX6_bribe 259 = .ok (.ireturn, 1) := by decide +kernel
def F_X6_bribe_176 (fu : Nat) (k114 : Mm → Int32 → Nat → Int32 → Int32 → Int32 → Option (Int32 × Mm)) (M : Mm) (x1 : Int32) (c4 : Nat) (x5 : Int32) (x6 : Int32) (x7 : Int32) (x8 : Int32) (t0 : Int32) (t1 : Int32) : Option (Int32 × Mm) :=
  if t0 = t1 then
    k114 M x1 c4 x8 x7 (x7 + (1 : Int32))
  else
    k114 M x1 c4 x5 x6 (x7 + (1 : Int32))
set_option maxRecDepth 100000 in
set_option maxHeartbeats 4000000 in
theorem w_X6_bribe_176 {p : Program} {l : Launch} {e : Env} {s : State} {m : MethodId} {args : Array Value} {below : List Frame} {meth : Method} {c : Code} {G : Gv} (hC : Cx p s m args meth c cX6_bribe 9 (some .int) RX6) {fu : Nat} {r : Int32} {M' : Mm} {k114 : Mm → Int32 → Nat → Int32 → Int32 → Int32 → Option (Int32 × Mm)} (hk_114 : ∀ {x1 : Int32} {c4 : Nat} {x5 : Int32} {x6 : Int32} {x7 : Int32} {M : Mm} {H : Heap} {locs : List Loc} {ls : Array Slot} (hk4 : kd c4 = 12), k114 M x1 c4 x5 x6 x7 = some (r, M') → St G s H locs M → lv_has ls 9 [(0, .ref (ad G 0)), (1, .int x1), (4, .ref (ad G c4)), (5, .int x5), (6, .int x6), (7, .int x7)] → W p l e rm_X6_bribe s m args below meth c H locs 0 0 (MQ below (QI G r M') args s 0 0 (zA G)) (F0 m 114 ls [])) {x1 : Int32} {c4 : Nat} {x5 : Int32} {x6 : Int32} {x7 : Int32} {x8 : Int32} {t0 : Int32} {t1 : Int32} {M : Mm} {H : Heap} {locs : List Loc} {ls : Array Slot} (hk4 : kd c4 = 12) (hF : F_X6_bribe_176 fu k114 M x1 c4 x5 x6 x7 x8 t0 t1 = some (r, M')) (hw : St G s H locs M) (hl : lv_has ls 9 [(0, .ref (ad G 0)), (1, .int x1), (4, .ref (ad G c4)), (5, .int x5), (6, .int x6), (7, .int x7), (8, .int x8)]) : W p l e rm_X6_bribe s m args below meth c H locs 0 0 (MQ below (QI G r M') args s 0 0 (zA G)) (F0 m 176 ls [.int t1, .int t0]) := by
  unfold F_X6_bribe_176 at hF
  refine lv_icmp_ne (tgt := 187) hC.1 hC.2.1 dX6_bribe_176 (by decide) (fun b1 => ?_) (fun b1 => ?_)
  · have hF := ifN hF b1
    refine lv_iinc (v := (x7 + (1 : Int32))) (lv' := [(7, .int (x7 + (1 : Int32))), (0, .ref (ad G 0)), (1, .int x1), (4, .ref (ad G c4)), (5, .int x5), (6, .int x6), (8, .int x8)]) hC.1 hC.2.1 dX6_bribe_187 hl (k := 5) rfl rfl (by decide) rfl (fun ls hl => ?_)
    refine lv_goto (tgt := 114) hC.1 hC.2.1 dX6_bribe_190 (by decide) ?_
    exact hk_114 hk4 hF hw (lv_sub hl [1, 2, 3, 4, 5, 0] rfl)
  · have hF := ifP hF b1
    refine lv_iload hC.1 hC.2.1 dX6_bribe_179 (lv_at hl 6 rfl) ?_
    refine lv_istore (lv' := [(5, .int x8), (0, .ref (ad G 0)), (1, .int x1), (4, .ref (ad G c4)), (6, .int x6), (7, .int x7), (8, .int x8)]) hC.1 hC.2.1 dX6_bribe_181 hl (by decide) rfl (fun ls hl => ?_)
    refine lv_iload hC.1 hC.2.1 dX6_bribe_183 (lv_at hl 5 rfl) ?_
    refine lv_istore (lv' := [(6, .int x7), (5, .int x8), (0, .ref (ad G 0)), (1, .int x1), (4, .ref (ad G c4)), (7, .int x7), (8, .int x8)]) hC.1 hC.2.1 dX6_bribe_185 hl (by decide) rfl (fun ls hl => ?_)
    refine lv_iinc (v := (x7 + (1 : Int32))) (lv' := [(7, .int (x7 + (1 : Int32))), (6, .int x7), (5, .int x8), (0, .ref (ad G 0)), (1, .int x1), (4, .ref (ad G c4)), (8, .int x8)]) hC.1 hC.2.1 dX6_bribe_187 hl (k := 5) rfl rfl (by decide) rfl (fun ls hl => ?_)
    refine lv_goto (tgt := 114) hC.1 hC.2.1 dX6_bribe_190 (by decide) ?_
    exact hk_114 hk4 hF hw (lv_sub hl [3, 4, 5, 2, 1, 0] rfl)
def F_X6_bribe_157 (fu : Nat) (k114 : Mm → Int32 → Nat → Int32 → Int32 → Int32 → Option (Int32 × Mm)) (M : Mm) (x1 : Int32) (c4 : Nat) (x5 : Int32) (x6 : Int32) (x7 : Int32) (x8 : Int32) : Option (Int32 × Mm) :=
  ob1 (F_X2_isCarriedBy fu M 24 x7) (fun r2 =>
  if x1 = (1 : Int32) then
    F_X6_bribe_176 fu k114 M x1 c4 x5 x6 x7 x8 r2 (1 : Int32)
  else
    F_X6_bribe_176 fu k114 M x1 c4 x5 x6 x7 x8 r2 (0 : Int32))
set_option maxRecDepth 100000 in
set_option maxHeartbeats 4000000 in
theorem w_X6_bribe_157 {p : Program} {l : Launch} {e : Env} {s : State} {m : MethodId} {args : Array Value} {below : List Frame} {meth : Method} {c : Code} {G : Gv} (hC : Cx p s m args meth c cX6_bribe 9 (some .int) RX6) {fu : Nat} {r : Int32} {M' : Mm} {k114 : Mm → Int32 → Nat → Int32 → Int32 → Int32 → Option (Int32 × Mm)} (hk_114 : ∀ {x1 : Int32} {c4 : Nat} {x5 : Int32} {x6 : Int32} {x7 : Int32} {M : Mm} {H : Heap} {locs : List Loc} {ls : Array Slot} (hk4 : kd c4 = 12), k114 M x1 c4 x5 x6 x7 = some (r, M') → St G s H locs M → lv_has ls 9 [(0, .ref (ad G 0)), (1, .int x1), (4, .ref (ad G c4)), (5, .int x5), (6, .int x6), (7, .int x7)] → W p l e rm_X6_bribe s m args below meth c H locs 0 0 (MQ below (QI G r M') args s 0 0 (zA G)) (F0 m 114 ls [])) {x1 : Int32} {c4 : Nat} {x5 : Int32} {x6 : Int32} {x7 : Int32} {x8 : Int32} {M : Mm} {H : Heap} {locs : List Loc} {ls : Array Slot} (hk4 : kd c4 = 12) (hF : F_X6_bribe_157 fu k114 M x1 c4 x5 x6 x7 x8 = some (r, M')) (hw : St G s H locs M) (hl : lv_has ls 9 [(0, .ref (ad G 0)), (1, .int x1), (4, .ref (ad G c4)), (5, .int x5), (6, .int x6), (7, .int x7), (8, .int x8)]) : W p l e rm_X6_bribe s m args below meth c H locs 0 0 (MQ below (QI G r M') args s 0 0 (zA G)) (F0 m 157 ls []) := by
  unfold F_X6_bribe_157 at hF
  refine lv_aload_n hC.1 hC.2.1 dX6_bribe_157 rfl (lv_at hl 0 rfl) ?_
  refine g6_north hC hw q1_195 dX6_bribe_158 ?_
  refine lv_iload hC.1 hC.2.1 dX6_bribe_161 (lv_at hl 5 rfl) ?_
  obtain ⟨r2, h1, hF⟩ := ob1S hF
  refine k_Vi (As := [.int x7]) (rest := []) hC hw (c_X2_isCarriedBy (M := M) (rfl : kd 24 = 11) h1) (RC_N (rfl : kd 24 = 11)) yv_X2_isCarriedBy q2_228 ⟨rfl, rfl⟩ ⟨Nat.le_of_ble_eq_true rfl, Nat.le_of_ble_eq_true rfl⟩ ⟨Nat.zero_le _, Nat.zero_le _⟩ rfl rfl (Nat.le_of_ble_eq_true rfl) hl dX6_bribe_163 (fun H locs hw => ?_)
  refine lv_iload_n hC.1 hC.2.1 dX6_bribe_166 rfl (lv_at hl 1 rfl) ?_
  refine lv_iconst (v := (1 : Int32)) hC.1 hC.2.1 dX6_bribe_167 (by decide) ?_
  refine lv_icmp_ne (tgt := 175) hC.1 hC.2.1 dX6_bribe_168 (by decide) (fun b3 => ?_) (fun b3 => ?_)
  · have hF := ifN hF b3
    refine lv_iconst (v := (0 : Int32)) hC.1 hC.2.1 dX6_bribe_175 (by decide) ?_
    exact w_X6_bribe_176 hC (hk_114 := hk_114) hk4 hF hw (lv_sub hl [0, 1, 2, 3, 4, 5, 6] rfl)
  · have hF := ifP hF b3
    refine lv_iconst (v := (1 : Int32)) hC.1 hC.2.1 dX6_bribe_171 (by decide) ?_
    refine lv_goto (tgt := 176) hC.1 hC.2.1 dX6_bribe_172 (by decide) ?_
    exact w_X6_bribe_176 hC (hk_114 := hk_114) hk4 hF hw (lv_sub hl [0, 1, 2, 3, 4, 5, 6] rfl)
def F_X6_bribe_206 (fu : Nat) : Nat → Mm → Nat → Int32 → Int32 → Int32 → Option (Int32 × Mm)
  | 0, _, _, _, _, _ => none
  | n + 1, M, c4, x5, x6, x7 =>
    if (M.1 24 0) ≤ x7 then
      ob1 (F_X4_take fu M c4 82 (M.1 24 0)) (fun M3 =>
      some (x5, M3))
    else
      ob1 (F_X6_shadeByVoters fu M x6 x7) (fun r5 =>
      ob1 (F_X6_write fu M 82 x7 r5) (fun M7 =>
      F_X6_bribe_206 fu n M7 c4 x5 x6 (x7 + (1 : Int32))))
set_option maxRecDepth 100000 in
set_option maxHeartbeats 4000000 in
theorem w_X6_bribe_206 {p : Program} {l : Launch} {e : Env} {s : State} {m : MethodId} {args : Array Value} {below : List Frame} {meth : Method} {c : Code} {G : Gv} (hC : Cx p s m args meth c cX6_bribe 9 (some .int) RX6) {fu : Nat} {r : Int32} {M' : Mm} : ∀ (n : Nat) {c4 : Nat} {x5 : Int32} {x6 : Int32} {x7 : Int32} {M : Mm} {H : Heap} {locs : List Loc} {ls : Array Slot} (hk4 : kd c4 = 12), F_X6_bribe_206 fu n M c4 x5 x6 x7 = some (r, M') → St G s H locs M → lv_has ls 9 [(0, .ref (ad G 0)), (4, .ref (ad G c4)), (5, .int x5), (6, .int x6), (7, .int x7)] → W p l e rm_X6_bribe s m args below meth c H locs 0 0 (MQ below (QI G r M') args s 0 0 (zA G)) (F0 m 206 ls []) := by
  intro n
  induction n with
  | zero =>
    intro c4 x5 x6 x7 M H locs ls hk4 hF hw hl
    cases hF
  | succ n ih =>
    intro c4 x5 x6 x7 M H locs ls hk4 hF hw hl
    unfold F_X6_bribe_206 at hF
    refine lv_iload hC.1 hC.2.1 dX6_bribe_206 (lv_at hl 4 rfl) ?_
    refine lv_aload_n hC.1 hC.2.1 dX6_bribe_208 rfl (lv_at hl 0 rfl) ?_
    refine g6_north hC hw q1_195 dX6_bribe_209 ?_
    refine g2_men hC hw (rfl : kd 24 = 11) q1_29 dX6_bribe_212 ?_
    refine lv_icmp_ge (tgt := 241) hC.1 hC.2.1 dX6_bribe_215 (by decide) (fun b1 => ?_) (fun b1 => ?_)
    · have hF := ifP hF b1
      refine lv_aload hC.1 hC.2.1 dX6_bribe_241 (lv_at hl 1 rfl) ?_
      refine lv_aload_n hC.1 hC.2.1 dX6_bribe_243 rfl (lv_at hl 0 rfl) ?_
      refine g6_plan hC hw q1_206 dX6_bribe_244 ?_
      refine lv_aload_n hC.1 hC.2.1 dX6_bribe_247 rfl (lv_at hl 0 rfl) ?_
      refine g6_north hC hw q1_195 dX6_bribe_248 ?_
      refine g2_men hC hw (rfl : kd 24 = 11) q1_29 dX6_bribe_251 ?_
      obtain ⟨M3, h2, hF⟩ := ob1S hF
      refine k_Vv (As := [.ref (ad G 82), .int (M.1 24 0)]) (rest := []) hC hw (c_X4_take (M := M) hk4 (rfl : kd 82 = 1) h2) (RC_R hk4) yv_X4_take q2_204 ⟨rfl, rfl⟩ ⟨Nat.le_of_ble_eq_true rfl, Nat.le_of_ble_eq_true rfl⟩ ⟨Nat.zero_le _, Nat.zero_le _⟩ rfl rfl (Nat.le_of_ble_eq_true rfl) hl dX6_bribe_254 (fun H locs hw => ?_)
      refine lv_iload hC.1 hC.2.1 dX6_bribe_257 (lv_at hl 2 rfl) ?_
      exact r_iretE hC hw hF dX6_bribe_259
    · have hF := ifN hF b1
      refine lv_aload_n hC.1 hC.2.1 dX6_bribe_218 rfl (lv_at hl 0 rfl) ?_
      refine g6_plan hC hw q1_206 dX6_bribe_219 ?_
      refine lv_iload hC.1 hC.2.1 dX6_bribe_222 (lv_at hl 4 rfl) ?_
      refine lv_aload_n hC.1 hC.2.1 dX6_bribe_224 rfl (lv_at hl 0 rfl) ?_
      refine lv_iload hC.1 hC.2.1 dX6_bribe_225 (lv_at hl 3 rfl) ?_
      refine lv_iload hC.1 hC.2.1 dX6_bribe_227 (lv_at hl 4 rfl) ?_
      obtain ⟨r5, h4, hF⟩ := ob1S hF
      refine k_Vi (As := [.int x6, .int x7]) (rest := [.int x7, .ref (ad G 82)]) hC hw (c_X6_shadeByVoters (M := M) h4) RC_S yv_X6_shadeByVoters q2_221 ⟨rfl, rfl⟩ ⟨Nat.le_of_ble_eq_true rfl, Nat.le_of_ble_eq_true rfl⟩ ⟨Nat.zero_le _, Nat.zero_le _⟩ rfl rfl (Nat.le_of_ble_eq_true rfl) hl dX6_bribe_229 (fun H locs hw => ?_)
      obtain ⟨M7, h6, hF⟩ := ob1S hF
      refine k_Sv (As := [.ref (ad G 82), .int x7, .int r5]) (rest := []) hC hw (c_X6_write (M := M) (rfl : kd 82 = 1) h6) ys_X6_write q2_20 ⟨rfl, rfl⟩ ⟨Nat.le_of_ble_eq_true rfl, Nat.le_of_ble_eq_true rfl⟩ ⟨Nat.zero_le _, Nat.zero_le _⟩ rfl rfl (Nat.le_of_ble_eq_true rfl) hl dX6_bribe_232 (fun H locs hw => ?_)
      refine lv_iinc (v := (x7 + (1 : Int32))) (lv' := [(7, .int (x7 + (1 : Int32))), (0, .ref (ad G 0)), (4, .ref (ad G c4)), (5, .int x5), (6, .int x6)]) hC.1 hC.2.1 dX6_bribe_235 hl (k := 4) rfl rfl (by decide) rfl (fun ls hl => ?_)
      refine lv_goto (tgt := 206) hC.1 hC.2.1 dX6_bribe_238 (by decide) ?_
      exact ih hk4 hF hw (lv_sub hl [1, 2, 3, 4, 0] rfl)
def F_X6_bribe_114 (fu : Nat) : Nat → Mm → Int32 → Nat → Int32 → Int32 → Int32 → Option (Int32 × Mm)
  | 0, _, _, _, _, _, _ => none
  | n + 1, M, x1, c4, x5, x6, x7 =>
    if ((1 : Int32) <<< ((M.1 24 0) &&& 31)) ≤ x7 then
      if x5 = (-9 : Int32) then
        some ((-9 : Int32), M)
      else
        F_X6_bribe_206 fu fu M c4 x5 x6 (0 : Int32)
    else
      ob1 (F_X6_costOfVoters fu M x7) (fun r4 =>
      if r4 = (-9 : Int32) then
        F_X6_bribe_114 fu n M x1 c4 x5 x6 (x7 + (1 : Int32))
      else
        if x5 = (-9 : Int32) then
          F_X6_bribe_157 fu (F_X6_bribe_114 fu n) M x1 c4 x5 x6 x7 r4
        else
          if x5 ≤ r4 then
            F_X6_bribe_114 fu n M x1 c4 x5 x6 (x7 + (1 : Int32))
          else
            F_X6_bribe_157 fu (F_X6_bribe_114 fu n) M x1 c4 x5 x6 x7 r4)
set_option maxRecDepth 100000 in
set_option maxHeartbeats 4000000 in
theorem w_X6_bribe_114 {p : Program} {l : Launch} {e : Env} {s : State} {m : MethodId} {args : Array Value} {below : List Frame} {meth : Method} {c : Code} {G : Gv} (hC : Cx p s m args meth c cX6_bribe 9 (some .int) RX6) {fu : Nat} {r : Int32} {M' : Mm} : ∀ (n : Nat) {x1 : Int32} {c4 : Nat} {x5 : Int32} {x6 : Int32} {x7 : Int32} {M : Mm} {H : Heap} {locs : List Loc} {ls : Array Slot} (hk4 : kd c4 = 12), F_X6_bribe_114 fu n M x1 c4 x5 x6 x7 = some (r, M') → St G s H locs M → lv_has ls 9 [(0, .ref (ad G 0)), (1, .int x1), (4, .ref (ad G c4)), (5, .int x5), (6, .int x6), (7, .int x7)] → W p l e rm_X6_bribe s m args below meth c H locs 0 0 (MQ below (QI G r M') args s 0 0 (zA G)) (F0 m 114 ls []) := by
  intro n
  induction n with
  | zero =>
    intro x1 c4 x5 x6 x7 M H locs ls hk4 hF hw hl
    cases hF
  | succ n ih =>
    intro x1 c4 x5 x6 x7 M H locs ls hk4 hF hw hl
    unfold F_X6_bribe_114 at hF
    refine lv_iload hC.1 hC.2.1 dX6_bribe_114 (lv_at hl 5 rfl) ?_
    refine lv_iconst (v := (1 : Int32)) hC.1 hC.2.1 dX6_bribe_116 (by decide) ?_
    refine lv_aload_n hC.1 hC.2.1 dX6_bribe_117 rfl (lv_at hl 0 rfl) ?_
    refine g6_north hC hw q1_195 dX6_bribe_118 ?_
    refine g2_men hC hw (rfl : kd 24 = 11) q1_29 dX6_bribe_121 ?_
    refine lv_ishl hC.1 hC.2.1 dX6_bribe_124 ?_
    refine lv_icmp_ge (tgt := 193) hC.1 hC.2.1 dX6_bribe_125 (by decide) (fun b1 => ?_) (fun b1 => ?_)
    · have hF := ifP hF b1
      refine lv_iload hC.1 hC.2.1 dX6_bribe_193 (lv_at hl 3 rfl) ?_
      refine lv_bipush (v := (-9 : Int32)) hC.1 hC.2.1 dX6_bribe_195 (by decide) ?_
      refine lv_icmp_ne (tgt := 203) hC.1 hC.2.1 dX6_bribe_197 (by decide) (fun b2 => ?_) (fun b2 => ?_)
      · have hF := ifN hF b2
        refine lv_iconst (v := (0 : Int32)) hC.1 hC.2.1 dX6_bribe_203 (by decide) ?_
        refine lv_istore (lv' := [(7, .int (0 : Int32)), (0, .ref (ad G 0)), (1, .int x1), (4, .ref (ad G c4)), (5, .int x5), (6, .int x6)]) hC.1 hC.2.1 dX6_bribe_204 hl (by decide) rfl (fun ls hl => ?_)
        exact w_X6_bribe_206 hC _ hk4 hF hw (lv_sub hl [1, 3, 4, 5, 0] rfl)
      · have hF := ifP hF b2
        refine lv_bipush (v := (-9 : Int32)) hC.1 hC.2.1 dX6_bribe_200 (by decide) ?_
        exact r_iretE hC hw hF dX6_bribe_202
    · have hF := ifN hF b1
      refine lv_aload_n hC.1 hC.2.1 dX6_bribe_128 rfl (lv_at hl 0 rfl) ?_
      refine lv_iload hC.1 hC.2.1 dX6_bribe_129 (lv_at hl 5 rfl) ?_
      obtain ⟨r4, h3, hF⟩ := ob1S hF
      refine k_Vi (As := [.int x7]) (rest := []) hC hw (c_X6_costOfVoters (M := M) h3) RC_S yv_X6_costOfVoters q2_217 ⟨rfl, rfl⟩ ⟨Nat.le_of_ble_eq_true rfl, Nat.le_of_ble_eq_true rfl⟩ ⟨Nat.zero_le _, Nat.zero_le _⟩ rfl rfl (Nat.le_of_ble_eq_true rfl) hl dX6_bribe_131 (fun H locs hw => ?_)
      refine lv_istore (lv' := [(8, .int r4), (0, .ref (ad G 0)), (1, .int x1), (4, .ref (ad G c4)), (5, .int x5), (6, .int x6), (7, .int x7)]) hC.1 hC.2.1 dX6_bribe_134 hl (by decide) rfl (fun ls hl => ?_)
      refine lv_iload hC.1 hC.2.1 dX6_bribe_136 (lv_at hl 0 rfl) ?_
      refine lv_bipush (v := (-9 : Int32)) hC.1 hC.2.1 dX6_bribe_138 (by decide) ?_
      refine lv_icmp_eq (tgt := 187) hC.1 hC.2.1 dX6_bribe_140 (by decide) (fun b5 => ?_) (fun b5 => ?_)
      · have hF := ifP hF b5
        refine lv_iinc (v := (x7 + (1 : Int32))) (lv' := [(7, .int (x7 + (1 : Int32))), (8, .int r4), (0, .ref (ad G 0)), (1, .int x1), (4, .ref (ad G c4)), (5, .int x5), (6, .int x6)]) hC.1 hC.2.1 dX6_bribe_187 hl (k := 6) rfl rfl (by decide) rfl (fun ls hl => ?_)
        refine lv_goto (tgt := 114) hC.1 hC.2.1 dX6_bribe_190 (by decide) ?_
        exact ih hk4 hF hw (lv_sub hl [2, 3, 4, 5, 6, 0] rfl)
      · have hF := ifN hF b5
        refine lv_iload hC.1 hC.2.1 dX6_bribe_143 (lv_at hl 4 rfl) ?_
        refine lv_bipush (v := (-9 : Int32)) hC.1 hC.2.1 dX6_bribe_145 (by decide) ?_
        refine lv_icmp_eq (tgt := 157) hC.1 hC.2.1 dX6_bribe_147 (by decide) (fun b6 => ?_) (fun b6 => ?_)
        · have hF := ifP hF b6
          exact w_X6_bribe_157 hC (hk_114 := ih) hk4 hF hw (lv_sub hl [1, 2, 3, 4, 5, 6, 0] rfl)
        · have hF := ifN hF b6
          refine lv_iload hC.1 hC.2.1 dX6_bribe_150 (lv_at hl 0 rfl) ?_
          refine lv_iload hC.1 hC.2.1 dX6_bribe_152 (lv_at hl 4 rfl) ?_
          refine lv_icmp_ge (tgt := 187) hC.1 hC.2.1 dX6_bribe_154 (by decide) (fun b7 => ?_) (fun b7 => ?_)
          · have hF := ifP hF b7
            refine lv_iinc (v := (x7 + (1 : Int32))) (lv' := [(7, .int (x7 + (1 : Int32))), (8, .int r4), (0, .ref (ad G 0)), (1, .int x1), (4, .ref (ad G c4)), (5, .int x5), (6, .int x6)]) hC.1 hC.2.1 dX6_bribe_187 hl (k := 6) rfl rfl (by decide) rfl (fun ls hl => ?_)
            refine lv_goto (tgt := 114) hC.1 hC.2.1 dX6_bribe_190 (by decide) ?_
            exact ih hk4 hF hw (lv_sub hl [2, 3, 4, 5, 6, 0] rfl)
          · have hF := ifN hF b7
            exact w_X6_bribe_157 hC (hk_114 := ih) hk4 hF hw (lv_sub hl [1, 2, 3, 4, 5, 6, 0] rfl)
def F_X6_bribe_46 (fu : Nat) : Nat → Mm → Int32 → Int32 → Nat → Int32 → Option (Int32 × Mm)
  | 0, _, _, _, _, _ => none
  | n + 1, M, x1, x2, c4, x5 =>
    if (M.1 24 0) ≤ x5 then
      F_X6_bribe_114 fu fu M x1 c4 (-9 : Int32) (0 : Int32) (0 : Int32)
    else
      ob1 (F_X2_nearestShade fu M 24 x5 x2 (1 : Int32)) (fun r3 =>
      ob1 (F_X6_write fu M 83 x5 r3) (fun M5 =>
      ob1 (F_X2_nearestShade fu M5 24 x5 x2 (0 : Int32)) (fun r7 =>
      ob1 (F_X6_write fu M5 84 x5 r7) (fun M9 =>
      F_X6_bribe_46 fu n M9 x1 x2 c4 (x5 + (1 : Int32))))))
set_option maxRecDepth 100000 in
set_option maxHeartbeats 4000000 in
theorem w_X6_bribe_46 {p : Program} {l : Launch} {e : Env} {s : State} {m : MethodId} {args : Array Value} {below : List Frame} {meth : Method} {c : Code} {G : Gv} (hC : Cx p s m args meth c cX6_bribe 9 (some .int) RX6) {fu : Nat} {r : Int32} {M' : Mm} : ∀ (n : Nat) {x1 : Int32} {x2 : Int32} {c4 : Nat} {x5 : Int32} {M : Mm} {H : Heap} {locs : List Loc} {ls : Array Slot} (hk4 : kd c4 = 12), F_X6_bribe_46 fu n M x1 x2 c4 x5 = some (r, M') → St G s H locs M → lv_has ls 9 [(0, .ref (ad G 0)), (1, .int x1), (2, .int x2), (4, .ref (ad G c4)), (5, .int x5)] → W p l e rm_X6_bribe s m args below meth c H locs 0 0 (MQ below (QI G r M') args s 0 0 (zA G)) (F0 m 46 ls []) := by
  intro n
  induction n with
  | zero =>
    intro x1 x2 c4 x5 M H locs ls hk4 hF hw hl
    cases hF
  | succ n ih =>
    intro x1 x2 c4 x5 M H locs ls hk4 hF hw hl
    unfold F_X6_bribe_46 at hF
    refine lv_iload hC.1 hC.2.1 dX6_bribe_46 (lv_at hl 4 rfl) ?_
    refine lv_aload_n hC.1 hC.2.1 dX6_bribe_48 rfl (lv_at hl 0 rfl) ?_
    refine g6_north hC hw q1_195 dX6_bribe_49 ?_
    refine g2_men hC hw (rfl : kd 24 = 11) q1_29 dX6_bribe_52 ?_
    refine lv_icmp_ge (tgt := 104) hC.1 hC.2.1 dX6_bribe_55 (by decide) (fun b1 => ?_) (fun b1 => ?_)
    · have hF := ifP hF b1
      refine lv_bipush (v := (-9 : Int32)) hC.1 hC.2.1 dX6_bribe_104 (by decide) ?_
      refine lv_istore (lv' := [(5, .int (-9 : Int32)), (0, .ref (ad G 0)), (1, .int x1), (2, .int x2), (4, .ref (ad G c4))]) hC.1 hC.2.1 dX6_bribe_106 hl (by decide) rfl (fun ls hl => ?_)
      refine lv_iconst (v := (0 : Int32)) hC.1 hC.2.1 dX6_bribe_108 (by decide) ?_
      refine lv_istore (lv' := [(6, .int (0 : Int32)), (5, .int (-9 : Int32)), (0, .ref (ad G 0)), (1, .int x1), (2, .int x2), (4, .ref (ad G c4))]) hC.1 hC.2.1 dX6_bribe_109 hl (by decide) rfl (fun ls hl => ?_)
      refine lv_iconst (v := (0 : Int32)) hC.1 hC.2.1 dX6_bribe_111 (by decide) ?_
      refine lv_istore (lv' := [(7, .int (0 : Int32)), (6, .int (0 : Int32)), (5, .int (-9 : Int32)), (0, .ref (ad G 0)), (1, .int x1), (2, .int x2), (4, .ref (ad G c4))]) hC.1 hC.2.1 dX6_bribe_112 hl (by decide) rfl (fun ls hl => ?_)
      exact w_X6_bribe_114 hC _ hk4 hF hw (lv_sub hl [3, 4, 6, 2, 1, 0] rfl)
    · have hF := ifN hF b1
      refine lv_aload_n hC.1 hC.2.1 dX6_bribe_58 rfl (lv_at hl 0 rfl) ?_
      refine g6_shadesWith hC hw q1_207 dX6_bribe_59 ?_
      refine lv_iload hC.1 hC.2.1 dX6_bribe_62 (lv_at hl 4 rfl) ?_
      refine lv_aload_n hC.1 hC.2.1 dX6_bribe_64 rfl (lv_at hl 0 rfl) ?_
      refine g6_north hC hw q1_195 dX6_bribe_65 ?_
      refine lv_iload hC.1 hC.2.1 dX6_bribe_68 (lv_at hl 4 rfl) ?_
      refine lv_iload_n hC.1 hC.2.1 dX6_bribe_70 rfl (lv_at hl 2 rfl) ?_
      refine lv_iconst (v := (1 : Int32)) hC.1 hC.2.1 dX6_bribe_71 (by decide) ?_
      obtain ⟨r3, h2, hF⟩ := ob1S hF
      refine k_Vi (As := [.int x5, .int x2, .int (1 : Int32)]) (rest := [.int x5, .ref (ad G 83)]) hC hw (c_X2_nearestShade (M := M) (rfl : kd 24 = 11) h2) (RC_N (rfl : kd 24 = 11)) yv_X2_nearestShade q2_213 ⟨rfl, rfl⟩ ⟨Nat.le_of_ble_eq_true rfl, Nat.le_of_ble_eq_true rfl⟩ ⟨Nat.zero_le _, Nat.zero_le _⟩ rfl rfl (Nat.le_of_ble_eq_true rfl) hl dX6_bribe_72 (fun H locs hw => ?_)
      obtain ⟨M5, h4, hF⟩ := ob1S hF
      refine k_Sv (As := [.ref (ad G 83), .int x5, .int r3]) (rest := []) hC hw (c_X6_write (M := M) (rfl : kd 83 = 1) h4) ys_X6_write q2_20 ⟨rfl, rfl⟩ ⟨Nat.le_of_ble_eq_true rfl, Nat.le_of_ble_eq_true rfl⟩ ⟨Nat.zero_le _, Nat.zero_le _⟩ rfl rfl (Nat.le_of_ble_eq_true rfl) hl dX6_bribe_75 (fun H locs hw => ?_)
      refine lv_aload_n hC.1 hC.2.1 dX6_bribe_78 rfl (lv_at hl 0 rfl) ?_
      refine g6_shadesWithout hC hw q1_208 dX6_bribe_79 ?_
      refine lv_iload hC.1 hC.2.1 dX6_bribe_82 (lv_at hl 4 rfl) ?_
      refine lv_aload_n hC.1 hC.2.1 dX6_bribe_84 rfl (lv_at hl 0 rfl) ?_
      refine g6_north hC hw q1_195 dX6_bribe_85 ?_
      refine lv_iload hC.1 hC.2.1 dX6_bribe_88 (lv_at hl 4 rfl) ?_
      refine lv_iload_n hC.1 hC.2.1 dX6_bribe_90 rfl (lv_at hl 2 rfl) ?_
      refine lv_iconst (v := (0 : Int32)) hC.1 hC.2.1 dX6_bribe_91 (by decide) ?_
      obtain ⟨r7, h6, hF⟩ := ob1S hF
      refine k_Vi (As := [.int x5, .int x2, .int (0 : Int32)]) (rest := [.int x5, .ref (ad G 84)]) hC hw (c_X2_nearestShade (M := M5) (rfl : kd 24 = 11) h6) (RC_N (rfl : kd 24 = 11)) yv_X2_nearestShade q2_213 ⟨rfl, rfl⟩ ⟨Nat.le_of_ble_eq_true rfl, Nat.le_of_ble_eq_true rfl⟩ ⟨Nat.zero_le _, Nat.zero_le _⟩ rfl rfl (Nat.le_of_ble_eq_true rfl) hl dX6_bribe_92 (fun H locs hw => ?_)
      obtain ⟨M9, h8, hF⟩ := ob1S hF
      refine k_Sv (As := [.ref (ad G 84), .int x5, .int r7]) (rest := []) hC hw (c_X6_write (M := M5) (rfl : kd 84 = 1) h8) ys_X6_write q2_20 ⟨rfl, rfl⟩ ⟨Nat.le_of_ble_eq_true rfl, Nat.le_of_ble_eq_true rfl⟩ ⟨Nat.zero_le _, Nat.zero_le _⟩ rfl rfl (Nat.le_of_ble_eq_true rfl) hl dX6_bribe_95 (fun H locs hw => ?_)
      refine lv_iinc (v := (x5 + (1 : Int32))) (lv' := [(5, .int (x5 + (1 : Int32))), (0, .ref (ad G 0)), (1, .int x1), (2, .int x2), (4, .ref (ad G c4))]) hC.1 hC.2.1 dX6_bribe_98 hl (k := 4) rfl rfl (by decide) rfl (fun ls hl => ?_)
      refine lv_goto (tgt := 46) hC.1 hC.2.1 dX6_bribe_101 (by decide) ?_
      exact ih hk4 hF hw (lv_sub hl [1, 2, 3, 4, 0] rfl)
def F_X6_bribe_21 (fu : Nat) (M : Mm) (x1 : Int32) (x2 : Int32) (c4 : Nat) : Option (Int32 × Mm) :=
  ob1 (F_X6_isAhead fu M x2) (fun r2 =>
  if r2 = 0 then
    some ((-1 : Int32), M)
  else
    if (M.1 24 0) = 0 then
      some ((-4 : Int32), M)
    else
      F_X6_bribe_46 fu fu M x1 x2 c4 (0 : Int32))
set_option maxRecDepth 100000 in
set_option maxHeartbeats 4000000 in
theorem w_X6_bribe_21 {p : Program} {l : Launch} {e : Env} {s : State} {m : MethodId} {args : Array Value} {below : List Frame} {meth : Method} {c : Code} {G : Gv} (hC : Cx p s m args meth c cX6_bribe 9 (some .int) RX6) {fu : Nat} {r : Int32} {M' : Mm} {x1 : Int32} {x2 : Int32} {c4 : Nat} {M : Mm} {H : Heap} {locs : List Loc} {ls : Array Slot} (hk4 : kd c4 = 12) (hF : F_X6_bribe_21 fu M x1 x2 c4 = some (r, M')) (hw : St G s H locs M) (hl : lv_has ls 9 [(0, .ref (ad G 0)), (1, .int x1), (2, .int x2), (4, .ref (ad G c4))]) : W p l e rm_X6_bribe s m args below meth c H locs 0 0 (MQ below (QI G r M') args s 0 0 (zA G)) (F0 m 21 ls []) := by
  unfold F_X6_bribe_21 at hF
  refine lv_iload_n hC.1 hC.2.1 dX6_bribe_21 rfl (lv_at hl 2 rfl) ?_
  obtain ⟨r2, h1, hF⟩ := ob1S hF
  refine k_Si (As := [.int x2]) (rest := []) hC hw (c_X6_isAhead (M := M) h1) ys_X6_isAhead q2_147 ⟨rfl, rfl⟩ ⟨Nat.le_of_ble_eq_true rfl, Nat.le_of_ble_eq_true rfl⟩ ⟨Nat.zero_le _, Nat.zero_le _⟩ rfl rfl (Nat.le_of_ble_eq_true rfl) hl dX6_bribe_22 (fun H locs hw => ?_)
  refine lv_if_ne (tgt := 30) hC.1 hC.2.1 dX6_bribe_25 (by decide) (fun b3 => ?_) (fun b3 => ?_)
  · have hF := ifN hF b3
    refine lv_aload_n hC.1 hC.2.1 dX6_bribe_30 rfl (lv_at hl 0 rfl) ?_
    refine g6_north hC hw q1_195 dX6_bribe_31 ?_
    refine g2_men hC hw (rfl : kd 24 = 11) q1_29 dX6_bribe_34 ?_
    refine lv_if_ne (tgt := 43) hC.1 hC.2.1 dX6_bribe_37 (by decide) (fun b4 => ?_) (fun b4 => ?_)
    · have hF := ifN hF b4
      refine lv_iconst (v := (0 : Int32)) hC.1 hC.2.1 dX6_bribe_43 (by decide) ?_
      refine lv_istore (lv' := [(5, .int (0 : Int32)), (0, .ref (ad G 0)), (1, .int x1), (2, .int x2), (4, .ref (ad G c4))]) hC.1 hC.2.1 dX6_bribe_44 hl (by decide) rfl (fun ls hl => ?_)
      exact w_X6_bribe_46 hC _ hk4 hF hw (lv_sub hl [1, 2, 3, 4, 0] rfl)
    · have hF := ifP hF b4
      refine lv_bipush (v := (-4 : Int32)) hC.1 hC.2.1 dX6_bribe_40 (by decide) ?_
      exact r_iretE hC hw hF dX6_bribe_42
  · have hF := ifP hF b3
    refine lv_iconst (v := (-1 : Int32)) hC.1 hC.2.1 dX6_bribe_28 (by decide) ?_
    exact r_iretE hC hw hF dX6_bribe_29
def F_X6_bribe (fu : Nat) (M : Mm) (x1 : Int32) (x2 : Int32) (x3 : Int32) : Option (Int32 × Mm) :=
  ob1 (F_X6_rowOf fu M x3) (fun r2 =>
  op1 r2 (
    some ((-1 : Int32), M)) (fun c3 =>
    if ¬ kd c3 = 12 then none else (
    if x1 = 0 then
      F_X6_bribe_21 fu M x1 x2 c3
    else
      if x1 = (1 : Int32) then
        F_X6_bribe_21 fu M x1 x2 c3
      else
        some ((-1 : Int32), M))))
set_option maxRecDepth 100000 in
set_option maxHeartbeats 4000000 in
theorem c_X6_bribe {l : Launch} {G : Gv} {fu : Nat} {M : Mm} {x1 : Int32} {x2 : Int32} {x3 : Int32} {r : Int32} {M' : Mm} (hF : F_X6_bribe fu M x1 x2 x3 = some (r, M')) : Met l yX6_bribe (.code yX6_bribe cX6_bribe 9 (some .int) :: zU) rm_X6_bribe (va_Pc [.ref (ad G 0), .int x1, .int x2, .int x3] (Wd G M)) (QI G r M') 0 0 (zA G) := by
  refine zMet (by decide) rfl (Nat.le_of_ble_eq_true rfl) ?_
  intro p e s m below meth c hC hw ls hl
  have hl : lv_has ls 9 [(0, .ref (ad G 0)), (1, .int x1), (2, .int x2), (3, .int x3)] := hl
  unfold F_X6_bribe at hF
  refine lv_aload_n hC.1 hC.2.1 dX6_bribe_0 rfl (lv_at hl 0 rfl) ?_
  refine lv_iload_n hC.1 hC.2.1 dX6_bribe_1 rfl (lv_at hl 3 rfl) ?_
  obtain ⟨r2, h1, hF⟩ := ob1S hF
  refine k_Vq (As := [.int x3]) (rest := []) hC hw (c_X6_rowOf (M := M) h1) RC_S yv_X6_rowOf q2_9 ⟨rfl, rfl⟩ ⟨Nat.le_of_ble_eq_true rfl, Nat.le_of_ble_eq_true rfl⟩ ⟨Nat.zero_le _, Nat.zero_le _⟩ rfl rfl (Nat.le_of_ble_eq_true rfl) hl dX6_bribe_2 (fun H locs hw => ?_)
  cases r2 with
  | none =>
    have hF := op1N hF
    refine topN ?_
    refine lv_astoreN (lv' := [(4, .null), (0, .ref (ad G 0)), (1, .int x1), (2, .int x2), (3, .int x3)]) hC.1 hC.2.1 dX6_bribe_5 hl (by decide) rfl (fun ls hl => ?_)
    refine lv_aloadN hC.1 hC.2.1 dX6_bribe_7 (lv_at hl 0 rfl) ?_
    refine lv_ifnullN (tgt := 28) hC.1 hC.2.1 dX6_bribe_9 (by decide) ?_
    refine lv_iconst (v := (-1 : Int32)) hC.1 hC.2.1 dX6_bribe_28 (by decide) ?_
    exact r_iretE hC hw hF dX6_bribe_29
  | some c3 =>
    obtain ⟨g4, hF⟩ := ifO (op1C hF)
    have g4 := Decidable.not_not.mp g4
    refine topC ?_
    refine lv_astore (lv' := [(4, .ref (ad G c3)), (0, .ref (ad G 0)), (1, .int x1), (2, .int x2), (3, .int x3)]) hC.1 hC.2.1 dX6_bribe_5 hl (by decide) rfl (fun ls hl => ?_)
    refine lv_aload hC.1 hC.2.1 dX6_bribe_7 (lv_at hl 0 rfl) ?_
    refine lv_ifnull hC.1 hC.2.1 dX6_bribe_9 ?_
    refine lv_iload_n hC.1 hC.2.1 dX6_bribe_12 rfl (lv_at hl 2 rfl) ?_
    refine lv_if_eq (tgt := 21) hC.1 hC.2.1 dX6_bribe_13 (by decide) (fun b5 => ?_) (fun b5 => ?_)
    · have hF := ifP hF b5
      exact w_X6_bribe_21 hC g4 hF hw (lv_sub hl [1, 2, 3, 0] rfl)
    · have hF := ifN hF b5
      refine lv_iload_n hC.1 hC.2.1 dX6_bribe_16 rfl (lv_at hl 2 rfl) ?_
      refine lv_iconst (v := (1 : Int32)) hC.1 hC.2.1 dX6_bribe_17 (by decide) ?_
      refine lv_icmp_ne (tgt := 28) hC.1 hC.2.1 dX6_bribe_18 (by decide) (fun b6 => ?_) (fun b6 => ?_)
      · have hF := ifN hF b6
        refine lv_iconst (v := (-1 : Int32)) hC.1 hC.2.1 dX6_bribe_28 (by decide) ?_
        exact r_iretE hC hw hF dX6_bribe_29
      · have hF := ifP hF b6
        exact w_X6_bribe_21 hC g4 hF hw (lv_sub hl [1, 2, 3, 0] rfl)
abbrev rm_X6_carry : Room := { frames := 3, cells := 0, slots := 0, locals := 79 }
theorem yv_X6_carry : YV yX6_carry cX6_carry 6 (some .int) 2 RX6 := ⟨⟨q2_234, q2_235, q1_1, q2_236⟩, by decide +kernel⟩
theorem dX6_carry_0 : decode cX6_carry 0 = .ok (.aload_n 0, 1) := by decide +kernel
theorem dX6_carry_1 : decode cX6_carry 1 = .ok (.getfield 24, 3) := by decide +kernel
theorem dX6_carry_4 : decode cX6_carry 4 = .ok (.iload_n 1, 1) := by decide +kernel
theorem dX6_carry_5 : decode cX6_carry 5 = .ok (.invokevirtual 155, 3) := by decide +kernel
theorem dX6_carry_8 : decode cX6_carry 8 = .ok (.ifCond .eq 10, 3) := by decide +kernel
theorem dX6_carry_11 : decode cX6_carry 11 = .ok (.iload_n 2, 1) := by decide +kernel
theorem dX6_carry_12 : decode cX6_carry 12 = .ok (.invokestatic 230, 3) := by decide +kernel
theorem dX6_carry_15 : decode cX6_carry 15 = .ok (.ifCond .ne 5, 3) := by decide +kernel
theorem dX6_carry_18 : decode cX6_carry 18 = .ok (.iconst (-1), 1) := by decide +kernel
theorem dX6_carry_19 : decode cX6_carry 19 = .ok (.ireturn, 1) := by decide +kernel
theorem dX6_carry_20 : decode cX6_carry 20 = .ok (.aload_n 0, 1) := by decide +kernel
theorem dX6_carry_21 : decode cX6_carry 21 = .ok (.getfield 24, 3) := by decide +kernel
theorem dX6_carry_24 : decode cX6_carry 24 = .ok (.getfield 169, 3) := by decide +kernel
theorem dX6_carry_27 : decode cX6_carry 27 = .ok (.iload_n 1, 1) := by decide +kernel
theorem dX6_carry_28 : decode cX6_carry 28 = .ok (.invokestatic 101, 3) := by decide +kernel
theorem dX6_carry_31 : decode cX6_carry 31 = .ok (.istore_n 3, 1) := by decide +kernel
theorem dX6_carry_32 : decode cX6_carry 32 = .ok (.iload_n 3, 1) := by decide +kernel
theorem dX6_carry_33 : decode cX6_carry 33 = .ok (.ifCond .ne 6, 3) := by decide +kernel
theorem dX6_carry_36 : decode cX6_carry 36 = .ok (.bipush (-9), 2) := by decide +kernel
theorem dX6_carry_38 : decode cX6_carry 38 = .ok (.ireturn, 1) := by decide +kernel
theorem dX6_carry_39 : decode cX6_carry 39 = .ok (.aload_n 0, 1) := by decide +kernel
theorem dX6_carry_40 : decode cX6_carry 40 = .ok (.getfield 24, 3) := by decide +kernel
theorem dX6_carry_43 : decode cX6_carry 43 = .ok (.aload_n 0, 1) := by decide +kernel
theorem dX6_carry_44 : decode cX6_carry 44 = .ok (.getfield 24, 3) := by decide +kernel
theorem dX6_carry_47 : decode cX6_carry 47 = .ok (.getfield 163, 3) := by decide +kernel
theorem dX6_carry_50 : decode cX6_carry 50 = .ok (.iload_n 1, 1) := by decide +kernel
theorem dX6_carry_51 : decode cX6_carry 51 = .ok (.invokestatic 101, 3) := by decide +kernel
theorem dX6_carry_54 : decode cX6_carry 54 = .ok (.aload_n 0, 1) := by decide +kernel
theorem dX6_carry_55 : decode cX6_carry 55 = .ok (.getfield 24, 3) := by decide +kernel
theorem dX6_carry_58 : decode cX6_carry 58 = .ok (.getfield 214, 3) := by decide +kernel
theorem dX6_carry_61 : decode cX6_carry 61 = .ok (.iload_n 1, 1) := by decide +kernel
theorem dX6_carry_62 : decode cX6_carry 62 = .ok (.invokestatic 101, 3) := by decide +kernel
theorem dX6_carry_65 : decode cX6_carry 65 = .ok (.iload_n 2, 1) := by decide +kernel
theorem dX6_carry_66 : decode cX6_carry 66 = .ok (.invokevirtual 272, 3) := by decide +kernel
theorem dX6_carry_69 : decode cX6_carry 69 = .ok (.istore 4, 2) := by decide +kernel
theorem dX6_carry_71 : decode cX6_carry 71 = .ok (.iconst 0, 1) := by decide +kernel
theorem dX6_carry_72 : decode cX6_carry 72 = .ok (.istore 5, 2) := by decide +kernel
theorem dX6_carry_74 : decode cX6_carry 74 = .ok (.iload 5, 2) := by decide +kernel
theorem dX6_carry_76 : decode cX6_carry 76 = .ok (.bipush 99, 2) := by decide +kernel
theorem dX6_carry_78 : decode cX6_carry 78 = .ok (.iload_n 3, 1) := by decide +kernel
theorem dX6_carry_79 : decode cX6_carry 79 = .ok (.isub, 1) := by decide +kernel
theorem dX6_carry_80 : decode cX6_carry 80 = .ok (.if_icmp .gt 37, 3) := by decide +kernel
theorem dX6_carry_83 : decode cX6_carry 83 = .ok (.aload_n 0, 1) := by decide +kernel
theorem dX6_carry_84 : decode cX6_carry 84 = .ok (.getfield 24, 3) := by decide +kernel
theorem dX6_carry_87 : decode cX6_carry 87 = .ok (.iload_n 1, 1) := by decide +kernel
theorem dX6_carry_88 : decode cX6_carry 88 = .ok (.iload_n 3, 1) := by decide +kernel
theorem dX6_carry_89 : decode cX6_carry 89 = .ok (.iload 5, 2) := by decide +kernel
theorem dX6_carry_91 : decode cX6_carry 91 = .ok (.iadd, 1) := by decide +kernel
theorem dX6_carry_92 : decode cX6_carry 92 = .ok (.iload 4, 2) := by decide +kernel
theorem dX6_carry_94 : decode cX6_carry 94 = .ok (.isub, 1) := by decide +kernel
theorem dX6_carry_95 : decode cX6_carry 95 = .ok (.aload_n 0, 1) := by decide +kernel
theorem dX6_carry_96 : decode cX6_carry 96 = .ok (.getfield 24, 3) := by decide +kernel
theorem dX6_carry_99 : decode cX6_carry 99 = .ok (.getfield 195, 3) := by decide +kernel
theorem dX6_carry_102 : decode cX6_carry 102 = .ok (.invokevirtual 276, 3) := by decide +kernel
theorem dX6_carry_105 : decode cX6_carry 105 = .ok (.ifCond .eq 6, 3) := by decide +kernel
theorem dX6_carry_108 : decode cX6_carry 108 = .ok (.iload 5, 2) := by decide +kernel
theorem dX6_carry_110 : decode cX6_carry 110 = .ok (.ireturn, 1) := by decide +kernel
theorem dX6_carry_111 : decode cX6_carry 111 = .ok (.iinc 5 1, 3) := by decide +kernel
theorem dX6_carry_114 : decode cX6_carry 114 = .ok (.goto (-40), 3) := by decide +kernel
theorem dX6_carry_117 : decode cX6_carry 117 = .ok (.bipush (-9), 2) := by decide +kernel
theorem dX6_carry_119 : decode cX6_carry 119 = .ok (.ireturn, 1) := by decide +kernel
def F_X6_carry_74 (fu : Nat) (M : Mm) : Nat → Int32 → Int32 → Int32 → Int32 → Option Int32
  | 0, _, _, _, _ => none
  | n + 1, x1, x3, x4, x5 =>
    if ((99 : Int32) - x3) < x5 then
      some (-9 : Int32)
    else
      ob1 (F_X2_hasRight fu M 24 x1 ((x3 + x5) - x4) (M.1 24 1)) (fun r3 =>
      if r3 = 0 then
        F_X6_carry_74 fu M n x1 x3 x4 (x5 + (1 : Int32))
      else
        some x5)
set_option maxRecDepth 100000 in
set_option maxHeartbeats 4000000 in
theorem w_X6_carry_74 {p : Program} {l : Launch} {e : Env} {s : State} {m : MethodId} {args : Array Value} {below : List Frame} {meth : Method} {c : Code} {G : Gv} (hC : Cx p s m args meth c cX6_carry 6 (some .int) RX6) {fu : Nat} {r : Int32} {M : Mm} : ∀ (n : Nat) {x1 : Int32} {x3 : Int32} {x4 : Int32} {x5 : Int32} {H : Heap} {locs : List Loc} {ls : Array Slot}, F_X6_carry_74 fu M n x1 x3 x4 x5 = some r → St G s H locs M → lv_has ls 6 [(0, .ref (ad G 0)), (1, .int x1), (3, .int x3), (4, .int x4), (5, .int x5)] → W p l e rm_X6_carry s m args below meth c H locs 0 0 (MQ below (QI G r M) args s 0 0 (zA G)) (F0 m 74 ls []) := by
  intro n
  induction n with
  | zero =>
    intro x1 x3 x4 x5 H locs ls hF hw hl
    cases hF
  | succ n ih =>
    intro x1 x3 x4 x5 H locs ls hF hw hl
    unfold F_X6_carry_74 at hF
    refine lv_iload hC.1 hC.2.1 dX6_carry_74 (lv_at hl 4 rfl) ?_
    refine lv_bipush (v := (99 : Int32)) hC.1 hC.2.1 dX6_carry_76 (by decide) ?_
    refine lv_iload_n hC.1 hC.2.1 dX6_carry_78 rfl (lv_at hl 2 rfl) ?_
    refine lv_isub hC.1 hC.2.1 dX6_carry_79 ?_
    refine lv_icmp_gt (tgt := 117) hC.1 hC.2.1 dX6_carry_80 (by decide) (fun b1 => ?_) (fun b1 => ?_)
    · have hF := ifP hF b1
      refine lv_bipush (v := (-9 : Int32)) hC.1 hC.2.1 dX6_carry_117 (by decide) ?_
      exact r_iretP hC hw hF dX6_carry_119
    · have hF := ifN hF b1
      refine lv_aload_n hC.1 hC.2.1 dX6_carry_83 rfl (lv_at hl 0 rfl) ?_
      refine g6_north hC hw q1_195 dX6_carry_84 ?_
      refine lv_iload_n hC.1 hC.2.1 dX6_carry_87 rfl (lv_at hl 1 rfl) ?_
      refine lv_iload_n hC.1 hC.2.1 dX6_carry_88 rfl (lv_at hl 2 rfl) ?_
      refine lv_iload hC.1 hC.2.1 dX6_carry_89 (lv_at hl 4 rfl) ?_
      refine lv_iadd hC.1 hC.2.1 dX6_carry_91 ?_
      refine lv_iload hC.1 hC.2.1 dX6_carry_92 (lv_at hl 3 rfl) ?_
      refine lv_isub hC.1 hC.2.1 dX6_carry_94 ?_
      refine lv_aload_n hC.1 hC.2.1 dX6_carry_95 rfl (lv_at hl 0 rfl) ?_
      refine g6_north hC hw q1_195 dX6_carry_96 ?_
      refine g2_rightNow hC hw (rfl : kd 24 = 11) q1_31 dX6_carry_99 ?_
      obtain ⟨r3, h2, hF⟩ := ob1S hF
      refine k_Vi (As := [.int x1, .int ((x3 + x5) - x4), .int (M.1 24 1)]) (rest := []) hC hw (c_X2_hasRight (M := M) (rfl : kd 24 = 11) h2) (RC_N (rfl : kd 24 = 11)) yv_X2_hasRight q2_238 ⟨rfl, rfl⟩ ⟨Nat.le_of_ble_eq_true rfl, Nat.le_of_ble_eq_true rfl⟩ ⟨Nat.zero_le _, Nat.zero_le _⟩ rfl rfl (Nat.le_of_ble_eq_true rfl) hl dX6_carry_102 (fun H locs hw => ?_)
      refine lv_if_eq (tgt := 111) hC.1 hC.2.1 dX6_carry_105 (by decide) (fun b4 => ?_) (fun b4 => ?_)
      · have hF := ifP hF b4
        refine lv_iinc (v := (x5 + (1 : Int32))) (lv' := [(5, .int (x5 + (1 : Int32))), (0, .ref (ad G 0)), (1, .int x1), (3, .int x3), (4, .int x4)]) hC.1 hC.2.1 dX6_carry_111 hl (k := 4) rfl rfl (by decide) rfl (fun ls hl => ?_)
        refine lv_goto (tgt := 74) hC.1 hC.2.1 dX6_carry_114 (by decide) ?_
        exact ih hF hw (lv_sub hl [1, 2, 3, 4, 0] rfl)
      · have hF := ifN hF b4
        refine lv_iload hC.1 hC.2.1 dX6_carry_108 (lv_at hl 4 rfl) ?_
        exact r_iretP hC hw hF dX6_carry_110
def F_X6_carry (fu : Nat) (M : Mm) (x1 : Int32) (x2 : Int32) : Option Int32 :=
  ob1 (F_X2_isMan fu M 24 x1) (fun r2 =>
  if r2 = 0 then
    some (-1 : Int32)
  else
    ob1 (F_X6_isAhead fu M x2) (fun r5 =>
    if r5 = 0 then
      some (-1 : Int32)
    else
      ob1 (F_X6_read fu M 28 x1) (fun r8 =>
      if r8 = 0 then
        some (-9 : Int32)
      else
        ob1 (F_X6_read fu M 26 x1) (fun r11 =>
        ob1 (F_X6_read fu M 29 x1) (fun r13 =>
        ob1 (F_X2_meltedIn fu M 24 r11 r13 x2) (fun r15 =>
        F_X6_carry_74 fu M fu x1 r8 r15 (0 : Int32)))))))
set_option maxRecDepth 100000 in
set_option maxHeartbeats 4000000 in
theorem c_X6_carry {l : Launch} {G : Gv} {fu : Nat} {M : Mm} {x1 : Int32} {x2 : Int32} {r : Int32} (hF : F_X6_carry fu M x1 x2 = some r) : Met l yX6_carry (.code yX6_carry cX6_carry 6 (some .int) :: zU) rm_X6_carry (va_Pc [.ref (ad G 0), .int x1, .int x2] (Wd G M)) (QI G r M) 0 0 (zA G) := by
  refine zMet (by decide) rfl (Nat.le_of_ble_eq_true rfl) ?_
  intro p e s m below meth c hC hw ls hl
  have hl : lv_has ls 6 [(0, .ref (ad G 0)), (1, .int x1), (2, .int x2)] := hl
  unfold F_X6_carry at hF
  refine lv_aload_n hC.1 hC.2.1 dX6_carry_0 rfl (lv_at hl 0 rfl) ?_
  refine g6_north hC hw q1_195 dX6_carry_1 ?_
  refine lv_iload_n hC.1 hC.2.1 dX6_carry_4 rfl (lv_at hl 1 rfl) ?_
  obtain ⟨r2, h1, hF⟩ := ob1S hF
  refine k_Vi (As := [.int x1]) (rest := []) hC hw (c_X2_isMan (M := M) (rfl : kd 24 = 11) h1) (RC_N (rfl : kd 24 = 11)) yv_X2_isMan q2_31 ⟨rfl, rfl⟩ ⟨Nat.le_of_ble_eq_true rfl, Nat.le_of_ble_eq_true rfl⟩ ⟨Nat.zero_le _, Nat.zero_le _⟩ rfl rfl (Nat.le_of_ble_eq_true rfl) hl dX6_carry_5 (fun H locs hw => ?_)
  refine lv_if_eq (tgt := 18) hC.1 hC.2.1 dX6_carry_8 (by decide) (fun b3 => ?_) (fun b3 => ?_)
  · have hF := ifP hF b3
    refine lv_iconst (v := (-1 : Int32)) hC.1 hC.2.1 dX6_carry_18 (by decide) ?_
    exact r_iretP hC hw hF dX6_carry_19
  · have hF := ifN hF b3
    refine lv_iload_n hC.1 hC.2.1 dX6_carry_11 rfl (lv_at hl 2 rfl) ?_
    obtain ⟨r5, h4, hF⟩ := ob1S hF
    refine k_Si (As := [.int x2]) (rest := []) hC hw (c_X6_isAhead (M := M) h4) ys_X6_isAhead q2_147 ⟨rfl, rfl⟩ ⟨Nat.le_of_ble_eq_true rfl, Nat.le_of_ble_eq_true rfl⟩ ⟨Nat.zero_le _, Nat.zero_le _⟩ rfl rfl (Nat.le_of_ble_eq_true rfl) hl dX6_carry_12 (fun H locs hw => ?_)
    refine lv_if_ne (tgt := 20) hC.1 hC.2.1 dX6_carry_15 (by decide) (fun b6 => ?_) (fun b6 => ?_)
    · have hF := ifN hF b6
      refine lv_aload_n hC.1 hC.2.1 dX6_carry_20 rfl (lv_at hl 0 rfl) ?_
      refine g6_north hC hw q1_195 dX6_carry_21 ?_
      refine g2_bulkOf hC hw (rfl : kd 24 = 11) q1_42 dX6_carry_24 ?_
      refine lv_iload_n hC.1 hC.2.1 dX6_carry_27 rfl (lv_at hl 1 rfl) ?_
      obtain ⟨r8, h7, hF⟩ := ob1S hF
      refine k_Si (As := [.ref (ad G 28), .int x1]) (rest := []) hC hw (c_X6_read (M := M) (rfl : kd 28 = 1) h7) ys_X6_read q2_17 ⟨rfl, rfl⟩ ⟨Nat.le_of_ble_eq_true rfl, Nat.le_of_ble_eq_true rfl⟩ ⟨Nat.zero_le _, Nat.zero_le _⟩ rfl rfl (Nat.le_of_ble_eq_true rfl) hl dX6_carry_28 (fun H locs hw => ?_)
      refine lv_istore_n (lv' := [(3, .int r8), (0, .ref (ad G 0)), (1, .int x1), (2, .int x2)]) hC.1 hC.2.1 dX6_carry_31 rfl hl (by decide) rfl (fun ls hl => ?_)
      refine lv_iload_n hC.1 hC.2.1 dX6_carry_32 rfl (lv_at hl 0 rfl) ?_
      refine lv_if_ne (tgt := 39) hC.1 hC.2.1 dX6_carry_33 (by decide) (fun b9 => ?_) (fun b9 => ?_)
      · have hF := ifN hF b9
        refine lv_aload_n hC.1 hC.2.1 dX6_carry_39 rfl (lv_at hl 1 rfl) ?_
        refine g6_north hC hw q1_195 dX6_carry_40 ?_
        refine lv_aload_n hC.1 hC.2.1 dX6_carry_43 rfl (lv_at hl 1 rfl) ?_
        refine g6_north hC hw q1_195 dX6_carry_44 ?_
        refine g2_kindOf hC hw (rfl : kd 24 = 11) q1_38 dX6_carry_47 ?_
        refine lv_iload_n hC.1 hC.2.1 dX6_carry_50 rfl (lv_at hl 2 rfl) ?_
        obtain ⟨r11, h10, hF⟩ := ob1S hF
        refine k_Si (As := [.ref (ad G 26), .int x1]) (rest := [.ref (ad G 24)]) hC hw (c_X6_read (M := M) (rfl : kd 26 = 1) h10) ys_X6_read q2_17 ⟨rfl, rfl⟩ ⟨Nat.le_of_ble_eq_true rfl, Nat.le_of_ble_eq_true rfl⟩ ⟨Nat.zero_le _, Nat.zero_le _⟩ rfl rfl (Nat.le_of_ble_eq_true rfl) hl dX6_carry_51 (fun H locs hw => ?_)
        refine lv_aload_n hC.1 hC.2.1 dX6_carry_54 rfl (lv_at hl 1 rfl) ?_
        refine g6_north hC hw q1_195 dX6_carry_55 ?_
        refine g2_shadeOf hC hw (rfl : kd 24 = 11) q1_44 dX6_carry_58 ?_
        refine lv_iload_n hC.1 hC.2.1 dX6_carry_61 rfl (lv_at hl 2 rfl) ?_
        obtain ⟨r13, h12, hF⟩ := ob1S hF
        refine k_Si (As := [.ref (ad G 29), .int x1]) (rest := [.int r11, .ref (ad G 24)]) hC hw (c_X6_read (M := M) (rfl : kd 29 = 1) h12) ys_X6_read q2_17 ⟨rfl, rfl⟩ ⟨Nat.le_of_ble_eq_true rfl, Nat.le_of_ble_eq_true rfl⟩ ⟨Nat.zero_le _, Nat.zero_le _⟩ rfl rfl (Nat.le_of_ble_eq_true rfl) hl dX6_carry_62 (fun H locs hw => ?_)
        refine lv_iload_n hC.1 hC.2.1 dX6_carry_65 rfl (lv_at hl 3 rfl) ?_
        obtain ⟨r15, h14, hF⟩ := ob1S hF
        refine k_Vi (As := [.int r11, .int r13, .int x2]) (rest := []) hC hw (c_X2_meltedIn (M := M) (rfl : kd 24 = 11) h14) (RC_N (rfl : kd 24 = 11)) yv_X2_meltedIn q2_237 ⟨rfl, rfl⟩ ⟨Nat.le_of_ble_eq_true rfl, Nat.le_of_ble_eq_true rfl⟩ ⟨Nat.zero_le _, Nat.zero_le _⟩ rfl rfl (Nat.le_of_ble_eq_true rfl) hl dX6_carry_66 (fun H locs hw => ?_)
        refine lv_istore (lv' := [(4, .int r15), (3, .int r8), (0, .ref (ad G 0)), (1, .int x1), (2, .int x2)]) hC.1 hC.2.1 dX6_carry_69 hl (by decide) rfl (fun ls hl => ?_)
        refine lv_iconst (v := (0 : Int32)) hC.1 hC.2.1 dX6_carry_71 (by decide) ?_
        refine lv_istore (lv' := [(5, .int (0 : Int32)), (4, .int r15), (3, .int r8), (0, .ref (ad G 0)), (1, .int x1), (2, .int x2)]) hC.1 hC.2.1 dX6_carry_72 hl (by decide) rfl (fun ls hl => ?_)
        exact w_X6_carry_74 hC _ hF hw (lv_sub hl [3, 4, 2, 1, 0] rfl)
      · have hF := ifP hF b9
        refine lv_bipush (v := (-9 : Int32)) hC.1 hC.2.1 dX6_carry_36 (by decide) ?_
        exact r_iretP hC hw hF dX6_carry_38
    · have hF := ifP hF b6
      refine lv_iconst (v := (-1 : Int32)) hC.1 hC.2.1 dX6_carry_18 (by decide) ?_
      exact r_iretP hC hw hF dX6_carry_19
abbrev rm_X6_countedOn : Room := { frames := 1, cells := 0, slots := 0, locals := 21 }
theorem yv_X6_countedOn : YV yX6_countedOn cX6_countedOn 3 (some .int) 2 RX6 := ⟨⟨q3_21, qs_15, q1_1, q3_22⟩, by decide +kernel⟩
theorem dX6_countedOn_0 : decode cX6_countedOn 0 = .ok (.aload_n 0, 1) := by decide +kernel
theorem dX6_countedOn_1 : decode cX6_countedOn 1 = .ok (.getfield 61, 3) := by decide +kernel
theorem dX6_countedOn_4 : decode cX6_countedOn 4 = .ok (.iload_n 2, 1) := by decide +kernel
theorem dX6_countedOn_5 : decode cX6_countedOn 5 = .ok (.invokestatic 101, 3) := by decide +kernel
theorem dX6_countedOn_8 : decode cX6_countedOn 8 = .ok (.iload_n 1, 1) := by decide +kernel
theorem dX6_countedOn_9 : decode cX6_countedOn 9 = .ok (.invokestatic 252, 3) := by decide +kernel
theorem dX6_countedOn_12 : decode cX6_countedOn 12 = .ok (.ifCond .eq 7, 3) := by decide +kernel
theorem dX6_countedOn_15 : decode cX6_countedOn 15 = .ok (.iconst 1, 1) := by decide +kernel
theorem dX6_countedOn_16 : decode cX6_countedOn 16 = .ok (.goto 4, 3) := by decide +kernel
theorem dX6_countedOn_19 : decode cX6_countedOn 19 = .ok (.iconst 0, 1) := by decide +kernel
theorem dX6_countedOn_20 : decode cX6_countedOn 20 = .ok (.ireturn, 1) := by decide +kernel
def F_X6_countedOn (fu : Nat) (M : Mm) (x1 : Int32) (x2 : Int32) : Option Int32 :=
  ob1 (F_X6_read fu M 81 x2) (fun r2 =>
  ob1 (F_X6_isIn fu M r2 x1) (fun r4 =>
  if r4 = 0 then
    some (0 : Int32)
  else
    some (1 : Int32)))
set_option maxRecDepth 100000 in
set_option maxHeartbeats 4000000 in
theorem c_X6_countedOn {l : Launch} {G : Gv} {fu : Nat} {M : Mm} {x1 : Int32} {x2 : Int32} {r : Int32} (hF : F_X6_countedOn fu M x1 x2 = some r) : Met l yX6_countedOn (.code yX6_countedOn cX6_countedOn 3 (some .int) :: zU) rm_X6_countedOn (va_Pc [.ref (ad G 0), .int x1, .int x2] (Wd G M)) (QI G r M) 0 0 (zA G) := by
  refine zMet (by decide) rfl (Nat.le_of_ble_eq_true rfl) ?_
  intro p e s m below meth c hC hw ls hl
  have hl : lv_has ls 3 [(0, .ref (ad G 0)), (1, .int x1), (2, .int x2)] := hl
  unfold F_X6_countedOn at hF
  refine lv_aload_n hC.1 hC.2.1 dX6_countedOn_0 rfl (lv_at hl 0 rfl) ?_
  refine g6_ahead hC hw q1_205 dX6_countedOn_1 ?_
  refine lv_iload_n hC.1 hC.2.1 dX6_countedOn_4 rfl (lv_at hl 2 rfl) ?_
  obtain ⟨r2, h1, hF⟩ := ob1S hF
  refine k_Si (As := [.ref (ad G 81), .int x2]) (rest := []) hC hw (c_X6_read (M := M) (rfl : kd 81 = 1) h1) ys_X6_read q2_17 ⟨rfl, rfl⟩ ⟨Nat.le_of_ble_eq_true rfl, Nat.le_of_ble_eq_true rfl⟩ ⟨Nat.zero_le _, Nat.zero_le _⟩ rfl rfl (Nat.le_of_ble_eq_true rfl) hl dX6_countedOn_5 (fun H locs hw => ?_)
  refine lv_iload_n hC.1 hC.2.1 dX6_countedOn_8 rfl (lv_at hl 1 rfl) ?_
  obtain ⟨r4, h3, hF⟩ := ob1S hF
  refine k_Si (As := [.int r2, .int x1]) (rest := []) hC hw (c_X6_isIn (M := M) h3) ys_X6_isIn q2_199 ⟨rfl, rfl⟩ ⟨Nat.le_of_ble_eq_true rfl, Nat.le_of_ble_eq_true rfl⟩ ⟨Nat.zero_le _, Nat.zero_le _⟩ rfl rfl (Nat.le_of_ble_eq_true rfl) hl dX6_countedOn_9 (fun H locs hw => ?_)
  refine lv_if_eq (tgt := 19) hC.1 hC.2.1 dX6_countedOn_12 (by decide) (fun b5 => ?_) (fun b5 => ?_)
  · have hF := ifP hF b5
    refine lv_iconst (v := (0 : Int32)) hC.1 hC.2.1 dX6_countedOn_19 (by decide) ?_
    exact r_iretP hC hw hF dX6_countedOn_20
  · have hF := ifN hF b5
    refine lv_iconst (v := (1 : Int32)) hC.1 hC.2.1 dX6_countedOn_15 (by decide) ?_
    refine lv_goto (tgt := 20) hC.1 hC.2.1 dX6_countedOn_16 (by decide) ?_
    exact r_iretP hC hw hF dX6_countedOn_20
abbrev rm_X6_countedFrom : Room := { frames := 2, cells := 0, slots := 0, locals := 43 }
theorem yv_X6_countedFrom : YV yX6_countedFrom cX6_countedFrom 3 (some .int) 2 RX6 := ⟨⟨q3_17, qs_14, q1_1, q3_18⟩, by decide +kernel⟩
theorem dX6_countedFrom_0 : decode cX6_countedFrom 0 = .ok (.aload_n 0, 1) := by decide +kernel
theorem dX6_countedFrom_1 : decode cX6_countedFrom 1 = .ok (.iload_n 2, 1) := by decide +kernel
theorem dX6_countedFrom_2 : decode cX6_countedFrom 2 = .ok (.iload_n 1, 1) := by decide +kernel
theorem dX6_countedFrom_3 : decode cX6_countedFrom 3 = .ok (.invokestatic 209, 3) := by decide +kernel
theorem dX6_countedFrom_6 : decode cX6_countedFrom 6 = .ok (.invokevirtual 290, 3) := by decide +kernel
theorem dX6_countedFrom_9 : decode cX6_countedFrom 9 = .ok (.aload_n 0, 1) := by decide +kernel
theorem dX6_countedFrom_10 : decode cX6_countedFrom 10 = .ok (.getfield 73, 3) := by decide +kernel
theorem dX6_countedFrom_13 : decode cX6_countedFrom 13 = .ok (.iload_n 1, 1) := by decide +kernel
theorem dX6_countedFrom_14 : decode cX6_countedFrom 14 = .ok (.iconst 1, 1) := by decide +kernel
theorem dX6_countedFrom_15 : decode cX6_countedFrom 15 = .ok (.iload_n 2, 1) := by decide +kernel
theorem dX6_countedFrom_16 : decode cX6_countedFrom 16 = .ok (.ishl, 1) := by decide +kernel
theorem dX6_countedFrom_17 : decode cX6_countedFrom 17 = .ok (.ior, 1) := by decide +kernel
theorem dX6_countedFrom_18 : decode cX6_countedFrom 18 = .ok (.invokestatic 101, 3) := by decide +kernel
theorem dX6_countedFrom_21 : decode cX6_countedFrom 21 = .ok (.iadd, 1) := by decide +kernel
theorem dX6_countedFrom_22 : decode cX6_countedFrom 22 = .ok (.ireturn, 1) := by decide +kernel
def F_X6_countedFrom (fu : Nat) (M : Mm) (x1 : Int32) (x2 : Int32) : Option Int32 :=
  ob1 (F_J6_bitCount_0f7a4 fu M x1) (fun r2 =>
  ob1 (F_X6_countedOn fu M x2 r2) (fun r4 =>
  ob1 (F_X6_read fu M 85 (x1 ||| ((1 : Int32) <<< (x2 &&& 31)))) (fun r6 =>
  some (r4 + r6))))
set_option maxRecDepth 100000 in
set_option maxHeartbeats 4000000 in
theorem c_X6_countedFrom {l : Launch} {G : Gv} {fu : Nat} {M : Mm} {x1 : Int32} {x2 : Int32} {r : Int32} (hF : F_X6_countedFrom fu M x1 x2 = some r) : Met l yX6_countedFrom (.code yX6_countedFrom cX6_countedFrom 3 (some .int) :: zU) rm_X6_countedFrom (va_Pc [.ref (ad G 0), .int x1, .int x2] (Wd G M)) (QI G r M) 0 0 (zA G) := by
  refine zMet (by decide) rfl (Nat.le_of_ble_eq_true rfl) ?_
  intro p e s m below meth c hC hw ls hl
  have hl : lv_has ls 3 [(0, .ref (ad G 0)), (1, .int x1), (2, .int x2)] := hl
  unfold F_X6_countedFrom at hF
  refine lv_aload_n hC.1 hC.2.1 dX6_countedFrom_0 rfl (lv_at hl 0 rfl) ?_
  refine lv_iload_n hC.1 hC.2.1 dX6_countedFrom_1 rfl (lv_at hl 2 rfl) ?_
  refine lv_iload_n hC.1 hC.2.1 dX6_countedFrom_2 rfl (lv_at hl 1 rfl) ?_
  obtain ⟨r2, h1, hF⟩ := ob1S hF
  refine k_Si (As := [.int x1]) (rest := [.int x2, .ref (ad G 0)]) hC hw (c_J6_bitCount_0f7a4 (M := M) h1) ys_J6_bitCount_0f7a4 q2_98 ⟨rfl, rfl⟩ ⟨Nat.le_of_ble_eq_true rfl, Nat.le_of_ble_eq_true rfl⟩ ⟨Nat.zero_le _, Nat.zero_le _⟩ rfl rfl (Nat.le_of_ble_eq_true rfl) hl dX6_countedFrom_3 (fun H locs hw => ?_)
  obtain ⟨r4, h3, hF⟩ := ob1S hF
  refine k_Vi (As := [.int x2, .int r2]) (rest := []) hC hw (c_X6_countedOn (M := M) h3) RC_S yv_X6_countedOn q3_19 ⟨rfl, rfl⟩ ⟨Nat.le_of_ble_eq_true rfl, Nat.le_of_ble_eq_true rfl⟩ ⟨Nat.zero_le _, Nat.zero_le _⟩ rfl rfl (Nat.le_of_ble_eq_true rfl) hl dX6_countedFrom_6 (fun H locs hw => ?_)
  refine lv_aload_n hC.1 hC.2.1 dX6_countedFrom_9 rfl (lv_at hl 0 rfl) ?_
  refine g6_mostCounted hC hw q1_209 dX6_countedFrom_10 ?_
  refine lv_iload_n hC.1 hC.2.1 dX6_countedFrom_13 rfl (lv_at hl 1 rfl) ?_
  refine lv_iconst (v := (1 : Int32)) hC.1 hC.2.1 dX6_countedFrom_14 (by decide) ?_
  refine lv_iload_n hC.1 hC.2.1 dX6_countedFrom_15 rfl (lv_at hl 2 rfl) ?_
  refine lv_ishl hC.1 hC.2.1 dX6_countedFrom_16 ?_
  refine lv_ior hC.1 hC.2.1 dX6_countedFrom_17 ?_
  obtain ⟨r6, h5, hF⟩ := ob1S hF
  refine k_Si (As := [.ref (ad G 85), .int (x1 ||| ((1 : Int32) <<< (x2 &&& 31)))]) (rest := [.int r4]) hC hw (c_X6_read (M := M) (rfl : kd 85 = 1) h5) ys_X6_read q2_17 ⟨rfl, rfl⟩ ⟨Nat.le_of_ble_eq_true rfl, Nat.le_of_ble_eq_true rfl⟩ ⟨Nat.zero_le _, Nat.zero_le _⟩ rfl rfl (Nat.le_of_ble_eq_true rfl) hl dX6_countedFrom_18 (fun H locs hw => ?_)
  refine lv_iadd hC.1 hC.2.1 dX6_countedFrom_21 ?_
  exact r_iretP hC hw hF dX6_countedFrom_22
abbrev rm_X6_fillMostCounted : Room := { frames := 3, cells := 0, slots := 0, locals := 65 }
theorem yv_X6_fillMostCounted : YV yX6_fillMostCounted cX6_fillMostCounted 4 none 0 RX6 := ⟨⟨q3_13, qs_13, q1_1, q3_14⟩, by decide +kernel⟩
theorem dX6_fillMostCounted_0 : decode cX6_fillMostCounted 0 = .ok (.iconst 1, 1) := by decide +kernel
theorem dX6_fillMostCounted_1 : decode cX6_fillMostCounted 1 = .ok (.aload_n 0, 1) := by decide +kernel
theorem dX6_fillMostCounted_2 : decode cX6_fillMostCounted 2 = .ok (.getfield 24, 3) := by decide +kernel
theorem dX6_fillMostCounted_5 : decode cX6_fillMostCounted 5 = .ok (.getfield 152, 3) := by decide +kernel
theorem dX6_fillMostCounted_8 : decode cX6_fillMostCounted 8 = .ok (.ishl, 1) := by decide +kernel
theorem dX6_fillMostCounted_9 : decode cX6_fillMostCounted 9 = .ok (.iconst 1, 1) := by decide +kernel
theorem dX6_fillMostCounted_10 : decode cX6_fillMostCounted 10 = .ok (.isub, 1) := by decide +kernel
theorem dX6_fillMostCounted_11 : decode cX6_fillMostCounted 11 = .ok (.istore_n 1, 1) := by decide +kernel
theorem dX6_fillMostCounted_12 : decode cX6_fillMostCounted 12 = .ok (.iload_n 1, 1) := by decide +kernel
theorem dX6_fillMostCounted_13 : decode cX6_fillMostCounted 13 = .ok (.ifCond .lt 58, 3) := by decide +kernel
theorem dX6_fillMostCounted_16 : decode cX6_fillMostCounted 16 = .ok (.iconst 0, 1) := by decide +kernel
theorem dX6_fillMostCounted_17 : decode cX6_fillMostCounted 17 = .ok (.istore_n 2, 1) := by decide +kernel
theorem dX6_fillMostCounted_18 : decode cX6_fillMostCounted 18 = .ok (.iconst 0, 1) := by decide +kernel
theorem dX6_fillMostCounted_19 : decode cX6_fillMostCounted 19 = .ok (.istore_n 3, 1) := by decide +kernel
theorem dX6_fillMostCounted_20 : decode cX6_fillMostCounted 20 = .ok (.iload_n 3, 1) := by decide +kernel
theorem dX6_fillMostCounted_21 : decode cX6_fillMostCounted 21 = .ok (.aload_n 0, 1) := by decide +kernel
theorem dX6_fillMostCounted_22 : decode cX6_fillMostCounted 22 = .ok (.getfield 24, 3) := by decide +kernel
theorem dX6_fillMostCounted_25 : decode cX6_fillMostCounted 25 = .ok (.getfield 152, 3) := by decide +kernel
theorem dX6_fillMostCounted_28 : decode cX6_fillMostCounted 28 = .ok (.if_icmp .ge 28, 3) := by decide +kernel
theorem dX6_fillMostCounted_31 : decode cX6_fillMostCounted 31 = .ok (.iload_n 1, 1) := by decide +kernel
theorem dX6_fillMostCounted_32 : decode cX6_fillMostCounted 32 = .ok (.iload_n 3, 1) := by decide +kernel
theorem dX6_fillMostCounted_33 : decode cX6_fillMostCounted 33 = .ok (.invokestatic 252, 3) := by decide +kernel
theorem dX6_fillMostCounted_36 : decode cX6_fillMostCounted 36 = .ok (.ifCond .ne 14, 3) := by decide +kernel
theorem dX6_fillMostCounted_39 : decode cX6_fillMostCounted 39 = .ok (.iload_n 2, 1) := by decide +kernel
theorem dX6_fillMostCounted_40 : decode cX6_fillMostCounted 40 = .ok (.aload_n 0, 1) := by decide +kernel
theorem dX6_fillMostCounted_41 : decode cX6_fillMostCounted 41 = .ok (.iload_n 1, 1) := by decide +kernel
theorem dX6_fillMostCounted_42 : decode cX6_fillMostCounted 42 = .ok (.iload_n 3, 1) := by decide +kernel
theorem dX6_fillMostCounted_43 : decode cX6_fillMostCounted 43 = .ok (.invokevirtual 381, 3) := by decide +kernel
theorem dX6_fillMostCounted_46 : decode cX6_fillMostCounted 46 = .ok (.invokestatic 384, 3) := by decide +kernel
theorem dX6_fillMostCounted_49 : decode cX6_fillMostCounted 49 = .ok (.istore_n 2, 1) := by decide +kernel
theorem dX6_fillMostCounted_50 : decode cX6_fillMostCounted 50 = .ok (.iinc 3 1, 3) := by decide +kernel
theorem dX6_fillMostCounted_53 : decode cX6_fillMostCounted 53 = .ok (.goto (-33), 3) := by decide +kernel
theorem dX6_fillMostCounted_56 : decode cX6_fillMostCounted 56 = .ok (.aload_n 0, 1) := by decide +kernel
theorem dX6_fillMostCounted_57 : decode cX6_fillMostCounted 57 = .ok (.getfield 73, 3) := by decide +kernel
theorem dX6_fillMostCounted_60 : decode cX6_fillMostCounted 60 = .ok (.iload_n 1, 1) := by decide +kernel
theorem dX6_fillMostCounted_61 : decode cX6_fillMostCounted 61 = .ok (.iload_n 2, 1) := by decide +kernel
theorem dX6_fillMostCounted_62 : decode cX6_fillMostCounted 62 = .ok (.invokestatic 105, 3) := by decide +kernel
theorem dX6_fillMostCounted_65 : decode cX6_fillMostCounted 65 = .ok (.iinc 1 (-1), 3) := by decide +kernel
theorem dX6_fillMostCounted_68 : decode cX6_fillMostCounted 68 = .ok (.goto (-56), 3) := by decide +kernel
theorem dX6_fillMostCounted_71 : decode cX6_fillMostCounted 71 = .ok (.return_, 1) := by decide +kernel
def F_X6_fillMostCounted_20 (fu : Nat) (k12 : Mm → Int32 → Option Mm) : Nat → Mm → Int32 → Int32 → Int32 → Option Mm
  | 0, _, _, _, _ => none
  | n + 1, M, x1, x2, x3 =>
    if (M.1 24 0) ≤ x3 then
      ob1 (F_X6_write fu M 85 x1 x2) (fun M3 =>
      k12 M3 (x1 + (-1 : Int32)))
    else
      ob1 (F_X6_isIn fu M x1 x3) (fun r5 =>
      if r5 = 0 then
        ob1 (F_X6_countedFrom fu M x1 x3) (fun r8 =>
        F_X6_fillMostCounted_20 fu k12 n M x1 (zmx x2 r8) (x3 + (1 : Int32)))
      else
        F_X6_fillMostCounted_20 fu k12 n M x1 x2 (x3 + (1 : Int32)))
set_option maxRecDepth 100000 in
set_option maxHeartbeats 4000000 in
theorem w_X6_fillMostCounted_20 {p : Program} {l : Launch} {e : Env} {s : State} {m : MethodId} {args : Array Value} {below : List Frame} {meth : Method} {c : Code} {G : Gv} (hC : Cx p s m args meth c cX6_fillMostCounted 4 none RX6) {fu : Nat} {M' : Mm} {k12 : Mm → Int32 → Option Mm} (hk_12 : ∀ {x1 : Int32} {M : Mm} {H : Heap} {locs : List Loc} {ls : Array Slot}, k12 M x1 = some M' → St G s H locs M → lv_has ls 4 [(0, .ref (ad G 0)), (1, .int x1)] → W p l e rm_X6_fillMostCounted s m args below meth c H locs 0 0 (MQ below (QV G M') args s 0 0 (zA G)) (F0 m 12 ls [])) : ∀ (n : Nat) {x1 : Int32} {x2 : Int32} {x3 : Int32} {M : Mm} {H : Heap} {locs : List Loc} {ls : Array Slot}, F_X6_fillMostCounted_20 fu k12 n M x1 x2 x3 = some M' → St G s H locs M → lv_has ls 4 [(0, .ref (ad G 0)), (1, .int x1), (2, .int x2), (3, .int x3)] → W p l e rm_X6_fillMostCounted s m args below meth c H locs 0 0 (MQ below (QV G M') args s 0 0 (zA G)) (F0 m 20 ls []) := by
  intro n
  induction n with
  | zero =>
    intro x1 x2 x3 M H locs ls hF hw hl
    cases hF
  | succ n ih =>
    intro x1 x2 x3 M H locs ls hF hw hl
    unfold F_X6_fillMostCounted_20 at hF
    refine lv_iload_n hC.1 hC.2.1 dX6_fillMostCounted_20 rfl (lv_at hl 3 rfl) ?_
    refine lv_aload_n hC.1 hC.2.1 dX6_fillMostCounted_21 rfl (lv_at hl 0 rfl) ?_
    refine g6_north hC hw q1_195 dX6_fillMostCounted_22 ?_
    refine g2_men hC hw (rfl : kd 24 = 11) q1_29 dX6_fillMostCounted_25 ?_
    refine lv_icmp_ge (tgt := 56) hC.1 hC.2.1 dX6_fillMostCounted_28 (by decide) (fun b1 => ?_) (fun b1 => ?_)
    · have hF := ifP hF b1
      refine lv_aload_n hC.1 hC.2.1 dX6_fillMostCounted_56 rfl (lv_at hl 0 rfl) ?_
      refine g6_mostCounted hC hw q1_209 dX6_fillMostCounted_57 ?_
      refine lv_iload_n hC.1 hC.2.1 dX6_fillMostCounted_60 rfl (lv_at hl 1 rfl) ?_
      refine lv_iload_n hC.1 hC.2.1 dX6_fillMostCounted_61 rfl (lv_at hl 2 rfl) ?_
      obtain ⟨M3, h2, hF⟩ := ob1S hF
      refine k_Sv (As := [.ref (ad G 85), .int x1, .int x2]) (rest := []) hC hw (c_X6_write (M := M) (rfl : kd 85 = 1) h2) ys_X6_write q2_20 ⟨rfl, rfl⟩ ⟨Nat.le_of_ble_eq_true rfl, Nat.le_of_ble_eq_true rfl⟩ ⟨Nat.zero_le _, Nat.zero_le _⟩ rfl rfl (Nat.le_of_ble_eq_true rfl) hl dX6_fillMostCounted_62 (fun H locs hw => ?_)
      refine lv_iinc (v := (x1 + (-1 : Int32))) (lv' := [(1, .int (x1 + (-1 : Int32))), (0, .ref (ad G 0)), (2, .int x2), (3, .int x3)]) hC.1 hC.2.1 dX6_fillMostCounted_65 hl (k := 1) rfl rfl (by decide) rfl (fun ls hl => ?_)
      refine lv_goto (tgt := 12) hC.1 hC.2.1 dX6_fillMostCounted_68 (by decide) ?_
      exact hk_12 hF hw (lv_sub hl [1, 0] rfl)
    · have hF := ifN hF b1
      refine lv_iload_n hC.1 hC.2.1 dX6_fillMostCounted_31 rfl (lv_at hl 1 rfl) ?_
      refine lv_iload_n hC.1 hC.2.1 dX6_fillMostCounted_32 rfl (lv_at hl 3 rfl) ?_
      obtain ⟨r5, h4, hF⟩ := ob1S hF
      refine k_Si (As := [.int x1, .int x3]) (rest := []) hC hw (c_X6_isIn (M := M) h4) ys_X6_isIn q2_199 ⟨rfl, rfl⟩ ⟨Nat.le_of_ble_eq_true rfl, Nat.le_of_ble_eq_true rfl⟩ ⟨Nat.zero_le _, Nat.zero_le _⟩ rfl rfl (Nat.le_of_ble_eq_true rfl) hl dX6_fillMostCounted_33 (fun H locs hw => ?_)
      refine lv_if_ne (tgt := 50) hC.1 hC.2.1 dX6_fillMostCounted_36 (by decide) (fun b6 => ?_) (fun b6 => ?_)
      · have hF := ifN hF b6
        refine lv_iinc (v := (x3 + (1 : Int32))) (lv' := [(3, .int (x3 + (1 : Int32))), (0, .ref (ad G 0)), (1, .int x1), (2, .int x2)]) hC.1 hC.2.1 dX6_fillMostCounted_50 hl (k := 3) rfl rfl (by decide) rfl (fun ls hl => ?_)
        refine lv_goto (tgt := 20) hC.1 hC.2.1 dX6_fillMostCounted_53 (by decide) ?_
        exact ih hF hw (lv_sub hl [1, 2, 3, 0] rfl)
      · have hF := ifP hF b6
        refine lv_iload_n hC.1 hC.2.1 dX6_fillMostCounted_39 rfl (lv_at hl 2 rfl) ?_
        refine lv_aload_n hC.1 hC.2.1 dX6_fillMostCounted_40 rfl (lv_at hl 0 rfl) ?_
        refine lv_iload_n hC.1 hC.2.1 dX6_fillMostCounted_41 rfl (lv_at hl 1 rfl) ?_
        refine lv_iload_n hC.1 hC.2.1 dX6_fillMostCounted_42 rfl (lv_at hl 3 rfl) ?_
        obtain ⟨r8, h7, hF⟩ := ob1S hF
        refine k_Vi (As := [.int x1, .int x3]) (rest := [.int x2]) hC hw (c_X6_countedFrom (M := M) h7) RC_S yv_X6_countedFrom q3_15 ⟨rfl, rfl⟩ ⟨Nat.le_of_ble_eq_true rfl, Nat.le_of_ble_eq_true rfl⟩ ⟨Nat.zero_le _, Nat.zero_le _⟩ rfl rfl (Nat.le_of_ble_eq_true rfl) hl dX6_fillMostCounted_43 (fun H locs hw => ?_)
        refine r_max ⟨hC.1, hC.2.1, by rw [hC.2.2.1]; exact hl.1.symm, hC.2.2.2.1, hC.2.2.2.2.1⟩ q3_23 ⟨Nat.le_of_ble_eq_true rfl, Nat.le_of_ble_eq_true rfl⟩ ⟨Nat.zero_le _, Nat.zero_le _⟩ dX6_fillMostCounted_46 ?_
        refine lv_istore_n (lv' := [(2, .int (zmx x2 r8)), (0, .ref (ad G 0)), (1, .int x1), (3, .int x3)]) hC.1 hC.2.1 dX6_fillMostCounted_49 rfl hl (by decide) rfl (fun ls hl => ?_)
        refine lv_iinc (v := (x3 + (1 : Int32))) (lv' := [(3, .int (x3 + (1 : Int32))), (2, .int (zmx x2 r8)), (0, .ref (ad G 0)), (1, .int x1)]) hC.1 hC.2.1 dX6_fillMostCounted_50 hl (k := 3) rfl rfl (by decide) rfl (fun ls hl => ?_)
        refine lv_goto (tgt := 20) hC.1 hC.2.1 dX6_fillMostCounted_53 (by decide) ?_
        exact ih hF hw (lv_sub hl [2, 3, 1, 0] rfl)
def F_X6_fillMostCounted_12 (fu : Nat) : Nat → Mm → Int32 → Option Mm
  | 0, _, _ => none
  | n + 1, M, x1 =>
    if x1 < 0 then
      some M
    else
      F_X6_fillMostCounted_20 fu (F_X6_fillMostCounted_12 fu n) fu M x1 (0 : Int32) (0 : Int32)
set_option maxRecDepth 100000 in
set_option maxHeartbeats 4000000 in
theorem w_X6_fillMostCounted_12 {p : Program} {l : Launch} {e : Env} {s : State} {m : MethodId} {args : Array Value} {below : List Frame} {meth : Method} {c : Code} {G : Gv} (hC : Cx p s m args meth c cX6_fillMostCounted 4 none RX6) {fu : Nat} {M' : Mm} : ∀ (n : Nat) {x1 : Int32} {M : Mm} {H : Heap} {locs : List Loc} {ls : Array Slot}, F_X6_fillMostCounted_12 fu n M x1 = some M' → St G s H locs M → lv_has ls 4 [(0, .ref (ad G 0)), (1, .int x1)] → W p l e rm_X6_fillMostCounted s m args below meth c H locs 0 0 (MQ below (QV G M') args s 0 0 (zA G)) (F0 m 12 ls []) := by
  intro n
  induction n with
  | zero =>
    intro x1 M H locs ls hF hw hl
    cases hF
  | succ n ih =>
    intro x1 M H locs ls hF hw hl
    unfold F_X6_fillMostCounted_12 at hF
    refine lv_iload_n hC.1 hC.2.1 dX6_fillMostCounted_12 rfl (lv_at hl 1 rfl) ?_
    refine lv_if_lt (tgt := 71) hC.1 hC.2.1 dX6_fillMostCounted_13 (by decide) (fun b1 => ?_) (fun b1 => ?_)
    · have hF := ifP hF b1
      exact r_vretE hC hw hF dX6_fillMostCounted_71
    · have hF := ifN hF b1
      refine lv_iconst (v := (0 : Int32)) hC.1 hC.2.1 dX6_fillMostCounted_16 (by decide) ?_
      refine lv_istore_n (lv' := [(2, .int (0 : Int32)), (0, .ref (ad G 0)), (1, .int x1)]) hC.1 hC.2.1 dX6_fillMostCounted_17 rfl hl (by decide) rfl (fun ls hl => ?_)
      refine lv_iconst (v := (0 : Int32)) hC.1 hC.2.1 dX6_fillMostCounted_18 (by decide) ?_
      refine lv_istore_n (lv' := [(3, .int (0 : Int32)), (2, .int (0 : Int32)), (0, .ref (ad G 0)), (1, .int x1)]) hC.1 hC.2.1 dX6_fillMostCounted_19 rfl hl (by decide) rfl (fun ls hl => ?_)
      exact w_X6_fillMostCounted_20 hC (hk_12 := ih) _ hF hw (lv_sub hl [2, 3, 1, 0] rfl)
def F_X6_fillMostCounted (fu : Nat) (M : Mm) : Option Mm :=
  lt1 (((1 : Int32) <<< ((M.1 24 0) &&& 31)) - (1 : Int32)) (fun y1 =>
  F_X6_fillMostCounted_12 fu fu M y1)
set_option maxRecDepth 100000 in
set_option maxHeartbeats 4000000 in
theorem c_X6_fillMostCounted {l : Launch} {G : Gv} {fu : Nat} {M : Mm} {M' : Mm} (hF : F_X6_fillMostCounted fu M = some M') : Met l yX6_fillMostCounted (.code yX6_fillMostCounted cX6_fillMostCounted 4 none :: zU) rm_X6_fillMostCounted (va_Pc [.ref (ad G 0)] (Wd G M)) (QV G M') 0 0 (zA G) := by
  refine zMet (by decide) rfl (Nat.le_of_ble_eq_true rfl) ?_
  intro p e s m below meth c hC hw ls hl
  have hl : lv_has ls 4 [(0, .ref (ad G 0))] := hl
  unfold F_X6_fillMostCounted at hF
  refine lv_iconst (v := (1 : Int32)) hC.1 hC.2.1 dX6_fillMostCounted_0 (by decide) ?_
  refine lv_aload_n hC.1 hC.2.1 dX6_fillMostCounted_1 rfl (lv_at hl 0 rfl) ?_
  refine g6_north hC hw q1_195 dX6_fillMostCounted_2 ?_
  refine g2_men hC hw (rfl : kd 24 = 11) q1_29 dX6_fillMostCounted_5 ?_
  refine lv_ishl hC.1 hC.2.1 dX6_fillMostCounted_8 ?_
  refine lv_iconst (v := (1 : Int32)) hC.1 hC.2.1 dX6_fillMostCounted_9 (by decide) ?_
  refine lv_isub hC.1 hC.2.1 dX6_fillMostCounted_10 ?_
  refine lv_topi (fun y1 ey1 => ?_)
  have hF := lt1G hF ey1
  refine lv_istore_n (lv' := [(1, .int y1), (0, .ref (ad G 0))]) hC.1 hC.2.1 dX6_fillMostCounted_11 rfl hl (by decide) rfl (fun ls hl => ?_)
  exact w_X6_fillMostCounted_12 hC _ hF hw (lv_sub hl [1, 0] rfl)
abbrev rm_X6_nextCounted : Room := { frames := 3, cells := 0, slots := 0, locals := 65 }
theorem yv_X6_nextCounted : YV yX6_nextCounted cX6_nextCounted 4 (some .int) 1 RX6 := ⟨⟨q3_26, qs_16, q1_1, q3_27⟩, by decide +kernel⟩
theorem dX6_nextCounted_0 : decode cX6_nextCounted 0 = .ok (.aload_n 0, 1) := by decide +kernel
theorem dX6_nextCounted_1 : decode cX6_nextCounted 1 = .ok (.getfield 73, 3) := by decide +kernel
theorem dX6_nextCounted_4 : decode cX6_nextCounted 4 = .ok (.iload_n 1, 1) := by decide +kernel
theorem dX6_nextCounted_5 : decode cX6_nextCounted 5 = .ok (.invokestatic 101, 3) := by decide +kernel
theorem dX6_nextCounted_8 : decode cX6_nextCounted 8 = .ok (.istore_n 2, 1) := by decide +kernel
theorem dX6_nextCounted_9 : decode cX6_nextCounted 9 = .ok (.iconst 0, 1) := by decide +kernel
theorem dX6_nextCounted_10 : decode cX6_nextCounted 10 = .ok (.istore_n 3, 1) := by decide +kernel
theorem dX6_nextCounted_11 : decode cX6_nextCounted 11 = .ok (.iload_n 3, 1) := by decide +kernel
theorem dX6_nextCounted_12 : decode cX6_nextCounted 12 = .ok (.aload_n 0, 1) := by decide +kernel
theorem dX6_nextCounted_13 : decode cX6_nextCounted 13 = .ok (.getfield 24, 3) := by decide +kernel
theorem dX6_nextCounted_16 : decode cX6_nextCounted 16 = .ok (.getfield 152, 3) := by decide +kernel
theorem dX6_nextCounted_19 : decode cX6_nextCounted 19 = .ok (.if_icmp .ge 29, 3) := by decide +kernel
theorem dX6_nextCounted_22 : decode cX6_nextCounted 22 = .ok (.iload_n 1, 1) := by decide +kernel
theorem dX6_nextCounted_23 : decode cX6_nextCounted 23 = .ok (.iload_n 3, 1) := by decide +kernel
theorem dX6_nextCounted_24 : decode cX6_nextCounted 24 = .ok (.invokestatic 252, 3) := by decide +kernel
theorem dX6_nextCounted_27 : decode cX6_nextCounted 27 = .ok (.ifCond .ne 15, 3) := by decide +kernel
theorem dX6_nextCounted_30 : decode cX6_nextCounted 30 = .ok (.aload_n 0, 1) := by decide +kernel
theorem dX6_nextCounted_31 : decode cX6_nextCounted 31 = .ok (.iload_n 1, 1) := by decide +kernel
theorem dX6_nextCounted_32 : decode cX6_nextCounted 32 = .ok (.iload_n 3, 1) := by decide +kernel
theorem dX6_nextCounted_33 : decode cX6_nextCounted 33 = .ok (.invokevirtual 381, 3) := by decide +kernel
theorem dX6_nextCounted_36 : decode cX6_nextCounted 36 = .ok (.iload_n 2, 1) := by decide +kernel
theorem dX6_nextCounted_37 : decode cX6_nextCounted 37 = .ok (.if_icmp .ne 5, 3) := by decide +kernel
theorem dX6_nextCounted_40 : decode cX6_nextCounted 40 = .ok (.iload_n 3, 1) := by decide +kernel
theorem dX6_nextCounted_41 : decode cX6_nextCounted 41 = .ok (.ireturn, 1) := by decide +kernel
theorem dX6_nextCounted_42 : decode cX6_nextCounted 42 = .ok (.iinc 3 1, 3) := by decide +kernel
theorem dX6_nextCounted_45 : decode cX6_nextCounted 45 = .ok (.goto (-34), 3) := by decide +kernel
theorem dX6_nextCounted_48 : decode cX6_nextCounted 48 = .ok (.iconst 0, 1) := by decide +kernel
theorem dX6_nextCounted_49 : decode cX6_nextCounted 49 = .ok (.ireturn, 1) := by decide +kernel
def F_X6_nextCounted_11 (fu : Nat) (M : Mm) : Nat → Int32 → Int32 → Int32 → Option Int32
  | 0, _, _, _ => none
  | n + 1, x1, x2, x3 =>
    if (M.1 24 0) ≤ x3 then
      some (0 : Int32)
    else
      ob1 (F_X6_isIn fu M x1 x3) (fun r3 =>
      if r3 = 0 then
        ob1 (F_X6_countedFrom fu M x1 x3) (fun r6 =>
        if r6 = x2 then
          some x3
        else
          F_X6_nextCounted_11 fu M n x1 x2 (x3 + (1 : Int32)))
      else
        F_X6_nextCounted_11 fu M n x1 x2 (x3 + (1 : Int32)))
set_option maxRecDepth 100000 in
set_option maxHeartbeats 4000000 in
theorem w_X6_nextCounted_11 {p : Program} {l : Launch} {e : Env} {s : State} {m : MethodId} {args : Array Value} {below : List Frame} {meth : Method} {c : Code} {G : Gv} (hC : Cx p s m args meth c cX6_nextCounted 4 (some .int) RX6) {fu : Nat} {r : Int32} {M : Mm} : ∀ (n : Nat) {x1 : Int32} {x2 : Int32} {x3 : Int32} {H : Heap} {locs : List Loc} {ls : Array Slot}, F_X6_nextCounted_11 fu M n x1 x2 x3 = some r → St G s H locs M → lv_has ls 4 [(0, .ref (ad G 0)), (1, .int x1), (2, .int x2), (3, .int x3)] → W p l e rm_X6_nextCounted s m args below meth c H locs 0 0 (MQ below (QI G r M) args s 0 0 (zA G)) (F0 m 11 ls []) := by
  intro n
  induction n with
  | zero =>
    intro x1 x2 x3 H locs ls hF hw hl
    cases hF
  | succ n ih =>
    intro x1 x2 x3 H locs ls hF hw hl
    unfold F_X6_nextCounted_11 at hF
    refine lv_iload_n hC.1 hC.2.1 dX6_nextCounted_11 rfl (lv_at hl 3 rfl) ?_
    refine lv_aload_n hC.1 hC.2.1 dX6_nextCounted_12 rfl (lv_at hl 0 rfl) ?_
    refine g6_north hC hw q1_195 dX6_nextCounted_13 ?_
    refine g2_men hC hw (rfl : kd 24 = 11) q1_29 dX6_nextCounted_16 ?_
    refine lv_icmp_ge (tgt := 48) hC.1 hC.2.1 dX6_nextCounted_19 (by decide) (fun b1 => ?_) (fun b1 => ?_)
    · have hF := ifP hF b1
      refine lv_iconst (v := (0 : Int32)) hC.1 hC.2.1 dX6_nextCounted_48 (by decide) ?_
      exact r_iretP hC hw hF dX6_nextCounted_49
    · have hF := ifN hF b1
      refine lv_iload_n hC.1 hC.2.1 dX6_nextCounted_22 rfl (lv_at hl 1 rfl) ?_
      refine lv_iload_n hC.1 hC.2.1 dX6_nextCounted_23 rfl (lv_at hl 3 rfl) ?_
      obtain ⟨r3, h2, hF⟩ := ob1S hF
      refine k_Si (As := [.int x1, .int x3]) (rest := []) hC hw (c_X6_isIn (M := M) h2) ys_X6_isIn q2_199 ⟨rfl, rfl⟩ ⟨Nat.le_of_ble_eq_true rfl, Nat.le_of_ble_eq_true rfl⟩ ⟨Nat.zero_le _, Nat.zero_le _⟩ rfl rfl (Nat.le_of_ble_eq_true rfl) hl dX6_nextCounted_24 (fun H locs hw => ?_)
      refine lv_if_ne (tgt := 42) hC.1 hC.2.1 dX6_nextCounted_27 (by decide) (fun b4 => ?_) (fun b4 => ?_)
      · have hF := ifN hF b4
        refine lv_iinc (v := (x3 + (1 : Int32))) (lv' := [(3, .int (x3 + (1 : Int32))), (0, .ref (ad G 0)), (1, .int x1), (2, .int x2)]) hC.1 hC.2.1 dX6_nextCounted_42 hl (k := 3) rfl rfl (by decide) rfl (fun ls hl => ?_)
        refine lv_goto (tgt := 11) hC.1 hC.2.1 dX6_nextCounted_45 (by decide) ?_
        exact ih hF hw (lv_sub hl [1, 2, 3, 0] rfl)
      · have hF := ifP hF b4
        refine lv_aload_n hC.1 hC.2.1 dX6_nextCounted_30 rfl (lv_at hl 0 rfl) ?_
        refine lv_iload_n hC.1 hC.2.1 dX6_nextCounted_31 rfl (lv_at hl 1 rfl) ?_
        refine lv_iload_n hC.1 hC.2.1 dX6_nextCounted_32 rfl (lv_at hl 3 rfl) ?_
        obtain ⟨r6, h5, hF⟩ := ob1S hF
        refine k_Vi (As := [.int x1, .int x3]) (rest := []) hC hw (c_X6_countedFrom (M := M) h5) RC_S yv_X6_countedFrom q3_15 ⟨rfl, rfl⟩ ⟨Nat.le_of_ble_eq_true rfl, Nat.le_of_ble_eq_true rfl⟩ ⟨Nat.zero_le _, Nat.zero_le _⟩ rfl rfl (Nat.le_of_ble_eq_true rfl) hl dX6_nextCounted_33 (fun H locs hw => ?_)
        refine lv_iload_n hC.1 hC.2.1 dX6_nextCounted_36 rfl (lv_at hl 2 rfl) ?_
        refine lv_icmp_ne (tgt := 42) hC.1 hC.2.1 dX6_nextCounted_37 (by decide) (fun b7 => ?_) (fun b7 => ?_)
        · have hF := ifN hF b7
          refine lv_iinc (v := (x3 + (1 : Int32))) (lv' := [(3, .int (x3 + (1 : Int32))), (0, .ref (ad G 0)), (1, .int x1), (2, .int x2)]) hC.1 hC.2.1 dX6_nextCounted_42 hl (k := 3) rfl rfl (by decide) rfl (fun ls hl => ?_)
          refine lv_goto (tgt := 11) hC.1 hC.2.1 dX6_nextCounted_45 (by decide) ?_
          exact ih hF hw (lv_sub hl [1, 2, 3, 0] rfl)
        · have hF := ifP hF b7
          refine lv_iload_n hC.1 hC.2.1 dX6_nextCounted_40 rfl (lv_at hl 3 rfl) ?_
          exact r_iretP hC hw hF dX6_nextCounted_41
def F_X6_nextCounted (fu : Nat) (M : Mm) (x1 : Int32) : Option Int32 :=
  ob1 (F_X6_read fu M 85 x1) (fun r2 =>
  F_X6_nextCounted_11 fu M fu x1 r2 (0 : Int32))
set_option maxRecDepth 100000 in
set_option maxHeartbeats 4000000 in
theorem c_X6_nextCounted {l : Launch} {G : Gv} {fu : Nat} {M : Mm} {x1 : Int32} {r : Int32} (hF : F_X6_nextCounted fu M x1 = some r) : Met l yX6_nextCounted (.code yX6_nextCounted cX6_nextCounted 4 (some .int) :: zU) rm_X6_nextCounted (va_Pc [.ref (ad G 0), .int x1] (Wd G M)) (QI G r M) 0 0 (zA G) := by
  refine zMet (by decide) rfl (Nat.le_of_ble_eq_true rfl) ?_
  intro p e s m below meth c hC hw ls hl
  have hl : lv_has ls 4 [(0, .ref (ad G 0)), (1, .int x1)] := hl
  unfold F_X6_nextCounted at hF
  refine lv_aload_n hC.1 hC.2.1 dX6_nextCounted_0 rfl (lv_at hl 0 rfl) ?_
  refine g6_mostCounted hC hw q1_209 dX6_nextCounted_1 ?_
  refine lv_iload_n hC.1 hC.2.1 dX6_nextCounted_4 rfl (lv_at hl 1 rfl) ?_
  obtain ⟨r2, h1, hF⟩ := ob1S hF
  refine k_Si (As := [.ref (ad G 85), .int x1]) (rest := []) hC hw (c_X6_read (M := M) (rfl : kd 85 = 1) h1) ys_X6_read q2_17 ⟨rfl, rfl⟩ ⟨Nat.le_of_ble_eq_true rfl, Nat.le_of_ble_eq_true rfl⟩ ⟨Nat.zero_le _, Nat.zero_le _⟩ rfl rfl (Nat.le_of_ble_eq_true rfl) hl dX6_nextCounted_5 (fun H locs hw => ?_)
  refine lv_istore_n (lv' := [(2, .int r2), (0, .ref (ad G 0)), (1, .int x1)]) hC.1 hC.2.1 dX6_nextCounted_8 rfl hl (by decide) rfl (fun ls hl => ?_)
  refine lv_iconst (v := (0 : Int32)) hC.1 hC.2.1 dX6_nextCounted_9 (by decide) ?_
  refine lv_istore_n (lv' := [(3, .int (0 : Int32)), (2, .int r2), (0, .ref (ad G 0)), (1, .int x1)]) hC.1 hC.2.1 dX6_nextCounted_10 rfl hl (by decide) rfl (fun ls hl => ?_)
  exact w_X6_nextCounted_11 hC _ hF hw (lv_sub hl [2, 3, 1, 0] rfl)
