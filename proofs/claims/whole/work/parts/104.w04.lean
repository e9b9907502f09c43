abbrev rm_X6_day : Room := { frames := 6, cells := 0, slots := 0, locals := 143 }
theorem yv_X6_day : YV yX6_day cX6_day 1 (some .int) 0 RX6 := ⟨⟨q2_230, q2_231, q1_1, q2_232⟩, by decide +kernel⟩
theorem dX6_day_0 : decode cX6_day 0 = .ok (.aload_n 0, 1) := by decide +kernel
theorem dX6_day_1 : decode cX6_day 1 = .ok (.getfield 24, 3) := by decide +kernel
theorem dX6_day_4 : decode cX6_day 4 = .ok (.getfield 152, 3) := by decide +kernel
theorem dX6_day_7 : decode cX6_day 7 = .ok (.ifCond .ne 6, 3) := by decide +kernel
theorem dX6_day_10 : decode cX6_day 10 = .ok (.bipush (-4), 2) := by decide +kernel
theorem dX6_day_12 : decode cX6_day 12 = .ok (.ireturn, 1) := by decide +kernel
theorem dX6_day_13 : decode cX6_day 13 = .ok (.aload_n 0, 1) := by decide +kernel
theorem dX6_day_14 : decode cX6_day 14 = .ok (.getfield 24, 3) := by decide +kernel
theorem dX6_day_17 : decode cX6_day 17 = .ok (.getfield 198, 3) := by decide +kernel
theorem dX6_day_20 : decode cX6_day 20 = .ok (.bipush 60, 2) := by decide +kernel
theorem dX6_day_22 : decode cX6_day 22 = .ok (.if_icmp .lt 6, 3) := by decide +kernel
theorem dX6_day_25 : decode cX6_day 25 = .ok (.bipush (-2), 2) := by decide +kernel
theorem dX6_day_27 : decode cX6_day 27 = .ok (.ireturn, 1) := by decide +kernel
theorem dX6_day_28 : decode cX6_day 28 = .ok (.aload_n 0, 1) := by decide +kernel
theorem dX6_day_29 : decode cX6_day 29 = .ok (.getfield 24, 3) := by decide +kernel
theorem dX6_day_32 : decode cX6_day 32 = .ok (.iconst 0, 1) := by decide +kernel
theorem dX6_day_33 : decode cX6_day 33 = .ok (.iconst 0, 1) := by decide +kernel
theorem dX6_day_34 : decode cX6_day 34 = .ok (.iconst 0, 1) := by decide +kernel
theorem dX6_day_35 : decode cX6_day 35 = .ok (.invokevirtual 201, 3) := by decide +kernel
theorem dX6_day_38 : decode cX6_day 38 = .ok (.aload_n 0, 1) := by decide +kernel
theorem dX6_day_39 : decode cX6_day 39 = .ok (.getfield 24, 3) := by decide +kernel
theorem dX6_day_42 : decode cX6_day 42 = .ok (.invokevirtual 205, 3) := by decide +kernel
theorem dX6_day_45 : decode cX6_day 45 = .ok (.invokestatic 209, 3) := by decide +kernel
theorem dX6_day_48 : decode cX6_day 48 = .ok (.ireturn, 1) := by decide +kernel
def F_X6_day (fu : Nat) (M : Mm) : Option (Int32 × Mm) :=
  if (M.1 24 0) = 0 then
    some ((-4 : Int32), M)
  else
    if (M.1 24 3) < (60 : Int32) then
      ob1 (F_X2_act fu M 24 (0 : Int32) (0 : Int32) (0 : Int32)) (fun M4 =>
      ob1 (F_X2_living fu M4 24) (fun r6 =>
      ob1 (F_J6_bitCount_0f7a4 fu M4 r6) (fun r8 =>
      some (r8, M4))))
    else
      some ((-2 : Int32), M)
set_option maxRecDepth 100000 in
set_option maxHeartbeats 4000000 in
theorem c_X6_day {l : Launch} {G : Gv} {fu : Nat} {M : Mm} {r : Int32} {M' : Mm} (hF : F_X6_day fu M = some (r, M')) : Met l yX6_day (.code yX6_day cX6_day 1 (some .int) :: zU) rm_X6_day (va_Pc [.ref (ad G 0)] (Wd G M)) (QI G r M') 0 0 (zA G) := by
  refine zMet (by decide) rfl (Nat.le_of_ble_eq_true rfl) ?_
  intro p e s m below meth c hC hw ls hl
  have hl : lv_has ls 1 [(0, .ref (ad G 0))] := hl
  unfold F_X6_day at hF
  refine lv_aload_n hC.1 hC.2.1 dX6_day_0 rfl (lv_at hl 0 rfl) ?_
  refine g6_north hC hw q1_202 dX6_day_1 ?_
  refine g2_men hC hw (rfl : kd 24 = 11) q1_32 dX6_day_4 ?_
  refine lv_if_ne (tgt := 13) hC.1 hC.2.1 dX6_day_7 (by decide) (fun b1 => ?_) (fun b1 => ?_)
  · have hF := ifN hF b1
    refine lv_aload_n hC.1 hC.2.1 dX6_day_13 rfl (lv_at hl 0 rfl) ?_
    refine g6_north hC hw q1_202 dX6_day_14 ?_
    refine g2_deeds hC hw (rfl : kd 24 = 11) q1_38 dX6_day_17 ?_
    refine lv_bipush (v := (60 : Int32)) hC.1 hC.2.1 dX6_day_20 (by decide) ?_
    refine lv_icmp_lt (tgt := 28) hC.1 hC.2.1 dX6_day_22 (by decide) (fun b2 => ?_) (fun b2 => ?_)
    · have hF := ifP hF b2
      refine lv_aload_n hC.1 hC.2.1 dX6_day_28 rfl (lv_at hl 0 rfl) ?_
      refine g6_north hC hw q1_202 dX6_day_29 ?_
      refine lv_iconst (v := (0 : Int32)) hC.1 hC.2.1 dX6_day_32 (by decide) ?_
      refine lv_iconst (v := (0 : Int32)) hC.1 hC.2.1 dX6_day_33 (by decide) ?_
      refine lv_iconst (v := (0 : Int32)) hC.1 hC.2.1 dX6_day_34 (by decide) ?_
      obtain ⟨M4, h3, hF⟩ := ob1S hF
      refine k_Vv (As := [.int (0 : Int32), .int (0 : Int32), .int (0 : Int32)]) (rest := []) hC hw (c_X2_act (M := M) (rfl : kd 24 = 11) h3) (RC_N (rfl : kd 24 = 11)) yv_X2_act q2_233 ⟨rfl, rfl⟩ ⟨Nat.le_of_ble_eq_true rfl, Nat.le_of_ble_eq_true rfl⟩ ⟨Nat.zero_le _, Nat.zero_le _⟩ rfl rfl (Nat.le_of_ble_eq_true rfl) hl dX6_day_35 (fun H locs hw => ?_)
      refine lv_aload_n hC.1 hC.2.1 dX6_day_38 rfl (lv_at hl 0 rfl) ?_
      refine g6_north hC hw q1_202 dX6_day_39 ?_
      obtain ⟨r6, h5, hF⟩ := ob1S hF
      refine k_Vi (As := []) (rest := []) hC hw (c_X2_living (M := M4) (rfl : kd 24 = 11) h5) (RC_N (rfl : kd 24 = 11)) yv_X2_living q3_7 ⟨rfl, rfl⟩ ⟨Nat.le_of_ble_eq_true rfl, Nat.le_of_ble_eq_true rfl⟩ ⟨Nat.zero_le _, Nat.zero_le _⟩ rfl rfl (Nat.le_of_ble_eq_true rfl) hl dX6_day_42 (fun H locs hw => ?_)
      obtain ⟨r8, h7, hF⟩ := ob1S hF
      refine k_Si (As := [.int r6]) (rest := []) hC hw (c_J6_bitCount_0f7a4 (M := M4) h7) ys_J6_bitCount_0f7a4 q3_11 ⟨rfl, rfl⟩ ⟨Nat.le_of_ble_eq_true rfl, Nat.le_of_ble_eq_true rfl⟩ ⟨Nat.zero_le _, Nat.zero_le _⟩ rfl rfl (Nat.le_of_ble_eq_true rfl) hl dX6_day_45 (fun H locs hw => ?_)
      exact r_iretE hC hw hF dX6_day_48
    · have hF := ifN hF b2
      refine lv_bipush (v := (-2 : Int32)) hC.1 hC.2.1 dX6_day_25 (by decide) ?_
      exact r_iretE hC hw hF dX6_day_27
  · have hF := ifP hF b1
    refine lv_bipush (v := (-4 : Int32)) hC.1 hC.2.1 dX6_day_10 (by decide) ?_
    exact r_iretE hC hw hF dX6_day_12
abbrev rm_X6_shade : Room := { frames := 6, cells := 0, slots := 0, locals := 143 }
theorem yv_X6_shade : YV yX6_shade cX6_shade 4 (some .int) 2 RX6 := ⟨⟨q3_18, q3_19, q1_1, q3_20⟩, by decide +kernel⟩
theorem dX6_shade_0 : decode cX6_shade 0 = .ok (.aload_n 0, 1) := by decide +kernel
theorem dX6_shade_1 : decode cX6_shade 1 = .ok (.getfield 24, 3) := by decide +kernel
theorem dX6_shade_4 : decode cX6_shade 4 = .ok (.iload_n 1, 1) := by decide +kernel
theorem dX6_shade_5 : decode cX6_shade 5 = .ok (.invokevirtual 155, 3) := by decide +kernel
theorem dX6_shade_8 : decode cX6_shade 8 = .ok (.ifCond .eq 13, 3) := by decide +kernel
theorem dX6_shade_11 : decode cX6_shade 11 = .ok (.iload_n 2, 1) := by decide +kernel
theorem dX6_shade_12 : decode cX6_shade 12 = .ok (.ifCond .lt 9, 3) := by decide +kernel
theorem dX6_shade_15 : decode cX6_shade 15 = .ok (.iload_n 2, 1) := by decide +kernel
theorem dX6_shade_16 : decode cX6_shade 16 = .ok (.bipush 9, 2) := by decide +kernel
theorem dX6_shade_18 : decode cX6_shade 18 = .ok (.if_icmp .le 5, 3) := by decide +kernel
theorem dX6_shade_21 : decode cX6_shade 21 = .ok (.iconst (-1), 1) := by decide +kernel
theorem dX6_shade_22 : decode cX6_shade 22 = .ok (.ireturn, 1) := by decide +kernel
theorem dX6_shade_23 : decode cX6_shade 23 = .ok (.aload_n 0, 1) := by decide +kernel
theorem dX6_shade_24 : decode cX6_shade 24 = .ok (.getfield 24, 3) := by decide +kernel
theorem dX6_shade_27 : decode cX6_shade 27 = .ok (.getfield 198, 3) := by decide +kernel
theorem dX6_shade_30 : decode cX6_shade 30 = .ok (.bipush 60, 2) := by decide +kernel
theorem dX6_shade_32 : decode cX6_shade 32 = .ok (.if_icmp .lt 6, 3) := by decide +kernel
theorem dX6_shade_35 : decode cX6_shade 35 = .ok (.bipush (-2), 2) := by decide +kernel
theorem dX6_shade_37 : decode cX6_shade 37 = .ok (.ireturn, 1) := by decide +kernel
theorem dX6_shade_38 : decode cX6_shade 38 = .ok (.aload_n 0, 1) := by decide +kernel
theorem dX6_shade_39 : decode cX6_shade 39 = .ok (.getfield 24, 3) := by decide +kernel
theorem dX6_shade_42 : decode cX6_shade 42 = .ok (.getfield 214, 3) := by decide +kernel
theorem dX6_shade_45 : decode cX6_shade 45 = .ok (.iload_n 1, 1) := by decide +kernel
theorem dX6_shade_46 : decode cX6_shade 46 = .ok (.invokestatic 101, 3) := by decide +kernel
theorem dX6_shade_49 : decode cX6_shade 49 = .ok (.istore_n 3, 1) := by decide +kernel
theorem dX6_shade_50 : decode cX6_shade 50 = .ok (.aload_n 0, 1) := by decide +kernel
theorem dX6_shade_51 : decode cX6_shade 51 = .ok (.getfield 24, 3) := by decide +kernel
theorem dX6_shade_54 : decode cX6_shade 54 = .ok (.iconst 2, 1) := by decide +kernel
theorem dX6_shade_55 : decode cX6_shade 55 = .ok (.iload_n 1, 1) := by decide +kernel
theorem dX6_shade_56 : decode cX6_shade 56 = .ok (.iload_n 2, 1) := by decide +kernel
theorem dX6_shade_57 : decode cX6_shade 57 = .ok (.invokevirtual 201, 3) := by decide +kernel
theorem dX6_shade_60 : decode cX6_shade 60 = .ok (.iload_n 3, 1) := by decide +kernel
theorem dX6_shade_61 : decode cX6_shade 61 = .ok (.ireturn, 1) := by decide +kernel
def F_X6_shade (fu : Nat) (M : Mm) (x1 : Int32) (x2 : Int32) : Option (Int32 × Mm) :=
  ob1 (F_X2_isMan fu M 24 x1) (fun r2 =>
  if r2 = 0 then
    some ((-1 : Int32), M)
  else
    if x2 < 0 then
      some ((-1 : Int32), M)
    else
      if x2 ≤ (9 : Int32) then
        if (M.1 24 3) < (60 : Int32) then
          ob1 (F_X6_read fu M 29 x1) (fun r8 =>
          ob1 (F_X2_act fu M 24 (2 : Int32) x1 x2) (fun M10 =>
          some (r8, M10)))
        else
          some ((-2 : Int32), M)
      else
        some ((-1 : Int32), M))
set_option maxRecDepth 100000 in
set_option maxHeartbeats 4000000 in
theorem c_X6_shade {l : Launch} {G : Gv} {fu : Nat} {M : Mm} {x1 : Int32} {x2 : Int32} {r : Int32} {M' : Mm} (hF : F_X6_shade fu M x1 x2 = some (r, M')) : Met l yX6_shade (.code yX6_shade cX6_shade 4 (some .int) :: zU) rm_X6_shade (va_Pc [.ref (ad G 0), .int x1, .int x2] (Wd G M)) (QI G r M') 0 0 (zA G) := by
  refine zMet (by decide) rfl (Nat.le_of_ble_eq_true rfl) ?_
  intro p e s m below meth c hC hw ls hl
  have hl : lv_has ls 4 [(0, .ref (ad G 0)), (1, .int x1), (2, .int x2)] := hl
  unfold F_X6_shade at hF
  refine lv_aload_n hC.1 hC.2.1 dX6_shade_0 rfl (lv_at hl 0 rfl) ?_
  refine g6_north hC hw q1_202 dX6_shade_1 ?_
  refine lv_iload_n hC.1 hC.2.1 dX6_shade_4 rfl (lv_at hl 1 rfl) ?_
  obtain ⟨r2, h1, hF⟩ := ob1S hF
  refine k_Vi (As := [.int x1]) (rest := []) hC hw (c_X2_isMan (M := M) (rfl : kd 24 = 11) h1) (RC_N (rfl : kd 24 = 11)) yv_X2_isMan q2_147 ⟨rfl, rfl⟩ ⟨Nat.le_of_ble_eq_true rfl, Nat.le_of_ble_eq_true rfl⟩ ⟨Nat.zero_le _, Nat.zero_le _⟩ rfl rfl (Nat.le_of_ble_eq_true rfl) hl dX6_shade_5 (fun H locs hw => ?_)
  refine lv_if_eq (tgt := 21) hC.1 hC.2.1 dX6_shade_8 (by decide) (fun b3 => ?_) (fun b3 => ?_)
  · have hF := ifP hF b3
    refine lv_iconst (v := (-1 : Int32)) hC.1 hC.2.1 dX6_shade_21 (by decide) ?_
    exact r_iretE hC hw hF dX6_shade_22
  · have hF := ifN hF b3
    refine lv_iload_n hC.1 hC.2.1 dX6_shade_11 rfl (lv_at hl 2 rfl) ?_
    refine lv_if_lt (tgt := 21) hC.1 hC.2.1 dX6_shade_12 (by decide) (fun b4 => ?_) (fun b4 => ?_)
    · have hF := ifP hF b4
      refine lv_iconst (v := (-1 : Int32)) hC.1 hC.2.1 dX6_shade_21 (by decide) ?_
      exact r_iretE hC hw hF dX6_shade_22
    · have hF := ifN hF b4
      refine lv_iload_n hC.1 hC.2.1 dX6_shade_15 rfl (lv_at hl 2 rfl) ?_
      refine lv_bipush (v := (9 : Int32)) hC.1 hC.2.1 dX6_shade_16 (by decide) ?_
      refine lv_icmp_le (tgt := 23) hC.1 hC.2.1 dX6_shade_18 (by decide) (fun b5 => ?_) (fun b5 => ?_)
      · have hF := ifP hF b5
        refine lv_aload_n hC.1 hC.2.1 dX6_shade_23 rfl (lv_at hl 0 rfl) ?_
        refine g6_north hC hw q1_202 dX6_shade_24 ?_
        refine g2_deeds hC hw (rfl : kd 24 = 11) q1_38 dX6_shade_27 ?_
        refine lv_bipush (v := (60 : Int32)) hC.1 hC.2.1 dX6_shade_30 (by decide) ?_
        refine lv_icmp_lt (tgt := 38) hC.1 hC.2.1 dX6_shade_32 (by decide) (fun b6 => ?_) (fun b6 => ?_)
        · have hF := ifP hF b6
          refine lv_aload_n hC.1 hC.2.1 dX6_shade_38 rfl (lv_at hl 0 rfl) ?_
          refine g6_north hC hw q1_202 dX6_shade_39 ?_
          refine g2_shadeOf hC hw (rfl : kd 24 = 11) q1_48 dX6_shade_42 ?_
          refine lv_iload_n hC.1 hC.2.1 dX6_shade_45 rfl (lv_at hl 1 rfl) ?_
          obtain ⟨r8, h7, hF⟩ := ob1S hF
          refine k_Si (As := [.ref (ad G 29), .int x1]) (rest := []) hC hw (c_X6_read (M := M) (rfl : kd 29 = 1) h7) ys_X6_read q2_24 ⟨rfl, rfl⟩ ⟨Nat.le_of_ble_eq_true rfl, Nat.le_of_ble_eq_true rfl⟩ ⟨Nat.zero_le _, Nat.zero_le _⟩ rfl rfl (Nat.le_of_ble_eq_true rfl) hl dX6_shade_46 (fun H locs hw => ?_)
          refine lv_istore_n (lv' := [(3, .int r8), (0, .ref (ad G 0)), (1, .int x1), (2, .int x2)]) hC.1 hC.2.1 dX6_shade_49 rfl hl (by decide) rfl (fun ls hl => ?_)
          refine lv_aload_n hC.1 hC.2.1 dX6_shade_50 rfl (lv_at hl 1 rfl) ?_
          refine g6_north hC hw q1_202 dX6_shade_51 ?_
          refine lv_iconst (v := (2 : Int32)) hC.1 hC.2.1 dX6_shade_54 (by decide) ?_
          refine lv_iload_n hC.1 hC.2.1 dX6_shade_55 rfl (lv_at hl 2 rfl) ?_
          refine lv_iload_n hC.1 hC.2.1 dX6_shade_56 rfl (lv_at hl 3 rfl) ?_
          obtain ⟨M10, h9, hF⟩ := ob1S hF
          refine k_Vv (As := [.int (2 : Int32), .int x1, .int x2]) (rest := []) hC hw (c_X2_act (M := M) (rfl : kd 24 = 11) h9) (RC_N (rfl : kd 24 = 11)) yv_X2_act q2_233 ⟨rfl, rfl⟩ ⟨Nat.le_of_ble_eq_true rfl, Nat.le_of_ble_eq_true rfl⟩ ⟨Nat.zero_le _, Nat.zero_le _⟩ rfl rfl (Nat.le_of_ble_eq_true rfl) hl dX6_shade_57 (fun H locs hw => ?_)
          refine lv_iload_n hC.1 hC.2.1 dX6_shade_60 rfl (lv_at hl 0 rfl) ?_
          exact r_iretE hC hw hF dX6_shade_61
        · have hF := ifN hF b6
          refine lv_bipush (v := (-2 : Int32)) hC.1 hC.2.1 dX6_shade_35 (by decide) ?_
          exact r_iretE hC hw hF dX6_shade_37
      · have hF := ifN hF b5
        refine lv_iconst (v := (-1 : Int32)) hC.1 hC.2.1 dX6_shade_21 (by decide) ?_
        exact r_iretE hC hw hF dX6_shade_22
abbrev rm_X6_snow : Room := { frames := 6, cells := 0, slots := 0, locals := 143 }
theorem yv_X6_snow : YV yX6_snow cX6_snow 3 (some .int) 2 RX6 := ⟨⟨q3_22, q3_23, q1_1, q3_24⟩, by decide +kernel⟩
theorem dX6_snow_0 : decode cX6_snow 0 = .ok (.aload_n 0, 1) := by decide +kernel
theorem dX6_snow_1 : decode cX6_snow 1 = .ok (.getfield 24, 3) := by decide +kernel
theorem dX6_snow_4 : decode cX6_snow 4 = .ok (.iload_n 1, 1) := by decide +kernel
theorem dX6_snow_5 : decode cX6_snow 5 = .ok (.invokevirtual 155, 3) := by decide +kernel
theorem dX6_snow_8 : decode cX6_snow 8 = .ok (.ifCond .eq 14, 3) := by decide +kernel
theorem dX6_snow_11 : decode cX6_snow 11 = .ok (.iload_n 2, 1) := by decide +kernel
theorem dX6_snow_12 : decode cX6_snow 12 = .ok (.iconst 1, 1) := by decide +kernel
theorem dX6_snow_13 : decode cX6_snow 13 = .ok (.if_icmp .lt 9, 3) := by decide +kernel
theorem dX6_snow_16 : decode cX6_snow 16 = .ok (.iload_n 2, 1) := by decide +kernel
theorem dX6_snow_17 : decode cX6_snow 17 = .ok (.bipush 9, 2) := by decide +kernel
theorem dX6_snow_19 : decode cX6_snow 19 = .ok (.if_icmp .le 5, 3) := by decide +kernel
theorem dX6_snow_22 : decode cX6_snow 22 = .ok (.iconst (-1), 1) := by decide +kernel
theorem dX6_snow_23 : decode cX6_snow 23 = .ok (.ireturn, 1) := by decide +kernel
theorem dX6_snow_24 : decode cX6_snow 24 = .ok (.aload_n 0, 1) := by decide +kernel
theorem dX6_snow_25 : decode cX6_snow 25 = .ok (.getfield 24, 3) := by decide +kernel
theorem dX6_snow_28 : decode cX6_snow 28 = .ok (.getfield 169, 3) := by decide +kernel
theorem dX6_snow_31 : decode cX6_snow 31 = .ok (.iload_n 1, 1) := by decide +kernel
theorem dX6_snow_32 : decode cX6_snow 32 = .ok (.invokestatic 101, 3) := by decide +kernel
theorem dX6_snow_35 : decode cX6_snow 35 = .ok (.ifCond .ne 6, 3) := by decide +kernel
theorem dX6_snow_38 : decode cX6_snow 38 = .ok (.bipush (-4), 2) := by decide +kernel
theorem dX6_snow_40 : decode cX6_snow 40 = .ok (.ireturn, 1) := by decide +kernel
theorem dX6_snow_41 : decode cX6_snow 41 = .ok (.aload_n 0, 1) := by decide +kernel
theorem dX6_snow_42 : decode cX6_snow 42 = .ok (.getfield 24, 3) := by decide +kernel
theorem dX6_snow_45 : decode cX6_snow 45 = .ok (.getfield 198, 3) := by decide +kernel
theorem dX6_snow_48 : decode cX6_snow 48 = .ok (.bipush 60, 2) := by decide +kernel
theorem dX6_snow_50 : decode cX6_snow 50 = .ok (.if_icmp .lt 6, 3) := by decide +kernel
theorem dX6_snow_53 : decode cX6_snow 53 = .ok (.bipush (-2), 2) := by decide +kernel
theorem dX6_snow_55 : decode cX6_snow 55 = .ok (.ireturn, 1) := by decide +kernel
theorem dX6_snow_56 : decode cX6_snow 56 = .ok (.aload_n 0, 1) := by decide +kernel
theorem dX6_snow_57 : decode cX6_snow 57 = .ok (.getfield 24, 3) := by decide +kernel
theorem dX6_snow_60 : decode cX6_snow 60 = .ok (.iconst 3, 1) := by decide +kernel
theorem dX6_snow_61 : decode cX6_snow 61 = .ok (.iload_n 1, 1) := by decide +kernel
theorem dX6_snow_62 : decode cX6_snow 62 = .ok (.iload_n 2, 1) := by decide +kernel
theorem dX6_snow_63 : decode cX6_snow 63 = .ok (.invokevirtual 201, 3) := by decide +kernel
theorem dX6_snow_66 : decode cX6_snow 66 = .ok (.aload_n 0, 1) := by decide +kernel
theorem dX6_snow_67 : decode cX6_snow 67 = .ok (.getfield 24, 3) := by decide +kernel
theorem dX6_snow_70 : decode cX6_snow 70 = .ok (.getfield 169, 3) := by decide +kernel
theorem dX6_snow_73 : decode cX6_snow 73 = .ok (.iload_n 1, 1) := by decide +kernel
theorem dX6_snow_74 : decode cX6_snow 74 = .ok (.invokestatic 101, 3) := by decide +kernel
theorem dX6_snow_77 : decode cX6_snow 77 = .ok (.ireturn, 1) := by decide +kernel
def F_X6_snow (fu : Nat) (M : Mm) (x1 : Int32) (x2 : Int32) : Option (Int32 × Mm) :=
  ob1 (F_X2_isMan fu M 24 x1) (fun r2 =>
  if r2 = 0 then
    some ((-1 : Int32), M)
  else
    if x2 < (1 : Int32) then
      some ((-1 : Int32), M)
    else
      if x2 ≤ (9 : Int32) then
        ob1 (F_X6_read fu M 28 x1) (fun r7 =>
        if r7 = 0 then
          some ((-4 : Int32), M)
        else
          if (M.1 24 3) < (60 : Int32) then
            ob1 (F_X2_act fu M 24 (3 : Int32) x1 x2) (fun M11 =>
            ob1 (F_X6_read fu M11 28 x1) (fun r13 =>
            some (r13, M11)))
          else
            some ((-2 : Int32), M))
      else
        some ((-1 : Int32), M))
set_option maxRecDepth 100000 in
set_option maxHeartbeats 4000000 in
theorem c_X6_snow {l : Launch} {G : Gv} {fu : Nat} {M : Mm} {x1 : Int32} {x2 : Int32} {r : Int32} {M' : Mm} (hF : F_X6_snow fu M x1 x2 = some (r, M')) : Met l yX6_snow (.code yX6_snow cX6_snow 3 (some .int) :: zU) rm_X6_snow (va_Pc [.ref (ad G 0), .int x1, .int x2] (Wd G M)) (QI G r M') 0 0 (zA G) := by
  refine zMet (by decide) rfl (Nat.le_of_ble_eq_true rfl) ?_
  intro p e s m below meth c hC hw ls hl
  have hl : lv_has ls 3 [(0, .ref (ad G 0)), (1, .int x1), (2, .int x2)] := hl
  unfold F_X6_snow at hF
  refine lv_aload_n hC.1 hC.2.1 dX6_snow_0 rfl (lv_at hl 0 rfl) ?_
  refine g6_north hC hw q1_202 dX6_snow_1 ?_
  refine lv_iload_n hC.1 hC.2.1 dX6_snow_4 rfl (lv_at hl 1 rfl) ?_
  obtain ⟨r2, h1, hF⟩ := ob1S hF
  refine k_Vi (As := [.int x1]) (rest := []) hC hw (c_X2_isMan (M := M) (rfl : kd 24 = 11) h1) (RC_N (rfl : kd 24 = 11)) yv_X2_isMan q2_147 ⟨rfl, rfl⟩ ⟨Nat.le_of_ble_eq_true rfl, Nat.le_of_ble_eq_true rfl⟩ ⟨Nat.zero_le _, Nat.zero_le _⟩ rfl rfl (Nat.le_of_ble_eq_true rfl) hl dX6_snow_5 (fun H locs hw => ?_)
  refine lv_if_eq (tgt := 22) hC.1 hC.2.1 dX6_snow_8 (by decide) (fun b3 => ?_) (fun b3 => ?_)
  · have hF := ifP hF b3
    refine lv_iconst (v := (-1 : Int32)) hC.1 hC.2.1 dX6_snow_22 (by decide) ?_
    exact r_iretE hC hw hF dX6_snow_23
  · have hF := ifN hF b3
    refine lv_iload_n hC.1 hC.2.1 dX6_snow_11 rfl (lv_at hl 2 rfl) ?_
    refine lv_iconst (v := (1 : Int32)) hC.1 hC.2.1 dX6_snow_12 (by decide) ?_
    refine lv_icmp_lt (tgt := 22) hC.1 hC.2.1 dX6_snow_13 (by decide) (fun b4 => ?_) (fun b4 => ?_)
    · have hF := ifP hF b4
      refine lv_iconst (v := (-1 : Int32)) hC.1 hC.2.1 dX6_snow_22 (by decide) ?_
      exact r_iretE hC hw hF dX6_snow_23
    · have hF := ifN hF b4
      refine lv_iload_n hC.1 hC.2.1 dX6_snow_16 rfl (lv_at hl 2 rfl) ?_
      refine lv_bipush (v := (9 : Int32)) hC.1 hC.2.1 dX6_snow_17 (by decide) ?_
      refine lv_icmp_le (tgt := 24) hC.1 hC.2.1 dX6_snow_19 (by decide) (fun b5 => ?_) (fun b5 => ?_)
      · have hF := ifP hF b5
        refine lv_aload_n hC.1 hC.2.1 dX6_snow_24 rfl (lv_at hl 0 rfl) ?_
        refine g6_north hC hw q1_202 dX6_snow_25 ?_
        refine g2_bulkOf hC hw (rfl : kd 24 = 11) q1_45 dX6_snow_28 ?_
        refine lv_iload_n hC.1 hC.2.1 dX6_snow_31 rfl (lv_at hl 1 rfl) ?_
        obtain ⟨r7, h6, hF⟩ := ob1S hF
        refine k_Si (As := [.ref (ad G 28), .int x1]) (rest := []) hC hw (c_X6_read (M := M) (rfl : kd 28 = 1) h6) ys_X6_read q2_24 ⟨rfl, rfl⟩ ⟨Nat.le_of_ble_eq_true rfl, Nat.le_of_ble_eq_true rfl⟩ ⟨Nat.zero_le _, Nat.zero_le _⟩ rfl rfl (Nat.le_of_ble_eq_true rfl) hl dX6_snow_32 (fun H locs hw => ?_)
        refine lv_if_ne (tgt := 41) hC.1 hC.2.1 dX6_snow_35 (by decide) (fun b8 => ?_) (fun b8 => ?_)
        · have hF := ifN hF b8
          refine lv_aload_n hC.1 hC.2.1 dX6_snow_41 rfl (lv_at hl 0 rfl) ?_
          refine g6_north hC hw q1_202 dX6_snow_42 ?_
          refine g2_deeds hC hw (rfl : kd 24 = 11) q1_38 dX6_snow_45 ?_
          refine lv_bipush (v := (60 : Int32)) hC.1 hC.2.1 dX6_snow_48 (by decide) ?_
          refine lv_icmp_lt (tgt := 56) hC.1 hC.2.1 dX6_snow_50 (by decide) (fun b9 => ?_) (fun b9 => ?_)
          · have hF := ifP hF b9
            refine lv_aload_n hC.1 hC.2.1 dX6_snow_56 rfl (lv_at hl 0 rfl) ?_
            refine g6_north hC hw q1_202 dX6_snow_57 ?_
            refine lv_iconst (v := (3 : Int32)) hC.1 hC.2.1 dX6_snow_60 (by decide) ?_
            refine lv_iload_n hC.1 hC.2.1 dX6_snow_61 rfl (lv_at hl 1 rfl) ?_
            refine lv_iload_n hC.1 hC.2.1 dX6_snow_62 rfl (lv_at hl 2 rfl) ?_
            obtain ⟨M11, h10, hF⟩ := ob1S hF
            refine k_Vv (As := [.int (3 : Int32), .int x1, .int x2]) (rest := []) hC hw (c_X2_act (M := M) (rfl : kd 24 = 11) h10) (RC_N (rfl : kd 24 = 11)) yv_X2_act q2_233 ⟨rfl, rfl⟩ ⟨Nat.le_of_ble_eq_true rfl, Nat.le_of_ble_eq_true rfl⟩ ⟨Nat.zero_le _, Nat.zero_le _⟩ rfl rfl (Nat.le_of_ble_eq_true rfl) hl dX6_snow_63 (fun H locs hw => ?_)
            refine lv_aload_n hC.1 hC.2.1 dX6_snow_66 rfl (lv_at hl 0 rfl) ?_
            refine g6_north hC hw q1_202 dX6_snow_67 ?_
            refine g2_bulkOf hC hw (rfl : kd 24 = 11) q1_45 dX6_snow_70 ?_
            refine lv_iload_n hC.1 hC.2.1 dX6_snow_73 rfl (lv_at hl 1 rfl) ?_
            obtain ⟨r13, h12, hF⟩ := ob1S hF
            refine k_Si (As := [.ref (ad G 28), .int x1]) (rest := []) hC hw (c_X6_read (M := M11) (rfl : kd 28 = 1) h12) ys_X6_read q2_24 ⟨rfl, rfl⟩ ⟨Nat.le_of_ble_eq_true rfl, Nat.le_of_ble_eq_true rfl⟩ ⟨Nat.zero_le _, Nat.zero_le _⟩ rfl rfl (Nat.le_of_ble_eq_true rfl) hl dX6_snow_74 (fun H locs hw => ?_)
            exact r_iretE hC hw hF dX6_snow_77
          · have hF := ifN hF b9
            refine lv_bipush (v := (-2 : Int32)) hC.1 hC.2.1 dX6_snow_53 (by decide) ?_
            exact r_iretE hC hw hF dX6_snow_55
        · have hF := ifP hF b8
          refine lv_bipush (v := (-4 : Int32)) hC.1 hC.2.1 dX6_snow_38 (by decide) ?_
          exact r_iretE hC hw hF dX6_snow_40
      · have hF := ifN hF b5
        refine lv_iconst (v := (-1 : Int32)) hC.1 hC.2.1 dX6_snow_22 (by decide) ?_
        exact r_iretE hC hw hF dX6_snow_23
abbrev rm_X6_undo : Room := { frames := 6, cells := 0, slots := 0, locals := 142 }
theorem yv_X6_undo : YV yX6_undo cX6_undo 3 (some .int) 1 RX6 := ⟨⟨q3_26, q3_27, q1_1, q3_28⟩, by decide +kernel⟩
theorem dX6_undo_0 : decode cX6_undo 0 = .ok (.iload_n 1, 1) := by decide +kernel
theorem dX6_undo_1 : decode cX6_undo 1 = .ok (.ifCond .lt 14, 3) := by decide +kernel
theorem dX6_undo_4 : decode cX6_undo 4 = .ok (.iload_n 1, 1) := by decide +kernel
theorem dX6_undo_5 : decode cX6_undo 5 = .ok (.aload_n 0, 1) := by decide +kernel
theorem dX6_undo_6 : decode cX6_undo 6 = .ok (.getfield 24, 3) := by decide +kernel
theorem dX6_undo_9 : decode cX6_undo 9 = .ok (.getfield 198, 3) := by decide +kernel
theorem dX6_undo_12 : decode cX6_undo 12 = .ok (.if_icmp .le 5, 3) := by decide +kernel
theorem dX6_undo_15 : decode cX6_undo 15 = .ok (.iconst (-1), 1) := by decide +kernel
theorem dX6_undo_16 : decode cX6_undo 16 = .ok (.ireturn, 1) := by decide +kernel
theorem dX6_undo_17 : decode cX6_undo 17 = .ok (.aload_n 0, 1) := by decide +kernel
theorem dX6_undo_18 : decode cX6_undo 18 = .ok (.getfield 24, 3) := by decide +kernel
theorem dX6_undo_21 : decode cX6_undo 21 = .ok (.getfield 198, 3) := by decide +kernel
theorem dX6_undo_24 : decode cX6_undo 24 = .ok (.iload_n 1, 1) := by decide +kernel
theorem dX6_undo_25 : decode cX6_undo 25 = .ok (.isub, 1) := by decide +kernel
theorem dX6_undo_26 : decode cX6_undo 26 = .ok (.istore_n 2, 1) := by decide +kernel
theorem dX6_undo_27 : decode cX6_undo 27 = .ok (.aload_n 0, 1) := by decide +kernel
theorem dX6_undo_28 : decode cX6_undo 28 = .ok (.getfield 24, 3) := by decide +kernel
theorem dX6_undo_31 : decode cX6_undo 31 = .ok (.iload_n 1, 1) := by decide +kernel
theorem dX6_undo_32 : decode cX6_undo 32 = .ok (.invokevirtual 217, 3) := by decide +kernel
theorem dX6_undo_35 : decode cX6_undo 35 = .ok (.iload_n 2, 1) := by decide +kernel
theorem dX6_undo_36 : decode cX6_undo 36 = .ok (.ireturn, 1) := by decide +kernel
def F_X6_undo (fu : Nat) (M : Mm) (x1 : Int32) : Option (Int32 × Mm) :=
  if x1 < 0 then
    some ((-1 : Int32), M)
  else
    if x1 ≤ (M.1 24 3) then
      ob1 (F_X2_undoFrom fu M 24 x1) (fun M4 =>
      some (((M.1 24 3) - x1), M4))
    else
      some ((-1 : Int32), M)
set_option maxRecDepth 100000 in
set_option maxHeartbeats 4000000 in
theorem c_X6_undo {l : Launch} {G : Gv} {fu : Nat} {M : Mm} {x1 : Int32} {r : Int32} {M' : Mm} (hF : F_X6_undo fu M x1 = some (r, M')) : Met l yX6_undo (.code yX6_undo cX6_undo 3 (some .int) :: zU) rm_X6_undo (va_Pc [.ref (ad G 0), .int x1] (Wd G M)) (QI G r M') 0 0 (zA G) := by
  refine zMet (by decide) rfl (Nat.le_of_ble_eq_true rfl) ?_
  intro p e s m below meth c hC hw ls hl
  have hl : lv_has ls 3 [(0, .ref (ad G 0)), (1, .int x1)] := hl
  unfold F_X6_undo at hF
  refine lv_iload_n hC.1 hC.2.1 dX6_undo_0 rfl (lv_at hl 1 rfl) ?_
  refine lv_if_lt (tgt := 15) hC.1 hC.2.1 dX6_undo_1 (by decide) (fun b1 => ?_) (fun b1 => ?_)
  · have hF := ifP hF b1
    refine lv_iconst (v := (-1 : Int32)) hC.1 hC.2.1 dX6_undo_15 (by decide) ?_
    exact r_iretE hC hw hF dX6_undo_16
  · have hF := ifN hF b1
    refine lv_iload_n hC.1 hC.2.1 dX6_undo_4 rfl (lv_at hl 1 rfl) ?_
    refine lv_aload_n hC.1 hC.2.1 dX6_undo_5 rfl (lv_at hl 0 rfl) ?_
    refine g6_north hC hw q1_202 dX6_undo_6 ?_
    refine g2_deeds hC hw (rfl : kd 24 = 11) q1_38 dX6_undo_9 ?_
    refine lv_icmp_le (tgt := 17) hC.1 hC.2.1 dX6_undo_12 (by decide) (fun b2 => ?_) (fun b2 => ?_)
    · have hF := ifP hF b2
      refine lv_aload_n hC.1 hC.2.1 dX6_undo_17 rfl (lv_at hl 0 rfl) ?_
      refine g6_north hC hw q1_202 dX6_undo_18 ?_
      refine g2_deeds hC hw (rfl : kd 24 = 11) q1_38 dX6_undo_21 ?_
      refine lv_iload_n hC.1 hC.2.1 dX6_undo_24 rfl (lv_at hl 1 rfl) ?_
      refine lv_isub hC.1 hC.2.1 dX6_undo_25 ?_
      refine lv_istore_n (lv' := [(2, .int ((M.1 24 3) - x1)), (0, .ref (ad G 0)), (1, .int x1)]) hC.1 hC.2.1 dX6_undo_26 rfl hl (by decide) rfl (fun ls hl => ?_)
      refine lv_aload_n hC.1 hC.2.1 dX6_undo_27 rfl (lv_at hl 1 rfl) ?_
      refine g6_north hC hw q1_202 dX6_undo_28 ?_
      refine lv_iload_n hC.1 hC.2.1 dX6_undo_31 rfl (lv_at hl 2 rfl) ?_
      obtain ⟨M4, h3, hF⟩ := ob1S hF
      refine k_Vv (As := [.int x1]) (rest := []) hC hw (c_X2_undoFrom (M := M) (rfl : kd 24 = 11) h3) (RC_N (rfl : kd 24 = 11)) yv_X2_undoFrom q3_29 ⟨rfl, rfl⟩ ⟨Nat.le_of_ble_eq_true rfl, Nat.le_of_ble_eq_true rfl⟩ ⟨Nat.zero_le _, Nat.zero_le _⟩ rfl rfl (Nat.le_of_ble_eq_true rfl) hl dX6_undo_32 (fun H locs hw => ?_)
      refine lv_iload_n hC.1 hC.2.1 dX6_undo_35 rfl (lv_at hl 0 rfl) ?_
      exact r_iretE hC hw hF dX6_undo_36
    · have hF := ifN hF b2
      refine lv_iconst (v := (-1 : Int32)) hC.1 hC.2.1 dX6_undo_15 (by decide) ?_
      exact r_iretE hC hw hF dX6_undo_16
abbrev rm_X6_now : Room := { frames := 4, cells := 0, slots := 0, locals := 87 }
theorem yv_X6_now : YV yX6_now cX6_now 1 (some .int) 0 RX6 := ⟨⟨q3_34, q3_35, q1_1, q3_36⟩, by decide +kernel⟩
theorem dX6_now_0 : decode cX6_now 0 = .ok (.aload_n 0, 1) := by decide +kernel
theorem dX6_now_1 : decode cX6_now 1 = .ok (.getfield 24, 3) := by decide +kernel
theorem dX6_now_4 : decode cX6_now 4 = .ok (.getfield 152, 3) := by decide +kernel
theorem dX6_now_7 : decode cX6_now 7 = .ok (.ifCond .ne 6, 3) := by decide +kernel
theorem dX6_now_10 : decode cX6_now 10 = .ok (.bipush (-4), 2) := by decide +kernel
theorem dX6_now_12 : decode cX6_now 12 = .ok (.ireturn, 1) := by decide +kernel
theorem dX6_now_13 : decode cX6_now 13 = .ok (.aload_n 0, 1) := by decide +kernel
theorem dX6_now_14 : decode cX6_now 14 = .ok (.aload_n 0, 1) := by decide +kernel
theorem dX6_now_15 : decode cX6_now 15 = .ok (.getfield 24, 3) := by decide +kernel
theorem dX6_now_18 : decode cX6_now 18 = .ok (.invokevirtual 205, 3) := by decide +kernel
theorem dX6_now_21 : decode cX6_now 21 = .ok (.putfield 220, 3) := by decide +kernel
theorem dX6_now_24 : decode cX6_now 24 = .ok (.aload_n 0, 1) := by decide +kernel
theorem dX6_now_25 : decode cX6_now 25 = .ok (.getfield 24, 3) := by decide +kernel
theorem dX6_now_28 : decode cX6_now 28 = .ok (.getfield 223, 3) := by decide +kernel
theorem dX6_now_31 : decode cX6_now 31 = .ok (.ireturn, 1) := by decide +kernel
def F_X6_now (fu : Nat) (M : Mm) : Option (Int32 × Mm) :=
  if (M.1 24 0) = 0 then
    some ((-4 : Int32), M)
  else
    ob1 (F_X2_living fu M 24) (fun r3 =>
    lt1 (pI M 0 9 r3) (fun M4 =>
    some ((M4.1 24 2), M4)))
set_option maxRecDepth 100000 in
set_option maxHeartbeats 4000000 in
theorem c_X6_now {l : Launch} {G : Gv} {fu : Nat} {M : Mm} {r : Int32} {M' : Mm} (hF : F_X6_now fu M = some (r, M')) : Met l yX6_now (.code yX6_now cX6_now 1 (some .int) :: zU) rm_X6_now (va_Pc [.ref (ad G 0)] (Wd G M)) (QI G r M') 0 0 (zA G) := by
  refine zMet (by decide) rfl (Nat.le_of_ble_eq_true rfl) ?_
  intro p e s m below meth c hC hw ls hl
  have hl : lv_has ls 1 [(0, .ref (ad G 0))] := hl
  unfold F_X6_now at hF
  refine lv_aload_n hC.1 hC.2.1 dX6_now_0 rfl (lv_at hl 0 rfl) ?_
  refine g6_north hC hw q1_202 dX6_now_1 ?_
  refine g2_men hC hw (rfl : kd 24 = 11) q1_32 dX6_now_4 ?_
  refine lv_if_ne (tgt := 13) hC.1 hC.2.1 dX6_now_7 (by decide) (fun b1 => ?_) (fun b1 => ?_)
  · have hF := ifN hF b1
    refine lv_aload_n hC.1 hC.2.1 dX6_now_13 rfl (lv_at hl 0 rfl) ?_
    refine lv_aload_n hC.1 hC.2.1 dX6_now_14 rfl (lv_at hl 0 rfl) ?_
    refine g6_north hC hw q1_202 dX6_now_15 ?_
    obtain ⟨r3, h2, hF⟩ := ob1S hF
    refine k_Vi (As := []) (rest := [.ref (ad G 0)]) hC hw (c_X2_living (M := M) (rfl : kd 24 = 11) h2) (RC_N (rfl : kd 24 = 11)) yv_X2_living q3_7 ⟨rfl, rfl⟩ ⟨Nat.le_of_ble_eq_true rfl, Nat.le_of_ble_eq_true rfl⟩ ⟨Nat.zero_le _, Nat.zero_le _⟩ rfl rfl (Nat.le_of_ble_eq_true rfl) hl dX6_now_18 (fun H locs hw => ?_)
    refine u6_told hC hw q1_209 dX6_now_21 (fun H locs hw => ?_)
    obtain ⟨M4, hw, hF⟩ := lt1W hF hw
    refine lv_aload_n hC.1 hC.2.1 dX6_now_24 rfl (lv_at hl 0 rfl) ?_
    refine g6_north hC hw q1_202 dX6_now_25 ?_
    refine g2_today hC hw (rfl : kd 24 = 11) q1_36 dX6_now_28 ?_
    exact r_iretE hC hw hF dX6_now_31
  · have hF := ifP hF b1
    refine lv_bipush (v := (-4 : Int32)) hC.1 hC.2.1 dX6_now_10 (by decide) ?_
    exact r_iretE hC hw hF dX6_now_12
abbrev rm_X6_keep : Room := { frames := 2, cells := 0, slots := 0, locals := 43 }
theorem yv_X6_keep : YV yX6_keep cX6_keep 3 (some .int) 1 RX6 := ⟨⟨q3_38, q3_39, q1_1, q3_40⟩, by decide +kernel⟩
theorem dX6_keep_0 : decode cX6_keep 0 = .ok (.aload_n 0, 1) := by decide +kernel
theorem dX6_keep_1 : decode cX6_keep 1 = .ok (.iload_n 1, 1) := by decide +kernel
theorem dX6_keep_2 : decode cX6_keep 2 = .ok (.invokevirtual 148, 3) := by decide +kernel
theorem dX6_keep_5 : decode cX6_keep 5 = .ok (.astore_n 2, 1) := by decide +kernel
theorem dX6_keep_6 : decode cX6_keep 6 = .ok (.aload_n 2, 1) := by decide +kernel
theorem dX6_keep_7 : decode cX6_keep 7 = .ok (.ifnonnull 5, 3) := by decide +kernel
theorem dX6_keep_10 : decode cX6_keep 10 = .ok (.iconst (-1), 1) := by decide +kernel
theorem dX6_keep_11 : decode cX6_keep 11 = .ok (.ireturn, 1) := by decide +kernel
theorem dX6_keep_12 : decode cX6_keep 12 = .ok (.aload_n 0, 1) := by decide +kernel
theorem dX6_keep_13 : decode cX6_keep 13 = .ok (.getfield 24, 3) := by decide +kernel
theorem dX6_keep_16 : decode cX6_keep 16 = .ok (.getfield 152, 3) := by decide +kernel
theorem dX6_keep_19 : decode cX6_keep 19 = .ok (.ifCond .ne 6, 3) := by decide +kernel
theorem dX6_keep_22 : decode cX6_keep 22 = .ok (.bipush (-4), 2) := by decide +kernel
theorem dX6_keep_24 : decode cX6_keep 24 = .ok (.ireturn, 1) := by decide +kernel
theorem dX6_keep_25 : decode cX6_keep 25 = .ok (.aload_n 2, 1) := by decide +kernel
theorem dX6_keep_26 : decode cX6_keep 26 = .ok (.aload_n 0, 1) := by decide +kernel
theorem dX6_keep_27 : decode cX6_keep 27 = .ok (.getfield 24, 3) := by decide +kernel
theorem dX6_keep_30 : decode cX6_keep 30 = .ok (.invokevirtual 226, 3) := by decide +kernel
theorem dX6_keep_33 : decode cX6_keep 33 = .ok (.aload_n 2, 1) := by decide +kernel
theorem dX6_keep_34 : decode cX6_keep 34 = .ok (.getfield 198, 3) := by decide +kernel
theorem dX6_keep_37 : decode cX6_keep 37 = .ok (.ireturn, 1) := by decide +kernel
def F_X6_keep (fu : Nat) (M : Mm) (x1 : Int32) : Option (Int32 × Mm) :=
  ob1 (F_X6_keptOf fu M x1) (fun r2 =>
  op1 r2 (
    some ((-1 : Int32), M)) (fun c3 =>
    if ¬ kd c3 = 11 then none else (
    if (M.1 24 0) = 0 then
      some ((-4 : Int32), M)
    else
      ob1 (F_X2_become fu M c3 24) (fun M7 =>
      some ((M7.1 c3 3), M7)))))
set_option maxRecDepth 100000 in
set_option maxHeartbeats 4000000 in
theorem c_X6_keep {l : Launch} {G : Gv} {fu : Nat} {M : Mm} {x1 : Int32} {r : Int32} {M' : Mm} (hF : F_X6_keep fu M x1 = some (r, M')) : Met l yX6_keep (.code yX6_keep cX6_keep 3 (some .int) :: zU) rm_X6_keep (va_Pc [.ref (ad G 0), .int x1] (Wd G M)) (QI G r M') 0 0 (zA G) := by
  refine zMet (by decide) rfl (Nat.le_of_ble_eq_true rfl) ?_
  intro p e s m below meth c hC hw ls hl
  have hl : lv_has ls 3 [(0, .ref (ad G 0)), (1, .int x1)] := hl
  unfold F_X6_keep at hF
  refine lv_aload_n hC.1 hC.2.1 dX6_keep_0 rfl (lv_at hl 0 rfl) ?_
  refine lv_iload_n hC.1 hC.2.1 dX6_keep_1 rfl (lv_at hl 1 rfl) ?_
  obtain ⟨r2, h1, hF⟩ := ob1S hF
  refine k_Vq (As := [.int x1]) (rest := []) hC hw (c_X6_keptOf (M := M) h1) RC_S yv_X6_keptOf q2_139 ⟨rfl, rfl⟩ ⟨Nat.le_of_ble_eq_true rfl, Nat.le_of_ble_eq_true rfl⟩ ⟨Nat.zero_le _, Nat.zero_le _⟩ rfl rfl (Nat.le_of_ble_eq_true rfl) hl dX6_keep_2 (fun H locs hw => ?_)
  cases r2 with
  | none =>
    have hF := op1N hF
    refine topN ?_
    refine lv_astore_nN (lv' := [(2, .null), (0, .ref (ad G 0)), (1, .int x1)]) hC.1 hC.2.1 dX6_keep_5 rfl hl (by decide) rfl (fun ls hl => ?_)
    refine lv_aload_nN hC.1 hC.2.1 dX6_keep_6 rfl (lv_at hl 0 rfl) ?_
    refine lv_ifnonnullN hC.1 hC.2.1 dX6_keep_7 ?_
    refine lv_iconst (v := (-1 : Int32)) hC.1 hC.2.1 dX6_keep_10 (by decide) ?_
    exact r_iretE hC hw hF dX6_keep_11
  | some c3 =>
    obtain ⟨g4, hF⟩ := ifO (op1C hF)
    have g4 := Decidable.not_not.mp g4
    refine topC ?_
    refine lv_astore_n (lv' := [(2, .ref (ad G c3)), (0, .ref (ad G 0)), (1, .int x1)]) hC.1 hC.2.1 dX6_keep_5 rfl hl (by decide) rfl (fun ls hl => ?_)
    refine lv_aload_n hC.1 hC.2.1 dX6_keep_6 rfl (lv_at hl 0 rfl) ?_
    refine lv_ifnonnull (tgt := 12) hC.1 hC.2.1 dX6_keep_7 (by decide) ?_
    refine lv_aload_n hC.1 hC.2.1 dX6_keep_12 rfl (lv_at hl 1 rfl) ?_
    refine g6_north hC hw q1_202 dX6_keep_13 ?_
    refine g2_men hC hw (rfl : kd 24 = 11) q1_32 dX6_keep_16 ?_
    refine lv_if_ne (tgt := 25) hC.1 hC.2.1 dX6_keep_19 (by decide) (fun b5 => ?_) (fun b5 => ?_)
    · have hF := ifN hF b5
      refine lv_aload_n hC.1 hC.2.1 dX6_keep_25 rfl (lv_at hl 0 rfl) ?_
      refine lv_aload_n hC.1 hC.2.1 dX6_keep_26 rfl (lv_at hl 1 rfl) ?_
      refine g6_north hC hw q1_202 dX6_keep_27 ?_
      obtain ⟨M7, h6, hF⟩ := ob1S hF
      refine k_Vv (As := [.ref (ad G 24)]) (rest := []) hC hw (c_X2_become (M := M) g4 (rfl : kd 24 = 11) h6) (RC_N g4) yv_X2_become q3_41 ⟨rfl, rfl⟩ ⟨Nat.le_of_ble_eq_true rfl, Nat.le_of_ble_eq_true rfl⟩ ⟨Nat.zero_le _, Nat.zero_le _⟩ rfl rfl (Nat.le_of_ble_eq_true rfl) hl dX6_keep_30 (fun H locs hw => ?_)
      refine lv_aload_n hC.1 hC.2.1 dX6_keep_33 rfl (lv_at hl 0 rfl) ?_
      refine g2_deeds hC hw g4 q1_38 dX6_keep_34 ?_
      exact r_iretE hC hw hF dX6_keep_37
    · have hF := ifP hF b5
      refine lv_bipush (v := (-4 : Int32)) hC.1 hC.2.1 dX6_keep_22 (by decide) ?_
      exact r_iretE hC hw hF dX6_keep_24
abbrev rm_X6_on : Room := { frames := 2, cells := 0, slots := 0, locals := 43 }
theorem yv_X6_on : YV yX6_on cX6_on 3 (some .int) 1 RX6 := ⟨⟨q3_46, q3_47, q1_1, q3_48⟩, by decide +kernel⟩
theorem dX6_on_0 : decode cX6_on 0 = .ok (.aload_n 0, 1) := by decide +kernel
theorem dX6_on_1 : decode cX6_on 1 = .ok (.iload_n 1, 1) := by decide +kernel
theorem dX6_on_2 : decode cX6_on 2 = .ok (.invokevirtual 148, 3) := by decide +kernel
theorem dX6_on_5 : decode cX6_on 5 = .ok (.astore_n 2, 1) := by decide +kernel
theorem dX6_on_6 : decode cX6_on 6 = .ok (.aload_n 2, 1) := by decide +kernel
theorem dX6_on_7 : decode cX6_on 7 = .ok (.ifnonnull 5, 3) := by decide +kernel
theorem dX6_on_10 : decode cX6_on 10 = .ok (.iconst (-1), 1) := by decide +kernel
theorem dX6_on_11 : decode cX6_on 11 = .ok (.ireturn, 1) := by decide +kernel
theorem dX6_on_12 : decode cX6_on 12 = .ok (.aload_n 2, 1) := by decide +kernel
theorem dX6_on_13 : decode cX6_on 13 = .ok (.getfield 152, 3) := by decide +kernel
theorem dX6_on_16 : decode cX6_on 16 = .ok (.ifCond .ne 9, 3) := by decide +kernel
theorem dX6_on_19 : decode cX6_on 19 = .ok (.aload_n 0, 1) := by decide +kernel
theorem dX6_on_20 : decode cX6_on 20 = .ok (.iconst 1, 1) := by decide +kernel
theorem dX6_on_21 : decode cX6_on 21 = .ok (.invokevirtual 82, 3) := by decide +kernel
theorem dX6_on_24 : decode cX6_on 24 = .ok (.ireturn, 1) := by decide +kernel
theorem dX6_on_25 : decode cX6_on 25 = .ok (.aload_n 0, 1) := by decide +kernel
theorem dX6_on_26 : decode cX6_on 26 = .ok (.getfield 24, 3) := by decide +kernel
theorem dX6_on_29 : decode cX6_on 29 = .ok (.aload_n 2, 1) := by decide +kernel
theorem dX6_on_30 : decode cX6_on 30 = .ok (.invokevirtual 226, 3) := by decide +kernel
theorem dX6_on_33 : decode cX6_on 33 = .ok (.aload_n 0, 1) := by decide +kernel
theorem dX6_on_34 : decode cX6_on 34 = .ok (.getfield 24, 3) := by decide +kernel
theorem dX6_on_37 : decode cX6_on 37 = .ok (.getfield 198, 3) := by decide +kernel
theorem dX6_on_40 : decode cX6_on 40 = .ok (.ireturn, 1) := by decide +kernel
def F_X6_on (fu : Nat) (M : Mm) (x1 : Int32) : Option (Int32 × Mm) :=
  ob1 (F_X6_keptOf fu M x1) (fun r2 =>
  op1 r2 (
    some ((-1 : Int32), M)) (fun c3 =>
    if ¬ kd c3 = 11 then none else (
    if (M.1 c3 0) = 0 then
      ob2 (F_X6_found fu M (1 : Int32)) (fun r9 M10 =>
      some (r9, M10))
    else
      ob1 (F_X2_become fu M 24 c3) (fun M7 =>
      some ((M7.1 24 3), M7)))))
set_option maxRecDepth 100000 in
set_option maxHeartbeats 4000000 in
theorem c_X6_on {l : Launch} {G : Gv} {fu : Nat} {M : Mm} {x1 : Int32} {r : Int32} {M' : Mm} (hF : F_X6_on fu M x1 = some (r, M')) : Met l yX6_on (.code yX6_on cX6_on 3 (some .int) :: zU) rm_X6_on (va_Pc [.ref (ad G 0), .int x1] (Wd G M)) (QI G r M') 0 0 (zA G) := by
  refine zMet (by decide) rfl (Nat.le_of_ble_eq_true rfl) ?_
  intro p e s m below meth c hC hw ls hl
  have hl : lv_has ls 3 [(0, .ref (ad G 0)), (1, .int x1)] := hl
  unfold F_X6_on at hF
  refine lv_aload_n hC.1 hC.2.1 dX6_on_0 rfl (lv_at hl 0 rfl) ?_
  refine lv_iload_n hC.1 hC.2.1 dX6_on_1 rfl (lv_at hl 1 rfl) ?_
  obtain ⟨r2, h1, hF⟩ := ob1S hF
  refine k_Vq (As := [.int x1]) (rest := []) hC hw (c_X6_keptOf (M := M) h1) RC_S yv_X6_keptOf q2_139 ⟨rfl, rfl⟩ ⟨Nat.le_of_ble_eq_true rfl, Nat.le_of_ble_eq_true rfl⟩ ⟨Nat.zero_le _, Nat.zero_le _⟩ rfl rfl (Nat.le_of_ble_eq_true rfl) hl dX6_on_2 (fun H locs hw => ?_)
  cases r2 with
  | none =>
    have hF := op1N hF
    refine topN ?_
    refine lv_astore_nN (lv' := [(2, .null), (0, .ref (ad G 0)), (1, .int x1)]) hC.1 hC.2.1 dX6_on_5 rfl hl (by decide) rfl (fun ls hl => ?_)
    refine lv_aload_nN hC.1 hC.2.1 dX6_on_6 rfl (lv_at hl 0 rfl) ?_
    refine lv_ifnonnullN hC.1 hC.2.1 dX6_on_7 ?_
    refine lv_iconst (v := (-1 : Int32)) hC.1 hC.2.1 dX6_on_10 (by decide) ?_
    exact r_iretE hC hw hF dX6_on_11
  | some c3 =>
    obtain ⟨g4, hF⟩ := ifO (op1C hF)
    have g4 := Decidable.not_not.mp g4
    refine topC ?_
    refine lv_astore_n (lv' := [(2, .ref (ad G c3)), (0, .ref (ad G 0)), (1, .int x1)]) hC.1 hC.2.1 dX6_on_5 rfl hl (by decide) rfl (fun ls hl => ?_)
    refine lv_aload_n hC.1 hC.2.1 dX6_on_6 rfl (lv_at hl 0 rfl) ?_
    refine lv_ifnonnull (tgt := 12) hC.1 hC.2.1 dX6_on_7 (by decide) ?_
    refine lv_aload_n hC.1 hC.2.1 dX6_on_12 rfl (lv_at hl 0 rfl) ?_
    refine g2_men hC hw g4 q1_32 dX6_on_13 ?_
    refine lv_if_ne (tgt := 25) hC.1 hC.2.1 dX6_on_16 (by decide) (fun b5 => ?_) (fun b5 => ?_)
    · have hF := ifN hF b5
      refine lv_aload_n hC.1 hC.2.1 dX6_on_25 rfl (lv_at hl 1 rfl) ?_
      refine g6_north hC hw q1_202 dX6_on_26 ?_
      refine lv_aload_n hC.1 hC.2.1 dX6_on_29 rfl (lv_at hl 0 rfl) ?_
      obtain ⟨M7, h6, hF⟩ := ob1S hF
      refine k_Vv (As := [.ref (ad G c3)]) (rest := []) hC hw (c_X2_become (M := M) (rfl : kd 24 = 11) g4 h6) (RC_N (rfl : kd 24 = 11)) yv_X2_become q3_41 ⟨rfl, rfl⟩ ⟨Nat.le_of_ble_eq_true rfl, Nat.le_of_ble_eq_true rfl⟩ ⟨Nat.zero_le _, Nat.zero_le _⟩ rfl rfl (Nat.le_of_ble_eq_true rfl) hl dX6_on_30 (fun H locs hw => ?_)
      refine lv_aload_n hC.1 hC.2.1 dX6_on_33 rfl (lv_at hl 1 rfl) ?_
      refine g6_north hC hw q1_202 dX6_on_34 ?_
      refine g2_deeds hC hw (rfl : kd 24 = 11) q1_38 dX6_on_37 ?_
      exact r_iretE hC hw hF dX6_on_40
    · have hF := ifP hF b5
      refine lv_aload_n hC.1 hC.2.1 dX6_on_19 rfl (lv_at hl 1 rfl) ?_
      refine lv_iconst (v := (1 : Int32)) hC.1 hC.2.1 dX6_on_20 (by decide) ?_
      obtain ⟨r9, M10, h8, hF⟩ := ob2S hF
      refine k_Vi (As := [.int (1 : Int32)]) (rest := []) hC hw (c_X6_found (M := M) h8) RC_S yv_X6_found q2_20 ⟨rfl, rfl⟩ ⟨Nat.le_of_ble_eq_true rfl, Nat.le_of_ble_eq_true rfl⟩ ⟨Nat.zero_le _, Nat.zero_le _⟩ rfl rfl (Nat.le_of_ble_eq_true rfl) hl dX6_on_21 (fun H locs hw => ?_)
      exact r_iretE hC hw hF dX6_on_24
abbrev rm_X6_isAhead : Room := { frames := 0, cells := 0, slots := 0, locals := 0 }
theorem ys_X6_isAhead : YS yX6_isAhead cX6_isAhead 1 (some .boolean) 1 := ⟨⟨q3_54, q1_1, q3_55⟩, by decide +kernel⟩
theorem dX6_isAhead_0 : decode cX6_isAhead 0 = .ok (.iload_n 0, 1) := by decide +kernel
theorem dX6_isAhead_1 : decode cX6_isAhead 1 = .ok (.ifCond .lt 13, 3) := by decide +kernel
theorem dX6_isAhead_4 : decode cX6_isAhead 4 = .ok (.iload_n 0, 1) := by decide +kernel
theorem dX6_isAhead_5 : decode cX6_isAhead 5 = .ok (.bipush 60, 2) := by decide +kernel
theorem dX6_isAhead_7 : decode cX6_isAhead 7 = .ok (.if_icmp .gt 7, 3) := by decide +kernel
theorem dX6_isAhead_10 : decode cX6_isAhead 10 = .ok (.iconst 1, 1) := by decide +kernel
theorem dX6_isAhead_11 : decode cX6_isAhead 11 = .ok (.goto 4, 3) := by decide +kernel
theorem dX6_isAhead_14 : decode cX6_isAhead 14 = .ok (.iconst 0, 1) := by decide +kernel
theorem dX6_isAhead_15 : decode cX6_isAhead 15 = .ok (.ireturn, 1) := by decide +kernel
def F_X6_isAhead (fu : Nat) (M : Mm) (x0 : Int32) : Option Int32 :=
  if x0 < 0 then
    some (0 : Int32)
  else
    if (60 : Int32) < x0 then
      some (0 : Int32)
    else
      some (1 : Int32)
set_option maxRecDepth 100000 in
set_option maxHeartbeats 4000000 in
theorem c_X6_isAhead {l : Launch} {G : Gv} {fu : Nat} {M : Mm} {x0 : Int32} {r : Int32} (hF : F_X6_isAhead fu M x0 = some r) : Met l yX6_isAhead (.code yX6_isAhead cX6_isAhead 1 (some .boolean) :: zU) rm_X6_isAhead (va_Pc [.int x0] (Wd G M)) (QI G r M) 0 0 (zA G) := by
  refine zMet (by decide) rfl (Nat.le_of_ble_eq_true rfl) ?_
  intro p e s m below meth c hC hw ls hl
  have hl : lv_has ls 1 [(0, .int x0)] := hl
  unfold F_X6_isAhead at hF
  refine lv_iload_n hC.1 hC.2.1 dX6_isAhead_0 rfl (lv_at hl 0 rfl) ?_
  refine lv_if_lt (tgt := 14) hC.1 hC.2.1 dX6_isAhead_1 (by decide) (fun b1 => ?_) (fun b1 => ?_)
  · have hF := ifP hF b1
    refine lv_iconst (v := (0 : Int32)) hC.1 hC.2.1 dX6_isAhead_14 (by decide) ?_
    exact r_zretP hC hw (by decide) hF dX6_isAhead_15
  · have hF := ifN hF b1
    refine lv_iload_n hC.1 hC.2.1 dX6_isAhead_4 rfl (lv_at hl 0 rfl) ?_
    refine lv_bipush (v := (60 : Int32)) hC.1 hC.2.1 dX6_isAhead_5 (by decide) ?_
    refine lv_icmp_gt (tgt := 14) hC.1 hC.2.1 dX6_isAhead_7 (by decide) (fun b2 => ?_) (fun b2 => ?_)
    · have hF := ifP hF b2
      refine lv_iconst (v := (0 : Int32)) hC.1 hC.2.1 dX6_isAhead_14 (by decide) ?_
      exact r_zretP hC hw (by decide) hF dX6_isAhead_15
    · have hF := ifN hF b2
      refine lv_iconst (v := (1 : Int32)) hC.1 hC.2.1 dX6_isAhead_10 (by decide) ?_
      refine lv_goto (tgt := 15) hC.1 hC.2.1 dX6_isAhead_11 (by decide) ?_
      exact r_zretP hC hw (by decide) hF dX6_isAhead_15
abbrev rm_X6_bulk : Room := { frames := 5, cells := 0, slots := 0, locals := 124 }
theorem yv_X6_bulk : YV yX6_bulk cX6_bulk 3 (some .int) 2 RX6 := ⟨⟨q3_50, q3_51, q1_1, q3_52⟩, by decide +kernel⟩
theorem dX6_bulk_0 : decode cX6_bulk 0 = .ok (.aload_n 0, 1) := by decide +kernel
theorem dX6_bulk_1 : decode cX6_bulk 1 = .ok (.getfield 24, 3) := by decide +kernel
theorem dX6_bulk_4 : decode cX6_bulk 4 = .ok (.iload_n 1, 1) := by decide +kernel
theorem dX6_bulk_5 : decode cX6_bulk 5 = .ok (.invokevirtual 155, 3) := by decide +kernel
theorem dX6_bulk_8 : decode cX6_bulk 8 = .ok (.ifCond .eq 10, 3) := by decide +kernel
theorem dX6_bulk_11 : decode cX6_bulk 11 = .ok (.iload_n 2, 1) := by decide +kernel
theorem dX6_bulk_12 : decode cX6_bulk 12 = .ok (.invokestatic 230, 3) := by decide +kernel
theorem dX6_bulk_15 : decode cX6_bulk 15 = .ok (.ifCond .ne 5, 3) := by decide +kernel
theorem dX6_bulk_18 : decode cX6_bulk 18 = .ok (.iconst (-1), 1) := by decide +kernel
theorem dX6_bulk_19 : decode cX6_bulk 19 = .ok (.ireturn, 1) := by decide +kernel
theorem dX6_bulk_20 : decode cX6_bulk 20 = .ok (.aload_n 0, 1) := by decide +kernel
theorem dX6_bulk_21 : decode cX6_bulk 21 = .ok (.getfield 24, 3) := by decide +kernel
theorem dX6_bulk_24 : decode cX6_bulk 24 = .ok (.iload_n 1, 1) := by decide +kernel
theorem dX6_bulk_25 : decode cX6_bulk 25 = .ok (.iload_n 2, 1) := by decide +kernel
theorem dX6_bulk_26 : decode cX6_bulk 26 = .ok (.invokevirtual 233, 3) := by decide +kernel
theorem dX6_bulk_29 : decode cX6_bulk 29 = .ok (.ireturn, 1) := by decide +kernel
def F_X6_bulk (fu : Nat) (M : Mm) (x1 : Int32) (x2 : Int32) : Option Int32 :=
  ob1 (F_X2_isMan fu M 24 x1) (fun r2 =>
  if r2 = 0 then
    some (-1 : Int32)
  else
    ob1 (F_X6_isAhead fu M x2) (fun r5 =>
    if r5 = 0 then
      some (-1 : Int32)
    else
      ob1 (F_X2_bulkIn fu M 24 x1 x2) (fun r8 =>
      some r8)))
set_option maxRecDepth 100000 in
set_option maxHeartbeats 4000000 in
theorem c_X6_bulk {l : Launch} {G : Gv} {fu : Nat} {M : Mm} {x1 : Int32} {x2 : Int32} {r : Int32} (hF : F_X6_bulk fu M x1 x2 = some r) : Met l yX6_bulk (.code yX6_bulk cX6_bulk 3 (some .int) :: zU) rm_X6_bulk (va_Pc [.ref (ad G 0), .int x1, .int x2] (Wd G M)) (QI G r M) 0 0 (zA G) := by
  refine zMet (by decide) rfl (Nat.le_of_ble_eq_true rfl) ?_
  intro p e s m below meth c hC hw ls hl
  have hl : lv_has ls 3 [(0, .ref (ad G 0)), (1, .int x1), (2, .int x2)] := hl
  unfold F_X6_bulk at hF
  refine lv_aload_n hC.1 hC.2.1 dX6_bulk_0 rfl (lv_at hl 0 rfl) ?_
  refine g6_north hC hw q1_202 dX6_bulk_1 ?_
  refine lv_iload_n hC.1 hC.2.1 dX6_bulk_4 rfl (lv_at hl 1 rfl) ?_
  obtain ⟨r2, h1, hF⟩ := ob1S hF
  refine k_Vi (As := [.int x1]) (rest := []) hC hw (c_X2_isMan (M := M) (rfl : kd 24 = 11) h1) (RC_N (rfl : kd 24 = 11)) yv_X2_isMan q2_147 ⟨rfl, rfl⟩ ⟨Nat.le_of_ble_eq_true rfl, Nat.le_of_ble_eq_true rfl⟩ ⟨Nat.zero_le _, Nat.zero_le _⟩ rfl rfl (Nat.le_of_ble_eq_true rfl) hl dX6_bulk_5 (fun H locs hw => ?_)
  refine lv_if_eq (tgt := 18) hC.1 hC.2.1 dX6_bulk_8 (by decide) (fun b3 => ?_) (fun b3 => ?_)
  · have hF := ifP hF b3
    refine lv_iconst (v := (-1 : Int32)) hC.1 hC.2.1 dX6_bulk_18 (by decide) ?_
    exact r_iretP hC hw hF dX6_bulk_19
  · have hF := ifN hF b3
    refine lv_iload_n hC.1 hC.2.1 dX6_bulk_11 rfl (lv_at hl 2 rfl) ?_
    obtain ⟨r5, h4, hF⟩ := ob1S hF
    refine k_Si (As := [.int x2]) (rest := []) hC hw (c_X6_isAhead (M := M) h4) ys_X6_isAhead q3_53 ⟨rfl, rfl⟩ ⟨Nat.le_of_ble_eq_true rfl, Nat.le_of_ble_eq_true rfl⟩ ⟨Nat.zero_le _, Nat.zero_le _⟩ rfl rfl (Nat.le_of_ble_eq_true rfl) hl dX6_bulk_12 (fun H locs hw => ?_)
    refine lv_if_ne (tgt := 20) hC.1 hC.2.1 dX6_bulk_15 (by decide) (fun b6 => ?_) (fun b6 => ?_)
    · have hF := ifN hF b6
      refine lv_aload_n hC.1 hC.2.1 dX6_bulk_20 rfl (lv_at hl 0 rfl) ?_
      refine g6_north hC hw q1_202 dX6_bulk_21 ?_
      refine lv_iload_n hC.1 hC.2.1 dX6_bulk_24 rfl (lv_at hl 1 rfl) ?_
      refine lv_iload_n hC.1 hC.2.1 dX6_bulk_25 rfl (lv_at hl 2 rfl) ?_
      obtain ⟨r8, h7, hF⟩ := ob1S hF
      refine k_Vi (As := [.int x1, .int x2]) (rest := []) hC hw (c_X2_bulkIn (M := M) (rfl : kd 24 = 11) h7) (RC_N (rfl : kd 24 = 11)) yv_X2_bulkIn q3_56 ⟨rfl, rfl⟩ ⟨Nat.le_of_ble_eq_true rfl, Nat.le_of_ble_eq_true rfl⟩ ⟨Nat.zero_le _, Nat.zero_le _⟩ rfl rfl (Nat.le_of_ble_eq_true rfl) hl dX6_bulk_26 (fun H locs hw => ?_)
      exact r_iretP hC hw hF dX6_bulk_29
    · have hF := ifP hF b6
      refine lv_iconst (v := (-1 : Int32)) hC.1 hC.2.1 dX6_bulk_18 (by decide) ?_
      exact r_iretP hC hw hF dX6_bulk_19
abbrev rm_X6_gone : Room := { frames := 4, cells := 0, slots := 0, locals := 99 }
theorem yv_X6_gone : YV yX6_gone cX6_gone 2 (some .int) 1 RX6 := ⟨⟨q3_69, q3_70, q1_1, q3_71⟩, by decide +kernel⟩
theorem dX6_gone_0 : decode cX6_gone 0 = .ok (.aload_n 0, 1) := by decide +kernel
theorem dX6_gone_1 : decode cX6_gone 1 = .ok (.getfield 24, 3) := by decide +kernel
theorem dX6_gone_4 : decode cX6_gone 4 = .ok (.iload_n 1, 1) := by decide +kernel
theorem dX6_gone_5 : decode cX6_gone 5 = .ok (.invokevirtual 155, 3) := by decide +kernel
theorem dX6_gone_8 : decode cX6_gone 8 = .ok (.ifCond .ne 5, 3) := by decide +kernel
theorem dX6_gone_11 : decode cX6_gone 11 = .ok (.iconst (-1), 1) := by decide +kernel
theorem dX6_gone_12 : decode cX6_gone 12 = .ok (.ireturn, 1) := by decide +kernel
theorem dX6_gone_13 : decode cX6_gone 13 = .ok (.aload_n 0, 1) := by decide +kernel
theorem dX6_gone_14 : decode cX6_gone 14 = .ok (.getfield 24, 3) := by decide +kernel
theorem dX6_gone_17 : decode cX6_gone 17 = .ok (.iload_n 1, 1) := by decide +kernel
theorem dX6_gone_18 : decode cX6_gone 18 = .ok (.invokevirtual 183, 3) := by decide +kernel
theorem dX6_gone_21 : decode cX6_gone 21 = .ok (.ireturn, 1) := by decide +kernel
def F_X6_gone (fu : Nat) (M : Mm) (x1 : Int32) : Option Int32 :=
  ob1 (F_X2_isMan fu M 24 x1) (fun r2 =>
  if r2 = 0 then
    some (-1 : Int32)
  else
    ob1 (F_X2_goneIn fu M 24 x1) (fun r5 =>
    some r5))
set_option maxRecDepth 100000 in
set_option maxHeartbeats 4000000 in
theorem c_X6_gone {l : Launch} {G : Gv} {fu : Nat} {M : Mm} {x1 : Int32} {r : Int32} (hF : F_X6_gone fu M x1 = some r) : Met l yX6_gone (.code yX6_gone cX6_gone 2 (some .int) :: zU) rm_X6_gone (va_Pc [.ref (ad G 0), .int x1] (Wd G M)) (QI G r M) 0 0 (zA G) := by
  refine zMet (by decide) rfl (Nat.le_of_ble_eq_true rfl) ?_
  intro p e s m below meth c hC hw ls hl
  have hl : lv_has ls 2 [(0, .ref (ad G 0)), (1, .int x1)] := hl
  unfold F_X6_gone at hF
  refine lv_aload_n hC.1 hC.2.1 dX6_gone_0 rfl (lv_at hl 0 rfl) ?_
  refine g6_north hC hw q1_202 dX6_gone_1 ?_
  refine lv_iload_n hC.1 hC.2.1 dX6_gone_4 rfl (lv_at hl 1 rfl) ?_
  obtain ⟨r2, h1, hF⟩ := ob1S hF
  refine k_Vi (As := [.int x1]) (rest := []) hC hw (c_X2_isMan (M := M) (rfl : kd 24 = 11) h1) (RC_N (rfl : kd 24 = 11)) yv_X2_isMan q2_147 ⟨rfl, rfl⟩ ⟨Nat.le_of_ble_eq_true rfl, Nat.le_of_ble_eq_true rfl⟩ ⟨Nat.zero_le _, Nat.zero_le _⟩ rfl rfl (Nat.le_of_ble_eq_true rfl) hl dX6_gone_5 (fun H locs hw => ?_)
  refine lv_if_ne (tgt := 13) hC.1 hC.2.1 dX6_gone_8 (by decide) (fun b3 => ?_) (fun b3 => ?_)
  · have hF := ifN hF b3
    refine lv_aload_n hC.1 hC.2.1 dX6_gone_13 rfl (lv_at hl 0 rfl) ?_
    refine g6_north hC hw q1_202 dX6_gone_14 ?_
    refine lv_iload_n hC.1 hC.2.1 dX6_gone_17 rfl (lv_at hl 1 rfl) ?_
    obtain ⟨r5, h4, hF⟩ := ob1S hF
    refine k_Vi (As := [.int x1]) (rest := []) hC hw (c_X2_goneIn (M := M) (rfl : kd 24 = 11) h4) (RC_N (rfl : kd 24 = 11)) yv_X2_goneIn q2_204 ⟨rfl, rfl⟩ ⟨Nat.le_of_ble_eq_true rfl, Nat.le_of_ble_eq_true rfl⟩ ⟨Nat.zero_le _, Nat.zero_le _⟩ rfl rfl (Nat.le_of_ble_eq_true rfl) hl dX6_gone_18 (fun H locs hw => ?_)
    exact r_iretP hC hw hF dX6_gone_21
  · have hF := ifP hF b3
    refine lv_iconst (v := (-1 : Int32)) hC.1 hC.2.1 dX6_gone_11 (by decide) ?_
    exact r_iretP hC hw hF dX6_gone_12
abbrev rm_X6_votes : Room := { frames := 6, cells := 0, slots := 0, locals := 148 }
theorem yv_X6_votes : YV yX6_votes cX6_votes 4 (some .int) 1 RX6 := ⟨⟨q3_73, q3_74, q1_1, q3_75⟩, by decide +kernel⟩
theorem dX6_votes_0 : decode cX6_votes 0 = .ok (.iload_n 1, 1) := by decide +kernel
theorem dX6_votes_1 : decode cX6_votes 1 = .ok (.invokestatic 230, 3) := by decide +kernel
theorem dX6_votes_4 : decode cX6_votes 4 = .ok (.ifCond .ne 5, 3) := by decide +kernel
theorem dX6_votes_7 : decode cX6_votes 7 = .ok (.iconst (-1), 1) := by decide +kernel
theorem dX6_votes_8 : decode cX6_votes 8 = .ok (.ireturn, 1) := by decide +kernel
theorem dX6_votes_9 : decode cX6_votes 9 = .ok (.aload_n 0, 1) := by decide +kernel
theorem dX6_votes_10 : decode cX6_votes 10 = .ok (.getfield 24, 3) := by decide +kernel
theorem dX6_votes_13 : decode cX6_votes 13 = .ok (.getfield 152, 3) := by decide +kernel
theorem dX6_votes_16 : decode cX6_votes 16 = .ok (.ifCond .ne 6, 3) := by decide +kernel
theorem dX6_votes_19 : decode cX6_votes 19 = .ok (.bipush (-4), 2) := by decide +kernel
theorem dX6_votes_21 : decode cX6_votes 21 = .ok (.ireturn, 1) := by decide +kernel
theorem dX6_votes_22 : decode cX6_votes 22 = .ok (.aload_n 0, 1) := by decide +kernel
theorem dX6_votes_23 : decode cX6_votes 23 = .ok (.getfield 24, 3) := by decide +kernel
theorem dX6_votes_26 : decode cX6_votes 26 = .ok (.iload_n 1, 1) := by decide +kernel
theorem dX6_votes_27 : decode cX6_votes 27 = .ok (.invokevirtual 236, 3) := by decide +kernel
theorem dX6_votes_30 : decode cX6_votes 30 = .ok (.istore_n 2, 1) := by decide +kernel
theorem dX6_votes_31 : decode cX6_votes 31 = .ok (.aload_n 0, 1) := by decide +kernel
theorem dX6_votes_32 : decode cX6_votes 32 = .ok (.getfield 24, 3) := by decide +kernel
theorem dX6_votes_35 : decode cX6_votes 35 = .ok (.iload_n 2, 1) := by decide +kernel
theorem dX6_votes_36 : decode cX6_votes 36 = .ok (.invokevirtual 239, 3) := by decide +kernel
theorem dX6_votes_39 : decode cX6_votes 39 = .ok (.invokestatic 209, 3) := by decide +kernel
theorem dX6_votes_42 : decode cX6_votes 42 = .ok (.istore_n 3, 1) := by decide +kernel
theorem dX6_votes_43 : decode cX6_votes 43 = .ok (.aload_n 0, 1) := by decide +kernel
theorem dX6_votes_44 : decode cX6_votes 44 = .ok (.iload_n 2, 1) := by decide +kernel
theorem dX6_votes_45 : decode cX6_votes 45 = .ok (.invokestatic 209, 3) := by decide +kernel
theorem dX6_votes_48 : decode cX6_votes 48 = .ok (.iload_n 3, 1) := by decide +kernel
theorem dX6_votes_49 : decode cX6_votes 49 = .ok (.isub, 1) := by decide +kernel
theorem dX6_votes_50 : decode cX6_votes 50 = .ok (.putfield 220, 3) := by decide +kernel
theorem dX6_votes_53 : decode cX6_votes 53 = .ok (.iload_n 3, 1) := by decide +kernel
theorem dX6_votes_54 : decode cX6_votes 54 = .ok (.ireturn, 1) := by decide +kernel
def F_X6_votes (fu : Nat) (M : Mm) (x1 : Int32) : Option (Int32 × Mm) :=
  ob1 (F_X6_isAhead fu M x1) (fun r2 =>
  if r2 = 0 then
    some ((-1 : Int32), M)
  else
    if (M.1 24 0) = 0 then
      some ((-4 : Int32), M)
    else
      ob1 (F_X2_votersIn fu M 24 x1) (fun r6 =>
      ob1 (F_X2_onesAmong fu M 24 r6) (fun r8 =>
      ob1 (F_J6_bitCount_0f7a4 fu M r8) (fun r10 =>
      ob1 (F_J6_bitCount_0f7a4 fu M r6) (fun r12 =>
      lt1 (pI M 0 9 (r12 - r10)) (fun M13 =>
      some (r10, M13)))))))
set_option maxRecDepth 100000 in
set_option maxHeartbeats 4000000 in
theorem c_X6_votes {l : Launch} {G : Gv} {fu : Nat} {M : Mm} {x1 : Int32} {r : Int32} {M' : Mm} (hF : F_X6_votes fu M x1 = some (r, M')) : Met l yX6_votes (.code yX6_votes cX6_votes 4 (some .int) :: zU) rm_X6_votes (va_Pc [.ref (ad G 0), .int x1] (Wd G M)) (QI G r M') 0 0 (zA G) := by
  refine zMet (by decide) rfl (Nat.le_of_ble_eq_true rfl) ?_
  intro p e s m below meth c hC hw ls hl
  have hl : lv_has ls 4 [(0, .ref (ad G 0)), (1, .int x1)] := hl
  unfold F_X6_votes at hF
  refine lv_iload_n hC.1 hC.2.1 dX6_votes_0 rfl (lv_at hl 1 rfl) ?_
  obtain ⟨r2, h1, hF⟩ := ob1S hF
  refine k_Si (As := [.int x1]) (rest := []) hC hw (c_X6_isAhead (M := M) h1) ys_X6_isAhead q3_53 ⟨rfl, rfl⟩ ⟨Nat.le_of_ble_eq_true rfl, Nat.le_of_ble_eq_true rfl⟩ ⟨Nat.zero_le _, Nat.zero_le _⟩ rfl rfl (Nat.le_of_ble_eq_true rfl) hl dX6_votes_1 (fun H locs hw => ?_)
  refine lv_if_ne (tgt := 9) hC.1 hC.2.1 dX6_votes_4 (by decide) (fun b3 => ?_) (fun b3 => ?_)
  · have hF := ifN hF b3
    refine lv_aload_n hC.1 hC.2.1 dX6_votes_9 rfl (lv_at hl 0 rfl) ?_
    refine g6_north hC hw q1_202 dX6_votes_10 ?_
    refine g2_men hC hw (rfl : kd 24 = 11) q1_32 dX6_votes_13 ?_
    refine lv_if_ne (tgt := 22) hC.1 hC.2.1 dX6_votes_16 (by decide) (fun b4 => ?_) (fun b4 => ?_)
    · have hF := ifN hF b4
      refine lv_aload_n hC.1 hC.2.1 dX6_votes_22 rfl (lv_at hl 0 rfl) ?_
      refine g6_north hC hw q1_202 dX6_votes_23 ?_
      refine lv_iload_n hC.1 hC.2.1 dX6_votes_26 rfl (lv_at hl 1 rfl) ?_
      obtain ⟨r6, h5, hF⟩ := ob1S hF
      refine k_Vi (As := [.int x1]) (rest := []) hC hw (c_X2_votersIn (M := M) (rfl : kd 24 = 11) h5) (RC_N (rfl : kd 24 = 11)) yv_X2_votersIn q3_76 ⟨rfl, rfl⟩ ⟨Nat.le_of_ble_eq_true rfl, Nat.le_of_ble_eq_true rfl⟩ ⟨Nat.zero_le _, Nat.zero_le _⟩ rfl rfl (Nat.le_of_ble_eq_true rfl) hl dX6_votes_27 (fun H locs hw => ?_)
      refine lv_istore_n (lv' := [(2, .int r6), (0, .ref (ad G 0)), (1, .int x1)]) hC.1 hC.2.1 dX6_votes_30 rfl hl (by decide) rfl (fun ls hl => ?_)
      refine lv_aload_n hC.1 hC.2.1 dX6_votes_31 rfl (lv_at hl 1 rfl) ?_
      refine g6_north hC hw q1_202 dX6_votes_32 ?_
      refine lv_iload_n hC.1 hC.2.1 dX6_votes_35 rfl (lv_at hl 0 rfl) ?_
      obtain ⟨r8, h7, hF⟩ := ob1S hF
      refine k_Vi (As := [.int r6]) (rest := []) hC hw (c_X2_onesAmong (M := M) (rfl : kd 24 = 11) h7) (RC_N (rfl : kd 24 = 11)) yv_X2_onesAmong q3_84 ⟨rfl, rfl⟩ ⟨Nat.le_of_ble_eq_true rfl, Nat.le_of_ble_eq_true rfl⟩ ⟨Nat.zero_le _, Nat.zero_le _⟩ rfl rfl (Nat.le_of_ble_eq_true rfl) hl dX6_votes_36 (fun H locs hw => ?_)
      obtain ⟨r10, h9, hF⟩ := ob1S hF
      refine k_Si (As := [.int r8]) (rest := []) hC hw (c_J6_bitCount_0f7a4 (M := M) h9) ys_J6_bitCount_0f7a4 q3_11 ⟨rfl, rfl⟩ ⟨Nat.le_of_ble_eq_true rfl, Nat.le_of_ble_eq_true rfl⟩ ⟨Nat.zero_le _, Nat.zero_le _⟩ rfl rfl (Nat.le_of_ble_eq_true rfl) hl dX6_votes_39 (fun H locs hw => ?_)
      refine lv_istore_n (lv' := [(3, .int r10), (2, .int r6), (0, .ref (ad G 0)), (1, .int x1)]) hC.1 hC.2.1 dX6_votes_42 rfl hl (by decide) rfl (fun ls hl => ?_)
      refine lv_aload_n hC.1 hC.2.1 dX6_votes_43 rfl (lv_at hl 2 rfl) ?_
      refine lv_iload_n hC.1 hC.2.1 dX6_votes_44 rfl (lv_at hl 1 rfl) ?_
      obtain ⟨r12, h11, hF⟩ := ob1S hF
      refine k_Si (As := [.int r6]) (rest := [.ref (ad G 0)]) hC hw (c_J6_bitCount_0f7a4 (M := M) h11) ys_J6_bitCount_0f7a4 q3_11 ⟨rfl, rfl⟩ ⟨Nat.le_of_ble_eq_true rfl, Nat.le_of_ble_eq_true rfl⟩ ⟨Nat.zero_le _, Nat.zero_le _⟩ rfl rfl (Nat.le_of_ble_eq_true rfl) hl dX6_votes_45 (fun H locs hw => ?_)
      refine lv_iload_n hC.1 hC.2.1 dX6_votes_48 rfl (lv_at hl 0 rfl) ?_
      refine lv_isub hC.1 hC.2.1 dX6_votes_49 ?_
      refine u6_told hC hw q1_209 dX6_votes_50 (fun H locs hw => ?_)
      obtain ⟨M13, hw, hF⟩ := lt1W hF hw
      refine lv_iload_n hC.1 hC.2.1 dX6_votes_53 rfl (lv_at hl 0 rfl) ?_
      exact r_iretE hC hw hF dX6_votes_54
    · have hF := ifP hF b4
      refine lv_bipush (v := (-4 : Int32)) hC.1 hC.2.1 dX6_votes_19 (by decide) ?_
      exact r_iretE hC hw hF dX6_votes_21
  · have hF := ifP hF b3
    refine lv_iconst (v := (-1 : Int32)) hC.1 hC.2.1 dX6_votes_7 (by decide) ?_
    exact r_iretE hC hw hF dX6_votes_8
abbrev rm_X6_carried : Room := { frames := 4, cells := 0, slots := 0, locals := 101 }
theorem yv_X6_carried : YV yX6_carried cX6_carried 3 (some .int) 1 RX6 := ⟨⟨q3_86, q3_87, q1_1, q3_88⟩, by decide +kernel⟩
theorem dX6_carried_0 : decode cX6_carried 0 = .ok (.iload_n 1, 1) := by decide +kernel
theorem dX6_carried_1 : decode cX6_carried 1 = .ok (.ifCond .eq 10, 3) := by decide +kernel
theorem dX6_carried_4 : decode cX6_carried 4 = .ok (.iload_n 1, 1) := by decide +kernel
theorem dX6_carried_5 : decode cX6_carried 5 = .ok (.iconst 1, 1) := by decide +kernel
theorem dX6_carried_6 : decode cX6_carried 6 = .ok (.if_icmp .eq 5, 3) := by decide +kernel
theorem dX6_carried_9 : decode cX6_carried 9 = .ok (.iconst (-1), 1) := by decide +kernel
theorem dX6_carried_10 : decode cX6_carried 10 = .ok (.ireturn, 1) := by decide +kernel
theorem dX6_carried_11 : decode cX6_carried 11 = .ok (.aload_n 0, 1) := by decide +kernel
theorem dX6_carried_12 : decode cX6_carried 12 = .ok (.getfield 24, 3) := by decide +kernel
theorem dX6_carried_15 : decode cX6_carried 15 = .ok (.getfield 152, 3) := by decide +kernel
theorem dX6_carried_18 : decode cX6_carried 18 = .ok (.ifCond .ne 6, 3) := by decide +kernel
theorem dX6_carried_21 : decode cX6_carried 21 = .ok (.bipush (-4), 2) := by decide +kernel
theorem dX6_carried_23 : decode cX6_carried 23 = .ok (.ireturn, 1) := by decide +kernel
theorem dX6_carried_24 : decode cX6_carried 24 = .ok (.aload_n 0, 1) := by decide +kernel
theorem dX6_carried_25 : decode cX6_carried 25 = .ok (.getfield 24, 3) := by decide +kernel
theorem dX6_carried_28 : decode cX6_carried 28 = .ok (.aload_n 0, 1) := by decide +kernel
theorem dX6_carried_29 : decode cX6_carried 29 = .ok (.getfield 24, 3) := by decide +kernel
theorem dX6_carried_32 : decode cX6_carried 32 = .ok (.getfield 195, 3) := by decide +kernel
theorem dX6_carried_35 : decode cX6_carried 35 = .ok (.aload_n 0, 1) := by decide +kernel
theorem dX6_carried_36 : decode cX6_carried 36 = .ok (.getfield 61, 3) := by decide +kernel
theorem dX6_carried_39 : decode cX6_carried 39 = .ok (.invokevirtual 242, 3) := by decide +kernel
theorem dX6_carried_42 : decode cX6_carried 42 = .ok (.iconst 0, 1) := by decide +kernel
theorem dX6_carried_43 : decode cX6_carried 43 = .ok (.istore_n 2, 1) := by decide +kernel
theorem dX6_carried_44 : decode cX6_carried 44 = .ok (.iload_n 2, 1) := by decide +kernel
theorem dX6_carried_45 : decode cX6_carried 45 = .ok (.bipush 60, 2) := by decide +kernel
theorem dX6_carried_47 : decode cX6_carried 47 = .ok (.if_icmp .gt 39, 3) := by decide +kernel
theorem dX6_carried_50 : decode cX6_carried 50 = .ok (.aload_n 0, 1) := by decide +kernel
theorem dX6_carried_51 : decode cX6_carried 51 = .ok (.getfield 24, 3) := by decide +kernel
theorem dX6_carried_54 : decode cX6_carried 54 = .ok (.aload_n 0, 1) := by decide +kernel
theorem dX6_carried_55 : decode cX6_carried 55 = .ok (.getfield 61, 3) := by decide +kernel
theorem dX6_carried_58 : decode cX6_carried 58 = .ok (.iload_n 2, 1) := by decide +kernel
theorem dX6_carried_59 : decode cX6_carried 59 = .ok (.invokestatic 101, 3) := by decide +kernel
theorem dX6_carried_62 : decode cX6_carried 62 = .ok (.invokevirtual 246, 3) := by decide +kernel
theorem dX6_carried_65 : decode cX6_carried 65 = .ok (.iload_n 1, 1) := by decide +kernel
theorem dX6_carried_66 : decode cX6_carried 66 = .ok (.iconst 1, 1) := by decide +kernel
theorem dX6_carried_67 : decode cX6_carried 67 = .ok (.if_icmp .ne 7, 3) := by decide +kernel
theorem dX6_carried_70 : decode cX6_carried 70 = .ok (.iconst 1, 1) := by decide +kernel
theorem dX6_carried_71 : decode cX6_carried 71 = .ok (.goto 4, 3) := by decide +kernel
theorem dX6_carried_74 : decode cX6_carried 74 = .ok (.iconst 0, 1) := by decide +kernel
theorem dX6_carried_75 : decode cX6_carried 75 = .ok (.if_icmp .ne 5, 3) := by decide +kernel
theorem dX6_carried_78 : decode cX6_carried 78 = .ok (.iload_n 2, 1) := by decide +kernel
theorem dX6_carried_79 : decode cX6_carried 79 = .ok (.ireturn, 1) := by decide +kernel
theorem dX6_carried_80 : decode cX6_carried 80 = .ok (.iinc 2 1, 3) := by decide +kernel
theorem dX6_carried_83 : decode cX6_carried 83 = .ok (.goto (-39), 3) := by decide +kernel
theorem dX6_carried_86 : decode cX6_carried 86 = .ok (.bipush (-9), 2) := by decide +kernel
theorem dX6_carried_88 : decode cX6_carried 88 = .ok (.ireturn, 1) := by decide +kernel
def F_X6_carried_75 (fu : Nat) (k44 : Mm → Int32 → Int32 → Option (Int32 × Mm)) (M : Mm) (x1 : Int32) (x2 : Int32) (t0 : Int32) (t1 : Int32) : Option (Int32 × Mm) :=
  if t0 = t1 then
    some (x2, M)
  else
    k44 M x1 (x2 + (1 : Int32))
set_option maxRecDepth 100000 in
set_option maxHeartbeats 4000000 in
theorem w_X6_carried_75 {p : Program} {l : Launch} {e : Env} {s : State} {m : MethodId} {args : Array Value} {below : List Frame} {meth : Method} {c : Code} {G : Gv} (hC : Cx p s m args meth c cX6_carried 3 (some .int) RX6) {fu : Nat} {r : Int32} {M' : Mm} {k44 : Mm → Int32 → Int32 → Option (Int32 × Mm)} (hk_44 : ∀ {x1 : Int32} {x2 : Int32} {M : Mm} {H : Heap} {locs : List Loc} {ls : Array Slot}, k44 M x1 x2 = some (r, M') → St G s H locs M → lv_has ls 3 [(0, .ref (ad G 0)), (1, .int x1), (2, .int x2)] → W p l e rm_X6_carried s m args below meth c H locs 0 0 (MQ below (QI G r M') args s 0 0 (zA G)) (F0 m 44 ls [])) {x1 : Int32} {x2 : Int32} {t0 : Int32} {t1 : Int32} {M : Mm} {H : Heap} {locs : List Loc} {ls : Array Slot} (hF : F_X6_carried_75 fu k44 M x1 x2 t0 t1 = some (r, M')) (hw : St G s H locs M) (hl : lv_has ls 3 [(0, .ref (ad G 0)), (1, .int x1), (2, .int x2)]) : W p l e rm_X6_carried s m args below meth c H locs 0 0 (MQ below (QI G r M') args s 0 0 (zA G)) (F0 m 75 ls [.int t1, .int t0]) := by
  unfold F_X6_carried_75 at hF
  refine lv_icmp_ne (tgt := 80) hC.1 hC.2.1 dX6_carried_75 (by decide) (fun b1 => ?_) (fun b1 => ?_)
  · have hF := ifN hF b1
    refine lv_iinc (v := (x2 + (1 : Int32))) (lv' := [(2, .int (x2 + (1 : Int32))), (0, .ref (ad G 0)), (1, .int x1)]) hC.1 hC.2.1 dX6_carried_80 hl (k := 2) rfl rfl (by decide) rfl (fun ls hl => ?_)
    refine lv_goto (tgt := 44) hC.1 hC.2.1 dX6_carried_83 (by decide) ?_
    exact hk_44 hF hw (lv_sub hl [1, 2, 0] rfl)
  · have hF := ifP hF b1
    refine lv_iload_n hC.1 hC.2.1 dX6_carried_78 rfl (lv_at hl 2 rfl) ?_
    exact r_iretE hC hw hF dX6_carried_79
def F_X6_carried_44 (fu : Nat) : Nat → Mm → Int32 → Int32 → Option (Int32 × Mm)
  | 0, _, _, _ => none
  | n + 1, M, x1, x2 =>
    if (60 : Int32) < x2 then
      some ((-9 : Int32), M)
    else
      ob1 (F_X6_read fu M 81 x2) (fun r3 =>
      ob1 (F_X2_isCarriedBy fu M 24 r3) (fun r5 =>
      if x1 = (1 : Int32) then
        F_X6_carried_75 fu (F_X6_carried_44 fu n) M x1 x2 r5 (1 : Int32)
      else
        F_X6_carried_75 fu (F_X6_carried_44 fu n) M x1 x2 r5 (0 : Int32)))
set_option maxRecDepth 100000 in
set_option maxHeartbeats 4000000 in
theorem w_X6_carried_44 {p : Program} {l : Launch} {e : Env} {s : State} {m : MethodId} {args : Array Value} {below : List Frame} {meth : Method} {c : Code} {G : Gv} (hC : Cx p s m args meth c cX6_carried 3 (some .int) RX6) {fu : Nat} {r : Int32} {M' : Mm} : ∀ (n : Nat) {x1 : Int32} {x2 : Int32} {M : Mm} {H : Heap} {locs : List Loc} {ls : Array Slot}, F_X6_carried_44 fu n M x1 x2 = some (r, M') → St G s H locs M → lv_has ls 3 [(0, .ref (ad G 0)), (1, .int x1), (2, .int x2)] → W p l e rm_X6_carried s m args below meth c H locs 0 0 (MQ below (QI G r M') args s 0 0 (zA G)) (F0 m 44 ls []) := by
  intro n
  induction n with
  | zero =>
    intro x1 x2 M H locs ls hF hw hl
    cases hF
  | succ n ih =>
    intro x1 x2 M H locs ls hF hw hl
    unfold F_X6_carried_44 at hF
    refine lv_iload_n hC.1 hC.2.1 dX6_carried_44 rfl (lv_at hl 2 rfl) ?_
    refine lv_bipush (v := (60 : Int32)) hC.1 hC.2.1 dX6_carried_45 (by decide) ?_
    refine lv_icmp_gt (tgt := 86) hC.1 hC.2.1 dX6_carried_47 (by decide) (fun b1 => ?_) (fun b1 => ?_)
    · have hF := ifP hF b1
      refine lv_bipush (v := (-9 : Int32)) hC.1 hC.2.1 dX6_carried_86 (by decide) ?_
      exact r_iretE hC hw hF dX6_carried_88
    · have hF := ifN hF b1
      refine lv_aload_n hC.1 hC.2.1 dX6_carried_50 rfl (lv_at hl 0 rfl) ?_
      refine g6_north hC hw q1_202 dX6_carried_51 ?_
      refine lv_aload_n hC.1 hC.2.1 dX6_carried_54 rfl (lv_at hl 0 rfl) ?_
      refine g6_ahead hC hw q1_212 dX6_carried_55 ?_
      refine lv_iload_n hC.1 hC.2.1 dX6_carried_58 rfl (lv_at hl 2 rfl) ?_
      obtain ⟨r3, h2, hF⟩ := ob1S hF
      refine k_Si (As := [.ref (ad G 81), .int x2]) (rest := [.ref (ad G 24)]) hC hw (c_X6_read (M := M) (rfl : kd 81 = 1) h2) ys_X6_read q2_24 ⟨rfl, rfl⟩ ⟨Nat.le_of_ble_eq_true rfl, Nat.le_of_ble_eq_true rfl⟩ ⟨Nat.zero_le _, Nat.zero_le _⟩ rfl rfl (Nat.le_of_ble_eq_true rfl) hl dX6_carried_59 (fun H locs hw => ?_)
      obtain ⟨r5, h4, hF⟩ := ob1S hF
      refine k_Vi (As := [.int r3]) (rest := []) hC hw (c_X2_isCarriedBy (M := M) (rfl : kd 24 = 11) h4) (RC_N (rfl : kd 24 = 11)) yv_X2_isCarriedBy q3_93 ⟨rfl, rfl⟩ ⟨Nat.le_of_ble_eq_true rfl, Nat.le_of_ble_eq_true rfl⟩ ⟨Nat.zero_le _, Nat.zero_le _⟩ rfl rfl (Nat.le_of_ble_eq_true rfl) hl dX6_carried_62 (fun H locs hw => ?_)
      refine lv_iload_n hC.1 hC.2.1 dX6_carried_65 rfl (lv_at hl 1 rfl) ?_
      refine lv_iconst (v := (1 : Int32)) hC.1 hC.2.1 dX6_carried_66 (by decide) ?_
      refine lv_icmp_ne (tgt := 74) hC.1 hC.2.1 dX6_carried_67 (by decide) (fun b6 => ?_) (fun b6 => ?_)
      · have hF := ifN hF b6
        refine lv_iconst (v := (0 : Int32)) hC.1 hC.2.1 dX6_carried_74 (by decide) ?_
        exact w_X6_carried_75 hC (hk_44 := ih) hF hw (lv_sub hl [0, 1, 2] rfl)
      · have hF := ifP hF b6
        refine lv_iconst (v := (1 : Int32)) hC.1 hC.2.1 dX6_carried_70 (by decide) ?_
        refine lv_goto (tgt := 75) hC.1 hC.2.1 dX6_carried_71 (by decide) ?_
        exact w_X6_carried_75 hC (hk_44 := ih) hF hw (lv_sub hl [0, 1, 2] rfl)
def F_X6_carried_11 (fu : Nat) (M : Mm) (x1 : Int32) : Option (Int32 × Mm) :=
  if (M.1 24 0) = 0 then
    some ((-4 : Int32), M)
  else
    ob1 (F_X2_foreseeVoters fu M 24 (M.1 24 1) 81) (fun M3 =>
    F_X6_carried_44 fu fu M3 x1 (0 : Int32))
set_option maxRecDepth 100000 in
set_option maxHeartbeats 4000000 in
theorem w_X6_carried_11 {p : Program} {l : Launch} {e : Env} {s : State} {m : MethodId} {args : Array Value} {below : List Frame} {meth : Method} {c : Code} {G : Gv} (hC : Cx p s m args meth c cX6_carried 3 (some .int) RX6) {fu : Nat} {r : Int32} {M' : Mm} {x1 : Int32} {M : Mm} {H : Heap} {locs : List Loc} {ls : Array Slot} (hF : F_X6_carried_11 fu M x1 = some (r, M')) (hw : St G s H locs M) (hl : lv_has ls 3 [(0, .ref (ad G 0)), (1, .int x1)]) : W p l e rm_X6_carried s m args below meth c H locs 0 0 (MQ below (QI G r M') args s 0 0 (zA G)) (F0 m 11 ls []) := by
  unfold F_X6_carried_11 at hF
  refine lv_aload_n hC.1 hC.2.1 dX6_carried_11 rfl (lv_at hl 0 rfl) ?_
  refine g6_north hC hw q1_202 dX6_carried_12 ?_
  refine g2_men hC hw (rfl : kd 24 = 11) q1_32 dX6_carried_15 ?_
  refine lv_if_ne (tgt := 24) hC.1 hC.2.1 dX6_carried_18 (by decide) (fun b1 => ?_) (fun b1 => ?_)
  · have hF := ifN hF b1
    refine lv_aload_n hC.1 hC.2.1 dX6_carried_24 rfl (lv_at hl 0 rfl) ?_
    refine g6_north hC hw q1_202 dX6_carried_25 ?_
    refine lv_aload_n hC.1 hC.2.1 dX6_carried_28 rfl (lv_at hl 0 rfl) ?_
    refine g6_north hC hw q1_202 dX6_carried_29 ?_
    refine g2_rightNow hC hw (rfl : kd 24 = 11) q1_34 dX6_carried_32 ?_
    refine lv_aload_n hC.1 hC.2.1 dX6_carried_35 rfl (lv_at hl 0 rfl) ?_
    refine g6_ahead hC hw q1_212 dX6_carried_36 ?_
    obtain ⟨M3, h2, hF⟩ := ob1S hF
    refine k_Vv (As := [.int (M.1 24 1), .ref (ad G 81)]) (rest := []) hC hw (c_X2_foreseeVoters (M := M) (rfl : kd 24 = 11) (rfl : kd 81 = 1) h2) (RC_N (rfl : kd 24 = 11)) yv_X2_foreseeVoters q3_89 ⟨rfl, rfl⟩ ⟨Nat.le_of_ble_eq_true rfl, Nat.le_of_ble_eq_true rfl⟩ ⟨Nat.zero_le _, Nat.zero_le _⟩ rfl rfl (Nat.le_of_ble_eq_true rfl) hl dX6_carried_39 (fun H locs hw => ?_)
    refine lv_iconst (v := (0 : Int32)) hC.1 hC.2.1 dX6_carried_42 (by decide) ?_
    refine lv_istore_n (lv' := [(2, .int (0 : Int32)), (0, .ref (ad G 0)), (1, .int x1)]) hC.1 hC.2.1 dX6_carried_43 rfl hl (by decide) rfl (fun ls hl => ?_)
    exact w_X6_carried_44 hC _ hF hw (lv_sub hl [1, 2, 0] rfl)
  · have hF := ifP hF b1
    refine lv_bipush (v := (-4 : Int32)) hC.1 hC.2.1 dX6_carried_21 (by decide) ?_
    exact r_iretE hC hw hF dX6_carried_23
def F_X6_carried (fu : Nat) (M : Mm) (x1 : Int32) : Option (Int32 × Mm) :=
  if x1 = 0 then
    F_X6_carried_11 fu M x1
  else
    if x1 = (1 : Int32) then
      F_X6_carried_11 fu M x1
    else
      some ((-1 : Int32), M)
set_option maxRecDepth 100000 in
set_option maxHeartbeats 4000000 in
theorem c_X6_carried {l : Launch} {G : Gv} {fu : Nat} {M : Mm} {x1 : Int32} {r : Int32} {M' : Mm} (hF : F_X6_carried fu M x1 = some (r, M')) : Met l yX6_carried (.code yX6_carried cX6_carried 3 (some .int) :: zU) rm_X6_carried (va_Pc [.ref (ad G 0), .int x1] (Wd G M)) (QI G r M') 0 0 (zA G) := by
  refine zMet (by decide) rfl (Nat.le_of_ble_eq_true rfl) ?_
  intro p e s m below meth c hC hw ls hl
  have hl : lv_has ls 3 [(0, .ref (ad G 0)), (1, .int x1)] := hl
  unfold F_X6_carried at hF
  refine lv_iload_n hC.1 hC.2.1 dX6_carried_0 rfl (lv_at hl 1 rfl) ?_
  refine lv_if_eq (tgt := 11) hC.1 hC.2.1 dX6_carried_1 (by decide) (fun b1 => ?_) (fun b1 => ?_)
  · have hF := ifP hF b1
    exact w_X6_carried_11 hC hF hw (lv_sub hl [0, 1] rfl)
  · have hF := ifN hF b1
    refine lv_iload_n hC.1 hC.2.1 dX6_carried_4 rfl (lv_at hl 1 rfl) ?_
    refine lv_iconst (v := (1 : Int32)) hC.1 hC.2.1 dX6_carried_5 (by decide) ?_
    refine lv_icmp_eq (tgt := 11) hC.1 hC.2.1 dX6_carried_6 (by decide) (fun b2 => ?_) (fun b2 => ?_)
    · have hF := ifP hF b2
      exact w_X6_carried_11 hC hF hw (lv_sub hl [0, 1] rfl)
    · have hF := ifN hF b2
      refine lv_iconst (v := (-1 : Int32)) hC.1 hC.2.1 dX6_carried_9 (by decide) ?_
      exact r_iretE hC hw hF dX6_carried_10
abbrev rm_X6_days : Room := { frames := 4, cells := 0, slots := 0, locals := 101 }
theorem yv_X6_days : YV yX6_days cX6_days 4 (some .int) 1 RX6 := ⟨⟨q3_99, q3_100, q1_1, q3_101⟩, by decide +kernel⟩
theorem dX6_days_0 : decode cX6_days 0 = .ok (.iload_n 1, 1) := by decide +kernel
theorem dX6_days_1 : decode cX6_days 1 = .ok (.invokestatic 230, 3) := by decide +kernel
theorem dX6_days_4 : decode cX6_days 4 = .ok (.ifCond .ne 5, 3) := by decide +kernel
theorem dX6_days_7 : decode cX6_days 7 = .ok (.iconst (-1), 1) := by decide +kernel
theorem dX6_days_8 : decode cX6_days 8 = .ok (.ireturn, 1) := by decide +kernel
theorem dX6_days_9 : decode cX6_days 9 = .ok (.aload_n 0, 1) := by decide +kernel
theorem dX6_days_10 : decode cX6_days 10 = .ok (.getfield 24, 3) := by decide +kernel
theorem dX6_days_13 : decode cX6_days 13 = .ok (.getfield 152, 3) := by decide +kernel
theorem dX6_days_16 : decode cX6_days 16 = .ok (.ifCond .ne 6, 3) := by decide +kernel
theorem dX6_days_19 : decode cX6_days 19 = .ok (.bipush (-4), 2) := by decide +kernel
theorem dX6_days_21 : decode cX6_days 21 = .ok (.ireturn, 1) := by decide +kernel
theorem dX6_days_22 : decode cX6_days 22 = .ok (.aload_n 0, 1) := by decide +kernel
theorem dX6_days_23 : decode cX6_days 23 = .ok (.getfield 24, 3) := by decide +kernel
theorem dX6_days_26 : decode cX6_days 26 = .ok (.aload_n 0, 1) := by decide +kernel
theorem dX6_days_27 : decode cX6_days 27 = .ok (.getfield 24, 3) := by decide +kernel
theorem dX6_days_30 : decode cX6_days 30 = .ok (.getfield 195, 3) := by decide +kernel
theorem dX6_days_33 : decode cX6_days 33 = .ok (.aload_n 0, 1) := by decide +kernel
theorem dX6_days_34 : decode cX6_days 34 = .ok (.getfield 61, 3) := by decide +kernel
theorem dX6_days_37 : decode cX6_days 37 = .ok (.invokevirtual 242, 3) := by decide +kernel
theorem dX6_days_40 : decode cX6_days 40 = .ok (.iconst 0, 1) := by decide +kernel
theorem dX6_days_41 : decode cX6_days 41 = .ok (.istore_n 2, 1) := by decide +kernel
theorem dX6_days_42 : decode cX6_days 42 = .ok (.iconst 0, 1) := by decide +kernel
theorem dX6_days_43 : decode cX6_days 43 = .ok (.istore_n 3, 1) := by decide +kernel
theorem dX6_days_44 : decode cX6_days 44 = .ok (.iload_n 3, 1) := by decide +kernel
theorem dX6_days_45 : decode cX6_days 45 = .ok (.iload_n 1, 1) := by decide +kernel
theorem dX6_days_46 : decode cX6_days 46 = .ok (.if_icmp .gt 30, 3) := by decide +kernel
theorem dX6_days_49 : decode cX6_days 49 = .ok (.aload_n 0, 1) := by decide +kernel
theorem dX6_days_50 : decode cX6_days 50 = .ok (.getfield 24, 3) := by decide +kernel
theorem dX6_days_53 : decode cX6_days 53 = .ok (.aload_n 0, 1) := by decide +kernel
theorem dX6_days_54 : decode cX6_days 54 = .ok (.getfield 61, 3) := by decide +kernel
theorem dX6_days_57 : decode cX6_days 57 = .ok (.iload_n 3, 1) := by decide +kernel
theorem dX6_days_58 : decode cX6_days 58 = .ok (.invokestatic 101, 3) := by decide +kernel
theorem dX6_days_61 : decode cX6_days 61 = .ok (.invokevirtual 246, 3) := by decide +kernel
theorem dX6_days_64 : decode cX6_days 64 = .ok (.ifCond .eq 6, 3) := by decide +kernel
theorem dX6_days_67 : decode cX6_days 67 = .ok (.iinc 2 1, 3) := by decide +kernel
theorem dX6_days_70 : decode cX6_days 70 = .ok (.iinc 3 1, 3) := by decide +kernel
theorem dX6_days_73 : decode cX6_days 73 = .ok (.goto (-29), 3) := by decide +kernel
theorem dX6_days_76 : decode cX6_days 76 = .ok (.iload_n 2, 1) := by decide +kernel
theorem dX6_days_77 : decode cX6_days 77 = .ok (.ireturn, 1) := by decide +kernel
def F_X6_days_44 (fu : Nat) : Nat → Mm → Int32 → Int32 → Int32 → Option (Int32 × Mm)
  | 0, _, _, _, _ => none
  | n + 1, M, x1, x2, x3 =>
    if x1 < x3 then
      some (x2, M)
    else
      ob1 (F_X6_read fu M 81 x3) (fun r3 =>
      ob1 (F_X2_isCarriedBy fu M 24 r3) (fun r5 =>
      if r5 = 0 then
        F_X6_days_44 fu n M x1 x2 (x3 + (1 : Int32))
      else
        F_X6_days_44 fu n M x1 (x2 + (1 : Int32)) (x3 + (1 : Int32))))
set_option maxRecDepth 100000 in
set_option maxHeartbeats 4000000 in
theorem w_X6_days_44 {p : Program} {l : Launch} {e : Env} {s : State} {m : MethodId} {args : Array Value} {below : List Frame} {meth : Method} {c : Code} {G : Gv} (hC : Cx p s m args meth c cX6_days 4 (some .int) RX6) {fu : Nat} {r : Int32} {M' : Mm} : ∀ (n : Nat) {x1 : Int32} {x2 : Int32} {x3 : Int32} {M : Mm} {H : Heap} {locs : List Loc} {ls : Array Slot}, F_X6_days_44 fu n M x1 x2 x3 = some (r, M') → St G s H locs M → lv_has ls 4 [(0, .ref (ad G 0)), (1, .int x1), (2, .int x2), (3, .int x3)] → W p l e rm_X6_days s m args below meth c H locs 0 0 (MQ below (QI G r M') args s 0 0 (zA G)) (F0 m 44 ls []) := by
  intro n
  induction n with
  | zero =>
    intro x1 x2 x3 M H locs ls hF hw hl
    cases hF
  | succ n ih =>
    intro x1 x2 x3 M H locs ls hF hw hl
    unfold F_X6_days_44 at hF
    refine lv_iload_n hC.1 hC.2.1 dX6_days_44 rfl (lv_at hl 3 rfl) ?_
    refine lv_iload_n hC.1 hC.2.1 dX6_days_45 rfl (lv_at hl 1 rfl) ?_
    refine lv_icmp_gt (tgt := 76) hC.1 hC.2.1 dX6_days_46 (by decide) (fun b1 => ?_) (fun b1 => ?_)
    · have hF := ifP hF b1
      refine lv_iload_n hC.1 hC.2.1 dX6_days_76 rfl (lv_at hl 2 rfl) ?_
      exact r_iretE hC hw hF dX6_days_77
    · have hF := ifN hF b1
      refine lv_aload_n hC.1 hC.2.1 dX6_days_49 rfl (lv_at hl 0 rfl) ?_
      refine g6_north hC hw q1_202 dX6_days_50 ?_
      refine lv_aload_n hC.1 hC.2.1 dX6_days_53 rfl (lv_at hl 0 rfl) ?_
      refine g6_ahead hC hw q1_212 dX6_days_54 ?_
      refine lv_iload_n hC.1 hC.2.1 dX6_days_57 rfl (lv_at hl 3 rfl) ?_
      obtain ⟨r3, h2, hF⟩ := ob1S hF
      refine k_Si (As := [.ref (ad G 81), .int x3]) (rest := [.ref (ad G 24)]) hC hw (c_X6_read (M := M) (rfl : kd 81 = 1) h2) ys_X6_read q2_24 ⟨rfl, rfl⟩ ⟨Nat.le_of_ble_eq_true rfl, Nat.le_of_ble_eq_true rfl⟩ ⟨Nat.zero_le _, Nat.zero_le _⟩ rfl rfl (Nat.le_of_ble_eq_true rfl) hl dX6_days_58 (fun H locs hw => ?_)
      obtain ⟨r5, h4, hF⟩ := ob1S hF
      refine k_Vi (As := [.int r3]) (rest := []) hC hw (c_X2_isCarriedBy (M := M) (rfl : kd 24 = 11) h4) (RC_N (rfl : kd 24 = 11)) yv_X2_isCarriedBy q3_93 ⟨rfl, rfl⟩ ⟨Nat.le_of_ble_eq_true rfl, Nat.le_of_ble_eq_true rfl⟩ ⟨Nat.zero_le _, Nat.zero_le _⟩ rfl rfl (Nat.le_of_ble_eq_true rfl) hl dX6_days_61 (fun H locs hw => ?_)
      refine lv_if_eq (tgt := 70) hC.1 hC.2.1 dX6_days_64 (by decide) (fun b6 => ?_) (fun b6 => ?_)
      · have hF := ifP hF b6
        refine lv_iinc (v := (x3 + (1 : Int32))) (lv' := [(3, .int (x3 + (1 : Int32))), (0, .ref (ad G 0)), (1, .int x1), (2, .int x2)]) hC.1 hC.2.1 dX6_days_70 hl (k := 3) rfl rfl (by decide) rfl (fun ls hl => ?_)
        refine lv_goto (tgt := 44) hC.1 hC.2.1 dX6_days_73 (by decide) ?_
        exact ih hF hw (lv_sub hl [1, 2, 3, 0] rfl)
      · have hF := ifN hF b6
        refine lv_iinc (v := (x2 + (1 : Int32))) (lv' := [(2, .int (x2 + (1 : Int32))), (0, .ref (ad G 0)), (1, .int x1), (3, .int x3)]) hC.1 hC.2.1 dX6_days_67 hl (k := 2) rfl rfl (by decide) rfl (fun ls hl => ?_)
        refine lv_iinc (v := (x3 + (1 : Int32))) (lv' := [(3, .int (x3 + (1 : Int32))), (2, .int (x2 + (1 : Int32))), (0, .ref (ad G 0)), (1, .int x1)]) hC.1 hC.2.1 dX6_days_70 hl (k := 3) rfl rfl (by decide) rfl (fun ls hl => ?_)
        refine lv_goto (tgt := 44) hC.1 hC.2.1 dX6_days_73 (by decide) ?_
        exact ih hF hw (lv_sub hl [2, 3, 1, 0] rfl)
def F_X6_days (fu : Nat) (M : Mm) (x1 : Int32) : Option (Int32 × Mm) :=
  ob1 (F_X6_isAhead fu M x1) (fun r2 =>
  if r2 = 0 then
    some ((-1 : Int32), M)
  else
    if (M.1 24 0) = 0 then
      some ((-4 : Int32), M)
    else
      ob1 (F_X2_foreseeVoters fu M 24 (M.1 24 1) 81) (fun M6 =>
      F_X6_days_44 fu fu M6 x1 (0 : Int32) (0 : Int32)))
set_option maxRecDepth 100000 in
set_option maxHeartbeats 4000000 in
theorem c_X6_days {l : Launch} {G : Gv} {fu : Nat} {M : Mm} {x1 : Int32} {r : Int32} {M' : Mm} (hF : F_X6_days fu M x1 = some (r, M')) : Met l yX6_days (.code yX6_days cX6_days 4 (some .int) :: zU) rm_X6_days (va_Pc [.ref (ad G 0), .int x1] (Wd G M)) (QI G r M') 0 0 (zA G) := by
  refine zMet (by decide) rfl (Nat.le_of_ble_eq_true rfl) ?_
  intro p e s m below meth c hC hw ls hl
  have hl : lv_has ls 4 [(0, .ref (ad G 0)), (1, .int x1)] := hl
  unfold F_X6_days at hF
  refine lv_iload_n hC.1 hC.2.1 dX6_days_0 rfl (lv_at hl 1 rfl) ?_
  obtain ⟨r2, h1, hF⟩ := ob1S hF
  refine k_Si (As := [.int x1]) (rest := []) hC hw (c_X6_isAhead (M := M) h1) ys_X6_isAhead q3_53 ⟨rfl, rfl⟩ ⟨Nat.le_of_ble_eq_true rfl, Nat.le_of_ble_eq_true rfl⟩ ⟨Nat.zero_le _, Nat.zero_le _⟩ rfl rfl (Nat.le_of_ble_eq_true rfl) hl dX6_days_1 (fun H locs hw => ?_)
  refine lv_if_ne (tgt := 9) hC.1 hC.2.1 dX6_days_4 (by decide) (fun b3 => ?_) (fun b3 => ?_)
  · have hF := ifN hF b3
    refine lv_aload_n hC.1 hC.2.1 dX6_days_9 rfl (lv_at hl 0 rfl) ?_
    refine g6_north hC hw q1_202 dX6_days_10 ?_
    refine g2_men hC hw (rfl : kd 24 = 11) q1_32 dX6_days_13 ?_
    refine lv_if_ne (tgt := 22) hC.1 hC.2.1 dX6_days_16 (by decide) (fun b4 => ?_) (fun b4 => ?_)
    · have hF := ifN hF b4
      refine lv_aload_n hC.1 hC.2.1 dX6_days_22 rfl (lv_at hl 0 rfl) ?_
      refine g6_north hC hw q1_202 dX6_days_23 ?_
      refine lv_aload_n hC.1 hC.2.1 dX6_days_26 rfl (lv_at hl 0 rfl) ?_
      refine g6_north hC hw q1_202 dX6_days_27 ?_
      refine g2_rightNow hC hw (rfl : kd 24 = 11) q1_34 dX6_days_30 ?_
      refine lv_aload_n hC.1 hC.2.1 dX6_days_33 rfl (lv_at hl 0 rfl) ?_
      refine g6_ahead hC hw q1_212 dX6_days_34 ?_
      obtain ⟨M6, h5, hF⟩ := ob1S hF
      refine k_Vv (As := [.int (M.1 24 1), .ref (ad G 81)]) (rest := []) hC hw (c_X2_foreseeVoters (M := M) (rfl : kd 24 = 11) (rfl : kd 81 = 1) h5) (RC_N (rfl : kd 24 = 11)) yv_X2_foreseeVoters q3_89 ⟨rfl, rfl⟩ ⟨Nat.le_of_ble_eq_true rfl, Nat.le_of_ble_eq_true rfl⟩ ⟨Nat.zero_le _, Nat.zero_le _⟩ rfl rfl (Nat.le_of_ble_eq_true rfl) hl dX6_days_37 (fun H locs hw => ?_)
      refine lv_iconst (v := (0 : Int32)) hC.1 hC.2.1 dX6_days_40 (by decide) ?_
      refine lv_istore_n (lv' := [(2, .int (0 : Int32)), (0, .ref (ad G 0)), (1, .int x1)]) hC.1 hC.2.1 dX6_days_41 rfl hl (by decide) rfl (fun ls hl => ?_)
      refine lv_iconst (v := (0 : Int32)) hC.1 hC.2.1 dX6_days_42 (by decide) ?_
      refine lv_istore_n (lv' := [(3, .int (0 : Int32)), (2, .int (0 : Int32)), (0, .ref (ad G 0)), (1, .int x1)]) hC.1 hC.2.1 dX6_days_43 rfl hl (by decide) rfl (fun ls hl => ?_)
      exact w_X6_days_44 hC _ hF hw (lv_sub hl [2, 3, 1, 0] rfl)
    · have hF := ifP hF b4
      refine lv_bipush (v := (-4 : Int32)) hC.1 hC.2.1 dX6_days_19 (by decide) ?_
      exact r_iretE hC hw hF dX6_days_21
  · have hF := ifP hF b3
    refine lv_iconst (v := (-1 : Int32)) hC.1 hC.2.1 dX6_days_7 (by decide) ?_
    exact r_iretE hC hw hF dX6_days_8
abbrev rm_X6_widow : Room := { frames := 4, cells := 0, slots := 0, locals := 99 }
theorem yv_X6_widow : YV yX6_widow cX6_widow 5 (some .int) 0 RX6 := ⟨⟨q3_103, q3_104, q1_1, q3_105⟩, by decide +kernel⟩
theorem dX6_widow_0 : decode cX6_widow 0 = .ok (.aload_n 0, 1) := by decide +kernel
theorem dX6_widow_1 : decode cX6_widow 1 = .ok (.getfield 24, 3) := by decide +kernel
theorem dX6_widow_4 : decode cX6_widow 4 = .ok (.getfield 152, 3) := by decide +kernel
theorem dX6_widow_7 : decode cX6_widow 7 = .ok (.ifCond .ne 6, 3) := by decide +kernel
theorem dX6_widow_10 : decode cX6_widow 10 = .ok (.bipush (-4), 2) := by decide +kernel
theorem dX6_widow_12 : decode cX6_widow 12 = .ok (.ireturn, 1) := by decide +kernel
theorem dX6_widow_13 : decode cX6_widow 13 = .ok (.bipush (-9), 2) := by decide +kernel
theorem dX6_widow_15 : decode cX6_widow 15 = .ok (.istore_n 1, 1) := by decide +kernel
theorem dX6_widow_16 : decode cX6_widow 16 = .ok (.bipush 61, 2) := by decide +kernel
theorem dX6_widow_18 : decode cX6_widow 18 = .ok (.istore_n 2, 1) := by decide +kernel
theorem dX6_widow_19 : decode cX6_widow 19 = .ok (.iconst 0, 1) := by decide +kernel
theorem dX6_widow_20 : decode cX6_widow 20 = .ok (.istore_n 3, 1) := by decide +kernel
theorem dX6_widow_21 : decode cX6_widow 21 = .ok (.iload_n 3, 1) := by decide +kernel
theorem dX6_widow_22 : decode cX6_widow 22 = .ok (.aload_n 0, 1) := by decide +kernel
theorem dX6_widow_23 : decode cX6_widow 23 = .ok (.getfield 24, 3) := by decide +kernel
theorem dX6_widow_26 : decode cX6_widow 26 = .ok (.getfield 152, 3) := by decide +kernel
theorem dX6_widow_29 : decode cX6_widow 29 = .ok (.if_icmp .ge 35, 3) := by decide +kernel
theorem dX6_widow_32 : decode cX6_widow 32 = .ok (.aload_n 0, 1) := by decide +kernel
theorem dX6_widow_33 : decode cX6_widow 33 = .ok (.getfield 24, 3) := by decide +kernel
theorem dX6_widow_36 : decode cX6_widow 36 = .ok (.iload_n 3, 1) := by decide +kernel
theorem dX6_widow_37 : decode cX6_widow 37 = .ok (.invokevirtual 183, 3) := by decide +kernel
theorem dX6_widow_40 : decode cX6_widow 40 = .ok (.istore 4, 2) := by decide +kernel
theorem dX6_widow_42 : decode cX6_widow 42 = .ok (.iload 4, 2) := by decide +kernel
theorem dX6_widow_44 : decode cX6_widow 44 = .ok (.ifCond .le 14, 3) := by decide +kernel
theorem dX6_widow_47 : decode cX6_widow 47 = .ok (.iload 4, 2) := by decide +kernel
theorem dX6_widow_49 : decode cX6_widow 49 = .ok (.iload_n 2, 1) := by decide +kernel
theorem dX6_widow_50 : decode cX6_widow 50 = .ok (.if_icmp .ge 8, 3) := by decide +kernel
theorem dX6_widow_53 : decode cX6_widow 53 = .ok (.iload_n 3, 1) := by decide +kernel
theorem dX6_widow_54 : decode cX6_widow 54 = .ok (.istore_n 1, 1) := by decide +kernel
theorem dX6_widow_55 : decode cX6_widow 55 = .ok (.iload 4, 2) := by decide +kernel
theorem dX6_widow_57 : decode cX6_widow 57 = .ok (.istore_n 2, 1) := by decide +kernel
theorem dX6_widow_58 : decode cX6_widow 58 = .ok (.iinc 3 1, 3) := by decide +kernel
theorem dX6_widow_61 : decode cX6_widow 61 = .ok (.goto (-40), 3) := by decide +kernel
theorem dX6_widow_64 : decode cX6_widow 64 = .ok (.iload_n 1, 1) := by decide +kernel
theorem dX6_widow_65 : decode cX6_widow 65 = .ok (.bipush (-9), 2) := by decide +kernel
theorem dX6_widow_67 : decode cX6_widow 67 = .ok (.if_icmp .eq 8, 3) := by decide +kernel
theorem dX6_widow_70 : decode cX6_widow 70 = .ok (.aload_n 0, 1) := by decide +kernel
theorem dX6_widow_71 : decode cX6_widow 71 = .ok (.iload_n 2, 1) := by decide +kernel
theorem dX6_widow_72 : decode cX6_widow 72 = .ok (.putfield 220, 3) := by decide +kernel
theorem dX6_widow_75 : decode cX6_widow 75 = .ok (.iload_n 1, 1) := by decide +kernel
theorem dX6_widow_76 : decode cX6_widow 76 = .ok (.ireturn, 1) := by decide +kernel
def F_X6_widow_21 (fu : Nat) : Nat → Mm → Int32 → Int32 → Int32 → Option (Int32 × Mm)
  | 0, _, _, _, _ => none
  | n + 1, M, x1, x2, x3 =>
    if (M.1 24 0) ≤ x3 then
      if x1 = (-9 : Int32) then
        some (x1, M)
      else
        lt1 (pI M 0 9 x2) (fun M3 =>
        some (x1, M3))
    else
      ob1 (F_X2_goneIn fu M 24 x3) (fun r5 =>
      if r5 ≤ 0 then
        F_X6_widow_21 fu n M x1 x2 (x3 + (1 : Int32))
      else
        if x2 ≤ r5 then
          F_X6_widow_21 fu n M x1 x2 (x3 + (1 : Int32))
        else
          F_X6_widow_21 fu n M x3 r5 (x3 + (1 : Int32)))
set_option maxRecDepth 100000 in
set_option maxHeartbeats 4000000 in
theorem w_X6_widow_21 {p : Program} {l : Launch} {e : Env} {s : State} {m : MethodId} {args : Array Value} {below : List Frame} {meth : Method} {c : Code} {G : Gv} (hC : Cx p s m args meth c cX6_widow 5 (some .int) RX6) {fu : Nat} {r : Int32} {M' : Mm} : ∀ (n : Nat) {x1 : Int32} {x2 : Int32} {x3 : Int32} {M : Mm} {H : Heap} {locs : List Loc} {ls : Array Slot}, F_X6_widow_21 fu n M x1 x2 x3 = some (r, M') → St G s H locs M → lv_has ls 5 [(0, .ref (ad G 0)), (1, .int x1), (2, .int x2), (3, .int x3)] → W p l e rm_X6_widow s m args below meth c H locs 0 0 (MQ below (QI G r M') args s 0 0 (zA G)) (F0 m 21 ls []) := by
  intro n
  induction n with
  | zero =>
    intro x1 x2 x3 M H locs ls hF hw hl
    cases hF
  | succ n ih =>
    intro x1 x2 x3 M H locs ls hF hw hl
    unfold F_X6_widow_21 at hF
    refine lv_iload_n hC.1 hC.2.1 dX6_widow_21 rfl (lv_at hl 3 rfl) ?_
    refine lv_aload_n hC.1 hC.2.1 dX6_widow_22 rfl (lv_at hl 0 rfl) ?_
    refine g6_north hC hw q1_202 dX6_widow_23 ?_
    refine g2_men hC hw (rfl : kd 24 = 11) q1_32 dX6_widow_26 ?_
    refine lv_icmp_ge (tgt := 64) hC.1 hC.2.1 dX6_widow_29 (by decide) (fun b1 => ?_) (fun b1 => ?_)
    · have hF := ifP hF b1
      refine lv_iload_n hC.1 hC.2.1 dX6_widow_64 rfl (lv_at hl 1 rfl) ?_
      refine lv_bipush (v := (-9 : Int32)) hC.1 hC.2.1 dX6_widow_65 (by decide) ?_
      refine lv_icmp_eq (tgt := 75) hC.1 hC.2.1 dX6_widow_67 (by decide) (fun b2 => ?_) (fun b2 => ?_)
      · have hF := ifP hF b2
        refine lv_iload_n hC.1 hC.2.1 dX6_widow_75 rfl (lv_at hl 1 rfl) ?_
        exact r_iretE hC hw hF dX6_widow_76
      · have hF := ifN hF b2
        refine lv_aload_n hC.1 hC.2.1 dX6_widow_70 rfl (lv_at hl 0 rfl) ?_
        refine lv_iload_n hC.1 hC.2.1 dX6_widow_71 rfl (lv_at hl 2 rfl) ?_
        refine u6_told hC hw q1_209 dX6_widow_72 (fun H locs hw => ?_)
        obtain ⟨M3, hw, hF⟩ := lt1W hF hw
        refine lv_iload_n hC.1 hC.2.1 dX6_widow_75 rfl (lv_at hl 1 rfl) ?_
        exact r_iretE hC hw hF dX6_widow_76
    · have hF := ifN hF b1
      refine lv_aload_n hC.1 hC.2.1 dX6_widow_32 rfl (lv_at hl 0 rfl) ?_
      refine g6_north hC hw q1_202 dX6_widow_33 ?_
      refine lv_iload_n hC.1 hC.2.1 dX6_widow_36 rfl (lv_at hl 3 rfl) ?_
      obtain ⟨r5, h4, hF⟩ := ob1S hF
      refine k_Vi (As := [.int x3]) (rest := []) hC hw (c_X2_goneIn (M := M) (rfl : kd 24 = 11) h4) (RC_N (rfl : kd 24 = 11)) yv_X2_goneIn q2_204 ⟨rfl, rfl⟩ ⟨Nat.le_of_ble_eq_true rfl, Nat.le_of_ble_eq_true rfl⟩ ⟨Nat.zero_le _, Nat.zero_le _⟩ rfl rfl (Nat.le_of_ble_eq_true rfl) hl dX6_widow_37 (fun H locs hw => ?_)
      refine lv_istore (lv' := [(4, .int r5), (0, .ref (ad G 0)), (1, .int x1), (2, .int x2), (3, .int x3)]) hC.1 hC.2.1 dX6_widow_40 hl (by decide) rfl (fun ls hl => ?_)
      refine lv_iload hC.1 hC.2.1 dX6_widow_42 (lv_at hl 0 rfl) ?_
      refine lv_if_le (tgt := 58) hC.1 hC.2.1 dX6_widow_44 (by decide) (fun b6 => ?_) (fun b6 => ?_)
      · have hF := ifP hF b6
        refine lv_iinc (v := (x3 + (1 : Int32))) (lv' := [(3, .int (x3 + (1 : Int32))), (4, .int r5), (0, .ref (ad G 0)), (1, .int x1), (2, .int x2)]) hC.1 hC.2.1 dX6_widow_58 hl (k := 4) rfl rfl (by decide) rfl (fun ls hl => ?_)
        refine lv_goto (tgt := 21) hC.1 hC.2.1 dX6_widow_61 (by decide) ?_
        exact ih hF hw (lv_sub hl [2, 3, 4, 0] rfl)
      · have hF := ifN hF b6
        refine lv_iload hC.1 hC.2.1 dX6_widow_47 (lv_at hl 0 rfl) ?_
        refine lv_iload_n hC.1 hC.2.1 dX6_widow_49 rfl (lv_at hl 3 rfl) ?_
        refine lv_icmp_ge (tgt := 58) hC.1 hC.2.1 dX6_widow_50 (by decide) (fun b7 => ?_) (fun b7 => ?_)
        · have hF := ifP hF b7
          refine lv_iinc (v := (x3 + (1 : Int32))) (lv' := [(3, .int (x3 + (1 : Int32))), (4, .int r5), (0, .ref (ad G 0)), (1, .int x1), (2, .int x2)]) hC.1 hC.2.1 dX6_widow_58 hl (k := 4) rfl rfl (by decide) rfl (fun ls hl => ?_)
          refine lv_goto (tgt := 21) hC.1 hC.2.1 dX6_widow_61 (by decide) ?_
          exact ih hF hw (lv_sub hl [2, 3, 4, 0] rfl)
        · have hF := ifN hF b7
          refine lv_iload_n hC.1 hC.2.1 dX6_widow_53 rfl (lv_at hl 4 rfl) ?_
          refine lv_istore_n (lv' := [(1, .int x3), (4, .int r5), (0, .ref (ad G 0)), (2, .int x2), (3, .int x3)]) hC.1 hC.2.1 dX6_widow_54 rfl hl (by decide) rfl (fun ls hl => ?_)
          refine lv_iload hC.1 hC.2.1 dX6_widow_55 (lv_at hl 1 rfl) ?_
          refine lv_istore_n (lv' := [(2, .int r5), (1, .int x3), (4, .int r5), (0, .ref (ad G 0)), (3, .int x3)]) hC.1 hC.2.1 dX6_widow_57 rfl hl (by decide) rfl (fun ls hl => ?_)
          refine lv_iinc (v := (x3 + (1 : Int32))) (lv' := [(3, .int (x3 + (1 : Int32))), (2, .int r5), (1, .int x3), (4, .int r5), (0, .ref (ad G 0))]) hC.1 hC.2.1 dX6_widow_58 hl (k := 4) rfl rfl (by decide) rfl (fun ls hl => ?_)
          refine lv_goto (tgt := 21) hC.1 hC.2.1 dX6_widow_61 (by decide) ?_
          exact ih hF hw (lv_sub hl [4, 2, 1, 0] rfl)
def F_X6_widow (fu : Nat) (M : Mm) : Option (Int32 × Mm) :=
  if (M.1 24 0) = 0 then
    some ((-4 : Int32), M)
  else
    F_X6_widow_21 fu fu M (-9 : Int32) (61 : Int32) (0 : Int32)
set_option maxRecDepth 100000 in
set_option maxHeartbeats 4000000 in
theorem c_X6_widow {l : Launch} {G : Gv} {fu : Nat} {M : Mm} {r : Int32} {M' : Mm} (hF : F_X6_widow fu M = some (r, M')) : Met l yX6_widow (.code yX6_widow cX6_widow 5 (some .int) :: zU) rm_X6_widow (va_Pc [.ref (ad G 0)] (Wd G M)) (QI G r M') 0 0 (zA G) := by
  refine zMet (by decide) rfl (Nat.le_of_ble_eq_true rfl) ?_
  intro p e s m below meth c hC hw ls hl
  have hl : lv_has ls 5 [(0, .ref (ad G 0))] := hl
  unfold F_X6_widow at hF
  refine lv_aload_n hC.1 hC.2.1 dX6_widow_0 rfl (lv_at hl 0 rfl) ?_
  refine g6_north hC hw q1_202 dX6_widow_1 ?_
  refine g2_men hC hw (rfl : kd 24 = 11) q1_32 dX6_widow_4 ?_
  refine lv_if_ne (tgt := 13) hC.1 hC.2.1 dX6_widow_7 (by decide) (fun b1 => ?_) (fun b1 => ?_)
  · have hF := ifN hF b1
    refine lv_bipush (v := (-9 : Int32)) hC.1 hC.2.1 dX6_widow_13 (by decide) ?_
    refine lv_istore_n (lv' := [(1, .int (-9 : Int32)), (0, .ref (ad G 0))]) hC.1 hC.2.1 dX6_widow_15 rfl hl (by decide) rfl (fun ls hl => ?_)
    refine lv_bipush (v := (61 : Int32)) hC.1 hC.2.1 dX6_widow_16 (by decide) ?_
    refine lv_istore_n (lv' := [(2, .int (61 : Int32)), (1, .int (-9 : Int32)), (0, .ref (ad G 0))]) hC.1 hC.2.1 dX6_widow_18 rfl hl (by decide) rfl (fun ls hl => ?_)
    refine lv_iconst (v := (0 : Int32)) hC.1 hC.2.1 dX6_widow_19 (by decide) ?_
    refine lv_istore_n (lv' := [(3, .int (0 : Int32)), (2, .int (61 : Int32)), (1, .int (-9 : Int32)), (0, .ref (ad G 0))]) hC.1 hC.2.1 dX6_widow_20 rfl hl (by decide) rfl (fun ls hl => ?_)
    exact w_X6_widow_21 hC _ hF hw (lv_sub hl [3, 2, 1, 0] rfl)
  · have hF := ifP hF b1
    refine lv_bipush (v := (-4 : Int32)) hC.1 hC.2.1 dX6_widow_10 (by decide) ?_
    exact r_iretE hC hw hF dX6_widow_12
abbrev rm_X6_heir : Room := { frames := 5, cells := 0, slots := 0, locals := 124 }
theorem yv_X6_heir : YV yX6_heir cX6_heir 4 (some .int) 2 RX6 := ⟨⟨q3_107, q3_108, q1_1, q3_109⟩, by decide +kernel⟩
theorem dX6_heir_0 : decode cX6_heir 0 = .ok (.aload_n 0, 1) := by decide +kernel
theorem dX6_heir_1 : decode cX6_heir 1 = .ok (.getfield 24, 3) := by decide +kernel
theorem dX6_heir_4 : decode cX6_heir 4 = .ok (.iload_n 1, 1) := by decide +kernel
theorem dX6_heir_5 : decode cX6_heir 5 = .ok (.invokevirtual 155, 3) := by decide +kernel
theorem dX6_heir_8 : decode cX6_heir 8 = .ok (.ifCond .eq 10, 3) := by decide +kernel
theorem dX6_heir_11 : decode cX6_heir 11 = .ok (.iload_n 2, 1) := by decide +kernel
theorem dX6_heir_12 : decode cX6_heir 12 = .ok (.invokestatic 230, 3) := by decide +kernel
theorem dX6_heir_15 : decode cX6_heir 15 = .ok (.ifCond .ne 5, 3) := by decide +kernel
theorem dX6_heir_18 : decode cX6_heir 18 = .ok (.iconst (-1), 1) := by decide +kernel
theorem dX6_heir_19 : decode cX6_heir 19 = .ok (.ireturn, 1) := by decide +kernel
theorem dX6_heir_20 : decode cX6_heir 20 = .ok (.iload_n 1, 1) := by decide +kernel
theorem dX6_heir_21 : decode cX6_heir 21 = .ok (.istore_n 3, 1) := by decide +kernel
theorem dX6_heir_22 : decode cX6_heir 22 = .ok (.iload_n 3, 1) := by decide +kernel
theorem dX6_heir_23 : decode cX6_heir 23 = .ok (.aload_n 0, 1) := by decide +kernel
theorem dX6_heir_24 : decode cX6_heir 24 = .ok (.getfield 24, 3) := by decide +kernel
theorem dX6_heir_27 : decode cX6_heir 27 = .ok (.getfield 152, 3) := by decide +kernel
theorem dX6_heir_30 : decode cX6_heir 30 = .ok (.if_icmp .ge 23, 3) := by decide +kernel
theorem dX6_heir_33 : decode cX6_heir 33 = .ok (.aload_n 0, 1) := by decide +kernel
theorem dX6_heir_34 : decode cX6_heir 34 = .ok (.getfield 24, 3) := by decide +kernel
theorem dX6_heir_37 : decode cX6_heir 37 = .ok (.iload_n 3, 1) := by decide +kernel
theorem dX6_heir_38 : decode cX6_heir 38 = .ok (.iload_n 2, 1) := by decide +kernel
theorem dX6_heir_39 : decode cX6_heir 39 = .ok (.invokevirtual 233, 3) := by decide +kernel
theorem dX6_heir_42 : decode cX6_heir 42 = .ok (.ifCond .le 5, 3) := by decide +kernel
theorem dX6_heir_45 : decode cX6_heir 45 = .ok (.iload_n 3, 1) := by decide +kernel
theorem dX6_heir_46 : decode cX6_heir 46 = .ok (.ireturn, 1) := by decide +kernel
theorem dX6_heir_47 : decode cX6_heir 47 = .ok (.iinc 3 1, 3) := by decide +kernel
theorem dX6_heir_50 : decode cX6_heir 50 = .ok (.goto (-28), 3) := by decide +kernel
theorem dX6_heir_53 : decode cX6_heir 53 = .ok (.iload_n 1, 1) := by decide +kernel
theorem dX6_heir_54 : decode cX6_heir 54 = .ok (.iconst 1, 1) := by decide +kernel
theorem dX6_heir_55 : decode cX6_heir 55 = .ok (.isub, 1) := by decide +kernel
theorem dX6_heir_56 : decode cX6_heir 56 = .ok (.istore_n 3, 1) := by decide +kernel
theorem dX6_heir_57 : decode cX6_heir 57 = .ok (.iload_n 3, 1) := by decide +kernel
theorem dX6_heir_58 : decode cX6_heir 58 = .ok (.ifCond .lt 23, 3) := by decide +kernel
theorem dX6_heir_61 : decode cX6_heir 61 = .ok (.aload_n 0, 1) := by decide +kernel
theorem dX6_heir_62 : decode cX6_heir 62 = .ok (.getfield 24, 3) := by decide +kernel
theorem dX6_heir_65 : decode cX6_heir 65 = .ok (.iload_n 3, 1) := by decide +kernel
theorem dX6_heir_66 : decode cX6_heir 66 = .ok (.iload_n 2, 1) := by decide +kernel
theorem dX6_heir_67 : decode cX6_heir 67 = .ok (.invokevirtual 233, 3) := by decide +kernel
theorem dX6_heir_70 : decode cX6_heir 70 = .ok (.ifCond .le 5, 3) := by decide +kernel
theorem dX6_heir_73 : decode cX6_heir 73 = .ok (.iload_n 3, 1) := by decide +kernel
theorem dX6_heir_74 : decode cX6_heir 74 = .ok (.ireturn, 1) := by decide +kernel
theorem dX6_heir_75 : decode cX6_heir 75 = .ok (.iinc 3 (-1), 3) := by decide +kernel
theorem dX6_heir_78 : decode cX6_heir 78 = .ok (.goto (-21), 3) := by decide +kernel
theorem dX6_heir_81 : decode cX6_heir 81 = .ok (.bipush (-9), 2) := by decide +kernel
theorem dX6_heir_83 : decode cX6_heir 83 = .ok (.ireturn, 1) := by decide +kernel
def F_X6_heir_57 (fu : Nat) (M : Mm) : Nat → Int32 → Int32 → Option Int32
  | 0, _, _ => none
  | n + 1, x2, x3 =>
    if x3 < 0 then
      some (-9 : Int32)
    else
      ob1 (F_X2_bulkIn fu M 24 x3 x2) (fun r3 =>
      if r3 ≤ 0 then
        F_X6_heir_57 fu M n x2 (x3 + (-1 : Int32))
      else
        some x3)
set_option maxRecDepth 100000 in
set_option maxHeartbeats 4000000 in
theorem w_X6_heir_57 {p : Program} {l : Launch} {e : Env} {s : State} {m : MethodId} {args : Array Value} {below : List Frame} {meth : Method} {c : Code} {G : Gv} (hC : Cx p s m args meth c cX6_heir 4 (some .int) RX6) {fu : Nat} {r : Int32} {M : Mm} : ∀ (n : Nat) {x2 : Int32} {x3 : Int32} {H : Heap} {locs : List Loc} {ls : Array Slot}, F_X6_heir_57 fu M n x2 x3 = some r → St G s H locs M → lv_has ls 4 [(0, .ref (ad G 0)), (2, .int x2), (3, .int x3)] → W p l e rm_X6_heir s m args below meth c H locs 0 0 (MQ below (QI G r M) args s 0 0 (zA G)) (F0 m 57 ls []) := by
  intro n
  induction n with
  | zero =>
    intro x2 x3 H locs ls hF hw hl
    cases hF
  | succ n ih =>
    intro x2 x3 H locs ls hF hw hl
    unfold F_X6_heir_57 at hF
    refine lv_iload_n hC.1 hC.2.1 dX6_heir_57 rfl (lv_at hl 2 rfl) ?_
    refine lv_if_lt (tgt := 81) hC.1 hC.2.1 dX6_heir_58 (by decide) (fun b1 => ?_) (fun b1 => ?_)
    · have hF := ifP hF b1
      refine lv_bipush (v := (-9 : Int32)) hC.1 hC.2.1 dX6_heir_81 (by decide) ?_
      exact r_iretP hC hw hF dX6_heir_83
    · have hF := ifN hF b1
      refine lv_aload_n hC.1 hC.2.1 dX6_heir_61 rfl (lv_at hl 0 rfl) ?_
      refine g6_north hC hw q1_202 dX6_heir_62 ?_
      refine lv_iload_n hC.1 hC.2.1 dX6_heir_65 rfl (lv_at hl 2 rfl) ?_
      refine lv_iload_n hC.1 hC.2.1 dX6_heir_66 rfl (lv_at hl 1 rfl) ?_
      obtain ⟨r3, h2, hF⟩ := ob1S hF
      refine k_Vi (As := [.int x3, .int x2]) (rest := []) hC hw (c_X2_bulkIn (M := M) (rfl : kd 24 = 11) h2) (RC_N (rfl : kd 24 = 11)) yv_X2_bulkIn q3_56 ⟨rfl, rfl⟩ ⟨Nat.le_of_ble_eq_true rfl, Nat.le_of_ble_eq_true rfl⟩ ⟨Nat.zero_le _, Nat.zero_le _⟩ rfl rfl (Nat.le_of_ble_eq_true rfl) hl dX6_heir_67 (fun H locs hw => ?_)
      refine lv_if_le (tgt := 75) hC.1 hC.2.1 dX6_heir_70 (by decide) (fun b4 => ?_) (fun b4 => ?_)
      · have hF := ifP hF b4
        refine lv_iinc (v := (x3 + (-1 : Int32))) (lv' := [(3, .int (x3 + (-1 : Int32))), (0, .ref (ad G 0)), (2, .int x2)]) hC.1 hC.2.1 dX6_heir_75 hl (k := 2) rfl rfl (by decide) rfl (fun ls hl => ?_)
        refine lv_goto (tgt := 57) hC.1 hC.2.1 dX6_heir_78 (by decide) ?_
        exact ih hF hw (lv_sub hl [1, 2, 0] rfl)
      · have hF := ifN hF b4
        refine lv_iload_n hC.1 hC.2.1 dX6_heir_73 rfl (lv_at hl 2 rfl) ?_
        exact r_iretP hC hw hF dX6_heir_74
def F_X6_heir_22 (fu : Nat) (M : Mm) : Nat → Int32 → Int32 → Int32 → Option Int32
  | 0, _, _, _ => none
  | n + 1, x1, x2, x3 =>
    if (M.1 24 0) ≤ x3 then
      F_X6_heir_57 fu M fu x2 (x1 - (1 : Int32))
    else
      ob1 (F_X2_bulkIn fu M 24 x3 x2) (fun r3 =>
      if r3 ≤ 0 then
        F_X6_heir_22 fu M n x1 x2 (x3 + (1 : Int32))
      else
        some x3)
set_option maxRecDepth 100000 in
set_option maxHeartbeats 4000000 in
theorem w_X6_heir_22 {p : Program} {l : Launch} {e : Env} {s : State} {m : MethodId} {args : Array Value} {below : List Frame} {meth : Method} {c : Code} {G : Gv} (hC : Cx p s m args meth c cX6_heir 4 (some .int) RX6) {fu : Nat} {r : Int32} {M : Mm} : ∀ (n : Nat) {x1 : Int32} {x2 : Int32} {x3 : Int32} {H : Heap} {locs : List Loc} {ls : Array Slot}, F_X6_heir_22 fu M n x1 x2 x3 = some r → St G s H locs M → lv_has ls 4 [(0, .ref (ad G 0)), (1, .int x1), (2, .int x2), (3, .int x3)] → W p l e rm_X6_heir s m args below meth c H locs 0 0 (MQ below (QI G r M) args s 0 0 (zA G)) (F0 m 22 ls []) := by
  intro n
  induction n with
  | zero =>
    intro x1 x2 x3 H locs ls hF hw hl
    cases hF
  | succ n ih =>
    intro x1 x2 x3 H locs ls hF hw hl
    unfold F_X6_heir_22 at hF
    refine lv_iload_n hC.1 hC.2.1 dX6_heir_22 rfl (lv_at hl 3 rfl) ?_
    refine lv_aload_n hC.1 hC.2.1 dX6_heir_23 rfl (lv_at hl 0 rfl) ?_
    refine g6_north hC hw q1_202 dX6_heir_24 ?_
    refine g2_men hC hw (rfl : kd 24 = 11) q1_32 dX6_heir_27 ?_
    refine lv_icmp_ge (tgt := 53) hC.1 hC.2.1 dX6_heir_30 (by decide) (fun b1 => ?_) (fun b1 => ?_)
    · have hF := ifP hF b1
      refine lv_iload_n hC.1 hC.2.1 dX6_heir_53 rfl (lv_at hl 1 rfl) ?_
      refine lv_iconst (v := (1 : Int32)) hC.1 hC.2.1 dX6_heir_54 (by decide) ?_
      refine lv_isub hC.1 hC.2.1 dX6_heir_55 ?_
      refine lv_istore_n (lv' := [(3, .int (x1 - (1 : Int32))), (0, .ref (ad G 0)), (1, .int x1), (2, .int x2)]) hC.1 hC.2.1 dX6_heir_56 rfl hl (by decide) rfl (fun ls hl => ?_)
      exact w_X6_heir_57 hC _ hF hw (lv_sub hl [1, 3, 0] rfl)
    · have hF := ifN hF b1
      refine lv_aload_n hC.1 hC.2.1 dX6_heir_33 rfl (lv_at hl 0 rfl) ?_
      refine g6_north hC hw q1_202 dX6_heir_34 ?_
      refine lv_iload_n hC.1 hC.2.1 dX6_heir_37 rfl (lv_at hl 3 rfl) ?_
      refine lv_iload_n hC.1 hC.2.1 dX6_heir_38 rfl (lv_at hl 2 rfl) ?_
      obtain ⟨r3, h2, hF⟩ := ob1S hF
      refine k_Vi (As := [.int x3, .int x2]) (rest := []) hC hw (c_X2_bulkIn (M := M) (rfl : kd 24 = 11) h2) (RC_N (rfl : kd 24 = 11)) yv_X2_bulkIn q3_56 ⟨rfl, rfl⟩ ⟨Nat.le_of_ble_eq_true rfl, Nat.le_of_ble_eq_true rfl⟩ ⟨Nat.zero_le _, Nat.zero_le _⟩ rfl rfl (Nat.le_of_ble_eq_true rfl) hl dX6_heir_39 (fun H locs hw => ?_)
      refine lv_if_le (tgt := 47) hC.1 hC.2.1 dX6_heir_42 (by decide) (fun b4 => ?_) (fun b4 => ?_)
      · have hF := ifP hF b4
        refine lv_iinc (v := (x3 + (1 : Int32))) (lv' := [(3, .int (x3 + (1 : Int32))), (0, .ref (ad G 0)), (1, .int x1), (2, .int x2)]) hC.1 hC.2.1 dX6_heir_47 hl (k := 3) rfl rfl (by decide) rfl (fun ls hl => ?_)
        refine lv_goto (tgt := 22) hC.1 hC.2.1 dX6_heir_50 (by decide) ?_
        exact ih hF hw (lv_sub hl [1, 2, 3, 0] rfl)
      · have hF := ifN hF b4
        refine lv_iload_n hC.1 hC.2.1 dX6_heir_45 rfl (lv_at hl 3 rfl) ?_
        exact r_iretP hC hw hF dX6_heir_46
def F_X6_heir (fu : Nat) (M : Mm) (x1 : Int32) (x2 : Int32) : Option Int32 :=
  ob1 (F_X2_isMan fu M 24 x1) (fun r2 =>
  if r2 = 0 then
    some (-1 : Int32)
  else
    ob1 (F_X6_isAhead fu M x2) (fun r5 =>
    if r5 = 0 then
      some (-1 : Int32)
    else
      F_X6_heir_22 fu M fu x1 x2 x1))
set_option maxRecDepth 100000 in
set_option maxHeartbeats 4000000 in
theorem c_X6_heir {l : Launch} {G : Gv} {fu : Nat} {M : Mm} {x1 : Int32} {x2 : Int32} {r : Int32} (hF : F_X6_heir fu M x1 x2 = some r) : Met l yX6_heir (.code yX6_heir cX6_heir 4 (some .int) :: zU) rm_X6_heir (va_Pc [.ref (ad G 0), .int x1, .int x2] (Wd G M)) (QI G r M) 0 0 (zA G) := by
  refine zMet (by decide) rfl (Nat.le_of_ble_eq_true rfl) ?_
  intro p e s m below meth c hC hw ls hl
  have hl : lv_has ls 4 [(0, .ref (ad G 0)), (1, .int x1), (2, .int x2)] := hl
  unfold F_X6_heir at hF
  refine lv_aload_n hC.1 hC.2.1 dX6_heir_0 rfl (lv_at hl 0 rfl) ?_
  refine g6_north hC hw q1_202 dX6_heir_1 ?_
  refine lv_iload_n hC.1 hC.2.1 dX6_heir_4 rfl (lv_at hl 1 rfl) ?_
  obtain ⟨r2, h1, hF⟩ := ob1S hF
  refine k_Vi (As := [.int x1]) (rest := []) hC hw (c_X2_isMan (M := M) (rfl : kd 24 = 11) h1) (RC_N (rfl : kd 24 = 11)) yv_X2_isMan q2_147 ⟨rfl, rfl⟩ ⟨Nat.le_of_ble_eq_true rfl, Nat.le_of_ble_eq_true rfl⟩ ⟨Nat.zero_le _, Nat.zero_le _⟩ rfl rfl (Nat.le_of_ble_eq_true rfl) hl dX6_heir_5 (fun H locs hw => ?_)
  refine lv_if_eq (tgt := 18) hC.1 hC.2.1 dX6_heir_8 (by decide) (fun b3 => ?_) (fun b3 => ?_)
  · have hF := ifP hF b3
    refine lv_iconst (v := (-1 : Int32)) hC.1 hC.2.1 dX6_heir_18 (by decide) ?_
    exact r_iretP hC hw hF dX6_heir_19
  · have hF := ifN hF b3
    refine lv_iload_n hC.1 hC.2.1 dX6_heir_11 rfl (lv_at hl 2 rfl) ?_
    obtain ⟨r5, h4, hF⟩ := ob1S hF
    refine k_Si (As := [.int x2]) (rest := []) hC hw (c_X6_isAhead (M := M) h4) ys_X6_isAhead q3_53 ⟨rfl, rfl⟩ ⟨Nat.le_of_ble_eq_true rfl, Nat.le_of_ble_eq_true rfl⟩ ⟨Nat.zero_le _, Nat.zero_le _⟩ rfl rfl (Nat.le_of_ble_eq_true rfl) hl dX6_heir_12 (fun H locs hw => ?_)
    refine lv_if_ne (tgt := 20) hC.1 hC.2.1 dX6_heir_15 (by decide) (fun b6 => ?_) (fun b6 => ?_)
    · have hF := ifN hF b6
      refine lv_iload_n hC.1 hC.2.1 dX6_heir_20 rfl (lv_at hl 1 rfl) ?_
      refine lv_istore_n (lv' := [(3, .int x1), (0, .ref (ad G 0)), (1, .int x1), (2, .int x2)]) hC.1 hC.2.1 dX6_heir_21 rfl hl (by decide) rfl (fun ls hl => ?_)
      exact w_X6_heir_22 hC _ hF hw (lv_sub hl [1, 2, 3, 0] rfl)
    · have hF := ifP hF b6
      refine lv_iconst (v := (-1 : Int32)) hC.1 hC.2.1 dX6_heir_18 (by decide) ?_
      exact r_iretP hC hw hF dX6_heir_19
abbrev rm_X6_guard : Room := { frames := 5, cells := 0, slots := 0, locals := 125 }
theorem yv_X6_guard : YV yX6_guard cX6_guard 9 (some .int) 3 RX6 := ⟨⟨q3_111, q3_112, q1_1, q3_113⟩, by decide +kernel⟩
theorem dX6_guard_0 : decode cX6_guard 0 = .ok (.aload_n 0, 1) := by decide +kernel
theorem dX6_guard_1 : decode cX6_guard 1 = .ok (.iload_n 3, 1) := by decide +kernel
theorem dX6_guard_2 : decode cX6_guard 2 = .ok (.invokevirtual 78, 3) := by decide +kernel
theorem dX6_guard_5 : decode cX6_guard 5 = .ok (.astore 4, 2) := by decide +kernel
theorem dX6_guard_7 : decode cX6_guard 7 = .ok (.aload 4, 2) := by decide +kernel
theorem dX6_guard_9 : decode cX6_guard 9 = .ok (.ifnull 21, 3) := by decide +kernel
theorem dX6_guard_12 : decode cX6_guard 12 = .ok (.aload_n 0, 1) := by decide +kernel
theorem dX6_guard_13 : decode cX6_guard 13 = .ok (.getfield 24, 3) := by decide +kernel
theorem dX6_guard_16 : decode cX6_guard 16 = .ok (.iload_n 1, 1) := by decide +kernel
theorem dX6_guard_17 : decode cX6_guard 17 = .ok (.invokevirtual 249, 3) := by decide +kernel
theorem dX6_guard_20 : decode cX6_guard 20 = .ok (.ifCond .eq 10, 3) := by decide +kernel
theorem dX6_guard_23 : decode cX6_guard 23 = .ok (.iload_n 2, 1) := by decide +kernel
theorem dX6_guard_24 : decode cX6_guard 24 = .ok (.invokestatic 230, 3) := by decide +kernel
theorem dX6_guard_27 : decode cX6_guard 27 = .ok (.ifCond .ne 5, 3) := by decide +kernel
theorem dX6_guard_30 : decode cX6_guard 30 = .ok (.iconst (-1), 1) := by decide +kernel
theorem dX6_guard_31 : decode cX6_guard 31 = .ok (.ireturn, 1) := by decide +kernel
theorem dX6_guard_32 : decode cX6_guard 32 = .ok (.aload_n 0, 1) := by decide +kernel
theorem dX6_guard_33 : decode cX6_guard 33 = .ok (.getfield 24, 3) := by decide +kernel
theorem dX6_guard_36 : decode cX6_guard 36 = .ok (.getfield 152, 3) := by decide +kernel
theorem dX6_guard_39 : decode cX6_guard 39 = .ok (.ifCond .ne 6, 3) := by decide +kernel
theorem dX6_guard_42 : decode cX6_guard 42 = .ok (.bipush (-4), 2) := by decide +kernel
theorem dX6_guard_44 : decode cX6_guard 44 = .ok (.ireturn, 1) := by decide +kernel
theorem dX6_guard_45 : decode cX6_guard 45 = .ok (.iconst 0, 1) := by decide +kernel
theorem dX6_guard_46 : decode cX6_guard 46 = .ok (.istore 5, 2) := by decide +kernel
theorem dX6_guard_48 : decode cX6_guard 48 = .ok (.iconst 0, 1) := by decide +kernel
theorem dX6_guard_49 : decode cX6_guard 49 = .ok (.istore 6, 2) := by decide +kernel
theorem dX6_guard_51 : decode cX6_guard 51 = .ok (.iload 6, 2) := by decide +kernel
theorem dX6_guard_53 : decode cX6_guard 53 = .ok (.aload_n 0, 1) := by decide +kernel
theorem dX6_guard_54 : decode cX6_guard 54 = .ok (.getfield 24, 3) := by decide +kernel
theorem dX6_guard_57 : decode cX6_guard 57 = .ok (.getfield 152, 3) := by decide +kernel
theorem dX6_guard_60 : decode cX6_guard 60 = .ok (.if_icmp .ge 80, 3) := by decide +kernel
theorem dX6_guard_63 : decode cX6_guard 63 = .ok (.aload_n 0, 1) := by decide +kernel
theorem dX6_guard_64 : decode cX6_guard 64 = .ok (.getfield 24, 3) := by decide +kernel
theorem dX6_guard_67 : decode cX6_guard 67 = .ok (.getfield 214, 3) := by decide +kernel
theorem dX6_guard_70 : decode cX6_guard 70 = .ok (.iload 6, 2) := by decide +kernel
theorem dX6_guard_72 : decode cX6_guard 72 = .ok (.invokestatic 101, 3) := by decide +kernel
theorem dX6_guard_75 : decode cX6_guard 75 = .ok (.istore 7, 2) := by decide +kernel
theorem dX6_guard_77 : decode cX6_guard 77 = .ok (.iload_n 1, 1) := by decide +kernel
theorem dX6_guard_78 : decode cX6_guard 78 = .ok (.iload 6, 2) := by decide +kernel
theorem dX6_guard_80 : decode cX6_guard 80 = .ok (.invokestatic 252, 3) := by decide +kernel
theorem dX6_guard_83 : decode cX6_guard 83 = .ok (.ifCond .eq 16, 3) := by decide +kernel
theorem dX6_guard_86 : decode cX6_guard 86 = .ok (.aload_n 0, 1) := by decide +kernel
theorem dX6_guard_87 : decode cX6_guard 87 = .ok (.getfield 24, 3) := by decide +kernel
theorem dX6_guard_90 : decode cX6_guard 90 = .ok (.iload 6, 2) := by decide +kernel
theorem dX6_guard_92 : decode cX6_guard 92 = .ok (.iload_n 2, 1) := by decide +kernel
theorem dX6_guard_93 : decode cX6_guard 93 = .ok (.invokevirtual 255, 3) := by decide +kernel
theorem dX6_guard_96 : decode cX6_guard 96 = .ok (.goto 5, 3) := by decide +kernel
theorem dX6_guard_99 : decode cX6_guard 99 = .ok (.iload 7, 2) := by decide +kernel
theorem dX6_guard_101 : decode cX6_guard 101 = .ok (.istore 8, 2) := by decide +kernel
theorem dX6_guard_103 : decode cX6_guard 103 = .ok (.iload 8, 2) := by decide +kernel
theorem dX6_guard_105 : decode cX6_guard 105 = .ok (.bipush (-9), 2) := by decide +kernel
theorem dX6_guard_107 : decode cX6_guard 107 = .ok (.if_icmp .ne 6, 3) := by decide +kernel
theorem dX6_guard_110 : decode cX6_guard 110 = .ok (.bipush (-9), 2) := by decide +kernel
theorem dX6_guard_112 : decode cX6_guard 112 = .ok (.ireturn, 1) := by decide +kernel
theorem dX6_guard_113 : decode cX6_guard 113 = .ok (.iload 5, 2) := by decide +kernel
theorem dX6_guard_115 : decode cX6_guard 115 = .ok (.iload 8, 2) := by decide +kernel
theorem dX6_guard_117 : decode cX6_guard 117 = .ok (.iload 7, 2) := by decide +kernel
theorem dX6_guard_119 : decode cX6_guard 119 = .ok (.isub, 1) := by decide +kernel
theorem dX6_guard_120 : decode cX6_guard 120 = .ok (.iadd, 1) := by decide +kernel
theorem dX6_guard_121 : decode cX6_guard 121 = .ok (.istore 5, 2) := by decide +kernel
theorem dX6_guard_123 : decode cX6_guard 123 = .ok (.aload_n 0, 1) := by decide +kernel
theorem dX6_guard_124 : decode cX6_guard 124 = .ok (.getfield 64, 3) := by decide +kernel
theorem dX6_guard_127 : decode cX6_guard 127 = .ok (.iload 6, 2) := by decide +kernel
theorem dX6_guard_129 : decode cX6_guard 129 = .ok (.iload 8, 2) := by decide +kernel
theorem dX6_guard_131 : decode cX6_guard 131 = .ok (.invokestatic 105, 3) := by decide +kernel
theorem dX6_guard_134 : decode cX6_guard 134 = .ok (.iinc 6 1, 3) := by decide +kernel
theorem dX6_guard_137 : decode cX6_guard 137 = .ok (.goto (-86), 3) := by decide +kernel
theorem dX6_guard_140 : decode cX6_guard 140 = .ok (.aload 4, 2) := by decide +kernel
theorem dX6_guard_142 : decode cX6_guard 142 = .ok (.aload_n 0, 1) := by decide +kernel
theorem dX6_guard_143 : decode cX6_guard 143 = .ok (.getfield 64, 3) := by decide +kernel
theorem dX6_guard_146 : decode cX6_guard 146 = .ok (.aload_n 0, 1) := by decide +kernel
theorem dX6_guard_147 : decode cX6_guard 147 = .ok (.getfield 24, 3) := by decide +kernel
theorem dX6_guard_150 : decode cX6_guard 150 = .ok (.getfield 152, 3) := by decide +kernel
theorem dX6_guard_153 : decode cX6_guard 153 = .ok (.invokevirtual 258, 3) := by decide +kernel
theorem dX6_guard_156 : decode cX6_guard 156 = .ok (.iload 5, 2) := by decide +kernel
theorem dX6_guard_158 : decode cX6_guard 158 = .ok (.ireturn, 1) := by decide +kernel
def F_X6_guard_101 (fu : Nat) (k51 : Mm → Int32 → Int32 → Nat → Int32 → Int32 → Option (Int32 × Mm)) (M : Mm) (x1 : Int32) (x2 : Int32) (c4 : Nat) (x5 : Int32) (x6 : Int32) (x7 : Int32) (t0 : Int32) : Option (Int32 × Mm) :=
  if t0 = (-9 : Int32) then
    some ((-9 : Int32), M)
  else
    ob1 (F_X6_write fu M 82 x6 t0) (fun M3 =>
    k51 M3 x1 x2 c4 (x5 + (t0 - x7)) (x6 + (1 : Int32)))
set_option maxRecDepth 100000 in
set_option maxHeartbeats 4000000 in
theorem w_X6_guard_101 {p : Program} {l : Launch} {e : Env} {s : State} {m : MethodId} {args : Array Value} {below : List Frame} {meth : Method} {c : Code} {G : Gv} (hC : Cx p s m args meth c cX6_guard 9 (some .int) RX6) {fu : Nat} {r : Int32} {M' : Mm} {k51 : Mm → Int32 → Int32 → Nat → Int32 → Int32 → Option (Int32 × Mm)} (hk_51 : ∀ {x1 : Int32} {x2 : Int32} {c4 : Nat} {x5 : Int32} {x6 : Int32} {M : Mm} {H : Heap} {locs : List Loc} {ls : Array Slot} (hk4 : kd c4 = 12), k51 M x1 x2 c4 x5 x6 = some (r, M') → St G s H locs M → lv_has ls 9 [(0, .ref (ad G 0)), (1, .int x1), (2, .int x2), (4, .ref (ad G c4)), (5, .int x5), (6, .int x6)] → W p l e rm_X6_guard s m args below meth c H locs 0 0 (MQ below (QI G r M') args s 0 0 (zA G)) (F0 m 51 ls [])) {x1 : Int32} {x2 : Int32} {c4 : Nat} {x5 : Int32} {x6 : Int32} {x7 : Int32} {t0 : Int32} {M : Mm} {H : Heap} {locs : List Loc} {ls : Array Slot} (hk4 : kd c4 = 12) (hF : F_X6_guard_101 fu k51 M x1 x2 c4 x5 x6 x7 t0 = some (r, M')) (hw : St G s H locs M) (hl : lv_has ls 9 [(0, .ref (ad G 0)), (1, .int x1), (2, .int x2), (4, .ref (ad G c4)), (5, .int x5), (6, .int x6), (7, .int x7)]) : W p l e rm_X6_guard s m args below meth c H locs 0 0 (MQ below (QI G r M') args s 0 0 (zA G)) (F0 m 101 ls [.int t0]) := by
  unfold F_X6_guard_101 at hF
  refine lv_istore (lv' := [(8, .int t0), (0, .ref (ad G 0)), (1, .int x1), (2, .int x2), (4, .ref (ad G c4)), (5, .int x5), (6, .int x6), (7, .int x7)]) hC.1 hC.2.1 dX6_guard_101 hl (by decide) rfl (fun ls hl => ?_)
  refine lv_iload hC.1 hC.2.1 dX6_guard_103 (lv_at hl 0 rfl) ?_
  refine lv_bipush (v := (-9 : Int32)) hC.1 hC.2.1 dX6_guard_105 (by decide) ?_
  refine lv_icmp_ne (tgt := 113) hC.1 hC.2.1 dX6_guard_107 (by decide) (fun b1 => ?_) (fun b1 => ?_)
  · have hF := ifN hF b1
    refine lv_iload hC.1 hC.2.1 dX6_guard_113 (lv_at hl 5 rfl) ?_
    refine lv_iload hC.1 hC.2.1 dX6_guard_115 (lv_at hl 0 rfl) ?_
    refine lv_iload hC.1 hC.2.1 dX6_guard_117 (lv_at hl 7 rfl) ?_
    refine lv_isub hC.1 hC.2.1 dX6_guard_119 ?_
    refine lv_iadd hC.1 hC.2.1 dX6_guard_120 ?_
    refine lv_istore (lv' := [(5, .int (x5 + (t0 - x7))), (8, .int t0), (0, .ref (ad G 0)), (1, .int x1), (2, .int x2), (4, .ref (ad G c4)), (6, .int x6), (7, .int x7)]) hC.1 hC.2.1 dX6_guard_121 hl (by decide) rfl (fun ls hl => ?_)
    refine lv_aload_n hC.1 hC.2.1 dX6_guard_123 rfl (lv_at hl 2 rfl) ?_
    refine g6_plan hC hw q1_213 dX6_guard_124 ?_
    refine lv_iload hC.1 hC.2.1 dX6_guard_127 (lv_at hl 6 rfl) ?_
    refine lv_iload hC.1 hC.2.1 dX6_guard_129 (lv_at hl 1 rfl) ?_
    obtain ⟨M3, h2, hF⟩ := ob1S hF
    refine k_Sv (As := [.ref (ad G 82), .int x6, .int t0]) (rest := []) hC hw (c_X6_write (M := M) (rfl : kd 82 = 1) h2) ys_X6_write q2_27 ⟨rfl, rfl⟩ ⟨Nat.le_of_ble_eq_true rfl, Nat.le_of_ble_eq_true rfl⟩ ⟨Nat.zero_le _, Nat.zero_le _⟩ rfl rfl (Nat.le_of_ble_eq_true rfl) hl dX6_guard_131 (fun H locs hw => ?_)
    refine lv_iinc (v := (x6 + (1 : Int32))) (lv' := [(6, .int (x6 + (1 : Int32))), (5, .int (x5 + (t0 - x7))), (8, .int t0), (0, .ref (ad G 0)), (1, .int x1), (2, .int x2), (4, .ref (ad G c4)), (7, .int x7)]) hC.1 hC.2.1 dX6_guard_134 hl (k := 6) rfl rfl (by decide) rfl (fun ls hl => ?_)
    refine lv_goto (tgt := 51) hC.1 hC.2.1 dX6_guard_137 (by decide) ?_
    exact hk_51 hk4 hF hw (lv_sub hl [3, 4, 5, 6, 1, 0] rfl)
  · have hF := ifP hF b1
    refine lv_bipush (v := (-9 : Int32)) hC.1 hC.2.1 dX6_guard_110 (by decide) ?_
    exact r_iretE hC hw hF dX6_guard_112
def F_X6_guard_51 (fu : Nat) : Nat → Mm → Int32 → Int32 → Nat → Int32 → Int32 → Option (Int32 × Mm)
  | 0, _, _, _, _, _, _ => none
  | n + 1, M, x1, x2, c4, x5, x6 =>
    if (M.1 24 0) ≤ x6 then
      ob1 (F_X4_take fu M c4 82 (M.1 24 0)) (fun M3 =>
      some (x5, M3))
    else
      ob1 (F_X6_read fu M 29 x6) (fun r5 =>
      ob1 (F_X6_isIn fu M x1 x6) (fun r7 =>
      if r7 = 0 then
        F_X6_guard_101 fu (F_X6_guard_51 fu n) M x1 x2 c4 x5 x6 r5 r5
      else
        ob1 (F_X2_leastGuard fu M 24 x6 x2) (fun r10 =>
        F_X6_guard_101 fu (F_X6_guard_51 fu n) M x1 x2 c4 x5 x6 r5 r10)))
set_option maxRecDepth 100000 in
set_option maxHeartbeats 4000000 in
theorem w_X6_guard_51 {p : Program} {l : Launch} {e : Env} {s : State} {m : MethodId} {args : Array Value} {below : List Frame} {meth : Method} {c : Code} {G : Gv} (hC : Cx p s m args meth c cX6_guard 9 (some .int) RX6) {fu : Nat} {r : Int32} {M' : Mm} : ∀ (n : Nat) {x1 : Int32} {x2 : Int32} {c4 : Nat} {x5 : Int32} {x6 : Int32} {M : Mm} {H : Heap} {locs : List Loc} {ls : Array Slot} (hk4 : kd c4 = 12), F_X6_guard_51 fu n M x1 x2 c4 x5 x6 = some (r, M') → St G s H locs M → lv_has ls 9 [(0, .ref (ad G 0)), (1, .int x1), (2, .int x2), (4, .ref (ad G c4)), (5, .int x5), (6, .int x6)] → W p l e rm_X6_guard s m args below meth c H locs 0 0 (MQ below (QI G r M') args s 0 0 (zA G)) (F0 m 51 ls []) := by
  intro n
  induction n with
  | zero =>
    intro x1 x2 c4 x5 x6 M H locs ls hk4 hF hw hl
    cases hF
  | succ n ih =>
    intro x1 x2 c4 x5 x6 M H locs ls hk4 hF hw hl
    unfold F_X6_guard_51 at hF
    refine lv_iload hC.1 hC.2.1 dX6_guard_51 (lv_at hl 5 rfl) ?_
    refine lv_aload_n hC.1 hC.2.1 dX6_guard_53 rfl (lv_at hl 0 rfl) ?_
    refine g6_north hC hw q1_202 dX6_guard_54 ?_
    refine g2_men hC hw (rfl : kd 24 = 11) q1_32 dX6_guard_57 ?_
    refine lv_icmp_ge (tgt := 140) hC.1 hC.2.1 dX6_guard_60 (by decide) (fun b1 => ?_) (fun b1 => ?_)
    · have hF := ifP hF b1
      refine lv_aload hC.1 hC.2.1 dX6_guard_140 (lv_at hl 3 rfl) ?_
      refine lv_aload_n hC.1 hC.2.1 dX6_guard_142 rfl (lv_at hl 0 rfl) ?_
      refine g6_plan hC hw q1_213 dX6_guard_143 ?_
      refine lv_aload_n hC.1 hC.2.1 dX6_guard_146 rfl (lv_at hl 0 rfl) ?_
      refine g6_north hC hw q1_202 dX6_guard_147 ?_
      refine g2_men hC hw (rfl : kd 24 = 11) q1_32 dX6_guard_150 ?_
      obtain ⟨M3, h2, hF⟩ := ob1S hF
      refine k_Vv (As := [.ref (ad G 82), .int (M.1 24 0)]) (rest := []) hC hw (c_X4_take (M := M) hk4 (rfl : kd 82 = 1) h2) (RC_R hk4) yv_X4_take q3_123 ⟨rfl, rfl⟩ ⟨Nat.le_of_ble_eq_true rfl, Nat.le_of_ble_eq_true rfl⟩ ⟨Nat.zero_le _, Nat.zero_le _⟩ rfl rfl (Nat.le_of_ble_eq_true rfl) hl dX6_guard_153 (fun H locs hw => ?_)
      refine lv_iload hC.1 hC.2.1 dX6_guard_156 (lv_at hl 4 rfl) ?_
      exact r_iretE hC hw hF dX6_guard_158
    · have hF := ifN hF b1
      refine lv_aload_n hC.1 hC.2.1 dX6_guard_63 rfl (lv_at hl 0 rfl) ?_
      refine g6_north hC hw q1_202 dX6_guard_64 ?_
      refine g2_shadeOf hC hw (rfl : kd 24 = 11) q1_48 dX6_guard_67 ?_
      refine lv_iload hC.1 hC.2.1 dX6_guard_70 (lv_at hl 5 rfl) ?_
      obtain ⟨r5, h4, hF⟩ := ob1S hF
      refine k_Si (As := [.ref (ad G 29), .int x6]) (rest := []) hC hw (c_X6_read (M := M) (rfl : kd 29 = 1) h4) ys_X6_read q2_24 ⟨rfl, rfl⟩ ⟨Nat.le_of_ble_eq_true rfl, Nat.le_of_ble_eq_true rfl⟩ ⟨Nat.zero_le _, Nat.zero_le _⟩ rfl rfl (Nat.le_of_ble_eq_true rfl) hl dX6_guard_72 (fun H locs hw => ?_)
      refine lv_istore (lv' := [(7, .int r5), (0, .ref (ad G 0)), (1, .int x1), (2, .int x2), (4, .ref (ad G c4)), (5, .int x5), (6, .int x6)]) hC.1 hC.2.1 dX6_guard_75 hl (by decide) rfl (fun ls hl => ?_)
      refine lv_iload_n hC.1 hC.2.1 dX6_guard_77 rfl (lv_at hl 2 rfl) ?_
      refine lv_iload hC.1 hC.2.1 dX6_guard_78 (lv_at hl 6 rfl) ?_
      obtain ⟨r7, h6, hF⟩ := ob1S hF
      refine k_Si (As := [.int x1, .int x6]) (rest := []) hC hw (c_X6_isIn (M := M) h6) ys_X6_isIn q3_118 ⟨rfl, rfl⟩ ⟨Nat.le_of_ble_eq_true rfl, Nat.le_of_ble_eq_true rfl⟩ ⟨Nat.zero_le _, Nat.zero_le _⟩ rfl rfl (Nat.le_of_ble_eq_true rfl) hl dX6_guard_80 (fun H locs hw => ?_)
      refine lv_if_eq (tgt := 99) hC.1 hC.2.1 dX6_guard_83 (by decide) (fun b8 => ?_) (fun b8 => ?_)
      · have hF := ifP hF b8
        refine lv_iload hC.1 hC.2.1 dX6_guard_99 (lv_at hl 0 rfl) ?_
        exact w_X6_guard_101 hC (hk_51 := ih) hk4 hF hw (lv_sub hl [1, 2, 3, 4, 5, 6, 0] rfl)
      · have hF := ifN hF b8
        refine lv_aload_n hC.1 hC.2.1 dX6_guard_86 rfl (lv_at hl 1 rfl) ?_
        refine g6_north hC hw q1_202 dX6_guard_87 ?_
        refine lv_iload hC.1 hC.2.1 dX6_guard_90 (lv_at hl 6 rfl) ?_
        refine lv_iload_n hC.1 hC.2.1 dX6_guard_92 rfl (lv_at hl 3 rfl) ?_
        obtain ⟨r10, h9, hF⟩ := ob1S hF
        refine k_Vi (As := [.int x6, .int x2]) (rest := []) hC hw (c_X2_leastGuard (M := M) (rfl : kd 24 = 11) h9) (RC_N (rfl : kd 24 = 11)) yv_X2_leastGuard q3_119 ⟨rfl, rfl⟩ ⟨Nat.le_of_ble_eq_true rfl, Nat.le_of_ble_eq_true rfl⟩ ⟨Nat.zero_le _, Nat.zero_le _⟩ rfl rfl (Nat.le_of_ble_eq_true rfl) hl dX6_guard_93 (fun H locs hw => ?_)
        refine lv_goto (tgt := 101) hC.1 hC.2.1 dX6_guard_96 (by decide) ?_
        exact w_X6_guard_101 hC (hk_51 := ih) hk4 hF hw (lv_sub hl [1, 2, 3, 4, 5, 6, 0] rfl)
def F_X6_guard (fu : Nat) (M : Mm) (x1 : Int32) (x2 : Int32) (x3 : Int32) : Option (Int32 × Mm) :=
  ob1 (F_X6_rowOf fu M x3) (fun r2 =>
  op1 r2 (
    some ((-1 : Int32), M)) (fun c3 =>
    if ¬ kd c3 = 12 then none else (
    ob1 (F_X2_isSet fu M 24 x1) (fun r6 =>
    if r6 = 0 then
      some ((-1 : Int32), M)
    else
      ob1 (F_X6_isAhead fu M x2) (fun r9 =>
      if r9 = 0 then
        some ((-1 : Int32), M)
      else
        if (M.1 24 0) = 0 then
          some ((-4 : Int32), M)
        else
          F_X6_guard_51 fu fu M x1 x2 c3 (0 : Int32) (0 : Int32))))))
set_option maxRecDepth 100000 in
set_option maxHeartbeats 4000000 in
theorem c_X6_guard {l : Launch} {G : Gv} {fu : Nat} {M : Mm} {x1 : Int32} {x2 : Int32} {x3 : Int32} {r : Int32} {M' : Mm} (hF : F_X6_guard fu M x1 x2 x3 = some (r, M')) : Met l yX6_guard (.code yX6_guard cX6_guard 9 (some .int) :: zU) rm_X6_guard (va_Pc [.ref (ad G 0), .int x1, .int x2, .int x3] (Wd G M)) (QI G r M') 0 0 (zA G) := by
  refine zMet (by decide) rfl (Nat.le_of_ble_eq_true rfl) ?_
  intro p e s m below meth c hC hw ls hl
  have hl : lv_has ls 9 [(0, .ref (ad G 0)), (1, .int x1), (2, .int x2), (3, .int x3)] := hl
  unfold F_X6_guard at hF
  refine lv_aload_n hC.1 hC.2.1 dX6_guard_0 rfl (lv_at hl 0 rfl) ?_
  refine lv_iload_n hC.1 hC.2.1 dX6_guard_1 rfl (lv_at hl 3 rfl) ?_
  obtain ⟨r2, h1, hF⟩ := ob1S hF
  refine k_Vq (As := [.int x3]) (rest := []) hC hw (c_X6_rowOf (M := M) h1) RC_S yv_X6_rowOf q2_16 ⟨rfl, rfl⟩ ⟨Nat.le_of_ble_eq_true rfl, Nat.le_of_ble_eq_true rfl⟩ ⟨Nat.zero_le _, Nat.zero_le _⟩ rfl rfl (Nat.le_of_ble_eq_true rfl) hl dX6_guard_2 (fun H locs hw => ?_)
  cases r2 with
  | none =>
    have hF := op1N hF
    refine topN ?_
    refine lv_astoreN (lv' := [(4, .null), (0, .ref (ad G 0)), (1, .int x1), (2, .int x2), (3, .int x3)]) hC.1 hC.2.1 dX6_guard_5 hl (by decide) rfl (fun ls hl => ?_)
    refine lv_aloadN hC.1 hC.2.1 dX6_guard_7 (lv_at hl 0 rfl) ?_
    refine lv_ifnullN (tgt := 30) hC.1 hC.2.1 dX6_guard_9 (by decide) ?_
    refine lv_iconst (v := (-1 : Int32)) hC.1 hC.2.1 dX6_guard_30 (by decide) ?_
    exact r_iretE hC hw hF dX6_guard_31
  | some c3 =>
    obtain ⟨g4, hF⟩ := ifO (op1C hF)
    have g4 := Decidable.not_not.mp g4
    refine topC ?_
    refine lv_astore (lv' := [(4, .ref (ad G c3)), (0, .ref (ad G 0)), (1, .int x1), (2, .int x2), (3, .int x3)]) hC.1 hC.2.1 dX6_guard_5 hl (by decide) rfl (fun ls hl => ?_)
    refine lv_aload hC.1 hC.2.1 dX6_guard_7 (lv_at hl 0 rfl) ?_
    refine lv_ifnull hC.1 hC.2.1 dX6_guard_9 ?_
    refine lv_aload_n hC.1 hC.2.1 dX6_guard_12 rfl (lv_at hl 1 rfl) ?_
    refine g6_north hC hw q1_202 dX6_guard_13 ?_
    refine lv_iload_n hC.1 hC.2.1 dX6_guard_16 rfl (lv_at hl 2 rfl) ?_
    obtain ⟨r6, h5, hF⟩ := ob1S hF
    refine k_Vi (As := [.int x1]) (rest := []) hC hw (c_X2_isSet (M := M) (rfl : kd 24 = 11) h5) (RC_N (rfl : kd 24 = 11)) yv_X2_isSet q3_114 ⟨rfl, rfl⟩ ⟨Nat.le_of_ble_eq_true rfl, Nat.le_of_ble_eq_true rfl⟩ ⟨Nat.zero_le _, Nat.zero_le _⟩ rfl rfl (Nat.le_of_ble_eq_true rfl) hl dX6_guard_17 (fun H locs hw => ?_)
    refine lv_if_eq (tgt := 30) hC.1 hC.2.1 dX6_guard_20 (by decide) (fun b7 => ?_) (fun b7 => ?_)
    · have hF := ifP hF b7
      refine lv_iconst (v := (-1 : Int32)) hC.1 hC.2.1 dX6_guard_30 (by decide) ?_
      exact r_iretE hC hw hF dX6_guard_31
    · have hF := ifN hF b7
      refine lv_iload_n hC.1 hC.2.1 dX6_guard_23 rfl (lv_at hl 3 rfl) ?_
      obtain ⟨r9, h8, hF⟩ := ob1S hF
      refine k_Si (As := [.int x2]) (rest := []) hC hw (c_X6_isAhead (M := M) h8) ys_X6_isAhead q3_53 ⟨rfl, rfl⟩ ⟨Nat.le_of_ble_eq_true rfl, Nat.le_of_ble_eq_true rfl⟩ ⟨Nat.zero_le _, Nat.zero_le _⟩ rfl rfl (Nat.le_of_ble_eq_true rfl) hl dX6_guard_24 (fun H locs hw => ?_)
      refine lv_if_ne (tgt := 32) hC.1 hC.2.1 dX6_guard_27 (by decide) (fun b10 => ?_) (fun b10 => ?_)
      · have hF := ifN hF b10
        refine lv_aload_n hC.1 hC.2.1 dX6_guard_32 rfl (lv_at hl 1 rfl) ?_
        refine g6_north hC hw q1_202 dX6_guard_33 ?_
        refine g2_men hC hw (rfl : kd 24 = 11) q1_32 dX6_guard_36 ?_
        refine lv_if_ne (tgt := 45) hC.1 hC.2.1 dX6_guard_39 (by decide) (fun b11 => ?_) (fun b11 => ?_)
        · have hF := ifN hF b11
          refine lv_iconst (v := (0 : Int32)) hC.1 hC.2.1 dX6_guard_45 (by decide) ?_
          refine lv_istore (lv' := [(5, .int (0 : Int32)), (4, .ref (ad G c3)), (0, .ref (ad G 0)), (1, .int x1), (2, .int x2), (3, .int x3)]) hC.1 hC.2.1 dX6_guard_46 hl (by decide) rfl (fun ls hl => ?_)
          refine lv_iconst (v := (0 : Int32)) hC.1 hC.2.1 dX6_guard_48 (by decide) ?_
          refine lv_istore (lv' := [(6, .int (0 : Int32)), (5, .int (0 : Int32)), (4, .ref (ad G c3)), (0, .ref (ad G 0)), (1, .int x1), (2, .int x2), (3, .int x3)]) hC.1 hC.2.1 dX6_guard_49 hl (by decide) rfl (fun ls hl => ?_)
          exact w_X6_guard_51 hC _ g4 hF hw (lv_sub hl [3, 4, 5, 2, 1, 0] rfl)
        · have hF := ifP hF b11
          refine lv_bipush (v := (-4 : Int32)) hC.1 hC.2.1 dX6_guard_42 (by decide) ?_
          exact r_iretE hC hw hF dX6_guard_44
      · have hF := ifP hF b10
        refine lv_iconst (v := (-1 : Int32)) hC.1 hC.2.1 dX6_guard_30 (by decide) ?_
        exact r_iretE hC hw hF dX6_guard_31
abbrev rm_X6_shadeByVoters : Room := { frames := 1, cells := 0, slots := 0, locals := 21 }
theorem yv_X6_shadeByVoters : YV yX6_shadeByVoters cX6_shadeByVoters 3 (some .int) 2 RX6 := ⟨⟨q3_142, qs_17, q1_1, q3_143⟩, by decide +kernel⟩
theorem dX6_shadeByVoters_0 : decode cX6_shadeByVoters 0 = .ok (.iload_n 1, 1) := by decide +kernel
theorem dX6_shadeByVoters_1 : decode cX6_shadeByVoters 1 = .ok (.iload_n 2, 1) := by decide +kernel
theorem dX6_shadeByVoters_2 : decode cX6_shadeByVoters 2 = .ok (.invokestatic 252, 3) := by decide +kernel
theorem dX6_shadeByVoters_5 : decode cX6_shadeByVoters 5 = .ok (.ifCond .eq 10, 3) := by decide +kernel
theorem dX6_shadeByVoters_8 : decode cX6_shadeByVoters 8 = .ok (.aload_n 0, 1) := by decide +kernel
theorem dX6_shadeByVoters_9 : decode cX6_shadeByVoters 9 = .ok (.getfield 67, 3) := by decide +kernel
theorem dX6_shadeByVoters_12 : decode cX6_shadeByVoters 12 = .ok (.goto 7, 3) := by decide +kernel
theorem dX6_shadeByVoters_15 : decode cX6_shadeByVoters 15 = .ok (.aload_n 0, 1) := by decide +kernel
theorem dX6_shadeByVoters_16 : decode cX6_shadeByVoters 16 = .ok (.getfield 70, 3) := by decide +kernel
theorem dX6_shadeByVoters_19 : decode cX6_shadeByVoters 19 = .ok (.iload_n 2, 1) := by decide +kernel
theorem dX6_shadeByVoters_20 : decode cX6_shadeByVoters 20 = .ok (.invokestatic 101, 3) := by decide +kernel
theorem dX6_shadeByVoters_23 : decode cX6_shadeByVoters 23 = .ok (.ireturn, 1) := by decide +kernel
def F_X6_shadeByVoters (fu : Nat) (M : Mm) (x1 : Int32) (x2 : Int32) : Option Int32 :=
  ob1 (F_X6_isIn fu M x1 x2) (fun r2 =>
  if r2 = 0 then
    ob1 (F_X6_read fu M 84 x2) (fun r5 =>
    some r5)
  else
    ob1 (F_X6_read fu M 83 x2) (fun r7 =>
    some r7))
set_option maxRecDepth 100000 in
set_option maxHeartbeats 4000000 in
theorem c_X6_shadeByVoters {l : Launch} {G : Gv} {fu : Nat} {M : Mm} {x1 : Int32} {x2 : Int32} {r : Int32} (hF : F_X6_shadeByVoters fu M x1 x2 = some r) : Met l yX6_shadeByVoters (.code yX6_shadeByVoters cX6_shadeByVoters 3 (some .int) :: zU) rm_X6_shadeByVoters (va_Pc [.ref (ad G 0), .int x1, .int x2] (Wd G M)) (QI G r M) 0 0 (zA G) := by
  refine zMet (by decide) rfl (Nat.le_of_ble_eq_true rfl) ?_
  intro p e s m below meth c hC hw ls hl
  have hl : lv_has ls 3 [(0, .ref (ad G 0)), (1, .int x1), (2, .int x2)] := hl
  unfold F_X6_shadeByVoters at hF
  refine lv_iload_n hC.1 hC.2.1 dX6_shadeByVoters_0 rfl (lv_at hl 1 rfl) ?_
  refine lv_iload_n hC.1 hC.2.1 dX6_shadeByVoters_1 rfl (lv_at hl 2 rfl) ?_
  obtain ⟨r2, h1, hF⟩ := ob1S hF
  refine k_Si (As := [.int x1, .int x2]) (rest := []) hC hw (c_X6_isIn (M := M) h1) ys_X6_isIn q3_118 ⟨rfl, rfl⟩ ⟨Nat.le_of_ble_eq_true rfl, Nat.le_of_ble_eq_true rfl⟩ ⟨Nat.zero_le _, Nat.zero_le _⟩ rfl rfl (Nat.le_of_ble_eq_true rfl) hl dX6_shadeByVoters_2 (fun H locs hw => ?_)
  refine lv_if_eq (tgt := 15) hC.1 hC.2.1 dX6_shadeByVoters_5 (by decide) (fun b3 => ?_) (fun b3 => ?_)
  · have hF := ifP hF b3
    refine lv_aload_n hC.1 hC.2.1 dX6_shadeByVoters_15 rfl (lv_at hl 0 rfl) ?_
    refine g6_shadesWithout hC hw q1_215 dX6_shadeByVoters_16 ?_
    refine lv_iload_n hC.1 hC.2.1 dX6_shadeByVoters_19 rfl (lv_at hl 2 rfl) ?_
    obtain ⟨r5, h4, hF⟩ := ob1S hF
    refine k_Si (As := [.ref (ad G 84), .int x2]) (rest := []) hC hw (c_X6_read (M := M) (rfl : kd 84 = 1) h4) ys_X6_read q2_24 ⟨rfl, rfl⟩ ⟨Nat.le_of_ble_eq_true rfl, Nat.le_of_ble_eq_true rfl⟩ ⟨Nat.zero_le _, Nat.zero_le _⟩ rfl rfl (Nat.le_of_ble_eq_true rfl) hl dX6_shadeByVoters_20 (fun H locs hw => ?_)
    exact r_iretP hC hw hF dX6_shadeByVoters_23
  · have hF := ifN hF b3
    refine lv_aload_n hC.1 hC.2.1 dX6_shadeByVoters_8 rfl (lv_at hl 0 rfl) ?_
    refine g6_shadesWith hC hw q1_214 dX6_shadeByVoters_9 ?_
    refine lv_goto (tgt := 19) hC.1 hC.2.1 dX6_shadeByVoters_12 (by decide) ?_
    refine lv_iload_n hC.1 hC.2.1 dX6_shadeByVoters_19 rfl (lv_at hl 2 rfl) ?_
    obtain ⟨r7, h6, hF⟩ := ob1S hF
    refine k_Si (As := [.ref (ad G 83), .int x2]) (rest := []) hC hw (c_X6_read (M := M) (rfl : kd 83 = 1) h6) ys_X6_read q2_24 ⟨rfl, rfl⟩ ⟨Nat.le_of_ble_eq_true rfl, Nat.le_of_ble_eq_true rfl⟩ ⟨Nat.zero_le _, Nat.zero_le _⟩ rfl rfl (Nat.le_of_ble_eq_true rfl) hl dX6_shadeByVoters_20 (fun H locs hw => ?_)
    exact r_iretP hC hw hF dX6_shadeByVoters_23
abbrev rm_X6_costOfVoters : Room := { frames := 2, cells := 0, slots := 0, locals := 43 }
theorem yv_X6_costOfVoters : YV yX6_costOfVoters cX6_costOfVoters 5 (some .int) 1 RX6 := ⟨⟨q3_138, qs_16, q1_1, q3_139⟩, by decide +kernel⟩
theorem dX6_costOfVoters_0 : decode cX6_costOfVoters 0 = .ok (.iconst 0, 1) := by decide +kernel
theorem dX6_costOfVoters_1 : decode cX6_costOfVoters 1 = .ok (.istore_n 2, 1) := by decide +kernel
theorem dX6_costOfVoters_2 : decode cX6_costOfVoters 2 = .ok (.iconst 0, 1) := by decide +kernel
theorem dX6_costOfVoters_3 : decode cX6_costOfVoters 3 = .ok (.istore_n 3, 1) := by decide +kernel
theorem dX6_costOfVoters_4 : decode cX6_costOfVoters 4 = .ok (.iload_n 3, 1) := by decide +kernel
theorem dX6_costOfVoters_5 : decode cX6_costOfVoters 5 = .ok (.aload_n 0, 1) := by decide +kernel
theorem dX6_costOfVoters_6 : decode cX6_costOfVoters 6 = .ok (.getfield 24, 3) := by decide +kernel
theorem dX6_costOfVoters_9 : decode cX6_costOfVoters 9 = .ok (.getfield 152, 3) := by decide +kernel
theorem dX6_costOfVoters_12 : decode cX6_costOfVoters 12 = .ok (.if_icmp .ge 47, 3) := by decide +kernel
theorem dX6_costOfVoters_15 : decode cX6_costOfVoters 15 = .ok (.aload_n 0, 1) := by decide +kernel
theorem dX6_costOfVoters_16 : decode cX6_costOfVoters 16 = .ok (.iload_n 1, 1) := by decide +kernel
theorem dX6_costOfVoters_17 : decode cX6_costOfVoters 17 = .ok (.iload_n 3, 1) := by decide +kernel
theorem dX6_costOfVoters_18 : decode cX6_costOfVoters 18 = .ok (.invokevirtual 269, 3) := by decide +kernel
theorem dX6_costOfVoters_21 : decode cX6_costOfVoters 21 = .ok (.istore 4, 2) := by decide +kernel
theorem dX6_costOfVoters_23 : decode cX6_costOfVoters 23 = .ok (.iload 4, 2) := by decide +kernel
theorem dX6_costOfVoters_25 : decode cX6_costOfVoters 25 = .ok (.bipush (-9), 2) := by decide +kernel
theorem dX6_costOfVoters_27 : decode cX6_costOfVoters 27 = .ok (.if_icmp .ne 6, 3) := by decide +kernel
theorem dX6_costOfVoters_30 : decode cX6_costOfVoters 30 = .ok (.bipush (-9), 2) := by decide +kernel
theorem dX6_costOfVoters_32 : decode cX6_costOfVoters 32 = .ok (.ireturn, 1) := by decide +kernel
theorem dX6_costOfVoters_33 : decode cX6_costOfVoters 33 = .ok (.iload_n 2, 1) := by decide +kernel
theorem dX6_costOfVoters_34 : decode cX6_costOfVoters 34 = .ok (.iload 4, 2) := by decide +kernel
theorem dX6_costOfVoters_36 : decode cX6_costOfVoters 36 = .ok (.aload_n 0, 1) := by decide +kernel
theorem dX6_costOfVoters_37 : decode cX6_costOfVoters 37 = .ok (.getfield 24, 3) := by decide +kernel
theorem dX6_costOfVoters_40 : decode cX6_costOfVoters 40 = .ok (.getfield 214, 3) := by decide +kernel
theorem dX6_costOfVoters_43 : decode cX6_costOfVoters 43 = .ok (.iload_n 3, 1) := by decide +kernel
theorem dX6_costOfVoters_44 : decode cX6_costOfVoters 44 = .ok (.invokestatic 101, 3) := by decide +kernel
theorem dX6_costOfVoters_47 : decode cX6_costOfVoters 47 = .ok (.isub, 1) := by decide +kernel
theorem dX6_costOfVoters_48 : decode cX6_costOfVoters 48 = .ok (.invokestatic 378, 3) := by decide +kernel
theorem dX6_costOfVoters_51 : decode cX6_costOfVoters 51 = .ok (.iadd, 1) := by decide +kernel
theorem dX6_costOfVoters_52 : decode cX6_costOfVoters 52 = .ok (.istore_n 2, 1) := by decide +kernel
theorem dX6_costOfVoters_53 : decode cX6_costOfVoters 53 = .ok (.iinc 3 1, 3) := by decide +kernel
theorem dX6_costOfVoters_56 : decode cX6_costOfVoters 56 = .ok (.goto (-52), 3) := by decide +kernel
theorem dX6_costOfVoters_59 : decode cX6_costOfVoters 59 = .ok (.iload_n 2, 1) := by decide +kernel
theorem dX6_costOfVoters_60 : decode cX6_costOfVoters 60 = .ok (.ireturn, 1) := by decide +kernel
def F_X6_costOfVoters_4 (fu : Nat) (M : Mm) : Nat → Int32 → Int32 → Int32 → Option Int32
  | 0, _, _, _ => none
  | n + 1, x1, x2, x3 =>
    if (M.1 24 0) ≤ x3 then
      some x2
    else
      ob1 (F_X6_shadeByVoters fu M x1 x3) (fun r3 =>
      if r3 = (-9 : Int32) then
        some (-9 : Int32)
      else
        ob1 (F_X6_read fu M 29 x3) (fun r6 =>
        F_X6_costOfVoters_4 fu M n x1 (x2 + (zab (r3 - r6))) (x3 + (1 : Int32))))
set_option maxRecDepth 100000 in
set_option maxHeartbeats 4000000 in
theorem w_X6_costOfVoters_4 {p : Program} {l : Launch} {e : Env} {s : State} {m : MethodId} {args : Array Value} {below : List Frame} {meth : Method} {c : Code} {G : Gv} (hC : Cx p s m args meth c cX6_costOfVoters 5 (some .int) RX6) {fu : Nat} {r : Int32} {M : Mm} : ∀ (n : Nat) {x1 : Int32} {x2 : Int32} {x3 : Int32} {H : Heap} {locs : List Loc} {ls : Array Slot}, F_X6_costOfVoters_4 fu M n x1 x2 x3 = some r → St G s H locs M → lv_has ls 5 [(0, .ref (ad G 0)), (1, .int x1), (2, .int x2), (3, .int x3)] → W p l e rm_X6_costOfVoters s m args below meth c H locs 0 0 (MQ below (QI G r M) args s 0 0 (zA G)) (F0 m 4 ls []) := by
  intro n
  induction n with
  | zero =>
    intro x1 x2 x3 H locs ls hF hw hl
    cases hF
  | succ n ih =>
    intro x1 x2 x3 H locs ls hF hw hl
    unfold F_X6_costOfVoters_4 at hF
    refine lv_iload_n hC.1 hC.2.1 dX6_costOfVoters_4 rfl (lv_at hl 3 rfl) ?_
    refine lv_aload_n hC.1 hC.2.1 dX6_costOfVoters_5 rfl (lv_at hl 0 rfl) ?_
    refine g6_north hC hw q1_202 dX6_costOfVoters_6 ?_
    refine g2_men hC hw (rfl : kd 24 = 11) q1_32 dX6_costOfVoters_9 ?_
    refine lv_icmp_ge (tgt := 59) hC.1 hC.2.1 dX6_costOfVoters_12 (by decide) (fun b1 => ?_) (fun b1 => ?_)
    · have hF := ifP hF b1
      refine lv_iload_n hC.1 hC.2.1 dX6_costOfVoters_59 rfl (lv_at hl 2 rfl) ?_
      exact r_iretP hC hw hF dX6_costOfVoters_60
    · have hF := ifN hF b1
      refine lv_aload_n hC.1 hC.2.1 dX6_costOfVoters_15 rfl (lv_at hl 0 rfl) ?_
      refine lv_iload_n hC.1 hC.2.1 dX6_costOfVoters_16 rfl (lv_at hl 1 rfl) ?_
      refine lv_iload_n hC.1 hC.2.1 dX6_costOfVoters_17 rfl (lv_at hl 3 rfl) ?_
      obtain ⟨r3, h2, hF⟩ := ob1S hF
      refine k_Vi (As := [.int x1, .int x3]) (rest := []) hC hw (c_X6_shadeByVoters (M := M) h2) RC_S yv_X6_shadeByVoters q3_140 ⟨rfl, rfl⟩ ⟨Nat.le_of_ble_eq_true rfl, Nat.le_of_ble_eq_true rfl⟩ ⟨Nat.zero_le _, Nat.zero_le _⟩ rfl rfl (Nat.le_of_ble_eq_true rfl) hl dX6_costOfVoters_18 (fun H locs hw => ?_)
      refine lv_istore (lv' := [(4, .int r3), (0, .ref (ad G 0)), (1, .int x1), (2, .int x2), (3, .int x3)]) hC.1 hC.2.1 dX6_costOfVoters_21 hl (by decide) rfl (fun ls hl => ?_)
      refine lv_iload hC.1 hC.2.1 dX6_costOfVoters_23 (lv_at hl 0 rfl) ?_
      refine lv_bipush (v := (-9 : Int32)) hC.1 hC.2.1 dX6_costOfVoters_25 (by decide) ?_
      refine lv_icmp_ne (tgt := 33) hC.1 hC.2.1 dX6_costOfVoters_27 (by decide) (fun b4 => ?_) (fun b4 => ?_)
      · have hF := ifN hF b4
        refine lv_iload_n hC.1 hC.2.1 dX6_costOfVoters_33 rfl (lv_at hl 3 rfl) ?_
        refine lv_iload hC.1 hC.2.1 dX6_costOfVoters_34 (lv_at hl 0 rfl) ?_
        refine lv_aload_n hC.1 hC.2.1 dX6_costOfVoters_36 rfl (lv_at hl 1 rfl) ?_
        refine g6_north hC hw q1_202 dX6_costOfVoters_37 ?_
        refine g2_shadeOf hC hw (rfl : kd 24 = 11) q1_48 dX6_costOfVoters_40 ?_
        refine lv_iload_n hC.1 hC.2.1 dX6_costOfVoters_43 rfl (lv_at hl 4 rfl) ?_
        obtain ⟨r6, h5, hF⟩ := ob1S hF
        refine k_Si (As := [.ref (ad G 29), .int x3]) (rest := [.int r3, .int x2]) hC hw (c_X6_read (M := M) (rfl : kd 29 = 1) h5) ys_X6_read q2_24 ⟨rfl, rfl⟩ ⟨Nat.le_of_ble_eq_true rfl, Nat.le_of_ble_eq_true rfl⟩ ⟨Nat.zero_le _, Nat.zero_le _⟩ rfl rfl (Nat.le_of_ble_eq_true rfl) hl dX6_costOfVoters_44 (fun H locs hw => ?_)
        refine lv_isub hC.1 hC.2.1 dX6_costOfVoters_47 ?_
        refine r_abs ⟨hC.1, hC.2.1, by rw [hC.2.2.1]; exact hl.1.symm, hC.2.2.2.1, hC.2.2.2.2.1⟩ q3_144 ⟨Nat.le_of_ble_eq_true rfl, Nat.le_of_ble_eq_true rfl⟩ ⟨Nat.zero_le _, Nat.zero_le _⟩ dX6_costOfVoters_48 ?_
        refine lv_iadd hC.1 hC.2.1 dX6_costOfVoters_51 ?_
        refine lv_istore_n (lv' := [(2, .int (x2 + (zab (r3 - r6)))), (4, .int r3), (0, .ref (ad G 0)), (1, .int x1), (3, .int x3)]) hC.1 hC.2.1 dX6_costOfVoters_52 rfl hl (by decide) rfl (fun ls hl => ?_)
        refine lv_iinc (v := (x3 + (1 : Int32))) (lv' := [(3, .int (x3 + (1 : Int32))), (2, .int (x2 + (zab (r3 - r6)))), (4, .int r3), (0, .ref (ad G 0)), (1, .int x1)]) hC.1 hC.2.1 dX6_costOfVoters_53 hl (k := 4) rfl rfl (by decide) rfl (fun ls hl => ?_)
        refine lv_goto (tgt := 4) hC.1 hC.2.1 dX6_costOfVoters_56 (by decide) ?_
        exact ih hF hw (lv_sub hl [3, 4, 1, 0] rfl)
      · have hF := ifP hF b4
        refine lv_bipush (v := (-9 : Int32)) hC.1 hC.2.1 dX6_costOfVoters_30 (by decide) ?_
        exact r_iretP hC hw hF dX6_costOfVoters_32
def F_X6_costOfVoters (fu : Nat) (M : Mm) (x1 : Int32) : Option Int32 :=
  F_X6_costOfVoters_4 fu M fu x1 (0 : Int32) (0 : Int32)
set_option maxRecDepth 100000 in
set_option maxHeartbeats 4000000 in
theorem c_X6_costOfVoters {l : Launch} {G : Gv} {fu : Nat} {M : Mm} {x1 : Int32} {r : Int32} (hF : F_X6_costOfVoters fu M x1 = some r) : Met l yX6_costOfVoters (.code yX6_costOfVoters cX6_costOfVoters 5 (some .int) :: zU) rm_X6_costOfVoters (va_Pc [.ref (ad G 0), .int x1] (Wd G M)) (QI G r M) 0 0 (zA G) := by
  refine zMet (by decide) rfl (Nat.le_of_ble_eq_true rfl) ?_
  intro p e s m below meth c hC hw ls hl
  have hl : lv_has ls 5 [(0, .ref (ad G 0)), (1, .int x1)] := hl
  unfold F_X6_costOfVoters at hF
  refine lv_iconst (v := (0 : Int32)) hC.1 hC.2.1 dX6_costOfVoters_0 (by decide) ?_
  refine lv_istore_n (lv' := [(2, .int (0 : Int32)), (0, .ref (ad G 0)), (1, .int x1)]) hC.1 hC.2.1 dX6_costOfVoters_1 rfl hl (by decide) rfl (fun ls hl => ?_)
  refine lv_iconst (v := (0 : Int32)) hC.1 hC.2.1 dX6_costOfVoters_2 (by decide) ?_
  refine lv_istore_n (lv' := [(3, .int (0 : Int32)), (2, .int (0 : Int32)), (0, .ref (ad G 0)), (1, .int x1)]) hC.1 hC.2.1 dX6_costOfVoters_3 rfl hl (by decide) rfl (fun ls hl => ?_)
  exact w_X6_costOfVoters_4 hC _ hF hw (lv_sub hl [2, 3, 1, 0] rfl)
