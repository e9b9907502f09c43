abbrev rm_X7_carry : Room := { frames := 3, cells := 0, slots := 0, locals := 71 }
theorem yv_X7_carry : YV yX7_carry cX7_carry 4 (some .int) 2 RX7 := ⟨⟨q6_29, q6_30, q1_8, q6_31⟩, by decide +kernel⟩
theorem dX7_carry_0 : decode cX7_carry 0 = .ok (.aload_n 0, 1) := by decide +kernel
theorem dX7_carry_1 : decode cX7_carry 1 = .ok (.iload_n 1, 1) := by decide +kernel
theorem dX7_carry_2 : decode cX7_carry 2 = .ok (.invokevirtual 197, 3) := by decide +kernel
theorem dX7_carry_5 : decode cX7_carry 5 = .ok (.ifCond .eq 10, 3) := by decide +kernel
theorem dX7_carry_8 : decode cX7_carry 8 = .ok (.iload_n 2, 1) := by decide +kernel
theorem dX7_carry_9 : decode cX7_carry 9 = .ok (.invokestatic 241, 3) := by decide +kernel
theorem dX7_carry_12 : decode cX7_carry 12 = .ok (.ifCond .ne 5, 3) := by decide +kernel
theorem dX7_carry_15 : decode cX7_carry 15 = .ok (.iconst (-1), 1) := by decide +kernel
theorem dX7_carry_16 : decode cX7_carry 16 = .ok (.ireturn, 1) := by decide +kernel
theorem dX7_carry_17 : decode cX7_carry 17 = .ok (.iconst 0, 1) := by decide +kernel
theorem dX7_carry_18 : decode cX7_carry 18 = .ok (.istore_n 3, 1) := by decide +kernel
theorem dX7_carry_19 : decode cX7_carry 19 = .ok (.aload_n 0, 1) := by decide +kernel
theorem dX7_carry_20 : decode cX7_carry 20 = .ok (.getfield 31, 3) := by decide +kernel
theorem dX7_carry_23 : decode cX7_carry 23 = .ok (.iload_n 1, 1) := by decide +kernel
theorem dX7_carry_24 : decode cX7_carry 24 = .ok (.iaload, 1) := by decide +kernel
theorem dX7_carry_25 : decode cX7_carry 25 = .ok (.ifCond .le 57, 3) := by decide +kernel
theorem dX7_carry_28 : decode cX7_carry 28 = .ok (.aload_n 0, 1) := by decide +kernel
theorem dX7_carry_29 : decode cX7_carry 29 = .ok (.getfield 31, 3) := by decide +kernel
theorem dX7_carry_32 : decode cX7_carry 32 = .ok (.iload_n 1, 1) := by decide +kernel
theorem dX7_carry_33 : decode cX7_carry 33 = .ok (.iaload, 1) := by decide +kernel
theorem dX7_carry_34 : decode cX7_carry 34 = .ok (.iload_n 3, 1) := by decide +kernel
theorem dX7_carry_35 : decode cX7_carry 35 = .ok (.iadd, 1) := by decide +kernel
theorem dX7_carry_36 : decode cX7_carry 36 = .ok (.bipush 99, 2) := by decide +kernel
theorem dX7_carry_38 : decode cX7_carry 38 = .ok (.if_icmp .gt 44, 3) := by decide +kernel
theorem dX7_carry_41 : decode cX7_carry 41 = .ok (.aload_n 0, 1) := by decide +kernel
theorem dX7_carry_42 : decode cX7_carry 42 = .ok (.iload_n 1, 1) := by decide +kernel
theorem dX7_carry_43 : decode cX7_carry 43 = .ok (.aload_n 0, 1) := by decide +kernel
theorem dX7_carry_44 : decode cX7_carry 44 = .ok (.aload_n 0, 1) := by decide +kernel
theorem dX7_carry_45 : decode cX7_carry 45 = .ok (.getfield 22, 3) := by decide +kernel
theorem dX7_carry_48 : decode cX7_carry 48 = .ok (.iload_n 1, 1) := by decide +kernel
theorem dX7_carry_49 : decode cX7_carry 49 = .ok (.iaload, 1) := by decide +kernel
theorem dX7_carry_50 : decode cX7_carry 50 = .ok (.aload_n 0, 1) := by decide +kernel
theorem dX7_carry_51 : decode cX7_carry 51 = .ok (.getfield 31, 3) := by decide +kernel
theorem dX7_carry_54 : decode cX7_carry 54 = .ok (.iload_n 1, 1) := by decide +kernel
theorem dX7_carry_55 : decode cX7_carry 55 = .ok (.iaload, 1) := by decide +kernel
theorem dX7_carry_56 : decode cX7_carry 56 = .ok (.iload_n 3, 1) := by decide +kernel
theorem dX7_carry_57 : decode cX7_carry 57 = .ok (.iadd, 1) := by decide +kernel
theorem dX7_carry_58 : decode cX7_carry 58 = .ok (.aload_n 0, 1) := by decide +kernel
theorem dX7_carry_59 : decode cX7_carry 59 = .ok (.getfield 34, 3) := by decide +kernel
theorem dX7_carry_62 : decode cX7_carry 62 = .ok (.iload_n 1, 1) := by decide +kernel
theorem dX7_carry_63 : decode cX7_carry 63 = .ok (.iaload, 1) := by decide +kernel
theorem dX7_carry_64 : decode cX7_carry 64 = .ok (.iload_n 2, 1) := by decide +kernel
theorem dX7_carry_65 : decode cX7_carry 65 = .ok (.invokevirtual 180, 3) := by decide +kernel
theorem dX7_carry_68 : decode cX7_carry 68 = .ok (.invokevirtual 187, 3) := by decide +kernel
theorem dX7_carry_71 : decode cX7_carry 71 = .ok (.ifCond .eq 5, 3) := by decide +kernel
theorem dX7_carry_74 : decode cX7_carry 74 = .ok (.iload_n 3, 1) := by decide +kernel
theorem dX7_carry_75 : decode cX7_carry 75 = .ok (.ireturn, 1) := by decide +kernel
theorem dX7_carry_76 : decode cX7_carry 76 = .ok (.iinc 3 1, 3) := by decide +kernel
theorem dX7_carry_79 : decode cX7_carry 79 = .ok (.goto (-60), 3) := by decide +kernel
theorem dX7_carry_82 : decode cX7_carry 82 = .ok (.bipush (-9), 2) := by decide +kernel
theorem dX7_carry_84 : decode cX7_carry 84 = .ok (.ireturn, 1) := by decide +kernel
def F_X7_carry_19 (fu : Nat) (M : Mm) : Nat → Int32 → Int32 → Int32 → Option Int32
  | 0, _, _, _ => none
  | n + 1, x1, x2, x3 =>
    if x1 < 0 ∨ ln 94 ≤ x1.toNatClampNeg then none else (
    if (M.1 94 x1.toNatClampNeg) ≤ 0 then
      some (-9 : Int32)
    else
      if x1 < 0 ∨ ln 94 ≤ x1.toNatClampNeg then none else (
      if (99 : Int32) < ((M.1 94 x1.toNatClampNeg) + x3) then
        some (-9 : Int32)
      else
        if x1 < 0 ∨ ln 91 ≤ x1.toNatClampNeg then none else (
        if x1 < 0 ∨ ln 94 ≤ x1.toNatClampNeg then none else (
        if x1 < 0 ∨ ln 95 ≤ x1.toNatClampNeg then none else (
        ob1 (F_X7_bulkAfter fu M (M.1 91 x1.toNatClampNeg) ((M.1 94 x1.toNatClampNeg) + x3) (M.1 95 x1.toNatClampNeg) x2) (fun r9 =>
        ob1 (F_X7_mayVote fu M x1 r9) (fun r11 =>
        if r11 = 0 then
          F_X7_carry_19 fu M n x1 x2 (x3 + (1 : Int32))
        else
          some x3)))))))
set_option maxRecDepth 100000 in
set_option maxHeartbeats 4000000 in
theorem w_X7_carry_19 {p : Program} {l : Launch} {e : Env} {s : State} {m : MethodId} {args : Array Value} {below : List Frame} {meth : Method} {c : Code} {G : Gv} (hC : Cx p s m args meth c cX7_carry 4 (some .int) RX7) {fu : Nat} {r : Int32} {M : Mm} : ∀ (n : Nat) {x1 : Int32} {x2 : Int32} {x3 : Int32} {H : Heap} {locs : List Loc} {ls : Array Slot}, F_X7_carry_19 fu M n x1 x2 x3 = some r → St G s H locs M → lv_has ls 4 [(0, .ref (ad G 86)), (1, .int x1), (2, .int x2), (3, .int x3)] → W p l e rm_X7_carry s m args below meth c H locs 0 0 (MQ below (QI G r M) args s 0 0 (zA G)) (F0 m 19 ls []) := by
  intro n
  induction n with
  | zero =>
    intro x1 x2 x3 H locs ls hF hw hl
    cases hF
  | succ n ih =>
    intro x1 x2 x3 H locs ls hF hw hl
    unfold F_X7_carry_19 at hF
    refine lv_aload_n hC.1 hC.2.1 dX7_carry_19 rfl (lv_at hl 0 rfl) ?_
    refine g7_bulks hC hw q4_130 dX7_carry_20 ?_
    refine lv_iload_n hC.1 hC.2.1 dX7_carry_23 rfl (lv_at hl 1 rfl) ?_
    obtain ⟨n1, hF⟩ := ifO hF
    refine r_iald hC.1 hC.2.1 hw (rfl : kd 94 = 1) n1 dX7_carry_24 ?_
    refine lv_if_le (tgt := 82) hC.1 hC.2.1 dX7_carry_25 (by decide) (fun b2 => ?_) (fun b2 => ?_)
    · have hF := ifP hF b2
      refine lv_bipush (v := (-9 : Int32)) hC.1 hC.2.1 dX7_carry_82 (by decide) ?_
      exact r_iretP hC hw hF dX7_carry_84
    · have hF := ifN hF b2
      refine lv_aload_n hC.1 hC.2.1 dX7_carry_28 rfl (lv_at hl 0 rfl) ?_
      refine g7_bulks hC hw q4_130 dX7_carry_29 ?_
      refine lv_iload_n hC.1 hC.2.1 dX7_carry_32 rfl (lv_at hl 1 rfl) ?_
      obtain ⟨n3, hF⟩ := ifO hF
      refine r_iald hC.1 hC.2.1 hw (rfl : kd 94 = 1) n3 dX7_carry_33 ?_
      refine lv_iload_n hC.1 hC.2.1 dX7_carry_34 rfl (lv_at hl 3 rfl) ?_
      refine lv_iadd hC.1 hC.2.1 dX7_carry_35 ?_
      refine lv_bipush (v := (99 : Int32)) hC.1 hC.2.1 dX7_carry_36 (by decide) ?_
      refine lv_icmp_gt (tgt := 82) hC.1 hC.2.1 dX7_carry_38 (by decide) (fun b4 => ?_) (fun b4 => ?_)
      · have hF := ifP hF b4
        refine lv_bipush (v := (-9 : Int32)) hC.1 hC.2.1 dX7_carry_82 (by decide) ?_
        exact r_iretP hC hw hF dX7_carry_84
      · have hF := ifN hF b4
        refine lv_aload_n hC.1 hC.2.1 dX7_carry_41 rfl (lv_at hl 0 rfl) ?_
        refine lv_iload_n hC.1 hC.2.1 dX7_carry_42 rfl (lv_at hl 1 rfl) ?_
        refine lv_aload_n hC.1 hC.2.1 dX7_carry_43 rfl (lv_at hl 0 rfl) ?_
        refine lv_aload_n hC.1 hC.2.1 dX7_carry_44 rfl (lv_at hl 0 rfl) ?_
        refine g7_kindIs hC hw q4_127 dX7_carry_45 ?_
        refine lv_iload_n hC.1 hC.2.1 dX7_carry_48 rfl (lv_at hl 1 rfl) ?_
        obtain ⟨n5, hF⟩ := ifO hF
        refine r_iald hC.1 hC.2.1 hw (rfl : kd 91 = 1) n5 dX7_carry_49 ?_
        refine lv_aload_n hC.1 hC.2.1 dX7_carry_50 rfl (lv_at hl 0 rfl) ?_
        refine g7_bulks hC hw q4_130 dX7_carry_51 ?_
        refine lv_iload_n hC.1 hC.2.1 dX7_carry_54 rfl (lv_at hl 1 rfl) ?_
        obtain ⟨n6, hF⟩ := ifO hF
        refine r_iald hC.1 hC.2.1 hw (rfl : kd 94 = 1) n6 dX7_carry_55 ?_
        refine lv_iload_n hC.1 hC.2.1 dX7_carry_56 rfl (lv_at hl 3 rfl) ?_
        refine lv_iadd hC.1 hC.2.1 dX7_carry_57 ?_
        refine lv_aload_n hC.1 hC.2.1 dX7_carry_58 rfl (lv_at hl 0 rfl) ?_
        refine g7_shades hC hw q4_131 dX7_carry_59 ?_
        refine lv_iload_n hC.1 hC.2.1 dX7_carry_62 rfl (lv_at hl 1 rfl) ?_
        obtain ⟨n7, hF⟩ := ifO hF
        refine r_iald hC.1 hC.2.1 hw (rfl : kd 95 = 1) n7 dX7_carry_63 ?_
        refine lv_iload_n hC.1 hC.2.1 dX7_carry_64 rfl (lv_at hl 2 rfl) ?_
        obtain ⟨r9, h8, hF⟩ := ob1S hF
        refine k_Vi (As := [.int (M.1 91 x1.toNatClampNeg), .int ((M.1 94 x1.toNatClampNeg) + x3), .int (M.1 95 x1.toNatClampNeg), .int x2]) (rest := [.int x1, .ref (ad G 86)]) hC hw (c_X7_bulkAfter (M := M) h8) RC_X yv_X7_bulkAfter q5_105 ⟨rfl, rfl⟩ ⟨Nat.le_of_ble_eq_true rfl, Nat.le_of_ble_eq_true rfl⟩ ⟨Nat.zero_le _, Nat.zero_le _⟩ rfl rfl (Nat.le_of_ble_eq_true rfl) hl dX7_carry_65 (fun H locs hw => ?_)
        obtain ⟨r11, h10, hF⟩ := ob1S hF
        refine k_Vi (As := [.int x1, .int r9]) (rest := []) hC hw (c_X7_mayVote (M := M) h10) RC_X yv_X7_mayVote q5_93 ⟨rfl, rfl⟩ ⟨Nat.le_of_ble_eq_true rfl, Nat.le_of_ble_eq_true rfl⟩ ⟨Nat.zero_le _, Nat.zero_le _⟩ rfl rfl (Nat.le_of_ble_eq_true rfl) hl dX7_carry_68 (fun H locs hw => ?_)
        refine lv_if_eq (tgt := 76) hC.1 hC.2.1 dX7_carry_71 (by decide) (fun b12 => ?_) (fun b12 => ?_)
        · have hF := ifP hF b12
          refine lv_iinc (v := (x3 + (1 : Int32))) (lv' := [(3, .int (x3 + (1 : Int32))), (0, .ref (ad G 86)), (1, .int x1), (2, .int x2)]) hC.1 hC.2.1 dX7_carry_76 hl (k := 3) rfl rfl (by decide) rfl (fun ls hl => ?_)
          refine lv_goto (tgt := 19) hC.1 hC.2.1 dX7_carry_79 (by decide) ?_
          exact ih hF hw (lv_sub hl [1, 2, 3, 0] rfl)
        · have hF := ifN hF b12
          refine lv_iload_n hC.1 hC.2.1 dX7_carry_74 rfl (lv_at hl 3 rfl) ?_
          exact r_iretP hC hw hF dX7_carry_75
def F_X7_carry (fu : Nat) (M : Mm) (x1 : Int32) (x2 : Int32) : Option Int32 :=
  ob1 (F_X7_isMan fu M x1) (fun r2 =>
  if r2 = 0 then
    some (-1 : Int32)
  else
    ob1 (F_X7_isAhead fu M x2) (fun r5 =>
    if r5 = 0 then
      some (-1 : Int32)
    else
      F_X7_carry_19 fu M fu x1 x2 (0 : Int32)))
set_option maxRecDepth 100000 in
set_option maxHeartbeats 4000000 in
theorem c_X7_carry {l : Launch} {G : Gv} {fu : Nat} {M : Mm} {x1 : Int32} {x2 : Int32} {r : Int32} (hF : F_X7_carry fu M x1 x2 = some r) : Met l yX7_carry (.code yX7_carry cX7_carry 4 (some .int) :: zU) rm_X7_carry (va_Pc [.ref (ad G 86), .int x1, .int x2] (Wd G M)) (QI G r M) 0 0 (zA G) := by
  refine zMet (by decide) rfl (Nat.le_of_ble_eq_true rfl) ?_
  intro p e s m below meth c hC hw ls hl
  have hl : lv_has ls 4 [(0, .ref (ad G 86)), (1, .int x1), (2, .int x2)] := hl
  unfold F_X7_carry at hF
  refine lv_aload_n hC.1 hC.2.1 dX7_carry_0 rfl (lv_at hl 0 rfl) ?_
  refine lv_iload_n hC.1 hC.2.1 dX7_carry_1 rfl (lv_at hl 1 rfl) ?_
  obtain ⟨r2, h1, hF⟩ := ob1S hF
  refine k_Vi (As := [.int x1]) (rest := []) hC hw (c_X7_isMan (M := M) h1) RC_X yv_X7_isMan q5_89 ⟨rfl, rfl⟩ ⟨Nat.le_of_ble_eq_true rfl, Nat.le_of_ble_eq_true rfl⟩ ⟨Nat.zero_le _, Nat.zero_le _⟩ rfl rfl (Nat.le_of_ble_eq_true rfl) hl dX7_carry_2 (fun H locs hw => ?_)
  refine lv_if_eq (tgt := 15) hC.1 hC.2.1 dX7_carry_5 (by decide) (fun b3 => ?_) (fun b3 => ?_)
  · have hF := ifP hF b3
    refine lv_iconst (v := (-1 : Int32)) hC.1 hC.2.1 dX7_carry_15 (by decide) ?_
    exact r_iretP hC hw hF dX7_carry_16
  · have hF := ifN hF b3
    refine lv_iload_n hC.1 hC.2.1 dX7_carry_8 rfl (lv_at hl 2 rfl) ?_
    obtain ⟨r5, h4, hF⟩ := ob1S hF
    refine k_Si (As := [.int x2]) (rest := []) hC hw (c_X7_isAhead (M := M) h4) ys_X7_isAhead q5_204 ⟨rfl, rfl⟩ ⟨Nat.le_of_ble_eq_true rfl, Nat.le_of_ble_eq_true rfl⟩ ⟨Nat.zero_le _, Nat.zero_le _⟩ rfl rfl (Nat.le_of_ble_eq_true rfl) hl dX7_carry_9 (fun H locs hw => ?_)
    refine lv_if_ne (tgt := 17) hC.1 hC.2.1 dX7_carry_12 (by decide) (fun b6 => ?_) (fun b6 => ?_)
    · have hF := ifN hF b6
      refine lv_iconst (v := (0 : Int32)) hC.1 hC.2.1 dX7_carry_17 (by decide) ?_
      refine lv_istore_n (lv' := [(3, .int (0 : Int32)), (0, .ref (ad G 86)), (1, .int x1), (2, .int x2)]) hC.1 hC.2.1 dX7_carry_18 rfl hl (by decide) rfl (fun ls hl => ?_)
      exact w_X7_carry_19 hC _ hF hw (lv_sub hl [1, 2, 3, 0] rfl)
    · have hF := ifP hF b6
      refine lv_iconst (v := (-1 : Int32)) hC.1 hC.2.1 dX7_carry_15 (by decide) ?_
      exact r_iretP hC hw hF dX7_carry_16
abbrev rm_X7_layGone : Room := { frames := 3, cells := 0, slots := 0, locals := 68 }
theorem yv_X7_layGone : YV yX7_layGone cX7_layGone 3 none 0 RX7 := ⟨⟨q6_38, qs_61, q1_8, q6_39⟩, by decide +kernel⟩
theorem dX7_layGone_0 : decode cX7_layGone 0 = .ok (.iconst 0, 1) := by decide +kernel
theorem dX7_layGone_1 : decode cX7_layGone 1 = .ok (.istore_n 1, 1) := by decide +kernel
theorem dX7_layGone_2 : decode cX7_layGone 2 = .ok (.iload_n 1, 1) := by decide +kernel
theorem dX7_layGone_3 : decode cX7_layGone 3 = .ok (.aload_n 0, 1) := by decide +kernel
theorem dX7_layGone_4 : decode cX7_layGone 4 = .ok (.getfield 101, 3) := by decide +kernel
theorem dX7_layGone_7 : decode cX7_layGone 7 = .ok (.if_icmp .ge 40, 3) := by decide +kernel
theorem dX7_layGone_10 : decode cX7_layGone 10 = .ok (.aload_n 0, 1) := by decide +kernel
theorem dX7_layGone_11 : decode cX7_layGone 11 = .ok (.iload_n 1, 1) := by decide +kernel
theorem dX7_layGone_12 : decode cX7_layGone 12 = .ok (.invokevirtual 209, 3) := by decide +kernel
theorem dX7_layGone_15 : decode cX7_layGone 15 = .ok (.istore_n 2, 1) := by decide +kernel
theorem dX7_layGone_16 : decode cX7_layGone 16 = .ok (.aload_n 0, 1) := by decide +kernel
theorem dX7_layGone_17 : decode cX7_layGone 17 = .ok (.getfield 78, 3) := by decide +kernel
theorem dX7_layGone_20 : decode cX7_layGone 20 = .ok (.iload_n 1, 1) := by decide +kernel
theorem dX7_layGone_21 : decode cX7_layGone 21 = .ok (.iload_n 2, 1) := by decide +kernel
theorem dX7_layGone_22 : decode cX7_layGone 22 = .ok (.bipush (-9), 2) := by decide +kernel
theorem dX7_layGone_24 : decode cX7_layGone 24 = .ok (.if_icmp .ne 8, 3) := by decide +kernel
theorem dX7_layGone_27 : decode cX7_layGone 27 = .ok (.ldc 247, 2) := by decide +kernel
theorem dX7_layGone_29 : decode cX7_layGone 29 = .ok (.goto 4, 3) := by decide +kernel
theorem dX7_layGone_32 : decode cX7_layGone 32 = .ok (.iload_n 2, 1) := by decide +kernel
theorem dX7_layGone_33 : decode cX7_layGone 33 = .ok (.iastore, 1) := by decide +kernel
theorem dX7_layGone_34 : decode cX7_layGone 34 = .ok (.aload_n 0, 1) := by decide +kernel
theorem dX7_layGone_35 : decode cX7_layGone 35 = .ok (.getfield 81, 3) := by decide +kernel
theorem dX7_layGone_38 : decode cX7_layGone 38 = .ok (.iload_n 1, 1) := by decide +kernel
theorem dX7_layGone_39 : decode cX7_layGone 39 = .ok (.iload_n 1, 1) := by decide +kernel
theorem dX7_layGone_40 : decode cX7_layGone 40 = .ok (.iastore, 1) := by decide +kernel
theorem dX7_layGone_41 : decode cX7_layGone 41 = .ok (.iinc 1 1, 3) := by decide +kernel
theorem dX7_layGone_44 : decode cX7_layGone 44 = .ok (.goto (-42), 3) := by decide +kernel
theorem dX7_layGone_47 : decode cX7_layGone 47 = .ok (.return_, 1) := by decide +kernel
def F_X7_layGone_2 (fu : Nat) : Nat → Mm → Int32 → Option Mm
  | 0, _, _ => none
  | n + 1, M, x1 =>
    if (M.1 86 4) ≤ x1 then
      some M
    else
      ob1 (F_X7_goneIn fu M x1) (fun r3 =>
      if r3 = (-9 : Int32) then
        if x1 < 0 ∨ ln 108 ≤ x1.toNatClampNeg then none else (
        lt1 (pI M 108 x1.toNatClampNeg (1000000 : Int32)) (fun M10 =>
        if x1 < 0 ∨ ln 109 ≤ x1.toNatClampNeg then none else (
        lt1 (pI M10 109 x1.toNatClampNeg x1) (fun M12 =>
        F_X7_layGone_2 fu n M12 (x1 + (1 : Int32))))))
      else
        if x1 < 0 ∨ ln 108 ≤ x1.toNatClampNeg then none else (
        lt1 (pI M 108 x1.toNatClampNeg r3) (fun M6 =>
        if x1 < 0 ∨ ln 109 ≤ x1.toNatClampNeg then none else (
        lt1 (pI M6 109 x1.toNatClampNeg x1) (fun M8 =>
        F_X7_layGone_2 fu n M8 (x1 + (1 : Int32)))))))
set_option maxRecDepth 100000 in
set_option maxHeartbeats 4000000 in
theorem w_X7_layGone_2 {p : Program} {l : Launch} {e : Env} {s : State} {m : MethodId} {args : Array Value} {below : List Frame} {meth : Method} {c : Code} {G : Gv} (hC : Cx p s m args meth c cX7_layGone 3 none RX7) {fu : Nat} {M' : Mm} : ∀ (n : Nat) {x1 : Int32} {M : Mm} {H : Heap} {locs : List Loc} {ls : Array Slot}, F_X7_layGone_2 fu n M x1 = some M' → St G s H locs M → lv_has ls 3 [(0, .ref (ad G 86)), (1, .int x1)] → W p l e rm_X7_layGone s m args below meth c H locs 0 0 (MQ below (QV G M') args s 0 0 (zA G)) (F0 m 2 ls []) := by
  intro n
  induction n with
  | zero =>
    intro x1 M H locs ls hF hw hl
    cases hF
  | succ n ih =>
    intro x1 M H locs ls hF hw hl
    unfold F_X7_layGone_2 at hF
    refine lv_iload_n hC.1 hC.2.1 dX7_layGone_2 rfl (lv_at hl 1 rfl) ?_
    refine lv_aload_n hC.1 hC.2.1 dX7_layGone_3 rfl (lv_at hl 0 rfl) ?_
    refine g7_men hC hw q4_126 dX7_layGone_4 ?_
    refine lv_icmp_ge (tgt := 47) hC.1 hC.2.1 dX7_layGone_7 (by decide) (fun b1 => ?_) (fun b1 => ?_)
    · have hF := ifP hF b1
      exact r_vretE hC hw hF dX7_layGone_47
    · have hF := ifN hF b1
      refine lv_aload_n hC.1 hC.2.1 dX7_layGone_10 rfl (lv_at hl 0 rfl) ?_
      refine lv_iload_n hC.1 hC.2.1 dX7_layGone_11 rfl (lv_at hl 1 rfl) ?_
      obtain ⟨r3, h2, hF⟩ := ob1S hF
      refine k_Vi (As := [.int x1]) (rest := []) hC hw (c_X7_goneIn (M := M) h2) RC_X yv_X7_goneIn q5_131 ⟨rfl, rfl⟩ ⟨Nat.le_of_ble_eq_true rfl, Nat.le_of_ble_eq_true rfl⟩ ⟨Nat.zero_le _, Nat.zero_le _⟩ rfl rfl (Nat.le_of_ble_eq_true rfl) hl dX7_layGone_12 (fun H locs hw => ?_)
      refine lv_istore_n (lv' := [(2, .int r3), (0, .ref (ad G 86)), (1, .int x1)]) hC.1 hC.2.1 dX7_layGone_15 rfl hl (by decide) rfl (fun ls hl => ?_)
      refine lv_aload_n hC.1 hC.2.1 dX7_layGone_16 rfl (lv_at hl 1 rfl) ?_
      refine g7_goneBy hC hw q4_154 dX7_layGone_17 ?_
      refine lv_iload_n hC.1 hC.2.1 dX7_layGone_20 rfl (lv_at hl 2 rfl) ?_
      refine lv_iload_n hC.1 hC.2.1 dX7_layGone_21 rfl (lv_at hl 0 rfl) ?_
      refine lv_bipush (v := (-9 : Int32)) hC.1 hC.2.1 dX7_layGone_22 (by decide) ?_
      refine lv_icmp_ne (tgt := 32) hC.1 hC.2.1 dX7_layGone_24 (by decide) (fun b4 => ?_) (fun b4 => ?_)
      · have hF := ifN hF b4
        refine lv_iload_n hC.1 hC.2.1 dX7_layGone_32 rfl (lv_at hl 0 rfl) ?_
        obtain ⟨n5, hF⟩ := ifO hF
        refine r_iast hC.1 hC.2.1 hw (rfl : kd 108 = 1) n5 dX7_layGone_33 (fun H locs hw => ?_)
        obtain ⟨M6, hw, hF⟩ := lt1W hF hw
        refine lv_aload_n hC.1 hC.2.1 dX7_layGone_34 rfl (lv_at hl 1 rfl) ?_
        refine g7_order hC hw q4_155 dX7_layGone_35 ?_
        refine lv_iload_n hC.1 hC.2.1 dX7_layGone_38 rfl (lv_at hl 2 rfl) ?_
        refine lv_iload_n hC.1 hC.2.1 dX7_layGone_39 rfl (lv_at hl 2 rfl) ?_
        obtain ⟨n7, hF⟩ := ifO hF
        refine r_iast hC.1 hC.2.1 hw (rfl : kd 109 = 1) n7 dX7_layGone_40 (fun H locs hw => ?_)
        obtain ⟨M8, hw, hF⟩ := lt1W hF hw
        refine lv_iinc (v := (x1 + (1 : Int32))) (lv' := [(1, .int (x1 + (1 : Int32))), (2, .int r3), (0, .ref (ad G 86))]) hC.1 hC.2.1 dX7_layGone_41 hl (k := 2) rfl rfl (by decide) rfl (fun ls hl => ?_)
        refine lv_goto (tgt := 2) hC.1 hC.2.1 dX7_layGone_44 (by decide) ?_
        exact ih hF hw (lv_sub hl [2, 0] rfl)
      · have hF := ifP hF b4
        refine lv_ldc (v := (1000000 : Int32)) hC.1 hC.2.1 hC.2.2.2.1 (hC.2.2.2.2.1 _ q5_236) dX7_layGone_27 ?_
        refine lv_goto (tgt := 33) hC.1 hC.2.1 dX7_layGone_29 (by decide) ?_
        obtain ⟨n9, hF⟩ := ifO hF
        refine r_iast hC.1 hC.2.1 hw (rfl : kd 108 = 1) n9 dX7_layGone_33 (fun H locs hw => ?_)
        obtain ⟨M10, hw, hF⟩ := lt1W hF hw
        refine lv_aload_n hC.1 hC.2.1 dX7_layGone_34 rfl (lv_at hl 1 rfl) ?_
        refine g7_order hC hw q4_155 dX7_layGone_35 ?_
        refine lv_iload_n hC.1 hC.2.1 dX7_layGone_38 rfl (lv_at hl 2 rfl) ?_
        refine lv_iload_n hC.1 hC.2.1 dX7_layGone_39 rfl (lv_at hl 2 rfl) ?_
        obtain ⟨n11, hF⟩ := ifO hF
        refine r_iast hC.1 hC.2.1 hw (rfl : kd 109 = 1) n11 dX7_layGone_40 (fun H locs hw => ?_)
        obtain ⟨M12, hw, hF⟩ := lt1W hF hw
        refine lv_iinc (v := (x1 + (1 : Int32))) (lv' := [(1, .int (x1 + (1 : Int32))), (2, .int r3), (0, .ref (ad G 86))]) hC.1 hC.2.1 dX7_layGone_41 hl (k := 2) rfl rfl (by decide) rfl (fun ls hl => ?_)
        refine lv_goto (tgt := 2) hC.1 hC.2.1 dX7_layGone_44 (by decide) ?_
        exact ih hF hw (lv_sub hl [2, 0] rfl)
def F_X7_layGone (fu : Nat) (M : Mm) : Option Mm :=
  F_X7_layGone_2 fu fu M (0 : Int32)
set_option maxRecDepth 100000 in
set_option maxHeartbeats 4000000 in
theorem c_X7_layGone {l : Launch} {G : Gv} {fu : Nat} {M : Mm} {M' : Mm} (hF : F_X7_layGone fu M = some M') : Met l yX7_layGone (.code yX7_layGone cX7_layGone 3 none :: zU) rm_X7_layGone (va_Pc [.ref (ad G 86)] (Wd G M)) (QV G M') 0 0 (zA G) := by
  refine zMet (by decide) rfl (Nat.le_of_ble_eq_true rfl) ?_
  intro p e s m below meth c hC hw ls hl
  have hl : lv_has ls 3 [(0, .ref (ad G 86))] := hl
  unfold F_X7_layGone at hF
  refine lv_iconst (v := (0 : Int32)) hC.1 hC.2.1 dX7_layGone_0 (by decide) ?_
  refine lv_istore_n (lv' := [(1, .int (0 : Int32)), (0, .ref (ad G 86))]) hC.1 hC.2.1 dX7_layGone_1 rfl hl (by decide) rfl (fun ls hl => ?_)
  exact w_X7_layGone_2 hC _ hF hw (lv_sub hl [1, 0] rfl)
abbrev rm_X7_countedBy : Room := { frames := 0, cells := 0, slots := 0, locals := 0 }
theorem yv_X7_countedBy : YV yX7_countedBy cX7_countedBy 3 (some .int) 0 RX7 := ⟨⟨q6_42, qs_62, q1_8, q6_43⟩, by decide +kernel⟩
theorem dX7_countedBy_0 : decode cX7_countedBy 0 = .ok (.iconst 0, 1) := by decide +kernel
theorem dX7_countedBy_1 : decode cX7_countedBy 1 = .ok (.istore_n 1, 1) := by decide +kernel
theorem dX7_countedBy_2 : decode cX7_countedBy 2 = .ok (.iconst 0, 1) := by decide +kernel
theorem dX7_countedBy_3 : decode cX7_countedBy 3 = .ok (.istore_n 2, 1) := by decide +kernel
theorem dX7_countedBy_4 : decode cX7_countedBy 4 = .ok (.iload_n 2, 1) := by decide +kernel
theorem dX7_countedBy_5 : decode cX7_countedBy 5 = .ok (.aload_n 0, 1) := by decide +kernel
theorem dX7_countedBy_6 : decode cX7_countedBy 6 = .ok (.getfield 101, 3) := by decide +kernel
theorem dX7_countedBy_9 : decode cX7_countedBy 9 = .ok (.if_icmp .ge 32, 3) := by decide +kernel
theorem dX7_countedBy_12 : decode cX7_countedBy 12 = .ok (.iload_n 1, 1) := by decide +kernel
theorem dX7_countedBy_13 : decode cX7_countedBy 13 = .ok (.aload_n 0, 1) := by decide +kernel
theorem dX7_countedBy_14 : decode cX7_countedBy 14 = .ok (.getfield 78, 3) := by decide +kernel
theorem dX7_countedBy_17 : decode cX7_countedBy 17 = .ok (.aload_n 0, 1) := by decide +kernel
theorem dX7_countedBy_18 : decode cX7_countedBy 18 = .ok (.getfield 81, 3) := by decide +kernel
theorem dX7_countedBy_21 : decode cX7_countedBy 21 = .ok (.iload_n 2, 1) := by decide +kernel
theorem dX7_countedBy_22 : decode cX7_countedBy 22 = .ok (.iaload, 1) := by decide +kernel
theorem dX7_countedBy_23 : decode cX7_countedBy 23 = .ok (.iaload, 1) := by decide +kernel
theorem dX7_countedBy_24 : decode cX7_countedBy 24 = .ok (.iload_n 2, 1) := by decide +kernel
theorem dX7_countedBy_25 : decode cX7_countedBy 25 = .ok (.if_icmp .le 7, 3) := by decide +kernel
theorem dX7_countedBy_28 : decode cX7_countedBy 28 = .ok (.iconst 1, 1) := by decide +kernel
theorem dX7_countedBy_29 : decode cX7_countedBy 29 = .ok (.goto 4, 3) := by decide +kernel
theorem dX7_countedBy_32 : decode cX7_countedBy 32 = .ok (.iconst 0, 1) := by decide +kernel
theorem dX7_countedBy_33 : decode cX7_countedBy 33 = .ok (.iadd, 1) := by decide +kernel
theorem dX7_countedBy_34 : decode cX7_countedBy 34 = .ok (.istore_n 1, 1) := by decide +kernel
theorem dX7_countedBy_35 : decode cX7_countedBy 35 = .ok (.iinc 2 1, 3) := by decide +kernel
theorem dX7_countedBy_38 : decode cX7_countedBy 38 = .ok (.goto (-34), 3) := by decide +kernel
theorem dX7_countedBy_41 : decode cX7_countedBy 41 = .ok (.iload_n 1, 1) := by decide +kernel
theorem dX7_countedBy_42 : decode cX7_countedBy 42 = .ok (.ireturn, 1) := by decide +kernel
def F_X7_countedBy_4 (fu : Nat) (M : Mm) : Nat → Int32 → Int32 → Option Int32
  | 0, _, _ => none
  | n + 1, x1, x2 =>
    if (M.1 86 4) ≤ x2 then
      some x1
    else
      if x2 < 0 ∨ ln 109 ≤ x2.toNatClampNeg then none else (
      if (M.1 109 x2.toNatClampNeg) < 0 ∨ ln 108 ≤ (M.1 109 x2.toNatClampNeg).toNatClampNeg then none else (
      if (M.1 108 (M.1 109 x2.toNatClampNeg).toNatClampNeg) ≤ x2 then
        F_X7_countedBy_4 fu M n (x1 + (0 : Int32)) (x2 + (1 : Int32))
      else
        F_X7_countedBy_4 fu M n (x1 + (1 : Int32)) (x2 + (1 : Int32))))
set_option maxRecDepth 100000 in
set_option maxHeartbeats 4000000 in
theorem w_X7_countedBy_4 {p : Program} {l : Launch} {e : Env} {s : State} {m : MethodId} {args : Array Value} {below : List Frame} {meth : Method} {c : Code} {G : Gv} (hC : Cx p s m args meth c cX7_countedBy 3 (some .int) RX7) {fu : Nat} {r : Int32} {M : Mm} : ∀ (n : Nat) {x1 : Int32} {x2 : Int32} {H : Heap} {locs : List Loc} {ls : Array Slot}, F_X7_countedBy_4 fu M n x1 x2 = some r → St G s H locs M → lv_has ls 3 [(0, .ref (ad G 86)), (1, .int x1), (2, .int x2)] → W p l e rm_X7_countedBy s m args below meth c H locs 0 0 (MQ below (QI G r M) args s 0 0 (zA G)) (F0 m 4 ls []) := by
  intro n
  induction n with
  | zero =>
    intro x1 x2 H locs ls hF hw hl
    cases hF
  | succ n ih =>
    intro x1 x2 H locs ls hF hw hl
    unfold F_X7_countedBy_4 at hF
    refine lv_iload_n hC.1 hC.2.1 dX7_countedBy_4 rfl (lv_at hl 2 rfl) ?_
    refine lv_aload_n hC.1 hC.2.1 dX7_countedBy_5 rfl (lv_at hl 0 rfl) ?_
    refine g7_men hC hw q4_126 dX7_countedBy_6 ?_
    refine lv_icmp_ge (tgt := 41) hC.1 hC.2.1 dX7_countedBy_9 (by decide) (fun b1 => ?_) (fun b1 => ?_)
    · have hF := ifP hF b1
      refine lv_iload_n hC.1 hC.2.1 dX7_countedBy_41 rfl (lv_at hl 1 rfl) ?_
      exact r_iretP hC hw hF dX7_countedBy_42
    · have hF := ifN hF b1
      refine lv_iload_n hC.1 hC.2.1 dX7_countedBy_12 rfl (lv_at hl 1 rfl) ?_
      refine lv_aload_n hC.1 hC.2.1 dX7_countedBy_13 rfl (lv_at hl 0 rfl) ?_
      refine g7_goneBy hC hw q4_154 dX7_countedBy_14 ?_
      refine lv_aload_n hC.1 hC.2.1 dX7_countedBy_17 rfl (lv_at hl 0 rfl) ?_
      refine g7_order hC hw q4_155 dX7_countedBy_18 ?_
      refine lv_iload_n hC.1 hC.2.1 dX7_countedBy_21 rfl (lv_at hl 2 rfl) ?_
      obtain ⟨n2, hF⟩ := ifO hF
      refine r_iald hC.1 hC.2.1 hw (rfl : kd 109 = 1) n2 dX7_countedBy_22 ?_
      obtain ⟨n3, hF⟩ := ifO hF
      refine r_iald hC.1 hC.2.1 hw (rfl : kd 108 = 1) n3 dX7_countedBy_23 ?_
      refine lv_iload_n hC.1 hC.2.1 dX7_countedBy_24 rfl (lv_at hl 2 rfl) ?_
      refine lv_icmp_le (tgt := 32) hC.1 hC.2.1 dX7_countedBy_25 (by decide) (fun b4 => ?_) (fun b4 => ?_)
      · have hF := ifP hF b4
        refine lv_iconst (v := (0 : Int32)) hC.1 hC.2.1 dX7_countedBy_32 (by decide) ?_
        refine lv_iadd hC.1 hC.2.1 dX7_countedBy_33 ?_
        refine lv_istore_n (lv' := [(1, .int (x1 + (0 : Int32))), (0, .ref (ad G 86)), (2, .int x2)]) hC.1 hC.2.1 dX7_countedBy_34 rfl hl (by decide) rfl (fun ls hl => ?_)
        refine lv_iinc (v := (x2 + (1 : Int32))) (lv' := [(2, .int (x2 + (1 : Int32))), (1, .int (x1 + (0 : Int32))), (0, .ref (ad G 86))]) hC.1 hC.2.1 dX7_countedBy_35 hl (k := 2) rfl rfl (by decide) rfl (fun ls hl => ?_)
        refine lv_goto (tgt := 4) hC.1 hC.2.1 dX7_countedBy_38 (by decide) ?_
        exact ih hF hw (lv_sub hl [2, 1, 0] rfl)
      · have hF := ifN hF b4
        refine lv_iconst (v := (1 : Int32)) hC.1 hC.2.1 dX7_countedBy_28 (by decide) ?_
        refine lv_goto (tgt := 33) hC.1 hC.2.1 dX7_countedBy_29 (by decide) ?_
        refine lv_iadd hC.1 hC.2.1 dX7_countedBy_33 ?_
        refine lv_istore_n (lv' := [(1, .int (x1 + (1 : Int32))), (0, .ref (ad G 86)), (2, .int x2)]) hC.1 hC.2.1 dX7_countedBy_34 rfl hl (by decide) rfl (fun ls hl => ?_)
        refine lv_iinc (v := (x2 + (1 : Int32))) (lv' := [(2, .int (x2 + (1 : Int32))), (1, .int (x1 + (1 : Int32))), (0, .ref (ad G 86))]) hC.1 hC.2.1 dX7_countedBy_35 hl (k := 2) rfl rfl (by decide) rfl (fun ls hl => ?_)
        refine lv_goto (tgt := 4) hC.1 hC.2.1 dX7_countedBy_38 (by decide) ?_
        exact ih hF hw (lv_sub hl [2, 1, 0] rfl)
def F_X7_countedBy (fu : Nat) (M : Mm) : Option Int32 :=
  F_X7_countedBy_4 fu M fu (0 : Int32) (0 : Int32)
set_option maxRecDepth 100000 in
set_option maxHeartbeats 4000000 in
theorem c_X7_countedBy {l : Launch} {G : Gv} {fu : Nat} {M : Mm} {r : Int32} (hF : F_X7_countedBy fu M = some r) : Met l yX7_countedBy (.code yX7_countedBy cX7_countedBy 3 (some .int) :: zU) rm_X7_countedBy (va_Pc [.ref (ad G 86)] (Wd G M)) (QI G r M) 0 0 (zA G) := by
  refine zMet (by decide) rfl (Nat.le_of_ble_eq_true rfl) ?_
  intro p e s m below meth c hC hw ls hl
  have hl : lv_has ls 3 [(0, .ref (ad G 86))] := hl
  unfold F_X7_countedBy at hF
  refine lv_iconst (v := (0 : Int32)) hC.1 hC.2.1 dX7_countedBy_0 (by decide) ?_
  refine lv_istore_n (lv' := [(1, .int (0 : Int32)), (0, .ref (ad G 86))]) hC.1 hC.2.1 dX7_countedBy_1 rfl hl (by decide) rfl (fun ls hl => ?_)
  refine lv_iconst (v := (0 : Int32)) hC.1 hC.2.1 dX7_countedBy_2 (by decide) ?_
  refine lv_istore_n (lv' := [(2, .int (0 : Int32)), (1, .int (0 : Int32)), (0, .ref (ad G 86))]) hC.1 hC.2.1 dX7_countedBy_3 rfl hl (by decide) rfl (fun ls hl => ?_)
  exact w_X7_countedBy_4 hC _ hF hw (lv_sub hl [2, 1, 0] rfl)
abbrev rm_X7_nextOrder : Room := { frames := 0, cells := 0, slots := 0, locals := 0 }
theorem yv_X7_nextOrder : YV yX7_nextOrder cX7_nextOrder 7 (some .boolean) 0 RX7 := ⟨⟨q6_46, qs_63, q1_8, q6_47⟩, by decide +kernel⟩
theorem dX7_nextOrder_0 : decode cX7_nextOrder 0 = .ok (.aload_n 0, 1) := by decide +kernel
theorem dX7_nextOrder_1 : decode cX7_nextOrder 1 = .ok (.getfield 101, 3) := by decide +kernel
theorem dX7_nextOrder_4 : decode cX7_nextOrder 4 = .ok (.iconst 2, 1) := by decide +kernel
theorem dX7_nextOrder_5 : decode cX7_nextOrder 5 = .ok (.isub, 1) := by decide +kernel
theorem dX7_nextOrder_6 : decode cX7_nextOrder 6 = .ok (.istore_n 1, 1) := by decide +kernel
theorem dX7_nextOrder_7 : decode cX7_nextOrder 7 = .ok (.iload_n 1, 1) := by decide +kernel
theorem dX7_nextOrder_8 : decode cX7_nextOrder 8 = .ok (.ifCond .lt 26, 3) := by decide +kernel
theorem dX7_nextOrder_11 : decode cX7_nextOrder 11 = .ok (.aload_n 0, 1) := by decide +kernel
theorem dX7_nextOrder_12 : decode cX7_nextOrder 12 = .ok (.getfield 81, 3) := by decide +kernel
theorem dX7_nextOrder_15 : decode cX7_nextOrder 15 = .ok (.iload_n 1, 1) := by decide +kernel
theorem dX7_nextOrder_16 : decode cX7_nextOrder 16 = .ok (.iaload, 1) := by decide +kernel
theorem dX7_nextOrder_17 : decode cX7_nextOrder 17 = .ok (.aload_n 0, 1) := by decide +kernel
theorem dX7_nextOrder_18 : decode cX7_nextOrder 18 = .ok (.getfield 81, 3) := by decide +kernel
theorem dX7_nextOrder_21 : decode cX7_nextOrder 21 = .ok (.iload_n 1, 1) := by decide +kernel
theorem dX7_nextOrder_22 : decode cX7_nextOrder 22 = .ok (.iconst 1, 1) := by decide +kernel
theorem dX7_nextOrder_23 : decode cX7_nextOrder 23 = .ok (.iadd, 1) := by decide +kernel
theorem dX7_nextOrder_24 : decode cX7_nextOrder 24 = .ok (.iaload, 1) := by decide +kernel
theorem dX7_nextOrder_25 : decode cX7_nextOrder 25 = .ok (.if_icmp .le 9, 3) := by decide +kernel
theorem dX7_nextOrder_28 : decode cX7_nextOrder 28 = .ok (.iinc 1 (-1), 3) := by decide +kernel
theorem dX7_nextOrder_31 : decode cX7_nextOrder 31 = .ok (.goto (-24), 3) := by decide +kernel
theorem dX7_nextOrder_34 : decode cX7_nextOrder 34 = .ok (.iload_n 1, 1) := by decide +kernel
theorem dX7_nextOrder_35 : decode cX7_nextOrder 35 = .ok (.ifCond .ge 5, 3) := by decide +kernel
theorem dX7_nextOrder_38 : decode cX7_nextOrder 38 = .ok (.iconst 0, 1) := by decide +kernel
theorem dX7_nextOrder_39 : decode cX7_nextOrder 39 = .ok (.ireturn, 1) := by decide +kernel
theorem dX7_nextOrder_40 : decode cX7_nextOrder 40 = .ok (.aload_n 0, 1) := by decide +kernel
theorem dX7_nextOrder_41 : decode cX7_nextOrder 41 = .ok (.getfield 101, 3) := by decide +kernel
theorem dX7_nextOrder_44 : decode cX7_nextOrder 44 = .ok (.iconst 1, 1) := by decide +kernel
theorem dX7_nextOrder_45 : decode cX7_nextOrder 45 = .ok (.isub, 1) := by decide +kernel
theorem dX7_nextOrder_46 : decode cX7_nextOrder 46 = .ok (.istore_n 2, 1) := by decide +kernel
theorem dX7_nextOrder_47 : decode cX7_nextOrder 47 = .ok (.aload_n 0, 1) := by decide +kernel
theorem dX7_nextOrder_48 : decode cX7_nextOrder 48 = .ok (.getfield 81, 3) := by decide +kernel
theorem dX7_nextOrder_51 : decode cX7_nextOrder 51 = .ok (.iload_n 2, 1) := by decide +kernel
theorem dX7_nextOrder_52 : decode cX7_nextOrder 52 = .ok (.iaload, 1) := by decide +kernel
theorem dX7_nextOrder_53 : decode cX7_nextOrder 53 = .ok (.aload_n 0, 1) := by decide +kernel
theorem dX7_nextOrder_54 : decode cX7_nextOrder 54 = .ok (.getfield 81, 3) := by decide +kernel
theorem dX7_nextOrder_57 : decode cX7_nextOrder 57 = .ok (.iload_n 1, 1) := by decide +kernel
theorem dX7_nextOrder_58 : decode cX7_nextOrder 58 = .ok (.iaload, 1) := by decide +kernel
theorem dX7_nextOrder_59 : decode cX7_nextOrder 59 = .ok (.if_icmp .ge 9, 3) := by decide +kernel
theorem dX7_nextOrder_62 : decode cX7_nextOrder 62 = .ok (.iinc 2 (-1), 3) := by decide +kernel
theorem dX7_nextOrder_65 : decode cX7_nextOrder 65 = .ok (.goto (-18), 3) := by decide +kernel
theorem dX7_nextOrder_68 : decode cX7_nextOrder 68 = .ok (.aload_n 0, 1) := by decide +kernel
theorem dX7_nextOrder_69 : decode cX7_nextOrder 69 = .ok (.getfield 81, 3) := by decide +kernel
theorem dX7_nextOrder_72 : decode cX7_nextOrder 72 = .ok (.iload_n 1, 1) := by decide +kernel
theorem dX7_nextOrder_73 : decode cX7_nextOrder 73 = .ok (.iaload, 1) := by decide +kernel
theorem dX7_nextOrder_74 : decode cX7_nextOrder 74 = .ok (.istore_n 3, 1) := by decide +kernel
theorem dX7_nextOrder_75 : decode cX7_nextOrder 75 = .ok (.aload_n 0, 1) := by decide +kernel
theorem dX7_nextOrder_76 : decode cX7_nextOrder 76 = .ok (.getfield 81, 3) := by decide +kernel
theorem dX7_nextOrder_79 : decode cX7_nextOrder 79 = .ok (.iload_n 1, 1) := by decide +kernel
theorem dX7_nextOrder_80 : decode cX7_nextOrder 80 = .ok (.aload_n 0, 1) := by decide +kernel
theorem dX7_nextOrder_81 : decode cX7_nextOrder 81 = .ok (.getfield 81, 3) := by decide +kernel
theorem dX7_nextOrder_84 : decode cX7_nextOrder 84 = .ok (.iload_n 2, 1) := by decide +kernel
theorem dX7_nextOrder_85 : decode cX7_nextOrder 85 = .ok (.iaload, 1) := by decide +kernel
theorem dX7_nextOrder_86 : decode cX7_nextOrder 86 = .ok (.iastore, 1) := by decide +kernel
theorem dX7_nextOrder_87 : decode cX7_nextOrder 87 = .ok (.aload_n 0, 1) := by decide +kernel
theorem dX7_nextOrder_88 : decode cX7_nextOrder 88 = .ok (.getfield 81, 3) := by decide +kernel
theorem dX7_nextOrder_91 : decode cX7_nextOrder 91 = .ok (.iload_n 2, 1) := by decide +kernel
theorem dX7_nextOrder_92 : decode cX7_nextOrder 92 = .ok (.iload_n 3, 1) := by decide +kernel
theorem dX7_nextOrder_93 : decode cX7_nextOrder 93 = .ok (.iastore, 1) := by decide +kernel
theorem dX7_nextOrder_94 : decode cX7_nextOrder 94 = .ok (.iload_n 1, 1) := by decide +kernel
theorem dX7_nextOrder_95 : decode cX7_nextOrder 95 = .ok (.iconst 1, 1) := by decide +kernel
theorem dX7_nextOrder_96 : decode cX7_nextOrder 96 = .ok (.iadd, 1) := by decide +kernel
theorem dX7_nextOrder_97 : decode cX7_nextOrder 97 = .ok (.istore 4, 2) := by decide +kernel
theorem dX7_nextOrder_99 : decode cX7_nextOrder 99 = .ok (.aload_n 0, 1) := by decide +kernel
theorem dX7_nextOrder_100 : decode cX7_nextOrder 100 = .ok (.getfield 101, 3) := by decide +kernel
theorem dX7_nextOrder_103 : decode cX7_nextOrder 103 = .ok (.iconst 1, 1) := by decide +kernel
theorem dX7_nextOrder_104 : decode cX7_nextOrder 104 = .ok (.isub, 1) := by decide +kernel
theorem dX7_nextOrder_105 : decode cX7_nextOrder 105 = .ok (.istore 5, 2) := by decide +kernel
theorem dX7_nextOrder_107 : decode cX7_nextOrder 107 = .ok (.iload 4, 2) := by decide +kernel
theorem dX7_nextOrder_109 : decode cX7_nextOrder 109 = .ok (.iload 5, 2) := by decide +kernel
theorem dX7_nextOrder_111 : decode cX7_nextOrder 111 = .ok (.if_icmp .ge 44, 3) := by decide +kernel
theorem dX7_nextOrder_114 : decode cX7_nextOrder 114 = .ok (.aload_n 0, 1) := by decide +kernel
theorem dX7_nextOrder_115 : decode cX7_nextOrder 115 = .ok (.getfield 81, 3) := by decide +kernel
theorem dX7_nextOrder_118 : decode cX7_nextOrder 118 = .ok (.iload 4, 2) := by decide +kernel
theorem dX7_nextOrder_120 : decode cX7_nextOrder 120 = .ok (.iaload, 1) := by decide +kernel
theorem dX7_nextOrder_121 : decode cX7_nextOrder 121 = .ok (.istore 6, 2) := by decide +kernel
theorem dX7_nextOrder_123 : decode cX7_nextOrder 123 = .ok (.aload_n 0, 1) := by decide +kernel
theorem dX7_nextOrder_124 : decode cX7_nextOrder 124 = .ok (.getfield 81, 3) := by decide +kernel
theorem dX7_nextOrder_127 : decode cX7_nextOrder 127 = .ok (.iload 4, 2) := by decide +kernel
theorem dX7_nextOrder_129 : decode cX7_nextOrder 129 = .ok (.aload_n 0, 1) := by decide +kernel
theorem dX7_nextOrder_130 : decode cX7_nextOrder 130 = .ok (.getfield 81, 3) := by decide +kernel
theorem dX7_nextOrder_133 : decode cX7_nextOrder 133 = .ok (.iload 5, 2) := by decide +kernel
theorem dX7_nextOrder_135 : decode cX7_nextOrder 135 = .ok (.iaload, 1) := by decide +kernel
theorem dX7_nextOrder_136 : decode cX7_nextOrder 136 = .ok (.iastore, 1) := by decide +kernel
theorem dX7_nextOrder_137 : decode cX7_nextOrder 137 = .ok (.aload_n 0, 1) := by decide +kernel
theorem dX7_nextOrder_138 : decode cX7_nextOrder 138 = .ok (.getfield 81, 3) := by decide +kernel
theorem dX7_nextOrder_141 : decode cX7_nextOrder 141 = .ok (.iload 5, 2) := by decide +kernel
theorem dX7_nextOrder_143 : decode cX7_nextOrder 143 = .ok (.iload 6, 2) := by decide +kernel
theorem dX7_nextOrder_145 : decode cX7_nextOrder 145 = .ok (.iastore, 1) := by decide +kernel
theorem dX7_nextOrder_146 : decode cX7_nextOrder 146 = .ok (.iinc 4 1, 3) := by decide +kernel
theorem dX7_nextOrder_149 : decode cX7_nextOrder 149 = .ok (.iinc 5 (-1), 3) := by decide +kernel
theorem dX7_nextOrder_152 : decode cX7_nextOrder 152 = .ok (.goto (-45), 3) := by decide +kernel
theorem dX7_nextOrder_155 : decode cX7_nextOrder 155 = .ok (.iconst 1, 1) := by decide +kernel
theorem dX7_nextOrder_156 : decode cX7_nextOrder 156 = .ok (.ireturn, 1) := by decide +kernel
def F_X7_nextOrder_107 (fu : Nat) : Nat → Mm → Int32 → Int32 → Option (Int32 × Mm)
  | 0, _, _, _ => none
  | n + 1, M, x4, x5 =>
    if x5 ≤ x4 then
      some ((1 : Int32), M)
    else
      if x4 < 0 ∨ ln 109 ≤ x4.toNatClampNeg then none else (
      if x5 < 0 ∨ ln 109 ≤ x5.toNatClampNeg then none else (
      if x4 < 0 ∨ ln 109 ≤ x4.toNatClampNeg then none else (
      lt1 (pI M 109 x4.toNatClampNeg (M.1 109 x5.toNatClampNeg)) (fun M5 =>
      if x5 < 0 ∨ ln 109 ≤ x5.toNatClampNeg then none else (
      lt1 (pI M5 109 x5.toNatClampNeg (M.1 109 x4.toNatClampNeg)) (fun M7 =>
      F_X7_nextOrder_107 fu n M7 (x4 + (1 : Int32)) (x5 + (-1 : Int32))))))))
set_option maxRecDepth 100000 in
set_option maxHeartbeats 4000000 in
theorem w_X7_nextOrder_107 {p : Program} {l : Launch} {e : Env} {s : State} {m : MethodId} {args : Array Value} {below : List Frame} {meth : Method} {c : Code} {G : Gv} (hC : Cx p s m args meth c cX7_nextOrder 7 (some .boolean) RX7) {fu : Nat} {r : Int32} {M' : Mm} : ∀ (n : Nat) {x4 : Int32} {x5 : Int32} {M : Mm} {H : Heap} {locs : List Loc} {ls : Array Slot}, F_X7_nextOrder_107 fu n M x4 x5 = some (r, M') → St G s H locs M → lv_has ls 7 [(0, .ref (ad G 86)), (4, .int x4), (5, .int x5)] → W p l e rm_X7_nextOrder s m args below meth c H locs 0 0 (MQ below (QI G r M') args s 0 0 (zA G)) (F0 m 107 ls []) := by
  intro n
  induction n with
  | zero =>
    intro x4 x5 M H locs ls hF hw hl
    cases hF
  | succ n ih =>
    intro x4 x5 M H locs ls hF hw hl
    unfold F_X7_nextOrder_107 at hF
    refine lv_iload hC.1 hC.2.1 dX7_nextOrder_107 (lv_at hl 1 rfl) ?_
    refine lv_iload hC.1 hC.2.1 dX7_nextOrder_109 (lv_at hl 2 rfl) ?_
    refine lv_icmp_ge (tgt := 155) hC.1 hC.2.1 dX7_nextOrder_111 (by decide) (fun b1 => ?_) (fun b1 => ?_)
    · have hF := ifP hF b1
      refine lv_iconst (v := (1 : Int32)) hC.1 hC.2.1 dX7_nextOrder_155 (by decide) ?_
      exact r_zretE hC hw (by decide) hF dX7_nextOrder_156
    · have hF := ifN hF b1
      refine lv_aload_n hC.1 hC.2.1 dX7_nextOrder_114 rfl (lv_at hl 0 rfl) ?_
      refine g7_order hC hw q4_155 dX7_nextOrder_115 ?_
      refine lv_iload hC.1 hC.2.1 dX7_nextOrder_118 (lv_at hl 1 rfl) ?_
      obtain ⟨n2, hF⟩ := ifO hF
      refine r_iald hC.1 hC.2.1 hw (rfl : kd 109 = 1) n2 dX7_nextOrder_120 ?_
      refine lv_istore (lv' := [(6, .int (M.1 109 x4.toNatClampNeg)), (0, .ref (ad G 86)), (4, .int x4), (5, .int x5)]) hC.1 hC.2.1 dX7_nextOrder_121 hl (by decide) rfl (fun ls hl => ?_)
      refine lv_aload_n hC.1 hC.2.1 dX7_nextOrder_123 rfl (lv_at hl 1 rfl) ?_
      refine g7_order hC hw q4_155 dX7_nextOrder_124 ?_
      refine lv_iload hC.1 hC.2.1 dX7_nextOrder_127 (lv_at hl 2 rfl) ?_
      refine lv_aload_n hC.1 hC.2.1 dX7_nextOrder_129 rfl (lv_at hl 1 rfl) ?_
      refine g7_order hC hw q4_155 dX7_nextOrder_130 ?_
      refine lv_iload hC.1 hC.2.1 dX7_nextOrder_133 (lv_at hl 3 rfl) ?_
      obtain ⟨n3, hF⟩ := ifO hF
      refine r_iald hC.1 hC.2.1 hw (rfl : kd 109 = 1) n3 dX7_nextOrder_135 ?_
      obtain ⟨n4, hF⟩ := ifO hF
      refine r_iast hC.1 hC.2.1 hw (rfl : kd 109 = 1) n4 dX7_nextOrder_136 (fun H locs hw => ?_)
      obtain ⟨M5, hw, hF⟩ := lt1W hF hw
      refine lv_aload_n hC.1 hC.2.1 dX7_nextOrder_137 rfl (lv_at hl 1 rfl) ?_
      refine g7_order hC hw q4_155 dX7_nextOrder_138 ?_
      refine lv_iload hC.1 hC.2.1 dX7_nextOrder_141 (lv_at hl 3 rfl) ?_
      refine lv_iload hC.1 hC.2.1 dX7_nextOrder_143 (lv_at hl 0 rfl) ?_
      obtain ⟨n6, hF⟩ := ifO hF
      refine r_iast hC.1 hC.2.1 hw (rfl : kd 109 = 1) n6 dX7_nextOrder_145 (fun H locs hw => ?_)
      obtain ⟨M7, hw, hF⟩ := lt1W hF hw
      refine lv_iinc (v := (x4 + (1 : Int32))) (lv' := [(4, .int (x4 + (1 : Int32))), (6, .int (M.1 109 x4.toNatClampNeg)), (0, .ref (ad G 86)), (5, .int x5)]) hC.1 hC.2.1 dX7_nextOrder_146 hl (k := 2) rfl rfl (by decide) rfl (fun ls hl => ?_)
      refine lv_iinc (v := (x5 + (-1 : Int32))) (lv' := [(5, .int (x5 + (-1 : Int32))), (4, .int (x4 + (1 : Int32))), (6, .int (M.1 109 x4.toNatClampNeg)), (0, .ref (ad G 86))]) hC.1 hC.2.1 dX7_nextOrder_149 hl (k := 3) rfl rfl (by decide) rfl (fun ls hl => ?_)
      refine lv_goto (tgt := 107) hC.1 hC.2.1 dX7_nextOrder_152 (by decide) ?_
      exact ih hF hw (lv_sub hl [3, 1, 0] rfl)
def F_X7_nextOrder_47 (fu : Nat) : Nat → Mm → Int32 → Int32 → Option (Int32 × Mm)
  | 0, _, _, _ => none
  | n + 1, M, x1, x2 =>
    if x2 < 0 ∨ ln 109 ≤ x2.toNatClampNeg then none else (
    if x1 < 0 ∨ ln 109 ≤ x1.toNatClampNeg then none else (
    if (M.1 109 x1.toNatClampNeg) ≤ (M.1 109 x2.toNatClampNeg) then
      if x1 < 0 ∨ ln 109 ≤ x1.toNatClampNeg then none else (
      if x2 < 0 ∨ ln 109 ≤ x2.toNatClampNeg then none else (
      if x1 < 0 ∨ ln 109 ≤ x1.toNatClampNeg then none else (
      lt1 (pI M 109 x1.toNatClampNeg (M.1 109 x2.toNatClampNeg)) (fun M7 =>
      if x2 < 0 ∨ ln 109 ≤ x2.toNatClampNeg then none else (
      lt1 (pI M7 109 x2.toNatClampNeg (M.1 109 x1.toNatClampNeg)) (fun M9 =>
      F_X7_nextOrder_107 fu fu M9 (x1 + (1 : Int32)) ((M9.1 86 4) - (1 : Int32))))))))
    else
      F_X7_nextOrder_47 fu n M x1 (x2 + (-1 : Int32))))
set_option maxRecDepth 100000 in
set_option maxHeartbeats 4000000 in
theorem w_X7_nextOrder_47 {p : Program} {l : Launch} {e : Env} {s : State} {m : MethodId} {args : Array Value} {below : List Frame} {meth : Method} {c : Code} {G : Gv} (hC : Cx p s m args meth c cX7_nextOrder 7 (some .boolean) RX7) {fu : Nat} {r : Int32} {M' : Mm} : ∀ (n : Nat) {x1 : Int32} {x2 : Int32} {M : Mm} {H : Heap} {locs : List Loc} {ls : Array Slot}, F_X7_nextOrder_47 fu n M x1 x2 = some (r, M') → St G s H locs M → lv_has ls 7 [(0, .ref (ad G 86)), (1, .int x1), (2, .int x2)] → W p l e rm_X7_nextOrder s m args below meth c H locs 0 0 (MQ below (QI G r M') args s 0 0 (zA G)) (F0 m 47 ls []) := by
  intro n
  induction n with
  | zero =>
    intro x1 x2 M H locs ls hF hw hl
    cases hF
  | succ n ih =>
    intro x1 x2 M H locs ls hF hw hl
    unfold F_X7_nextOrder_47 at hF
    refine lv_aload_n hC.1 hC.2.1 dX7_nextOrder_47 rfl (lv_at hl 0 rfl) ?_
    refine g7_order hC hw q4_155 dX7_nextOrder_48 ?_
    refine lv_iload_n hC.1 hC.2.1 dX7_nextOrder_51 rfl (lv_at hl 2 rfl) ?_
    obtain ⟨n1, hF⟩ := ifO hF
    refine r_iald hC.1 hC.2.1 hw (rfl : kd 109 = 1) n1 dX7_nextOrder_52 ?_
    refine lv_aload_n hC.1 hC.2.1 dX7_nextOrder_53 rfl (lv_at hl 0 rfl) ?_
    refine g7_order hC hw q4_155 dX7_nextOrder_54 ?_
    refine lv_iload_n hC.1 hC.2.1 dX7_nextOrder_57 rfl (lv_at hl 1 rfl) ?_
    obtain ⟨n2, hF⟩ := ifO hF
    refine r_iald hC.1 hC.2.1 hw (rfl : kd 109 = 1) n2 dX7_nextOrder_58 ?_
    refine lv_icmp_ge (tgt := 68) hC.1 hC.2.1 dX7_nextOrder_59 (by decide) (fun b3 => ?_) (fun b3 => ?_)
    · have hF := ifP hF b3
      refine lv_aload_n hC.1 hC.2.1 dX7_nextOrder_68 rfl (lv_at hl 0 rfl) ?_
      refine g7_order hC hw q4_155 dX7_nextOrder_69 ?_
      refine lv_iload_n hC.1 hC.2.1 dX7_nextOrder_72 rfl (lv_at hl 1 rfl) ?_
      obtain ⟨n4, hF⟩ := ifO hF
      refine r_iald hC.1 hC.2.1 hw (rfl : kd 109 = 1) n4 dX7_nextOrder_73 ?_
      refine lv_istore_n (lv' := [(3, .int (M.1 109 x1.toNatClampNeg)), (0, .ref (ad G 86)), (1, .int x1), (2, .int x2)]) hC.1 hC.2.1 dX7_nextOrder_74 rfl hl (by decide) rfl (fun ls hl => ?_)
      refine lv_aload_n hC.1 hC.2.1 dX7_nextOrder_75 rfl (lv_at hl 1 rfl) ?_
      refine g7_order hC hw q4_155 dX7_nextOrder_76 ?_
      refine lv_iload_n hC.1 hC.2.1 dX7_nextOrder_79 rfl (lv_at hl 2 rfl) ?_
      refine lv_aload_n hC.1 hC.2.1 dX7_nextOrder_80 rfl (lv_at hl 1 rfl) ?_
      refine g7_order hC hw q4_155 dX7_nextOrder_81 ?_
      refine lv_iload_n hC.1 hC.2.1 dX7_nextOrder_84 rfl (lv_at hl 3 rfl) ?_
      obtain ⟨n5, hF⟩ := ifO hF
      refine r_iald hC.1 hC.2.1 hw (rfl : kd 109 = 1) n5 dX7_nextOrder_85 ?_
      obtain ⟨n6, hF⟩ := ifO hF
      refine r_iast hC.1 hC.2.1 hw (rfl : kd 109 = 1) n6 dX7_nextOrder_86 (fun H locs hw => ?_)
      obtain ⟨M7, hw, hF⟩ := lt1W hF hw
      refine lv_aload_n hC.1 hC.2.1 dX7_nextOrder_87 rfl (lv_at hl 1 rfl) ?_
      refine g7_order hC hw q4_155 dX7_nextOrder_88 ?_
      refine lv_iload_n hC.1 hC.2.1 dX7_nextOrder_91 rfl (lv_at hl 3 rfl) ?_
      refine lv_iload_n hC.1 hC.2.1 dX7_nextOrder_92 rfl (lv_at hl 0 rfl) ?_
      obtain ⟨n8, hF⟩ := ifO hF
      refine r_iast hC.1 hC.2.1 hw (rfl : kd 109 = 1) n8 dX7_nextOrder_93 (fun H locs hw => ?_)
      obtain ⟨M9, hw, hF⟩ := lt1W hF hw
      refine lv_iload_n hC.1 hC.2.1 dX7_nextOrder_94 rfl (lv_at hl 2 rfl) ?_
      refine lv_iconst (v := (1 : Int32)) hC.1 hC.2.1 dX7_nextOrder_95 (by decide) ?_
      refine lv_iadd hC.1 hC.2.1 dX7_nextOrder_96 ?_
      refine lv_istore (lv' := [(4, .int (x1 + (1 : Int32))), (3, .int (M.1 109 x1.toNatClampNeg)), (0, .ref (ad G 86)), (1, .int x1), (2, .int x2)]) hC.1 hC.2.1 dX7_nextOrder_97 hl (by decide) rfl (fun ls hl => ?_)
      refine lv_aload_n hC.1 hC.2.1 dX7_nextOrder_99 rfl (lv_at hl 2 rfl) ?_
      refine g7_men hC hw q4_126 dX7_nextOrder_100 ?_
      refine lv_iconst (v := (1 : Int32)) hC.1 hC.2.1 dX7_nextOrder_103 (by decide) ?_
      refine lv_isub hC.1 hC.2.1 dX7_nextOrder_104 ?_
      refine lv_istore (lv' := [(5, .int ((M9.1 86 4) - (1 : Int32))), (4, .int (x1 + (1 : Int32))), (3, .int (M.1 109 x1.toNatClampNeg)), (0, .ref (ad G 86)), (1, .int x1), (2, .int x2)]) hC.1 hC.2.1 dX7_nextOrder_105 hl (by decide) rfl (fun ls hl => ?_)
      exact w_X7_nextOrder_107 hC _ hF hw (lv_sub hl [3, 1, 0] rfl)
    · have hF := ifN hF b3
      refine lv_iinc (v := (x2 + (-1 : Int32))) (lv' := [(2, .int (x2 + (-1 : Int32))), (0, .ref (ad G 86)), (1, .int x1)]) hC.1 hC.2.1 dX7_nextOrder_62 hl (k := 2) rfl rfl (by decide) rfl (fun ls hl => ?_)
      refine lv_goto (tgt := 47) hC.1 hC.2.1 dX7_nextOrder_65 (by decide) ?_
      exact ih hF hw (lv_sub hl [1, 2, 0] rfl)
def F_X7_nextOrder_34 (fu : Nat) (M : Mm) (x1 : Int32) : Option (Int32 × Mm) :=
  if 0 ≤ x1 then
    F_X7_nextOrder_47 fu fu M x1 ((M.1 86 4) - (1 : Int32))
  else
    some ((0 : Int32), M)
set_option maxRecDepth 100000 in
set_option maxHeartbeats 4000000 in
theorem w_X7_nextOrder_34 {p : Program} {l : Launch} {e : Env} {s : State} {m : MethodId} {args : Array Value} {below : List Frame} {meth : Method} {c : Code} {G : Gv} (hC : Cx p s m args meth c cX7_nextOrder 7 (some .boolean) RX7) {fu : Nat} {r : Int32} {M' : Mm} {x1 : Int32} {M : Mm} {H : Heap} {locs : List Loc} {ls : Array Slot} (hF : F_X7_nextOrder_34 fu M x1 = some (r, M')) (hw : St G s H locs M) (hl : lv_has ls 7 [(0, .ref (ad G 86)), (1, .int x1)]) : W p l e rm_X7_nextOrder s m args below meth c H locs 0 0 (MQ below (QI G r M') args s 0 0 (zA G)) (F0 m 34 ls []) := by
  unfold F_X7_nextOrder_34 at hF
  refine lv_iload_n hC.1 hC.2.1 dX7_nextOrder_34 rfl (lv_at hl 1 rfl) ?_
  refine lv_if_ge (tgt := 40) hC.1 hC.2.1 dX7_nextOrder_35 (by decide) (fun b1 => ?_) (fun b1 => ?_)
  · have hF := ifP hF b1
    refine lv_aload_n hC.1 hC.2.1 dX7_nextOrder_40 rfl (lv_at hl 0 rfl) ?_
    refine g7_men hC hw q4_126 dX7_nextOrder_41 ?_
    refine lv_iconst (v := (1 : Int32)) hC.1 hC.2.1 dX7_nextOrder_44 (by decide) ?_
    refine lv_isub hC.1 hC.2.1 dX7_nextOrder_45 ?_
    refine lv_istore_n (lv' := [(2, .int ((M.1 86 4) - (1 : Int32))), (0, .ref (ad G 86)), (1, .int x1)]) hC.1 hC.2.1 dX7_nextOrder_46 rfl hl (by decide) rfl (fun ls hl => ?_)
    exact w_X7_nextOrder_47 hC _ hF hw (lv_sub hl [1, 2, 0] rfl)
  · have hF := ifN hF b1
    refine lv_iconst (v := (0 : Int32)) hC.1 hC.2.1 dX7_nextOrder_38 (by decide) ?_
    exact r_zretE hC hw (by decide) hF dX7_nextOrder_39
def F_X7_nextOrder_7 (fu : Nat) : Nat → Mm → Int32 → Option (Int32 × Mm)
  | 0, _, _ => none
  | n + 1, M, x1 =>
    if x1 < 0 then
      F_X7_nextOrder_34 fu M x1
    else
      if x1 < 0 ∨ ln 109 ≤ x1.toNatClampNeg then none else (
      if (x1 + (1 : Int32)) < 0 ∨ ln 109 ≤ (x1 + (1 : Int32)).toNatClampNeg then none else (
      if (M.1 109 x1.toNatClampNeg) ≤ (M.1 109 (x1 + (1 : Int32)).toNatClampNeg) then
        F_X7_nextOrder_34 fu M x1
      else
        F_X7_nextOrder_7 fu n M (x1 + (-1 : Int32))))
set_option maxRecDepth 100000 in
set_option maxHeartbeats 4000000 in
theorem w_X7_nextOrder_7 {p : Program} {l : Launch} {e : Env} {s : State} {m : MethodId} {args : Array Value} {below : List Frame} {meth : Method} {c : Code} {G : Gv} (hC : Cx p s m args meth c cX7_nextOrder 7 (some .boolean) RX7) {fu : Nat} {r : Int32} {M' : Mm} : ∀ (n : Nat) {x1 : Int32} {M : Mm} {H : Heap} {locs : List Loc} {ls : Array Slot}, F_X7_nextOrder_7 fu n M x1 = some (r, M') → St G s H locs M → lv_has ls 7 [(0, .ref (ad G 86)), (1, .int x1)] → W p l e rm_X7_nextOrder s m args below meth c H locs 0 0 (MQ below (QI G r M') args s 0 0 (zA G)) (F0 m 7 ls []) := by
  intro n
  induction n with
  | zero =>
    intro x1 M H locs ls hF hw hl
    cases hF
  | succ n ih =>
    intro x1 M H locs ls hF hw hl
    unfold F_X7_nextOrder_7 at hF
    refine lv_iload_n hC.1 hC.2.1 dX7_nextOrder_7 rfl (lv_at hl 1 rfl) ?_
    refine lv_if_lt (tgt := 34) hC.1 hC.2.1 dX7_nextOrder_8 (by decide) (fun b1 => ?_) (fun b1 => ?_)
    · have hF := ifP hF b1
      exact w_X7_nextOrder_34 hC hF hw (lv_sub hl [0, 1] rfl)
    · have hF := ifN hF b1
      refine lv_aload_n hC.1 hC.2.1 dX7_nextOrder_11 rfl (lv_at hl 0 rfl) ?_
      refine g7_order hC hw q4_155 dX7_nextOrder_12 ?_
      refine lv_iload_n hC.1 hC.2.1 dX7_nextOrder_15 rfl (lv_at hl 1 rfl) ?_
      obtain ⟨n2, hF⟩ := ifO hF
      refine r_iald hC.1 hC.2.1 hw (rfl : kd 109 = 1) n2 dX7_nextOrder_16 ?_
      refine lv_aload_n hC.1 hC.2.1 dX7_nextOrder_17 rfl (lv_at hl 0 rfl) ?_
      refine g7_order hC hw q4_155 dX7_nextOrder_18 ?_
      refine lv_iload_n hC.1 hC.2.1 dX7_nextOrder_21 rfl (lv_at hl 1 rfl) ?_
      refine lv_iconst (v := (1 : Int32)) hC.1 hC.2.1 dX7_nextOrder_22 (by decide) ?_
      refine lv_iadd hC.1 hC.2.1 dX7_nextOrder_23 ?_
      obtain ⟨n3, hF⟩ := ifO hF
      refine r_iald hC.1 hC.2.1 hw (rfl : kd 109 = 1) n3 dX7_nextOrder_24 ?_
      refine lv_icmp_le (tgt := 34) hC.1 hC.2.1 dX7_nextOrder_25 (by decide) (fun b4 => ?_) (fun b4 => ?_)
      · have hF := ifP hF b4
        exact w_X7_nextOrder_34 hC hF hw (lv_sub hl [0, 1] rfl)
      · have hF := ifN hF b4
        refine lv_iinc (v := (x1 + (-1 : Int32))) (lv' := [(1, .int (x1 + (-1 : Int32))), (0, .ref (ad G 86))]) hC.1 hC.2.1 dX7_nextOrder_28 hl (k := 1) rfl rfl (by decide) rfl (fun ls hl => ?_)
        refine lv_goto (tgt := 7) hC.1 hC.2.1 dX7_nextOrder_31 (by decide) ?_
        exact ih hF hw (lv_sub hl [1, 0] rfl)
def F_X7_nextOrder (fu : Nat) (M : Mm) : Option (Int32 × Mm) :=
  F_X7_nextOrder_7 fu fu M ((M.1 86 4) - (2 : Int32))
set_option maxRecDepth 100000 in
set_option maxHeartbeats 4000000 in
theorem c_X7_nextOrder {l : Launch} {G : Gv} {fu : Nat} {M : Mm} {r : Int32} {M' : Mm} (hF : F_X7_nextOrder fu M = some (r, M')) : Met l yX7_nextOrder (.code yX7_nextOrder cX7_nextOrder 7 (some .boolean) :: zU) rm_X7_nextOrder (va_Pc [.ref (ad G 86)] (Wd G M)) (QI G r M') 0 0 (zA G) := by
  refine zMet (by decide) rfl (Nat.le_of_ble_eq_true rfl) ?_
  intro p e s m below meth c hC hw ls hl
  have hl : lv_has ls 7 [(0, .ref (ad G 86))] := hl
  unfold F_X7_nextOrder at hF
  refine lv_aload_n hC.1 hC.2.1 dX7_nextOrder_0 rfl (lv_at hl 0 rfl) ?_
  refine g7_men hC hw q4_126 dX7_nextOrder_1 ?_
  refine lv_iconst (v := (2 : Int32)) hC.1 hC.2.1 dX7_nextOrder_4 (by decide) ?_
  refine lv_isub hC.1 hC.2.1 dX7_nextOrder_5 ?_
  refine lv_istore_n (lv' := [(1, .int ((M.1 86 4) - (2 : Int32))), (0, .ref (ad G 86))]) hC.1 hC.2.1 dX7_nextOrder_6 rfl hl (by decide) rfl (fun ls hl => ?_)
  exact w_X7_nextOrder_7 hC _ hF hw (lv_sub hl [1, 0] rfl)
abbrev rm_X7_census : Room := { frames := 4, cells := 0, slots := 0, locals := 90 }
theorem yv_X7_census : YV yX7_census cX7_census 6 (some .int) 1 RX7 := ⟨⟨q6_33, q6_34, q1_8, q6_35⟩, by decide +kernel⟩
theorem dX7_census_0 : decode cX7_census 0 = .ok (.iload_n 1, 1) := by decide +kernel
theorem dX7_census_1 : decode cX7_census 1 = .ok (.invokestatic 114, 3) := by decide +kernel
theorem dX7_census_4 : decode cX7_census 4 = .ok (.ifCond .ne 5, 3) := by decide +kernel
theorem dX7_census_7 : decode cX7_census 7 = .ok (.iconst (-1), 1) := by decide +kernel
theorem dX7_census_8 : decode cX7_census 8 = .ok (.ireturn, 1) := by decide +kernel
theorem dX7_census_9 : decode cX7_census 9 = .ok (.aload_n 0, 1) := by decide +kernel
theorem dX7_census_10 : decode cX7_census 10 = .ok (.getfield 101, 3) := by decide +kernel
theorem dX7_census_13 : decode cX7_census 13 = .ok (.ifCond .ne 6, 3) := by decide +kernel
theorem dX7_census_16 : decode cX7_census 16 = .ok (.bipush (-4), 2) := by decide +kernel
theorem dX7_census_18 : decode cX7_census 18 = .ok (.ireturn, 1) := by decide +kernel
theorem dX7_census_19 : decode cX7_census 19 = .ok (.aload_n 0, 1) := by decide +kernel
theorem dX7_census_20 : decode cX7_census 20 = .ok (.invokevirtual 263, 3) := by decide +kernel
theorem dX7_census_23 : decode cX7_census 23 = .ok (.bipush (-9), 2) := by decide +kernel
theorem dX7_census_25 : decode cX7_census 25 = .ok (.istore_n 2, 1) := by decide +kernel
theorem dX7_census_26 : decode cX7_census 26 = .ok (.iconst 1, 1) := by decide +kernel
theorem dX7_census_27 : decode cX7_census 27 = .ok (.istore_n 3, 1) := by decide +kernel
theorem dX7_census_28 : decode cX7_census 28 = .ok (.iload_n 3, 1) := by decide +kernel
theorem dX7_census_29 : decode cX7_census 29 = .ok (.ifCond .eq 62, 3) := by decide +kernel
theorem dX7_census_32 : decode cX7_census 32 = .ok (.aload_n 0, 1) := by decide +kernel
theorem dX7_census_33 : decode cX7_census 33 = .ok (.invokevirtual 266, 3) := by decide +kernel
theorem dX7_census_36 : decode cX7_census 36 = .ok (.istore 4, 2) := by decide +kernel
theorem dX7_census_38 : decode cX7_census 38 = .ok (.iconst 0, 1) := by decide +kernel
theorem dX7_census_39 : decode cX7_census 39 = .ok (.istore 5, 2) := by decide +kernel
theorem dX7_census_41 : decode cX7_census 41 = .ok (.iload 5, 2) := by decide +kernel
theorem dX7_census_43 : decode cX7_census 43 = .ok (.aload_n 0, 1) := by decide +kernel
theorem dX7_census_44 : decode cX7_census 44 = .ok (.getfield 101, 3) := by decide +kernel
theorem dX7_census_47 : decode cX7_census 47 = .ok (.if_icmp .ge 29, 3) := by decide +kernel
theorem dX7_census_50 : decode cX7_census 50 = .ok (.iload 4, 2) := by decide +kernel
theorem dX7_census_52 : decode cX7_census 52 = .ok (.iload_n 2, 1) := by decide +kernel
theorem dX7_census_53 : decode cX7_census 53 = .ok (.if_icmp .le 23, 3) := by decide +kernel
theorem dX7_census_56 : decode cX7_census 56 = .ok (.aload_n 0, 1) := by decide +kernel
theorem dX7_census_57 : decode cX7_census 57 = .ok (.getfield 84, 3) := by decide +kernel
theorem dX7_census_60 : decode cX7_census 60 = .ok (.iload 5, 2) := by decide +kernel
theorem dX7_census_62 : decode cX7_census 62 = .ok (.aload_n 0, 1) := by decide +kernel
theorem dX7_census_63 : decode cX7_census 63 = .ok (.getfield 81, 3) := by decide +kernel
theorem dX7_census_66 : decode cX7_census 66 = .ok (.iload 5, 2) := by decide +kernel
theorem dX7_census_68 : decode cX7_census 68 = .ok (.iaload, 1) := by decide +kernel
theorem dX7_census_69 : decode cX7_census 69 = .ok (.iastore, 1) := by decide +kernel
theorem dX7_census_70 : decode cX7_census 70 = .ok (.iinc 5 1, 3) := by decide +kernel
theorem dX7_census_73 : decode cX7_census 73 = .ok (.goto (-32), 3) := by decide +kernel
theorem dX7_census_76 : decode cX7_census 76 = .ok (.iload_n 2, 1) := by decide +kernel
theorem dX7_census_77 : decode cX7_census 77 = .ok (.iload 4, 2) := by decide +kernel
theorem dX7_census_79 : decode cX7_census 79 = .ok (.invokestatic 173, 3) := by decide +kernel
theorem dX7_census_82 : decode cX7_census 82 = .ok (.istore_n 2, 1) := by decide +kernel
theorem dX7_census_83 : decode cX7_census 83 = .ok (.aload_n 0, 1) := by decide +kernel
theorem dX7_census_84 : decode cX7_census 84 = .ok (.invokevirtual 269, 3) := by decide +kernel
theorem dX7_census_87 : decode cX7_census 87 = .ok (.istore_n 3, 1) := by decide +kernel
theorem dX7_census_88 : decode cX7_census 88 = .ok (.goto (-60), 3) := by decide +kernel
theorem dX7_census_91 : decode cX7_census 91 = .ok (.aload_n 0, 1) := by decide +kernel
theorem dX7_census_92 : decode cX7_census 92 = .ok (.iload_n 1, 1) := by decide +kernel
theorem dX7_census_93 : decode cX7_census 93 = .ok (.aload_n 0, 1) := by decide +kernel
theorem dX7_census_94 : decode cX7_census 94 = .ok (.getfield 101, 3) := by decide +kernel
theorem dX7_census_97 : decode cX7_census 97 = .ok (.invokevirtual 122, 3) := by decide +kernel
theorem dX7_census_100 : decode cX7_census 100 = .ok (.iconst 0, 1) := by decide +kernel
theorem dX7_census_101 : decode cX7_census 101 = .ok (.istore 4, 2) := by decide +kernel
theorem dX7_census_103 : decode cX7_census 103 = .ok (.iload 4, 2) := by decide +kernel
theorem dX7_census_105 : decode cX7_census 105 = .ok (.aload_n 0, 1) := by decide +kernel
theorem dX7_census_106 : decode cX7_census 106 = .ok (.getfield 101, 3) := by decide +kernel
theorem dX7_census_109 : decode cX7_census 109 = .ok (.if_icmp .ge 28, 3) := by decide +kernel
theorem dX7_census_112 : decode cX7_census 112 = .ok (.aload_n 0, 1) := by decide +kernel
theorem dX7_census_113 : decode cX7_census 113 = .ok (.getfield 7, 3) := by decide +kernel
theorem dX7_census_116 : decode cX7_census 116 = .ok (.bipush 40, 2) := by decide +kernel
theorem dX7_census_118 : decode cX7_census 118 = .ok (.iload_n 1, 1) := by decide +kernel
theorem dX7_census_119 : decode cX7_census 119 = .ok (.imul, 1) := by decide +kernel
theorem dX7_census_120 : decode cX7_census 120 = .ok (.iload 4, 2) := by decide +kernel
theorem dX7_census_122 : decode cX7_census 122 = .ok (.iadd, 1) := by decide +kernel
theorem dX7_census_123 : decode cX7_census 123 = .ok (.aload_n 0, 1) := by decide +kernel
theorem dX7_census_124 : decode cX7_census 124 = .ok (.getfield 84, 3) := by decide +kernel
theorem dX7_census_127 : decode cX7_census 127 = .ok (.iload 4, 2) := by decide +kernel
theorem dX7_census_129 : decode cX7_census 129 = .ok (.iaload, 1) := by decide +kernel
theorem dX7_census_130 : decode cX7_census 130 = .ok (.iastore, 1) := by decide +kernel
theorem dX7_census_131 : decode cX7_census 131 = .ok (.iinc 4 1, 3) := by decide +kernel
theorem dX7_census_134 : decode cX7_census 134 = .ok (.goto (-31), 3) := by decide +kernel
theorem dX7_census_137 : decode cX7_census 137 = .ok (.iload_n 2, 1) := by decide +kernel
theorem dX7_census_138 : decode cX7_census 138 = .ok (.ireturn, 1) := by decide +kernel
def F_X7_census_76 (fu : Nat) (k28 : Mm → Int32 → Int32 → Int32 → Option (Int32 × Mm)) (M : Mm) (x1 : Int32) (x2 : Int32) (x4 : Int32) : Option (Int32 × Mm) :=
  ob1 (F_X7_most fu M x2 x4) (fun r2 =>
  ob2 (F_X7_nextOrder fu M) (fun r4 M5 =>
  k28 M5 x1 r2 r4))
set_option maxRecDepth 100000 in
set_option maxHeartbeats 4000000 in
theorem w_X7_census_76 {p : Program} {l : Launch} {e : Env} {s : State} {m : MethodId} {args : Array Value} {below : List Frame} {meth : Method} {c : Code} {G : Gv} (hC : Cx p s m args meth c cX7_census 6 (some .int) RX7) {fu : Nat} {r : Int32} {M' : Mm} {k28 : Mm → Int32 → Int32 → Int32 → Option (Int32 × Mm)} (hk_28 : ∀ {x1 : Int32} {x2 : Int32} {x3 : Int32} {M : Mm} {H : Heap} {locs : List Loc} {ls : Array Slot}, k28 M x1 x2 x3 = some (r, M') → St G s H locs M → lv_has ls 6 [(0, .ref (ad G 86)), (1, .int x1), (2, .int x2), (3, .int x3)] → W p l e rm_X7_census s m args below meth c H locs 0 0 (MQ below (QI G r M') args s 0 0 (zA G)) (F0 m 28 ls [])) {x1 : Int32} {x2 : Int32} {x4 : Int32} {M : Mm} {H : Heap} {locs : List Loc} {ls : Array Slot} (hF : F_X7_census_76 fu k28 M x1 x2 x4 = some (r, M')) (hw : St G s H locs M) (hl : lv_has ls 6 [(0, .ref (ad G 86)), (1, .int x1), (2, .int x2), (4, .int x4)]) : W p l e rm_X7_census s m args below meth c H locs 0 0 (MQ below (QI G r M') args s 0 0 (zA G)) (F0 m 76 ls []) := by
  unfold F_X7_census_76 at hF
  refine lv_iload_n hC.1 hC.2.1 dX7_census_76 rfl (lv_at hl 2 rfl) ?_
  refine lv_iload hC.1 hC.2.1 dX7_census_77 (lv_at hl 3 rfl) ?_
  obtain ⟨r2, h1, hF⟩ := ob1S hF
  refine k_Si (As := [.int x2, .int x4]) (rest := []) hC hw (c_X7_most (M := M) h1) ys_X7_most q5_113 ⟨rfl, rfl⟩ ⟨Nat.le_of_ble_eq_true rfl, Nat.le_of_ble_eq_true rfl⟩ ⟨Nat.zero_le _, Nat.zero_le _⟩ rfl rfl (Nat.le_of_ble_eq_true rfl) hl dX7_census_79 (fun H locs hw => ?_)
  refine lv_istore_n (lv' := [(2, .int r2), (0, .ref (ad G 86)), (1, .int x1), (4, .int x4)]) hC.1 hC.2.1 dX7_census_82 rfl hl (by decide) rfl (fun ls hl => ?_)
  refine lv_aload_n hC.1 hC.2.1 dX7_census_83 rfl (lv_at hl 1 rfl) ?_
  obtain ⟨r4, M5, h3, hF⟩ := ob2S hF
  refine k_Vi (As := []) (rest := []) hC hw (c_X7_nextOrder (M := M) h3) RC_X yv_X7_nextOrder q6_44 ⟨rfl, rfl⟩ ⟨Nat.le_of_ble_eq_true rfl, Nat.le_of_ble_eq_true rfl⟩ ⟨Nat.zero_le _, Nat.zero_le _⟩ rfl rfl (Nat.le_of_ble_eq_true rfl) hl dX7_census_84 (fun H locs hw => ?_)
  refine lv_istore_n (lv' := [(3, .int r4), (2, .int r2), (0, .ref (ad G 86)), (1, .int x1), (4, .int x4)]) hC.1 hC.2.1 dX7_census_87 rfl hl (by decide) rfl (fun ls hl => ?_)
  refine lv_goto (tgt := 28) hC.1 hC.2.1 dX7_census_88 (by decide) ?_
  exact hk_28 hF hw (lv_sub hl [2, 3, 1, 0] rfl)
def F_X7_census_41 (fu : Nat) (k28 : Mm → Int32 → Int32 → Int32 → Option (Int32 × Mm)) : Nat → Mm → Int32 → Int32 → Int32 → Int32 → Option (Int32 × Mm)
  | 0, _, _, _, _, _ => none
  | n + 1, M, x1, x2, x4, x5 =>
    if (M.1 86 4) ≤ x5 then
      F_X7_census_76 fu k28 M x1 x2 x4
    else
      if x4 ≤ x2 then
        F_X7_census_76 fu k28 M x1 x2 x4
      else
        if x5 < 0 ∨ ln 109 ≤ x5.toNatClampNeg then none else (
        if x5 < 0 ∨ ln 110 ≤ x5.toNatClampNeg then none else (
        lt1 (pI M 110 x5.toNatClampNeg (M.1 109 x5.toNatClampNeg)) (fun M5 =>
        F_X7_census_41 fu k28 n M5 x1 x2 x4 (x5 + (1 : Int32)))))
set_option maxRecDepth 100000 in
set_option maxHeartbeats 4000000 in
theorem w_X7_census_41 {p : Program} {l : Launch} {e : Env} {s : State} {m : MethodId} {args : Array Value} {below : List Frame} {meth : Method} {c : Code} {G : Gv} (hC : Cx p s m args meth c cX7_census 6 (some .int) RX7) {fu : Nat} {r : Int32} {M' : Mm} {k28 : Mm → Int32 → Int32 → Int32 → Option (Int32 × Mm)} (hk_28 : ∀ {x1 : Int32} {x2 : Int32} {x3 : Int32} {M : Mm} {H : Heap} {locs : List Loc} {ls : Array Slot}, k28 M x1 x2 x3 = some (r, M') → St G s H locs M → lv_has ls 6 [(0, .ref (ad G 86)), (1, .int x1), (2, .int x2), (3, .int x3)] → W p l e rm_X7_census s m args below meth c H locs 0 0 (MQ below (QI G r M') args s 0 0 (zA G)) (F0 m 28 ls [])) : ∀ (n : Nat) {x1 : Int32} {x2 : Int32} {x4 : Int32} {x5 : Int32} {M : Mm} {H : Heap} {locs : List Loc} {ls : Array Slot}, F_X7_census_41 fu k28 n M x1 x2 x4 x5 = some (r, M') → St G s H locs M → lv_has ls 6 [(0, .ref (ad G 86)), (1, .int x1), (2, .int x2), (4, .int x4), (5, .int x5)] → W p l e rm_X7_census s m args below meth c H locs 0 0 (MQ below (QI G r M') args s 0 0 (zA G)) (F0 m 41 ls []) := by
  intro n
  induction n with
  | zero =>
    intro x1 x2 x4 x5 M H locs ls hF hw hl
    cases hF
  | succ n ih =>
    intro x1 x2 x4 x5 M H locs ls hF hw hl
    unfold F_X7_census_41 at hF
    refine lv_iload hC.1 hC.2.1 dX7_census_41 (lv_at hl 4 rfl) ?_
    refine lv_aload_n hC.1 hC.2.1 dX7_census_43 rfl (lv_at hl 0 rfl) ?_
    refine g7_men hC hw q4_126 dX7_census_44 ?_
    refine lv_icmp_ge (tgt := 76) hC.1 hC.2.1 dX7_census_47 (by decide) (fun b1 => ?_) (fun b1 => ?_)
    · have hF := ifP hF b1
      exact w_X7_census_76 hC (hk_28 := hk_28) hF hw (lv_sub hl [0, 1, 2, 3] rfl)
    · have hF := ifN hF b1
      refine lv_iload hC.1 hC.2.1 dX7_census_50 (lv_at hl 3 rfl) ?_
      refine lv_iload_n hC.1 hC.2.1 dX7_census_52 rfl (lv_at hl 2 rfl) ?_
      refine lv_icmp_le (tgt := 76) hC.1 hC.2.1 dX7_census_53 (by decide) (fun b2 => ?_) (fun b2 => ?_)
      · have hF := ifP hF b2
        exact w_X7_census_76 hC (hk_28 := hk_28) hF hw (lv_sub hl [0, 1, 2, 3] rfl)
      · have hF := ifN hF b2
        refine lv_aload_n hC.1 hC.2.1 dX7_census_56 rfl (lv_at hl 0 rfl) ?_
        refine g7_bestOrder hC hw q4_156 dX7_census_57 ?_
        refine lv_iload hC.1 hC.2.1 dX7_census_60 (lv_at hl 4 rfl) ?_
        refine lv_aload_n hC.1 hC.2.1 dX7_census_62 rfl (lv_at hl 0 rfl) ?_
        refine g7_order hC hw q4_155 dX7_census_63 ?_
        refine lv_iload hC.1 hC.2.1 dX7_census_66 (lv_at hl 4 rfl) ?_
        obtain ⟨n3, hF⟩ := ifO hF
        refine r_iald hC.1 hC.2.1 hw (rfl : kd 109 = 1) n3 dX7_census_68 ?_
        obtain ⟨n4, hF⟩ := ifO hF
        refine r_iast hC.1 hC.2.1 hw (rfl : kd 110 = 1) n4 dX7_census_69 (fun H locs hw => ?_)
        obtain ⟨M5, hw, hF⟩ := lt1W hF hw
        refine lv_iinc (v := (x5 + (1 : Int32))) (lv' := [(5, .int (x5 + (1 : Int32))), (0, .ref (ad G 86)), (1, .int x1), (2, .int x2), (4, .int x4)]) hC.1 hC.2.1 dX7_census_70 hl (k := 4) rfl rfl (by decide) rfl (fun ls hl => ?_)
        refine lv_goto (tgt := 41) hC.1 hC.2.1 dX7_census_73 (by decide) ?_
        exact ih hF hw (lv_sub hl [1, 2, 3, 4, 0] rfl)
def F_X7_census_103 (fu : Nat) : Nat → Mm → Int32 → Int32 → Int32 → Option (Int32 × Mm)
  | 0, _, _, _, _ => none
  | n + 1, M, x1, x2, x4 =>
    if (M.1 86 4) ≤ x4 then
      some (x2, M)
    else
      if x4 < 0 ∨ ln 110 ≤ x4.toNatClampNeg then none else (
      if (((40 : Int32) * x1) + x4) < 0 ∨ ln 87 ≤ (((40 : Int32) * x1) + x4).toNatClampNeg then none else (
      lt1 (pI M 87 (((40 : Int32) * x1) + x4).toNatClampNeg (M.1 110 x4.toNatClampNeg)) (fun M4 =>
      F_X7_census_103 fu n M4 x1 x2 (x4 + (1 : Int32)))))
set_option maxRecDepth 100000 in
set_option maxHeartbeats 4000000 in
theorem w_X7_census_103 {p : Program} {l : Launch} {e : Env} {s : State} {m : MethodId} {args : Array Value} {below : List Frame} {meth : Method} {c : Code} {G : Gv} (hC : Cx p s m args meth c cX7_census 6 (some .int) RX7) {fu : Nat} {r : Int32} {M' : Mm} : ∀ (n : Nat) {x1 : Int32} {x2 : Int32} {x4 : Int32} {M : Mm} {H : Heap} {locs : List Loc} {ls : Array Slot}, F_X7_census_103 fu n M x1 x2 x4 = some (r, M') → St G s H locs M → lv_has ls 6 [(0, .ref (ad G 86)), (1, .int x1), (2, .int x2), (4, .int x4)] → W p l e rm_X7_census s m args below meth c H locs 0 0 (MQ below (QI G r M') args s 0 0 (zA G)) (F0 m 103 ls []) := by
  intro n
  induction n with
  | zero =>
    intro x1 x2 x4 M H locs ls hF hw hl
    cases hF
  | succ n ih =>
    intro x1 x2 x4 M H locs ls hF hw hl
    unfold F_X7_census_103 at hF
    refine lv_iload hC.1 hC.2.1 dX7_census_103 (lv_at hl 3 rfl) ?_
    refine lv_aload_n hC.1 hC.2.1 dX7_census_105 rfl (lv_at hl 0 rfl) ?_
    refine g7_men hC hw q4_126 dX7_census_106 ?_
    refine lv_icmp_ge (tgt := 137) hC.1 hC.2.1 dX7_census_109 (by decide) (fun b1 => ?_) (fun b1 => ?_)
    · have hF := ifP hF b1
      refine lv_iload_n hC.1 hC.2.1 dX7_census_137 rfl (lv_at hl 2 rfl) ?_
      exact r_iretE hC hw hF dX7_census_138
    · have hF := ifN hF b1
      refine lv_aload_n hC.1 hC.2.1 dX7_census_112 rfl (lv_at hl 0 rfl) ?_
      refine g7_rows hC hw q4_122 dX7_census_113 ?_
      refine lv_bipush (v := (40 : Int32)) hC.1 hC.2.1 dX7_census_116 (by decide) ?_
      refine lv_iload_n hC.1 hC.2.1 dX7_census_118 rfl (lv_at hl 1 rfl) ?_
      refine lv_imul hC.1 hC.2.1 dX7_census_119 ?_
      refine lv_iload hC.1 hC.2.1 dX7_census_120 (lv_at hl 3 rfl) ?_
      refine lv_iadd hC.1 hC.2.1 dX7_census_122 ?_
      refine lv_aload_n hC.1 hC.2.1 dX7_census_123 rfl (lv_at hl 0 rfl) ?_
      refine g7_bestOrder hC hw q4_156 dX7_census_124 ?_
      refine lv_iload hC.1 hC.2.1 dX7_census_127 (lv_at hl 3 rfl) ?_
      obtain ⟨n2, hF⟩ := ifO hF
      refine r_iald hC.1 hC.2.1 hw (rfl : kd 110 = 1) n2 dX7_census_129 ?_
      obtain ⟨n3, hF⟩ := ifO hF
      refine r_iast hC.1 hC.2.1 hw (rfl : kd 87 = 1) n3 dX7_census_130 (fun H locs hw => ?_)
      obtain ⟨M4, hw, hF⟩ := lt1W hF hw
      refine lv_iinc (v := (x4 + (1 : Int32))) (lv' := [(4, .int (x4 + (1 : Int32))), (0, .ref (ad G 86)), (1, .int x1), (2, .int x2)]) hC.1 hC.2.1 dX7_census_131 hl (k := 3) rfl rfl (by decide) rfl (fun ls hl => ?_)
      refine lv_goto (tgt := 103) hC.1 hC.2.1 dX7_census_134 (by decide) ?_
      exact ih hF hw (lv_sub hl [1, 2, 3, 0] rfl)
def F_X7_census_28 (fu : Nat) : Nat → Mm → Int32 → Int32 → Int32 → Option (Int32 × Mm)
  | 0, _, _, _, _ => none
  | n + 1, M, x1, x2, x3 =>
    if x3 = 0 then
      ob1 (F_X7_layRow fu M x1 (M.1 86 4)) (fun M3 =>
      F_X7_census_103 fu fu M3 x1 x2 (0 : Int32))
    else
      ob1 (F_X7_countedBy fu M) (fun r5 =>
      F_X7_census_41 fu (F_X7_census_28 fu n) fu M x1 x2 r5 (0 : Int32))
set_option maxRecDepth 100000 in
set_option maxHeartbeats 4000000 in
theorem w_X7_census_28 {p : Program} {l : Launch} {e : Env} {s : State} {m : MethodId} {args : Array Value} {below : List Frame} {meth : Method} {c : Code} {G : Gv} (hC : Cx p s m args meth c cX7_census 6 (some .int) RX7) {fu : Nat} {r : Int32} {M' : Mm} : ∀ (n : Nat) {x1 : Int32} {x2 : Int32} {x3 : Int32} {M : Mm} {H : Heap} {locs : List Loc} {ls : Array Slot}, F_X7_census_28 fu n M x1 x2 x3 = some (r, M') → St G s H locs M → lv_has ls 6 [(0, .ref (ad G 86)), (1, .int x1), (2, .int x2), (3, .int x3)] → W p l e rm_X7_census s m args below meth c H locs 0 0 (MQ below (QI G r M') args s 0 0 (zA G)) (F0 m 28 ls []) := by
  intro n
  induction n with
  | zero =>
    intro x1 x2 x3 M H locs ls hF hw hl
    cases hF
  | succ n ih =>
    intro x1 x2 x3 M H locs ls hF hw hl
    unfold F_X7_census_28 at hF
    refine lv_iload_n hC.1 hC.2.1 dX7_census_28 rfl (lv_at hl 3 rfl) ?_
    refine lv_if_eq (tgt := 91) hC.1 hC.2.1 dX7_census_29 (by decide) (fun b1 => ?_) (fun b1 => ?_)
    · have hF := ifP hF b1
      refine lv_aload_n hC.1 hC.2.1 dX7_census_91 rfl (lv_at hl 0 rfl) ?_
      refine lv_iload_n hC.1 hC.2.1 dX7_census_92 rfl (lv_at hl 1 rfl) ?_
      refine lv_aload_n hC.1 hC.2.1 dX7_census_93 rfl (lv_at hl 0 rfl) ?_
      refine g7_men hC hw q4_126 dX7_census_94 ?_
      obtain ⟨M3, h2, hF⟩ := ob1S hF
      refine k_Vv (As := [.int x1, .int (M.1 86 4)]) (rest := []) hC hw (c_X7_layRow (M := M) h2) RC_X yv_X7_layRow q5_10 ⟨rfl, rfl⟩ ⟨Nat.le_of_ble_eq_true rfl, Nat.le_of_ble_eq_true rfl⟩ ⟨Nat.zero_le _, Nat.zero_le _⟩ rfl rfl (Nat.le_of_ble_eq_true rfl) hl dX7_census_97 (fun H locs hw => ?_)
      refine lv_iconst (v := (0 : Int32)) hC.1 hC.2.1 dX7_census_100 (by decide) ?_
      refine lv_istore (lv' := [(4, .int (0 : Int32)), (0, .ref (ad G 86)), (1, .int x1), (2, .int x2), (3, .int x3)]) hC.1 hC.2.1 dX7_census_101 hl (by decide) rfl (fun ls hl => ?_)
      exact w_X7_census_103 hC _ hF hw (lv_sub hl [1, 2, 3, 0] rfl)
    · have hF := ifN hF b1
      refine lv_aload_n hC.1 hC.2.1 dX7_census_32 rfl (lv_at hl 0 rfl) ?_
      obtain ⟨r5, h4, hF⟩ := ob1S hF
      refine k_Vi (As := []) (rest := []) hC hw (c_X7_countedBy (M := M) h4) RC_X yv_X7_countedBy q6_40 ⟨rfl, rfl⟩ ⟨Nat.le_of_ble_eq_true rfl, Nat.le_of_ble_eq_true rfl⟩ ⟨Nat.zero_le _, Nat.zero_le _⟩ rfl rfl (Nat.le_of_ble_eq_true rfl) hl dX7_census_33 (fun H locs hw => ?_)
      refine lv_istore (lv' := [(4, .int r5), (0, .ref (ad G 86)), (1, .int x1), (2, .int x2), (3, .int x3)]) hC.1 hC.2.1 dX7_census_36 hl (by decide) rfl (fun ls hl => ?_)
      refine lv_iconst (v := (0 : Int32)) hC.1 hC.2.1 dX7_census_38 (by decide) ?_
      refine lv_istore (lv' := [(5, .int (0 : Int32)), (4, .int r5), (0, .ref (ad G 86)), (1, .int x1), (2, .int x2), (3, .int x3)]) hC.1 hC.2.1 dX7_census_39 hl (by decide) rfl (fun ls hl => ?_)
      exact w_X7_census_41 hC (hk_28 := ih) _ hF hw (lv_sub hl [2, 3, 4, 1, 0] rfl)
def F_X7_census (fu : Nat) (M : Mm) (x1 : Int32) : Option (Int32 × Mm) :=
  ob1 (F_X7_isRow fu M x1) (fun r2 =>
  if r2 = 0 then
    some ((-1 : Int32), M)
  else
    if (M.1 86 4) = 0 then
      some ((-4 : Int32), M)
    else
      ob1 (F_X7_layGone fu M) (fun M6 =>
      F_X7_census_28 fu fu M6 x1 (-9 : Int32) (1 : Int32)))
set_option maxRecDepth 100000 in
set_option maxHeartbeats 4000000 in
theorem c_X7_census {l : Launch} {G : Gv} {fu : Nat} {M : Mm} {x1 : Int32} {r : Int32} {M' : Mm} (hF : F_X7_census fu M x1 = some (r, M')) : Met l yX7_census (.code yX7_census cX7_census 6 (some .int) :: zU) rm_X7_census (va_Pc [.ref (ad G 86), .int x1] (Wd G M)) (QI G r M') 0 0 (zA G) := by
  refine zMet (by decide) rfl (Nat.le_of_ble_eq_true rfl) ?_
  intro p e s m below meth c hC hw ls hl
  have hl : lv_has ls 6 [(0, .ref (ad G 86)), (1, .int x1)] := hl
  unfold F_X7_census at hF
  refine lv_iload_n hC.1 hC.2.1 dX7_census_0 rfl (lv_at hl 1 rfl) ?_
  obtain ⟨r2, h1, hF⟩ := ob1S hF
  refine k_Si (As := [.int x1]) (rest := []) hC hw (c_X7_isRow (M := M) h1) ys_X7_isRow q4_239 ⟨rfl, rfl⟩ ⟨Nat.le_of_ble_eq_true rfl, Nat.le_of_ble_eq_true rfl⟩ ⟨Nat.zero_le _, Nat.zero_le _⟩ rfl rfl (Nat.le_of_ble_eq_true rfl) hl dX7_census_1 (fun H locs hw => ?_)
  refine lv_if_ne (tgt := 9) hC.1 hC.2.1 dX7_census_4 (by decide) (fun b3 => ?_) (fun b3 => ?_)
  · have hF := ifN hF b3
    refine lv_aload_n hC.1 hC.2.1 dX7_census_9 rfl (lv_at hl 0 rfl) ?_
    refine g7_men hC hw q4_126 dX7_census_10 ?_
    refine lv_if_ne (tgt := 19) hC.1 hC.2.1 dX7_census_13 (by decide) (fun b4 => ?_) (fun b4 => ?_)
    · have hF := ifN hF b4
      refine lv_aload_n hC.1 hC.2.1 dX7_census_19 rfl (lv_at hl 0 rfl) ?_
      obtain ⟨M6, h5, hF⟩ := ob1S hF
      refine k_Vv (As := []) (rest := []) hC hw (c_X7_layGone (M := M) h5) RC_X yv_X7_layGone q6_36 ⟨rfl, rfl⟩ ⟨Nat.le_of_ble_eq_true rfl, Nat.le_of_ble_eq_true rfl⟩ ⟨Nat.zero_le _, Nat.zero_le _⟩ rfl rfl (Nat.le_of_ble_eq_true rfl) hl dX7_census_20 (fun H locs hw => ?_)
      refine lv_bipush (v := (-9 : Int32)) hC.1 hC.2.1 dX7_census_23 (by decide) ?_
      refine lv_istore_n (lv' := [(2, .int (-9 : Int32)), (0, .ref (ad G 86)), (1, .int x1)]) hC.1 hC.2.1 dX7_census_25 rfl hl (by decide) rfl (fun ls hl => ?_)
      refine lv_iconst (v := (1 : Int32)) hC.1 hC.2.1 dX7_census_26 (by decide) ?_
      refine lv_istore_n (lv' := [(3, .int (1 : Int32)), (2, .int (-9 : Int32)), (0, .ref (ad G 86)), (1, .int x1)]) hC.1 hC.2.1 dX7_census_27 rfl hl (by decide) rfl (fun ls hl => ?_)
      exact w_X7_census_28 hC _ hF hw (lv_sub hl [2, 3, 1, 0] rfl)
    · have hF := ifP hF b4
      refine lv_bipush (v := (-4 : Int32)) hC.1 hC.2.1 dX7_census_16 (by decide) ?_
      exact r_iretE hC hw hF dX7_census_18
  · have hF := ifP hF b3
    refine lv_iconst (v := (-1 : Int32)) hC.1 hC.2.1 dX7_census_7 (by decide) ?_
    exact r_iretE hC hw hF dX7_census_8
abbrev rm_X7_counted : Room := { frames := 4, cells := 0, slots := 0, locals := 90 }
theorem yv_X7_counted : YV yX7_counted cX7_counted 5 (some .int) 1 RX7 := ⟨⟨q6_49, q6_50, q1_8, q6_51⟩, by decide +kernel⟩
theorem dX7_counted_0 : decode cX7_counted 0 = .ok (.iload_n 1, 1) := by decide +kernel
theorem dX7_counted_1 : decode cX7_counted 1 = .ok (.invokestatic 114, 3) := by decide +kernel
theorem dX7_counted_4 : decode cX7_counted 4 = .ok (.ifCond .ne 5, 3) := by decide +kernel
theorem dX7_counted_7 : decode cX7_counted 7 = .ok (.iconst (-1), 1) := by decide +kernel
theorem dX7_counted_8 : decode cX7_counted 8 = .ok (.ireturn, 1) := by decide +kernel
theorem dX7_counted_9 : decode cX7_counted 9 = .ok (.aload_n 0, 1) := by decide +kernel
theorem dX7_counted_10 : decode cX7_counted 10 = .ok (.getfield 101, 3) := by decide +kernel
theorem dX7_counted_13 : decode cX7_counted 13 = .ok (.ifCond .ne 6, 3) := by decide +kernel
theorem dX7_counted_16 : decode cX7_counted 16 = .ok (.bipush (-4), 2) := by decide +kernel
theorem dX7_counted_18 : decode cX7_counted 18 = .ok (.ireturn, 1) := by decide +kernel
theorem dX7_counted_19 : decode cX7_counted 19 = .ok (.aload_n 0, 1) := by decide +kernel
theorem dX7_counted_20 : decode cX7_counted 20 = .ok (.getfield 13, 3) := by decide +kernel
theorem dX7_counted_23 : decode cX7_counted 23 = .ok (.iload_n 1, 1) := by decide +kernel
theorem dX7_counted_24 : decode cX7_counted 24 = .ok (.iaload, 1) := by decide +kernel
theorem dX7_counted_25 : decode cX7_counted 25 = .ok (.bipush (-9), 2) := by decide +kernel
theorem dX7_counted_27 : decode cX7_counted 27 = .ok (.if_icmp .ne 9, 3) := by decide +kernel
theorem dX7_counted_30 : decode cX7_counted 30 = .ok (.aload_n 0, 1) := by decide +kernel
theorem dX7_counted_31 : decode cX7_counted 31 = .ok (.iconst 1, 1) := by decide +kernel
theorem dX7_counted_32 : decode cX7_counted 32 = .ok (.invokevirtual 118, 3) := by decide +kernel
theorem dX7_counted_35 : decode cX7_counted 35 = .ok (.ireturn, 1) := by decide +kernel
theorem dX7_counted_36 : decode cX7_counted 36 = .ok (.aload_n 0, 1) := by decide +kernel
theorem dX7_counted_37 : decode cX7_counted 37 = .ok (.getfield 13, 3) := by decide +kernel
theorem dX7_counted_40 : decode cX7_counted 40 = .ok (.iload_n 1, 1) := by decide +kernel
theorem dX7_counted_41 : decode cX7_counted 41 = .ok (.iaload, 1) := by decide +kernel
theorem dX7_counted_42 : decode cX7_counted 42 = .ok (.aload_n 0, 1) := by decide +kernel
theorem dX7_counted_43 : decode cX7_counted 43 = .ok (.getfield 101, 3) := by decide +kernel
theorem dX7_counted_46 : decode cX7_counted 46 = .ok (.if_icmp .eq 9, 3) := by decide +kernel
theorem dX7_counted_49 : decode cX7_counted 49 = .ok (.aload_n 0, 1) := by decide +kernel
theorem dX7_counted_50 : decode cX7_counted 50 = .ok (.iconst 5, 1) := by decide +kernel
theorem dX7_counted_51 : decode cX7_counted 51 = .ok (.invokevirtual 118, 3) := by decide +kernel
theorem dX7_counted_54 : decode cX7_counted 54 = .ok (.ireturn, 1) := by decide +kernel
theorem dX7_counted_55 : decode cX7_counted 55 = .ok (.iconst 0, 1) := by decide +kernel
theorem dX7_counted_56 : decode cX7_counted 56 = .ok (.istore_n 2, 1) := by decide +kernel
theorem dX7_counted_57 : decode cX7_counted 57 = .ok (.iconst 0, 1) := by decide +kernel
theorem dX7_counted_58 : decode cX7_counted 58 = .ok (.istore_n 3, 1) := by decide +kernel
theorem dX7_counted_59 : decode cX7_counted 59 = .ok (.iload_n 3, 1) := by decide +kernel
theorem dX7_counted_60 : decode cX7_counted 60 = .ok (.aload_n 0, 1) := by decide +kernel
theorem dX7_counted_61 : decode cX7_counted 61 = .ok (.getfield 101, 3) := by decide +kernel
theorem dX7_counted_64 : decode cX7_counted 64 = .ok (.if_icmp .ge 54, 3) := by decide +kernel
theorem dX7_counted_67 : decode cX7_counted 67 = .ok (.aload_n 0, 1) := by decide +kernel
theorem dX7_counted_68 : decode cX7_counted 68 = .ok (.getfield 7, 3) := by decide +kernel
theorem dX7_counted_71 : decode cX7_counted 71 = .ok (.bipush 40, 2) := by decide +kernel
theorem dX7_counted_73 : decode cX7_counted 73 = .ok (.iload_n 1, 1) := by decide +kernel
theorem dX7_counted_74 : decode cX7_counted 74 = .ok (.imul, 1) := by decide +kernel
theorem dX7_counted_75 : decode cX7_counted 75 = .ok (.iload_n 3, 1) := by decide +kernel
theorem dX7_counted_76 : decode cX7_counted 76 = .ok (.iadd, 1) := by decide +kernel
theorem dX7_counted_77 : decode cX7_counted 77 = .ok (.iaload, 1) := by decide +kernel
theorem dX7_counted_78 : decode cX7_counted 78 = .ok (.istore 4, 2) := by decide +kernel
theorem dX7_counted_80 : decode cX7_counted 80 = .ok (.aload_n 0, 1) := by decide +kernel
theorem dX7_counted_81 : decode cX7_counted 81 = .ok (.iload 4, 2) := by decide +kernel
theorem dX7_counted_83 : decode cX7_counted 83 = .ok (.invokevirtual 197, 3) := by decide +kernel
theorem dX7_counted_86 : decode cX7_counted 86 = .ok (.ifCond .eq 13, 3) := by decide +kernel
theorem dX7_counted_89 : decode cX7_counted 89 = .ok (.iload_n 2, 1) := by decide +kernel
theorem dX7_counted_90 : decode cX7_counted 90 = .ok (.iload 4, 2) := by decide +kernel
theorem dX7_counted_92 : decode cX7_counted 92 = .ok (.ishr, 1) := by decide +kernel
theorem dX7_counted_93 : decode cX7_counted 93 = .ok (.iconst 1, 1) := by decide +kernel
theorem dX7_counted_94 : decode cX7_counted 94 = .ok (.iand, 1) := by decide +kernel
theorem dX7_counted_95 : decode cX7_counted 95 = .ok (.iconst 1, 1) := by decide +kernel
theorem dX7_counted_96 : decode cX7_counted 96 = .ok (.if_icmp .ne 9, 3) := by decide +kernel
theorem dX7_counted_99 : decode cX7_counted 99 = .ok (.aload_n 0, 1) := by decide +kernel
theorem dX7_counted_100 : decode cX7_counted 100 = .ok (.iconst 3, 1) := by decide +kernel
theorem dX7_counted_101 : decode cX7_counted 101 = .ok (.invokevirtual 118, 3) := by decide +kernel
theorem dX7_counted_104 : decode cX7_counted 104 = .ok (.ireturn, 1) := by decide +kernel
theorem dX7_counted_105 : decode cX7_counted 105 = .ok (.iload_n 2, 1) := by decide +kernel
theorem dX7_counted_106 : decode cX7_counted 106 = .ok (.iconst 1, 1) := by decide +kernel
theorem dX7_counted_107 : decode cX7_counted 107 = .ok (.iload 4, 2) := by decide +kernel
theorem dX7_counted_109 : decode cX7_counted 109 = .ok (.ishl, 1) := by decide +kernel
theorem dX7_counted_110 : decode cX7_counted 110 = .ok (.ior, 1) := by decide +kernel
theorem dX7_counted_111 : decode cX7_counted 111 = .ok (.istore_n 2, 1) := by decide +kernel
theorem dX7_counted_112 : decode cX7_counted 112 = .ok (.iinc 3 1, 3) := by decide +kernel
theorem dX7_counted_115 : decode cX7_counted 115 = .ok (.goto (-56), 3) := by decide +kernel
theorem dX7_counted_118 : decode cX7_counted 118 = .ok (.aload_n 0, 1) := by decide +kernel
theorem dX7_counted_119 : decode cX7_counted 119 = .ok (.invokevirtual 263, 3) := by decide +kernel
theorem dX7_counted_122 : decode cX7_counted 122 = .ok (.iconst 0, 1) := by decide +kernel
theorem dX7_counted_123 : decode cX7_counted 123 = .ok (.istore_n 3, 1) := by decide +kernel
theorem dX7_counted_124 : decode cX7_counted 124 = .ok (.iload_n 3, 1) := by decide +kernel
theorem dX7_counted_125 : decode cX7_counted 125 = .ok (.aload_n 0, 1) := by decide +kernel
theorem dX7_counted_126 : decode cX7_counted 126 = .ok (.getfield 101, 3) := by decide +kernel
theorem dX7_counted_129 : decode cX7_counted 129 = .ok (.if_icmp .ge 26, 3) := by decide +kernel
theorem dX7_counted_132 : decode cX7_counted 132 = .ok (.aload_n 0, 1) := by decide +kernel
theorem dX7_counted_133 : decode cX7_counted 133 = .ok (.getfield 81, 3) := by decide +kernel
theorem dX7_counted_136 : decode cX7_counted 136 = .ok (.iload_n 3, 1) := by decide +kernel
theorem dX7_counted_137 : decode cX7_counted 137 = .ok (.aload_n 0, 1) := by decide +kernel
theorem dX7_counted_138 : decode cX7_counted 138 = .ok (.getfield 7, 3) := by decide +kernel
theorem dX7_counted_141 : decode cX7_counted 141 = .ok (.bipush 40, 2) := by decide +kernel
theorem dX7_counted_143 : decode cX7_counted 143 = .ok (.iload_n 1, 1) := by decide +kernel
theorem dX7_counted_144 : decode cX7_counted 144 = .ok (.imul, 1) := by decide +kernel
theorem dX7_counted_145 : decode cX7_counted 145 = .ok (.iload_n 3, 1) := by decide +kernel
theorem dX7_counted_146 : decode cX7_counted 146 = .ok (.iadd, 1) := by decide +kernel
theorem dX7_counted_147 : decode cX7_counted 147 = .ok (.iaload, 1) := by decide +kernel
theorem dX7_counted_148 : decode cX7_counted 148 = .ok (.iastore, 1) := by decide +kernel
theorem dX7_counted_149 : decode cX7_counted 149 = .ok (.iinc 3 1, 3) := by decide +kernel
theorem dX7_counted_152 : decode cX7_counted 152 = .ok (.goto (-28), 3) := by decide +kernel
theorem dX7_counted_155 : decode cX7_counted 155 = .ok (.aload_n 0, 1) := by decide +kernel
theorem dX7_counted_156 : decode cX7_counted 156 = .ok (.invokevirtual 266, 3) := by decide +kernel
theorem dX7_counted_159 : decode cX7_counted 159 = .ok (.ireturn, 1) := by decide +kernel
def F_X7_counted_99 (fu : Nat) (M : Mm) : Option (Int32 × Mm) :=
  ob2 (F_X7_finds fu M (3 : Int32)) (fun r2 M3 =>
  some (r2, M3))
set_option maxRecDepth 100000 in
set_option maxHeartbeats 4000000 in
theorem w_X7_counted_99 {p : Program} {l : Launch} {e : Env} {s : State} {m : MethodId} {args : Array Value} {below : List Frame} {meth : Method} {c : Code} {G : Gv} (hC : Cx p s m args meth c cX7_counted 5 (some .int) RX7) {fu : Nat} {r : Int32} {M' : Mm} {M : Mm} {H : Heap} {locs : List Loc} {ls : Array Slot} (hF : F_X7_counted_99 fu M = some (r, M')) (hw : St G s H locs M) (hl : lv_has ls 5 [(0, .ref (ad G 86))]) : W p l e rm_X7_counted s m args below meth c H locs 0 0 (MQ below (QI G r M') args s 0 0 (zA G)) (F0 m 99 ls []) := by
  unfold F_X7_counted_99 at hF
  refine lv_aload_n hC.1 hC.2.1 dX7_counted_99 rfl (lv_at hl 0 rfl) ?_
  refine lv_iconst (v := (3 : Int32)) hC.1 hC.2.1 dX7_counted_100 (by decide) ?_
  obtain ⟨r2, M3, h1, hF⟩ := ob2S hF
  refine k_Vi (As := [.int (3 : Int32)]) (rest := []) hC hw (c_X7_finds (M := M) h1) RC_X yv_X7_finds q5_6 ⟨rfl, rfl⟩ ⟨Nat.le_of_ble_eq_true rfl, Nat.le_of_ble_eq_true rfl⟩ ⟨Nat.zero_le _, Nat.zero_le _⟩ rfl rfl (Nat.le_of_ble_eq_true rfl) hl dX7_counted_101 (fun H locs hw => ?_)
  exact r_iretE hC hw hF dX7_counted_104
def F_X7_counted_124 (fu : Nat) : Nat → Mm → Int32 → Int32 → Option (Int32 × Mm)
  | 0, _, _, _ => none
  | n + 1, M, x1, x3 =>
    if (M.1 86 4) ≤ x3 then
      ob1 (F_X7_countedBy fu M) (fun r3 =>
      some (r3, M))
    else
      if (((40 : Int32) * x1) + x3) < 0 ∨ ln 87 ≤ (((40 : Int32) * x1) + x3).toNatClampNeg then none else (
      if x3 < 0 ∨ ln 109 ≤ x3.toNatClampNeg then none else (
      lt1 (pI M 109 x3.toNatClampNeg (M.1 87 (((40 : Int32) * x1) + x3).toNatClampNeg)) (fun M6 =>
      F_X7_counted_124 fu n M6 x1 (x3 + (1 : Int32)))))
set_option maxRecDepth 100000 in
set_option maxHeartbeats 4000000 in
theorem w_X7_counted_124 {p : Program} {l : Launch} {e : Env} {s : State} {m : MethodId} {args : Array Value} {below : List Frame} {meth : Method} {c : Code} {G : Gv} (hC : Cx p s m args meth c cX7_counted 5 (some .int) RX7) {fu : Nat} {r : Int32} {M' : Mm} : ∀ (n : Nat) {x1 : Int32} {x3 : Int32} {M : Mm} {H : Heap} {locs : List Loc} {ls : Array Slot}, F_X7_counted_124 fu n M x1 x3 = some (r, M') → St G s H locs M → lv_has ls 5 [(0, .ref (ad G 86)), (1, .int x1), (3, .int x3)] → W p l e rm_X7_counted s m args below meth c H locs 0 0 (MQ below (QI G r M') args s 0 0 (zA G)) (F0 m 124 ls []) := by
  intro n
  induction n with
  | zero =>
    intro x1 x3 M H locs ls hF hw hl
    cases hF
  | succ n ih =>
    intro x1 x3 M H locs ls hF hw hl
    unfold F_X7_counted_124 at hF
    refine lv_iload_n hC.1 hC.2.1 dX7_counted_124 rfl (lv_at hl 2 rfl) ?_
    refine lv_aload_n hC.1 hC.2.1 dX7_counted_125 rfl (lv_at hl 0 rfl) ?_
    refine g7_men hC hw q4_126 dX7_counted_126 ?_
    refine lv_icmp_ge (tgt := 155) hC.1 hC.2.1 dX7_counted_129 (by decide) (fun b1 => ?_) (fun b1 => ?_)
    · have hF := ifP hF b1
      refine lv_aload_n hC.1 hC.2.1 dX7_counted_155 rfl (lv_at hl 0 rfl) ?_
      obtain ⟨r3, h2, hF⟩ := ob1S hF
      refine k_Vi (As := []) (rest := []) hC hw (c_X7_countedBy (M := M) h2) RC_X yv_X7_countedBy q6_40 ⟨rfl, rfl⟩ ⟨Nat.le_of_ble_eq_true rfl, Nat.le_of_ble_eq_true rfl⟩ ⟨Nat.zero_le _, Nat.zero_le _⟩ rfl rfl (Nat.le_of_ble_eq_true rfl) hl dX7_counted_156 (fun H locs hw => ?_)
      exact r_iretE hC hw hF dX7_counted_159
    · have hF := ifN hF b1
      refine lv_aload_n hC.1 hC.2.1 dX7_counted_132 rfl (lv_at hl 0 rfl) ?_
      refine g7_order hC hw q4_155 dX7_counted_133 ?_
      refine lv_iload_n hC.1 hC.2.1 dX7_counted_136 rfl (lv_at hl 2 rfl) ?_
      refine lv_aload_n hC.1 hC.2.1 dX7_counted_137 rfl (lv_at hl 0 rfl) ?_
      refine g7_rows hC hw q4_122 dX7_counted_138 ?_
      refine lv_bipush (v := (40 : Int32)) hC.1 hC.2.1 dX7_counted_141 (by decide) ?_
      refine lv_iload_n hC.1 hC.2.1 dX7_counted_143 rfl (lv_at hl 1 rfl) ?_
      refine lv_imul hC.1 hC.2.1 dX7_counted_144 ?_
      refine lv_iload_n hC.1 hC.2.1 dX7_counted_145 rfl (lv_at hl 2 rfl) ?_
      refine lv_iadd hC.1 hC.2.1 dX7_counted_146 ?_
      obtain ⟨n4, hF⟩ := ifO hF
      refine r_iald hC.1 hC.2.1 hw (rfl : kd 87 = 1) n4 dX7_counted_147 ?_
      obtain ⟨n5, hF⟩ := ifO hF
      refine r_iast hC.1 hC.2.1 hw (rfl : kd 109 = 1) n5 dX7_counted_148 (fun H locs hw => ?_)
      obtain ⟨M6, hw, hF⟩ := lt1W hF hw
      refine lv_iinc (v := (x3 + (1 : Int32))) (lv' := [(3, .int (x3 + (1 : Int32))), (0, .ref (ad G 86)), (1, .int x1)]) hC.1 hC.2.1 dX7_counted_149 hl (k := 2) rfl rfl (by decide) rfl (fun ls hl => ?_)
      refine lv_goto (tgt := 124) hC.1 hC.2.1 dX7_counted_152 (by decide) ?_
      exact ih hF hw (lv_sub hl [1, 2, 0] rfl)
def F_X7_counted_59 (fu : Nat) : Nat → Mm → Int32 → Int32 → Int32 → Option (Int32 × Mm)
  | 0, _, _, _, _ => none
  | n + 1, M, x1, x2, x3 =>
    if (M.1 86 4) ≤ x3 then
      ob1 (F_X7_layGone fu M) (fun M3 =>
      F_X7_counted_124 fu fu M3 x1 (0 : Int32))
    else
      if (((40 : Int32) * x1) + x3) < 0 ∨ ln 87 ≤ (((40 : Int32) * x1) + x3).toNatClampNeg then none else (
      lt1 (M.1 87 (((40 : Int32) * x1) + x3).toNatClampNeg) (fun y5 =>
      ob1 (F_X7_isMan fu M y5) (fun r7 =>
      if r7 = 0 then
        F_X7_counted_99 fu M
      else
        if ((x2 >>> (y5 &&& 31)) &&& (1 : Int32)) = (1 : Int32) then
          F_X7_counted_99 fu M
        else
          F_X7_counted_59 fu n M x1 (x2 ||| ((1 : Int32) <<< (y5 &&& 31))) (x3 + (1 : Int32)))))
set_option maxRecDepth 100000 in
set_option maxHeartbeats 4000000 in
theorem w_X7_counted_59 {p : Program} {l : Launch} {e : Env} {s : State} {m : MethodId} {args : Array Value} {below : List Frame} {meth : Method} {c : Code} {G : Gv} (hC : Cx p s m args meth c cX7_counted 5 (some .int) RX7) {fu : Nat} {r : Int32} {M' : Mm} : ∀ (n : Nat) {x1 : Int32} {x2 : Int32} {x3 : Int32} {M : Mm} {H : Heap} {locs : List Loc} {ls : Array Slot}, F_X7_counted_59 fu n M x1 x2 x3 = some (r, M') → St G s H locs M → lv_has ls 5 [(0, .ref (ad G 86)), (1, .int x1), (2, .int x2), (3, .int x3)] → W p l e rm_X7_counted s m args below meth c H locs 0 0 (MQ below (QI G r M') args s 0 0 (zA G)) (F0 m 59 ls []) := by
  intro n
  induction n with
  | zero =>
    intro x1 x2 x3 M H locs ls hF hw hl
    cases hF
  | succ n ih =>
    intro x1 x2 x3 M H locs ls hF hw hl
    unfold F_X7_counted_59 at hF
    refine lv_iload_n hC.1 hC.2.1 dX7_counted_59 rfl (lv_at hl 3 rfl) ?_
    refine lv_aload_n hC.1 hC.2.1 dX7_counted_60 rfl (lv_at hl 0 rfl) ?_
    refine g7_men hC hw q4_126 dX7_counted_61 ?_
    refine lv_icmp_ge (tgt := 118) hC.1 hC.2.1 dX7_counted_64 (by decide) (fun b1 => ?_) (fun b1 => ?_)
    · have hF := ifP hF b1
      refine lv_aload_n hC.1 hC.2.1 dX7_counted_118 rfl (lv_at hl 0 rfl) ?_
      obtain ⟨M3, h2, hF⟩ := ob1S hF
      refine k_Vv (As := []) (rest := []) hC hw (c_X7_layGone (M := M) h2) RC_X yv_X7_layGone q6_36 ⟨rfl, rfl⟩ ⟨Nat.le_of_ble_eq_true rfl, Nat.le_of_ble_eq_true rfl⟩ ⟨Nat.zero_le _, Nat.zero_le _⟩ rfl rfl (Nat.le_of_ble_eq_true rfl) hl dX7_counted_119 (fun H locs hw => ?_)
      refine lv_iconst (v := (0 : Int32)) hC.1 hC.2.1 dX7_counted_122 (by decide) ?_
      refine lv_istore_n (lv' := [(3, .int (0 : Int32)), (0, .ref (ad G 86)), (1, .int x1), (2, .int x2)]) hC.1 hC.2.1 dX7_counted_123 rfl hl (by decide) rfl (fun ls hl => ?_)
      exact w_X7_counted_124 hC _ hF hw (lv_sub hl [1, 2, 0] rfl)
    · have hF := ifN hF b1
      refine lv_aload_n hC.1 hC.2.1 dX7_counted_67 rfl (lv_at hl 0 rfl) ?_
      refine g7_rows hC hw q4_122 dX7_counted_68 ?_
      refine lv_bipush (v := (40 : Int32)) hC.1 hC.2.1 dX7_counted_71 (by decide) ?_
      refine lv_iload_n hC.1 hC.2.1 dX7_counted_73 rfl (lv_at hl 1 rfl) ?_
      refine lv_imul hC.1 hC.2.1 dX7_counted_74 ?_
      refine lv_iload_n hC.1 hC.2.1 dX7_counted_75 rfl (lv_at hl 3 rfl) ?_
      refine lv_iadd hC.1 hC.2.1 dX7_counted_76 ?_
      obtain ⟨n4, hF⟩ := ifO hF
      refine r_iald hC.1 hC.2.1 hw (rfl : kd 87 = 1) n4 dX7_counted_77 ?_
      refine lv_topi (fun y5 ey5 => ?_)
      have hF := lt1G hF ey5
      refine lv_istore (lv' := [(4, .int y5), (0, .ref (ad G 86)), (1, .int x1), (2, .int x2), (3, .int x3)]) hC.1 hC.2.1 dX7_counted_78 hl (by decide) rfl (fun ls hl => ?_)
      refine lv_aload_n hC.1 hC.2.1 dX7_counted_80 rfl (lv_at hl 1 rfl) ?_
      refine lv_iload hC.1 hC.2.1 dX7_counted_81 (lv_at hl 0 rfl) ?_
      obtain ⟨r7, h6, hF⟩ := ob1S hF
      refine k_Vi (As := [.int y5]) (rest := []) hC hw (c_X7_isMan (M := M) h6) RC_X yv_X7_isMan q5_89 ⟨rfl, rfl⟩ ⟨Nat.le_of_ble_eq_true rfl, Nat.le_of_ble_eq_true rfl⟩ ⟨Nat.zero_le _, Nat.zero_le _⟩ rfl rfl (Nat.le_of_ble_eq_true rfl) hl dX7_counted_83 (fun H locs hw => ?_)
      refine lv_if_eq (tgt := 99) hC.1 hC.2.1 dX7_counted_86 (by decide) (fun b8 => ?_) (fun b8 => ?_)
      · have hF := ifP hF b8
        exact w_X7_counted_99 hC hF hw (lv_sub hl [1] rfl)
      · have hF := ifN hF b8
        refine lv_iload_n hC.1 hC.2.1 dX7_counted_89 rfl (lv_at hl 3 rfl) ?_
        refine lv_iload hC.1 hC.2.1 dX7_counted_90 (lv_at hl 0 rfl) ?_
        refine lv_ishr hC.1 hC.2.1 dX7_counted_92 ?_
        refine lv_iconst (v := (1 : Int32)) hC.1 hC.2.1 dX7_counted_93 (by decide) ?_
        refine lv_iand hC.1 hC.2.1 dX7_counted_94 ?_
        refine lv_iconst (v := (1 : Int32)) hC.1 hC.2.1 dX7_counted_95 (by decide) ?_
        refine lv_icmp_ne (tgt := 105) hC.1 hC.2.1 dX7_counted_96 (by decide) (fun b9 => ?_) (fun b9 => ?_)
        · have hF := ifN hF b9
          refine lv_iload_n hC.1 hC.2.1 dX7_counted_105 rfl (lv_at hl 3 rfl) ?_
          refine lv_iconst (v := (1 : Int32)) hC.1 hC.2.1 dX7_counted_106 (by decide) ?_
          refine lv_iload hC.1 hC.2.1 dX7_counted_107 (lv_at hl 0 rfl) ?_
          refine lv_ishl hC.1 hC.2.1 dX7_counted_109 ?_
          refine lv_ior hC.1 hC.2.1 dX7_counted_110 ?_
          refine lv_istore_n (lv' := [(2, .int (x2 ||| ((1 : Int32) <<< (y5 &&& 31)))), (4, .int y5), (0, .ref (ad G 86)), (1, .int x1), (3, .int x3)]) hC.1 hC.2.1 dX7_counted_111 rfl hl (by decide) rfl (fun ls hl => ?_)
          refine lv_iinc (v := (x3 + (1 : Int32))) (lv' := [(3, .int (x3 + (1 : Int32))), (2, .int (x2 ||| ((1 : Int32) <<< (y5 &&& 31)))), (4, .int y5), (0, .ref (ad G 86)), (1, .int x1)]) hC.1 hC.2.1 dX7_counted_112 hl (k := 4) rfl rfl (by decide) rfl (fun ls hl => ?_)
          refine lv_goto (tgt := 59) hC.1 hC.2.1 dX7_counted_115 (by decide) ?_
          exact ih hF hw (lv_sub hl [3, 4, 1, 0] rfl)
        · have hF := ifP hF b9
          exact w_X7_counted_99 hC hF hw (lv_sub hl [1] rfl)
def F_X7_counted (fu : Nat) (M : Mm) (x1 : Int32) : Option (Int32 × Mm) :=
  ob1 (F_X7_isRow fu M x1) (fun r2 =>
  if r2 = 0 then
    some ((-1 : Int32), M)
  else
    if (M.1 86 4) = 0 then
      some ((-4 : Int32), M)
    else
      if x1 < 0 ∨ ln 88 ≤ x1.toNatClampNeg then none else (
      if (M.1 88 x1.toNatClampNeg) = (-9 : Int32) then
        ob2 (F_X7_finds fu M (1 : Int32)) (fun r13 M14 =>
        some (r13, M14))
      else
        if x1 < 0 ∨ ln 88 ≤ x1.toNatClampNeg then none else (
        if (M.1 88 x1.toNatClampNeg) = (M.1 86 4) then
          F_X7_counted_59 fu fu M x1 (0 : Int32) (0 : Int32)
        else
          ob2 (F_X7_finds fu M (5 : Int32)) (fun r10 M11 =>
          some (r10, M11)))))
set_option maxRecDepth 100000 in
set_option maxHeartbeats 4000000 in
theorem c_X7_counted {l : Launch} {G : Gv} {fu : Nat} {M : Mm} {x1 : Int32} {r : Int32} {M' : Mm} (hF : F_X7_counted fu M x1 = some (r, M')) : Met l yX7_counted (.code yX7_counted cX7_counted 5 (some .int) :: zU) rm_X7_counted (va_Pc [.ref (ad G 86), .int x1] (Wd G M)) (QI G r M') 0 0 (zA G) := by
  refine zMet (by decide) rfl (Nat.le_of_ble_eq_true rfl) ?_
  intro p e s m below meth c hC hw ls hl
  have hl : lv_has ls 5 [(0, .ref (ad G 86)), (1, .int x1)] := hl
  unfold F_X7_counted at hF
  refine lv_iload_n hC.1 hC.2.1 dX7_counted_0 rfl (lv_at hl 1 rfl) ?_
  obtain ⟨r2, h1, hF⟩ := ob1S hF
  refine k_Si (As := [.int x1]) (rest := []) hC hw (c_X7_isRow (M := M) h1) ys_X7_isRow q4_239 ⟨rfl, rfl⟩ ⟨Nat.le_of_ble_eq_true rfl, Nat.le_of_ble_eq_true rfl⟩ ⟨Nat.zero_le _, Nat.zero_le _⟩ rfl rfl (Nat.le_of_ble_eq_true rfl) hl dX7_counted_1 (fun H locs hw => ?_)
  refine lv_if_ne (tgt := 9) hC.1 hC.2.1 dX7_counted_4 (by decide) (fun b3 => ?_) (fun b3 => ?_)
  · have hF := ifN hF b3
    refine lv_aload_n hC.1 hC.2.1 dX7_counted_9 rfl (lv_at hl 0 rfl) ?_
    refine g7_men hC hw q4_126 dX7_counted_10 ?_
    refine lv_if_ne (tgt := 19) hC.1 hC.2.1 dX7_counted_13 (by decide) (fun b4 => ?_) (fun b4 => ?_)
    · have hF := ifN hF b4
      refine lv_aload_n hC.1 hC.2.1 dX7_counted_19 rfl (lv_at hl 0 rfl) ?_
      refine g7_rowLong hC hw q4_123 dX7_counted_20 ?_
      refine lv_iload_n hC.1 hC.2.1 dX7_counted_23 rfl (lv_at hl 1 rfl) ?_
      obtain ⟨n5, hF⟩ := ifO hF
      refine r_iald hC.1 hC.2.1 hw (rfl : kd 88 = 1) n5 dX7_counted_24 ?_
      refine lv_bipush (v := (-9 : Int32)) hC.1 hC.2.1 dX7_counted_25 (by decide) ?_
      refine lv_icmp_ne (tgt := 36) hC.1 hC.2.1 dX7_counted_27 (by decide) (fun b6 => ?_) (fun b6 => ?_)
      · have hF := ifN hF b6
        refine lv_aload_n hC.1 hC.2.1 dX7_counted_36 rfl (lv_at hl 0 rfl) ?_
        refine g7_rowLong hC hw q4_123 dX7_counted_37 ?_
        refine lv_iload_n hC.1 hC.2.1 dX7_counted_40 rfl (lv_at hl 1 rfl) ?_
        obtain ⟨n7, hF⟩ := ifO hF
        refine r_iald hC.1 hC.2.1 hw (rfl : kd 88 = 1) n7 dX7_counted_41 ?_
        refine lv_aload_n hC.1 hC.2.1 dX7_counted_42 rfl (lv_at hl 0 rfl) ?_
        refine g7_men hC hw q4_126 dX7_counted_43 ?_
        refine lv_icmp_eq (tgt := 55) hC.1 hC.2.1 dX7_counted_46 (by decide) (fun b8 => ?_) (fun b8 => ?_)
        · have hF := ifP hF b8
          refine lv_iconst (v := (0 : Int32)) hC.1 hC.2.1 dX7_counted_55 (by decide) ?_
          refine lv_istore_n (lv' := [(2, .int (0 : Int32)), (0, .ref (ad G 86)), (1, .int x1)]) hC.1 hC.2.1 dX7_counted_56 rfl hl (by decide) rfl (fun ls hl => ?_)
          refine lv_iconst (v := (0 : Int32)) hC.1 hC.2.1 dX7_counted_57 (by decide) ?_
          refine lv_istore_n (lv' := [(3, .int (0 : Int32)), (2, .int (0 : Int32)), (0, .ref (ad G 86)), (1, .int x1)]) hC.1 hC.2.1 dX7_counted_58 rfl hl (by decide) rfl (fun ls hl => ?_)
          exact w_X7_counted_59 hC _ hF hw (lv_sub hl [2, 3, 1, 0] rfl)
        · have hF := ifN hF b8
          refine lv_aload_n hC.1 hC.2.1 dX7_counted_49 rfl (lv_at hl 0 rfl) ?_
          refine lv_iconst (v := (5 : Int32)) hC.1 hC.2.1 dX7_counted_50 (by decide) ?_
          obtain ⟨r10, M11, h9, hF⟩ := ob2S hF
          refine k_Vi (As := [.int (5 : Int32)]) (rest := []) hC hw (c_X7_finds (M := M) h9) RC_X yv_X7_finds q5_6 ⟨rfl, rfl⟩ ⟨Nat.le_of_ble_eq_true rfl, Nat.le_of_ble_eq_true rfl⟩ ⟨Nat.zero_le _, Nat.zero_le _⟩ rfl rfl (Nat.le_of_ble_eq_true rfl) hl dX7_counted_51 (fun H locs hw => ?_)
          exact r_iretE hC hw hF dX7_counted_54
      · have hF := ifP hF b6
        refine lv_aload_n hC.1 hC.2.1 dX7_counted_30 rfl (lv_at hl 0 rfl) ?_
        refine lv_iconst (v := (1 : Int32)) hC.1 hC.2.1 dX7_counted_31 (by decide) ?_
        obtain ⟨r13, M14, h12, hF⟩ := ob2S hF
        refine k_Vi (As := [.int (1 : Int32)]) (rest := []) hC hw (c_X7_finds (M := M) h12) RC_X yv_X7_finds q5_6 ⟨rfl, rfl⟩ ⟨Nat.le_of_ble_eq_true rfl, Nat.le_of_ble_eq_true rfl⟩ ⟨Nat.zero_le _, Nat.zero_le _⟩ rfl rfl (Nat.le_of_ble_eq_true rfl) hl dX7_counted_32 (fun H locs hw => ?_)
        exact r_iretE hC hw hF dX7_counted_35
    · have hF := ifP hF b4
      refine lv_bipush (v := (-4 : Int32)) hC.1 hC.2.1 dX7_counted_16 (by decide) ?_
      exact r_iretE hC hw hF dX7_counted_18
  · have hF := ifP hF b3
    refine lv_iconst (v := (-1 : Int32)) hC.1 hC.2.1 dX7_counted_7 (by decide) ?_
    exact r_iretE hC hw hF dX7_counted_8
abbrev rm_X7_wrongPairs : Room := { frames := 1, cells := 0, slots := 0, locals := 25 }
theorem yv_X7_wrongPairs : YV yX7_wrongPairs cX7_wrongPairs 3 (some .int) 1 RX7 := ⟨⟨q6_58, qs_64, q1_8, q6_59⟩, by decide +kernel⟩
theorem dX7_wrongPairs_0 : decode cX7_wrongPairs 0 = .ok (.aload_n 0, 1) := by decide +kernel
theorem dX7_wrongPairs_1 : decode cX7_wrongPairs 1 = .ok (.getfield 13, 3) := by decide +kernel
theorem dX7_wrongPairs_4 : decode cX7_wrongPairs 4 = .ok (.iload_n 1, 1) := by decide +kernel
theorem dX7_wrongPairs_5 : decode cX7_wrongPairs 5 = .ok (.iaload, 1) := by decide +kernel
theorem dX7_wrongPairs_6 : decode cX7_wrongPairs 6 = .ok (.bipush (-9), 2) := by decide +kernel
theorem dX7_wrongPairs_8 : decode cX7_wrongPairs 8 = .ok (.if_icmp .ne 5, 3) := by decide +kernel
theorem dX7_wrongPairs_11 : decode cX7_wrongPairs 11 = .ok (.iconst 1, 1) := by decide +kernel
theorem dX7_wrongPairs_12 : decode cX7_wrongPairs 12 = .ok (.ireturn, 1) := by decide +kernel
theorem dX7_wrongPairs_13 : decode cX7_wrongPairs 13 = .ok (.aload_n 0, 1) := by decide +kernel
theorem dX7_wrongPairs_14 : decode cX7_wrongPairs 14 = .ok (.getfield 13, 3) := by decide +kernel
theorem dX7_wrongPairs_17 : decode cX7_wrongPairs 17 = .ok (.iload_n 1, 1) := by decide +kernel
theorem dX7_wrongPairs_18 : decode cX7_wrongPairs 18 = .ok (.iaload, 1) := by decide +kernel
theorem dX7_wrongPairs_19 : decode cX7_wrongPairs 19 = .ok (.iconst 2, 1) := by decide +kernel
theorem dX7_wrongPairs_20 : decode cX7_wrongPairs 20 = .ok (.irem, 1) := by decide +kernel
theorem dX7_wrongPairs_21 : decode cX7_wrongPairs 21 = .ok (.iconst 1, 1) := by decide +kernel
theorem dX7_wrongPairs_22 : decode cX7_wrongPairs 22 = .ok (.if_icmp .ne 5, 3) := by decide +kernel
theorem dX7_wrongPairs_25 : decode cX7_wrongPairs 25 = .ok (.iconst 5, 1) := by decide +kernel
theorem dX7_wrongPairs_26 : decode cX7_wrongPairs 26 = .ok (.ireturn, 1) := by decide +kernel
theorem dX7_wrongPairs_27 : decode cX7_wrongPairs 27 = .ok (.iconst 0, 1) := by decide +kernel
theorem dX7_wrongPairs_28 : decode cX7_wrongPairs 28 = .ok (.istore_n 2, 1) := by decide +kernel
theorem dX7_wrongPairs_29 : decode cX7_wrongPairs 29 = .ok (.iload_n 2, 1) := by decide +kernel
theorem dX7_wrongPairs_30 : decode cX7_wrongPairs 30 = .ok (.aload_n 0, 1) := by decide +kernel
theorem dX7_wrongPairs_31 : decode cX7_wrongPairs 31 = .ok (.getfield 13, 3) := by decide +kernel
theorem dX7_wrongPairs_34 : decode cX7_wrongPairs 34 = .ok (.iload_n 1, 1) := by decide +kernel
theorem dX7_wrongPairs_35 : decode cX7_wrongPairs 35 = .ok (.iaload, 1) := by decide +kernel
theorem dX7_wrongPairs_36 : decode cX7_wrongPairs 36 = .ok (.if_icmp .ge 45, 3) := by decide +kernel
theorem dX7_wrongPairs_39 : decode cX7_wrongPairs 39 = .ok (.aload_n 0, 1) := by decide +kernel
theorem dX7_wrongPairs_40 : decode cX7_wrongPairs 40 = .ok (.getfield 7, 3) := by decide +kernel
theorem dX7_wrongPairs_43 : decode cX7_wrongPairs 43 = .ok (.bipush 40, 2) := by decide +kernel
theorem dX7_wrongPairs_45 : decode cX7_wrongPairs 45 = .ok (.iload_n 1, 1) := by decide +kernel
theorem dX7_wrongPairs_46 : decode cX7_wrongPairs 46 = .ok (.imul, 1) := by decide +kernel
theorem dX7_wrongPairs_47 : decode cX7_wrongPairs 47 = .ok (.iload_n 2, 1) := by decide +kernel
theorem dX7_wrongPairs_48 : decode cX7_wrongPairs 48 = .ok (.iadd, 1) := by decide +kernel
theorem dX7_wrongPairs_49 : decode cX7_wrongPairs 49 = .ok (.iaload, 1) := by decide +kernel
theorem dX7_wrongPairs_50 : decode cX7_wrongPairs 50 = .ok (.i2l, 1) := by decide +kernel
theorem dX7_wrongPairs_51 : decode cX7_wrongPairs 51 = .ok (.lconst 0, 1) := by decide +kernel
theorem dX7_wrongPairs_52 : decode cX7_wrongPairs 52 = .ok (.iload_n 2, 1) := by decide +kernel
theorem dX7_wrongPairs_53 : decode cX7_wrongPairs 53 = .ok (.iconst 2, 1) := by decide +kernel
theorem dX7_wrongPairs_54 : decode cX7_wrongPairs 54 = .ok (.irem, 1) := by decide +kernel
theorem dX7_wrongPairs_55 : decode cX7_wrongPairs 55 = .ok (.ifCond .ne 9, 3) := by decide +kernel
theorem dX7_wrongPairs_58 : decode cX7_wrongPairs 58 = .ok (.ldc2_w 112, 3) := by decide +kernel
theorem dX7_wrongPairs_61 : decode cX7_wrongPairs 61 = .ok (.goto 6, 3) := by decide +kernel
theorem dX7_wrongPairs_64 : decode cX7_wrongPairs 64 = .ok (.ldc2_w 218, 3) := by decide +kernel
theorem dX7_wrongPairs_67 : decode cX7_wrongPairs 67 = .ok (.invokestatic 104, 3) := by decide +kernel
theorem dX7_wrongPairs_70 : decode cX7_wrongPairs 70 = .ok (.ifCond .ne 5, 3) := by decide +kernel
theorem dX7_wrongPairs_73 : decode cX7_wrongPairs 73 = .ok (.iconst 3, 1) := by decide +kernel
theorem dX7_wrongPairs_74 : decode cX7_wrongPairs 74 = .ok (.ireturn, 1) := by decide +kernel
theorem dX7_wrongPairs_75 : decode cX7_wrongPairs 75 = .ok (.iinc 2 1, 3) := by decide +kernel
theorem dX7_wrongPairs_78 : decode cX7_wrongPairs 78 = .ok (.goto (-49), 3) := by decide +kernel
theorem dX7_wrongPairs_81 : decode cX7_wrongPairs 81 = .ok (.bipush (-9), 2) := by decide +kernel
theorem dX7_wrongPairs_83 : decode cX7_wrongPairs 83 = .ok (.ireturn, 1) := by decide +kernel
def F_X7_wrongPairs_67 (fu : Nat) (M : Mm) (k29 : Int32 → Int32 → Option Int32) (x1 : Int32) (x2 : Int32) (t0 : Int64) (t1 : Int64) (t2 : Int64) : Option Int32 :=
  ob1 (F_X7_in fu M t0 t1 t2) (fun r2 =>
  if r2 = 0 then
    some (3 : Int32)
  else
    k29 x1 (x2 + (1 : Int32)))
set_option maxRecDepth 100000 in
set_option maxHeartbeats 4000000 in
theorem w_X7_wrongPairs_67 {p : Program} {l : Launch} {e : Env} {s : State} {m : MethodId} {args : Array Value} {below : List Frame} {meth : Method} {c : Code} {G : Gv} (hC : Cx p s m args meth c cX7_wrongPairs 3 (some .int) RX7) {fu : Nat} {r : Int32} {M : Mm} {k29 : Int32 → Int32 → Option Int32} (hk_29 : ∀ {x1 : Int32} {x2 : Int32} {H : Heap} {locs : List Loc} {ls : Array Slot}, k29 x1 x2 = some r → St G s H locs M → lv_has ls 3 [(0, .ref (ad G 86)), (1, .int x1), (2, .int x2)] → W p l e rm_X7_wrongPairs s m args below meth c H locs 0 0 (MQ below (QI G r M) args s 0 0 (zA G)) (F0 m 29 ls [])) {x1 : Int32} {x2 : Int32} {t0 : Int64} {t1 : Int64} {t2 : Int64} {H : Heap} {locs : List Loc} {ls : Array Slot} (hF : F_X7_wrongPairs_67 fu M k29 x1 x2 t0 t1 t2 = some r) (hw : St G s H locs M) (hl : lv_has ls 3 [(0, .ref (ad G 86)), (1, .int x1), (2, .int x2)]) : W p l e rm_X7_wrongPairs s m args below meth c H locs 0 0 (MQ below (QI G r M) args s 0 0 (zA G)) (F0 m 67 ls [.long t2, .long t1, .long t0]) := by
  unfold F_X7_wrongPairs_67 at hF
  obtain ⟨r2, h1, hF⟩ := ob1S hF
  refine k_Si (As := [.long t0, .long t1, .long t2]) (rest := []) hC hw (c_X7_in (M := M) h1) ys_X7_in q5_3 ⟨rfl, rfl⟩ ⟨Nat.le_of_ble_eq_true rfl, Nat.le_of_ble_eq_true rfl⟩ ⟨Nat.zero_le _, Nat.zero_le _⟩ rfl rfl (Nat.le_of_ble_eq_true rfl) hl dX7_wrongPairs_67 (fun H locs hw => ?_)
  refine lv_if_ne (tgt := 75) hC.1 hC.2.1 dX7_wrongPairs_70 (by decide) (fun b3 => ?_) (fun b3 => ?_)
  · have hF := ifN hF b3
    refine lv_iinc (v := (x2 + (1 : Int32))) (lv' := [(2, .int (x2 + (1 : Int32))), (0, .ref (ad G 86)), (1, .int x1)]) hC.1 hC.2.1 dX7_wrongPairs_75 hl (k := 2) rfl rfl (by decide) rfl (fun ls hl => ?_)
    refine lv_goto (tgt := 29) hC.1 hC.2.1 dX7_wrongPairs_78 (by decide) ?_
    exact hk_29 hF hw (lv_sub hl [1, 2, 0] rfl)
  · have hF := ifP hF b3
    refine lv_iconst (v := (3 : Int32)) hC.1 hC.2.1 dX7_wrongPairs_73 (by decide) ?_
    exact r_iretP hC hw hF dX7_wrongPairs_74
def F_X7_wrongPairs_29 (fu : Nat) (M : Mm) : Nat → Int32 → Int32 → Option Int32
  | 0, _, _ => none
  | n + 1, x1, x2 =>
    if x1 < 0 ∨ ln 88 ≤ x1.toNatClampNeg then none else (
    if (M.1 88 x1.toNatClampNeg) ≤ x2 then
      some (-9 : Int32)
    else
      if (((40 : Int32) * x1) + x2) < 0 ∨ ln 87 ≤ (((40 : Int32) * x1) + x2).toNatClampNeg then none else (
      if (x2 - x2 / (2 : Int32) * (2 : Int32)) = 0 then
        F_X7_wrongPairs_67 fu M (F_X7_wrongPairs_29 fu M n) x1 x2 (M.1 87 (((40 : Int32) * x1) + x2).toNatClampNeg).toInt64 (0 : Int64) (60 : Int64)
      else
        F_X7_wrongPairs_67 fu M (F_X7_wrongPairs_29 fu M n) x1 x2 (M.1 87 (((40 : Int32) * x1) + x2).toNatClampNeg).toInt64 (0 : Int64) (99 : Int64)))
set_option maxRecDepth 100000 in
set_option maxHeartbeats 4000000 in
theorem w_X7_wrongPairs_29 {p : Program} {l : Launch} {e : Env} {s : State} {m : MethodId} {args : Array Value} {below : List Frame} {meth : Method} {c : Code} {G : Gv} (hC : Cx p s m args meth c cX7_wrongPairs 3 (some .int) RX7) {fu : Nat} {r : Int32} {M : Mm} : ∀ (n : Nat) {x1 : Int32} {x2 : Int32} {H : Heap} {locs : List Loc} {ls : Array Slot}, F_X7_wrongPairs_29 fu M n x1 x2 = some r → St G s H locs M → lv_has ls 3 [(0, .ref (ad G 86)), (1, .int x1), (2, .int x2)] → W p l e rm_X7_wrongPairs s m args below meth c H locs 0 0 (MQ below (QI G r M) args s 0 0 (zA G)) (F0 m 29 ls []) := by
  intro n
  induction n with
  | zero =>
    intro x1 x2 H locs ls hF hw hl
    cases hF
  | succ n ih =>
    intro x1 x2 H locs ls hF hw hl
    unfold F_X7_wrongPairs_29 at hF
    refine lv_iload_n hC.1 hC.2.1 dX7_wrongPairs_29 rfl (lv_at hl 2 rfl) ?_
    refine lv_aload_n hC.1 hC.2.1 dX7_wrongPairs_30 rfl (lv_at hl 0 rfl) ?_
    refine g7_rowLong hC hw q4_123 dX7_wrongPairs_31 ?_
    refine lv_iload_n hC.1 hC.2.1 dX7_wrongPairs_34 rfl (lv_at hl 1 rfl) ?_
    obtain ⟨n1, hF⟩ := ifO hF
    refine r_iald hC.1 hC.2.1 hw (rfl : kd 88 = 1) n1 dX7_wrongPairs_35 ?_
    refine lv_icmp_ge (tgt := 81) hC.1 hC.2.1 dX7_wrongPairs_36 (by decide) (fun b2 => ?_) (fun b2 => ?_)
    · have hF := ifP hF b2
      refine lv_bipush (v := (-9 : Int32)) hC.1 hC.2.1 dX7_wrongPairs_81 (by decide) ?_
      exact r_iretP hC hw hF dX7_wrongPairs_83
    · have hF := ifN hF b2
      refine lv_aload_n hC.1 hC.2.1 dX7_wrongPairs_39 rfl (lv_at hl 0 rfl) ?_
      refine g7_rows hC hw q4_122 dX7_wrongPairs_40 ?_
      refine lv_bipush (v := (40 : Int32)) hC.1 hC.2.1 dX7_wrongPairs_43 (by decide) ?_
      refine lv_iload_n hC.1 hC.2.1 dX7_wrongPairs_45 rfl (lv_at hl 1 rfl) ?_
      refine lv_imul hC.1 hC.2.1 dX7_wrongPairs_46 ?_
      refine lv_iload_n hC.1 hC.2.1 dX7_wrongPairs_47 rfl (lv_at hl 2 rfl) ?_
      refine lv_iadd hC.1 hC.2.1 dX7_wrongPairs_48 ?_
      obtain ⟨n3, hF⟩ := ifO hF
      refine r_iald hC.1 hC.2.1 hw (rfl : kd 87 = 1) n3 dX7_wrongPairs_49 ?_
      refine lv_i2l hC.1 hC.2.1 dX7_wrongPairs_50 rfl ?_
      refine lv_lconst (v := (0 : Int64)) hC.1 hC.2.1 dX7_wrongPairs_51 (by decide) ?_
      refine lv_iload_n hC.1 hC.2.1 dX7_wrongPairs_52 rfl (lv_at hl 2 rfl) ?_
      refine lv_iconst (v := (2 : Int32)) hC.1 hC.2.1 dX7_wrongPairs_53 (by decide) ?_
      refine lv_irem hC.1 hC.2.1 dX7_wrongPairs_54 (by decide) ?_
      refine lv_if_ne (tgt := 64) hC.1 hC.2.1 dX7_wrongPairs_55 (by decide) (fun b4 => ?_) (fun b4 => ?_)
      · have hF := ifN hF b4
        refine lv_ldc2 (v := (99 : Int64)) hC.1 hC.2.1 hC.2.2.2.1 (hC.2.2.2.2.1 _ q5_147) dX7_wrongPairs_64 ?_
        exact w_X7_wrongPairs_67 hC (hk_29 := ih) hF hw (lv_sub hl [0, 1, 2] rfl)
      · have hF := ifP hF b4
        refine lv_ldc2 (v := (60 : Int64)) hC.1 hC.2.1 hC.2.2.2.1 (hC.2.2.2.2.1 _ q5_207) dX7_wrongPairs_58 ?_
        refine lv_goto (tgt := 67) hC.1 hC.2.1 dX7_wrongPairs_61 (by decide) ?_
        exact w_X7_wrongPairs_67 hC (hk_29 := ih) hF hw (lv_sub hl [0, 1, 2] rfl)
def F_X7_wrongPairs (fu : Nat) (M : Mm) (x1 : Int32) : Option Int32 :=
  if x1 < 0 ∨ ln 88 ≤ x1.toNatClampNeg then none else (
  if (M.1 88 x1.toNatClampNeg) = (-9 : Int32) then
    some (1 : Int32)
  else
    if x1 < 0 ∨ ln 88 ≤ x1.toNatClampNeg then none else (
    if ((M.1 88 x1.toNatClampNeg) - (M.1 88 x1.toNatClampNeg) / (2 : Int32) * (2 : Int32)) = (1 : Int32) then
      some (5 : Int32)
    else
      F_X7_wrongPairs_29 fu M fu x1 (0 : Int32)))
set_option maxRecDepth 100000 in
set_option maxHeartbeats 4000000 in
theorem c_X7_wrongPairs {l : Launch} {G : Gv} {fu : Nat} {M : Mm} {x1 : Int32} {r : Int32} (hF : F_X7_wrongPairs fu M x1 = some r) : Met l yX7_wrongPairs (.code yX7_wrongPairs cX7_wrongPairs 3 (some .int) :: zU) rm_X7_wrongPairs (va_Pc [.ref (ad G 86), .int x1] (Wd G M)) (QI G r M) 0 0 (zA G) := by
  refine zMet (by decide) rfl (Nat.le_of_ble_eq_true rfl) ?_
  intro p e s m below meth c hC hw ls hl
  have hl : lv_has ls 3 [(0, .ref (ad G 86)), (1, .int x1)] := hl
  unfold F_X7_wrongPairs at hF
  refine lv_aload_n hC.1 hC.2.1 dX7_wrongPairs_0 rfl (lv_at hl 0 rfl) ?_
  refine g7_rowLong hC hw q4_123 dX7_wrongPairs_1 ?_
  refine lv_iload_n hC.1 hC.2.1 dX7_wrongPairs_4 rfl (lv_at hl 1 rfl) ?_
  obtain ⟨n1, hF⟩ := ifO hF
  refine r_iald hC.1 hC.2.1 hw (rfl : kd 88 = 1) n1 dX7_wrongPairs_5 ?_
  refine lv_bipush (v := (-9 : Int32)) hC.1 hC.2.1 dX7_wrongPairs_6 (by decide) ?_
  refine lv_icmp_ne (tgt := 13) hC.1 hC.2.1 dX7_wrongPairs_8 (by decide) (fun b2 => ?_) (fun b2 => ?_)
  · have hF := ifN hF b2
    refine lv_aload_n hC.1 hC.2.1 dX7_wrongPairs_13 rfl (lv_at hl 0 rfl) ?_
    refine g7_rowLong hC hw q4_123 dX7_wrongPairs_14 ?_
    refine lv_iload_n hC.1 hC.2.1 dX7_wrongPairs_17 rfl (lv_at hl 1 rfl) ?_
    obtain ⟨n3, hF⟩ := ifO hF
    refine r_iald hC.1 hC.2.1 hw (rfl : kd 88 = 1) n3 dX7_wrongPairs_18 ?_
    refine lv_iconst (v := (2 : Int32)) hC.1 hC.2.1 dX7_wrongPairs_19 (by decide) ?_
    refine lv_irem hC.1 hC.2.1 dX7_wrongPairs_20 (by decide) ?_
    refine lv_iconst (v := (1 : Int32)) hC.1 hC.2.1 dX7_wrongPairs_21 (by decide) ?_
    refine lv_icmp_ne (tgt := 27) hC.1 hC.2.1 dX7_wrongPairs_22 (by decide) (fun b4 => ?_) (fun b4 => ?_)
    · have hF := ifN hF b4
      refine lv_iconst (v := (0 : Int32)) hC.1 hC.2.1 dX7_wrongPairs_27 (by decide) ?_
      refine lv_istore_n (lv' := [(2, .int (0 : Int32)), (0, .ref (ad G 86)), (1, .int x1)]) hC.1 hC.2.1 dX7_wrongPairs_28 rfl hl (by decide) rfl (fun ls hl => ?_)
      exact w_X7_wrongPairs_29 hC _ hF hw (lv_sub hl [1, 2, 0] rfl)
    · have hF := ifP hF b4
      refine lv_iconst (v := (5 : Int32)) hC.1 hC.2.1 dX7_wrongPairs_25 (by decide) ?_
      exact r_iretP hC hw hF dX7_wrongPairs_26
  · have hF := ifP hF b2
    refine lv_iconst (v := (1 : Int32)) hC.1 hC.2.1 dX7_wrongPairs_11 (by decide) ?_
    exact r_iretP hC hw hF dX7_wrongPairs_12
abbrev rm_X7_isSeen : Room := { frames := 3, cells := 0, slots := 0, locals := 71 }
theorem yv_X7_isSeen : YV yX7_isSeen cX7_isSeen 7 (some .boolean) 4 RX7 := ⟨⟨q6_62, qs_65, q1_8, q6_63⟩, by decide +kernel⟩
theorem dX7_isSeen_0 : decode cX7_isSeen 0 = .ok (.iconst 1, 1) := by decide +kernel
theorem dX7_isSeen_1 : decode cX7_isSeen 1 = .ok (.istore 5, 2) := by decide +kernel
theorem dX7_isSeen_3 : decode cX7_isSeen 3 = .ok (.iconst 0, 1) := by decide +kernel
theorem dX7_isSeen_4 : decode cX7_isSeen 4 = .ok (.istore 6, 2) := by decide +kernel
theorem dX7_isSeen_6 : decode cX7_isSeen 6 = .ok (.iload 6, 2) := by decide +kernel
theorem dX7_isSeen_8 : decode cX7_isSeen 8 = .ok (.aload_n 0, 1) := by decide +kernel
theorem dX7_isSeen_9 : decode cX7_isSeen 9 = .ok (.getfield 13, 3) := by decide +kernel
theorem dX7_isSeen_12 : decode cX7_isSeen 12 = .ok (.iload 4, 2) := by decide +kernel
theorem dX7_isSeen_14 : decode cX7_isSeen 14 = .ok (.iaload, 1) := by decide +kernel
theorem dX7_isSeen_15 : decode cX7_isSeen 15 = .ok (.if_icmp .ge 59, 3) := by decide +kernel
theorem dX7_isSeen_18 : decode cX7_isSeen 18 = .ok (.iload 5, 2) := by decide +kernel
theorem dX7_isSeen_20 : decode cX7_isSeen 20 = .ok (.ifCond .eq 54, 3) := by decide +kernel
theorem dX7_isSeen_23 : decode cX7_isSeen 23 = .ok (.aload_n 0, 1) := by decide +kernel
theorem dX7_isSeen_24 : decode cX7_isSeen 24 = .ok (.iload_n 1, 1) := by decide +kernel
theorem dX7_isSeen_25 : decode cX7_isSeen 25 = .ok (.iload_n 2, 1) := by decide +kernel
theorem dX7_isSeen_26 : decode cX7_isSeen 26 = .ok (.iload_n 3, 1) := by decide +kernel
theorem dX7_isSeen_27 : decode cX7_isSeen 27 = .ok (.aload_n 0, 1) := by decide +kernel
theorem dX7_isSeen_28 : decode cX7_isSeen 28 = .ok (.getfield 7, 3) := by decide +kernel
theorem dX7_isSeen_31 : decode cX7_isSeen 31 = .ok (.bipush 40, 2) := by decide +kernel
theorem dX7_isSeen_33 : decode cX7_isSeen 33 = .ok (.iload 4, 2) := by decide +kernel
theorem dX7_isSeen_35 : decode cX7_isSeen 35 = .ok (.imul, 1) := by decide +kernel
theorem dX7_isSeen_36 : decode cX7_isSeen 36 = .ok (.iload 6, 2) := by decide +kernel
theorem dX7_isSeen_38 : decode cX7_isSeen 38 = .ok (.iadd, 1) := by decide +kernel
theorem dX7_isSeen_39 : decode cX7_isSeen 39 = .ok (.iaload, 1) := by decide +kernel
theorem dX7_isSeen_40 : decode cX7_isSeen 40 = .ok (.invokevirtual 180, 3) := by decide +kernel
theorem dX7_isSeen_43 : decode cX7_isSeen 43 = .ok (.aload_n 0, 1) := by decide +kernel
theorem dX7_isSeen_44 : decode cX7_isSeen 44 = .ok (.getfield 7, 3) := by decide +kernel
theorem dX7_isSeen_47 : decode cX7_isSeen 47 = .ok (.bipush 40, 2) := by decide +kernel
theorem dX7_isSeen_49 : decode cX7_isSeen 49 = .ok (.iload 4, 2) := by decide +kernel
theorem dX7_isSeen_51 : decode cX7_isSeen 51 = .ok (.imul, 1) := by decide +kernel
theorem dX7_isSeen_52 : decode cX7_isSeen 52 = .ok (.iload 6, 2) := by decide +kernel
theorem dX7_isSeen_54 : decode cX7_isSeen 54 = .ok (.iadd, 1) := by decide +kernel
theorem dX7_isSeen_55 : decode cX7_isSeen 55 = .ok (.iconst 1, 1) := by decide +kernel
theorem dX7_isSeen_56 : decode cX7_isSeen 56 = .ok (.iadd, 1) := by decide +kernel
theorem dX7_isSeen_57 : decode cX7_isSeen 57 = .ok (.iaload, 1) := by decide +kernel
theorem dX7_isSeen_58 : decode cX7_isSeen 58 = .ok (.if_icmp .ne 7, 3) := by decide +kernel
theorem dX7_isSeen_61 : decode cX7_isSeen 61 = .ok (.iconst 1, 1) := by decide +kernel
theorem dX7_isSeen_62 : decode cX7_isSeen 62 = .ok (.goto 4, 3) := by decide +kernel
theorem dX7_isSeen_65 : decode cX7_isSeen 65 = .ok (.iconst 0, 1) := by decide +kernel
theorem dX7_isSeen_66 : decode cX7_isSeen 66 = .ok (.istore 5, 2) := by decide +kernel
theorem dX7_isSeen_68 : decode cX7_isSeen 68 = .ok (.iinc 6 2, 3) := by decide +kernel
theorem dX7_isSeen_71 : decode cX7_isSeen 71 = .ok (.goto (-65), 3) := by decide +kernel
theorem dX7_isSeen_74 : decode cX7_isSeen 74 = .ok (.iload 5, 2) := by decide +kernel
theorem dX7_isSeen_76 : decode cX7_isSeen 76 = .ok (.ireturn, 1) := by decide +kernel
def F_X7_isSeen_6 (fu : Nat) (M : Mm) : Nat → Int32 → Int32 → Int32 → Int32 → Int32 → Int32 → Option Int32
  | 0, _, _, _, _, _, _ => none
  | n + 1, x1, x2, x3, x4, x5, x6 =>
    if x4 < 0 ∨ ln 88 ≤ x4.toNatClampNeg then none else (
    if (M.1 88 x4.toNatClampNeg) ≤ x6 then
      if ¬ (x5 = 0 ∨ x5 = 1) then none else (
      some x5)
    else
      if x5 = 0 then
        if ¬ (x5 = 0 ∨ x5 = 1) then none else (
        some x5)
      else
        if (((40 : Int32) * x4) + x6) < 0 ∨ ln 87 ≤ (((40 : Int32) * x4) + x6).toNatClampNeg then none else (
        ob1 (F_X7_bulkAfter fu M x1 x2 x3 (M.1 87 (((40 : Int32) * x4) + x6).toNatClampNeg)) (fun r8 =>
        if ((((40 : Int32) * x4) + x6) + (1 : Int32)) < 0 ∨ ln 87 ≤ ((((40 : Int32) * x4) + x6) + (1 : Int32)).toNatClampNeg then none else (
        if r8 = (M.1 87 ((((40 : Int32) * x4) + x6) + (1 : Int32)).toNatClampNeg) then
          F_X7_isSeen_6 fu M n x1 x2 x3 x4 (1 : Int32) (x6 + (2 : Int32))
        else
          F_X7_isSeen_6 fu M n x1 x2 x3 x4 (0 : Int32) (x6 + (2 : Int32))))))
set_option maxRecDepth 100000 in
set_option maxHeartbeats 4000000 in
theorem w_X7_isSeen_6 {p : Program} {l : Launch} {e : Env} {s : State} {m : MethodId} {args : Array Value} {below : List Frame} {meth : Method} {c : Code} {G : Gv} (hC : Cx p s m args meth c cX7_isSeen 7 (some .boolean) RX7) {fu : Nat} {r : Int32} {M : Mm} : ∀ (n : Nat) {x1 : Int32} {x2 : Int32} {x3 : Int32} {x4 : Int32} {x5 : Int32} {x6 : Int32} {H : Heap} {locs : List Loc} {ls : Array Slot}, F_X7_isSeen_6 fu M n x1 x2 x3 x4 x5 x6 = some r → St G s H locs M → lv_has ls 7 [(0, .ref (ad G 86)), (1, .int x1), (2, .int x2), (3, .int x3), (4, .int x4), (5, .int x5), (6, .int x6)] → W p l e rm_X7_isSeen s m args below meth c H locs 0 0 (MQ below (QI G r M) args s 0 0 (zA G)) (F0 m 6 ls []) := by
  intro n
  induction n with
  | zero =>
    intro x1 x2 x3 x4 x5 x6 H locs ls hF hw hl
    cases hF
  | succ n ih =>
    intro x1 x2 x3 x4 x5 x6 H locs ls hF hw hl
    unfold F_X7_isSeen_6 at hF
    refine lv_iload hC.1 hC.2.1 dX7_isSeen_6 (lv_at hl 6 rfl) ?_
    refine lv_aload_n hC.1 hC.2.1 dX7_isSeen_8 rfl (lv_at hl 0 rfl) ?_
    refine g7_rowLong hC hw q4_123 dX7_isSeen_9 ?_
    refine lv_iload hC.1 hC.2.1 dX7_isSeen_12 (lv_at hl 4 rfl) ?_
    obtain ⟨n1, hF⟩ := ifO hF
    refine r_iald hC.1 hC.2.1 hw (rfl : kd 88 = 1) n1 dX7_isSeen_14 ?_
    refine lv_icmp_ge (tgt := 74) hC.1 hC.2.1 dX7_isSeen_15 (by decide) (fun b2 => ?_) (fun b2 => ?_)
    · have hF := ifP hF b2
      refine lv_iload hC.1 hC.2.1 dX7_isSeen_74 (lv_at hl 5 rfl) ?_
      obtain ⟨z3, hF⟩ := ifO hF
      exact r_zretP hC hw (Decidable.not_not.mp z3) hF dX7_isSeen_76
    · have hF := ifN hF b2
      refine lv_iload hC.1 hC.2.1 dX7_isSeen_18 (lv_at hl 5 rfl) ?_
      refine lv_if_eq (tgt := 74) hC.1 hC.2.1 dX7_isSeen_20 (by decide) (fun b4 => ?_) (fun b4 => ?_)
      · have hF := ifP hF b4
        refine lv_iload hC.1 hC.2.1 dX7_isSeen_74 (lv_at hl 5 rfl) ?_
        obtain ⟨z5, hF⟩ := ifO hF
        exact r_zretP hC hw (Decidable.not_not.mp z5) hF dX7_isSeen_76
      · have hF := ifN hF b4
        refine lv_aload_n hC.1 hC.2.1 dX7_isSeen_23 rfl (lv_at hl 0 rfl) ?_
        refine lv_iload_n hC.1 hC.2.1 dX7_isSeen_24 rfl (lv_at hl 1 rfl) ?_
        refine lv_iload_n hC.1 hC.2.1 dX7_isSeen_25 rfl (lv_at hl 2 rfl) ?_
        refine lv_iload_n hC.1 hC.2.1 dX7_isSeen_26 rfl (lv_at hl 3 rfl) ?_
        refine lv_aload_n hC.1 hC.2.1 dX7_isSeen_27 rfl (lv_at hl 0 rfl) ?_
        refine g7_rows hC hw q4_122 dX7_isSeen_28 ?_
        refine lv_bipush (v := (40 : Int32)) hC.1 hC.2.1 dX7_isSeen_31 (by decide) ?_
        refine lv_iload hC.1 hC.2.1 dX7_isSeen_33 (lv_at hl 4 rfl) ?_
        refine lv_imul hC.1 hC.2.1 dX7_isSeen_35 ?_
        refine lv_iload hC.1 hC.2.1 dX7_isSeen_36 (lv_at hl 6 rfl) ?_
        refine lv_iadd hC.1 hC.2.1 dX7_isSeen_38 ?_
        obtain ⟨n6, hF⟩ := ifO hF
        refine r_iald hC.1 hC.2.1 hw (rfl : kd 87 = 1) n6 dX7_isSeen_39 ?_
        obtain ⟨r8, h7, hF⟩ := ob1S hF
        refine k_Vi (As := [.int x1, .int x2, .int x3, .int (M.1 87 (((40 : Int32) * x4) + x6).toNatClampNeg)]) (rest := []) hC hw (c_X7_bulkAfter (M := M) h7) RC_X yv_X7_bulkAfter q5_105 ⟨rfl, rfl⟩ ⟨Nat.le_of_ble_eq_true rfl, Nat.le_of_ble_eq_true rfl⟩ ⟨Nat.zero_le _, Nat.zero_le _⟩ rfl rfl (Nat.le_of_ble_eq_true rfl) hl dX7_isSeen_40 (fun H locs hw => ?_)
        refine lv_aload_n hC.1 hC.2.1 dX7_isSeen_43 rfl (lv_at hl 0 rfl) ?_
        refine g7_rows hC hw q4_122 dX7_isSeen_44 ?_
        refine lv_bipush (v := (40 : Int32)) hC.1 hC.2.1 dX7_isSeen_47 (by decide) ?_
        refine lv_iload hC.1 hC.2.1 dX7_isSeen_49 (lv_at hl 4 rfl) ?_
        refine lv_imul hC.1 hC.2.1 dX7_isSeen_51 ?_
        refine lv_iload hC.1 hC.2.1 dX7_isSeen_52 (lv_at hl 6 rfl) ?_
        refine lv_iadd hC.1 hC.2.1 dX7_isSeen_54 ?_
        refine lv_iconst (v := (1 : Int32)) hC.1 hC.2.1 dX7_isSeen_55 (by decide) ?_
        refine lv_iadd hC.1 hC.2.1 dX7_isSeen_56 ?_
        obtain ⟨n9, hF⟩ := ifO hF
        refine r_iald hC.1 hC.2.1 hw (rfl : kd 87 = 1) n9 dX7_isSeen_57 ?_
        refine lv_icmp_ne (tgt := 65) hC.1 hC.2.1 dX7_isSeen_58 (by decide) (fun b10 => ?_) (fun b10 => ?_)
        · have hF := ifN hF b10
          refine lv_iconst (v := (0 : Int32)) hC.1 hC.2.1 dX7_isSeen_65 (by decide) ?_
          refine lv_istore (lv' := [(5, .int (0 : Int32)), (0, .ref (ad G 86)), (1, .int x1), (2, .int x2), (3, .int x3), (4, .int x4), (6, .int x6)]) hC.1 hC.2.1 dX7_isSeen_66 hl (by decide) rfl (fun ls hl => ?_)
          refine lv_iinc (v := (x6 + (2 : Int32))) (lv' := [(6, .int (x6 + (2 : Int32))), (5, .int (0 : Int32)), (0, .ref (ad G 86)), (1, .int x1), (2, .int x2), (3, .int x3), (4, .int x4)]) hC.1 hC.2.1 dX7_isSeen_68 hl (k := 6) rfl rfl (by decide) rfl (fun ls hl => ?_)
          refine lv_goto (tgt := 6) hC.1 hC.2.1 dX7_isSeen_71 (by decide) ?_
          exact ih hF hw (lv_sub hl [2, 3, 4, 5, 6, 1, 0] rfl)
        · have hF := ifP hF b10
          refine lv_iconst (v := (1 : Int32)) hC.1 hC.2.1 dX7_isSeen_61 (by decide) ?_
          refine lv_goto (tgt := 66) hC.1 hC.2.1 dX7_isSeen_62 (by decide) ?_
          refine lv_istore (lv' := [(5, .int (1 : Int32)), (0, .ref (ad G 86)), (1, .int x1), (2, .int x2), (3, .int x3), (4, .int x4), (6, .int x6)]) hC.1 hC.2.1 dX7_isSeen_66 hl (by decide) rfl (fun ls hl => ?_)
          refine lv_iinc (v := (x6 + (2 : Int32))) (lv' := [(6, .int (x6 + (2 : Int32))), (5, .int (1 : Int32)), (0, .ref (ad G 86)), (1, .int x1), (2, .int x2), (3, .int x3), (4, .int x4)]) hC.1 hC.2.1 dX7_isSeen_68 hl (k := 6) rfl rfl (by decide) rfl (fun ls hl => ?_)
          refine lv_goto (tgt := 6) hC.1 hC.2.1 dX7_isSeen_71 (by decide) ?_
          exact ih hF hw (lv_sub hl [2, 3, 4, 5, 6, 1, 0] rfl)
def F_X7_isSeen (fu : Nat) (M : Mm) (x1 : Int32) (x2 : Int32) (x3 : Int32) (x4 : Int32) : Option Int32 :=
  F_X7_isSeen_6 fu M fu x1 x2 x3 x4 (1 : Int32) (0 : Int32)
set_option maxRecDepth 100000 in
set_option maxHeartbeats 4000000 in
theorem c_X7_isSeen {l : Launch} {G : Gv} {fu : Nat} {M : Mm} {x1 : Int32} {x2 : Int32} {x3 : Int32} {x4 : Int32} {r : Int32} (hF : F_X7_isSeen fu M x1 x2 x3 x4 = some r) : Met l yX7_isSeen (.code yX7_isSeen cX7_isSeen 7 (some .boolean) :: zU) rm_X7_isSeen (va_Pc [.ref (ad G 86), .int x1, .int x2, .int x3, .int x4] (Wd G M)) (QI G r M) 0 0 (zA G) := by
  refine zMet (by decide) rfl (Nat.le_of_ble_eq_true rfl) ?_
  intro p e s m below meth c hC hw ls hl
  have hl : lv_has ls 7 [(0, .ref (ad G 86)), (1, .int x1), (2, .int x2), (3, .int x3), (4, .int x4)] := hl
  unfold F_X7_isSeen at hF
  refine lv_iconst (v := (1 : Int32)) hC.1 hC.2.1 dX7_isSeen_0 (by decide) ?_
  refine lv_istore (lv' := [(5, .int (1 : Int32)), (0, .ref (ad G 86)), (1, .int x1), (2, .int x2), (3, .int x3), (4, .int x4)]) hC.1 hC.2.1 dX7_isSeen_1 hl (by decide) rfl (fun ls hl => ?_)
  refine lv_iconst (v := (0 : Int32)) hC.1 hC.2.1 dX7_isSeen_3 (by decide) ?_
  refine lv_istore (lv' := [(6, .int (0 : Int32)), (5, .int (1 : Int32)), (0, .ref (ad G 86)), (1, .int x1), (2, .int x2), (3, .int x3), (4, .int x4)]) hC.1 hC.2.1 dX7_isSeen_4 hl (by decide) rfl (fun ls hl => ?_)
  exact w_X7_isSeen_6 hC _ hF hw (lv_sub hl [2, 3, 4, 5, 6, 1, 0] rfl)
abbrev rm_X7_fits : Room := { frames := 4, cells := 0, slots := 0, locals := 97 }
theorem yv_X7_fits : YV yX7_fits cX7_fits 7 (some .int) 2 RX7 := ⟨⟨q6_53, q6_54, q1_8, q6_55⟩, by decide +kernel⟩
theorem dX7_fits_0 : decode cX7_fits 0 = .ok (.aload_n 0, 1) := by decide +kernel
theorem dX7_fits_1 : decode cX7_fits 1 = .ok (.iload_n 1, 1) := by decide +kernel
theorem dX7_fits_2 : decode cX7_fits 2 = .ok (.invokevirtual 197, 3) := by decide +kernel
theorem dX7_fits_5 : decode cX7_fits 5 = .ok (.ifCond .eq 10, 3) := by decide +kernel
theorem dX7_fits_8 : decode cX7_fits 8 = .ok (.iload_n 2, 1) := by decide +kernel
theorem dX7_fits_9 : decode cX7_fits 9 = .ok (.invokestatic 114, 3) := by decide +kernel
theorem dX7_fits_12 : decode cX7_fits 12 = .ok (.ifCond .ne 5, 3) := by decide +kernel
theorem dX7_fits_15 : decode cX7_fits 15 = .ok (.iconst (-1), 1) := by decide +kernel
theorem dX7_fits_16 : decode cX7_fits 16 = .ok (.ireturn, 1) := by decide +kernel
theorem dX7_fits_17 : decode cX7_fits 17 = .ok (.aload_n 0, 1) := by decide +kernel
theorem dX7_fits_18 : decode cX7_fits 18 = .ok (.iload_n 2, 1) := by decide +kernel
theorem dX7_fits_19 : decode cX7_fits 19 = .ok (.invokevirtual 273, 3) := by decide +kernel
theorem dX7_fits_22 : decode cX7_fits 22 = .ok (.istore_n 3, 1) := by decide +kernel
theorem dX7_fits_23 : decode cX7_fits 23 = .ok (.iload_n 3, 1) := by decide +kernel
theorem dX7_fits_24 : decode cX7_fits 24 = .ok (.bipush (-9), 2) := by decide +kernel
theorem dX7_fits_26 : decode cX7_fits 26 = .ok (.if_icmp .eq 9, 3) := by decide +kernel
theorem dX7_fits_29 : decode cX7_fits 29 = .ok (.aload_n 0, 1) := by decide +kernel
theorem dX7_fits_30 : decode cX7_fits 30 = .ok (.iload_n 3, 1) := by decide +kernel
theorem dX7_fits_31 : decode cX7_fits 31 = .ok (.invokevirtual 118, 3) := by decide +kernel
theorem dX7_fits_34 : decode cX7_fits 34 = .ok (.ireturn, 1) := by decide +kernel
theorem dX7_fits_35 : decode cX7_fits 35 = .ok (.iconst 0, 1) := by decide +kernel
theorem dX7_fits_36 : decode cX7_fits 36 = .ok (.istore 4, 2) := by decide +kernel
theorem dX7_fits_38 : decode cX7_fits 38 = .ok (.bipush (-9), 2) := by decide +kernel
theorem dX7_fits_40 : decode cX7_fits 40 = .ok (.istore 5, 2) := by decide +kernel
theorem dX7_fits_42 : decode cX7_fits 42 = .ok (.iconst 0, 1) := by decide +kernel
theorem dX7_fits_43 : decode cX7_fits 43 = .ok (.istore 6, 2) := by decide +kernel
theorem dX7_fits_45 : decode cX7_fits 45 = .ok (.iload 6, 2) := by decide +kernel
theorem dX7_fits_47 : decode cX7_fits 47 = .ok (.bipush 100, 2) := by decide +kernel
theorem dX7_fits_49 : decode cX7_fits 49 = .ok (.if_icmp .ge 48, 3) := by decide +kernel
theorem dX7_fits_52 : decode cX7_fits 52 = .ok (.aload_n 0, 1) := by decide +kernel
theorem dX7_fits_53 : decode cX7_fits 53 = .ok (.aload_n 0, 1) := by decide +kernel
theorem dX7_fits_54 : decode cX7_fits 54 = .ok (.getfield 22, 3) := by decide +kernel
theorem dX7_fits_57 : decode cX7_fits 57 = .ok (.iload_n 1, 1) := by decide +kernel
theorem dX7_fits_58 : decode cX7_fits 58 = .ok (.iaload, 1) := by decide +kernel
theorem dX7_fits_59 : decode cX7_fits 59 = .ok (.iload 6, 2) := by decide +kernel
theorem dX7_fits_61 : decode cX7_fits 61 = .ok (.aload_n 0, 1) := by decide +kernel
theorem dX7_fits_62 : decode cX7_fits 62 = .ok (.getfield 34, 3) := by decide +kernel
theorem dX7_fits_65 : decode cX7_fits 65 = .ok (.iload_n 1, 1) := by decide +kernel
theorem dX7_fits_66 : decode cX7_fits 66 = .ok (.iaload, 1) := by decide +kernel
theorem dX7_fits_67 : decode cX7_fits 67 = .ok (.iload_n 2, 1) := by decide +kernel
theorem dX7_fits_68 : decode cX7_fits 68 = .ok (.invokevirtual 276, 3) := by decide +kernel
theorem dX7_fits_71 : decode cX7_fits 71 = .ok (.ifCond .eq 20, 3) := by decide +kernel
theorem dX7_fits_74 : decode cX7_fits 74 = .ok (.iload 4, 2) := by decide +kernel
theorem dX7_fits_76 : decode cX7_fits 76 = .ok (.ifCond .ne 8, 3) := by decide +kernel
theorem dX7_fits_79 : decode cX7_fits 79 = .ok (.iload 6, 2) := by decide +kernel
theorem dX7_fits_81 : decode cX7_fits 81 = .ok (.goto 5, 3) := by decide +kernel
theorem dX7_fits_84 : decode cX7_fits 84 = .ok (.iload 5, 2) := by decide +kernel
theorem dX7_fits_86 : decode cX7_fits 86 = .ok (.istore 5, 2) := by decide +kernel
theorem dX7_fits_88 : decode cX7_fits 88 = .ok (.iinc 4 1, 3) := by decide +kernel
theorem dX7_fits_91 : decode cX7_fits 91 = .ok (.iinc 6 1, 3) := by decide +kernel
theorem dX7_fits_94 : decode cX7_fits 94 = .ok (.goto (-49), 3) := by decide +kernel
theorem dX7_fits_97 : decode cX7_fits 97 = .ok (.aload_n 0, 1) := by decide +kernel
theorem dX7_fits_98 : decode cX7_fits 98 = .ok (.iload 5, 2) := by decide +kernel
theorem dX7_fits_100 : decode cX7_fits 100 = .ok (.putfield 98, 3) := by decide +kernel
theorem dX7_fits_103 : decode cX7_fits 103 = .ok (.iload 4, 2) := by decide +kernel
theorem dX7_fits_105 : decode cX7_fits 105 = .ok (.ireturn, 1) := by decide +kernel
def F_X7_fits_45 (fu : Nat) : Nat → Mm → Int32 → Int32 → Int32 → Int32 → Int32 → Option (Int32 × Mm)
  | 0, _, _, _, _, _, _ => none
  | n + 1, M, x1, x2, x4, x5, x6 =>
    if (100 : Int32) ≤ x6 then
      lt1 (pI M 86 16 x5) (fun M2 =>
      some (x4, M2))
    else
      if x1 < 0 ∨ ln 91 ≤ x1.toNatClampNeg then none else (
      if x1 < 0 ∨ ln 95 ≤ x1.toNatClampNeg then none else (
      ob1 (F_X7_isSeen fu M (M.1 91 x1.toNatClampNeg) x6 (M.1 95 x1.toNatClampNeg) x2) (fun r6 =>
      if r6 = 0 then
        F_X7_fits_45 fu n M x1 x2 x4 x5 (x6 + (1 : Int32))
      else
        if x4 = 0 then
          F_X7_fits_45 fu n M x1 x2 (x4 + (1 : Int32)) x6 (x6 + (1 : Int32))
        else
          F_X7_fits_45 fu n M x1 x2 (x4 + (1 : Int32)) x5 (x6 + (1 : Int32)))))
set_option maxRecDepth 100000 in
set_option maxHeartbeats 4000000 in
theorem w_X7_fits_45 {p : Program} {l : Launch} {e : Env} {s : State} {m : MethodId} {args : Array Value} {below : List Frame} {meth : Method} {c : Code} {G : Gv} (hC : Cx p s m args meth c cX7_fits 7 (some .int) RX7) {fu : Nat} {r : Int32} {M' : Mm} : ∀ (n : Nat) {x1 : Int32} {x2 : Int32} {x4 : Int32} {x5 : Int32} {x6 : Int32} {M : Mm} {H : Heap} {locs : List Loc} {ls : Array Slot}, F_X7_fits_45 fu n M x1 x2 x4 x5 x6 = some (r, M') → St G s H locs M → lv_has ls 7 [(0, .ref (ad G 86)), (1, .int x1), (2, .int x2), (4, .int x4), (5, .int x5), (6, .int x6)] → W p l e rm_X7_fits s m args below meth c H locs 0 0 (MQ below (QI G r M') args s 0 0 (zA G)) (F0 m 45 ls []) := by
  intro n
  induction n with
  | zero =>
    intro x1 x2 x4 x5 x6 M H locs ls hF hw hl
    cases hF
  | succ n ih =>
    intro x1 x2 x4 x5 x6 M H locs ls hF hw hl
    unfold F_X7_fits_45 at hF
    refine lv_iload hC.1 hC.2.1 dX7_fits_45 (lv_at hl 5 rfl) ?_
    refine lv_bipush (v := (100 : Int32)) hC.1 hC.2.1 dX7_fits_47 (by decide) ?_
    refine lv_icmp_ge (tgt := 97) hC.1 hC.2.1 dX7_fits_49 (by decide) (fun b1 => ?_) (fun b1 => ?_)
    · have hF := ifP hF b1
      refine lv_aload_n hC.1 hC.2.1 dX7_fits_97 rfl (lv_at hl 0 rfl) ?_
      refine lv_iload hC.1 hC.2.1 dX7_fits_98 (lv_at hl 4 rfl) ?_
      refine u7_asks hC hw q4_138 dX7_fits_100 (fun H locs hw => ?_)
      obtain ⟨M2, hw, hF⟩ := lt1W hF hw
      refine lv_iload hC.1 hC.2.1 dX7_fits_103 (lv_at hl 3 rfl) ?_
      exact r_iretE hC hw hF dX7_fits_105
    · have hF := ifN hF b1
      refine lv_aload_n hC.1 hC.2.1 dX7_fits_52 rfl (lv_at hl 0 rfl) ?_
      refine lv_aload_n hC.1 hC.2.1 dX7_fits_53 rfl (lv_at hl 0 rfl) ?_
      refine g7_kindIs hC hw q4_127 dX7_fits_54 ?_
      refine lv_iload_n hC.1 hC.2.1 dX7_fits_57 rfl (lv_at hl 1 rfl) ?_
      obtain ⟨n3, hF⟩ := ifO hF
      refine r_iald hC.1 hC.2.1 hw (rfl : kd 91 = 1) n3 dX7_fits_58 ?_
      refine lv_iload hC.1 hC.2.1 dX7_fits_59 (lv_at hl 5 rfl) ?_
      refine lv_aload_n hC.1 hC.2.1 dX7_fits_61 rfl (lv_at hl 0 rfl) ?_
      refine g7_shades hC hw q4_131 dX7_fits_62 ?_
      refine lv_iload_n hC.1 hC.2.1 dX7_fits_65 rfl (lv_at hl 1 rfl) ?_
      obtain ⟨n4, hF⟩ := ifO hF
      refine r_iald hC.1 hC.2.1 hw (rfl : kd 95 = 1) n4 dX7_fits_66 ?_
      refine lv_iload_n hC.1 hC.2.1 dX7_fits_67 rfl (lv_at hl 2 rfl) ?_
      obtain ⟨r6, h5, hF⟩ := ob1S hF
      refine k_Vi (As := [.int (M.1 91 x1.toNatClampNeg), .int x6, .int (M.1 95 x1.toNatClampNeg), .int x2]) (rest := []) hC hw (c_X7_isSeen (M := M) h5) RC_X yv_X7_isSeen q6_60 ⟨rfl, rfl⟩ ⟨Nat.le_of_ble_eq_true rfl, Nat.le_of_ble_eq_true rfl⟩ ⟨Nat.zero_le _, Nat.zero_le _⟩ rfl rfl (Nat.le_of_ble_eq_true rfl) hl dX7_fits_68 (fun H locs hw => ?_)
      refine lv_if_eq (tgt := 91) hC.1 hC.2.1 dX7_fits_71 (by decide) (fun b7 => ?_) (fun b7 => ?_)
      · have hF := ifP hF b7
        refine lv_iinc (v := (x6 + (1 : Int32))) (lv' := [(6, .int (x6 + (1 : Int32))), (0, .ref (ad G 86)), (1, .int x1), (2, .int x2), (4, .int x4), (5, .int x5)]) hC.1 hC.2.1 dX7_fits_91 hl (k := 5) rfl rfl (by decide) rfl (fun ls hl => ?_)
        refine lv_goto (tgt := 45) hC.1 hC.2.1 dX7_fits_94 (by decide) ?_
        exact ih hF hw (lv_sub hl [1, 2, 3, 4, 5, 0] rfl)
      · have hF := ifN hF b7
        refine lv_iload hC.1 hC.2.1 dX7_fits_74 (lv_at hl 3 rfl) ?_
        refine lv_if_ne (tgt := 84) hC.1 hC.2.1 dX7_fits_76 (by decide) (fun b8 => ?_) (fun b8 => ?_)
        · have hF := ifN hF b8
          refine lv_iload hC.1 hC.2.1 dX7_fits_84 (lv_at hl 4 rfl) ?_
          refine lv_istore (lv' := [(5, .int x5), (0, .ref (ad G 86)), (1, .int x1), (2, .int x2), (4, .int x4), (6, .int x6)]) hC.1 hC.2.1 dX7_fits_86 hl (by decide) rfl (fun ls hl => ?_)
          refine lv_iinc (v := (x4 + (1 : Int32))) (lv' := [(4, .int (x4 + (1 : Int32))), (5, .int x5), (0, .ref (ad G 86)), (1, .int x1), (2, .int x2), (6, .int x6)]) hC.1 hC.2.1 dX7_fits_88 hl (k := 4) rfl rfl (by decide) rfl (fun ls hl => ?_)
          refine lv_iinc (v := (x6 + (1 : Int32))) (lv' := [(6, .int (x6 + (1 : Int32))), (4, .int (x4 + (1 : Int32))), (5, .int x5), (0, .ref (ad G 86)), (1, .int x1), (2, .int x2)]) hC.1 hC.2.1 dX7_fits_91 hl (k := 5) rfl rfl (by decide) rfl (fun ls hl => ?_)
          refine lv_goto (tgt := 45) hC.1 hC.2.1 dX7_fits_94 (by decide) ?_
          exact ih hF hw (lv_sub hl [3, 4, 5, 1, 2, 0] rfl)
        · have hF := ifP hF b8
          refine lv_iload hC.1 hC.2.1 dX7_fits_79 (lv_at hl 5 rfl) ?_
          refine lv_goto (tgt := 86) hC.1 hC.2.1 dX7_fits_81 (by decide) ?_
          refine lv_istore (lv' := [(5, .int x6), (0, .ref (ad G 86)), (1, .int x1), (2, .int x2), (4, .int x4), (6, .int x6)]) hC.1 hC.2.1 dX7_fits_86 hl (by decide) rfl (fun ls hl => ?_)
          refine lv_iinc (v := (x4 + (1 : Int32))) (lv' := [(4, .int (x4 + (1 : Int32))), (5, .int x6), (0, .ref (ad G 86)), (1, .int x1), (2, .int x2), (6, .int x6)]) hC.1 hC.2.1 dX7_fits_88 hl (k := 4) rfl rfl (by decide) rfl (fun ls hl => ?_)
          refine lv_iinc (v := (x6 + (1 : Int32))) (lv' := [(6, .int (x6 + (1 : Int32))), (4, .int (x4 + (1 : Int32))), (5, .int x6), (0, .ref (ad G 86)), (1, .int x1), (2, .int x2)]) hC.1 hC.2.1 dX7_fits_91 hl (k := 5) rfl rfl (by decide) rfl (fun ls hl => ?_)
          refine lv_goto (tgt := 45) hC.1 hC.2.1 dX7_fits_94 (by decide) ?_
          exact ih hF hw (lv_sub hl [3, 4, 5, 1, 2, 0] rfl)
def F_X7_fits (fu : Nat) (M : Mm) (x1 : Int32) (x2 : Int32) : Option (Int32 × Mm) :=
  ob1 (F_X7_isMan fu M x1) (fun r2 =>
  if r2 = 0 then
    some ((-1 : Int32), M)
  else
    ob1 (F_X7_isRow fu M x2) (fun r5 =>
    if r5 = 0 then
      some ((-1 : Int32), M)
    else
      ob1 (F_X7_wrongPairs fu M x2) (fun r8 =>
      if r8 = (-9 : Int32) then
        F_X7_fits_45 fu fu M x1 x2 (0 : Int32) (-9 : Int32) (0 : Int32)
      else
        ob2 (F_X7_finds fu M r8) (fun r11 M12 =>
        some (r11, M12)))))
set_option maxRecDepth 100000 in
set_option maxHeartbeats 4000000 in
theorem c_X7_fits {l : Launch} {G : Gv} {fu : Nat} {M : Mm} {x1 : Int32} {x2 : Int32} {r : Int32} {M' : Mm} (hF : F_X7_fits fu M x1 x2 = some (r, M')) : Met l yX7_fits (.code yX7_fits cX7_fits 7 (some .int) :: zU) rm_X7_fits (va_Pc [.ref (ad G 86), .int x1, .int x2] (Wd G M)) (QI G r M') 0 0 (zA G) := by
  refine zMet (by decide) rfl (Nat.le_of_ble_eq_true rfl) ?_
  intro p e s m below meth c hC hw ls hl
  have hl : lv_has ls 7 [(0, .ref (ad G 86)), (1, .int x1), (2, .int x2)] := hl
  unfold F_X7_fits at hF
  refine lv_aload_n hC.1 hC.2.1 dX7_fits_0 rfl (lv_at hl 0 rfl) ?_
  refine lv_iload_n hC.1 hC.2.1 dX7_fits_1 rfl (lv_at hl 1 rfl) ?_
  obtain ⟨r2, h1, hF⟩ := ob1S hF
  refine k_Vi (As := [.int x1]) (rest := []) hC hw (c_X7_isMan (M := M) h1) RC_X yv_X7_isMan q5_89 ⟨rfl, rfl⟩ ⟨Nat.le_of_ble_eq_true rfl, Nat.le_of_ble_eq_true rfl⟩ ⟨Nat.zero_le _, Nat.zero_le _⟩ rfl rfl (Nat.le_of_ble_eq_true rfl) hl dX7_fits_2 (fun H locs hw => ?_)
  refine lv_if_eq (tgt := 15) hC.1 hC.2.1 dX7_fits_5 (by decide) (fun b3 => ?_) (fun b3 => ?_)
  · have hF := ifP hF b3
    refine lv_iconst (v := (-1 : Int32)) hC.1 hC.2.1 dX7_fits_15 (by decide) ?_
    exact r_iretE hC hw hF dX7_fits_16
  · have hF := ifN hF b3
    refine lv_iload_n hC.1 hC.2.1 dX7_fits_8 rfl (lv_at hl 2 rfl) ?_
    obtain ⟨r5, h4, hF⟩ := ob1S hF
    refine k_Si (As := [.int x2]) (rest := []) hC hw (c_X7_isRow (M := M) h4) ys_X7_isRow q4_239 ⟨rfl, rfl⟩ ⟨Nat.le_of_ble_eq_true rfl, Nat.le_of_ble_eq_true rfl⟩ ⟨Nat.zero_le _, Nat.zero_le _⟩ rfl rfl (Nat.le_of_ble_eq_true rfl) hl dX7_fits_9 (fun H locs hw => ?_)
    refine lv_if_ne (tgt := 17) hC.1 hC.2.1 dX7_fits_12 (by decide) (fun b6 => ?_) (fun b6 => ?_)
    · have hF := ifN hF b6
      refine lv_aload_n hC.1 hC.2.1 dX7_fits_17 rfl (lv_at hl 0 rfl) ?_
      refine lv_iload_n hC.1 hC.2.1 dX7_fits_18 rfl (lv_at hl 2 rfl) ?_
      obtain ⟨r8, h7, hF⟩ := ob1S hF
      refine k_Vi (As := [.int x2]) (rest := []) hC hw (c_X7_wrongPairs (M := M) h7) RC_X yv_X7_wrongPairs q6_56 ⟨rfl, rfl⟩ ⟨Nat.le_of_ble_eq_true rfl, Nat.le_of_ble_eq_true rfl⟩ ⟨Nat.zero_le _, Nat.zero_le _⟩ rfl rfl (Nat.le_of_ble_eq_true rfl) hl dX7_fits_19 (fun H locs hw => ?_)
      refine lv_istore_n (lv' := [(3, .int r8), (0, .ref (ad G 86)), (1, .int x1), (2, .int x2)]) hC.1 hC.2.1 dX7_fits_22 rfl hl (by decide) rfl (fun ls hl => ?_)
      refine lv_iload_n hC.1 hC.2.1 dX7_fits_23 rfl (lv_at hl 0 rfl) ?_
      refine lv_bipush (v := (-9 : Int32)) hC.1 hC.2.1 dX7_fits_24 (by decide) ?_
      refine lv_icmp_eq (tgt := 35) hC.1 hC.2.1 dX7_fits_26 (by decide) (fun b9 => ?_) (fun b9 => ?_)
      · have hF := ifP hF b9
        refine lv_iconst (v := (0 : Int32)) hC.1 hC.2.1 dX7_fits_35 (by decide) ?_
        refine lv_istore (lv' := [(4, .int (0 : Int32)), (3, .int r8), (0, .ref (ad G 86)), (1, .int x1), (2, .int x2)]) hC.1 hC.2.1 dX7_fits_36 hl (by decide) rfl (fun ls hl => ?_)
        refine lv_bipush (v := (-9 : Int32)) hC.1 hC.2.1 dX7_fits_38 (by decide) ?_
        refine lv_istore (lv' := [(5, .int (-9 : Int32)), (4, .int (0 : Int32)), (3, .int r8), (0, .ref (ad G 86)), (1, .int x1), (2, .int x2)]) hC.1 hC.2.1 dX7_fits_40 hl (by decide) rfl (fun ls hl => ?_)
        refine lv_iconst (v := (0 : Int32)) hC.1 hC.2.1 dX7_fits_42 (by decide) ?_
        refine lv_istore (lv' := [(6, .int (0 : Int32)), (5, .int (-9 : Int32)), (4, .int (0 : Int32)), (3, .int r8), (0, .ref (ad G 86)), (1, .int x1), (2, .int x2)]) hC.1 hC.2.1 dX7_fits_43 hl (by decide) rfl (fun ls hl => ?_)
        exact w_X7_fits_45 hC _ hF hw (lv_sub hl [4, 5, 6, 2, 1, 0] rfl)
      · have hF := ifN hF b9
        refine lv_aload_n hC.1 hC.2.1 dX7_fits_29 rfl (lv_at hl 1 rfl) ?_
        refine lv_iload_n hC.1 hC.2.1 dX7_fits_30 rfl (lv_at hl 0 rfl) ?_
        obtain ⟨r11, M12, h10, hF⟩ := ob2S hF
        refine k_Vi (As := [.int r8]) (rest := []) hC hw (c_X7_finds (M := M) h10) RC_X yv_X7_finds q5_6 ⟨rfl, rfl⟩ ⟨Nat.le_of_ble_eq_true rfl, Nat.le_of_ble_eq_true rfl⟩ ⟨Nat.zero_le _, Nat.zero_le _⟩ rfl rfl (Nat.le_of_ble_eq_true rfl) hl dX7_fits_31 (fun H locs hw => ?_)
        exact r_iretE hC hw hF dX7_fits_34
    · have hF := ifP hF b6
      refine lv_iconst (v := (-1 : Int32)) hC.1 hC.2.1 dX7_fits_15 (by decide) ?_
      exact r_iretE hC hw hF dX7_fits_16
abbrev rm_X7_kinds : Room := { frames := 4, cells := 0, slots := 0, locals := 97 }
theorem yv_X7_kinds : YV yX7_kinds cX7_kinds 6 (some .int) 2 RX7 := ⟨⟨q6_65, q6_66, q1_8, q6_67⟩, by decide +kernel⟩
theorem dX7_kinds_0 : decode cX7_kinds 0 = .ok (.aload_n 0, 1) := by decide +kernel
theorem dX7_kinds_1 : decode cX7_kinds 1 = .ok (.iload_n 1, 1) := by decide +kernel
theorem dX7_kinds_2 : decode cX7_kinds 2 = .ok (.invokevirtual 197, 3) := by decide +kernel
theorem dX7_kinds_5 : decode cX7_kinds 5 = .ok (.ifCond .eq 10, 3) := by decide +kernel
theorem dX7_kinds_8 : decode cX7_kinds 8 = .ok (.iload_n 2, 1) := by decide +kernel
theorem dX7_kinds_9 : decode cX7_kinds 9 = .ok (.invokestatic 114, 3) := by decide +kernel
theorem dX7_kinds_12 : decode cX7_kinds 12 = .ok (.ifCond .ne 5, 3) := by decide +kernel
theorem dX7_kinds_15 : decode cX7_kinds 15 = .ok (.iconst (-1), 1) := by decide +kernel
theorem dX7_kinds_16 : decode cX7_kinds 16 = .ok (.ireturn, 1) := by decide +kernel
theorem dX7_kinds_17 : decode cX7_kinds 17 = .ok (.aload_n 0, 1) := by decide +kernel
theorem dX7_kinds_18 : decode cX7_kinds 18 = .ok (.iload_n 2, 1) := by decide +kernel
theorem dX7_kinds_19 : decode cX7_kinds 19 = .ok (.invokevirtual 273, 3) := by decide +kernel
theorem dX7_kinds_22 : decode cX7_kinds 22 = .ok (.istore_n 3, 1) := by decide +kernel
theorem dX7_kinds_23 : decode cX7_kinds 23 = .ok (.iload_n 3, 1) := by decide +kernel
theorem dX7_kinds_24 : decode cX7_kinds 24 = .ok (.bipush (-9), 2) := by decide +kernel
theorem dX7_kinds_26 : decode cX7_kinds 26 = .ok (.if_icmp .eq 9, 3) := by decide +kernel
theorem dX7_kinds_29 : decode cX7_kinds 29 = .ok (.aload_n 0, 1) := by decide +kernel
theorem dX7_kinds_30 : decode cX7_kinds 30 = .ok (.iload_n 3, 1) := by decide +kernel
theorem dX7_kinds_31 : decode cX7_kinds 31 = .ok (.invokevirtual 118, 3) := by decide +kernel
theorem dX7_kinds_34 : decode cX7_kinds 34 = .ok (.ireturn, 1) := by decide +kernel
theorem dX7_kinds_35 : decode cX7_kinds 35 = .ok (.iconst 0, 1) := by decide +kernel
theorem dX7_kinds_36 : decode cX7_kinds 36 = .ok (.istore 4, 2) := by decide +kernel
theorem dX7_kinds_38 : decode cX7_kinds 38 = .ok (.iconst 0, 1) := by decide +kernel
theorem dX7_kinds_39 : decode cX7_kinds 39 = .ok (.istore 5, 2) := by decide +kernel
theorem dX7_kinds_41 : decode cX7_kinds 41 = .ok (.iload 5, 2) := by decide +kernel
theorem dX7_kinds_43 : decode cX7_kinds 43 = .ok (.iconst 5, 1) := by decide +kernel
theorem dX7_kinds_44 : decode cX7_kinds 44 = .ok (.if_icmp .gt 44, 3) := by decide +kernel
theorem dX7_kinds_47 : decode cX7_kinds 47 = .ok (.iload 4, 2) := by decide +kernel
theorem dX7_kinds_49 : decode cX7_kinds 49 = .ok (.aload_n 0, 1) := by decide +kernel
theorem dX7_kinds_50 : decode cX7_kinds 50 = .ok (.iload 5, 2) := by decide +kernel
theorem dX7_kinds_52 : decode cX7_kinds 52 = .ok (.aload_n 0, 1) := by decide +kernel
theorem dX7_kinds_53 : decode cX7_kinds 53 = .ok (.getfield 31, 3) := by decide +kernel
theorem dX7_kinds_56 : decode cX7_kinds 56 = .ok (.iload_n 1, 1) := by decide +kernel
theorem dX7_kinds_57 : decode cX7_kinds 57 = .ok (.iaload, 1) := by decide +kernel
theorem dX7_kinds_58 : decode cX7_kinds 58 = .ok (.aload_n 0, 1) := by decide +kernel
theorem dX7_kinds_59 : decode cX7_kinds 59 = .ok (.getfield 34, 3) := by decide +kernel
theorem dX7_kinds_62 : decode cX7_kinds 62 = .ok (.iload_n 1, 1) := by decide +kernel
theorem dX7_kinds_63 : decode cX7_kinds 63 = .ok (.iaload, 1) := by decide +kernel
theorem dX7_kinds_64 : decode cX7_kinds 64 = .ok (.iload_n 2, 1) := by decide +kernel
theorem dX7_kinds_65 : decode cX7_kinds 65 = .ok (.invokevirtual 276, 3) := by decide +kernel
theorem dX7_kinds_68 : decode cX7_kinds 68 = .ok (.ifCond .eq 10, 3) := by decide +kernel
theorem dX7_kinds_71 : decode cX7_kinds 71 = .ok (.iconst 1, 1) := by decide +kernel
theorem dX7_kinds_72 : decode cX7_kinds 72 = .ok (.iload 5, 2) := by decide +kernel
theorem dX7_kinds_74 : decode cX7_kinds 74 = .ok (.ishl, 1) := by decide +kernel
theorem dX7_kinds_75 : decode cX7_kinds 75 = .ok (.goto 4, 3) := by decide +kernel
theorem dX7_kinds_78 : decode cX7_kinds 78 = .ok (.iconst 0, 1) := by decide +kernel
theorem dX7_kinds_79 : decode cX7_kinds 79 = .ok (.ior, 1) := by decide +kernel
theorem dX7_kinds_80 : decode cX7_kinds 80 = .ok (.istore 4, 2) := by decide +kernel
theorem dX7_kinds_82 : decode cX7_kinds 82 = .ok (.iinc 5 1, 3) := by decide +kernel
theorem dX7_kinds_85 : decode cX7_kinds 85 = .ok (.goto (-44), 3) := by decide +kernel
theorem dX7_kinds_88 : decode cX7_kinds 88 = .ok (.iload 4, 2) := by decide +kernel
theorem dX7_kinds_90 : decode cX7_kinds 90 = .ok (.ireturn, 1) := by decide +kernel
def F_X7_kinds_41 (fu : Nat) : Nat → Mm → Int32 → Int32 → Int32 → Int32 → Option (Int32 × Mm)
  | 0, _, _, _, _, _ => none
  | n + 1, M, x1, x2, x4, x5 =>
    if (5 : Int32) < x5 then
      some (x4, M)
    else
      if x1 < 0 ∨ ln 94 ≤ x1.toNatClampNeg then none else (
      if x1 < 0 ∨ ln 95 ≤ x1.toNatClampNeg then none else (
      ob1 (F_X7_isSeen fu M x5 (M.1 94 x1.toNatClampNeg) (M.1 95 x1.toNatClampNeg) x2) (fun r5 =>
      if r5 = 0 then
        F_X7_kinds_41 fu n M x1 x2 (x4 ||| (0 : Int32)) (x5 + (1 : Int32))
      else
        F_X7_kinds_41 fu n M x1 x2 (x4 ||| ((1 : Int32) <<< (x5 &&& 31))) (x5 + (1 : Int32)))))
set_option maxRecDepth 100000 in
set_option maxHeartbeats 4000000 in
theorem w_X7_kinds_41 {p : Program} {l : Launch} {e : Env} {s : State} {m : MethodId} {args : Array Value} {below : List Frame} {meth : Method} {c : Code} {G : Gv} (hC : Cx p s m args meth c cX7_kinds 6 (some .int) RX7) {fu : Nat} {r : Int32} {M' : Mm} : ∀ (n : Nat) {x1 : Int32} {x2 : Int32} {x4 : Int32} {x5 : Int32} {M : Mm} {H : Heap} {locs : List Loc} {ls : Array Slot}, F_X7_kinds_41 fu n M x1 x2 x4 x5 = some (r, M') → St G s H locs M → lv_has ls 6 [(0, .ref (ad G 86)), (1, .int x1), (2, .int x2), (4, .int x4), (5, .int x5)] → W p l e rm_X7_kinds s m args below meth c H locs 0 0 (MQ below (QI G r M') args s 0 0 (zA G)) (F0 m 41 ls []) := by
  intro n
  induction n with
  | zero =>
    intro x1 x2 x4 x5 M H locs ls hF hw hl
    cases hF
  | succ n ih =>
    intro x1 x2 x4 x5 M H locs ls hF hw hl
    unfold F_X7_kinds_41 at hF
    refine lv_iload hC.1 hC.2.1 dX7_kinds_41 (lv_at hl 4 rfl) ?_
    refine lv_iconst (v := (5 : Int32)) hC.1 hC.2.1 dX7_kinds_43 (by decide) ?_
    refine lv_icmp_gt (tgt := 88) hC.1 hC.2.1 dX7_kinds_44 (by decide) (fun b1 => ?_) (fun b1 => ?_)
    · have hF := ifP hF b1
      refine lv_iload hC.1 hC.2.1 dX7_kinds_88 (lv_at hl 3 rfl) ?_
      exact r_iretE hC hw hF dX7_kinds_90
    · have hF := ifN hF b1
      refine lv_iload hC.1 hC.2.1 dX7_kinds_47 (lv_at hl 3 rfl) ?_
      refine lv_aload_n hC.1 hC.2.1 dX7_kinds_49 rfl (lv_at hl 0 rfl) ?_
      refine lv_iload hC.1 hC.2.1 dX7_kinds_50 (lv_at hl 4 rfl) ?_
      refine lv_aload_n hC.1 hC.2.1 dX7_kinds_52 rfl (lv_at hl 0 rfl) ?_
      refine g7_bulks hC hw q4_130 dX7_kinds_53 ?_
      refine lv_iload_n hC.1 hC.2.1 dX7_kinds_56 rfl (lv_at hl 1 rfl) ?_
      obtain ⟨n2, hF⟩ := ifO hF
      refine r_iald hC.1 hC.2.1 hw (rfl : kd 94 = 1) n2 dX7_kinds_57 ?_
      refine lv_aload_n hC.1 hC.2.1 dX7_kinds_58 rfl (lv_at hl 0 rfl) ?_
      refine g7_shades hC hw q4_131 dX7_kinds_59 ?_
      refine lv_iload_n hC.1 hC.2.1 dX7_kinds_62 rfl (lv_at hl 1 rfl) ?_
      obtain ⟨n3, hF⟩ := ifO hF
      refine r_iald hC.1 hC.2.1 hw (rfl : kd 95 = 1) n3 dX7_kinds_63 ?_
      refine lv_iload_n hC.1 hC.2.1 dX7_kinds_64 rfl (lv_at hl 2 rfl) ?_
      obtain ⟨r5, h4, hF⟩ := ob1S hF
      refine k_Vi (As := [.int x5, .int (M.1 94 x1.toNatClampNeg), .int (M.1 95 x1.toNatClampNeg), .int x2]) (rest := [.int x4]) hC hw (c_X7_isSeen (M := M) h4) RC_X yv_X7_isSeen q6_60 ⟨rfl, rfl⟩ ⟨Nat.le_of_ble_eq_true rfl, Nat.le_of_ble_eq_true rfl⟩ ⟨Nat.zero_le _, Nat.zero_le _⟩ rfl rfl (Nat.le_of_ble_eq_true rfl) hl dX7_kinds_65 (fun H locs hw => ?_)
      refine lv_if_eq (tgt := 78) hC.1 hC.2.1 dX7_kinds_68 (by decide) (fun b6 => ?_) (fun b6 => ?_)
      · have hF := ifP hF b6
        refine lv_iconst (v := (0 : Int32)) hC.1 hC.2.1 dX7_kinds_78 (by decide) ?_
        refine lv_ior hC.1 hC.2.1 dX7_kinds_79 ?_
        refine lv_istore (lv' := [(4, .int (x4 ||| (0 : Int32))), (0, .ref (ad G 86)), (1, .int x1), (2, .int x2), (5, .int x5)]) hC.1 hC.2.1 dX7_kinds_80 hl (by decide) rfl (fun ls hl => ?_)
        refine lv_iinc (v := (x5 + (1 : Int32))) (lv' := [(5, .int (x5 + (1 : Int32))), (4, .int (x4 ||| (0 : Int32))), (0, .ref (ad G 86)), (1, .int x1), (2, .int x2)]) hC.1 hC.2.1 dX7_kinds_82 hl (k := 4) rfl rfl (by decide) rfl (fun ls hl => ?_)
        refine lv_goto (tgt := 41) hC.1 hC.2.1 dX7_kinds_85 (by decide) ?_
        exact ih hF hw (lv_sub hl [2, 3, 4, 1, 0] rfl)
      · have hF := ifN hF b6
        refine lv_iconst (v := (1 : Int32)) hC.1 hC.2.1 dX7_kinds_71 (by decide) ?_
        refine lv_iload hC.1 hC.2.1 dX7_kinds_72 (lv_at hl 4 rfl) ?_
        refine lv_ishl hC.1 hC.2.1 dX7_kinds_74 ?_
        refine lv_goto (tgt := 79) hC.1 hC.2.1 dX7_kinds_75 (by decide) ?_
        refine lv_ior hC.1 hC.2.1 dX7_kinds_79 ?_
        refine lv_istore (lv' := [(4, .int (x4 ||| ((1 : Int32) <<< (x5 &&& 31)))), (0, .ref (ad G 86)), (1, .int x1), (2, .int x2), (5, .int x5)]) hC.1 hC.2.1 dX7_kinds_80 hl (by decide) rfl (fun ls hl => ?_)
        refine lv_iinc (v := (x5 + (1 : Int32))) (lv' := [(5, .int (x5 + (1 : Int32))), (4, .int (x4 ||| ((1 : Int32) <<< (x5 &&& 31)))), (0, .ref (ad G 86)), (1, .int x1), (2, .int x2)]) hC.1 hC.2.1 dX7_kinds_82 hl (k := 4) rfl rfl (by decide) rfl (fun ls hl => ?_)
        refine lv_goto (tgt := 41) hC.1 hC.2.1 dX7_kinds_85 (by decide) ?_
        exact ih hF hw (lv_sub hl [2, 3, 4, 1, 0] rfl)
def F_X7_kinds (fu : Nat) (M : Mm) (x1 : Int32) (x2 : Int32) : Option (Int32 × Mm) :=
  ob1 (F_X7_isMan fu M x1) (fun r2 =>
  if r2 = 0 then
    some ((-1 : Int32), M)
  else
    ob1 (F_X7_isRow fu M x2) (fun r5 =>
    if r5 = 0 then
      some ((-1 : Int32), M)
    else
      ob1 (F_X7_wrongPairs fu M x2) (fun r8 =>
      if r8 = (-9 : Int32) then
        F_X7_kinds_41 fu fu M x1 x2 (0 : Int32) (0 : Int32)
      else
        ob2 (F_X7_finds fu M r8) (fun r11 M12 =>
        some (r11, M12)))))
set_option maxRecDepth 100000 in
set_option maxHeartbeats 4000000 in
theorem c_X7_kinds {l : Launch} {G : Gv} {fu : Nat} {M : Mm} {x1 : Int32} {x2 : Int32} {r : Int32} {M' : Mm} (hF : F_X7_kinds fu M x1 x2 = some (r, M')) : Met l yX7_kinds (.code yX7_kinds cX7_kinds 6 (some .int) :: zU) rm_X7_kinds (va_Pc [.ref (ad G 86), .int x1, .int x2] (Wd G M)) (QI G r M') 0 0 (zA G) := by
  refine zMet (by decide) rfl (Nat.le_of_ble_eq_true rfl) ?_
  intro p e s m below meth c hC hw ls hl
  have hl : lv_has ls 6 [(0, .ref (ad G 86)), (1, .int x1), (2, .int x2)] := hl
  unfold F_X7_kinds at hF
  refine lv_aload_n hC.1 hC.2.1 dX7_kinds_0 rfl (lv_at hl 0 rfl) ?_
  refine lv_iload_n hC.1 hC.2.1 dX7_kinds_1 rfl (lv_at hl 1 rfl) ?_
  obtain ⟨r2, h1, hF⟩ := ob1S hF
  refine k_Vi (As := [.int x1]) (rest := []) hC hw (c_X7_isMan (M := M) h1) RC_X yv_X7_isMan q5_89 ⟨rfl, rfl⟩ ⟨Nat.le_of_ble_eq_true rfl, Nat.le_of_ble_eq_true rfl⟩ ⟨Nat.zero_le _, Nat.zero_le _⟩ rfl rfl (Nat.le_of_ble_eq_true rfl) hl dX7_kinds_2 (fun H locs hw => ?_)
  refine lv_if_eq (tgt := 15) hC.1 hC.2.1 dX7_kinds_5 (by decide) (fun b3 => ?_) (fun b3 => ?_)
  · have hF := ifP hF b3
    refine lv_iconst (v := (-1 : Int32)) hC.1 hC.2.1 dX7_kinds_15 (by decide) ?_
    exact r_iretE hC hw hF dX7_kinds_16
  · have hF := ifN hF b3
    refine lv_iload_n hC.1 hC.2.1 dX7_kinds_8 rfl (lv_at hl 2 rfl) ?_
    obtain ⟨r5, h4, hF⟩ := ob1S hF
    refine k_Si (As := [.int x2]) (rest := []) hC hw (c_X7_isRow (M := M) h4) ys_X7_isRow q4_239 ⟨rfl, rfl⟩ ⟨Nat.le_of_ble_eq_true rfl, Nat.le_of_ble_eq_true rfl⟩ ⟨Nat.zero_le _, Nat.zero_le _⟩ rfl rfl (Nat.le_of_ble_eq_true rfl) hl dX7_kinds_9 (fun H locs hw => ?_)
    refine lv_if_ne (tgt := 17) hC.1 hC.2.1 dX7_kinds_12 (by decide) (fun b6 => ?_) (fun b6 => ?_)
    · have hF := ifN hF b6
      refine lv_aload_n hC.1 hC.2.1 dX7_kinds_17 rfl (lv_at hl 0 rfl) ?_
      refine lv_iload_n hC.1 hC.2.1 dX7_kinds_18 rfl (lv_at hl 2 rfl) ?_
      obtain ⟨r8, h7, hF⟩ := ob1S hF
      refine k_Vi (As := [.int x2]) (rest := []) hC hw (c_X7_wrongPairs (M := M) h7) RC_X yv_X7_wrongPairs q6_56 ⟨rfl, rfl⟩ ⟨Nat.le_of_ble_eq_true rfl, Nat.le_of_ble_eq_true rfl⟩ ⟨Nat.zero_le _, Nat.zero_le _⟩ rfl rfl (Nat.le_of_ble_eq_true rfl) hl dX7_kinds_19 (fun H locs hw => ?_)
      refine lv_istore_n (lv' := [(3, .int r8), (0, .ref (ad G 86)), (1, .int x1), (2, .int x2)]) hC.1 hC.2.1 dX7_kinds_22 rfl hl (by decide) rfl (fun ls hl => ?_)
      refine lv_iload_n hC.1 hC.2.1 dX7_kinds_23 rfl (lv_at hl 0 rfl) ?_
      refine lv_bipush (v := (-9 : Int32)) hC.1 hC.2.1 dX7_kinds_24 (by decide) ?_
      refine lv_icmp_eq (tgt := 35) hC.1 hC.2.1 dX7_kinds_26 (by decide) (fun b9 => ?_) (fun b9 => ?_)
      · have hF := ifP hF b9
        refine lv_iconst (v := (0 : Int32)) hC.1 hC.2.1 dX7_kinds_35 (by decide) ?_
        refine lv_istore (lv' := [(4, .int (0 : Int32)), (3, .int r8), (0, .ref (ad G 86)), (1, .int x1), (2, .int x2)]) hC.1 hC.2.1 dX7_kinds_36 hl (by decide) rfl (fun ls hl => ?_)
        refine lv_iconst (v := (0 : Int32)) hC.1 hC.2.1 dX7_kinds_38 (by decide) ?_
        refine lv_istore (lv' := [(5, .int (0 : Int32)), (4, .int (0 : Int32)), (3, .int r8), (0, .ref (ad G 86)), (1, .int x1), (2, .int x2)]) hC.1 hC.2.1 dX7_kinds_39 hl (by decide) rfl (fun ls hl => ?_)
        exact w_X7_kinds_41 hC _ hF hw (lv_sub hl [3, 4, 5, 1, 0] rfl)
      · have hF := ifN hF b9
        refine lv_aload_n hC.1 hC.2.1 dX7_kinds_29 rfl (lv_at hl 1 rfl) ?_
        refine lv_iload_n hC.1 hC.2.1 dX7_kinds_30 rfl (lv_at hl 0 rfl) ?_
        obtain ⟨r11, M12, h10, hF⟩ := ob2S hF
        refine k_Vi (As := [.int r8]) (rest := []) hC hw (c_X7_finds (M := M) h10) RC_X yv_X7_finds q5_6 ⟨rfl, rfl⟩ ⟨Nat.le_of_ble_eq_true rfl, Nat.le_of_ble_eq_true rfl⟩ ⟨Nat.zero_le _, Nat.zero_le _⟩ rfl rfl (Nat.le_of_ble_eq_true rfl) hl dX7_kinds_31 (fun H locs hw => ?_)
        exact r_iretE hC hw hF dX7_kinds_34
    · have hF := ifP hF b6
      refine lv_iconst (v := (-1 : Int32)) hC.1 hC.2.1 dX7_kinds_15 (by decide) ?_
      exact r_iretE hC hw hF dX7_kinds_16
abbrev rm_X7_rights : Room := { frames := 5, cells := 0, slots := 0, locals := 116 }
theorem yv_X7_rights : YV yX7_rights cX7_rights 5 (some .int) 1 RX7 := ⟨⟨q6_69, q6_70, q1_8, q6_71⟩, by decide +kernel⟩
theorem dX7_rights_0 : decode cX7_rights 0 = .ok (.aload_n 0, 1) := by decide +kernel
theorem dX7_rights_1 : decode cX7_rights 1 = .ok (.iload_n 1, 1) := by decide +kernel
theorem dX7_rights_2 : decode cX7_rights 2 = .ok (.invokevirtual 248, 3) := by decide +kernel
theorem dX7_rights_5 : decode cX7_rights 5 = .ok (.ifCond .ne 5, 3) := by decide +kernel
theorem dX7_rights_8 : decode cX7_rights 8 = .ok (.iconst (-1), 1) := by decide +kernel
theorem dX7_rights_9 : decode cX7_rights 9 = .ok (.ireturn, 1) := by decide +kernel
theorem dX7_rights_10 : decode cX7_rights 10 = .ok (.iconst 0, 1) := by decide +kernel
theorem dX7_rights_11 : decode cX7_rights 11 = .ok (.istore_n 2, 1) := by decide +kernel
theorem dX7_rights_12 : decode cX7_rights 12 = .ok (.aload_n 0, 1) := by decide +kernel
theorem dX7_rights_13 : decode cX7_rights 13 = .ok (.getfield 164, 3) := by decide +kernel
theorem dX7_rights_16 : decode cX7_rights 16 = .ok (.istore_n 3, 1) := by decide +kernel
theorem dX7_rights_17 : decode cX7_rights 17 = .ok (.iconst 1, 1) := by decide +kernel
theorem dX7_rights_18 : decode cX7_rights 18 = .ok (.istore 4, 2) := by decide +kernel
theorem dX7_rights_20 : decode cX7_rights 20 = .ok (.iload 4, 2) := by decide +kernel
theorem dX7_rights_22 : decode cX7_rights 22 = .ok (.bipush 10, 2) := by decide +kernel
theorem dX7_rights_24 : decode cX7_rights 24 = .ok (.if_icmp .ge 35, 3) := by decide +kernel
theorem dX7_rights_27 : decode cX7_rights 27 = .ok (.aload_n 0, 1) := by decide +kernel
theorem dX7_rights_28 : decode cX7_rights 28 = .ok (.iload 4, 2) := by decide +kernel
theorem dX7_rights_30 : decode cX7_rights 30 = .ok (.putfield 164, 3) := by decide +kernel
theorem dX7_rights_33 : decode cX7_rights 33 = .ok (.iload_n 2, 1) := by decide +kernel
theorem dX7_rights_34 : decode cX7_rights 34 = .ok (.aload_n 0, 1) := by decide +kernel
theorem dX7_rights_35 : decode cX7_rights 35 = .ok (.iconst 0, 1) := by decide +kernel
theorem dX7_rights_36 : decode cX7_rights 36 = .ok (.invokevirtual 200, 3) := by decide +kernel
theorem dX7_rights_39 : decode cX7_rights 39 = .ok (.iload_n 1, 1) := by decide +kernel
theorem dX7_rights_40 : decode cX7_rights 40 = .ok (.if_icmp .ne 10, 3) := by decide +kernel
theorem dX7_rights_43 : decode cX7_rights 43 = .ok (.iconst 1, 1) := by decide +kernel
theorem dX7_rights_44 : decode cX7_rights 44 = .ok (.iload 4, 2) := by decide +kernel
theorem dX7_rights_46 : decode cX7_rights 46 = .ok (.ishl, 1) := by decide +kernel
theorem dX7_rights_47 : decode cX7_rights 47 = .ok (.goto 4, 3) := by decide +kernel
theorem dX7_rights_50 : decode cX7_rights 50 = .ok (.iconst 0, 1) := by decide +kernel
theorem dX7_rights_51 : decode cX7_rights 51 = .ok (.ior, 1) := by decide +kernel
theorem dX7_rights_52 : decode cX7_rights 52 = .ok (.istore_n 2, 1) := by decide +kernel
theorem dX7_rights_53 : decode cX7_rights 53 = .ok (.iinc 4 1, 3) := by decide +kernel
theorem dX7_rights_56 : decode cX7_rights 56 = .ok (.goto (-36), 3) := by decide +kernel
theorem dX7_rights_59 : decode cX7_rights 59 = .ok (.aload_n 0, 1) := by decide +kernel
theorem dX7_rights_60 : decode cX7_rights 60 = .ok (.iload_n 3, 1) := by decide +kernel
theorem dX7_rights_61 : decode cX7_rights 61 = .ok (.putfield 164, 3) := by decide +kernel
theorem dX7_rights_64 : decode cX7_rights 64 = .ok (.iload_n 2, 1) := by decide +kernel
theorem dX7_rights_65 : decode cX7_rights 65 = .ok (.ireturn, 1) := by decide +kernel
def F_X7_rights_20 (fu : Nat) : Nat → Mm → Int32 → Int32 → Int32 → Int32 → Option (Int32 × Mm)
  | 0, _, _, _, _, _ => none
  | n + 1, M, x1, x2, x3, x4 =>
    if (10 : Int32) ≤ x4 then
      lt1 (pI M 86 10 x3) (fun M2 =>
      some (x2, M2))
    else
      lt1 (pI M 86 10 x4) (fun M3 =>
      ob1 (F_X7_whoThen fu M3 (0 : Int32)) (fun r5 =>
      if r5 = x1 then
        F_X7_rights_20 fu n M3 x1 (x2 ||| ((1 : Int32) <<< (x4 &&& 31))) x3 (x4 + (1 : Int32))
      else
        F_X7_rights_20 fu n M3 x1 (x2 ||| (0 : Int32)) x3 (x4 + (1 : Int32))))
set_option maxRecDepth 100000 in
set_option maxHeartbeats 4000000 in
theorem w_X7_rights_20 {p : Program} {l : Launch} {e : Env} {s : State} {m : MethodId} {args : Array Value} {below : List Frame} {meth : Method} {c : Code} {G : Gv} (hC : Cx p s m args meth c cX7_rights 5 (some .int) RX7) {fu : Nat} {r : Int32} {M' : Mm} : ∀ (n : Nat) {x1 : Int32} {x2 : Int32} {x3 : Int32} {x4 : Int32} {M : Mm} {H : Heap} {locs : List Loc} {ls : Array Slot}, F_X7_rights_20 fu n M x1 x2 x3 x4 = some (r, M') → St G s H locs M → lv_has ls 5 [(0, .ref (ad G 86)), (1, .int x1), (2, .int x2), (3, .int x3), (4, .int x4)] → W p l e rm_X7_rights s m args below meth c H locs 0 0 (MQ below (QI G r M') args s 0 0 (zA G)) (F0 m 20 ls []) := by
  intro n
  induction n with
  | zero =>
    intro x1 x2 x3 x4 M H locs ls hF hw hl
    cases hF
  | succ n ih =>
    intro x1 x2 x3 x4 M H locs ls hF hw hl
    unfold F_X7_rights_20 at hF
    refine lv_iload hC.1 hC.2.1 dX7_rights_20 (lv_at hl 4 rfl) ?_
    refine lv_bipush (v := (10 : Int32)) hC.1 hC.2.1 dX7_rights_22 (by decide) ?_
    refine lv_icmp_ge (tgt := 59) hC.1 hC.2.1 dX7_rights_24 (by decide) (fun b1 => ?_) (fun b1 => ?_)
    · have hF := ifP hF b1
      refine lv_aload_n hC.1 hC.2.1 dX7_rights_59 rfl (lv_at hl 0 rfl) ?_
      refine lv_iload_n hC.1 hC.2.1 dX7_rights_60 rfl (lv_at hl 3 rfl) ?_
      refine u7_rightIs hC hw q4_132 dX7_rights_61 (fun H locs hw => ?_)
      obtain ⟨M2, hw, hF⟩ := lt1W hF hw
      refine lv_iload_n hC.1 hC.2.1 dX7_rights_64 rfl (lv_at hl 2 rfl) ?_
      exact r_iretE hC hw hF dX7_rights_65
    · have hF := ifN hF b1
      refine lv_aload_n hC.1 hC.2.1 dX7_rights_27 rfl (lv_at hl 0 rfl) ?_
      refine lv_iload hC.1 hC.2.1 dX7_rights_28 (lv_at hl 4 rfl) ?_
      refine u7_rightIs hC hw q4_132 dX7_rights_30 (fun H locs hw => ?_)
      obtain ⟨M3, hw, hF⟩ := lt1W hF hw
      refine lv_iload_n hC.1 hC.2.1 dX7_rights_33 rfl (lv_at hl 2 rfl) ?_
      refine lv_aload_n hC.1 hC.2.1 dX7_rights_34 rfl (lv_at hl 0 rfl) ?_
      refine lv_iconst (v := (0 : Int32)) hC.1 hC.2.1 dX7_rights_35 (by decide) ?_
      obtain ⟨r5, h4, hF⟩ := ob1S hF
      refine k_Vi (As := [.int (0 : Int32)]) (rest := [.int x2]) hC hw (c_X7_whoThen (M := M3) h4) RC_X yv_X7_whoThen q5_97 ⟨rfl, rfl⟩ ⟨Nat.le_of_ble_eq_true rfl, Nat.le_of_ble_eq_true rfl⟩ ⟨Nat.zero_le _, Nat.zero_le _⟩ rfl rfl (Nat.le_of_ble_eq_true rfl) hl dX7_rights_36 (fun H locs hw => ?_)
      refine lv_iload_n hC.1 hC.2.1 dX7_rights_39 rfl (lv_at hl 1 rfl) ?_
      refine lv_icmp_ne (tgt := 50) hC.1 hC.2.1 dX7_rights_40 (by decide) (fun b6 => ?_) (fun b6 => ?_)
      · have hF := ifN hF b6
        refine lv_iconst (v := (0 : Int32)) hC.1 hC.2.1 dX7_rights_50 (by decide) ?_
        refine lv_ior hC.1 hC.2.1 dX7_rights_51 ?_
        refine lv_istore_n (lv' := [(2, .int (x2 ||| (0 : Int32))), (0, .ref (ad G 86)), (1, .int x1), (3, .int x3), (4, .int x4)]) hC.1 hC.2.1 dX7_rights_52 rfl hl (by decide) rfl (fun ls hl => ?_)
        refine lv_iinc (v := (x4 + (1 : Int32))) (lv' := [(4, .int (x4 + (1 : Int32))), (2, .int (x2 ||| (0 : Int32))), (0, .ref (ad G 86)), (1, .int x1), (3, .int x3)]) hC.1 hC.2.1 dX7_rights_53 hl (k := 4) rfl rfl (by decide) rfl (fun ls hl => ?_)
        refine lv_goto (tgt := 20) hC.1 hC.2.1 dX7_rights_56 (by decide) ?_
        exact ih hF hw (lv_sub hl [2, 3, 1, 4, 0] rfl)
      · have hF := ifP hF b6
        refine lv_iconst (v := (1 : Int32)) hC.1 hC.2.1 dX7_rights_43 (by decide) ?_
        refine lv_iload hC.1 hC.2.1 dX7_rights_44 (lv_at hl 4 rfl) ?_
        refine lv_ishl hC.1 hC.2.1 dX7_rights_46 ?_
        refine lv_goto (tgt := 51) hC.1 hC.2.1 dX7_rights_47 (by decide) ?_
        refine lv_ior hC.1 hC.2.1 dX7_rights_51 ?_
        refine lv_istore_n (lv' := [(2, .int (x2 ||| ((1 : Int32) <<< (x4 &&& 31)))), (0, .ref (ad G 86)), (1, .int x1), (3, .int x3), (4, .int x4)]) hC.1 hC.2.1 dX7_rights_52 rfl hl (by decide) rfl (fun ls hl => ?_)
        refine lv_iinc (v := (x4 + (1 : Int32))) (lv' := [(4, .int (x4 + (1 : Int32))), (2, .int (x2 ||| ((1 : Int32) <<< (x4 &&& 31)))), (0, .ref (ad G 86)), (1, .int x1), (3, .int x3)]) hC.1 hC.2.1 dX7_rights_53 hl (k := 4) rfl rfl (by decide) rfl (fun ls hl => ?_)
        refine lv_goto (tgt := 20) hC.1 hC.2.1 dX7_rights_56 (by decide) ?_
        exact ih hF hw (lv_sub hl [2, 3, 1, 4, 0] rfl)
def F_X7_rights (fu : Nat) (M : Mm) (x1 : Int32) : Option (Int32 × Mm) :=
  ob1 (F_X7_areMen fu M x1) (fun r2 =>
  if r2 = 0 then
    some ((-1 : Int32), M)
  else
    F_X7_rights_20 fu fu M x1 (0 : Int32) (M.1 86 10) (1 : Int32))
set_option maxRecDepth 100000 in
set_option maxHeartbeats 4000000 in
theorem c_X7_rights {l : Launch} {G : Gv} {fu : Nat} {M : Mm} {x1 : Int32} {r : Int32} {M' : Mm} (hF : F_X7_rights fu M x1 = some (r, M')) : Met l yX7_rights (.code yX7_rights cX7_rights 5 (some .int) :: zU) rm_X7_rights (va_Pc [.ref (ad G 86), .int x1] (Wd G M)) (QI G r M') 0 0 (zA G) := by
  refine zMet (by decide) rfl (Nat.le_of_ble_eq_true rfl) ?_
  intro p e s m below meth c hC hw ls hl
  have hl : lv_has ls 5 [(0, .ref (ad G 86)), (1, .int x1)] := hl
  unfold F_X7_rights at hF
  refine lv_aload_n hC.1 hC.2.1 dX7_rights_0 rfl (lv_at hl 0 rfl) ?_
  refine lv_iload_n hC.1 hC.2.1 dX7_rights_1 rfl (lv_at hl 1 rfl) ?_
  obtain ⟨r2, h1, hF⟩ := ob1S hF
  refine k_Vi (As := [.int x1]) (rest := []) hC hw (c_X7_areMen (M := M) h1) RC_X yv_X7_areMen q6_5 ⟨rfl, rfl⟩ ⟨Nat.le_of_ble_eq_true rfl, Nat.le_of_ble_eq_true rfl⟩ ⟨Nat.zero_le _, Nat.zero_le _⟩ rfl rfl (Nat.le_of_ble_eq_true rfl) hl dX7_rights_2 (fun H locs hw => ?_)
  refine lv_if_ne (tgt := 10) hC.1 hC.2.1 dX7_rights_5 (by decide) (fun b3 => ?_) (fun b3 => ?_)
  · have hF := ifN hF b3
    refine lv_iconst (v := (0 : Int32)) hC.1 hC.2.1 dX7_rights_10 (by decide) ?_
    refine lv_istore_n (lv' := [(2, .int (0 : Int32)), (0, .ref (ad G 86)), (1, .int x1)]) hC.1 hC.2.1 dX7_rights_11 rfl hl (by decide) rfl (fun ls hl => ?_)
    refine lv_aload_n hC.1 hC.2.1 dX7_rights_12 rfl (lv_at hl 1 rfl) ?_
    refine g7_rightIs hC hw q4_132 dX7_rights_13 ?_
    refine lv_istore_n (lv' := [(3, .int (M.1 86 10)), (2, .int (0 : Int32)), (0, .ref (ad G 86)), (1, .int x1)]) hC.1 hC.2.1 dX7_rights_16 rfl hl (by decide) rfl (fun ls hl => ?_)
    refine lv_iconst (v := (1 : Int32)) hC.1 hC.2.1 dX7_rights_17 (by decide) ?_
    refine lv_istore (lv' := [(4, .int (1 : Int32)), (3, .int (M.1 86 10)), (2, .int (0 : Int32)), (0, .ref (ad G 86)), (1, .int x1)]) hC.1 hC.2.1 dX7_rights_18 hl (by decide) rfl (fun ls hl => ?_)
    exact w_X7_rights_20 hC _ hF hw (lv_sub hl [3, 4, 2, 1, 0] rfl)
  · have hF := ifP hF b3
    refine lv_iconst (v := (-1 : Int32)) hC.1 hC.2.1 dX7_rights_8 (by decide) ?_
    exact r_iretE hC hw hF dX7_rights_9
