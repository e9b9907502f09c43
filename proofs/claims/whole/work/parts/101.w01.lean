abbrev rm_X1_endsCarried : Room := { frames := 9, cells := 0, slots := 0, locals := 211 }
theorem ys_X1_endsCarried : YS yX1_endsCarried cX1_endsCarried 5 (some .boolean) 2 := ⟨⟨q3_226, q1_4, q3_227⟩, by decide +kernel⟩
theorem dX1_endsCarried_0 : decode cX1_endsCarried 0 = .ok (.iload_n 1, 1) := by decide +kernel
theorem dX1_endsCarried_1 : decode cX1_endsCarried 1 = .ok (.ifCond .le 8, 3) := by decide +kernel
theorem dX1_endsCarried_4 : decode cX1_endsCarried 4 = .ok (.iload_n 1, 1) := by decide +kernel
theorem dX1_endsCarried_5 : decode cX1_endsCarried 5 = .ok (.iconst 4, 1) := by decide +kernel
theorem dX1_endsCarried_6 : decode cX1_endsCarried 6 = .ok (.if_icmp .le 25, 3) := by decide +kernel
theorem dX1_endsCarried_9 : decode cX1_endsCarried 9 = .ok (.aload_n 0, 1) := by decide +kernel
theorem dX1_endsCarried_10 : decode cX1_endsCarried 10 = .ok (.getfield 45, 3) := by decide +kernel
theorem dX1_endsCarried_13 : decode cX1_endsCarried 13 = .ok (.aload_n 0, 1) := by decide +kernel
theorem dX1_endsCarried_14 : decode cX1_endsCarried 14 = .ok (.getfield 25, 3) := by decide +kernel
theorem dX1_endsCarried_17 : decode cX1_endsCarried 17 = .ok (.lushr, 1) := by decide +kernel
theorem dX1_endsCarried_18 : decode cX1_endsCarried 18 = .ok (.lconst 1, 1) := by decide +kernel
theorem dX1_endsCarried_19 : decode cX1_endsCarried 19 = .ok (.land, 1) := by decide +kernel
theorem dX1_endsCarried_20 : decode cX1_endsCarried 20 = .ok (.lconst 1, 1) := by decide +kernel
theorem dX1_endsCarried_21 : decode cX1_endsCarried 21 = .ok (.lcmp, 1) := by decide +kernel
theorem dX1_endsCarried_22 : decode cX1_endsCarried 22 = .ok (.ifCond .ne 7, 3) := by decide +kernel
theorem dX1_endsCarried_25 : decode cX1_endsCarried 25 = .ok (.iconst 1, 1) := by decide +kernel
theorem dX1_endsCarried_26 : decode cX1_endsCarried 26 = .ok (.goto 4, 3) := by decide +kernel
theorem dX1_endsCarried_29 : decode cX1_endsCarried 29 = .ok (.iconst 0, 1) := by decide +kernel
theorem dX1_endsCarried_30 : decode cX1_endsCarried 30 = .ok (.ireturn, 1) := by decide +kernel
theorem dX1_endsCarried_31 : decode cX1_endsCarried 31 = .ok (.iload_n 1, 1) := by decide +kernel
theorem dX1_endsCarried_32 : decode cX1_endsCarried 32 = .ok (.iconst 2, 1) := by decide +kernel
theorem dX1_endsCarried_33 : decode cX1_endsCarried 33 = .ok (.irem, 1) := by decide +kernel
theorem dX1_endsCarried_34 : decode cX1_endsCarried 34 = .ok (.ifCond .ne 7, 3) := by decide +kernel
theorem dX1_endsCarried_37 : decode cX1_endsCarried 37 = .ok (.iconst 1, 1) := by decide +kernel
theorem dX1_endsCarried_38 : decode cX1_endsCarried 38 = .ok (.goto 4, 3) := by decide +kernel
theorem dX1_endsCarried_41 : decode cX1_endsCarried 41 = .ok (.iconst 0, 1) := by decide +kernel
theorem dX1_endsCarried_42 : decode cX1_endsCarried 42 = .ok (.istore_n 2, 1) := by decide +kernel
theorem dX1_endsCarried_43 : decode cX1_endsCarried 43 = .ok (.iconst 0, 1) := by decide +kernel
theorem dX1_endsCarried_44 : decode cX1_endsCarried 44 = .ok (.istore_n 3, 1) := by decide +kernel
theorem dX1_endsCarried_45 : decode cX1_endsCarried 45 = .ok (.iload_n 3, 1) := by decide +kernel
theorem dX1_endsCarried_46 : decode cX1_endsCarried 46 = .ok (.iconst 2, 1) := by decide +kernel
theorem dX1_endsCarried_47 : decode cX1_endsCarried 47 = .ok (.aload_n 0, 1) := by decide +kernel
theorem dX1_endsCarried_48 : decode cX1_endsCarried 48 = .ok (.getfield 24, 3) := by decide +kernel
theorem dX1_endsCarried_51 : decode cX1_endsCarried 51 = .ok (.imul, 1) := by decide +kernel
theorem dX1_endsCarried_52 : decode cX1_endsCarried 52 = .ok (.if_icmp .ge 42, 3) := by decide +kernel
theorem dX1_endsCarried_55 : decode cX1_endsCarried 55 = .ok (.aload_n 0, 1) := by decide +kernel
theorem dX1_endsCarried_56 : decode cX1_endsCarried 56 = .ok (.iload_n 3, 1) := by decide +kernel
theorem dX1_endsCarried_57 : decode cX1_endsCarried 57 = .ok (.invokevirtual 57, 3) := by decide +kernel
theorem dX1_endsCarried_60 : decode cX1_endsCarried 60 = .ok (.ifCond .eq 28, 3) := by decide +kernel
theorem dX1_endsCarried_63 : decode cX1_endsCarried 63 = .ok (.aload_n 0, 1) := by decide +kernel
theorem dX1_endsCarried_64 : decode cX1_endsCarried 64 = .ok (.iload_n 1, 1) := by decide +kernel
theorem dX1_endsCarried_65 : decode cX1_endsCarried 65 = .ok (.iconst 1, 1) := by decide +kernel
theorem dX1_endsCarried_66 : decode cX1_endsCarried 66 = .ok (.isub, 1) := by decide +kernel
theorem dX1_endsCarried_67 : decode cX1_endsCarried 67 = .ok (.invokestatic 60, 3) := by decide +kernel
theorem dX1_endsCarried_70 : decode cX1_endsCarried 70 = .ok (.istore 4, 2) := by decide +kernel
theorem dX1_endsCarried_72 : decode cX1_endsCarried 72 = .ok (.aload_n 0, 1) := by decide +kernel
theorem dX1_endsCarried_73 : decode cX1_endsCarried 73 = .ok (.iload_n 3, 1) := by decide +kernel
theorem dX1_endsCarried_74 : decode cX1_endsCarried 74 = .ok (.iconst 1, 1) := by decide +kernel
theorem dX1_endsCarried_75 : decode cX1_endsCarried 75 = .ok (.ixor, 1) := by decide +kernel
theorem dX1_endsCarried_76 : decode cX1_endsCarried 76 = .ok (.invokevirtual 57, 3) := by decide +kernel
theorem dX1_endsCarried_79 : decode cX1_endsCarried 79 = .ok (.pop, 1) := by decide +kernel
theorem dX1_endsCarried_80 : decode cX1_endsCarried 80 = .ok (.iload 4, 2) := by decide +kernel
theorem dX1_endsCarried_82 : decode cX1_endsCarried 82 = .ok (.iload_n 2, 1) := by decide +kernel
theorem dX1_endsCarried_83 : decode cX1_endsCarried 83 = .ok (.if_icmp .ne 5, 3) := by decide +kernel
theorem dX1_endsCarried_86 : decode cX1_endsCarried 86 = .ok (.iload_n 2, 1) := by decide +kernel
theorem dX1_endsCarried_87 : decode cX1_endsCarried 87 = .ok (.ireturn, 1) := by decide +kernel
theorem dX1_endsCarried_88 : decode cX1_endsCarried 88 = .ok (.iinc 3 1, 3) := by decide +kernel
theorem dX1_endsCarried_91 : decode cX1_endsCarried 91 = .ok (.goto (-46), 3) := by decide +kernel
theorem dX1_endsCarried_94 : decode cX1_endsCarried 94 = .ok (.iload_n 2, 1) := by decide +kernel
theorem dX1_endsCarried_95 : decode cX1_endsCarried 95 = .ok (.ifCond .ne 7, 3) := by decide +kernel
theorem dX1_endsCarried_98 : decode cX1_endsCarried 98 = .ok (.iconst 1, 1) := by decide +kernel
theorem dX1_endsCarried_99 : decode cX1_endsCarried 99 = .ok (.goto 4, 3) := by decide +kernel
theorem dX1_endsCarried_102 : decode cX1_endsCarried 102 = .ok (.iconst 0, 1) := by decide +kernel
theorem dX1_endsCarried_103 : decode cX1_endsCarried 103 = .ok (.ireturn, 1) := by decide +kernel
def F_X1_endsCarried_9 (fu : Nat) (rc : Mm → Int32 → Option (Int32 × Mm)) (M : Mm) : Option (Int32 × Mm) :=
  if (lg_cmp (((M.2 74 2).toUInt64 >>> ((M.1 74 1).toInt64.toUInt64 &&& Int64.toUInt64 63)).toInt64 &&& (1 : Int64)) (1 : Int64)) = 0 then
    some ((1 : Int32), M)
  else
    some ((0 : Int32), M)
set_option maxRecDepth 100000 in
set_option maxHeartbeats 4000000 in
theorem w_X1_endsCarried_9 {p : Program} {l : Launch} {e : Env} {s : State} {m : MethodId} {args : Array Value} {below : List Frame} {meth : Method} {c : Code} {G : Gv} (hC : Cx p s m args meth c cX1_endsCarried 5 (some .boolean) RX1) {fu : Nat} {r : Int32} {M' : Mm} {rmv rmr : Room} (hR0 : 3 ≤ rmv.frames ∧ 67 ≤ rmv.locals) (hR1 : rmr.frames + 1 ≤ rmv.frames ∧ 8 + (5 + 11) + rmr.locals ≤ rmv.locals) (hrm : rmr.cells = 0 ∧ rmr.slots = 0) {rc : Mm → Int32 → Option (Int32 × Mm)} (hrc : ∀ {M : Mm} {x1 r : Int32} {M' : Mm}, rc M x1 = some (r, M') → Met l yX1_endsCarried (.code yX1_endsCarried cX1_endsCarried 5 (some .boolean) :: zU) rmr (va_Pc [.ref (ad G 74), .int x1] (Wd G M)) (QI G r M') 0 0 (zA G)) {M : Mm} {H : Heap} {locs : List Loc} {ls : Array Slot} (hF : F_X1_endsCarried_9 fu rc M = some (r, M')) (hw : St G s H locs M) (hl : lv_has ls 5 [(0, .ref (ad G 74))]) : W p l e rmv s m args below meth c H locs 0 0 (MQ below (QI G r M') args s 0 0 (zA G)) (F0 m 9 ls []) := by
  unfold F_X1_endsCarried_9 at hF
  refine lv_aload_n hC.1 hC.2.1 dX1_endsCarried_9 rfl (lv_at hl 0 rfl) ?_
  refine g1_carriedBy hC hw q1_131 dX1_endsCarried_10 ?_
  refine lv_aload_n hC.1 hC.2.1 dX1_endsCarried_13 rfl (lv_at hl 0 rfl) ?_
  refine g1_voters hC hw q1_130 dX1_endsCarried_14 ?_
  refine lv_lushr hC.1 hC.2.1 dX1_endsCarried_17 rfl ?_
  refine lv_lconst (v := (1 : Int64)) hC.1 hC.2.1 dX1_endsCarried_18 (by decide) ?_
  refine lv_land hC.1 hC.2.1 dX1_endsCarried_19 ?_
  refine lv_lconst (v := (1 : Int64)) hC.1 hC.2.1 dX1_endsCarried_20 (by decide) ?_
  refine W.lcmp hC.1 hC.2.1 dX1_endsCarried_21 ?_
  refine lv_if_ne (tgt := 29) hC.1 hC.2.1 dX1_endsCarried_22 (by decide) (fun b1 => ?_) (fun b1 => ?_)
  · have hF := ifN hF b1
    refine lv_iconst (v := (0 : Int32)) hC.1 hC.2.1 dX1_endsCarried_29 (by decide) ?_
    exact r_zretE hC hw (by decide) hF dX1_endsCarried_30
  · have hF := ifP hF b1
    refine lv_iconst (v := (1 : Int32)) hC.1 hC.2.1 dX1_endsCarried_25 (by decide) ?_
    refine lv_goto (tgt := 30) hC.1 hC.2.1 dX1_endsCarried_26 (by decide) ?_
    exact r_zretE hC hw (by decide) hF dX1_endsCarried_30
def F_X1_endsCarried_45 (fu : Nat) (rc : Mm → Int32 → Option (Int32 × Mm)) : Nat → Mm → Int32 → Int32 → Int32 → Option (Int32 × Mm)
  | 0, _, _, _, _ => none
  | n + 1, M, x1, x2, x3 =>
    if ((2 : Int32) * (M.1 74 0)) ≤ x3 then
      if x2 = 0 then
        some ((1 : Int32), M)
      else
        some ((0 : Int32), M)
    else
      ob2 (F_X1_makes fu M x3) (fun r4 M5 =>
      if r4 = 0 then
        F_X1_endsCarried_45 fu rc n M5 x1 x2 (x3 + (1 : Int32))
      else
        ob2 (rc M5 (x1 - (1 : Int32))) (fun r8 M9 =>
        ob2 (F_X1_makes fu M9 (x3 ^^^ (1 : Int32))) (fun r11 M12 =>
        if r8 = x2 then
          if ¬ (x2 = 0 ∨ x2 = 1) then none else (
          some (x2, M12))
        else
          F_X1_endsCarried_45 fu rc n M12 x1 x2 (x3 + (1 : Int32)))))
set_option maxRecDepth 100000 in
set_option maxHeartbeats 4000000 in
theorem w_X1_endsCarried_45 {p : Program} {l : Launch} {e : Env} {s : State} {m : MethodId} {args : Array Value} {below : List Frame} {meth : Method} {c : Code} {G : Gv} (hC : Cx p s m args meth c cX1_endsCarried 5 (some .boolean) RX1) {fu : Nat} {r : Int32} {M' : Mm} {rmv rmr : Room} (hR0 : 3 ≤ rmv.frames ∧ 67 ≤ rmv.locals) (hR1 : rmr.frames + 1 ≤ rmv.frames ∧ 8 + (5 + 11) + rmr.locals ≤ rmv.locals) (hrm : rmr.cells = 0 ∧ rmr.slots = 0) {rc : Mm → Int32 → Option (Int32 × Mm)} (hrc : ∀ {M : Mm} {x1 r : Int32} {M' : Mm}, rc M x1 = some (r, M') → Met l yX1_endsCarried (.code yX1_endsCarried cX1_endsCarried 5 (some .boolean) :: zU) rmr (va_Pc [.ref (ad G 74), .int x1] (Wd G M)) (QI G r M') 0 0 (zA G)) : ∀ (n : Nat) {x1 : Int32} {x2 : Int32} {x3 : Int32} {M : Mm} {H : Heap} {locs : List Loc} {ls : Array Slot}, F_X1_endsCarried_45 fu rc n M x1 x2 x3 = some (r, M') → St G s H locs M → lv_has ls 5 [(0, .ref (ad G 74)), (1, .int x1), (2, .int x2), (3, .int x3)] → W p l e rmv s m args below meth c H locs 0 0 (MQ below (QI G r M') args s 0 0 (zA G)) (F0 m 45 ls []) := by
  intro n
  induction n with
  | zero =>
    intro x1 x2 x3 M H locs ls hF hw hl
    cases hF
  | succ n ih =>
    intro x1 x2 x3 M H locs ls hF hw hl
    unfold F_X1_endsCarried_45 at hF
    refine lv_iload_n hC.1 hC.2.1 dX1_endsCarried_45 rfl (lv_at hl 3 rfl) ?_
    refine lv_iconst (v := (2 : Int32)) hC.1 hC.2.1 dX1_endsCarried_46 (by decide) ?_
    refine lv_aload_n hC.1 hC.2.1 dX1_endsCarried_47 rfl (lv_at hl 0 rfl) ?_
    refine g1_men hC hw q1_129 dX1_endsCarried_48 ?_
    refine lv_imul hC.1 hC.2.1 dX1_endsCarried_51 ?_
    refine lv_icmp_ge (tgt := 94) hC.1 hC.2.1 dX1_endsCarried_52 (by decide) (fun b1 => ?_) (fun b1 => ?_)
    · have hF := ifP hF b1
      refine lv_iload_n hC.1 hC.2.1 dX1_endsCarried_94 rfl (lv_at hl 2 rfl) ?_
      refine lv_if_ne (tgt := 102) hC.1 hC.2.1 dX1_endsCarried_95 (by decide) (fun b2 => ?_) (fun b2 => ?_)
      · have hF := ifN hF b2
        refine lv_iconst (v := (0 : Int32)) hC.1 hC.2.1 dX1_endsCarried_102 (by decide) ?_
        exact r_zretE hC hw (by decide) hF dX1_endsCarried_103
      · have hF := ifP hF b2
        refine lv_iconst (v := (1 : Int32)) hC.1 hC.2.1 dX1_endsCarried_98 (by decide) ?_
        refine lv_goto (tgt := 103) hC.1 hC.2.1 dX1_endsCarried_99 (by decide) ?_
        exact r_zretE hC hw (by decide) hF dX1_endsCarried_103
    · have hF := ifN hF b1
      refine lv_aload_n hC.1 hC.2.1 dX1_endsCarried_55 rfl (lv_at hl 0 rfl) ?_
      refine lv_iload_n hC.1 hC.2.1 dX1_endsCarried_56 rfl (lv_at hl 3 rfl) ?_
      obtain ⟨r4, M5, h3, hF⟩ := ob2S hF
      refine k_Vi (As := [.int x3]) (rest := []) hC hw (c_X1_makes (M := M) h3) RC_G yv_X1_makes q3_228 ⟨rfl, rfl⟩ ⟨Nat.le_trans (Nat.le_of_ble_eq_true rfl) hR0.1, Nat.le_trans (Nat.le_of_ble_eq_true rfl) hR0.2⟩ ⟨Nat.zero_le _, Nat.zero_le _⟩ rfl rfl (Nat.le_of_ble_eq_true rfl) hl dX1_endsCarried_57 (fun H locs hw => ?_)
      refine lv_if_eq (tgt := 88) hC.1 hC.2.1 dX1_endsCarried_60 (by decide) (fun b6 => ?_) (fun b6 => ?_)
      · have hF := ifP hF b6
        refine lv_iinc (v := (x3 + (1 : Int32))) (lv' := [(3, .int (x3 + (1 : Int32))), (0, .ref (ad G 74)), (1, .int x1), (2, .int x2)]) hC.1 hC.2.1 dX1_endsCarried_88 hl (k := 3) rfl rfl (by decide) rfl (fun ls hl => ?_)
        refine lv_goto (tgt := 45) hC.1 hC.2.1 dX1_endsCarried_91 (by decide) ?_
        exact ih hF hw (lv_sub hl [1, 2, 3, 0] rfl)
      · have hF := ifN hF b6
        refine lv_aload_n hC.1 hC.2.1 dX1_endsCarried_63 rfl (lv_at hl 0 rfl) ?_
        refine lv_iload_n hC.1 hC.2.1 dX1_endsCarried_64 rfl (lv_at hl 1 rfl) ?_
        refine lv_iconst (v := (1 : Int32)) hC.1 hC.2.1 dX1_endsCarried_65 (by decide) ?_
        refine lv_isub hC.1 hC.2.1 dX1_endsCarried_66 ?_
        obtain ⟨r8, M9, h7, hF⟩ := ob2S hF
        refine k_Si (As := [.ref (ad G 74), .int (x1 - (1 : Int32))]) (rest := []) hC hw (hrc h7) ys_X1_endsCarried q3_232 hrm hR1 ⟨Nat.zero_le _, Nat.zero_le _⟩ rfl rfl (Nat.le_of_ble_eq_true rfl) hl dX1_endsCarried_67 (fun H locs hw => ?_)
        refine lv_istore (lv' := [(4, .int r8), (0, .ref (ad G 74)), (1, .int x1), (2, .int x2), (3, .int x3)]) hC.1 hC.2.1 dX1_endsCarried_70 hl (by decide) rfl (fun ls hl => ?_)
        refine lv_aload_n hC.1 hC.2.1 dX1_endsCarried_72 rfl (lv_at hl 1 rfl) ?_
        refine lv_iload_n hC.1 hC.2.1 dX1_endsCarried_73 rfl (lv_at hl 4 rfl) ?_
        refine lv_iconst (v := (1 : Int32)) hC.1 hC.2.1 dX1_endsCarried_74 (by decide) ?_
        refine lv_ixor hC.1 hC.2.1 dX1_endsCarried_75 ?_
        obtain ⟨r11, M12, h10, hF⟩ := ob2S hF
        refine k_Vi (As := [.int (x3 ^^^ (1 : Int32))]) (rest := []) hC hw (c_X1_makes (M := M9) h10) RC_G yv_X1_makes q3_228 ⟨rfl, rfl⟩ ⟨Nat.le_trans (Nat.le_of_ble_eq_true rfl) hR0.1, Nat.le_trans (Nat.le_of_ble_eq_true rfl) hR0.2⟩ ⟨Nat.zero_le _, Nat.zero_le _⟩ rfl rfl (Nat.le_of_ble_eq_true rfl) hl dX1_endsCarried_76 (fun H locs hw => ?_)
        refine lv_pop hC.1 hC.2.1 dX1_endsCarried_79 rfl ?_
        refine lv_iload hC.1 hC.2.1 dX1_endsCarried_80 (lv_at hl 0 rfl) ?_
        refine lv_iload_n hC.1 hC.2.1 dX1_endsCarried_82 rfl (lv_at hl 3 rfl) ?_
        refine lv_icmp_ne (tgt := 88) hC.1 hC.2.1 dX1_endsCarried_83 (by decide) (fun b13 => ?_) (fun b13 => ?_)
        · have hF := ifN hF b13
          refine lv_iinc (v := (x3 + (1 : Int32))) (lv' := [(3, .int (x3 + (1 : Int32))), (4, .int r8), (0, .ref (ad G 74)), (1, .int x1), (2, .int x2)]) hC.1 hC.2.1 dX1_endsCarried_88 hl (k := 4) rfl rfl (by decide) rfl (fun ls hl => ?_)
          refine lv_goto (tgt := 45) hC.1 hC.2.1 dX1_endsCarried_91 (by decide) ?_
          exact ih hF hw (lv_sub hl [2, 3, 4, 0] rfl)
        · have hF := ifP hF b13
          refine lv_iload_n hC.1 hC.2.1 dX1_endsCarried_86 rfl (lv_at hl 3 rfl) ?_
          obtain ⟨z14, hF⟩ := ifO hF
          exact r_zretE hC hw (Decidable.not_not.mp z14) hF dX1_endsCarried_87
def F_X1_endsCarried_b (fu : Nat) (rc : Mm → Int32 → Option (Int32 × Mm)) (M : Mm) (x1 : Int32) : Option (Int32 × Mm) :=
  if x1 ≤ 0 then
    F_X1_endsCarried_9 fu rc M
  else
    if x1 ≤ (4 : Int32) then
      if (x1 - x1 / (2 : Int32) * (2 : Int32)) = 0 then
        F_X1_endsCarried_45 fu rc fu M x1 (1 : Int32) (0 : Int32)
      else
        F_X1_endsCarried_45 fu rc fu M x1 (0 : Int32) (0 : Int32)
    else
      F_X1_endsCarried_9 fu rc M
set_option maxRecDepth 100000 in
set_option maxHeartbeats 4000000 in
theorem c_X1_endsCarried_b {l : Launch} {G : Gv} {fu : Nat} {rmv rmr : Room} (hR0 : 3 ≤ rmv.frames ∧ 67 ≤ rmv.locals) (hR1 : rmr.frames + 1 ≤ rmv.frames ∧ 8 + (5 + 11) + rmr.locals ≤ rmv.locals) (hrm : rmr.cells = 0 ∧ rmr.slots = 0) {rc : Mm → Int32 → Option (Int32 × Mm)} (hrc : ∀ {M : Mm} {x1 r : Int32} {M' : Mm}, rc M x1 = some (r, M') → Met l yX1_endsCarried (.code yX1_endsCarried cX1_endsCarried 5 (some .boolean) :: zU) rmr (va_Pc [.ref (ad G 74), .int x1] (Wd G M)) (QI G r M') 0 0 (zA G)) {M : Mm} {x1 : Int32} {r : Int32} {M' : Mm} (hF : F_X1_endsCarried_b fu rc M x1 = some (r, M')) : Met l yX1_endsCarried (.code yX1_endsCarried cX1_endsCarried 5 (some .boolean) :: zU) rmv (va_Pc [.ref (ad G 74), .int x1] (Wd G M)) (QI G r M') 0 0 (zA G) := by
  refine zMet (by decide) rfl (Nat.le_of_ble_eq_true rfl) ?_
  intro p e s m below meth c hC hw ls hl
  have hl : lv_has ls 5 [(0, .ref (ad G 74)), (1, .int x1)] := hl
  unfold F_X1_endsCarried_b at hF
  refine lv_iload_n hC.1 hC.2.1 dX1_endsCarried_0 rfl (lv_at hl 1 rfl) ?_
  refine lv_if_le (tgt := 9) hC.1 hC.2.1 dX1_endsCarried_1 (by decide) (fun b1 => ?_) (fun b1 => ?_)
  · have hF := ifP hF b1
    exact w_X1_endsCarried_9 hC hR0 hR1 hrm hrc hF hw (lv_sub hl [0] rfl)
  · have hF := ifN hF b1
    refine lv_iload_n hC.1 hC.2.1 dX1_endsCarried_4 rfl (lv_at hl 1 rfl) ?_
    refine lv_iconst (v := (4 : Int32)) hC.1 hC.2.1 dX1_endsCarried_5 (by decide) ?_
    refine lv_icmp_le (tgt := 31) hC.1 hC.2.1 dX1_endsCarried_6 (by decide) (fun b2 => ?_) (fun b2 => ?_)
    · have hF := ifP hF b2
      refine lv_iload_n hC.1 hC.2.1 dX1_endsCarried_31 rfl (lv_at hl 1 rfl) ?_
      refine lv_iconst (v := (2 : Int32)) hC.1 hC.2.1 dX1_endsCarried_32 (by decide) ?_
      refine lv_irem hC.1 hC.2.1 dX1_endsCarried_33 (by decide) ?_
      refine lv_if_ne (tgt := 41) hC.1 hC.2.1 dX1_endsCarried_34 (by decide) (fun b3 => ?_) (fun b3 => ?_)
      · have hF := ifN hF b3
        refine lv_iconst (v := (0 : Int32)) hC.1 hC.2.1 dX1_endsCarried_41 (by decide) ?_
        refine lv_istore_n (lv' := [(2, .int (0 : Int32)), (0, .ref (ad G 74)), (1, .int x1)]) hC.1 hC.2.1 dX1_endsCarried_42 rfl hl (by decide) rfl (fun ls hl => ?_)
        refine lv_iconst (v := (0 : Int32)) hC.1 hC.2.1 dX1_endsCarried_43 (by decide) ?_
        refine lv_istore_n (lv' := [(3, .int (0 : Int32)), (2, .int (0 : Int32)), (0, .ref (ad G 74)), (1, .int x1)]) hC.1 hC.2.1 dX1_endsCarried_44 rfl hl (by decide) rfl (fun ls hl => ?_)
        exact w_X1_endsCarried_45 hC hR0 hR1 hrm hrc _ hF hw (lv_sub hl [2, 3, 1, 0] rfl)
      · have hF := ifP hF b3
        refine lv_iconst (v := (1 : Int32)) hC.1 hC.2.1 dX1_endsCarried_37 (by decide) ?_
        refine lv_goto (tgt := 42) hC.1 hC.2.1 dX1_endsCarried_38 (by decide) ?_
        refine lv_istore_n (lv' := [(2, .int (1 : Int32)), (0, .ref (ad G 74)), (1, .int x1)]) hC.1 hC.2.1 dX1_endsCarried_42 rfl hl (by decide) rfl (fun ls hl => ?_)
        refine lv_iconst (v := (0 : Int32)) hC.1 hC.2.1 dX1_endsCarried_43 (by decide) ?_
        refine lv_istore_n (lv' := [(3, .int (0 : Int32)), (2, .int (1 : Int32)), (0, .ref (ad G 74)), (1, .int x1)]) hC.1 hC.2.1 dX1_endsCarried_44 rfl hl (by decide) rfl (fun ls hl => ?_)
        exact w_X1_endsCarried_45 hC hR0 hR1 hrm hrc _ hF hw (lv_sub hl [2, 3, 1, 0] rfl)
    · have hF := ifN hF b2
      exact w_X1_endsCarried_9 hC hR0 hR1 hrm hrc hF hw (lv_sub hl [0] rfl)
def F_X1_endsCarried_d (fu : Nat) : Nat → Mm → Int32 → Option (Int32 × Mm)
  | 0, _, _ => none
  | d + 1, M, x1 => F_X1_endsCarried_b fu (fun M x1 => F_X1_endsCarried_d fu d M x1) M x1
def F_X1_endsCarried (fu : Nat) (M : Mm) (x1 : Int32) : Option (Int32 × Mm) := F_X1_endsCarried_d fu 6 M x1
theorem c_X1_endsCarried_d {l : Launch} {G : Gv} {fu : Nat} : ∀ (d : Nat) {M : Mm} {x1 : Int32} {r : Int32} {M' : Mm}, F_X1_endsCarried_d fu d M x1 = some (r, M') → Met l yX1_endsCarried (.code yX1_endsCarried cX1_endsCarried 5 (some .boolean) :: zU) ({ frames := 3 + d, cells := 0, slots := 0, locals := 67 + d * 24 } : Room) (va_Pc [.ref (ad G 74), .int x1] (Wd G M)) (QI G r M') 0 0 (zA G) := by
  intro d
  induction d with
  | zero =>
    intro M x1 r M' hF
    cases hF
  | succ d ih =>
    intro M x1 r M' hF
    exact c_X1_endsCarried_b (rmr := ({ frames := 3 + d, cells := 0, slots := 0, locals := 67 + d * 24 } : Room)) ⟨Nat.le_add_right _ _, Nat.le_add_right _ _⟩ ⟨Nat.le_refl _, by show 8 + (5 + 11) + (67 + d * 24) ≤ 67 + (d + 1) * 24; omega⟩ ⟨rfl, rfl⟩ (fun h => ih h) hF
theorem c_X1_endsCarried {l : Launch} {G : Gv} {fu : Nat} {M : Mm} {x1 : Int32} {r : Int32} {M' : Mm} (hF : F_X1_endsCarried fu M x1 = some (r, M')) : Met l yX1_endsCarried (.code yX1_endsCarried cX1_endsCarried 5 (some .boolean) :: zU) rm_X1_endsCarried (va_Pc [.ref (ad G 74), .int x1] (Wd G M)) (QI G r M') 0 0 (zA G) := c_X1_endsCarried_d 6 hF
abbrev rm_X1_winningMove : Room := { frames := 10, cells := 0, slots := 0, locals := 235 }
theorem yv_X1_winningMove : YV yX1_winningMove cX1_winningMove 4 (some .int) 1 RX1 := ⟨⟨q3_238, q3_239, q1_4, q4_0⟩, by decide +kernel⟩
theorem dX1_winningMove_0 : decode cX1_winningMove 0 = .ok (.iconst 0, 1) := by decide +kernel
theorem dX1_winningMove_1 : decode cX1_winningMove 1 = .ok (.istore_n 2, 1) := by decide +kernel
theorem dX1_winningMove_2 : decode cX1_winningMove 2 = .ok (.iload_n 2, 1) := by decide +kernel
theorem dX1_winningMove_3 : decode cX1_winningMove 3 = .ok (.iconst 2, 1) := by decide +kernel
theorem dX1_winningMove_4 : decode cX1_winningMove 4 = .ok (.aload_n 0, 1) := by decide +kernel
theorem dX1_winningMove_5 : decode cX1_winningMove 5 = .ok (.getfield 24, 3) := by decide +kernel
theorem dX1_winningMove_8 : decode cX1_winningMove 8 = .ok (.imul, 1) := by decide +kernel
theorem dX1_winningMove_9 : decode cX1_winningMove 9 = .ok (.if_icmp .ge 39, 3) := by decide +kernel
theorem dX1_winningMove_12 : decode cX1_winningMove 12 = .ok (.aload_n 0, 1) := by decide +kernel
theorem dX1_winningMove_13 : decode cX1_winningMove 13 = .ok (.iload_n 2, 1) := by decide +kernel
theorem dX1_winningMove_14 : decode cX1_winningMove 14 = .ok (.invokevirtual 57, 3) := by decide +kernel
theorem dX1_winningMove_17 : decode cX1_winningMove 17 = .ok (.ifCond .eq 25, 3) := by decide +kernel
theorem dX1_winningMove_20 : decode cX1_winningMove 20 = .ok (.aload_n 0, 1) := by decide +kernel
theorem dX1_winningMove_21 : decode cX1_winningMove 21 = .ok (.iload_n 1, 1) := by decide +kernel
theorem dX1_winningMove_22 : decode cX1_winningMove 22 = .ok (.iconst 1, 1) := by decide +kernel
theorem dX1_winningMove_23 : decode cX1_winningMove 23 = .ok (.isub, 1) := by decide +kernel
theorem dX1_winningMove_24 : decode cX1_winningMove 24 = .ok (.invokestatic 60, 3) := by decide +kernel
theorem dX1_winningMove_27 : decode cX1_winningMove 27 = .ok (.istore_n 3, 1) := by decide +kernel
theorem dX1_winningMove_28 : decode cX1_winningMove 28 = .ok (.aload_n 0, 1) := by decide +kernel
theorem dX1_winningMove_29 : decode cX1_winningMove 29 = .ok (.iload_n 2, 1) := by decide +kernel
theorem dX1_winningMove_30 : decode cX1_winningMove 30 = .ok (.iconst 1, 1) := by decide +kernel
theorem dX1_winningMove_31 : decode cX1_winningMove 31 = .ok (.ixor, 1) := by decide +kernel
theorem dX1_winningMove_32 : decode cX1_winningMove 32 = .ok (.invokevirtual 57, 3) := by decide +kernel
theorem dX1_winningMove_35 : decode cX1_winningMove 35 = .ok (.pop, 1) := by decide +kernel
theorem dX1_winningMove_36 : decode cX1_winningMove 36 = .ok (.iload_n 3, 1) := by decide +kernel
theorem dX1_winningMove_37 : decode cX1_winningMove 37 = .ok (.ifCond .eq 5, 3) := by decide +kernel
theorem dX1_winningMove_40 : decode cX1_winningMove 40 = .ok (.iload_n 2, 1) := by decide +kernel
theorem dX1_winningMove_41 : decode cX1_winningMove 41 = .ok (.ireturn, 1) := by decide +kernel
theorem dX1_winningMove_42 : decode cX1_winningMove 42 = .ok (.iinc 2 1, 3) := by decide +kernel
theorem dX1_winningMove_45 : decode cX1_winningMove 45 = .ok (.goto (-43), 3) := by decide +kernel
theorem dX1_winningMove_48 : decode cX1_winningMove 48 = .ok (.bipush (-9), 2) := by decide +kernel
theorem dX1_winningMove_50 : decode cX1_winningMove 50 = .ok (.ireturn, 1) := by decide +kernel
def F_X1_winningMove_2 (fu : Nat) : Nat → Mm → Int32 → Int32 → Option (Int32 × Mm)
  | 0, _, _, _ => none
  | n + 1, M, x1, x2 =>
    if ((2 : Int32) * (M.1 74 0)) ≤ x2 then
      some ((-9 : Int32), M)
    else
      ob2 (F_X1_makes fu M x2) (fun r3 M4 =>
      if r3 = 0 then
        F_X1_winningMove_2 fu n M4 x1 (x2 + (1 : Int32))
      else
        ob2 (F_X1_endsCarried fu M4 (x1 - (1 : Int32))) (fun r7 M8 =>
        ob2 (F_X1_makes fu M8 (x2 ^^^ (1 : Int32))) (fun r10 M11 =>
        if r7 = 0 then
          F_X1_winningMove_2 fu n M11 x1 (x2 + (1 : Int32))
        else
          some (x2, M11))))
set_option maxRecDepth 100000 in
set_option maxHeartbeats 4000000 in
theorem w_X1_winningMove_2 {p : Program} {l : Launch} {e : Env} {s : State} {m : MethodId} {args : Array Value} {below : List Frame} {meth : Method} {c : Code} {G : Gv} (hC : Cx p s m args meth c cX1_winningMove 4 (some .int) RX1) {fu : Nat} {r : Int32} {M' : Mm} : ∀ (n : Nat) {x1 : Int32} {x2 : Int32} {M : Mm} {H : Heap} {locs : List Loc} {ls : Array Slot}, F_X1_winningMove_2 fu n M x1 x2 = some (r, M') → St G s H locs M → lv_has ls 4 [(0, .ref (ad G 74)), (1, .int x1), (2, .int x2)] → W p l e rm_X1_winningMove s m args below meth c H locs 0 0 (MQ below (QI G r M') args s 0 0 (zA G)) (F0 m 2 ls []) := by
  intro n
  induction n with
  | zero =>
    intro x1 x2 M H locs ls hF hw hl
    cases hF
  | succ n ih =>
    intro x1 x2 M H locs ls hF hw hl
    unfold F_X1_winningMove_2 at hF
    refine lv_iload_n hC.1 hC.2.1 dX1_winningMove_2 rfl (lv_at hl 2 rfl) ?_
    refine lv_iconst (v := (2 : Int32)) hC.1 hC.2.1 dX1_winningMove_3 (by decide) ?_
    refine lv_aload_n hC.1 hC.2.1 dX1_winningMove_4 rfl (lv_at hl 0 rfl) ?_
    refine g1_men hC hw q1_129 dX1_winningMove_5 ?_
    refine lv_imul hC.1 hC.2.1 dX1_winningMove_8 ?_
    refine lv_icmp_ge (tgt := 48) hC.1 hC.2.1 dX1_winningMove_9 (by decide) (fun b1 => ?_) (fun b1 => ?_)
    · have hF := ifP hF b1
      refine lv_bipush (v := (-9 : Int32)) hC.1 hC.2.1 dX1_winningMove_48 (by decide) ?_
      exact r_iretE hC hw hF dX1_winningMove_50
    · have hF := ifN hF b1
      refine lv_aload_n hC.1 hC.2.1 dX1_winningMove_12 rfl (lv_at hl 0 rfl) ?_
      refine lv_iload_n hC.1 hC.2.1 dX1_winningMove_13 rfl (lv_at hl 2 rfl) ?_
      obtain ⟨r3, M4, h2, hF⟩ := ob2S hF
      refine k_Vi (As := [.int x2]) (rest := []) hC hw (c_X1_makes (M := M) h2) RC_G yv_X1_makes q3_228 ⟨rfl, rfl⟩ ⟨Nat.le_of_ble_eq_true rfl, Nat.le_of_ble_eq_true rfl⟩ ⟨Nat.zero_le _, Nat.zero_le _⟩ rfl rfl (Nat.le_of_ble_eq_true rfl) hl dX1_winningMove_14 (fun H locs hw => ?_)
      refine lv_if_eq (tgt := 42) hC.1 hC.2.1 dX1_winningMove_17 (by decide) (fun b5 => ?_) (fun b5 => ?_)
      · have hF := ifP hF b5
        refine lv_iinc (v := (x2 + (1 : Int32))) (lv' := [(2, .int (x2 + (1 : Int32))), (0, .ref (ad G 74)), (1, .int x1)]) hC.1 hC.2.1 dX1_winningMove_42 hl (k := 2) rfl rfl (by decide) rfl (fun ls hl => ?_)
        refine lv_goto (tgt := 2) hC.1 hC.2.1 dX1_winningMove_45 (by decide) ?_
        exact ih hF hw (lv_sub hl [1, 2, 0] rfl)
      · have hF := ifN hF b5
        refine lv_aload_n hC.1 hC.2.1 dX1_winningMove_20 rfl (lv_at hl 0 rfl) ?_
        refine lv_iload_n hC.1 hC.2.1 dX1_winningMove_21 rfl (lv_at hl 1 rfl) ?_
        refine lv_iconst (v := (1 : Int32)) hC.1 hC.2.1 dX1_winningMove_22 (by decide) ?_
        refine lv_isub hC.1 hC.2.1 dX1_winningMove_23 ?_
        obtain ⟨r7, M8, h6, hF⟩ := ob2S hF
        refine k_Si (As := [.ref (ad G 74), .int (x1 - (1 : Int32))]) (rest := []) hC hw (c_X1_endsCarried (M := M4) h6) ys_X1_endsCarried q3_232 ⟨rfl, rfl⟩ ⟨Nat.le_of_ble_eq_true rfl, Nat.le_of_ble_eq_true rfl⟩ ⟨Nat.zero_le _, Nat.zero_le _⟩ rfl rfl (Nat.le_of_ble_eq_true rfl) hl dX1_winningMove_24 (fun H locs hw => ?_)
        refine lv_istore_n (lv' := [(3, .int r7), (0, .ref (ad G 74)), (1, .int x1), (2, .int x2)]) hC.1 hC.2.1 dX1_winningMove_27 rfl hl (by decide) rfl (fun ls hl => ?_)
        refine lv_aload_n hC.1 hC.2.1 dX1_winningMove_28 rfl (lv_at hl 1 rfl) ?_
        refine lv_iload_n hC.1 hC.2.1 dX1_winningMove_29 rfl (lv_at hl 3 rfl) ?_
        refine lv_iconst (v := (1 : Int32)) hC.1 hC.2.1 dX1_winningMove_30 (by decide) ?_
        refine lv_ixor hC.1 hC.2.1 dX1_winningMove_31 ?_
        obtain ⟨r10, M11, h9, hF⟩ := ob2S hF
        refine k_Vi (As := [.int (x2 ^^^ (1 : Int32))]) (rest := []) hC hw (c_X1_makes (M := M8) h9) RC_G yv_X1_makes q3_228 ⟨rfl, rfl⟩ ⟨Nat.le_of_ble_eq_true rfl, Nat.le_of_ble_eq_true rfl⟩ ⟨Nat.zero_le _, Nat.zero_le _⟩ rfl rfl (Nat.le_of_ble_eq_true rfl) hl dX1_winningMove_32 (fun H locs hw => ?_)
        refine lv_pop hC.1 hC.2.1 dX1_winningMove_35 rfl ?_
        refine lv_iload_n hC.1 hC.2.1 dX1_winningMove_36 rfl (lv_at hl 0 rfl) ?_
        refine lv_if_eq (tgt := 42) hC.1 hC.2.1 dX1_winningMove_37 (by decide) (fun b12 => ?_) (fun b12 => ?_)
        · have hF := ifP hF b12
          refine lv_iinc (v := (x2 + (1 : Int32))) (lv' := [(2, .int (x2 + (1 : Int32))), (3, .int r7), (0, .ref (ad G 74)), (1, .int x1)]) hC.1 hC.2.1 dX1_winningMove_42 hl (k := 3) rfl rfl (by decide) rfl (fun ls hl => ?_)
          refine lv_goto (tgt := 2) hC.1 hC.2.1 dX1_winningMove_45 (by decide) ?_
          exact ih hF hw (lv_sub hl [2, 3, 0] rfl)
        · have hF := ifN hF b12
          refine lv_iload_n hC.1 hC.2.1 dX1_winningMove_40 rfl (lv_at hl 3 rfl) ?_
          exact r_iretE hC hw hF dX1_winningMove_41
def F_X1_winningMove (fu : Nat) (M : Mm) (x1 : Int32) : Option (Int32 × Mm) :=
  F_X1_winningMove_2 fu fu M x1 (0 : Int32)
set_option maxRecDepth 100000 in
set_option maxHeartbeats 4000000 in
theorem c_X1_winningMove {l : Launch} {G : Gv} {fu : Nat} {M : Mm} {x1 : Int32} {r : Int32} {M' : Mm} (hF : F_X1_winningMove fu M x1 = some (r, M')) : Met l yX1_winningMove (.code yX1_winningMove cX1_winningMove 4 (some .int) :: zU) rm_X1_winningMove (va_Pc [.ref (ad G 74), .int x1] (Wd G M)) (QI G r M') 0 0 (zA G) := by
  refine zMet (by decide) rfl (Nat.le_of_ble_eq_true rfl) ?_
  intro p e s m below meth c hC hw ls hl
  have hl : lv_has ls 4 [(0, .ref (ad G 74)), (1, .int x1)] := hl
  unfold F_X1_winningMove at hF
  refine lv_iconst (v := (0 : Int32)) hC.1 hC.2.1 dX1_winningMove_0 (by decide) ?_
  refine lv_istore_n (lv' := [(2, .int (0 : Int32)), (0, .ref (ad G 74)), (1, .int x1)]) hC.1 hC.2.1 dX1_winningMove_1 rfl hl (by decide) rfl (fun ls hl => ?_)
  exact w_X1_winningMove_2 hC _ hF hw (lv_sub hl [1, 2, 0] rfl)
abbrev rm_X6_writeAll : Room := { frames := 0, cells := 0, slots := 0, locals := 0 }
theorem ys_X6_writeAll : YS yX6_writeAll cX6_writeAll 3 none 2 := ⟨⟨q2_133, q1_1, q2_134⟩, by decide +kernel⟩
theorem dX6_writeAll_0 : decode cX6_writeAll 0 = .ok (.iconst 0, 1) := by decide +kernel
theorem dX6_writeAll_1 : decode cX6_writeAll 1 = .ok (.istore_n 2, 1) := by decide +kernel
theorem dX6_writeAll_2 : decode cX6_writeAll 2 = .ok (.iload_n 2, 1) := by decide +kernel
theorem dX6_writeAll_3 : decode cX6_writeAll 3 = .ok (.aload_n 0, 1) := by decide +kernel
theorem dX6_writeAll_4 : decode cX6_writeAll 4 = .ok (.arraylength, 1) := by decide +kernel
theorem dX6_writeAll_5 : decode cX6_writeAll 5 = .ok (.if_icmp .ge 21, 3) := by decide +kernel
theorem dX6_writeAll_8 : decode cX6_writeAll 8 = .ok (.iload_n 2, 1) := by decide +kernel
theorem dX6_writeAll_9 : decode cX6_writeAll 9 = .ok (.aload_n 1, 1) := by decide +kernel
theorem dX6_writeAll_10 : decode cX6_writeAll 10 = .ok (.arraylength, 1) := by decide +kernel
theorem dX6_writeAll_11 : decode cX6_writeAll 11 = .ok (.if_icmp .ge 15, 3) := by decide +kernel
theorem dX6_writeAll_14 : decode cX6_writeAll 14 = .ok (.aload_n 0, 1) := by decide +kernel
theorem dX6_writeAll_15 : decode cX6_writeAll 15 = .ok (.iload_n 2, 1) := by decide +kernel
theorem dX6_writeAll_16 : decode cX6_writeAll 16 = .ok (.aload_n 1, 1) := by decide +kernel
theorem dX6_writeAll_17 : decode cX6_writeAll 17 = .ok (.iload_n 2, 1) := by decide +kernel
theorem dX6_writeAll_18 : decode cX6_writeAll 18 = .ok (.iaload, 1) := by decide +kernel
theorem dX6_writeAll_19 : decode cX6_writeAll 19 = .ok (.iastore, 1) := by decide +kernel
theorem dX6_writeAll_20 : decode cX6_writeAll 20 = .ok (.iinc 2 1, 3) := by decide +kernel
theorem dX6_writeAll_23 : decode cX6_writeAll 23 = .ok (.goto (-21), 3) := by decide +kernel
theorem dX6_writeAll_26 : decode cX6_writeAll 26 = .ok (.return_, 1) := by decide +kernel
def F_X6_writeAll_2 (fu : Nat) : Nat → Mm → Nat → Nat → Int32 → Option Mm
  | 0, _, _, _, _ => none
  | n + 1, M, c0, c1, x2 =>
    if (nI (ln c0)) ≤ x2 then
      some M
    else
      if (nI (ln c1)) ≤ x2 then
        some M
      else
        if x2 < 0 ∨ ln c1 ≤ x2.toNatClampNeg then none else (
        if x2 < 0 ∨ ln c0 ≤ x2.toNatClampNeg then none else (
        lt1 (pI M c0 x2.toNatClampNeg (M.1 c1 x2.toNatClampNeg)) (fun M5 =>
        F_X6_writeAll_2 fu n M5 c0 c1 (x2 + (1 : Int32)))))
set_option maxRecDepth 100000 in
set_option maxHeartbeats 4000000 in
theorem w_X6_writeAll_2 {p : Program} {l : Launch} {e : Env} {s : State} {m : MethodId} {args : Array Value} {below : List Frame} {meth : Method} {c : Code} {G : Gv} (hC : Cx p s m args meth c cX6_writeAll 3 none RX6) {fu : Nat} {M' : Mm} : ∀ (n : Nat) {c0 : Nat} {c1 : Nat} {x2 : Int32} {M : Mm} {H : Heap} {locs : List Loc} {ls : Array Slot} (hk0 : kd c0 = 1) (hk1 : kd c1 = 1), F_X6_writeAll_2 fu n M c0 c1 x2 = some M' → St G s H locs M → lv_has ls 3 [(0, .ref (ad G c0)), (1, .ref (ad G c1)), (2, .int x2)] → W p l e rm_X6_writeAll s m args below meth c H locs 0 0 (MQ below (QV G M') args s 0 0 (zA G)) (F0 m 2 ls []) := by
  intro n
  induction n with
  | zero =>
    intro c0 c1 x2 M H locs ls hk0 hk1 hF hw hl
    cases hF
  | succ n ih =>
    intro c0 c1 x2 M H locs ls hk0 hk1 hF hw hl
    unfold F_X6_writeAll_2 at hF
    refine lv_iload_n hC.1 hC.2.1 dX6_writeAll_2 rfl (lv_at hl 2 rfl) ?_
    refine lv_aload_n hC.1 hC.2.1 dX6_writeAll_3 rfl (lv_at hl 0 rfl) ?_
    refine r_alenI hC.1 hC.2.1 hw hk0 dX6_writeAll_4 ?_
    refine lv_icmp_ge (tgt := 26) hC.1 hC.2.1 dX6_writeAll_5 (by decide) (fun b1 => ?_) (fun b1 => ?_)
    · have hF := ifP hF b1
      exact r_vretE hC hw hF dX6_writeAll_26
    · have hF := ifN hF b1
      refine lv_iload_n hC.1 hC.2.1 dX6_writeAll_8 rfl (lv_at hl 2 rfl) ?_
      refine lv_aload_n hC.1 hC.2.1 dX6_writeAll_9 rfl (lv_at hl 1 rfl) ?_
      refine r_alenI hC.1 hC.2.1 hw hk1 dX6_writeAll_10 ?_
      refine lv_icmp_ge (tgt := 26) hC.1 hC.2.1 dX6_writeAll_11 (by decide) (fun b2 => ?_) (fun b2 => ?_)
      · have hF := ifP hF b2
        exact r_vretE hC hw hF dX6_writeAll_26
      · have hF := ifN hF b2
        refine lv_aload_n hC.1 hC.2.1 dX6_writeAll_14 rfl (lv_at hl 0 rfl) ?_
        refine lv_iload_n hC.1 hC.2.1 dX6_writeAll_15 rfl (lv_at hl 2 rfl) ?_
        refine lv_aload_n hC.1 hC.2.1 dX6_writeAll_16 rfl (lv_at hl 1 rfl) ?_
        refine lv_iload_n hC.1 hC.2.1 dX6_writeAll_17 rfl (lv_at hl 2 rfl) ?_
        obtain ⟨n3, hF⟩ := ifO hF
        refine r_iald hC.1 hC.2.1 hw hk1 n3 dX6_writeAll_18 ?_
        obtain ⟨n4, hF⟩ := ifO hF
        refine r_iast hC.1 hC.2.1 hw hk0 n4 dX6_writeAll_19 (fun H locs hw => ?_)
        obtain ⟨M5, hw, hF⟩ := lt1W hF hw
        refine lv_iinc (v := (x2 + (1 : Int32))) (lv' := [(2, .int (x2 + (1 : Int32))), (0, .ref (ad G c0)), (1, .ref (ad G c1))]) hC.1 hC.2.1 dX6_writeAll_20 hl (k := 2) rfl rfl (by decide) rfl (fun ls hl => ?_)
        refine lv_goto (tgt := 2) hC.1 hC.2.1 dX6_writeAll_23 (by decide) ?_
        exact ih hk0 hk1 hF hw (lv_sub hl [1, 2, 0] rfl)
def F_X6_writeAll (fu : Nat) (M : Mm) (c0 : Nat) (c1 : Nat) : Option Mm :=
  F_X6_writeAll_2 fu fu M c0 c1 (0 : Int32)
set_option maxRecDepth 100000 in
set_option maxHeartbeats 4000000 in
theorem c_X6_writeAll {l : Launch} {G : Gv} {fu : Nat} {M : Mm} {c0 : Nat} {c1 : Nat} (hk0 : kd c0 = 1) (hk1 : kd c1 = 1) {M' : Mm} (hF : F_X6_writeAll fu M c0 c1 = some M') : Met l yX6_writeAll (.code yX6_writeAll cX6_writeAll 3 none :: zU) rm_X6_writeAll (va_Pc [.ref (ad G c0), .ref (ad G c1)] (Wd G M)) (QV G M') 0 0 (zA G) := by
  refine zMet (by decide) rfl (Nat.le_of_ble_eq_true rfl) ?_
  intro p e s m below meth c hC hw ls hl
  have hl : lv_has ls 3 [(0, .ref (ad G c0)), (1, .ref (ad G c1))] := hl
  unfold F_X6_writeAll at hF
  refine lv_iconst (v := (0 : Int32)) hC.1 hC.2.1 dX6_writeAll_0 (by decide) ?_
  refine lv_istore_n (lv' := [(2, .int (0 : Int32)), (0, .ref (ad G c0)), (1, .ref (ad G c1))]) hC.1 hC.2.1 dX6_writeAll_1 rfl hl (by decide) rfl (fun ls hl => ?_)
  exact w_X6_writeAll_2 hC _ hk0 hk1 hF hw (lv_sub hl [1, 2, 0] rfl)
abbrev rm_X2_restart : Room := { frames := 1, cells := 0, slots := 0, locals := 22 }
theorem yv_X2_restart : YV yX2_restart cX2_restart 1 none 0 RX2 := ⟨⟨q2_137, qs_8, q1_2, q2_138⟩, by decide +kernel⟩
theorem dX2_restart_0 : decode cX2_restart 0 = .ok (.aload_n 0, 1) := by decide +kernel
theorem dX2_restart_1 : decode cX2_restart 1 = .ok (.iconst 0, 1) := by decide +kernel
theorem dX2_restart_2 : decode cX2_restart 2 = .ok (.putfield 70, 3) := by decide +kernel
theorem dX2_restart_5 : decode cX2_restart 5 = .ok (.aload_n 0, 1) := by decide +kernel
theorem dX2_restart_6 : decode cX2_restart 6 = .ok (.getfield 21, 3) := by decide +kernel
theorem dX2_restart_9 : decode cX2_restart 9 = .ok (.aload_n 0, 1) := by decide +kernel
theorem dX2_restart_10 : decode cX2_restart 10 = .ok (.getfield 27, 3) := by decide +kernel
theorem dX2_restart_13 : decode cX2_restart 13 = .ok (.invokestatic 56, 3) := by decide +kernel
theorem dX2_restart_16 : decode cX2_restart 16 = .ok (.aload_n 0, 1) := by decide +kernel
theorem dX2_restart_17 : decode cX2_restart 17 = .ok (.getfield 24, 3) := by decide +kernel
theorem dX2_restart_20 : decode cX2_restart 20 = .ok (.aload_n 0, 1) := by decide +kernel
theorem dX2_restart_21 : decode cX2_restart 21 = .ok (.getfield 30, 3) := by decide +kernel
theorem dX2_restart_24 : decode cX2_restart 24 = .ok (.invokestatic 56, 3) := by decide +kernel
theorem dX2_restart_27 : decode cX2_restart 27 = .ok (.return_, 1) := by decide +kernel
def F_X2_restart (fu : Nat) (M : Mm) (c0 : Nat) : Option Mm :=
  lt1 (pI M c0 2 (0 : Int32)) (fun M1 =>
  ob1 (F_X6_writeAll fu M1 (c0 + 4) (c0 + 6)) (fun M3 =>
  ob1 (F_X6_writeAll fu M3 (c0 + 5) (c0 + 7)) (fun M5 =>
  some M5)))
set_option maxRecDepth 100000 in
set_option maxHeartbeats 4000000 in
theorem c_X2_restart {l : Launch} {G : Gv} {fu : Nat} {M : Mm} {c0 : Nat} (hk0 : kd c0 = 11) {M' : Mm} (hF : F_X2_restart fu M c0 = some M') : Met l yX2_restart (.code yX2_restart cX2_restart 1 none :: zU) rm_X2_restart (va_Pc [.ref (ad G c0)] (Wd G M)) (QV G M') 0 0 (zA G) := by
  refine zMet (by decide) rfl (Nat.le_of_ble_eq_true rfl) ?_
  intro p e s m below meth c hC hw ls hl
  have hl : lv_has ls 1 [(0, .ref (ad G c0))] := hl
  unfold F_X2_restart at hF
  refine lv_aload_n hC.1 hC.2.1 dX2_restart_0 rfl (lv_at hl 0 rfl) ?_
  refine lv_iconst (v := (0 : Int32)) hC.1 hC.2.1 dX2_restart_1 (by decide) ?_
  refine u2_today hC hw hk0 q1_35 dX2_restart_2 (fun H locs hw => ?_)
  obtain ⟨M1, hw, hF⟩ := lt1W hF hw
  refine lv_aload_n hC.1 hC.2.1 dX2_restart_5 rfl (lv_at hl 0 rfl) ?_
  refine g2_bulkOf hC hw hk0 q1_43 dX2_restart_6 ?_
  refine lv_aload_n hC.1 hC.2.1 dX2_restart_9 rfl (lv_at hl 0 rfl) ?_
  refine g2_firstBulkOf hC hw hk0 q1_49 dX2_restart_10 ?_
  obtain ⟨M3, h2, hF⟩ := ob1S hF
  refine k_Nv (As := [.ref (ad G (c0 + 4)), .ref (ad G (c0 + 6))]) (rest := []) hC hw (c_X6_writeAll (M := M1) (kdN4 hk0) (kdN6 hk0) h2) ys_X6_writeAll (k := 9) rfl ⟨rfl, rfl⟩ ⟨Nat.le_of_ble_eq_true rfl, Nat.le_of_ble_eq_true rfl⟩ ⟨Nat.zero_le _, Nat.zero_le _⟩ rfl rfl (Nat.le_of_ble_eq_true rfl) hl dX2_restart_13 (fun H locs hw => ?_)
  refine lv_aload_n hC.1 hC.2.1 dX2_restart_16 rfl (lv_at hl 0 rfl) ?_
  refine g2_shadeOf hC hw hk0 q1_46 dX2_restart_17 ?_
  refine lv_aload_n hC.1 hC.2.1 dX2_restart_20 rfl (lv_at hl 0 rfl) ?_
  refine g2_firstShadeOf hC hw hk0 q1_50 dX2_restart_21 ?_
  obtain ⟨M5, h4, hF⟩ := ob1S hF
  refine k_Nv (As := [.ref (ad G (c0 + 5)), .ref (ad G (c0 + 7))]) (rest := []) hC hw (c_X6_writeAll (M := M3) (kdN5 hk0) (kdN7 hk0) h4) ys_X6_writeAll (k := 9) rfl ⟨rfl, rfl⟩ ⟨Nat.le_of_ble_eq_true rfl, Nat.le_of_ble_eq_true rfl⟩ ⟨Nat.zero_le _, Nat.zero_le _⟩ rfl rfl (Nat.le_of_ble_eq_true rfl) hl dX2_restart_24 (fun H locs hw => ?_)
  exact r_vretE hC hw hF dX2_restart_27
abbrev rm_X2_settle : Room := { frames := 2, cells := 0, slots := 0, locals := 42 }
theorem yv_X2_settle : YV yX2_settle cX2_settle 2 none 1 RX2 := ⟨⟨q2_129, q2_130, q1_2, q2_131⟩, by decide +kernel⟩
theorem dX2_settle_0 : decode cX2_settle 0 = .ok (.aload_n 0, 1) := by decide +kernel
theorem dX2_settle_1 : decode cX2_settle 1 = .ok (.aload_n 1, 1) := by decide +kernel
theorem dX2_settle_2 : decode cX2_settle 2 = .ok (.getfield 42, 3) := by decide +kernel
theorem dX2_settle_5 : decode cX2_settle 5 = .ok (.putfield 48, 3) := by decide +kernel
theorem dX2_settle_8 : decode cX2_settle 8 = .ok (.aload_n 0, 1) := by decide +kernel
theorem dX2_settle_9 : decode cX2_settle 9 = .ok (.aload_n 1, 1) := by decide +kernel
theorem dX2_settle_10 : decode cX2_settle 10 = .ok (.getfield 49, 3) := by decide +kernel
theorem dX2_settle_13 : decode cX2_settle 13 = .ok (.putfield 52, 3) := by decide +kernel
theorem dX2_settle_16 : decode cX2_settle 16 = .ok (.aload_n 0, 1) := by decide +kernel
theorem dX2_settle_17 : decode cX2_settle 17 = .ok (.getfield 9, 3) := by decide +kernel
theorem dX2_settle_20 : decode cX2_settle 20 = .ok (.aload_n 1, 1) := by decide +kernel
theorem dX2_settle_21 : decode cX2_settle 21 = .ok (.getfield 55, 3) := by decide +kernel
theorem dX2_settle_24 : decode cX2_settle 24 = .ok (.invokestatic 56, 3) := by decide +kernel
theorem dX2_settle_27 : decode cX2_settle 27 = .ok (.aload_n 0, 1) := by decide +kernel
theorem dX2_settle_28 : decode cX2_settle 28 = .ok (.getfield 15, 3) := by decide +kernel
theorem dX2_settle_31 : decode cX2_settle 31 = .ok (.aload_n 1, 1) := by decide +kernel
theorem dX2_settle_32 : decode cX2_settle 32 = .ok (.getfield 60, 3) := by decide +kernel
theorem dX2_settle_35 : decode cX2_settle 35 = .ok (.invokestatic 56, 3) := by decide +kernel
theorem dX2_settle_38 : decode cX2_settle 38 = .ok (.aload_n 0, 1) := by decide +kernel
theorem dX2_settle_39 : decode cX2_settle 39 = .ok (.getfield 18, 3) := by decide +kernel
theorem dX2_settle_42 : decode cX2_settle 42 = .ok (.aload_n 1, 1) := by decide +kernel
theorem dX2_settle_43 : decode cX2_settle 43 = .ok (.getfield 61, 3) := by decide +kernel
theorem dX2_settle_46 : decode cX2_settle 46 = .ok (.invokestatic 56, 3) := by decide +kernel
theorem dX2_settle_49 : decode cX2_settle 49 = .ok (.aload_n 0, 1) := by decide +kernel
theorem dX2_settle_50 : decode cX2_settle 50 = .ok (.getfield 27, 3) := by decide +kernel
theorem dX2_settle_53 : decode cX2_settle 53 = .ok (.aload_n 1, 1) := by decide +kernel
theorem dX2_settle_54 : decode cX2_settle 54 = .ok (.getfield 62, 3) := by decide +kernel
theorem dX2_settle_57 : decode cX2_settle 57 = .ok (.invokestatic 56, 3) := by decide +kernel
theorem dX2_settle_60 : decode cX2_settle 60 = .ok (.aload_n 0, 1) := by decide +kernel
theorem dX2_settle_61 : decode cX2_settle 61 = .ok (.getfield 30, 3) := by decide +kernel
theorem dX2_settle_64 : decode cX2_settle 64 = .ok (.aload_n 1, 1) := by decide +kernel
theorem dX2_settle_65 : decode cX2_settle 65 = .ok (.getfield 63, 3) := by decide +kernel
theorem dX2_settle_68 : decode cX2_settle 68 = .ok (.invokestatic 56, 3) := by decide +kernel
theorem dX2_settle_71 : decode cX2_settle 71 = .ok (.aload_n 0, 1) := by decide +kernel
theorem dX2_settle_72 : decode cX2_settle 72 = .ok (.iconst 0, 1) := by decide +kernel
theorem dX2_settle_73 : decode cX2_settle 73 = .ok (.putfield 64, 3) := by decide +kernel
theorem dX2_settle_76 : decode cX2_settle 76 = .ok (.aload_n 0, 1) := by decide +kernel
theorem dX2_settle_77 : decode cX2_settle 77 = .ok (.invokevirtual 67, 3) := by decide +kernel
theorem dX2_settle_80 : decode cX2_settle 80 = .ok (.return_, 1) := by decide +kernel
def F_X2_settle (fu : Nat) (M : Mm) (c0 : Nat) : Option Mm :=
  lt1 (pI M c0 0 (M.1 68 1)) (fun M1 =>
  lt1 (pI M1 c0 1 (M1.1 68 2)) (fun M2 =>
  ob1 (F_X6_writeAll fu M2 (c0 + 1) 69) (fun M4 =>
  ob1 (F_X6_writeAll fu M4 (c0 + 2) 70) (fun M6 =>
  ob1 (F_X6_writeAll fu M6 (c0 + 3) 73) (fun M8 =>
  ob1 (F_X6_writeAll fu M8 (c0 + 6) 71) (fun M10 =>
  ob1 (F_X6_writeAll fu M10 (c0 + 7) 72) (fun M12 =>
  lt1 (pI M12 c0 3 (0 : Int32)) (fun M13 =>
  ob1 (F_X2_restart fu M13 c0) (fun M15 =>
  some M15)))))))))
set_option maxRecDepth 100000 in
set_option maxHeartbeats 4000000 in
theorem c_X2_settle {l : Launch} {G : Gv} {fu : Nat} {M : Mm} {c0 : Nat} (hk0 : kd c0 = 11) {M' : Mm} (hF : F_X2_settle fu M c0 = some M') : Met l yX2_settle (.code yX2_settle cX2_settle 2 none :: zU) rm_X2_settle (va_Pc [.ref (ad G c0), .ref (ad G 68)] (Wd G M)) (QV G M') 0 0 (zA G) := by
  refine zMet (by decide) rfl (Nat.le_of_ble_eq_true rfl) ?_
  intro p e s m below meth c hC hw ls hl
  have hl : lv_has ls 2 [(0, .ref (ad G c0)), (1, .ref (ad G 68))] := hl
  unfold F_X2_settle at hF
  refine lv_aload_n hC.1 hC.2.1 dX2_settle_0 rfl (lv_at hl 0 rfl) ?_
  refine lv_aload_n hC.1 hC.2.1 dX2_settle_1 rfl (lv_at hl 1 rfl) ?_
  refine g3_men hC hw q1_92 dX2_settle_2 ?_
  refine u2_men hC hw hk0 q1_31 dX2_settle_5 (fun H locs hw => ?_)
  obtain ⟨M1, hw, hF⟩ := lt1W hF hw
  refine lv_aload_n hC.1 hC.2.1 dX2_settle_8 rfl (lv_at hl 0 rfl) ?_
  refine lv_aload_n hC.1 hC.2.1 dX2_settle_9 rfl (lv_at hl 1 rfl) ?_
  refine g3_right hC hw q1_94 dX2_settle_10 ?_
  refine u2_rightNow hC hw hk0 q1_33 dX2_settle_13 (fun H locs hw => ?_)
  obtain ⟨M2, hw, hF⟩ := lt1W hF hw
  refine lv_aload_n hC.1 hC.2.1 dX2_settle_16 rfl (lv_at hl 0 rfl) ?_
  refine g2_suns hC hw hk0 q1_39 dX2_settle_17 ?_
  refine lv_aload_n hC.1 hC.2.1 dX2_settle_20 rfl (lv_at hl 1 rfl) ?_
  refine g3_suns hC hw q1_97 dX2_settle_21 ?_
  obtain ⟨M4, h3, hF⟩ := ob1S hF
  refine k_Nv (As := [.ref (ad G (c0 + 1)), .ref (ad G 69)]) (rest := []) hC hw (c_X6_writeAll (M := M2) (kdN1 hk0) (rfl : kd 69 = 1) h3) ys_X6_writeAll (k := 9) rfl ⟨rfl, rfl⟩ ⟨Nat.le_of_ble_eq_true rfl, Nat.le_of_ble_eq_true rfl⟩ ⟨Nat.zero_le _, Nat.zero_le _⟩ rfl rfl (Nat.le_of_ble_eq_true rfl) hl dX2_settle_24 (fun H locs hw => ?_)
  refine lv_aload_n hC.1 hC.2.1 dX2_settle_27 rfl (lv_at hl 0 rfl) ?_
  refine g2_kindOf hC hw hk0 q1_40 dX2_settle_28 ?_
  refine lv_aload_n hC.1 hC.2.1 dX2_settle_31 rfl (lv_at hl 1 rfl) ?_
  refine g3_kindOf hC hw q1_99 dX2_settle_32 ?_
  obtain ⟨M6, h5, hF⟩ := ob1S hF
  refine k_Nv (As := [.ref (ad G (c0 + 2)), .ref (ad G 70)]) (rest := []) hC hw (c_X6_writeAll (M := M4) (kdN2 hk0) (rfl : kd 70 = 1) h5) ys_X6_writeAll (k := 9) rfl ⟨rfl, rfl⟩ ⟨Nat.le_of_ble_eq_true rfl, Nat.le_of_ble_eq_true rfl⟩ ⟨Nat.zero_le _, Nat.zero_le _⟩ rfl rfl (Nat.le_of_ble_eq_true rfl) hl dX2_settle_35 (fun H locs hw => ?_)
  refine lv_aload_n hC.1 hC.2.1 dX2_settle_38 rfl (lv_at hl 0 rfl) ?_
  refine g2_voteOf hC hw hk0 q1_42 dX2_settle_39 ?_
  refine lv_aload_n hC.1 hC.2.1 dX2_settle_42 rfl (lv_at hl 1 rfl) ?_
  refine g3_voteOf hC hw q1_105 dX2_settle_43 ?_
  obtain ⟨M8, h7, hF⟩ := ob1S hF
  refine k_Nv (As := [.ref (ad G (c0 + 3)), .ref (ad G 73)]) (rest := []) hC hw (c_X6_writeAll (M := M6) (kdN3 hk0) (rfl : kd 73 = 1) h7) ys_X6_writeAll (k := 9) rfl ⟨rfl, rfl⟩ ⟨Nat.le_of_ble_eq_true rfl, Nat.le_of_ble_eq_true rfl⟩ ⟨Nat.zero_le _, Nat.zero_le _⟩ rfl rfl (Nat.le_of_ble_eq_true rfl) hl dX2_settle_46 (fun H locs hw => ?_)
  refine lv_aload_n hC.1 hC.2.1 dX2_settle_49 rfl (lv_at hl 0 rfl) ?_
  refine g2_firstBulkOf hC hw hk0 q1_49 dX2_settle_50 ?_
  refine lv_aload_n hC.1 hC.2.1 dX2_settle_53 rfl (lv_at hl 1 rfl) ?_
  refine g3_bulkOf hC hw q1_101 dX2_settle_54 ?_
  obtain ⟨M10, h9, hF⟩ := ob1S hF
  refine k_Nv (As := [.ref (ad G (c0 + 6)), .ref (ad G 71)]) (rest := []) hC hw (c_X6_writeAll (M := M8) (kdN6 hk0) (rfl : kd 71 = 1) h9) ys_X6_writeAll (k := 9) rfl ⟨rfl, rfl⟩ ⟨Nat.le_of_ble_eq_true rfl, Nat.le_of_ble_eq_true rfl⟩ ⟨Nat.zero_le _, Nat.zero_le _⟩ rfl rfl (Nat.le_of_ble_eq_true rfl) hl dX2_settle_57 (fun H locs hw => ?_)
  refine lv_aload_n hC.1 hC.2.1 dX2_settle_60 rfl (lv_at hl 0 rfl) ?_
  refine g2_firstShadeOf hC hw hk0 q1_50 dX2_settle_61 ?_
  refine lv_aload_n hC.1 hC.2.1 dX2_settle_64 rfl (lv_at hl 1 rfl) ?_
  refine g3_shadeOf hC hw q1_103 dX2_settle_65 ?_
  obtain ⟨M12, h11, hF⟩ := ob1S hF
  refine k_Nv (As := [.ref (ad G (c0 + 7)), .ref (ad G 72)]) (rest := []) hC hw (c_X6_writeAll (M := M10) (kdN7 hk0) (rfl : kd 72 = 1) h11) ys_X6_writeAll (k := 9) rfl ⟨rfl, rfl⟩ ⟨Nat.le_of_ble_eq_true rfl, Nat.le_of_ble_eq_true rfl⟩ ⟨Nat.zero_le _, Nat.zero_le _⟩ rfl rfl (Nat.le_of_ble_eq_true rfl) hl dX2_settle_68 (fun H locs hw => ?_)
  refine lv_aload_n hC.1 hC.2.1 dX2_settle_71 rfl (lv_at hl 0 rfl) ?_
  refine lv_iconst (v := (0 : Int32)) hC.1 hC.2.1 dX2_settle_72 (by decide) ?_
  refine u2_deeds hC hw hk0 q1_37 dX2_settle_73 (fun H locs hw => ?_)
  obtain ⟨M13, hw, hF⟩ := lt1W hF hw
  refine lv_aload_n hC.1 hC.2.1 dX2_settle_76 rfl (lv_at hl 0 rfl) ?_
  obtain ⟨M15, h14, hF⟩ := ob1S hF
  refine k_Vv (As := []) (rest := []) hC hw (c_X2_restart (M := M13) hk0 h14) (RC_N hk0) yv_X2_restart q2_135 ⟨rfl, rfl⟩ ⟨Nat.le_of_ble_eq_true rfl, Nat.le_of_ble_eq_true rfl⟩ ⟨Nat.zero_le _, Nat.zero_le _⟩ rfl rfl (Nat.le_of_ble_eq_true rfl) hl dX2_settle_77 (fun H locs hw => ?_)
  exact r_vretE hC hw hF dX2_settle_80
abbrev rm_X2_become : Room := { frames := 1, cells := 0, slots := 0, locals := 22 }
theorem yv_X2_become : YV yX2_become cX2_become 2 none 1 RX2 := ⟨⟨q3_42, q3_43, q1_2, q3_44⟩, by decide +kernel⟩
theorem dX2_become_0 : decode cX2_become 0 = .ok (.aload_n 0, 1) := by decide +kernel
theorem dX2_become_1 : decode cX2_become 1 = .ok (.aload_n 1, 1) := by decide +kernel
theorem dX2_become_2 : decode cX2_become 2 = .ok (.getfield 48, 3) := by decide +kernel
theorem dX2_become_5 : decode cX2_become 5 = .ok (.putfield 48, 3) := by decide +kernel
theorem dX2_become_8 : decode cX2_become 8 = .ok (.aload_n 0, 1) := by decide +kernel
theorem dX2_become_9 : decode cX2_become 9 = .ok (.aload_n 1, 1) := by decide +kernel
theorem dX2_become_10 : decode cX2_become 10 = .ok (.getfield 52, 3) := by decide +kernel
theorem dX2_become_13 : decode cX2_become 13 = .ok (.putfield 52, 3) := by decide +kernel
theorem dX2_become_16 : decode cX2_become 16 = .ok (.aload_n 0, 1) := by decide +kernel
theorem dX2_become_17 : decode cX2_become 17 = .ok (.aload_n 1, 1) := by decide +kernel
theorem dX2_become_18 : decode cX2_become 18 = .ok (.getfield 70, 3) := by decide +kernel
theorem dX2_become_21 : decode cX2_become 21 = .ok (.putfield 70, 3) := by decide +kernel
theorem dX2_become_24 : decode cX2_become 24 = .ok (.aload_n 0, 1) := by decide +kernel
theorem dX2_become_25 : decode cX2_become 25 = .ok (.aload_n 1, 1) := by decide +kernel
theorem dX2_become_26 : decode cX2_become 26 = .ok (.getfield 64, 3) := by decide +kernel
theorem dX2_become_29 : decode cX2_become 29 = .ok (.putfield 64, 3) := by decide +kernel
theorem dX2_become_32 : decode cX2_become 32 = .ok (.aload_n 0, 1) := by decide +kernel
theorem dX2_become_33 : decode cX2_become 33 = .ok (.getfield 9, 3) := by decide +kernel
theorem dX2_become_36 : decode cX2_become 36 = .ok (.aload_n 1, 1) := by decide +kernel
theorem dX2_become_37 : decode cX2_become 37 = .ok (.getfield 9, 3) := by decide +kernel
theorem dX2_become_40 : decode cX2_become 40 = .ok (.invokestatic 56, 3) := by decide +kernel
theorem dX2_become_43 : decode cX2_become 43 = .ok (.aload_n 0, 1) := by decide +kernel
theorem dX2_become_44 : decode cX2_become 44 = .ok (.getfield 15, 3) := by decide +kernel
theorem dX2_become_47 : decode cX2_become 47 = .ok (.aload_n 1, 1) := by decide +kernel
theorem dX2_become_48 : decode cX2_become 48 = .ok (.getfield 15, 3) := by decide +kernel
theorem dX2_become_51 : decode cX2_become 51 = .ok (.invokestatic 56, 3) := by decide +kernel
theorem dX2_become_54 : decode cX2_become 54 = .ok (.aload_n 0, 1) := by decide +kernel
theorem dX2_become_55 : decode cX2_become 55 = .ok (.getfield 18, 3) := by decide +kernel
theorem dX2_become_58 : decode cX2_become 58 = .ok (.aload_n 1, 1) := by decide +kernel
theorem dX2_become_59 : decode cX2_become 59 = .ok (.getfield 18, 3) := by decide +kernel
theorem dX2_become_62 : decode cX2_become 62 = .ok (.invokestatic 56, 3) := by decide +kernel
theorem dX2_become_65 : decode cX2_become 65 = .ok (.aload_n 0, 1) := by decide +kernel
theorem dX2_become_66 : decode cX2_become 66 = .ok (.getfield 21, 3) := by decide +kernel
theorem dX2_become_69 : decode cX2_become 69 = .ok (.aload_n 1, 1) := by decide +kernel
theorem dX2_become_70 : decode cX2_become 70 = .ok (.getfield 21, 3) := by decide +kernel
theorem dX2_become_73 : decode cX2_become 73 = .ok (.invokestatic 56, 3) := by decide +kernel
theorem dX2_become_76 : decode cX2_become 76 = .ok (.aload_n 0, 1) := by decide +kernel
theorem dX2_become_77 : decode cX2_become 77 = .ok (.getfield 24, 3) := by decide +kernel
theorem dX2_become_80 : decode cX2_become 80 = .ok (.aload_n 1, 1) := by decide +kernel
theorem dX2_become_81 : decode cX2_become 81 = .ok (.getfield 24, 3) := by decide +kernel
theorem dX2_become_84 : decode cX2_become 84 = .ok (.invokestatic 56, 3) := by decide +kernel
theorem dX2_become_87 : decode cX2_become 87 = .ok (.aload_n 0, 1) := by decide +kernel
theorem dX2_become_88 : decode cX2_become 88 = .ok (.getfield 27, 3) := by decide +kernel
theorem dX2_become_91 : decode cX2_become 91 = .ok (.aload_n 1, 1) := by decide +kernel
theorem dX2_become_92 : decode cX2_become 92 = .ok (.getfield 27, 3) := by decide +kernel
theorem dX2_become_95 : decode cX2_become 95 = .ok (.invokestatic 56, 3) := by decide +kernel
theorem dX2_become_98 : decode cX2_become 98 = .ok (.aload_n 0, 1) := by decide +kernel
theorem dX2_become_99 : decode cX2_become 99 = .ok (.getfield 30, 3) := by decide +kernel
theorem dX2_become_102 : decode cX2_become 102 = .ok (.aload_n 1, 1) := by decide +kernel
theorem dX2_become_103 : decode cX2_become 103 = .ok (.getfield 30, 3) := by decide +kernel
theorem dX2_become_106 : decode cX2_become 106 = .ok (.invokestatic 56, 3) := by decide +kernel
theorem dX2_become_109 : decode cX2_become 109 = .ok (.aload_n 0, 1) := by decide +kernel
theorem dX2_become_110 : decode cX2_become 110 = .ok (.getfield 33, 3) := by decide +kernel
theorem dX2_become_113 : decode cX2_become 113 = .ok (.aload_n 1, 1) := by decide +kernel
theorem dX2_become_114 : decode cX2_become 114 = .ok (.getfield 33, 3) := by decide +kernel
theorem dX2_become_117 : decode cX2_become 117 = .ok (.invokestatic 56, 3) := by decide +kernel
theorem dX2_become_120 : decode cX2_become 120 = .ok (.aload_n 0, 1) := by decide +kernel
theorem dX2_become_121 : decode cX2_become 121 = .ok (.getfield 36, 3) := by decide +kernel
theorem dX2_become_124 : decode cX2_become 124 = .ok (.aload_n 1, 1) := by decide +kernel
theorem dX2_become_125 : decode cX2_become 125 = .ok (.getfield 36, 3) := by decide +kernel
theorem dX2_become_128 : decode cX2_become 128 = .ok (.invokestatic 56, 3) := by decide +kernel
theorem dX2_become_131 : decode cX2_become 131 = .ok (.aload_n 0, 1) := by decide +kernel
theorem dX2_become_132 : decode cX2_become 132 = .ok (.getfield 39, 3) := by decide +kernel
theorem dX2_become_135 : decode cX2_become 135 = .ok (.aload_n 1, 1) := by decide +kernel
theorem dX2_become_136 : decode cX2_become 136 = .ok (.getfield 39, 3) := by decide +kernel
theorem dX2_become_139 : decode cX2_become 139 = .ok (.invokestatic 56, 3) := by decide +kernel
theorem dX2_become_142 : decode cX2_become 142 = .ok (.return_, 1) := by decide +kernel
def F_X2_become (fu : Nat) (M : Mm) (c0 : Nat) (c1 : Nat) : Option Mm :=
  lt1 (pI M c0 0 (M.1 c1 0)) (fun M1 =>
  lt1 (pI M1 c0 1 (M1.1 c1 1)) (fun M2 =>
  lt1 (pI M2 c0 2 (M2.1 c1 2)) (fun M3 =>
  lt1 (pI M3 c0 3 (M3.1 c1 3)) (fun M4 =>
  ob1 (F_X6_writeAll fu M4 (c0 + 1) (c1 + 1)) (fun M6 =>
  ob1 (F_X6_writeAll fu M6 (c0 + 2) (c1 + 2)) (fun M8 =>
  ob1 (F_X6_writeAll fu M8 (c0 + 3) (c1 + 3)) (fun M10 =>
  ob1 (F_X6_writeAll fu M10 (c0 + 4) (c1 + 4)) (fun M12 =>
  ob1 (F_X6_writeAll fu M12 (c0 + 5) (c1 + 5)) (fun M14 =>
  ob1 (F_X6_writeAll fu M14 (c0 + 6) (c1 + 6)) (fun M16 =>
  ob1 (F_X6_writeAll fu M16 (c0 + 7) (c1 + 7)) (fun M18 =>
  ob1 (F_X6_writeAll fu M18 (c0 + 8) (c1 + 8)) (fun M20 =>
  ob1 (F_X6_writeAll fu M20 (c0 + 9) (c1 + 9)) (fun M22 =>
  ob1 (F_X6_writeAll fu M22 (c0 + 10) (c1 + 10)) (fun M24 =>
  some M24))))))))))))))
set_option maxRecDepth 100000 in
set_option maxHeartbeats 4000000 in
theorem c_X2_become {l : Launch} {G : Gv} {fu : Nat} {M : Mm} {c0 : Nat} {c1 : Nat} (hk0 : kd c0 = 11) (hk1 : kd c1 = 11) {M' : Mm} (hF : F_X2_become fu M c0 c1 = some M') : Met l yX2_become (.code yX2_become cX2_become 2 none :: zU) rm_X2_become (va_Pc [.ref (ad G c0), .ref (ad G c1)] (Wd G M)) (QV G M') 0 0 (zA G) := by
  refine zMet (by decide) rfl (Nat.le_of_ble_eq_true rfl) ?_
  intro p e s m below meth c hC hw ls hl
  have hl : lv_has ls 2 [(0, .ref (ad G c0)), (1, .ref (ad G c1))] := hl
  unfold F_X2_become at hF
  refine lv_aload_n hC.1 hC.2.1 dX2_become_0 rfl (lv_at hl 0 rfl) ?_
  refine lv_aload_n hC.1 hC.2.1 dX2_become_1 rfl (lv_at hl 1 rfl) ?_
  refine g2_men hC hw hk1 q1_31 dX2_become_2 ?_
  refine u2_men hC hw hk0 q1_31 dX2_become_5 (fun H locs hw => ?_)
  obtain ⟨M1, hw, hF⟩ := lt1W hF hw
  refine lv_aload_n hC.1 hC.2.1 dX2_become_8 rfl (lv_at hl 0 rfl) ?_
  refine lv_aload_n hC.1 hC.2.1 dX2_become_9 rfl (lv_at hl 1 rfl) ?_
  refine g2_rightNow hC hw hk1 q1_33 dX2_become_10 ?_
  refine u2_rightNow hC hw hk0 q1_33 dX2_become_13 (fun H locs hw => ?_)
  obtain ⟨M2, hw, hF⟩ := lt1W hF hw
  refine lv_aload_n hC.1 hC.2.1 dX2_become_16 rfl (lv_at hl 0 rfl) ?_
  refine lv_aload_n hC.1 hC.2.1 dX2_become_17 rfl (lv_at hl 1 rfl) ?_
  refine g2_today hC hw hk1 q1_35 dX2_become_18 ?_
  refine u2_today hC hw hk0 q1_35 dX2_become_21 (fun H locs hw => ?_)
  obtain ⟨M3, hw, hF⟩ := lt1W hF hw
  refine lv_aload_n hC.1 hC.2.1 dX2_become_24 rfl (lv_at hl 0 rfl) ?_
  refine lv_aload_n hC.1 hC.2.1 dX2_become_25 rfl (lv_at hl 1 rfl) ?_
  refine g2_deeds hC hw hk1 q1_37 dX2_become_26 ?_
  refine u2_deeds hC hw hk0 q1_37 dX2_become_29 (fun H locs hw => ?_)
  obtain ⟨M4, hw, hF⟩ := lt1W hF hw
  refine lv_aload_n hC.1 hC.2.1 dX2_become_32 rfl (lv_at hl 0 rfl) ?_
  refine g2_suns hC hw hk0 q1_39 dX2_become_33 ?_
  refine lv_aload_n hC.1 hC.2.1 dX2_become_36 rfl (lv_at hl 1 rfl) ?_
  refine g2_suns hC hw hk1 q1_39 dX2_become_37 ?_
  obtain ⟨M6, h5, hF⟩ := ob1S hF
  refine k_Nv (As := [.ref (ad G (c0 + 1)), .ref (ad G (c1 + 1))]) (rest := []) hC hw (c_X6_writeAll (M := M4) (kdN1 hk0) (kdN1 hk1) h5) ys_X6_writeAll (k := 9) rfl ⟨rfl, rfl⟩ ⟨Nat.le_of_ble_eq_true rfl, Nat.le_of_ble_eq_true rfl⟩ ⟨Nat.zero_le _, Nat.zero_le _⟩ rfl rfl (Nat.le_of_ble_eq_true rfl) hl dX2_become_40 (fun H locs hw => ?_)
  refine lv_aload_n hC.1 hC.2.1 dX2_become_43 rfl (lv_at hl 0 rfl) ?_
  refine g2_kindOf hC hw hk0 q1_40 dX2_become_44 ?_
  refine lv_aload_n hC.1 hC.2.1 dX2_become_47 rfl (lv_at hl 1 rfl) ?_
  refine g2_kindOf hC hw hk1 q1_40 dX2_become_48 ?_
  obtain ⟨M8, h7, hF⟩ := ob1S hF
  refine k_Nv (As := [.ref (ad G (c0 + 2)), .ref (ad G (c1 + 2))]) (rest := []) hC hw (c_X6_writeAll (M := M6) (kdN2 hk0) (kdN2 hk1) h7) ys_X6_writeAll (k := 9) rfl ⟨rfl, rfl⟩ ⟨Nat.le_of_ble_eq_true rfl, Nat.le_of_ble_eq_true rfl⟩ ⟨Nat.zero_le _, Nat.zero_le _⟩ rfl rfl (Nat.le_of_ble_eq_true rfl) hl dX2_become_51 (fun H locs hw => ?_)
  refine lv_aload_n hC.1 hC.2.1 dX2_become_54 rfl (lv_at hl 0 rfl) ?_
  refine g2_voteOf hC hw hk0 q1_42 dX2_become_55 ?_
  refine lv_aload_n hC.1 hC.2.1 dX2_become_58 rfl (lv_at hl 1 rfl) ?_
  refine g2_voteOf hC hw hk1 q1_42 dX2_become_59 ?_
  obtain ⟨M10, h9, hF⟩ := ob1S hF
  refine k_Nv (As := [.ref (ad G (c0 + 3)), .ref (ad G (c1 + 3))]) (rest := []) hC hw (c_X6_writeAll (M := M8) (kdN3 hk0) (kdN3 hk1) h9) ys_X6_writeAll (k := 9) rfl ⟨rfl, rfl⟩ ⟨Nat.le_of_ble_eq_true rfl, Nat.le_of_ble_eq_true rfl⟩ ⟨Nat.zero_le _, Nat.zero_le _⟩ rfl rfl (Nat.le_of_ble_eq_true rfl) hl dX2_become_62 (fun H locs hw => ?_)
  refine lv_aload_n hC.1 hC.2.1 dX2_become_65 rfl (lv_at hl 0 rfl) ?_
  refine g2_bulkOf hC hw hk0 q1_43 dX2_become_66 ?_
  refine lv_aload_n hC.1 hC.2.1 dX2_become_69 rfl (lv_at hl 1 rfl) ?_
  refine g2_bulkOf hC hw hk1 q1_43 dX2_become_70 ?_
  obtain ⟨M12, h11, hF⟩ := ob1S hF
  refine k_Nv (As := [.ref (ad G (c0 + 4)), .ref (ad G (c1 + 4))]) (rest := []) hC hw (c_X6_writeAll (M := M10) (kdN4 hk0) (kdN4 hk1) h11) ys_X6_writeAll (k := 9) rfl ⟨rfl, rfl⟩ ⟨Nat.le_of_ble_eq_true rfl, Nat.le_of_ble_eq_true rfl⟩ ⟨Nat.zero_le _, Nat.zero_le _⟩ rfl rfl (Nat.le_of_ble_eq_true rfl) hl dX2_become_73 (fun H locs hw => ?_)
  refine lv_aload_n hC.1 hC.2.1 dX2_become_76 rfl (lv_at hl 0 rfl) ?_
  refine g2_shadeOf hC hw hk0 q1_46 dX2_become_77 ?_
  refine lv_aload_n hC.1 hC.2.1 dX2_become_80 rfl (lv_at hl 1 rfl) ?_
  refine g2_shadeOf hC hw hk1 q1_46 dX2_become_81 ?_
  obtain ⟨M14, h13, hF⟩ := ob1S hF
  refine k_Nv (As := [.ref (ad G (c0 + 5)), .ref (ad G (c1 + 5))]) (rest := []) hC hw (c_X6_writeAll (M := M12) (kdN5 hk0) (kdN5 hk1) h13) ys_X6_writeAll (k := 9) rfl ⟨rfl, rfl⟩ ⟨Nat.le_of_ble_eq_true rfl, Nat.le_of_ble_eq_true rfl⟩ ⟨Nat.zero_le _, Nat.zero_le _⟩ rfl rfl (Nat.le_of_ble_eq_true rfl) hl dX2_become_84 (fun H locs hw => ?_)
  refine lv_aload_n hC.1 hC.2.1 dX2_become_87 rfl (lv_at hl 0 rfl) ?_
  refine g2_firstBulkOf hC hw hk0 q1_49 dX2_become_88 ?_
  refine lv_aload_n hC.1 hC.2.1 dX2_become_91 rfl (lv_at hl 1 rfl) ?_
  refine g2_firstBulkOf hC hw hk1 q1_49 dX2_become_92 ?_
  obtain ⟨M16, h15, hF⟩ := ob1S hF
  refine k_Nv (As := [.ref (ad G (c0 + 6)), .ref (ad G (c1 + 6))]) (rest := []) hC hw (c_X6_writeAll (M := M14) (kdN6 hk0) (kdN6 hk1) h15) ys_X6_writeAll (k := 9) rfl ⟨rfl, rfl⟩ ⟨Nat.le_of_ble_eq_true rfl, Nat.le_of_ble_eq_true rfl⟩ ⟨Nat.zero_le _, Nat.zero_le _⟩ rfl rfl (Nat.le_of_ble_eq_true rfl) hl dX2_become_95 (fun H locs hw => ?_)
  refine lv_aload_n hC.1 hC.2.1 dX2_become_98 rfl (lv_at hl 0 rfl) ?_
  refine g2_firstShadeOf hC hw hk0 q1_50 dX2_become_99 ?_
  refine lv_aload_n hC.1 hC.2.1 dX2_become_102 rfl (lv_at hl 1 rfl) ?_
  refine g2_firstShadeOf hC hw hk1 q1_50 dX2_become_103 ?_
  obtain ⟨M18, h17, hF⟩ := ob1S hF
  refine k_Nv (As := [.ref (ad G (c0 + 7)), .ref (ad G (c1 + 7))]) (rest := []) hC hw (c_X6_writeAll (M := M16) (kdN7 hk0) (kdN7 hk1) h17) ys_X6_writeAll (k := 9) rfl ⟨rfl, rfl⟩ ⟨Nat.le_of_ble_eq_true rfl, Nat.le_of_ble_eq_true rfl⟩ ⟨Nat.zero_le _, Nat.zero_le _⟩ rfl rfl (Nat.le_of_ble_eq_true rfl) hl dX2_become_106 (fun H locs hw => ?_)
  refine lv_aload_n hC.1 hC.2.1 dX2_become_109 rfl (lv_at hl 0 rfl) ?_
  refine g2_deedSorts hC hw hk0 q1_51 dX2_become_110 ?_
  refine lv_aload_n hC.1 hC.2.1 dX2_become_113 rfl (lv_at hl 1 rfl) ?_
  refine g2_deedSorts hC hw hk1 q1_51 dX2_become_114 ?_
  obtain ⟨M20, h19, hF⟩ := ob1S hF
  refine k_Nv (As := [.ref (ad G (c0 + 8)), .ref (ad G (c1 + 8))]) (rest := []) hC hw (c_X6_writeAll (M := M18) (kdN8 hk0) (kdN8 hk1) h19) ys_X6_writeAll (k := 9) rfl ⟨rfl, rfl⟩ ⟨Nat.le_of_ble_eq_true rfl, Nat.le_of_ble_eq_true rfl⟩ ⟨Nat.zero_le _, Nat.zero_le _⟩ rfl rfl (Nat.le_of_ble_eq_true rfl) hl dX2_become_117 (fun H locs hw => ?_)
  refine lv_aload_n hC.1 hC.2.1 dX2_become_120 rfl (lv_at hl 0 rfl) ?_
  refine g2_deedMen hC hw hk0 q1_52 dX2_become_121 ?_
  refine lv_aload_n hC.1 hC.2.1 dX2_become_124 rfl (lv_at hl 1 rfl) ?_
  refine g2_deedMen hC hw hk1 q1_52 dX2_become_125 ?_
  obtain ⟨M22, h21, hF⟩ := ob1S hF
  refine k_Nv (As := [.ref (ad G (c0 + 9)), .ref (ad G (c1 + 9))]) (rest := []) hC hw (c_X6_writeAll (M := M20) (kdN9 hk0) (kdN9 hk1) h21) ys_X6_writeAll (k := 9) rfl ⟨rfl, rfl⟩ ⟨Nat.le_of_ble_eq_true rfl, Nat.le_of_ble_eq_true rfl⟩ ⟨Nat.zero_le _, Nat.zero_le _⟩ rfl rfl (Nat.le_of_ble_eq_true rfl) hl dX2_become_128 (fun H locs hw => ?_)
  refine lv_aload_n hC.1 hC.2.1 dX2_become_131 rfl (lv_at hl 0 rfl) ?_
  refine g2_deedValues hC hw hk0 q1_53 dX2_become_132 ?_
  refine lv_aload_n hC.1 hC.2.1 dX2_become_135 rfl (lv_at hl 1 rfl) ?_
  refine g2_deedValues hC hw hk1 q1_53 dX2_become_136 ?_
  obtain ⟨M24, h23, hF⟩ := ob1S hF
  refine k_Nv (As := [.ref (ad G (c0 + 10)), .ref (ad G (c1 + 10))]) (rest := []) hC hw (c_X6_writeAll (M := M22) (kdN10 hk0) (kdN10 hk1) h23) ys_X6_writeAll (k := 9) rfl ⟨rfl, rfl⟩ ⟨Nat.le_of_ble_eq_true rfl, Nat.le_of_ble_eq_true rfl⟩ ⟨Nat.zero_le _, Nat.zero_le _⟩ rfl rfl (Nat.le_of_ble_eq_true rfl) hl dX2_become_139 (fun H locs hw => ?_)
  exact r_vretE hC hw hF dX2_become_142
abbrev rm_X2_isMan : Room := { frames := 0, cells := 0, slots := 0, locals := 0 }
theorem yv_X2_isMan : YV yX2_isMan cX2_isMan 2 (some .boolean) 1 RX2 := ⟨⟨q2_148, q2_149, q1_2, q2_150⟩, by decide +kernel⟩
theorem dX2_isMan_0 : decode cX2_isMan 0 = .ok (.iload_n 1, 1) := by decide +kernel
theorem dX2_isMan_1 : decode cX2_isMan 1 = .ok (.ifCond .lt 15, 3) := by decide +kernel
theorem dX2_isMan_4 : decode cX2_isMan 4 = .ok (.iload_n 1, 1) := by decide +kernel
theorem dX2_isMan_5 : decode cX2_isMan 5 = .ok (.aload_n 0, 1) := by decide +kernel
theorem dX2_isMan_6 : decode cX2_isMan 6 = .ok (.getfield 48, 3) := by decide +kernel
theorem dX2_isMan_9 : decode cX2_isMan 9 = .ok (.if_icmp .ge 7, 3) := by decide +kernel
theorem dX2_isMan_12 : decode cX2_isMan 12 = .ok (.iconst 1, 1) := by decide +kernel
theorem dX2_isMan_13 : decode cX2_isMan 13 = .ok (.goto 4, 3) := by decide +kernel
theorem dX2_isMan_16 : decode cX2_isMan 16 = .ok (.iconst 0, 1) := by decide +kernel
theorem dX2_isMan_17 : decode cX2_isMan 17 = .ok (.ireturn, 1) := by decide +kernel
def F_X2_isMan (fu : Nat) (M : Mm) (c0 : Nat) (x1 : Int32) : Option Int32 :=
  if x1 < 0 then
    some (0 : Int32)
  else
    if (M.1 c0 0) ≤ x1 then
      some (0 : Int32)
    else
      some (1 : Int32)
set_option maxRecDepth 100000 in
set_option maxHeartbeats 4000000 in
theorem c_X2_isMan {l : Launch} {G : Gv} {fu : Nat} {M : Mm} {c0 : Nat} {x1 : Int32} (hk0 : kd c0 = 11) {r : Int32} (hF : F_X2_isMan fu M c0 x1 = some r) : Met l yX2_isMan (.code yX2_isMan cX2_isMan 2 (some .boolean) :: zU) rm_X2_isMan (va_Pc [.ref (ad G c0), .int x1] (Wd G M)) (QI G r M) 0 0 (zA G) := by
  refine zMet (by decide) rfl (Nat.le_of_ble_eq_true rfl) ?_
  intro p e s m below meth c hC hw ls hl
  have hl : lv_has ls 2 [(0, .ref (ad G c0)), (1, .int x1)] := hl
  unfold F_X2_isMan at hF
  refine lv_iload_n hC.1 hC.2.1 dX2_isMan_0 rfl (lv_at hl 1 rfl) ?_
  refine lv_if_lt (tgt := 16) hC.1 hC.2.1 dX2_isMan_1 (by decide) (fun b1 => ?_) (fun b1 => ?_)
  · have hF := ifP hF b1
    refine lv_iconst (v := (0 : Int32)) hC.1 hC.2.1 dX2_isMan_16 (by decide) ?_
    exact r_zretP hC hw (by decide) hF dX2_isMan_17
  · have hF := ifN hF b1
    refine lv_iload_n hC.1 hC.2.1 dX2_isMan_4 rfl (lv_at hl 1 rfl) ?_
    refine lv_aload_n hC.1 hC.2.1 dX2_isMan_5 rfl (lv_at hl 0 rfl) ?_
    refine g2_men hC hw hk0 q1_31 dX2_isMan_6 ?_
    refine lv_icmp_ge (tgt := 16) hC.1 hC.2.1 dX2_isMan_9 (by decide) (fun b2 => ?_) (fun b2 => ?_)
    · have hF := ifP hF b2
      refine lv_iconst (v := (0 : Int32)) hC.1 hC.2.1 dX2_isMan_16 (by decide) ?_
      exact r_zretP hC hw (by decide) hF dX2_isMan_17
    · have hF := ifN hF b2
      refine lv_iconst (v := (1 : Int32)) hC.1 hC.2.1 dX2_isMan_12 (by decide) ?_
      refine lv_goto (tgt := 17) hC.1 hC.2.1 dX2_isMan_13 (by decide) ?_
      exact r_zretP hC hw (by decide) hF dX2_isMan_17
abbrev rm_X2_isSet : Room := { frames := 0, cells := 0, slots := 0, locals := 0 }
theorem yv_X2_isSet : YV yX2_isSet cX2_isSet 2 (some .boolean) 1 RX2 := ⟨⟨q3_115, q3_116, q1_2, q3_117⟩, by decide +kernel⟩
theorem dX2_isSet_0 : decode cX2_isSet 0 = .ok (.iload_n 1, 1) := by decide +kernel
theorem dX2_isSet_1 : decode cX2_isSet 1 = .ok (.ifCond .lt 17, 3) := by decide +kernel
theorem dX2_isSet_4 : decode cX2_isSet 4 = .ok (.iload_n 1, 1) := by decide +kernel
theorem dX2_isSet_5 : decode cX2_isSet 5 = .ok (.iconst 1, 1) := by decide +kernel
theorem dX2_isSet_6 : decode cX2_isSet 6 = .ok (.aload_n 0, 1) := by decide +kernel
theorem dX2_isSet_7 : decode cX2_isSet 7 = .ok (.getfield 48, 3) := by decide +kernel
theorem dX2_isSet_10 : decode cX2_isSet 10 = .ok (.ishl, 1) := by decide +kernel
theorem dX2_isSet_11 : decode cX2_isSet 11 = .ok (.if_icmp .ge 7, 3) := by decide +kernel
theorem dX2_isSet_14 : decode cX2_isSet 14 = .ok (.iconst 1, 1) := by decide +kernel
theorem dX2_isSet_15 : decode cX2_isSet 15 = .ok (.goto 4, 3) := by decide +kernel
theorem dX2_isSet_18 : decode cX2_isSet 18 = .ok (.iconst 0, 1) := by decide +kernel
theorem dX2_isSet_19 : decode cX2_isSet 19 = .ok (.ireturn, 1) := by decide +kernel
def F_X2_isSet (fu : Nat) (M : Mm) (c0 : Nat) (x1 : Int32) : Option Int32 :=
  if x1 < 0 then
    some (0 : Int32)
  else
    if ((1 : Int32) <<< ((M.1 c0 0) &&& 31)) ≤ x1 then
      some (0 : Int32)
    else
      some (1 : Int32)
set_option maxRecDepth 100000 in
set_option maxHeartbeats 4000000 in
theorem c_X2_isSet {l : Launch} {G : Gv} {fu : Nat} {M : Mm} {c0 : Nat} {x1 : Int32} (hk0 : kd c0 = 11) {r : Int32} (hF : F_X2_isSet fu M c0 x1 = some r) : Met l yX2_isSet (.code yX2_isSet cX2_isSet 2 (some .boolean) :: zU) rm_X2_isSet (va_Pc [.ref (ad G c0), .int x1] (Wd G M)) (QI G r M) 0 0 (zA G) := by
  refine zMet (by decide) rfl (Nat.le_of_ble_eq_true rfl) ?_
  intro p e s m below meth c hC hw ls hl
  have hl : lv_has ls 2 [(0, .ref (ad G c0)), (1, .int x1)] := hl
  unfold F_X2_isSet at hF
  refine lv_iload_n hC.1 hC.2.1 dX2_isSet_0 rfl (lv_at hl 1 rfl) ?_
  refine lv_if_lt (tgt := 18) hC.1 hC.2.1 dX2_isSet_1 (by decide) (fun b1 => ?_) (fun b1 => ?_)
  · have hF := ifP hF b1
    refine lv_iconst (v := (0 : Int32)) hC.1 hC.2.1 dX2_isSet_18 (by decide) ?_
    exact r_zretP hC hw (by decide) hF dX2_isSet_19
  · have hF := ifN hF b1
    refine lv_iload_n hC.1 hC.2.1 dX2_isSet_4 rfl (lv_at hl 1 rfl) ?_
    refine lv_iconst (v := (1 : Int32)) hC.1 hC.2.1 dX2_isSet_5 (by decide) ?_
    refine lv_aload_n hC.1 hC.2.1 dX2_isSet_6 rfl (lv_at hl 0 rfl) ?_
    refine g2_men hC hw hk0 q1_31 dX2_isSet_7 ?_
    refine lv_ishl hC.1 hC.2.1 dX2_isSet_10 ?_
    refine lv_icmp_ge (tgt := 18) hC.1 hC.2.1 dX2_isSet_11 (by decide) (fun b2 => ?_) (fun b2 => ?_)
    · have hF := ifP hF b2
      refine lv_iconst (v := (0 : Int32)) hC.1 hC.2.1 dX2_isSet_18 (by decide) ?_
      exact r_zretP hC hw (by decide) hF dX2_isSet_19
    · have hF := ifN hF b2
      refine lv_iconst (v := (1 : Int32)) hC.1 hC.2.1 dX2_isSet_14 (by decide) ?_
      refine lv_goto (tgt := 19) hC.1 hC.2.1 dX2_isSet_15 (by decide) ?_
      exact r_zretP hC hw (by decide) hF dX2_isSet_19
abbrev rm_X2_meltAll : Room := { frames := 3, cells := 0, slots := 0, locals := 76 }
theorem yv_X2_meltAll : YV yX2_meltAll cX2_meltAll 2 none 0 RX2 := ⟨⟨q3_5, qs_14, q1_2, q3_6⟩, by decide +kernel⟩
theorem dX2_meltAll_0 : decode cX2_meltAll 0 = .ok (.iconst 0, 1) := by decide +kernel
theorem dX2_meltAll_1 : decode cX2_meltAll 1 = .ok (.istore_n 1, 1) := by decide +kernel
theorem dX2_meltAll_2 : decode cX2_meltAll 2 = .ok (.iload_n 1, 1) := by decide +kernel
theorem dX2_meltAll_3 : decode cX2_meltAll 3 = .ok (.aload_n 0, 1) := by decide +kernel
theorem dX2_meltAll_4 : decode cX2_meltAll 4 = .ok (.getfield 48, 3) := by decide +kernel
theorem dX2_meltAll_7 : decode cX2_meltAll 7 = .ok (.if_icmp .ge 36, 3) := by decide +kernel
theorem dX2_meltAll_10 : decode cX2_meltAll 10 = .ok (.aload_n 0, 1) := by decide +kernel
theorem dX2_meltAll_11 : decode cX2_meltAll 11 = .ok (.getfield 21, 3) := by decide +kernel
theorem dX2_meltAll_14 : decode cX2_meltAll 14 = .ok (.iload_n 1, 1) := by decide +kernel
theorem dX2_meltAll_15 : decode cX2_meltAll 15 = .ok (.iconst 0, 1) := by decide +kernel
theorem dX2_meltAll_16 : decode cX2_meltAll 16 = .ok (.aload_n 0, 1) := by decide +kernel
theorem dX2_meltAll_17 : decode cX2_meltAll 17 = .ok (.getfield 21, 3) := by decide +kernel
theorem dX2_meltAll_20 : decode cX2_meltAll 20 = .ok (.iload_n 1, 1) := by decide +kernel
theorem dX2_meltAll_21 : decode cX2_meltAll 21 = .ok (.invokestatic 81, 3) := by decide +kernel
theorem dX2_meltAll_24 : decode cX2_meltAll 24 = .ok (.aload_n 0, 1) := by decide +kernel
theorem dX2_meltAll_25 : decode cX2_meltAll 25 = .ok (.iload_n 1, 1) := by decide +kernel
theorem dX2_meltAll_26 : decode cX2_meltAll 26 = .ok (.iconst 0, 1) := by decide +kernel
theorem dX2_meltAll_27 : decode cX2_meltAll 27 = .ok (.invokevirtual 94, 3) := by decide +kernel
theorem dX2_meltAll_30 : decode cX2_meltAll 30 = .ok (.isub, 1) := by decide +kernel
theorem dX2_meltAll_31 : decode cX2_meltAll 31 = .ok (.invokestatic 97, 3) := by decide +kernel
theorem dX2_meltAll_34 : decode cX2_meltAll 34 = .ok (.invokestatic 73, 3) := by decide +kernel
theorem dX2_meltAll_37 : decode cX2_meltAll 37 = .ok (.iinc 1 1, 3) := by decide +kernel
theorem dX2_meltAll_40 : decode cX2_meltAll 40 = .ok (.goto (-38), 3) := by decide +kernel
theorem dX2_meltAll_43 : decode cX2_meltAll 43 = .ok (.return_, 1) := by decide +kernel
def F_X2_meltAll_2 (fu : Nat) : Nat → Mm → Nat → Int32 → Option Mm
  | 0, _, _, _ => none
  | n + 1, M, c0, x1 =>
    if (M.1 c0 0) ≤ x1 then
      some M
    else
      ob1 (F_X6_read fu M (c0 + 4) x1) (fun r3 =>
      ob1 (F_X2_meltingIn fu M c0 x1 (0 : Int32)) (fun r5 =>
      ob1 (F_X6_write fu M (c0 + 4) x1 (zmx (0 : Int32) (r3 - r5))) (fun M7 =>
      F_X2_meltAll_2 fu n M7 c0 (x1 + (1 : Int32)))))
set_option maxRecDepth 100000 in
set_option maxHeartbeats 4000000 in
theorem w_X2_meltAll_2 {p : Program} {l : Launch} {e : Env} {s : State} {m : MethodId} {args : Array Value} {below : List Frame} {meth : Method} {c : Code} {G : Gv} (hC : Cx p s m args meth c cX2_meltAll 2 none RX2) {fu : Nat} {M' : Mm} : ∀ (n : Nat) {c0 : Nat} {x1 : Int32} {M : Mm} {H : Heap} {locs : List Loc} {ls : Array Slot} (hk0 : kd c0 = 11), F_X2_meltAll_2 fu n M c0 x1 = some M' → St G s H locs M → lv_has ls 2 [(0, .ref (ad G c0)), (1, .int x1)] → W p l e rm_X2_meltAll s m args below meth c H locs 0 0 (MQ below (QV G M') args s 0 0 (zA G)) (F0 m 2 ls []) := by
  intro n
  induction n with
  | zero =>
    intro c0 x1 M H locs ls hk0 hF hw hl
    cases hF
  | succ n ih =>
    intro c0 x1 M H locs ls hk0 hF hw hl
    unfold F_X2_meltAll_2 at hF
    refine lv_iload_n hC.1 hC.2.1 dX2_meltAll_2 rfl (lv_at hl 1 rfl) ?_
    refine lv_aload_n hC.1 hC.2.1 dX2_meltAll_3 rfl (lv_at hl 0 rfl) ?_
    refine g2_men hC hw hk0 q1_31 dX2_meltAll_4 ?_
    refine lv_icmp_ge (tgt := 43) hC.1 hC.2.1 dX2_meltAll_7 (by decide) (fun b1 => ?_) (fun b1 => ?_)
    · have hF := ifP hF b1
      exact r_vretE hC hw hF dX2_meltAll_43
    · have hF := ifN hF b1
      refine lv_aload_n hC.1 hC.2.1 dX2_meltAll_10 rfl (lv_at hl 0 rfl) ?_
      refine g2_bulkOf hC hw hk0 q1_43 dX2_meltAll_11 ?_
      refine lv_iload_n hC.1 hC.2.1 dX2_meltAll_14 rfl (lv_at hl 1 rfl) ?_
      refine lv_iconst (v := (0 : Int32)) hC.1 hC.2.1 dX2_meltAll_15 (by decide) ?_
      refine lv_aload_n hC.1 hC.2.1 dX2_meltAll_16 rfl (lv_at hl 0 rfl) ?_
      refine g2_bulkOf hC hw hk0 q1_43 dX2_meltAll_17 ?_
      refine lv_iload_n hC.1 hC.2.1 dX2_meltAll_20 rfl (lv_at hl 1 rfl) ?_
      obtain ⟨r3, h2, hF⟩ := ob1S hF
      refine k_Ni (As := [.ref (ad G (c0 + 4)), .int x1]) (rest := [.int (0 : Int32), .int x1, .ref (ad G (c0 + 4))]) hC hw (c_X6_read (M := M) (kdN4 hk0) h2) ys_X6_read (k := 10) rfl ⟨rfl, rfl⟩ ⟨Nat.le_of_ble_eq_true rfl, Nat.le_of_ble_eq_true rfl⟩ ⟨Nat.zero_le _, Nat.zero_le _⟩ rfl rfl (Nat.le_of_ble_eq_true rfl) hl dX2_meltAll_21 (fun H locs hw => ?_)
      refine lv_aload_n hC.1 hC.2.1 dX2_meltAll_24 rfl (lv_at hl 0 rfl) ?_
      refine lv_iload_n hC.1 hC.2.1 dX2_meltAll_25 rfl (lv_at hl 1 rfl) ?_
      refine lv_iconst (v := (0 : Int32)) hC.1 hC.2.1 dX2_meltAll_26 (by decide) ?_
      obtain ⟨r5, h4, hF⟩ := ob1S hF
      refine k_Vi (As := [.int x1, .int (0 : Int32)]) (rest := [.int r3, .int (0 : Int32), .int x1, .ref (ad G (c0 + 4))]) hC hw (c_X2_meltingIn (M := M) hk0 h4) (RC_N hk0) yv_X2_meltingIn q2_208 ⟨rfl, rfl⟩ ⟨Nat.le_of_ble_eq_true rfl, Nat.le_of_ble_eq_true rfl⟩ ⟨Nat.zero_le _, Nat.zero_le _⟩ rfl rfl (Nat.le_of_ble_eq_true rfl) hl dX2_meltAll_27 (fun H locs hw => ?_)
      refine lv_isub hC.1 hC.2.1 dX2_meltAll_30 ?_
      refine r_max ⟨hC.1, hC.2.1, by rw [hC.2.2.1]; exact hl.1.symm, hC.2.2.2.1, hC.2.2.2.2.1⟩ q2_194 ⟨Nat.le_of_ble_eq_true rfl, Nat.le_of_ble_eq_true rfl⟩ ⟨Nat.zero_le _, Nat.zero_le _⟩ dX2_meltAll_31 ?_
      obtain ⟨M7, h6, hF⟩ := ob1S hF
      refine k_Nv (As := [.ref (ad G (c0 + 4)), .int x1, .int (zmx (0 : Int32) (r3 - r5))]) (rest := []) hC hw (c_X6_write (M := M) (kdN4 hk0) h6) ys_X6_write (k := 12) rfl ⟨rfl, rfl⟩ ⟨Nat.le_of_ble_eq_true rfl, Nat.le_of_ble_eq_true rfl⟩ ⟨Nat.zero_le _, Nat.zero_le _⟩ rfl rfl (Nat.le_of_ble_eq_true rfl) hl dX2_meltAll_34 (fun H locs hw => ?_)
      refine lv_iinc (v := (x1 + (1 : Int32))) (lv' := [(1, .int (x1 + (1 : Int32))), (0, .ref (ad G c0))]) hC.1 hC.2.1 dX2_meltAll_37 hl (k := 1) rfl rfl (by decide) rfl (fun ls hl => ?_)
      refine lv_goto (tgt := 2) hC.1 hC.2.1 dX2_meltAll_40 (by decide) ?_
      exact ih hk0 hF hw (lv_sub hl [1, 0] rfl)
def F_X2_meltAll (fu : Nat) (M : Mm) (c0 : Nat) : Option Mm :=
  F_X2_meltAll_2 fu fu M c0 (0 : Int32)
set_option maxRecDepth 100000 in
set_option maxHeartbeats 4000000 in
theorem c_X2_meltAll {l : Launch} {G : Gv} {fu : Nat} {M : Mm} {c0 : Nat} (hk0 : kd c0 = 11) {M' : Mm} (hF : F_X2_meltAll fu M c0 = some M') : Met l yX2_meltAll (.code yX2_meltAll cX2_meltAll 2 none :: zU) rm_X2_meltAll (va_Pc [.ref (ad G c0)] (Wd G M)) (QV G M') 0 0 (zA G) := by
  refine zMet (by decide) rfl (Nat.le_of_ble_eq_true rfl) ?_
  intro p e s m below meth c hC hw ls hl
  have hl : lv_has ls 2 [(0, .ref (ad G c0))] := hl
  unfold F_X2_meltAll at hF
  refine lv_iconst (v := (0 : Int32)) hC.1 hC.2.1 dX2_meltAll_0 (by decide) ?_
  refine lv_istore_n (lv' := [(1, .int (0 : Int32)), (0, .ref (ad G c0))]) hC.1 hC.2.1 dX2_meltAll_1 rfl hl (by decide) rfl (fun ls hl => ?_)
  exact w_X2_meltAll_2 hC _ hk0 hF hw (lv_sub hl [1, 0] rfl)
abbrev rm_X2_perform : Room := { frames := 4, cells := 0, slots := 0, locals := 97 }
theorem yv_X2_perform : YV yX2_perform cX2_perform 4 none 3 RX2 := ⟨⟨q3_0, qs_13, q1_2, q3_1⟩, by decide +kernel⟩
theorem dX2_perform_0 : decode cX2_perform 0 = .ok (.iload_n 1, 1) := by decide +kernel
theorem dX2_perform_1 : decode cX2_perform 1 = .ok (.tableswitch 86 0 3 #[69, 86, 31, 43], 31) := by decide +kernel
theorem dX2_perform_32 : decode cX2_perform 32 = .ok (.aload_n 0, 1) := by decide +kernel
theorem dX2_perform_33 : decode cX2_perform 33 = .ok (.getfield 24, 3) := by decide +kernel
theorem dX2_perform_36 : decode cX2_perform 36 = .ok (.iload_n 2, 1) := by decide +kernel
theorem dX2_perform_37 : decode cX2_perform 37 = .ok (.iload_n 3, 1) := by decide +kernel
theorem dX2_perform_38 : decode cX2_perform 38 = .ok (.invokestatic 73, 3) := by decide +kernel
theorem dX2_perform_41 : decode cX2_perform 41 = .ok (.goto 56, 3) := by decide +kernel
theorem dX2_perform_44 : decode cX2_perform 44 = .ok (.aload_n 0, 1) := by decide +kernel
theorem dX2_perform_45 : decode cX2_perform 45 = .ok (.getfield 21, 3) := by decide +kernel
theorem dX2_perform_48 : decode cX2_perform 48 = .ok (.iload_n 2, 1) := by decide +kernel
theorem dX2_perform_49 : decode cX2_perform 49 = .ok (.bipush 99, 2) := by decide +kernel
theorem dX2_perform_51 : decode cX2_perform 51 = .ok (.aload_n 0, 1) := by decide +kernel
theorem dX2_perform_52 : decode cX2_perform 52 = .ok (.getfield 21, 3) := by decide +kernel
theorem dX2_perform_55 : decode cX2_perform 55 = .ok (.iload_n 2, 1) := by decide +kernel
theorem dX2_perform_56 : decode cX2_perform 56 = .ok (.invokestatic 81, 3) := by decide +kernel
theorem dX2_perform_59 : decode cX2_perform 59 = .ok (.iload_n 3, 1) := by decide +kernel
theorem dX2_perform_60 : decode cX2_perform 60 = .ok (.iadd, 1) := by decide +kernel
theorem dX2_perform_61 : decode cX2_perform 61 = .ok (.invokestatic 85, 3) := by decide +kernel
theorem dX2_perform_64 : decode cX2_perform 64 = .ok (.invokestatic 73, 3) := by decide +kernel
theorem dX2_perform_67 : decode cX2_perform 67 = .ok (.goto 30, 3) := by decide +kernel
theorem dX2_perform_70 : decode cX2_perform 70 = .ok (.aload_n 0, 1) := by decide +kernel
theorem dX2_perform_71 : decode cX2_perform 71 = .ok (.invokevirtual 91, 3) := by decide +kernel
theorem dX2_perform_74 : decode cX2_perform 74 = .ok (.aload_n 0, 1) := by decide +kernel
theorem dX2_perform_75 : decode cX2_perform 75 = .ok (.dup, 1) := by decide +kernel
theorem dX2_perform_76 : decode cX2_perform 76 = .ok (.getfield 70, 3) := by decide +kernel
theorem dX2_perform_79 : decode cX2_perform 79 = .ok (.iconst 1, 1) := by decide +kernel
theorem dX2_perform_80 : decode cX2_perform 80 = .ok (.iadd, 1) := by decide +kernel
theorem dX2_perform_81 : decode cX2_perform 81 = .ok (.putfield 70, 3) := by decide +kernel
theorem dX2_perform_84 : decode cX2_perform 84 = .ok (.goto 13, 3) := by decide +kernel
theorem dX2_perform_87 : decode cX2_perform 87 = .ok (.aload_n 0, 1) := by decide +kernel
theorem dX2_perform_88 : decode cX2_perform 88 = .ok (.dup, 1) := by decide +kernel
theorem dX2_perform_89 : decode cX2_perform 89 = .ok (.getfield 70, 3) := by decide +kernel
theorem dX2_perform_92 : decode cX2_perform 92 = .ok (.iconst 1, 1) := by decide +kernel
theorem dX2_perform_93 : decode cX2_perform 93 = .ok (.iadd, 1) := by decide +kernel
theorem dX2_perform_94 : decode cX2_perform 94 = .ok (.putfield 70, 3) := by decide +kernel
theorem dX2_perform_97 : decode cX2_perform 97 = .ok (.return_, 1) := by decide +kernel
def F_X2_perform (fu : Nat) (M : Mm) (c0 : Nat) (x1 : Int32) (x2 : Int32) (x3 : Int32) : Option Mm :=
  if x1 = (0 : Int32) then
    ob1 (F_X2_meltAll fu M c0) (fun M3 =>
    lt1 (pI M3 c0 2 ((M3.1 c0 2) + (1 : Int32))) (fun M4 =>
    some M4))
  else
  if x1 = (2 : Int32) then
    ob1 (F_X6_write fu M (c0 + 5) x2 x3) (fun M7 =>
    some M7)
  else
  if x1 = (3 : Int32) then
    ob1 (F_X6_read fu M (c0 + 4) x2) (fun r10 =>
    ob1 (F_X6_write fu M (c0 + 4) x2 (zmn (99 : Int32) (r10 + x3))) (fun M12 =>
    some M12))
  else
  lt1 (pI M c0 2 ((M.1 c0 2) + (1 : Int32))) (fun M13 =>
  some M13)
set_option maxRecDepth 100000 in
set_option maxHeartbeats 4000000 in
theorem c_X2_perform {l : Launch} {G : Gv} {fu : Nat} {M : Mm} {c0 : Nat} {x1 : Int32} {x2 : Int32} {x3 : Int32} (hk0 : kd c0 = 11) {M' : Mm} (hF : F_X2_perform fu M c0 x1 x2 x3 = some M') : Met l yX2_perform (.code yX2_perform cX2_perform 4 none :: zU) rm_X2_perform (va_Pc [.ref (ad G c0), .int x1, .int x2, .int x3] (Wd G M)) (QV G M') 0 0 (zA G) := by
  refine zMet (by decide) rfl (Nat.le_of_ble_eq_true rfl) ?_
  intro p e s m below meth c hC hw ls hl
  have hl : lv_has ls 4 [(0, .ref (ad G c0)), (1, .int x1), (2, .int x2), (3, .int x3)] := hl
  unfold F_X2_perform at hF
  refine lv_iload_n hC.1 hC.2.1 dX2_perform_0 rfl (lv_at hl 1 rfl) ?_
  rcases Classical.em (x1 = (0 : Int32)) with w1 | w1
  · have hF := ifP hF w1
    refine r_swI (v := (0 : Int32)) (off := 69) (tgt := 70) hC.1 hC.2.1 w1 dX2_perform_1 (by decide) (by decide) rfl (by decide) ?_
    refine lv_aload_n hC.1 hC.2.1 dX2_perform_70 rfl (lv_at hl 0 rfl) ?_
    obtain ⟨M3, h2, hF⟩ := ob1S hF
    refine k_Vv (As := []) (rest := []) hC hw (c_X2_meltAll (M := M) hk0 h2) (RC_N hk0) yv_X2_meltAll q3_3 ⟨rfl, rfl⟩ ⟨Nat.le_of_ble_eq_true rfl, Nat.le_of_ble_eq_true rfl⟩ ⟨Nat.zero_le _, Nat.zero_le _⟩ rfl rfl (Nat.le_of_ble_eq_true rfl) hl dX2_perform_71 (fun H locs hw => ?_)
    refine lv_aload_n hC.1 hC.2.1 dX2_perform_74 rfl (lv_at hl 0 rfl) ?_
    refine lv_dup hC.1 hC.2.1 dX2_perform_75 rfl ?_
    refine g2_today hC hw hk0 q1_35 dX2_perform_76 ?_
    refine lv_iconst (v := (1 : Int32)) hC.1 hC.2.1 dX2_perform_79 (by decide) ?_
    refine lv_iadd hC.1 hC.2.1 dX2_perform_80 ?_
    refine u2_today hC hw hk0 q1_35 dX2_perform_81 (fun H locs hw => ?_)
    obtain ⟨M4, hw, hF⟩ := lt1W hF hw
    refine lv_goto (tgt := 97) hC.1 hC.2.1 dX2_perform_84 (by decide) ?_
    exact r_vretE hC hw hF dX2_perform_97
  have hF := ifN hF w1
  rcases Classical.em (x1 = (2 : Int32)) with w5 | w5
  · have hF := ifP hF w5
    refine r_swI (v := (2 : Int32)) (off := 31) (tgt := 32) hC.1 hC.2.1 w5 dX2_perform_1 (by decide) (by decide) rfl (by decide) ?_
    refine lv_aload_n hC.1 hC.2.1 dX2_perform_32 rfl (lv_at hl 0 rfl) ?_
    refine g2_shadeOf hC hw hk0 q1_46 dX2_perform_33 ?_
    refine lv_iload_n hC.1 hC.2.1 dX2_perform_36 rfl (lv_at hl 2 rfl) ?_
    refine lv_iload_n hC.1 hC.2.1 dX2_perform_37 rfl (lv_at hl 3 rfl) ?_
    obtain ⟨M7, h6, hF⟩ := ob1S hF
    refine k_Nv (As := [.ref (ad G (c0 + 5)), .int x2, .int x3]) (rest := []) hC hw (c_X6_write (M := M) (kdN5 hk0) h6) ys_X6_write (k := 12) rfl ⟨rfl, rfl⟩ ⟨Nat.le_of_ble_eq_true rfl, Nat.le_of_ble_eq_true rfl⟩ ⟨Nat.zero_le _, Nat.zero_le _⟩ rfl rfl (Nat.le_of_ble_eq_true rfl) hl dX2_perform_38 (fun H locs hw => ?_)
    refine lv_goto (tgt := 97) hC.1 hC.2.1 dX2_perform_41 (by decide) ?_
    exact r_vretE hC hw hF dX2_perform_97
  have hF := ifN hF w5
  rcases Classical.em (x1 = (3 : Int32)) with w8 | w8
  · have hF := ifP hF w8
    refine r_swI (v := (3 : Int32)) (off := 43) (tgt := 44) hC.1 hC.2.1 w8 dX2_perform_1 (by decide) (by decide) rfl (by decide) ?_
    refine lv_aload_n hC.1 hC.2.1 dX2_perform_44 rfl (lv_at hl 0 rfl) ?_
    refine g2_bulkOf hC hw hk0 q1_43 dX2_perform_45 ?_
    refine lv_iload_n hC.1 hC.2.1 dX2_perform_48 rfl (lv_at hl 2 rfl) ?_
    refine lv_bipush (v := (99 : Int32)) hC.1 hC.2.1 dX2_perform_49 (by decide) ?_
    refine lv_aload_n hC.1 hC.2.1 dX2_perform_51 rfl (lv_at hl 0 rfl) ?_
    refine g2_bulkOf hC hw hk0 q1_43 dX2_perform_52 ?_
    refine lv_iload_n hC.1 hC.2.1 dX2_perform_55 rfl (lv_at hl 2 rfl) ?_
    obtain ⟨r10, h9, hF⟩ := ob1S hF
    refine k_Ni (As := [.ref (ad G (c0 + 4)), .int x2]) (rest := [.int (99 : Int32), .int x2, .ref (ad G (c0 + 4))]) hC hw (c_X6_read (M := M) (kdN4 hk0) h9) ys_X6_read (k := 10) rfl ⟨rfl, rfl⟩ ⟨Nat.le_of_ble_eq_true rfl, Nat.le_of_ble_eq_true rfl⟩ ⟨Nat.zero_le _, Nat.zero_le _⟩ rfl rfl (Nat.le_of_ble_eq_true rfl) hl dX2_perform_56 (fun H locs hw => ?_)
    refine lv_iload_n hC.1 hC.2.1 dX2_perform_59 rfl (lv_at hl 3 rfl) ?_
    refine lv_iadd hC.1 hC.2.1 dX2_perform_60 ?_
    refine r_min ⟨hC.1, hC.2.1, by rw [hC.2.2.1]; exact hl.1.symm, hC.2.2.2.1, hC.2.2.2.2.1⟩ q3_2 ⟨Nat.le_of_ble_eq_true rfl, Nat.le_of_ble_eq_true rfl⟩ ⟨Nat.zero_le _, Nat.zero_le _⟩ dX2_perform_61 ?_
    obtain ⟨M12, h11, hF⟩ := ob1S hF
    refine k_Nv (As := [.ref (ad G (c0 + 4)), .int x2, .int (zmn (99 : Int32) (r10 + x3))]) (rest := []) hC hw (c_X6_write (M := M) (kdN4 hk0) h11) ys_X6_write (k := 12) rfl ⟨rfl, rfl⟩ ⟨Nat.le_of_ble_eq_true rfl, Nat.le_of_ble_eq_true rfl⟩ ⟨Nat.zero_le _, Nat.zero_le _⟩ rfl rfl (Nat.le_of_ble_eq_true rfl) hl dX2_perform_64 (fun H locs hw => ?_)
    refine lv_goto (tgt := 97) hC.1 hC.2.1 dX2_perform_67 (by decide) ?_
    exact r_vretE hC hw hF dX2_perform_97
  have hF := ifN hF w8
  refine r_swD (tgt := 87) (vs := [(0 : Int32), (2 : Int32), (3 : Int32)]) hC.1 hC.2.1 (List.forall_mem_cons.mpr ⟨w1, List.forall_mem_cons.mpr ⟨w5, List.forall_mem_cons.mpr ⟨w8, fun v hv => absurd hv List.not_mem_nil⟩⟩⟩) dX2_perform_1 (by decide) rfl (by decide) ?_
  refine lv_aload_n hC.1 hC.2.1 dX2_perform_87 rfl (lv_at hl 0 rfl) ?_
  refine lv_dup hC.1 hC.2.1 dX2_perform_88 rfl ?_
  refine g2_today hC hw hk0 q1_35 dX2_perform_89 ?_
  refine lv_iconst (v := (1 : Int32)) hC.1 hC.2.1 dX2_perform_92 (by decide) ?_
  refine lv_iadd hC.1 hC.2.1 dX2_perform_93 ?_
  refine u2_today hC hw hk0 q1_35 dX2_perform_94 (fun H locs hw => ?_)
  obtain ⟨M13, hw, hF⟩ := lt1W hF hw
  exact r_vretE hC hw hF dX2_perform_97
abbrev rm_X2_act : Room := { frames := 5, cells := 0, slots := 0, locals := 120 }
theorem yv_X2_act : YV yX2_act cX2_act 4 none 3 RX2 := ⟨⟨q2_234, q2_235, q1_2, q2_236⟩, by decide +kernel⟩
theorem dX2_act_0 : decode cX2_act 0 = .ok (.aload_n 0, 1) := by decide +kernel
theorem dX2_act_1 : decode cX2_act 1 = .ok (.getfield 33, 3) := by decide +kernel
theorem dX2_act_4 : decode cX2_act 4 = .ok (.aload_n 0, 1) := by decide +kernel
theorem dX2_act_5 : decode cX2_act 5 = .ok (.getfield 64, 3) := by decide +kernel
theorem dX2_act_8 : decode cX2_act 8 = .ok (.iload_n 1, 1) := by decide +kernel
theorem dX2_act_9 : decode cX2_act 9 = .ok (.invokestatic 73, 3) := by decide +kernel
theorem dX2_act_12 : decode cX2_act 12 = .ok (.aload_n 0, 1) := by decide +kernel
theorem dX2_act_13 : decode cX2_act 13 = .ok (.getfield 36, 3) := by decide +kernel
theorem dX2_act_16 : decode cX2_act 16 = .ok (.aload_n 0, 1) := by decide +kernel
theorem dX2_act_17 : decode cX2_act 17 = .ok (.getfield 64, 3) := by decide +kernel
theorem dX2_act_20 : decode cX2_act 20 = .ok (.iload_n 2, 1) := by decide +kernel
theorem dX2_act_21 : decode cX2_act 21 = .ok (.invokestatic 73, 3) := by decide +kernel
theorem dX2_act_24 : decode cX2_act 24 = .ok (.aload_n 0, 1) := by decide +kernel
theorem dX2_act_25 : decode cX2_act 25 = .ok (.getfield 39, 3) := by decide +kernel
theorem dX2_act_28 : decode cX2_act 28 = .ok (.aload_n 0, 1) := by decide +kernel
theorem dX2_act_29 : decode cX2_act 29 = .ok (.getfield 64, 3) := by decide +kernel
theorem dX2_act_32 : decode cX2_act 32 = .ok (.iload_n 3, 1) := by decide +kernel
theorem dX2_act_33 : decode cX2_act 33 = .ok (.invokestatic 73, 3) := by decide +kernel
theorem dX2_act_36 : decode cX2_act 36 = .ok (.aload_n 0, 1) := by decide +kernel
theorem dX2_act_37 : decode cX2_act 37 = .ok (.dup, 1) := by decide +kernel
theorem dX2_act_38 : decode cX2_act 38 = .ok (.getfield 64, 3) := by decide +kernel
theorem dX2_act_41 : decode cX2_act 41 = .ok (.iconst 1, 1) := by decide +kernel
theorem dX2_act_42 : decode cX2_act 42 = .ok (.iadd, 1) := by decide +kernel
theorem dX2_act_43 : decode cX2_act 43 = .ok (.putfield 64, 3) := by decide +kernel
theorem dX2_act_46 : decode cX2_act 46 = .ok (.aload_n 0, 1) := by decide +kernel
theorem dX2_act_47 : decode cX2_act 47 = .ok (.iload_n 1, 1) := by decide +kernel
theorem dX2_act_48 : decode cX2_act 48 = .ok (.iload_n 2, 1) := by decide +kernel
theorem dX2_act_49 : decode cX2_act 49 = .ok (.iload_n 3, 1) := by decide +kernel
theorem dX2_act_50 : decode cX2_act 50 = .ok (.invokevirtual 77, 3) := by decide +kernel
theorem dX2_act_53 : decode cX2_act 53 = .ok (.return_, 1) := by decide +kernel
def F_X2_act (fu : Nat) (M : Mm) (c0 : Nat) (x1 : Int32) (x2 : Int32) (x3 : Int32) : Option Mm :=
  ob1 (F_X6_write fu M (c0 + 8) (M.1 c0 3) x1) (fun M2 =>
  ob1 (F_X6_write fu M2 (c0 + 9) (M2.1 c0 3) x2) (fun M4 =>
  ob1 (F_X6_write fu M4 (c0 + 10) (M4.1 c0 3) x3) (fun M6 =>
  lt1 (pI M6 c0 3 ((M6.1 c0 3) + (1 : Int32))) (fun M7 =>
  ob1 (F_X2_perform fu M7 c0 x1 x2 x3) (fun M9 =>
  some M9)))))
set_option maxRecDepth 100000 in
set_option maxHeartbeats 4000000 in
theorem c_X2_act {l : Launch} {G : Gv} {fu : Nat} {M : Mm} {c0 : Nat} {x1 : Int32} {x2 : Int32} {x3 : Int32} (hk0 : kd c0 = 11) {M' : Mm} (hF : F_X2_act fu M c0 x1 x2 x3 = some M') : Met l yX2_act (.code yX2_act cX2_act 4 none :: zU) rm_X2_act (va_Pc [.ref (ad G c0), .int x1, .int x2, .int x3] (Wd G M)) (QV G M') 0 0 (zA G) := by
  refine zMet (by decide) rfl (Nat.le_of_ble_eq_true rfl) ?_
  intro p e s m below meth c hC hw ls hl
  have hl : lv_has ls 4 [(0, .ref (ad G c0)), (1, .int x1), (2, .int x2), (3, .int x3)] := hl
  unfold F_X2_act at hF
  refine lv_aload_n hC.1 hC.2.1 dX2_act_0 rfl (lv_at hl 0 rfl) ?_
  refine g2_deedSorts hC hw hk0 q1_51 dX2_act_1 ?_
  refine lv_aload_n hC.1 hC.2.1 dX2_act_4 rfl (lv_at hl 0 rfl) ?_
  refine g2_deeds hC hw hk0 q1_37 dX2_act_5 ?_
  refine lv_iload_n hC.1 hC.2.1 dX2_act_8 rfl (lv_at hl 1 rfl) ?_
  obtain ⟨M2, h1, hF⟩ := ob1S hF
  refine k_Nv (As := [.ref (ad G (c0 + 8)), .int (M.1 c0 3), .int x1]) (rest := []) hC hw (c_X6_write (M := M) (kdN8 hk0) h1) ys_X6_write (k := 12) rfl ⟨rfl, rfl⟩ ⟨Nat.le_of_ble_eq_true rfl, Nat.le_of_ble_eq_true rfl⟩ ⟨Nat.zero_le _, Nat.zero_le _⟩ rfl rfl (Nat.le_of_ble_eq_true rfl) hl dX2_act_9 (fun H locs hw => ?_)
  refine lv_aload_n hC.1 hC.2.1 dX2_act_12 rfl (lv_at hl 0 rfl) ?_
  refine g2_deedMen hC hw hk0 q1_52 dX2_act_13 ?_
  refine lv_aload_n hC.1 hC.2.1 dX2_act_16 rfl (lv_at hl 0 rfl) ?_
  refine g2_deeds hC hw hk0 q1_37 dX2_act_17 ?_
  refine lv_iload_n hC.1 hC.2.1 dX2_act_20 rfl (lv_at hl 2 rfl) ?_
  obtain ⟨M4, h3, hF⟩ := ob1S hF
  refine k_Nv (As := [.ref (ad G (c0 + 9)), .int (M2.1 c0 3), .int x2]) (rest := []) hC hw (c_X6_write (M := M2) (kdN9 hk0) h3) ys_X6_write (k := 12) rfl ⟨rfl, rfl⟩ ⟨Nat.le_of_ble_eq_true rfl, Nat.le_of_ble_eq_true rfl⟩ ⟨Nat.zero_le _, Nat.zero_le _⟩ rfl rfl (Nat.le_of_ble_eq_true rfl) hl dX2_act_21 (fun H locs hw => ?_)
  refine lv_aload_n hC.1 hC.2.1 dX2_act_24 rfl (lv_at hl 0 rfl) ?_
  refine g2_deedValues hC hw hk0 q1_53 dX2_act_25 ?_
  refine lv_aload_n hC.1 hC.2.1 dX2_act_28 rfl (lv_at hl 0 rfl) ?_
  refine g2_deeds hC hw hk0 q1_37 dX2_act_29 ?_
  refine lv_iload_n hC.1 hC.2.1 dX2_act_32 rfl (lv_at hl 3 rfl) ?_
  obtain ⟨M6, h5, hF⟩ := ob1S hF
  refine k_Nv (As := [.ref (ad G (c0 + 10)), .int (M4.1 c0 3), .int x3]) (rest := []) hC hw (c_X6_write (M := M4) (kdN10 hk0) h5) ys_X6_write (k := 12) rfl ⟨rfl, rfl⟩ ⟨Nat.le_of_ble_eq_true rfl, Nat.le_of_ble_eq_true rfl⟩ ⟨Nat.zero_le _, Nat.zero_le _⟩ rfl rfl (Nat.le_of_ble_eq_true rfl) hl dX2_act_33 (fun H locs hw => ?_)
  refine lv_aload_n hC.1 hC.2.1 dX2_act_36 rfl (lv_at hl 0 rfl) ?_
  refine lv_dup hC.1 hC.2.1 dX2_act_37 rfl ?_
  refine g2_deeds hC hw hk0 q1_37 dX2_act_38 ?_
  refine lv_iconst (v := (1 : Int32)) hC.1 hC.2.1 dX2_act_41 (by decide) ?_
  refine lv_iadd hC.1 hC.2.1 dX2_act_42 ?_
  refine u2_deeds hC hw hk0 q1_37 dX2_act_43 (fun H locs hw => ?_)
  obtain ⟨M7, hw, hF⟩ := lt1W hF hw
  refine lv_aload_n hC.1 hC.2.1 dX2_act_46 rfl (lv_at hl 0 rfl) ?_
  refine lv_iload_n hC.1 hC.2.1 dX2_act_47 rfl (lv_at hl 1 rfl) ?_
  refine lv_iload_n hC.1 hC.2.1 dX2_act_48 rfl (lv_at hl 2 rfl) ?_
  refine lv_iload_n hC.1 hC.2.1 dX2_act_49 rfl (lv_at hl 3 rfl) ?_
  obtain ⟨M9, h8, hF⟩ := ob1S hF
  refine k_Vv (As := [.int x1, .int x2, .int x3]) (rest := []) hC hw (c_X2_perform (M := M7) hk0 h8) (RC_N hk0) yv_X2_perform q2_238 ⟨rfl, rfl⟩ ⟨Nat.le_of_ble_eq_true rfl, Nat.le_of_ble_eq_true rfl⟩ ⟨Nat.zero_le _, Nat.zero_le _⟩ rfl rfl (Nat.le_of_ble_eq_true rfl) hl dX2_act_50 (fun H locs hw => ?_)
  exact r_vretE hC hw hF dX2_act_53
abbrev rm_X2_undoFrom : Room := { frames := 5, cells := 0, slots := 0, locals := 120 }
theorem yv_X2_undoFrom : YV yX2_undoFrom cX2_undoFrom 3 none 1 RX2 := ⟨⟨q3_30, q3_31, q1_2, q3_32⟩, by decide +kernel⟩
theorem dX2_undoFrom_0 : decode cX2_undoFrom 0 = .ok (.aload_n 0, 1) := by decide +kernel
theorem dX2_undoFrom_1 : decode cX2_undoFrom 1 = .ok (.iload_n 1, 1) := by decide +kernel
theorem dX2_undoFrom_2 : decode cX2_undoFrom 2 = .ok (.putfield 64, 3) := by decide +kernel
theorem dX2_undoFrom_5 : decode cX2_undoFrom 5 = .ok (.aload_n 0, 1) := by decide +kernel
theorem dX2_undoFrom_6 : decode cX2_undoFrom 6 = .ok (.invokevirtual 67, 3) := by decide +kernel
theorem dX2_undoFrom_9 : decode cX2_undoFrom 9 = .ok (.iconst 0, 1) := by decide +kernel
theorem dX2_undoFrom_10 : decode cX2_undoFrom 10 = .ok (.istore_n 2, 1) := by decide +kernel
theorem dX2_undoFrom_11 : decode cX2_undoFrom 11 = .ok (.iload_n 2, 1) := by decide +kernel
theorem dX2_undoFrom_12 : decode cX2_undoFrom 12 = .ok (.iload_n 1, 1) := by decide +kernel
theorem dX2_undoFrom_13 : decode cX2_undoFrom 13 = .ok (.if_icmp .ge 37, 3) := by decide +kernel
theorem dX2_undoFrom_16 : decode cX2_undoFrom 16 = .ok (.aload_n 0, 1) := by decide +kernel
theorem dX2_undoFrom_17 : decode cX2_undoFrom 17 = .ok (.aload_n 0, 1) := by decide +kernel
theorem dX2_undoFrom_18 : decode cX2_undoFrom 18 = .ok (.getfield 33, 3) := by decide +kernel
theorem dX2_undoFrom_21 : decode cX2_undoFrom 21 = .ok (.iload_n 2, 1) := by decide +kernel
theorem dX2_undoFrom_22 : decode cX2_undoFrom 22 = .ok (.invokestatic 81, 3) := by decide +kernel
theorem dX2_undoFrom_25 : decode cX2_undoFrom 25 = .ok (.aload_n 0, 1) := by decide +kernel
theorem dX2_undoFrom_26 : decode cX2_undoFrom 26 = .ok (.getfield 36, 3) := by decide +kernel
theorem dX2_undoFrom_29 : decode cX2_undoFrom 29 = .ok (.iload_n 2, 1) := by decide +kernel
theorem dX2_undoFrom_30 : decode cX2_undoFrom 30 = .ok (.invokestatic 81, 3) := by decide +kernel
theorem dX2_undoFrom_33 : decode cX2_undoFrom 33 = .ok (.aload_n 0, 1) := by decide +kernel
theorem dX2_undoFrom_34 : decode cX2_undoFrom 34 = .ok (.getfield 39, 3) := by decide +kernel
theorem dX2_undoFrom_37 : decode cX2_undoFrom 37 = .ok (.iload_n 2, 1) := by decide +kernel
theorem dX2_undoFrom_38 : decode cX2_undoFrom 38 = .ok (.invokestatic 81, 3) := by decide +kernel
theorem dX2_undoFrom_41 : decode cX2_undoFrom 41 = .ok (.invokevirtual 77, 3) := by decide +kernel
theorem dX2_undoFrom_44 : decode cX2_undoFrom 44 = .ok (.iinc 2 1, 3) := by decide +kernel
theorem dX2_undoFrom_47 : decode cX2_undoFrom 47 = .ok (.goto (-36), 3) := by decide +kernel
theorem dX2_undoFrom_50 : decode cX2_undoFrom 50 = .ok (.return_, 1) := by decide +kernel
def F_X2_undoFrom_11 (fu : Nat) : Nat → Mm → Nat → Int32 → Int32 → Option Mm
  | 0, _, _, _, _ => none
  | n + 1, M, c0, x1, x2 =>
    if x1 ≤ x2 then
      some M
    else
      ob1 (F_X6_read fu M (c0 + 8) x2) (fun r3 =>
      ob1 (F_X6_read fu M (c0 + 9) x2) (fun r5 =>
      ob1 (F_X6_read fu M (c0 + 10) x2) (fun r7 =>
      ob1 (F_X2_perform fu M c0 r3 r5 r7) (fun M9 =>
      F_X2_undoFrom_11 fu n M9 c0 x1 (x2 + (1 : Int32))))))
set_option maxRecDepth 100000 in
set_option maxHeartbeats 4000000 in
theorem w_X2_undoFrom_11 {p : Program} {l : Launch} {e : Env} {s : State} {m : MethodId} {args : Array Value} {below : List Frame} {meth : Method} {c : Code} {G : Gv} (hC : Cx p s m args meth c cX2_undoFrom 3 none RX2) {fu : Nat} {M' : Mm} : ∀ (n : Nat) {c0 : Nat} {x1 : Int32} {x2 : Int32} {M : Mm} {H : Heap} {locs : List Loc} {ls : Array Slot} (hk0 : kd c0 = 11), F_X2_undoFrom_11 fu n M c0 x1 x2 = some M' → St G s H locs M → lv_has ls 3 [(0, .ref (ad G c0)), (1, .int x1), (2, .int x2)] → W p l e rm_X2_undoFrom s m args below meth c H locs 0 0 (MQ below (QV G M') args s 0 0 (zA G)) (F0 m 11 ls []) := by
  intro n
  induction n with
  | zero =>
    intro c0 x1 x2 M H locs ls hk0 hF hw hl
    cases hF
  | succ n ih =>
    intro c0 x1 x2 M H locs ls hk0 hF hw hl
    unfold F_X2_undoFrom_11 at hF
    refine lv_iload_n hC.1 hC.2.1 dX2_undoFrom_11 rfl (lv_at hl 2 rfl) ?_
    refine lv_iload_n hC.1 hC.2.1 dX2_undoFrom_12 rfl (lv_at hl 1 rfl) ?_
    refine lv_icmp_ge (tgt := 50) hC.1 hC.2.1 dX2_undoFrom_13 (by decide) (fun b1 => ?_) (fun b1 => ?_)
    · have hF := ifP hF b1
      exact r_vretE hC hw hF dX2_undoFrom_50
    · have hF := ifN hF b1
      refine lv_aload_n hC.1 hC.2.1 dX2_undoFrom_16 rfl (lv_at hl 0 rfl) ?_
      refine lv_aload_n hC.1 hC.2.1 dX2_undoFrom_17 rfl (lv_at hl 0 rfl) ?_
      refine g2_deedSorts hC hw hk0 q1_51 dX2_undoFrom_18 ?_
      refine lv_iload_n hC.1 hC.2.1 dX2_undoFrom_21 rfl (lv_at hl 2 rfl) ?_
      obtain ⟨r3, h2, hF⟩ := ob1S hF
      refine k_Ni (As := [.ref (ad G (c0 + 8)), .int x2]) (rest := [.ref (ad G c0)]) hC hw (c_X6_read (M := M) (kdN8 hk0) h2) ys_X6_read (k := 10) rfl ⟨rfl, rfl⟩ ⟨Nat.le_of_ble_eq_true rfl, Nat.le_of_ble_eq_true rfl⟩ ⟨Nat.zero_le _, Nat.zero_le _⟩ rfl rfl (Nat.le_of_ble_eq_true rfl) hl dX2_undoFrom_22 (fun H locs hw => ?_)
      refine lv_aload_n hC.1 hC.2.1 dX2_undoFrom_25 rfl (lv_at hl 0 rfl) ?_
      refine g2_deedMen hC hw hk0 q1_52 dX2_undoFrom_26 ?_
      refine lv_iload_n hC.1 hC.2.1 dX2_undoFrom_29 rfl (lv_at hl 2 rfl) ?_
      obtain ⟨r5, h4, hF⟩ := ob1S hF
      refine k_Ni (As := [.ref (ad G (c0 + 9)), .int x2]) (rest := [.int r3, .ref (ad G c0)]) hC hw (c_X6_read (M := M) (kdN9 hk0) h4) ys_X6_read (k := 10) rfl ⟨rfl, rfl⟩ ⟨Nat.le_of_ble_eq_true rfl, Nat.le_of_ble_eq_true rfl⟩ ⟨Nat.zero_le _, Nat.zero_le _⟩ rfl rfl (Nat.le_of_ble_eq_true rfl) hl dX2_undoFrom_30 (fun H locs hw => ?_)
      refine lv_aload_n hC.1 hC.2.1 dX2_undoFrom_33 rfl (lv_at hl 0 rfl) ?_
      refine g2_deedValues hC hw hk0 q1_53 dX2_undoFrom_34 ?_
      refine lv_iload_n hC.1 hC.2.1 dX2_undoFrom_37 rfl (lv_at hl 2 rfl) ?_
      obtain ⟨r7, h6, hF⟩ := ob1S hF
      refine k_Ni (As := [.ref (ad G (c0 + 10)), .int x2]) (rest := [.int r5, .int r3, .ref (ad G c0)]) hC hw (c_X6_read (M := M) (kdN10 hk0) h6) ys_X6_read (k := 10) rfl ⟨rfl, rfl⟩ ⟨Nat.le_of_ble_eq_true rfl, Nat.le_of_ble_eq_true rfl⟩ ⟨Nat.zero_le _, Nat.zero_le _⟩ rfl rfl (Nat.le_of_ble_eq_true rfl) hl dX2_undoFrom_38 (fun H locs hw => ?_)
      obtain ⟨M9, h8, hF⟩ := ob1S hF
      refine k_Vv (As := [.int r3, .int r5, .int r7]) (rest := []) hC hw (c_X2_perform (M := M) hk0 h8) (RC_N hk0) yv_X2_perform q2_238 ⟨rfl, rfl⟩ ⟨Nat.le_of_ble_eq_true rfl, Nat.le_of_ble_eq_true rfl⟩ ⟨Nat.zero_le _, Nat.zero_le _⟩ rfl rfl (Nat.le_of_ble_eq_true rfl) hl dX2_undoFrom_41 (fun H locs hw => ?_)
      refine lv_iinc (v := (x2 + (1 : Int32))) (lv' := [(2, .int (x2 + (1 : Int32))), (0, .ref (ad G c0)), (1, .int x1)]) hC.1 hC.2.1 dX2_undoFrom_44 hl (k := 2) rfl rfl (by decide) rfl (fun ls hl => ?_)
      refine lv_goto (tgt := 11) hC.1 hC.2.1 dX2_undoFrom_47 (by decide) ?_
      exact ih hk0 hF hw (lv_sub hl [1, 2, 0] rfl)
def F_X2_undoFrom (fu : Nat) (M : Mm) (c0 : Nat) (x1 : Int32) : Option Mm :=
  lt1 (pI M c0 3 x1) (fun M1 =>
  ob1 (F_X2_restart fu M1 c0) (fun M3 =>
  F_X2_undoFrom_11 fu fu M3 c0 x1 (0 : Int32)))
set_option maxRecDepth 100000 in
set_option maxHeartbeats 4000000 in
theorem c_X2_undoFrom {l : Launch} {G : Gv} {fu : Nat} {M : Mm} {c0 : Nat} {x1 : Int32} (hk0 : kd c0 = 11) {M' : Mm} (hF : F_X2_undoFrom fu M c0 x1 = some M') : Met l yX2_undoFrom (.code yX2_undoFrom cX2_undoFrom 3 none :: zU) rm_X2_undoFrom (va_Pc [.ref (ad G c0), .int x1] (Wd G M)) (QV G M') 0 0 (zA G) := by
  refine zMet (by decide) rfl (Nat.le_of_ble_eq_true rfl) ?_
  intro p e s m below meth c hC hw ls hl
  have hl : lv_has ls 3 [(0, .ref (ad G c0)), (1, .int x1)] := hl
  unfold F_X2_undoFrom at hF
  refine lv_aload_n hC.1 hC.2.1 dX2_undoFrom_0 rfl (lv_at hl 0 rfl) ?_
  refine lv_iload_n hC.1 hC.2.1 dX2_undoFrom_1 rfl (lv_at hl 1 rfl) ?_
  refine u2_deeds hC hw hk0 q1_37 dX2_undoFrom_2 (fun H locs hw => ?_)
  obtain ⟨M1, hw, hF⟩ := lt1W hF hw
  refine lv_aload_n hC.1 hC.2.1 dX2_undoFrom_5 rfl (lv_at hl 0 rfl) ?_
  obtain ⟨M3, h2, hF⟩ := ob1S hF
  refine k_Vv (As := []) (rest := []) hC hw (c_X2_restart (M := M1) hk0 h2) (RC_N hk0) yv_X2_restart q2_135 ⟨rfl, rfl⟩ ⟨Nat.le_of_ble_eq_true rfl, Nat.le_of_ble_eq_true rfl⟩ ⟨Nat.zero_le _, Nat.zero_le _⟩ rfl rfl (Nat.le_of_ble_eq_true rfl) hl dX2_undoFrom_6 (fun H locs hw => ?_)
  refine lv_iconst (v := (0 : Int32)) hC.1 hC.2.1 dX2_undoFrom_9 (by decide) ?_
  refine lv_istore_n (lv' := [(2, .int (0 : Int32)), (0, .ref (ad G c0)), (1, .int x1)]) hC.1 hC.2.1 dX2_undoFrom_10 rfl hl (by decide) rfl (fun ls hl => ?_)
  exact w_X2_undoFrom_11 hC _ hk0 hF hw (lv_sub hl [1, 2, 0] rfl)
abbrev rm_X2_sunOn : Room := { frames := 1, cells := 0, slots := 0, locals := 21 }
theorem yv_X2_sunOn : YV yX2_sunOn cX2_sunOn 2 (some .int) 1 RX2 := ⟨⟨q2_222, q2_223, q1_2, q2_224⟩, by decide +kernel⟩
theorem dX2_sunOn_0 : decode cX2_sunOn 0 = .ok (.aload_n 0, 1) := by decide +kernel
theorem dX2_sunOn_1 : decode cX2_sunOn 1 = .ok (.getfield 9, 3) := by decide +kernel
theorem dX2_sunOn_4 : decode cX2_sunOn 4 = .ok (.iload_n 1, 1) := by decide +kernel
theorem dX2_sunOn_5 : decode cX2_sunOn 5 = .ok (.bipush 8, 2) := by decide +kernel
theorem dX2_sunOn_7 : decode cX2_sunOn 7 = .ok (.irem, 1) := by decide +kernel
theorem dX2_sunOn_8 : decode cX2_sunOn 8 = .ok (.invokestatic 81, 3) := by decide +kernel
theorem dX2_sunOn_11 : decode cX2_sunOn 11 = .ok (.ireturn, 1) := by decide +kernel
def F_X2_sunOn (fu : Nat) (M : Mm) (c0 : Nat) (x1 : Int32) : Option Int32 :=
  ob1 (F_X6_read fu M (c0 + 1) (x1 - x1 / (8 : Int32) * (8 : Int32))) (fun r2 =>
  some r2)
set_option maxRecDepth 100000 in
set_option maxHeartbeats 4000000 in
theorem c_X2_sunOn {l : Launch} {G : Gv} {fu : Nat} {M : Mm} {c0 : Nat} {x1 : Int32} (hk0 : kd c0 = 11) {r : Int32} (hF : F_X2_sunOn fu M c0 x1 = some r) : Met l yX2_sunOn (.code yX2_sunOn cX2_sunOn 2 (some .int) :: zU) rm_X2_sunOn (va_Pc [.ref (ad G c0), .int x1] (Wd G M)) (QI G r M) 0 0 (zA G) := by
  refine zMet (by decide) rfl (Nat.le_of_ble_eq_true rfl) ?_
  intro p e s m below meth c hC hw ls hl
  have hl : lv_has ls 2 [(0, .ref (ad G c0)), (1, .int x1)] := hl
  unfold F_X2_sunOn at hF
  refine lv_aload_n hC.1 hC.2.1 dX2_sunOn_0 rfl (lv_at hl 0 rfl) ?_
  refine g2_suns hC hw hk0 q1_39 dX2_sunOn_1 ?_
  refine lv_iload_n hC.1 hC.2.1 dX2_sunOn_4 rfl (lv_at hl 1 rfl) ?_
  refine lv_bipush (v := (8 : Int32)) hC.1 hC.2.1 dX2_sunOn_5 (by decide) ?_
  refine lv_irem hC.1 hC.2.1 dX2_sunOn_7 (by decide) ?_
  obtain ⟨r2, h1, hF⟩ := ob1S hF
  refine k_Ni (As := [.ref (ad G (c0 + 1)), .int (x1 - x1 / (8 : Int32) * (8 : Int32))]) (rest := []) hC hw (c_X6_read (M := M) (kdN1 hk0) h1) ys_X6_read (k := 10) rfl ⟨rfl, rfl⟩ ⟨Nat.le_of_ble_eq_true rfl, Nat.le_of_ble_eq_true rfl⟩ ⟨Nat.zero_le _, Nat.zero_le _⟩ rfl rfl (Nat.le_of_ble_eq_true rfl) hl dX2_sunOn_8 (fun H locs hw => ?_)
  exact r_iretP hC hw hF dX2_sunOn_11
abbrev rm_X2_foreseeMelted : Room := { frames := 2, cells := 0, slots := 0, locals := 54 }
theorem yv_X2_foreseeMelted : YV yX2_foreseeMelted cX2_foreseeMelted 6 none 3 RX2 := ⟨⟨q3_192, q3_193, q1_2, q3_194⟩, by decide +kernel⟩
theorem dX2_foreseeMelted_0 : decode cX2_foreseeMelted 0 = .ok (.iconst 0, 1) := by decide +kernel
theorem dX2_foreseeMelted_1 : decode cX2_foreseeMelted 1 = .ok (.istore 4, 2) := by decide +kernel
theorem dX2_foreseeMelted_3 : decode cX2_foreseeMelted 3 = .ok (.iconst 0, 1) := by decide +kernel
theorem dX2_foreseeMelted_4 : decode cX2_foreseeMelted 4 = .ok (.istore 5, 2) := by decide +kernel
theorem dX2_foreseeMelted_6 : decode cX2_foreseeMelted 6 = .ok (.iload 5, 2) := by decide +kernel
theorem dX2_foreseeMelted_8 : decode cX2_foreseeMelted 8 = .ok (.bipush 60, 2) := by decide +kernel
theorem dX2_foreseeMelted_10 : decode cX2_foreseeMelted 10 = .ok (.if_icmp .gt 35, 3) := by decide +kernel
theorem dX2_foreseeMelted_13 : decode cX2_foreseeMelted 13 = .ok (.aload_n 3, 1) := by decide +kernel
theorem dX2_foreseeMelted_14 : decode cX2_foreseeMelted 14 = .ok (.iload 5, 2) := by decide +kernel
theorem dX2_foreseeMelted_16 : decode cX2_foreseeMelted 16 = .ok (.iload 4, 2) := by decide +kernel
theorem dX2_foreseeMelted_18 : decode cX2_foreseeMelted 18 = .ok (.invokestatic 73, 3) := by decide +kernel
theorem dX2_foreseeMelted_21 : decode cX2_foreseeMelted 21 = .ok (.iload 4, 2) := by decide +kernel
theorem dX2_foreseeMelted_23 : decode cX2_foreseeMelted 23 = .ok (.aload_n 0, 1) := by decide +kernel
theorem dX2_foreseeMelted_24 : decode cX2_foreseeMelted 24 = .ok (.iload_n 1, 1) := by decide +kernel
theorem dX2_foreseeMelted_25 : decode cX2_foreseeMelted 25 = .ok (.iload_n 2, 1) := by decide +kernel
theorem dX2_foreseeMelted_26 : decode cX2_foreseeMelted 26 = .ok (.aload_n 0, 1) := by decide +kernel
theorem dX2_foreseeMelted_27 : decode cX2_foreseeMelted 27 = .ok (.getfield 70, 3) := by decide +kernel
theorem dX2_foreseeMelted_30 : decode cX2_foreseeMelted 30 = .ok (.iload 5, 2) := by decide +kernel
theorem dX2_foreseeMelted_32 : decode cX2_foreseeMelted 32 = .ok (.iadd, 1) := by decide +kernel
theorem dX2_foreseeMelted_33 : decode cX2_foreseeMelted 33 = .ok (.invokevirtual 100, 3) := by decide +kernel
theorem dX2_foreseeMelted_36 : decode cX2_foreseeMelted 36 = .ok (.iadd, 1) := by decide +kernel
theorem dX2_foreseeMelted_37 : decode cX2_foreseeMelted 37 = .ok (.istore 4, 2) := by decide +kernel
theorem dX2_foreseeMelted_39 : decode cX2_foreseeMelted 39 = .ok (.iinc 5 1, 3) := by decide +kernel
theorem dX2_foreseeMelted_42 : decode cX2_foreseeMelted 42 = .ok (.goto (-36), 3) := by decide +kernel
theorem dX2_foreseeMelted_45 : decode cX2_foreseeMelted 45 = .ok (.return_, 1) := by decide +kernel
def F_X2_foreseeMelted_6 (fu : Nat) : Nat → Mm → Nat → Int32 → Int32 → Nat → Int32 → Int32 → Option Mm
  | 0, _, _, _, _, _, _, _ => none
  | n + 1, M, c0, x1, x2, c3, x4, x5 =>
    if (60 : Int32) < x5 then
      some M
    else
      ob1 (F_X6_write fu M c3 x5 x4) (fun M3 =>
      ob1 (F_X2_melting fu M3 c0 x1 x2 ((M3.1 c0 2) + x5)) (fun r5 =>
      F_X2_foreseeMelted_6 fu n M3 c0 x1 x2 c3 (x4 + r5) (x5 + (1 : Int32))))
set_option maxRecDepth 100000 in
set_option maxHeartbeats 4000000 in
theorem w_X2_foreseeMelted_6 {p : Program} {l : Launch} {e : Env} {s : State} {m : MethodId} {args : Array Value} {below : List Frame} {meth : Method} {c : Code} {G : Gv} (hC : Cx p s m args meth c cX2_foreseeMelted 6 none RX2) {fu : Nat} {M' : Mm} : ∀ (n : Nat) {c0 : Nat} {x1 : Int32} {x2 : Int32} {c3 : Nat} {x4 : Int32} {x5 : Int32} {M : Mm} {H : Heap} {locs : List Loc} {ls : Array Slot} (hk0 : kd c0 = 11) (hk3 : kd c3 = 1), F_X2_foreseeMelted_6 fu n M c0 x1 x2 c3 x4 x5 = some M' → St G s H locs M → lv_has ls 6 [(0, .ref (ad G c0)), (1, .int x1), (2, .int x2), (3, .ref (ad G c3)), (4, .int x4), (5, .int x5)] → W p l e rm_X2_foreseeMelted s m args below meth c H locs 0 0 (MQ below (QV G M') args s 0 0 (zA G)) (F0 m 6 ls []) := by
  intro n
  induction n with
  | zero =>
    intro c0 x1 x2 c3 x4 x5 M H locs ls hk0 hk3 hF hw hl
    cases hF
  | succ n ih =>
    intro c0 x1 x2 c3 x4 x5 M H locs ls hk0 hk3 hF hw hl
    unfold F_X2_foreseeMelted_6 at hF
    refine lv_iload hC.1 hC.2.1 dX2_foreseeMelted_6 (lv_at hl 5 rfl) ?_
    refine lv_bipush (v := (60 : Int32)) hC.1 hC.2.1 dX2_foreseeMelted_8 (by decide) ?_
    refine lv_icmp_gt (tgt := 45) hC.1 hC.2.1 dX2_foreseeMelted_10 (by decide) (fun b1 => ?_) (fun b1 => ?_)
    · have hF := ifP hF b1
      exact r_vretE hC hw hF dX2_foreseeMelted_45
    · have hF := ifN hF b1
      refine lv_aload_n hC.1 hC.2.1 dX2_foreseeMelted_13 rfl (lv_at hl 3 rfl) ?_
      refine lv_iload hC.1 hC.2.1 dX2_foreseeMelted_14 (lv_at hl 5 rfl) ?_
      refine lv_iload hC.1 hC.2.1 dX2_foreseeMelted_16 (lv_at hl 4 rfl) ?_
      obtain ⟨M3, h2, hF⟩ := ob1S hF
      refine k_Nv (As := [.ref (ad G c3), .int x5, .int x4]) (rest := []) hC hw (c_X6_write (M := M) hk3 h2) ys_X6_write (k := 12) rfl ⟨rfl, rfl⟩ ⟨Nat.le_of_ble_eq_true rfl, Nat.le_of_ble_eq_true rfl⟩ ⟨Nat.zero_le _, Nat.zero_le _⟩ rfl rfl (Nat.le_of_ble_eq_true rfl) hl dX2_foreseeMelted_18 (fun H locs hw => ?_)
      refine lv_iload hC.1 hC.2.1 dX2_foreseeMelted_21 (lv_at hl 4 rfl) ?_
      refine lv_aload_n hC.1 hC.2.1 dX2_foreseeMelted_23 rfl (lv_at hl 0 rfl) ?_
      refine lv_iload_n hC.1 hC.2.1 dX2_foreseeMelted_24 rfl (lv_at hl 1 rfl) ?_
      refine lv_iload_n hC.1 hC.2.1 dX2_foreseeMelted_25 rfl (lv_at hl 2 rfl) ?_
      refine lv_aload_n hC.1 hC.2.1 dX2_foreseeMelted_26 rfl (lv_at hl 0 rfl) ?_
      refine g2_today hC hw hk0 q1_35 dX2_foreseeMelted_27 ?_
      refine lv_iload hC.1 hC.2.1 dX2_foreseeMelted_30 (lv_at hl 5 rfl) ?_
      refine lv_iadd hC.1 hC.2.1 dX2_foreseeMelted_32 ?_
      obtain ⟨r5, h4, hF⟩ := ob1S hF
      refine k_Vi (As := [.int x1, .int x2, .int ((M3.1 c0 2) + x5)]) (rest := [.int x4]) hC hw (c_X2_melting (M := M3) hk0 h4) (RC_N hk0) yv_X2_melting q2_190 ⟨rfl, rfl⟩ ⟨Nat.le_of_ble_eq_true rfl, Nat.le_of_ble_eq_true rfl⟩ ⟨Nat.zero_le _, Nat.zero_le _⟩ rfl rfl (Nat.le_of_ble_eq_true rfl) hl dX2_foreseeMelted_33 (fun H locs hw => ?_)
      refine lv_iadd hC.1 hC.2.1 dX2_foreseeMelted_36 ?_
      refine lv_istore (lv' := [(4, .int (x4 + r5)), (0, .ref (ad G c0)), (1, .int x1), (2, .int x2), (3, .ref (ad G c3)), (5, .int x5)]) hC.1 hC.2.1 dX2_foreseeMelted_37 hl (by decide) rfl (fun ls hl => ?_)
      refine lv_iinc (v := (x5 + (1 : Int32))) (lv' := [(5, .int (x5 + (1 : Int32))), (4, .int (x4 + r5)), (0, .ref (ad G c0)), (1, .int x1), (2, .int x2), (3, .ref (ad G c3))]) hC.1 hC.2.1 dX2_foreseeMelted_39 hl (k := 5) rfl rfl (by decide) rfl (fun ls hl => ?_)
      refine lv_goto (tgt := 6) hC.1 hC.2.1 dX2_foreseeMelted_42 (by decide) ?_
      exact ih hk0 hk3 hF hw (lv_sub hl [2, 3, 4, 5, 1, 0] rfl)
def F_X2_foreseeMelted (fu : Nat) (M : Mm) (c0 : Nat) (x1 : Int32) (x2 : Int32) (c3 : Nat) : Option Mm :=
  F_X2_foreseeMelted_6 fu fu M c0 x1 x2 c3 (0 : Int32) (0 : Int32)
set_option maxRecDepth 100000 in
set_option maxHeartbeats 4000000 in
theorem c_X2_foreseeMelted {l : Launch} {G : Gv} {fu : Nat} {M : Mm} {c0 : Nat} {x1 : Int32} {x2 : Int32} {c3 : Nat} (hk0 : kd c0 = 11) (hk3 : kd c3 = 1) {M' : Mm} (hF : F_X2_foreseeMelted fu M c0 x1 x2 c3 = some M') : Met l yX2_foreseeMelted (.code yX2_foreseeMelted cX2_foreseeMelted 6 none :: zU) rm_X2_foreseeMelted (va_Pc [.ref (ad G c0), .int x1, .int x2, .ref (ad G c3)] (Wd G M)) (QV G M') 0 0 (zA G) := by
  refine zMet (by decide) rfl (Nat.le_of_ble_eq_true rfl) ?_
  intro p e s m below meth c hC hw ls hl
  have hl : lv_has ls 6 [(0, .ref (ad G c0)), (1, .int x1), (2, .int x2), (3, .ref (ad G c3))] := hl
  unfold F_X2_foreseeMelted at hF
  refine lv_iconst (v := (0 : Int32)) hC.1 hC.2.1 dX2_foreseeMelted_0 (by decide) ?_
  refine lv_istore (lv' := [(4, .int (0 : Int32)), (0, .ref (ad G c0)), (1, .int x1), (2, .int x2), (3, .ref (ad G c3))]) hC.1 hC.2.1 dX2_foreseeMelted_1 hl (by decide) rfl (fun ls hl => ?_)
  refine lv_iconst (v := (0 : Int32)) hC.1 hC.2.1 dX2_foreseeMelted_3 (by decide) ?_
  refine lv_istore (lv' := [(5, .int (0 : Int32)), (4, .int (0 : Int32)), (0, .ref (ad G c0)), (1, .int x1), (2, .int x2), (3, .ref (ad G c3))]) hC.1 hC.2.1 dX2_foreseeMelted_4 hl (by decide) rfl (fun ls hl => ?_)
  exact w_X2_foreseeMelted_6 hC _ hk0 hk3 hF hw (lv_sub hl [2, 3, 4, 5, 1, 0] rfl)
abbrev rm_X2_bulkIn : Room := { frames := 4, cells := 0, slots := 0, locals := 102 }
theorem yv_X2_bulkIn : YV yX2_bulkIn cX2_bulkIn 3 (some .int) 2 RX2 := ⟨⟨q3_57, q3_58, q1_2, q3_59⟩, by decide +kernel⟩
theorem dX2_bulkIn_0 : decode cX2_bulkIn 0 = .ok (.aload_n 0, 1) := by decide +kernel
theorem dX2_bulkIn_1 : decode cX2_bulkIn 1 = .ok (.iload_n 1, 1) := by decide +kernel
theorem dX2_bulkIn_2 : decode cX2_bulkIn 2 = .ok (.aload_n 0, 1) := by decide +kernel
theorem dX2_bulkIn_3 : decode cX2_bulkIn 3 = .ok (.getfield 24, 3) := by decide +kernel
theorem dX2_bulkIn_6 : decode cX2_bulkIn 6 = .ok (.iload_n 1, 1) := by decide +kernel
theorem dX2_bulkIn_7 : decode cX2_bulkIn 7 = .ok (.invokestatic 81, 3) := by decide +kernel
theorem dX2_bulkIn_10 : decode cX2_bulkIn 10 = .ok (.iload_n 2, 1) := by decide +kernel
theorem dX2_bulkIn_11 : decode cX2_bulkIn 11 = .ok (.invokevirtual 104, 3) := by decide +kernel
theorem dX2_bulkIn_14 : decode cX2_bulkIn 14 = .ok (.ireturn, 1) := by decide +kernel
def F_X2_bulkIn (fu : Nat) (M : Mm) (c0 : Nat) (x1 : Int32) (x2 : Int32) : Option Int32 :=
  ob1 (F_X6_read fu M (c0 + 5) x1) (fun r2 =>
  ob1 (F_X2_bulkBy fu M c0 x1 r2 x2) (fun r4 =>
  some r4))
set_option maxRecDepth 100000 in
set_option maxHeartbeats 4000000 in
theorem c_X2_bulkIn {l : Launch} {G : Gv} {fu : Nat} {M : Mm} {c0 : Nat} {x1 : Int32} {x2 : Int32} (hk0 : kd c0 = 11) {r : Int32} (hF : F_X2_bulkIn fu M c0 x1 x2 = some r) : Met l yX2_bulkIn (.code yX2_bulkIn cX2_bulkIn 3 (some .int) :: zU) rm_X2_bulkIn (va_Pc [.ref (ad G c0), .int x1, .int x2] (Wd G M)) (QI G r M) 0 0 (zA G) := by
  refine zMet (by decide) rfl (Nat.le_of_ble_eq_true rfl) ?_
  intro p e s m below meth c hC hw ls hl
  have hl : lv_has ls 3 [(0, .ref (ad G c0)), (1, .int x1), (2, .int x2)] := hl
  unfold F_X2_bulkIn at hF
  refine lv_aload_n hC.1 hC.2.1 dX2_bulkIn_0 rfl (lv_at hl 0 rfl) ?_
  refine lv_iload_n hC.1 hC.2.1 dX2_bulkIn_1 rfl (lv_at hl 1 rfl) ?_
  refine lv_aload_n hC.1 hC.2.1 dX2_bulkIn_2 rfl (lv_at hl 0 rfl) ?_
  refine g2_shadeOf hC hw hk0 q1_46 dX2_bulkIn_3 ?_
  refine lv_iload_n hC.1 hC.2.1 dX2_bulkIn_6 rfl (lv_at hl 1 rfl) ?_
  obtain ⟨r2, h1, hF⟩ := ob1S hF
  refine k_Ni (As := [.ref (ad G (c0 + 5)), .int x1]) (rest := [.int x1, .ref (ad G c0)]) hC hw (c_X6_read (M := M) (kdN5 hk0) h1) ys_X6_read (k := 10) rfl ⟨rfl, rfl⟩ ⟨Nat.le_of_ble_eq_true rfl, Nat.le_of_ble_eq_true rfl⟩ ⟨Nat.zero_le _, Nat.zero_le _⟩ rfl rfl (Nat.le_of_ble_eq_true rfl) hl dX2_bulkIn_7 (fun H locs hw => ?_)
  refine lv_iload_n hC.1 hC.2.1 dX2_bulkIn_10 rfl (lv_at hl 2 rfl) ?_
  obtain ⟨r4, h3, hF⟩ := ob1S hF
  refine k_Vi (As := [.int x1, .int r2, .int x2]) (rest := []) hC hw (c_X2_bulkBy (M := M) hk0 h3) (RC_N hk0) yv_X2_bulkBy q3_60 ⟨rfl, rfl⟩ ⟨Nat.le_of_ble_eq_true rfl, Nat.le_of_ble_eq_true rfl⟩ ⟨Nat.zero_le _, Nat.zero_le _⟩ rfl rfl (Nat.le_of_ble_eq_true rfl) hl dX2_bulkIn_11 (fun H locs hw => ?_)
  exact r_iretP hC hw hF dX2_bulkIn_14
abbrev rm_X2_goneIn : Room := { frames := 3, cells := 0, slots := 0, locals := 76 }
theorem yv_X2_goneIn : YV yX2_goneIn cX2_goneIn 4 (some .int) 1 RX2 := ⟨⟨q2_205, q2_206, q1_2, q2_207⟩, by decide +kernel⟩
theorem dX2_goneIn_0 : decode cX2_goneIn 0 = .ok (.aload_n 0, 1) := by decide +kernel
theorem dX2_goneIn_1 : decode cX2_goneIn 1 = .ok (.getfield 21, 3) := by decide +kernel
theorem dX2_goneIn_4 : decode cX2_goneIn 4 = .ok (.iload_n 1, 1) := by decide +kernel
theorem dX2_goneIn_5 : decode cX2_goneIn 5 = .ok (.invokestatic 81, 3) := by decide +kernel
theorem dX2_goneIn_8 : decode cX2_goneIn 8 = .ok (.istore_n 2, 1) := by decide +kernel
theorem dX2_goneIn_9 : decode cX2_goneIn 9 = .ok (.iconst 0, 1) := by decide +kernel
theorem dX2_goneIn_10 : decode cX2_goneIn 10 = .ok (.istore_n 3, 1) := by decide +kernel
theorem dX2_goneIn_11 : decode cX2_goneIn 11 = .ok (.iload_n 3, 1) := by decide +kernel
theorem dX2_goneIn_12 : decode cX2_goneIn 12 = .ok (.bipush 60, 2) := by decide +kernel
theorem dX2_goneIn_14 : decode cX2_goneIn 14 = .ok (.if_icmp .gt 24, 3) := by decide +kernel
theorem dX2_goneIn_17 : decode cX2_goneIn 17 = .ok (.iload_n 2, 1) := by decide +kernel
theorem dX2_goneIn_18 : decode cX2_goneIn 18 = .ok (.ifCond .gt 5, 3) := by decide +kernel
theorem dX2_goneIn_21 : decode cX2_goneIn 21 = .ok (.iload_n 3, 1) := by decide +kernel
theorem dX2_goneIn_22 : decode cX2_goneIn 22 = .ok (.ireturn, 1) := by decide +kernel
theorem dX2_goneIn_23 : decode cX2_goneIn 23 = .ok (.iload_n 2, 1) := by decide +kernel
theorem dX2_goneIn_24 : decode cX2_goneIn 24 = .ok (.aload_n 0, 1) := by decide +kernel
theorem dX2_goneIn_25 : decode cX2_goneIn 25 = .ok (.iload_n 1, 1) := by decide +kernel
theorem dX2_goneIn_26 : decode cX2_goneIn 26 = .ok (.iload_n 3, 1) := by decide +kernel
theorem dX2_goneIn_27 : decode cX2_goneIn 27 = .ok (.invokevirtual 94, 3) := by decide +kernel
theorem dX2_goneIn_30 : decode cX2_goneIn 30 = .ok (.isub, 1) := by decide +kernel
theorem dX2_goneIn_31 : decode cX2_goneIn 31 = .ok (.istore_n 2, 1) := by decide +kernel
theorem dX2_goneIn_32 : decode cX2_goneIn 32 = .ok (.iinc 3 1, 3) := by decide +kernel
theorem dX2_goneIn_35 : decode cX2_goneIn 35 = .ok (.goto (-24), 3) := by decide +kernel
theorem dX2_goneIn_38 : decode cX2_goneIn 38 = .ok (.bipush (-9), 2) := by decide +kernel
theorem dX2_goneIn_40 : decode cX2_goneIn 40 = .ok (.ireturn, 1) := by decide +kernel
def F_X2_goneIn_11 (fu : Nat) (M : Mm) : Nat → Nat → Int32 → Int32 → Int32 → Option Int32
  | 0, _, _, _, _ => none
  | n + 1, c0, x1, x2, x3 =>
    if (60 : Int32) < x3 then
      some (-9 : Int32)
    else
      if 0 < x2 then
        ob1 (F_X2_meltingIn fu M c0 x1 x3) (fun r4 =>
        F_X2_goneIn_11 fu M n c0 x1 (x2 - r4) (x3 + (1 : Int32)))
      else
        some x3
set_option maxRecDepth 100000 in
set_option maxHeartbeats 4000000 in
theorem w_X2_goneIn_11 {p : Program} {l : Launch} {e : Env} {s : State} {m : MethodId} {args : Array Value} {below : List Frame} {meth : Method} {c : Code} {G : Gv} (hC : Cx p s m args meth c cX2_goneIn 4 (some .int) RX2) {fu : Nat} {r : Int32} {M : Mm} : ∀ (n : Nat) {c0 : Nat} {x1 : Int32} {x2 : Int32} {x3 : Int32} {H : Heap} {locs : List Loc} {ls : Array Slot} (hk0 : kd c0 = 11), F_X2_goneIn_11 fu M n c0 x1 x2 x3 = some r → St G s H locs M → lv_has ls 4 [(0, .ref (ad G c0)), (1, .int x1), (2, .int x2), (3, .int x3)] → W p l e rm_X2_goneIn s m args below meth c H locs 0 0 (MQ below (QI G r M) args s 0 0 (zA G)) (F0 m 11 ls []) := by
  intro n
  induction n with
  | zero =>
    intro c0 x1 x2 x3 H locs ls hk0 hF hw hl
    cases hF
  | succ n ih =>
    intro c0 x1 x2 x3 H locs ls hk0 hF hw hl
    unfold F_X2_goneIn_11 at hF
    refine lv_iload_n hC.1 hC.2.1 dX2_goneIn_11 rfl (lv_at hl 3 rfl) ?_
    refine lv_bipush (v := (60 : Int32)) hC.1 hC.2.1 dX2_goneIn_12 (by decide) ?_
    refine lv_icmp_gt (tgt := 38) hC.1 hC.2.1 dX2_goneIn_14 (by decide) (fun b1 => ?_) (fun b1 => ?_)
    · have hF := ifP hF b1
      refine lv_bipush (v := (-9 : Int32)) hC.1 hC.2.1 dX2_goneIn_38 (by decide) ?_
      exact r_iretP hC hw hF dX2_goneIn_40
    · have hF := ifN hF b1
      refine lv_iload_n hC.1 hC.2.1 dX2_goneIn_17 rfl (lv_at hl 2 rfl) ?_
      refine lv_if_gt (tgt := 23) hC.1 hC.2.1 dX2_goneIn_18 (by decide) (fun b2 => ?_) (fun b2 => ?_)
      · have hF := ifP hF b2
        refine lv_iload_n hC.1 hC.2.1 dX2_goneIn_23 rfl (lv_at hl 2 rfl) ?_
        refine lv_aload_n hC.1 hC.2.1 dX2_goneIn_24 rfl (lv_at hl 0 rfl) ?_
        refine lv_iload_n hC.1 hC.2.1 dX2_goneIn_25 rfl (lv_at hl 1 rfl) ?_
        refine lv_iload_n hC.1 hC.2.1 dX2_goneIn_26 rfl (lv_at hl 3 rfl) ?_
        obtain ⟨r4, h3, hF⟩ := ob1S hF
        refine k_Vi (As := [.int x1, .int x3]) (rest := [.int x2]) hC hw (c_X2_meltingIn (M := M) hk0 h3) (RC_N hk0) yv_X2_meltingIn q2_208 ⟨rfl, rfl⟩ ⟨Nat.le_of_ble_eq_true rfl, Nat.le_of_ble_eq_true rfl⟩ ⟨Nat.zero_le _, Nat.zero_le _⟩ rfl rfl (Nat.le_of_ble_eq_true rfl) hl dX2_goneIn_27 (fun H locs hw => ?_)
        refine lv_isub hC.1 hC.2.1 dX2_goneIn_30 ?_
        refine lv_istore_n (lv' := [(2, .int (x2 - r4)), (0, .ref (ad G c0)), (1, .int x1), (3, .int x3)]) hC.1 hC.2.1 dX2_goneIn_31 rfl hl (by decide) rfl (fun ls hl => ?_)
        refine lv_iinc (v := (x3 + (1 : Int32))) (lv' := [(3, .int (x3 + (1 : Int32))), (2, .int (x2 - r4)), (0, .ref (ad G c0)), (1, .int x1)]) hC.1 hC.2.1 dX2_goneIn_32 hl (k := 3) rfl rfl (by decide) rfl (fun ls hl => ?_)
        refine lv_goto (tgt := 11) hC.1 hC.2.1 dX2_goneIn_35 (by decide) ?_
        exact ih hk0 hF hw (lv_sub hl [2, 3, 1, 0] rfl)
      · have hF := ifN hF b2
        refine lv_iload_n hC.1 hC.2.1 dX2_goneIn_21 rfl (lv_at hl 3 rfl) ?_
        exact r_iretP hC hw hF dX2_goneIn_22
def F_X2_goneIn (fu : Nat) (M : Mm) (c0 : Nat) (x1 : Int32) : Option Int32 :=
  ob1 (F_X6_read fu M (c0 + 4) x1) (fun r2 =>
  F_X2_goneIn_11 fu M fu c0 x1 r2 (0 : Int32))
set_option maxRecDepth 100000 in
set_option maxHeartbeats 4000000 in
theorem c_X2_goneIn {l : Launch} {G : Gv} {fu : Nat} {M : Mm} {c0 : Nat} {x1 : Int32} (hk0 : kd c0 = 11) {r : Int32} (hF : F_X2_goneIn fu M c0 x1 = some r) : Met l yX2_goneIn (.code yX2_goneIn cX2_goneIn 4 (some .int) :: zU) rm_X2_goneIn (va_Pc [.ref (ad G c0), .int x1] (Wd G M)) (QI G r M) 0 0 (zA G) := by
  refine zMet (by decide) rfl (Nat.le_of_ble_eq_true rfl) ?_
  intro p e s m below meth c hC hw ls hl
  have hl : lv_has ls 4 [(0, .ref (ad G c0)), (1, .int x1)] := hl
  unfold F_X2_goneIn at hF
  refine lv_aload_n hC.1 hC.2.1 dX2_goneIn_0 rfl (lv_at hl 0 rfl) ?_
  refine g2_bulkOf hC hw hk0 q1_43 dX2_goneIn_1 ?_
  refine lv_iload_n hC.1 hC.2.1 dX2_goneIn_4 rfl (lv_at hl 1 rfl) ?_
  obtain ⟨r2, h1, hF⟩ := ob1S hF
  refine k_Ni (As := [.ref (ad G (c0 + 4)), .int x1]) (rest := []) hC hw (c_X6_read (M := M) (kdN4 hk0) h1) ys_X6_read (k := 10) rfl ⟨rfl, rfl⟩ ⟨Nat.le_of_ble_eq_true rfl, Nat.le_of_ble_eq_true rfl⟩ ⟨Nat.zero_le _, Nat.zero_le _⟩ rfl rfl (Nat.le_of_ble_eq_true rfl) hl dX2_goneIn_5 (fun H locs hw => ?_)
  refine lv_istore_n (lv' := [(2, .int r2), (0, .ref (ad G c0)), (1, .int x1)]) hC.1 hC.2.1 dX2_goneIn_8 rfl hl (by decide) rfl (fun ls hl => ?_)
  refine lv_iconst (v := (0 : Int32)) hC.1 hC.2.1 dX2_goneIn_9 (by decide) ?_
  refine lv_istore_n (lv' := [(3, .int (0 : Int32)), (2, .int r2), (0, .ref (ad G c0)), (1, .int x1)]) hC.1 hC.2.1 dX2_goneIn_10 rfl hl (by decide) rfl (fun ls hl => ?_)
  exact w_X2_goneIn_11 hC _ hk0 hF hw (lv_sub hl [2, 3, 1, 0] rfl)
abbrev rm_X2_votersBy : Room := { frames := 2, cells := 0, slots := 0, locals := 44 }
theorem yv_X2_votersBy : YV yX2_votersBy cX2_votersBy 4 (some .int) 1 RX2 := ⟨⟨q2_157, q2_158, q1_2, q2_159⟩, by decide +kernel⟩
theorem dX2_votersBy_0 : decode cX2_votersBy 0 = .ok (.iconst 0, 1) := by decide +kernel
theorem dX2_votersBy_1 : decode cX2_votersBy 1 = .ok (.istore_n 2, 1) := by decide +kernel
theorem dX2_votersBy_2 : decode cX2_votersBy 2 = .ok (.iconst 0, 1) := by decide +kernel
theorem dX2_votersBy_3 : decode cX2_votersBy 3 = .ok (.istore_n 3, 1) := by decide +kernel
theorem dX2_votersBy_4 : decode cX2_votersBy 4 = .ok (.iload_n 3, 1) := by decide +kernel
theorem dX2_votersBy_5 : decode cX2_votersBy 5 = .ok (.aload_n 0, 1) := by decide +kernel
theorem dX2_votersBy_6 : decode cX2_votersBy 6 = .ok (.getfield 48, 3) := by decide +kernel
theorem dX2_votersBy_9 : decode cX2_votersBy 9 = .ok (.if_icmp .ge 32, 3) := by decide +kernel
theorem dX2_votersBy_12 : decode cX2_votersBy 12 = .ok (.aload_n 0, 1) := by decide +kernel
theorem dX2_votersBy_13 : decode cX2_votersBy 13 = .ok (.iload_n 3, 1) := by decide +kernel
theorem dX2_votersBy_14 : decode cX2_votersBy 14 = .ok (.aload_n 0, 1) := by decide +kernel
theorem dX2_votersBy_15 : decode cX2_votersBy 15 = .ok (.getfield 21, 3) := by decide +kernel
theorem dX2_votersBy_18 : decode cX2_votersBy 18 = .ok (.iload_n 3, 1) := by decide +kernel
theorem dX2_votersBy_19 : decode cX2_votersBy 19 = .ok (.invokestatic 81, 3) := by decide +kernel
theorem dX2_votersBy_22 : decode cX2_votersBy 22 = .ok (.iload_n 1, 1) := by decide +kernel
theorem dX2_votersBy_23 : decode cX2_votersBy 23 = .ok (.invokevirtual 114, 3) := by decide +kernel
theorem dX2_votersBy_26 : decode cX2_votersBy 26 = .ok (.ifCond .eq 9, 3) := by decide +kernel
theorem dX2_votersBy_29 : decode cX2_votersBy 29 = .ok (.iload_n 2, 1) := by decide +kernel
theorem dX2_votersBy_30 : decode cX2_votersBy 30 = .ok (.iconst 1, 1) := by decide +kernel
theorem dX2_votersBy_31 : decode cX2_votersBy 31 = .ok (.iload_n 3, 1) := by decide +kernel
theorem dX2_votersBy_32 : decode cX2_votersBy 32 = .ok (.ishl, 1) := by decide +kernel
theorem dX2_votersBy_33 : decode cX2_votersBy 33 = .ok (.ior, 1) := by decide +kernel
theorem dX2_votersBy_34 : decode cX2_votersBy 34 = .ok (.istore_n 2, 1) := by decide +kernel
theorem dX2_votersBy_35 : decode cX2_votersBy 35 = .ok (.iinc 3 1, 3) := by decide +kernel
theorem dX2_votersBy_38 : decode cX2_votersBy 38 = .ok (.goto (-34), 3) := by decide +kernel
theorem dX2_votersBy_41 : decode cX2_votersBy 41 = .ok (.iload_n 2, 1) := by decide +kernel
theorem dX2_votersBy_42 : decode cX2_votersBy 42 = .ok (.ireturn, 1) := by decide +kernel
def F_X2_votersBy_4 (fu : Nat) (M : Mm) : Nat → Nat → Int32 → Int32 → Int32 → Option Int32
  | 0, _, _, _, _ => none
  | n + 1, c0, x1, x2, x3 =>
    if (M.1 c0 0) ≤ x3 then
      some x2
    else
      ob1 (F_X6_read fu M (c0 + 4) x3) (fun r3 =>
      ob1 (F_X2_hasRight fu M c0 x3 r3 x1) (fun r5 =>
      if r5 = 0 then
        F_X2_votersBy_4 fu M n c0 x1 x2 (x3 + (1 : Int32))
      else
        F_X2_votersBy_4 fu M n c0 x1 (x2 ||| ((1 : Int32) <<< (x3 &&& 31))) (x3 + (1 : Int32))))
set_option maxRecDepth 100000 in
set_option maxHeartbeats 4000000 in
theorem w_X2_votersBy_4 {p : Program} {l : Launch} {e : Env} {s : State} {m : MethodId} {args : Array Value} {below : List Frame} {meth : Method} {c : Code} {G : Gv} (hC : Cx p s m args meth c cX2_votersBy 4 (some .int) RX2) {fu : Nat} {r : Int32} {M : Mm} : ∀ (n : Nat) {c0 : Nat} {x1 : Int32} {x2 : Int32} {x3 : Int32} {H : Heap} {locs : List Loc} {ls : Array Slot} (hk0 : kd c0 = 11), F_X2_votersBy_4 fu M n c0 x1 x2 x3 = some r → St G s H locs M → lv_has ls 4 [(0, .ref (ad G c0)), (1, .int x1), (2, .int x2), (3, .int x3)] → W p l e rm_X2_votersBy s m args below meth c H locs 0 0 (MQ below (QI G r M) args s 0 0 (zA G)) (F0 m 4 ls []) := by
  intro n
  induction n with
  | zero =>
    intro c0 x1 x2 x3 H locs ls hk0 hF hw hl
    cases hF
  | succ n ih =>
    intro c0 x1 x2 x3 H locs ls hk0 hF hw hl
    unfold F_X2_votersBy_4 at hF
    refine lv_iload_n hC.1 hC.2.1 dX2_votersBy_4 rfl (lv_at hl 3 rfl) ?_
    refine lv_aload_n hC.1 hC.2.1 dX2_votersBy_5 rfl (lv_at hl 0 rfl) ?_
    refine g2_men hC hw hk0 q1_31 dX2_votersBy_6 ?_
    refine lv_icmp_ge (tgt := 41) hC.1 hC.2.1 dX2_votersBy_9 (by decide) (fun b1 => ?_) (fun b1 => ?_)
    · have hF := ifP hF b1
      refine lv_iload_n hC.1 hC.2.1 dX2_votersBy_41 rfl (lv_at hl 2 rfl) ?_
      exact r_iretP hC hw hF dX2_votersBy_42
    · have hF := ifN hF b1
      refine lv_aload_n hC.1 hC.2.1 dX2_votersBy_12 rfl (lv_at hl 0 rfl) ?_
      refine lv_iload_n hC.1 hC.2.1 dX2_votersBy_13 rfl (lv_at hl 3 rfl) ?_
      refine lv_aload_n hC.1 hC.2.1 dX2_votersBy_14 rfl (lv_at hl 0 rfl) ?_
      refine g2_bulkOf hC hw hk0 q1_43 dX2_votersBy_15 ?_
      refine lv_iload_n hC.1 hC.2.1 dX2_votersBy_18 rfl (lv_at hl 3 rfl) ?_
      obtain ⟨r3, h2, hF⟩ := ob1S hF
      refine k_Ni (As := [.ref (ad G (c0 + 4)), .int x3]) (rest := [.int x3, .ref (ad G c0)]) hC hw (c_X6_read (M := M) (kdN4 hk0) h2) ys_X6_read (k := 10) rfl ⟨rfl, rfl⟩ ⟨Nat.le_of_ble_eq_true rfl, Nat.le_of_ble_eq_true rfl⟩ ⟨Nat.zero_le _, Nat.zero_le _⟩ rfl rfl (Nat.le_of_ble_eq_true rfl) hl dX2_votersBy_19 (fun H locs hw => ?_)
      refine lv_iload_n hC.1 hC.2.1 dX2_votersBy_22 rfl (lv_at hl 1 rfl) ?_
      obtain ⟨r5, h4, hF⟩ := ob1S hF
      refine k_Vi (As := [.int x3, .int r3, .int x1]) (rest := []) hC hw (c_X2_hasRight (M := M) hk0 h4) (RC_N hk0) yv_X2_hasRight q2_160 ⟨rfl, rfl⟩ ⟨Nat.le_of_ble_eq_true rfl, Nat.le_of_ble_eq_true rfl⟩ ⟨Nat.zero_le _, Nat.zero_le _⟩ rfl rfl (Nat.le_of_ble_eq_true rfl) hl dX2_votersBy_23 (fun H locs hw => ?_)
      refine lv_if_eq (tgt := 35) hC.1 hC.2.1 dX2_votersBy_26 (by decide) (fun b6 => ?_) (fun b6 => ?_)
      · have hF := ifP hF b6
        refine lv_iinc (v := (x3 + (1 : Int32))) (lv' := [(3, .int (x3 + (1 : Int32))), (0, .ref (ad G c0)), (1, .int x1), (2, .int x2)]) hC.1 hC.2.1 dX2_votersBy_35 hl (k := 3) rfl rfl (by decide) rfl (fun ls hl => ?_)
        refine lv_goto (tgt := 4) hC.1 hC.2.1 dX2_votersBy_38 (by decide) ?_
        exact ih hk0 hF hw (lv_sub hl [1, 2, 3, 0] rfl)
      · have hF := ifN hF b6
        refine lv_iload_n hC.1 hC.2.1 dX2_votersBy_29 rfl (lv_at hl 2 rfl) ?_
        refine lv_iconst (v := (1 : Int32)) hC.1 hC.2.1 dX2_votersBy_30 (by decide) ?_
        refine lv_iload_n hC.1 hC.2.1 dX2_votersBy_31 rfl (lv_at hl 3 rfl) ?_
        refine lv_ishl hC.1 hC.2.1 dX2_votersBy_32 ?_
        refine lv_ior hC.1 hC.2.1 dX2_votersBy_33 ?_
        refine lv_istore_n (lv' := [(2, .int (x2 ||| ((1 : Int32) <<< (x3 &&& 31)))), (0, .ref (ad G c0)), (1, .int x1), (3, .int x3)]) hC.1 hC.2.1 dX2_votersBy_34 rfl hl (by decide) rfl (fun ls hl => ?_)
        refine lv_iinc (v := (x3 + (1 : Int32))) (lv' := [(3, .int (x3 + (1 : Int32))), (2, .int (x2 ||| ((1 : Int32) <<< (x3 &&& 31)))), (0, .ref (ad G c0)), (1, .int x1)]) hC.1 hC.2.1 dX2_votersBy_35 hl (k := 3) rfl rfl (by decide) rfl (fun ls hl => ?_)
        refine lv_goto (tgt := 4) hC.1 hC.2.1 dX2_votersBy_38 (by decide) ?_
        exact ih hk0 hF hw (lv_sub hl [2, 3, 1, 0] rfl)
def F_X2_votersBy (fu : Nat) (M : Mm) (c0 : Nat) (x1 : Int32) : Option Int32 :=
  F_X2_votersBy_4 fu M fu c0 x1 (0 : Int32) (0 : Int32)
set_option maxRecDepth 100000 in
set_option maxHeartbeats 4000000 in
theorem c_X2_votersBy {l : Launch} {G : Gv} {fu : Nat} {M : Mm} {c0 : Nat} {x1 : Int32} (hk0 : kd c0 = 11) {r : Int32} (hF : F_X2_votersBy fu M c0 x1 = some r) : Met l yX2_votersBy (.code yX2_votersBy cX2_votersBy 4 (some .int) :: zU) rm_X2_votersBy (va_Pc [.ref (ad G c0), .int x1] (Wd G M)) (QI G r M) 0 0 (zA G) := by
  refine zMet (by decide) rfl (Nat.le_of_ble_eq_true rfl) ?_
  intro p e s m below meth c hC hw ls hl
  have hl : lv_has ls 4 [(0, .ref (ad G c0)), (1, .int x1)] := hl
  unfold F_X2_votersBy at hF
  refine lv_iconst (v := (0 : Int32)) hC.1 hC.2.1 dX2_votersBy_0 (by decide) ?_
  refine lv_istore_n (lv' := [(2, .int (0 : Int32)), (0, .ref (ad G c0)), (1, .int x1)]) hC.1 hC.2.1 dX2_votersBy_1 rfl hl (by decide) rfl (fun ls hl => ?_)
  refine lv_iconst (v := (0 : Int32)) hC.1 hC.2.1 dX2_votersBy_2 (by decide) ?_
  refine lv_istore_n (lv' := [(3, .int (0 : Int32)), (2, .int (0 : Int32)), (0, .ref (ad G c0)), (1, .int x1)]) hC.1 hC.2.1 dX2_votersBy_3 rfl hl (by decide) rfl (fun ls hl => ?_)
  exact w_X2_votersBy_4 hC _ hk0 hF hw (lv_sub hl [2, 3, 1, 0] rfl)
abbrev rm_X2_living : Room := { frames := 3, cells := 0, slots := 0, locals := 67 }
theorem yv_X2_living : YV yX2_living cX2_living 1 (some .int) 0 RX2 := ⟨⟨q3_8, q3_9, q1_2, q3_10⟩, by decide +kernel⟩
theorem dX2_living_0 : decode cX2_living 0 = .ok (.aload_n 0, 1) := by decide +kernel
theorem dX2_living_1 : decode cX2_living 1 = .ok (.iconst 1, 1) := by decide +kernel
theorem dX2_living_2 : decode cX2_living 2 = .ok (.invokevirtual 110, 3) := by decide +kernel
theorem dX2_living_5 : decode cX2_living 5 = .ok (.ireturn, 1) := by decide +kernel
def F_X2_living (fu : Nat) (M : Mm) (c0 : Nat) : Option Int32 :=
  ob1 (F_X2_votersBy fu M c0 (1 : Int32)) (fun r2 =>
  some r2)
set_option maxRecDepth 100000 in
set_option maxHeartbeats 4000000 in
theorem c_X2_living {l : Launch} {G : Gv} {fu : Nat} {M : Mm} {c0 : Nat} (hk0 : kd c0 = 11) {r : Int32} (hF : F_X2_living fu M c0 = some r) : Met l yX2_living (.code yX2_living cX2_living 1 (some .int) :: zU) rm_X2_living (va_Pc [.ref (ad G c0)] (Wd G M)) (QI G r M) 0 0 (zA G) := by
  refine zMet (by decide) rfl (Nat.le_of_ble_eq_true rfl) ?_
  intro p e s m below meth c hC hw ls hl
  have hl : lv_has ls 1 [(0, .ref (ad G c0))] := hl
  unfold F_X2_living at hF
  refine lv_aload_n hC.1 hC.2.1 dX2_living_0 rfl (lv_at hl 0 rfl) ?_
  refine lv_iconst (v := (1 : Int32)) hC.1 hC.2.1 dX2_living_1 (by decide) ?_
  obtain ⟨r2, h1, hF⟩ := ob1S hF
  refine k_Vi (As := [.int (1 : Int32)]) (rest := []) hC hw (c_X2_votersBy (M := M) hk0 h1) (RC_N hk0) yv_X2_votersBy q2_156 ⟨rfl, rfl⟩ ⟨Nat.le_of_ble_eq_true rfl, Nat.le_of_ble_eq_true rfl⟩ ⟨Nat.zero_le _, Nat.zero_le _⟩ rfl rfl (Nat.le_of_ble_eq_true rfl) hl dX2_living_2 (fun H locs hw => ?_)
  exact r_iretP hC hw hF dX2_living_5
abbrev rm_X2_votersIn : Room := { frames := 5, cells := 0, slots := 0, locals := 125 }
theorem yv_X2_votersIn : YV yX2_votersIn cX2_votersIn 4 (some .int) 1 RX2 := ⟨⟨q3_77, q3_78, q1_2, q3_79⟩, by decide +kernel⟩
theorem dX2_votersIn_0 : decode cX2_votersIn 0 = .ok (.iconst 0, 1) := by decide +kernel
theorem dX2_votersIn_1 : decode cX2_votersIn 1 = .ok (.istore_n 2, 1) := by decide +kernel
theorem dX2_votersIn_2 : decode cX2_votersIn 2 = .ok (.iconst 0, 1) := by decide +kernel
theorem dX2_votersIn_3 : decode cX2_votersIn 3 = .ok (.istore_n 3, 1) := by decide +kernel
theorem dX2_votersIn_4 : decode cX2_votersIn 4 = .ok (.iload_n 3, 1) := by decide +kernel
theorem dX2_votersIn_5 : decode cX2_votersIn 5 = .ok (.aload_n 0, 1) := by decide +kernel
theorem dX2_votersIn_6 : decode cX2_votersIn 6 = .ok (.getfield 48, 3) := by decide +kernel
theorem dX2_votersIn_9 : decode cX2_votersIn 9 = .ok (.if_icmp .ge 32, 3) := by decide +kernel
theorem dX2_votersIn_12 : decode cX2_votersIn 12 = .ok (.aload_n 0, 1) := by decide +kernel
theorem dX2_votersIn_13 : decode cX2_votersIn 13 = .ok (.iload_n 3, 1) := by decide +kernel
theorem dX2_votersIn_14 : decode cX2_votersIn 14 = .ok (.aload_n 0, 1) := by decide +kernel
theorem dX2_votersIn_15 : decode cX2_votersIn 15 = .ok (.getfield 24, 3) := by decide +kernel
theorem dX2_votersIn_18 : decode cX2_votersIn 18 = .ok (.iload_n 3, 1) := by decide +kernel
theorem dX2_votersIn_19 : decode cX2_votersIn 19 = .ok (.invokestatic 81, 3) := by decide +kernel
theorem dX2_votersIn_22 : decode cX2_votersIn 22 = .ok (.iload_n 1, 1) := by decide +kernel
theorem dX2_votersIn_23 : decode cX2_votersIn 23 = .ok (.invokevirtual 118, 3) := by decide +kernel
theorem dX2_votersIn_26 : decode cX2_votersIn 26 = .ok (.ifCond .eq 9, 3) := by decide +kernel
theorem dX2_votersIn_29 : decode cX2_votersIn 29 = .ok (.iload_n 2, 1) := by decide +kernel
theorem dX2_votersIn_30 : decode cX2_votersIn 30 = .ok (.iconst 1, 1) := by decide +kernel
theorem dX2_votersIn_31 : decode cX2_votersIn 31 = .ok (.iload_n 3, 1) := by decide +kernel
theorem dX2_votersIn_32 : decode cX2_votersIn 32 = .ok (.ishl, 1) := by decide +kernel
theorem dX2_votersIn_33 : decode cX2_votersIn 33 = .ok (.ior, 1) := by decide +kernel
theorem dX2_votersIn_34 : decode cX2_votersIn 34 = .ok (.istore_n 2, 1) := by decide +kernel
theorem dX2_votersIn_35 : decode cX2_votersIn 35 = .ok (.iinc 3 1, 3) := by decide +kernel
theorem dX2_votersIn_38 : decode cX2_votersIn 38 = .ok (.goto (-34), 3) := by decide +kernel
theorem dX2_votersIn_41 : decode cX2_votersIn 41 = .ok (.iload_n 2, 1) := by decide +kernel
theorem dX2_votersIn_42 : decode cX2_votersIn 42 = .ok (.ireturn, 1) := by decide +kernel
def F_X2_votersIn_4 (fu : Nat) (M : Mm) : Nat → Nat → Int32 → Int32 → Int32 → Option Int32
  | 0, _, _, _, _ => none
  | n + 1, c0, x1, x2, x3 =>
    if (M.1 c0 0) ≤ x3 then
      some x2
    else
      ob1 (F_X6_read fu M (c0 + 5) x3) (fun r3 =>
      ob1 (F_X2_hasRightBy fu M c0 x3 r3 x1) (fun r5 =>
      if r5 = 0 then
        F_X2_votersIn_4 fu M n c0 x1 x2 (x3 + (1 : Int32))
      else
        F_X2_votersIn_4 fu M n c0 x1 (x2 ||| ((1 : Int32) <<< (x3 &&& 31))) (x3 + (1 : Int32))))
set_option maxRecDepth 100000 in
set_option maxHeartbeats 4000000 in
theorem w_X2_votersIn_4 {p : Program} {l : Launch} {e : Env} {s : State} {m : MethodId} {args : Array Value} {below : List Frame} {meth : Method} {c : Code} {G : Gv} (hC : Cx p s m args meth c cX2_votersIn 4 (some .int) RX2) {fu : Nat} {r : Int32} {M : Mm} : ∀ (n : Nat) {c0 : Nat} {x1 : Int32} {x2 : Int32} {x3 : Int32} {H : Heap} {locs : List Loc} {ls : Array Slot} (hk0 : kd c0 = 11), F_X2_votersIn_4 fu M n c0 x1 x2 x3 = some r → St G s H locs M → lv_has ls 4 [(0, .ref (ad G c0)), (1, .int x1), (2, .int x2), (3, .int x3)] → W p l e rm_X2_votersIn s m args below meth c H locs 0 0 (MQ below (QI G r M) args s 0 0 (zA G)) (F0 m 4 ls []) := by
  intro n
  induction n with
  | zero =>
    intro c0 x1 x2 x3 H locs ls hk0 hF hw hl
    cases hF
  | succ n ih =>
    intro c0 x1 x2 x3 H locs ls hk0 hF hw hl
    unfold F_X2_votersIn_4 at hF
    refine lv_iload_n hC.1 hC.2.1 dX2_votersIn_4 rfl (lv_at hl 3 rfl) ?_
    refine lv_aload_n hC.1 hC.2.1 dX2_votersIn_5 rfl (lv_at hl 0 rfl) ?_
    refine g2_men hC hw hk0 q1_31 dX2_votersIn_6 ?_
    refine lv_icmp_ge (tgt := 41) hC.1 hC.2.1 dX2_votersIn_9 (by decide) (fun b1 => ?_) (fun b1 => ?_)
    · have hF := ifP hF b1
      refine lv_iload_n hC.1 hC.2.1 dX2_votersIn_41 rfl (lv_at hl 2 rfl) ?_
      exact r_iretP hC hw hF dX2_votersIn_42
    · have hF := ifN hF b1
      refine lv_aload_n hC.1 hC.2.1 dX2_votersIn_12 rfl (lv_at hl 0 rfl) ?_
      refine lv_iload_n hC.1 hC.2.1 dX2_votersIn_13 rfl (lv_at hl 3 rfl) ?_
      refine lv_aload_n hC.1 hC.2.1 dX2_votersIn_14 rfl (lv_at hl 0 rfl) ?_
      refine g2_shadeOf hC hw hk0 q1_46 dX2_votersIn_15 ?_
      refine lv_iload_n hC.1 hC.2.1 dX2_votersIn_18 rfl (lv_at hl 3 rfl) ?_
      obtain ⟨r3, h2, hF⟩ := ob1S hF
      refine k_Ni (As := [.ref (ad G (c0 + 5)), .int x3]) (rest := [.int x3, .ref (ad G c0)]) hC hw (c_X6_read (M := M) (kdN5 hk0) h2) ys_X6_read (k := 10) rfl ⟨rfl, rfl⟩ ⟨Nat.le_of_ble_eq_true rfl, Nat.le_of_ble_eq_true rfl⟩ ⟨Nat.zero_le _, Nat.zero_le _⟩ rfl rfl (Nat.le_of_ble_eq_true rfl) hl dX2_votersIn_19 (fun H locs hw => ?_)
      refine lv_iload_n hC.1 hC.2.1 dX2_votersIn_22 rfl (lv_at hl 1 rfl) ?_
      obtain ⟨r5, h4, hF⟩ := ob1S hF
      refine k_Vi (As := [.int x3, .int r3, .int x1]) (rest := []) hC hw (c_X2_hasRightBy (M := M) hk0 h4) (RC_N hk0) yv_X2_hasRightBy q3_80 ⟨rfl, rfl⟩ ⟨Nat.le_of_ble_eq_true rfl, Nat.le_of_ble_eq_true rfl⟩ ⟨Nat.zero_le _, Nat.zero_le _⟩ rfl rfl (Nat.le_of_ble_eq_true rfl) hl dX2_votersIn_23 (fun H locs hw => ?_)
      refine lv_if_eq (tgt := 35) hC.1 hC.2.1 dX2_votersIn_26 (by decide) (fun b6 => ?_) (fun b6 => ?_)
      · have hF := ifP hF b6
        refine lv_iinc (v := (x3 + (1 : Int32))) (lv' := [(3, .int (x3 + (1 : Int32))), (0, .ref (ad G c0)), (1, .int x1), (2, .int x2)]) hC.1 hC.2.1 dX2_votersIn_35 hl (k := 3) rfl rfl (by decide) rfl (fun ls hl => ?_)
        refine lv_goto (tgt := 4) hC.1 hC.2.1 dX2_votersIn_38 (by decide) ?_
        exact ih hk0 hF hw (lv_sub hl [1, 2, 3, 0] rfl)
      · have hF := ifN hF b6
        refine lv_iload_n hC.1 hC.2.1 dX2_votersIn_29 rfl (lv_at hl 2 rfl) ?_
        refine lv_iconst (v := (1 : Int32)) hC.1 hC.2.1 dX2_votersIn_30 (by decide) ?_
        refine lv_iload_n hC.1 hC.2.1 dX2_votersIn_31 rfl (lv_at hl 3 rfl) ?_
        refine lv_ishl hC.1 hC.2.1 dX2_votersIn_32 ?_
        refine lv_ior hC.1 hC.2.1 dX2_votersIn_33 ?_
        refine lv_istore_n (lv' := [(2, .int (x2 ||| ((1 : Int32) <<< (x3 &&& 31)))), (0, .ref (ad G c0)), (1, .int x1), (3, .int x3)]) hC.1 hC.2.1 dX2_votersIn_34 rfl hl (by decide) rfl (fun ls hl => ?_)
        refine lv_iinc (v := (x3 + (1 : Int32))) (lv' := [(3, .int (x3 + (1 : Int32))), (2, .int (x2 ||| ((1 : Int32) <<< (x3 &&& 31)))), (0, .ref (ad G c0)), (1, .int x1)]) hC.1 hC.2.1 dX2_votersIn_35 hl (k := 3) rfl rfl (by decide) rfl (fun ls hl => ?_)
        refine lv_goto (tgt := 4) hC.1 hC.2.1 dX2_votersIn_38 (by decide) ?_
        exact ih hk0 hF hw (lv_sub hl [2, 3, 1, 0] rfl)
def F_X2_votersIn (fu : Nat) (M : Mm) (c0 : Nat) (x1 : Int32) : Option Int32 :=
  F_X2_votersIn_4 fu M fu c0 x1 (0 : Int32) (0 : Int32)
set_option maxRecDepth 100000 in
set_option maxHeartbeats 4000000 in
theorem c_X2_votersIn {l : Launch} {G : Gv} {fu : Nat} {M : Mm} {c0 : Nat} {x1 : Int32} (hk0 : kd c0 = 11) {r : Int32} (hF : F_X2_votersIn fu M c0 x1 = some r) : Met l yX2_votersIn (.code yX2_votersIn cX2_votersIn 4 (some .int) :: zU) rm_X2_votersIn (va_Pc [.ref (ad G c0), .int x1] (Wd G M)) (QI G r M) 0 0 (zA G) := by
  refine zMet (by decide) rfl (Nat.le_of_ble_eq_true rfl) ?_
  intro p e s m below meth c hC hw ls hl
  have hl : lv_has ls 4 [(0, .ref (ad G c0)), (1, .int x1)] := hl
  unfold F_X2_votersIn at hF
  refine lv_iconst (v := (0 : Int32)) hC.1 hC.2.1 dX2_votersIn_0 (by decide) ?_
  refine lv_istore_n (lv' := [(2, .int (0 : Int32)), (0, .ref (ad G c0)), (1, .int x1)]) hC.1 hC.2.1 dX2_votersIn_1 rfl hl (by decide) rfl (fun ls hl => ?_)
  refine lv_iconst (v := (0 : Int32)) hC.1 hC.2.1 dX2_votersIn_2 (by decide) ?_
  refine lv_istore_n (lv' := [(3, .int (0 : Int32)), (2, .int (0 : Int32)), (0, .ref (ad G c0)), (1, .int x1)]) hC.1 hC.2.1 dX2_votersIn_3 rfl hl (by decide) rfl (fun ls hl => ?_)
  exact w_X2_votersIn_4 hC _ hk0 hF hw (lv_sub hl [2, 3, 1, 0] rfl)
abbrev rm_X2_foreseeVoters : Room := { frames := 3, cells := 0, slots := 0, locals := 76 }
theorem yv_X2_foreseeVoters : YV yX2_foreseeVoters cX2_foreseeVoters 6 none 2 RX2 := ⟨⟨q3_90, q3_91, q1_2, q3_92⟩, by decide +kernel⟩
theorem dX2_foreseeVoters_0 : decode cX2_foreseeVoters 0 = .ok (.iconst 0, 1) := by decide +kernel
theorem dX2_foreseeVoters_1 : decode cX2_foreseeVoters 1 = .ok (.istore_n 3, 1) := by decide +kernel
theorem dX2_foreseeVoters_2 : decode cX2_foreseeVoters 2 = .ok (.iload_n 3, 1) := by decide +kernel
theorem dX2_foreseeVoters_3 : decode cX2_foreseeVoters 3 = .ok (.bipush 60, 2) := by decide +kernel
theorem dX2_foreseeVoters_5 : decode cX2_foreseeVoters 5 = .ok (.if_icmp .gt 15, 3) := by decide +kernel
theorem dX2_foreseeVoters_8 : decode cX2_foreseeVoters 8 = .ok (.aload_n 2, 1) := by decide +kernel
theorem dX2_foreseeVoters_9 : decode cX2_foreseeVoters 9 = .ok (.iload_n 3, 1) := by decide +kernel
theorem dX2_foreseeVoters_10 : decode cX2_foreseeVoters 10 = .ok (.iconst 0, 1) := by decide +kernel
theorem dX2_foreseeVoters_11 : decode cX2_foreseeVoters 11 = .ok (.invokestatic 73, 3) := by decide +kernel
theorem dX2_foreseeVoters_14 : decode cX2_foreseeVoters 14 = .ok (.iinc 3 1, 3) := by decide +kernel
theorem dX2_foreseeVoters_17 : decode cX2_foreseeVoters 17 = .ok (.goto (-15), 3) := by decide +kernel
theorem dX2_foreseeVoters_20 : decode cX2_foreseeVoters 20 = .ok (.iconst 0, 1) := by decide +kernel
theorem dX2_foreseeVoters_21 : decode cX2_foreseeVoters 21 = .ok (.istore_n 3, 1) := by decide +kernel
theorem dX2_foreseeVoters_22 : decode cX2_foreseeVoters 22 = .ok (.iload_n 3, 1) := by decide +kernel
theorem dX2_foreseeVoters_23 : decode cX2_foreseeVoters 23 = .ok (.aload_n 0, 1) := by decide +kernel
theorem dX2_foreseeVoters_24 : decode cX2_foreseeVoters 24 = .ok (.getfield 48, 3) := by decide +kernel
theorem dX2_foreseeVoters_27 : decode cX2_foreseeVoters 27 = .ok (.if_icmp .ge 74, 3) := by decide +kernel
theorem dX2_foreseeVoters_30 : decode cX2_foreseeVoters 30 = .ok (.aload_n 0, 1) := by decide +kernel
theorem dX2_foreseeVoters_31 : decode cX2_foreseeVoters 31 = .ok (.getfield 21, 3) := by decide +kernel
theorem dX2_foreseeVoters_34 : decode cX2_foreseeVoters 34 = .ok (.iload_n 3, 1) := by decide +kernel
theorem dX2_foreseeVoters_35 : decode cX2_foreseeVoters 35 = .ok (.invokestatic 81, 3) := by decide +kernel
theorem dX2_foreseeVoters_38 : decode cX2_foreseeVoters 38 = .ok (.istore 4, 2) := by decide +kernel
theorem dX2_foreseeVoters_40 : decode cX2_foreseeVoters 40 = .ok (.iconst 0, 1) := by decide +kernel
theorem dX2_foreseeVoters_41 : decode cX2_foreseeVoters 41 = .ok (.istore 5, 2) := by decide +kernel
theorem dX2_foreseeVoters_43 : decode cX2_foreseeVoters 43 = .ok (.iload 5, 2) := by decide +kernel
theorem dX2_foreseeVoters_45 : decode cX2_foreseeVoters 45 = .ok (.bipush 60, 2) := by decide +kernel
theorem dX2_foreseeVoters_47 : decode cX2_foreseeVoters 47 = .ok (.if_icmp .gt 48, 3) := by decide +kernel
theorem dX2_foreseeVoters_50 : decode cX2_foreseeVoters 50 = .ok (.aload_n 0, 1) := by decide +kernel
theorem dX2_foreseeVoters_51 : decode cX2_foreseeVoters 51 = .ok (.iload_n 3, 1) := by decide +kernel
theorem dX2_foreseeVoters_52 : decode cX2_foreseeVoters 52 = .ok (.iload 4, 2) := by decide +kernel
theorem dX2_foreseeVoters_54 : decode cX2_foreseeVoters 54 = .ok (.iload_n 1, 1) := by decide +kernel
theorem dX2_foreseeVoters_55 : decode cX2_foreseeVoters 55 = .ok (.invokevirtual 114, 3) := by decide +kernel
theorem dX2_foreseeVoters_58 : decode cX2_foreseeVoters 58 = .ok (.ifCond .eq 19, 3) := by decide +kernel
theorem dX2_foreseeVoters_61 : decode cX2_foreseeVoters 61 = .ok (.aload_n 2, 1) := by decide +kernel
theorem dX2_foreseeVoters_62 : decode cX2_foreseeVoters 62 = .ok (.iload 5, 2) := by decide +kernel
theorem dX2_foreseeVoters_64 : decode cX2_foreseeVoters 64 = .ok (.aload_n 2, 1) := by decide +kernel
theorem dX2_foreseeVoters_65 : decode cX2_foreseeVoters 65 = .ok (.iload 5, 2) := by decide +kernel
theorem dX2_foreseeVoters_67 : decode cX2_foreseeVoters 67 = .ok (.invokestatic 81, 3) := by decide +kernel
theorem dX2_foreseeVoters_70 : decode cX2_foreseeVoters 70 = .ok (.iconst 1, 1) := by decide +kernel
theorem dX2_foreseeVoters_71 : decode cX2_foreseeVoters 71 = .ok (.iload_n 3, 1) := by decide +kernel
theorem dX2_foreseeVoters_72 : decode cX2_foreseeVoters 72 = .ok (.ishl, 1) := by decide +kernel
theorem dX2_foreseeVoters_73 : decode cX2_foreseeVoters 73 = .ok (.ior, 1) := by decide +kernel
theorem dX2_foreseeVoters_74 : decode cX2_foreseeVoters 74 = .ok (.invokestatic 73, 3) := by decide +kernel
theorem dX2_foreseeVoters_77 : decode cX2_foreseeVoters 77 = .ok (.iload 4, 2) := by decide +kernel
theorem dX2_foreseeVoters_79 : decode cX2_foreseeVoters 79 = .ok (.aload_n 0, 1) := by decide +kernel
theorem dX2_foreseeVoters_80 : decode cX2_foreseeVoters 80 = .ok (.iload_n 3, 1) := by decide +kernel
theorem dX2_foreseeVoters_81 : decode cX2_foreseeVoters 81 = .ok (.iload 5, 2) := by decide +kernel
theorem dX2_foreseeVoters_83 : decode cX2_foreseeVoters 83 = .ok (.invokevirtual 94, 3) := by decide +kernel
theorem dX2_foreseeVoters_86 : decode cX2_foreseeVoters 86 = .ok (.isub, 1) := by decide +kernel
theorem dX2_foreseeVoters_87 : decode cX2_foreseeVoters 87 = .ok (.istore 4, 2) := by decide +kernel
theorem dX2_foreseeVoters_89 : decode cX2_foreseeVoters 89 = .ok (.iinc 5 1, 3) := by decide +kernel
theorem dX2_foreseeVoters_92 : decode cX2_foreseeVoters 92 = .ok (.goto (-49), 3) := by decide +kernel
theorem dX2_foreseeVoters_95 : decode cX2_foreseeVoters 95 = .ok (.iinc 3 1, 3) := by decide +kernel
theorem dX2_foreseeVoters_98 : decode cX2_foreseeVoters 98 = .ok (.goto (-76), 3) := by decide +kernel
theorem dX2_foreseeVoters_101 : decode cX2_foreseeVoters 101 = .ok (.return_, 1) := by decide +kernel
def F_X2_foreseeVoters_77 (fu : Nat) (k22 : Mm → Nat → Int32 → Nat → Int32 → Option Mm) (k43 : Mm → Nat → Int32 → Nat → Int32 → Int32 → Int32 → Option Mm) (M : Mm) (c0 : Nat) (x1 : Int32) (c2 : Nat) (x3 : Int32) (x4 : Int32) (x5 : Int32) : Option Mm :=
  ob1 (F_X2_meltingIn fu M c0 x3 x5) (fun r2 =>
  k43 M c0 x1 c2 x3 (x4 - r2) (x5 + (1 : Int32)))
set_option maxRecDepth 100000 in
set_option maxHeartbeats 4000000 in
theorem w_X2_foreseeVoters_77 {p : Program} {l : Launch} {e : Env} {s : State} {m : MethodId} {args : Array Value} {below : List Frame} {meth : Method} {c : Code} {G : Gv} (hC : Cx p s m args meth c cX2_foreseeVoters 6 none RX2) {fu : Nat} {M' : Mm} {k22 : Mm → Nat → Int32 → Nat → Int32 → Option Mm} (hk_22 : ∀ {c0 : Nat} {x1 : Int32} {c2 : Nat} {x3 : Int32} {M : Mm} {H : Heap} {locs : List Loc} {ls : Array Slot} (hk0 : kd c0 = 11) (hk2 : kd c2 = 1), k22 M c0 x1 c2 x3 = some M' → St G s H locs M → lv_has ls 6 [(0, .ref (ad G c0)), (1, .int x1), (2, .ref (ad G c2)), (3, .int x3)] → W p l e rm_X2_foreseeVoters s m args below meth c H locs 0 0 (MQ below (QV G M') args s 0 0 (zA G)) (F0 m 22 ls [])) {k43 : Mm → Nat → Int32 → Nat → Int32 → Int32 → Int32 → Option Mm} (hk_43 : ∀ {c0 : Nat} {x1 : Int32} {c2 : Nat} {x3 : Int32} {x4 : Int32} {x5 : Int32} {M : Mm} {H : Heap} {locs : List Loc} {ls : Array Slot} (hk0 : kd c0 = 11) (hk2 : kd c2 = 1), k43 M c0 x1 c2 x3 x4 x5 = some M' → St G s H locs M → lv_has ls 6 [(0, .ref (ad G c0)), (1, .int x1), (2, .ref (ad G c2)), (3, .int x3), (4, .int x4), (5, .int x5)] → W p l e rm_X2_foreseeVoters s m args below meth c H locs 0 0 (MQ below (QV G M') args s 0 0 (zA G)) (F0 m 43 ls [])) {c0 : Nat} {x1 : Int32} {c2 : Nat} {x3 : Int32} {x4 : Int32} {x5 : Int32} {M : Mm} {H : Heap} {locs : List Loc} {ls : Array Slot} (hk0 : kd c0 = 11) (hk2 : kd c2 = 1) (hF : F_X2_foreseeVoters_77 fu k22 k43 M c0 x1 c2 x3 x4 x5 = some M') (hw : St G s H locs M) (hl : lv_has ls 6 [(0, .ref (ad G c0)), (1, .int x1), (2, .ref (ad G c2)), (3, .int x3), (4, .int x4), (5, .int x5)]) : W p l e rm_X2_foreseeVoters s m args below meth c H locs 0 0 (MQ below (QV G M') args s 0 0 (zA G)) (F0 m 77 ls []) := by
  unfold F_X2_foreseeVoters_77 at hF
  refine lv_iload hC.1 hC.2.1 dX2_foreseeVoters_77 (lv_at hl 4 rfl) ?_
  refine lv_aload_n hC.1 hC.2.1 dX2_foreseeVoters_79 rfl (lv_at hl 0 rfl) ?_
  refine lv_iload_n hC.1 hC.2.1 dX2_foreseeVoters_80 rfl (lv_at hl 3 rfl) ?_
  refine lv_iload hC.1 hC.2.1 dX2_foreseeVoters_81 (lv_at hl 5 rfl) ?_
  obtain ⟨r2, h1, hF⟩ := ob1S hF
  refine k_Vi (As := [.int x3, .int x5]) (rest := [.int x4]) hC hw (c_X2_meltingIn (M := M) hk0 h1) (RC_N hk0) yv_X2_meltingIn q2_208 ⟨rfl, rfl⟩ ⟨Nat.le_of_ble_eq_true rfl, Nat.le_of_ble_eq_true rfl⟩ ⟨Nat.zero_le _, Nat.zero_le _⟩ rfl rfl (Nat.le_of_ble_eq_true rfl) hl dX2_foreseeVoters_83 (fun H locs hw => ?_)
  refine lv_isub hC.1 hC.2.1 dX2_foreseeVoters_86 ?_
  refine lv_istore (lv' := [(4, .int (x4 - r2)), (0, .ref (ad G c0)), (1, .int x1), (2, .ref (ad G c2)), (3, .int x3), (5, .int x5)]) hC.1 hC.2.1 dX2_foreseeVoters_87 hl (by decide) rfl (fun ls hl => ?_)
  refine lv_iinc (v := (x5 + (1 : Int32))) (lv' := [(5, .int (x5 + (1 : Int32))), (4, .int (x4 - r2)), (0, .ref (ad G c0)), (1, .int x1), (2, .ref (ad G c2)), (3, .int x3)]) hC.1 hC.2.1 dX2_foreseeVoters_89 hl (k := 5) rfl rfl (by decide) rfl (fun ls hl => ?_)
  refine lv_goto (tgt := 43) hC.1 hC.2.1 dX2_foreseeVoters_92 (by decide) ?_
  exact hk_43 hk0 hk2 hF hw (lv_sub hl [2, 3, 4, 5, 1, 0] rfl)
def F_X2_foreseeVoters_43 (fu : Nat) (k22 : Mm → Nat → Int32 → Nat → Int32 → Option Mm) : Nat → Mm → Nat → Int32 → Nat → Int32 → Int32 → Int32 → Option Mm
  | 0, _, _, _, _, _, _, _ => none
  | n + 1, M, c0, x1, c2, x3, x4, x5 =>
    if (60 : Int32) < x5 then
      k22 M c0 x1 c2 (x3 + (1 : Int32))
    else
      ob1 (F_X2_hasRight fu M c0 x3 x4 x1) (fun r3 =>
      if r3 = 0 then
        F_X2_foreseeVoters_77 fu k22 (F_X2_foreseeVoters_43 fu k22 n) M c0 x1 c2 x3 x4 x5
      else
        ob1 (F_X6_read fu M c2 x5) (fun r6 =>
        ob1 (F_X6_write fu M c2 x5 (r6 ||| ((1 : Int32) <<< (x3 &&& 31)))) (fun M8 =>
        F_X2_foreseeVoters_77 fu k22 (F_X2_foreseeVoters_43 fu k22 n) M8 c0 x1 c2 x3 x4 x5)))
set_option maxRecDepth 100000 in
set_option maxHeartbeats 4000000 in
theorem w_X2_foreseeVoters_43 {p : Program} {l : Launch} {e : Env} {s : State} {m : MethodId} {args : Array Value} {below : List Frame} {meth : Method} {c : Code} {G : Gv} (hC : Cx p s m args meth c cX2_foreseeVoters 6 none RX2) {fu : Nat} {M' : Mm} {k22 : Mm → Nat → Int32 → Nat → Int32 → Option Mm} (hk_22 : ∀ {c0 : Nat} {x1 : Int32} {c2 : Nat} {x3 : Int32} {M : Mm} {H : Heap} {locs : List Loc} {ls : Array Slot} (hk0 : kd c0 = 11) (hk2 : kd c2 = 1), k22 M c0 x1 c2 x3 = some M' → St G s H locs M → lv_has ls 6 [(0, .ref (ad G c0)), (1, .int x1), (2, .ref (ad G c2)), (3, .int x3)] → W p l e rm_X2_foreseeVoters s m args below meth c H locs 0 0 (MQ below (QV G M') args s 0 0 (zA G)) (F0 m 22 ls [])) : ∀ (n : Nat) {c0 : Nat} {x1 : Int32} {c2 : Nat} {x3 : Int32} {x4 : Int32} {x5 : Int32} {M : Mm} {H : Heap} {locs : List Loc} {ls : Array Slot} (hk0 : kd c0 = 11) (hk2 : kd c2 = 1), F_X2_foreseeVoters_43 fu k22 n M c0 x1 c2 x3 x4 x5 = some M' → St G s H locs M → lv_has ls 6 [(0, .ref (ad G c0)), (1, .int x1), (2, .ref (ad G c2)), (3, .int x3), (4, .int x4), (5, .int x5)] → W p l e rm_X2_foreseeVoters s m args below meth c H locs 0 0 (MQ below (QV G M') args s 0 0 (zA G)) (F0 m 43 ls []) := by
  intro n
  induction n with
  | zero =>
    intro c0 x1 c2 x3 x4 x5 M H locs ls hk0 hk2 hF hw hl
    cases hF
  | succ n ih =>
    intro c0 x1 c2 x3 x4 x5 M H locs ls hk0 hk2 hF hw hl
    unfold F_X2_foreseeVoters_43 at hF
    refine lv_iload hC.1 hC.2.1 dX2_foreseeVoters_43 (lv_at hl 5 rfl) ?_
    refine lv_bipush (v := (60 : Int32)) hC.1 hC.2.1 dX2_foreseeVoters_45 (by decide) ?_
    refine lv_icmp_gt (tgt := 95) hC.1 hC.2.1 dX2_foreseeVoters_47 (by decide) (fun b1 => ?_) (fun b1 => ?_)
    · have hF := ifP hF b1
      refine lv_iinc (v := (x3 + (1 : Int32))) (lv' := [(3, .int (x3 + (1 : Int32))), (0, .ref (ad G c0)), (1, .int x1), (2, .ref (ad G c2)), (4, .int x4), (5, .int x5)]) hC.1 hC.2.1 dX2_foreseeVoters_95 hl (k := 3) rfl rfl (by decide) rfl (fun ls hl => ?_)
      refine lv_goto (tgt := 22) hC.1 hC.2.1 dX2_foreseeVoters_98 (by decide) ?_
      exact hk_22 hk0 hk2 hF hw (lv_sub hl [1, 2, 3, 0] rfl)
    · have hF := ifN hF b1
      refine lv_aload_n hC.1 hC.2.1 dX2_foreseeVoters_50 rfl (lv_at hl 0 rfl) ?_
      refine lv_iload_n hC.1 hC.2.1 dX2_foreseeVoters_51 rfl (lv_at hl 3 rfl) ?_
      refine lv_iload hC.1 hC.2.1 dX2_foreseeVoters_52 (lv_at hl 4 rfl) ?_
      refine lv_iload_n hC.1 hC.2.1 dX2_foreseeVoters_54 rfl (lv_at hl 1 rfl) ?_
      obtain ⟨r3, h2, hF⟩ := ob1S hF
      refine k_Vi (As := [.int x3, .int x4, .int x1]) (rest := []) hC hw (c_X2_hasRight (M := M) hk0 h2) (RC_N hk0) yv_X2_hasRight q2_160 ⟨rfl, rfl⟩ ⟨Nat.le_of_ble_eq_true rfl, Nat.le_of_ble_eq_true rfl⟩ ⟨Nat.zero_le _, Nat.zero_le _⟩ rfl rfl (Nat.le_of_ble_eq_true rfl) hl dX2_foreseeVoters_55 (fun H locs hw => ?_)
      refine lv_if_eq (tgt := 77) hC.1 hC.2.1 dX2_foreseeVoters_58 (by decide) (fun b4 => ?_) (fun b4 => ?_)
      · have hF := ifP hF b4
        exact w_X2_foreseeVoters_77 hC (hk_22 := hk_22) (hk_43 := ih) hk0 hk2 hF hw (lv_sub hl [0, 1, 2, 3, 4, 5] rfl)
      · have hF := ifN hF b4
        refine lv_aload_n hC.1 hC.2.1 dX2_foreseeVoters_61 rfl (lv_at hl 2 rfl) ?_
        refine lv_iload hC.1 hC.2.1 dX2_foreseeVoters_62 (lv_at hl 5 rfl) ?_
        refine lv_aload_n hC.1 hC.2.1 dX2_foreseeVoters_64 rfl (lv_at hl 2 rfl) ?_
        refine lv_iload hC.1 hC.2.1 dX2_foreseeVoters_65 (lv_at hl 5 rfl) ?_
        obtain ⟨r6, h5, hF⟩ := ob1S hF
        refine k_Ni (As := [.ref (ad G c2), .int x5]) (rest := [.int x5, .ref (ad G c2)]) hC hw (c_X6_read (M := M) hk2 h5) ys_X6_read (k := 10) rfl ⟨rfl, rfl⟩ ⟨Nat.le_of_ble_eq_true rfl, Nat.le_of_ble_eq_true rfl⟩ ⟨Nat.zero_le _, Nat.zero_le _⟩ rfl rfl (Nat.le_of_ble_eq_true rfl) hl dX2_foreseeVoters_67 (fun H locs hw => ?_)
        refine lv_iconst (v := (1 : Int32)) hC.1 hC.2.1 dX2_foreseeVoters_70 (by decide) ?_
        refine lv_iload_n hC.1 hC.2.1 dX2_foreseeVoters_71 rfl (lv_at hl 3 rfl) ?_
        refine lv_ishl hC.1 hC.2.1 dX2_foreseeVoters_72 ?_
        refine lv_ior hC.1 hC.2.1 dX2_foreseeVoters_73 ?_
        obtain ⟨M8, h7, hF⟩ := ob1S hF
        refine k_Nv (As := [.ref (ad G c2), .int x5, .int (r6 ||| ((1 : Int32) <<< (x3 &&& 31)))]) (rest := []) hC hw (c_X6_write (M := M) hk2 h7) ys_X6_write (k := 12) rfl ⟨rfl, rfl⟩ ⟨Nat.le_of_ble_eq_true rfl, Nat.le_of_ble_eq_true rfl⟩ ⟨Nat.zero_le _, Nat.zero_le _⟩ rfl rfl (Nat.le_of_ble_eq_true rfl) hl dX2_foreseeVoters_74 (fun H locs hw => ?_)
        exact w_X2_foreseeVoters_77 hC (hk_22 := hk_22) (hk_43 := ih) hk0 hk2 hF hw (lv_sub hl [0, 1, 2, 3, 4, 5] rfl)
def F_X2_foreseeVoters_22 (fu : Nat) : Nat → Mm → Nat → Int32 → Nat → Int32 → Option Mm
  | 0, _, _, _, _, _ => none
  | n + 1, M, c0, x1, c2, x3 =>
    if (M.1 c0 0) ≤ x3 then
      some M
    else
      ob1 (F_X6_read fu M (c0 + 4) x3) (fun r3 =>
      F_X2_foreseeVoters_43 fu (F_X2_foreseeVoters_22 fu n) fu M c0 x1 c2 x3 r3 (0 : Int32))
set_option maxRecDepth 100000 in
set_option maxHeartbeats 4000000 in
theorem w_X2_foreseeVoters_22 {p : Program} {l : Launch} {e : Env} {s : State} {m : MethodId} {args : Array Value} {below : List Frame} {meth : Method} {c : Code} {G : Gv} (hC : Cx p s m args meth c cX2_foreseeVoters 6 none RX2) {fu : Nat} {M' : Mm} : ∀ (n : Nat) {c0 : Nat} {x1 : Int32} {c2 : Nat} {x3 : Int32} {M : Mm} {H : Heap} {locs : List Loc} {ls : Array Slot} (hk0 : kd c0 = 11) (hk2 : kd c2 = 1), F_X2_foreseeVoters_22 fu n M c0 x1 c2 x3 = some M' → St G s H locs M → lv_has ls 6 [(0, .ref (ad G c0)), (1, .int x1), (2, .ref (ad G c2)), (3, .int x3)] → W p l e rm_X2_foreseeVoters s m args below meth c H locs 0 0 (MQ below (QV G M') args s 0 0 (zA G)) (F0 m 22 ls []) := by
  intro n
  induction n with
  | zero =>
    intro c0 x1 c2 x3 M H locs ls hk0 hk2 hF hw hl
    cases hF
  | succ n ih =>
    intro c0 x1 c2 x3 M H locs ls hk0 hk2 hF hw hl
    unfold F_X2_foreseeVoters_22 at hF
    refine lv_iload_n hC.1 hC.2.1 dX2_foreseeVoters_22 rfl (lv_at hl 3 rfl) ?_
    refine lv_aload_n hC.1 hC.2.1 dX2_foreseeVoters_23 rfl (lv_at hl 0 rfl) ?_
    refine g2_men hC hw hk0 q1_31 dX2_foreseeVoters_24 ?_
    refine lv_icmp_ge (tgt := 101) hC.1 hC.2.1 dX2_foreseeVoters_27 (by decide) (fun b1 => ?_) (fun b1 => ?_)
    · have hF := ifP hF b1
      exact r_vretE hC hw hF dX2_foreseeVoters_101
    · have hF := ifN hF b1
      refine lv_aload_n hC.1 hC.2.1 dX2_foreseeVoters_30 rfl (lv_at hl 0 rfl) ?_
      refine g2_bulkOf hC hw hk0 q1_43 dX2_foreseeVoters_31 ?_
      refine lv_iload_n hC.1 hC.2.1 dX2_foreseeVoters_34 rfl (lv_at hl 3 rfl) ?_
      obtain ⟨r3, h2, hF⟩ := ob1S hF
      refine k_Ni (As := [.ref (ad G (c0 + 4)), .int x3]) (rest := []) hC hw (c_X6_read (M := M) (kdN4 hk0) h2) ys_X6_read (k := 10) rfl ⟨rfl, rfl⟩ ⟨Nat.le_of_ble_eq_true rfl, Nat.le_of_ble_eq_true rfl⟩ ⟨Nat.zero_le _, Nat.zero_le _⟩ rfl rfl (Nat.le_of_ble_eq_true rfl) hl dX2_foreseeVoters_35 (fun H locs hw => ?_)
      refine lv_istore (lv' := [(4, .int r3), (0, .ref (ad G c0)), (1, .int x1), (2, .ref (ad G c2)), (3, .int x3)]) hC.1 hC.2.1 dX2_foreseeVoters_38 hl (by decide) rfl (fun ls hl => ?_)
      refine lv_iconst (v := (0 : Int32)) hC.1 hC.2.1 dX2_foreseeVoters_40 (by decide) ?_
      refine lv_istore (lv' := [(5, .int (0 : Int32)), (4, .int r3), (0, .ref (ad G c0)), (1, .int x1), (2, .ref (ad G c2)), (3, .int x3)]) hC.1 hC.2.1 dX2_foreseeVoters_41 hl (by decide) rfl (fun ls hl => ?_)
      exact w_X2_foreseeVoters_43 hC (hk_22 := ih) _ hk0 hk2 hF hw (lv_sub hl [2, 3, 4, 5, 1, 0] rfl)
def F_X2_foreseeVoters_2 (fu : Nat) : Nat → Mm → Nat → Int32 → Nat → Int32 → Option Mm
  | 0, _, _, _, _, _ => none
  | n + 1, M, c0, x1, c2, x3 =>
    if (60 : Int32) < x3 then
      F_X2_foreseeVoters_22 fu fu M c0 x1 c2 (0 : Int32)
    else
      ob1 (F_X6_write fu M c2 x3 (0 : Int32)) (fun M3 =>
      F_X2_foreseeVoters_2 fu n M3 c0 x1 c2 (x3 + (1 : Int32)))
set_option maxRecDepth 100000 in
set_option maxHeartbeats 4000000 in
theorem w_X2_foreseeVoters_2 {p : Program} {l : Launch} {e : Env} {s : State} {m : MethodId} {args : Array Value} {below : List Frame} {meth : Method} {c : Code} {G : Gv} (hC : Cx p s m args meth c cX2_foreseeVoters 6 none RX2) {fu : Nat} {M' : Mm} : ∀ (n : Nat) {c0 : Nat} {x1 : Int32} {c2 : Nat} {x3 : Int32} {M : Mm} {H : Heap} {locs : List Loc} {ls : Array Slot} (hk0 : kd c0 = 11) (hk2 : kd c2 = 1), F_X2_foreseeVoters_2 fu n M c0 x1 c2 x3 = some M' → St G s H locs M → lv_has ls 6 [(0, .ref (ad G c0)), (1, .int x1), (2, .ref (ad G c2)), (3, .int x3)] → W p l e rm_X2_foreseeVoters s m args below meth c H locs 0 0 (MQ below (QV G M') args s 0 0 (zA G)) (F0 m 2 ls []) := by
  intro n
  induction n with
  | zero =>
    intro c0 x1 c2 x3 M H locs ls hk0 hk2 hF hw hl
    cases hF
  | succ n ih =>
    intro c0 x1 c2 x3 M H locs ls hk0 hk2 hF hw hl
    unfold F_X2_foreseeVoters_2 at hF
    refine lv_iload_n hC.1 hC.2.1 dX2_foreseeVoters_2 rfl (lv_at hl 3 rfl) ?_
    refine lv_bipush (v := (60 : Int32)) hC.1 hC.2.1 dX2_foreseeVoters_3 (by decide) ?_
    refine lv_icmp_gt (tgt := 20) hC.1 hC.2.1 dX2_foreseeVoters_5 (by decide) (fun b1 => ?_) (fun b1 => ?_)
    · have hF := ifP hF b1
      refine lv_iconst (v := (0 : Int32)) hC.1 hC.2.1 dX2_foreseeVoters_20 (by decide) ?_
      refine lv_istore_n (lv' := [(3, .int (0 : Int32)), (0, .ref (ad G c0)), (1, .int x1), (2, .ref (ad G c2))]) hC.1 hC.2.1 dX2_foreseeVoters_21 rfl hl (by decide) rfl (fun ls hl => ?_)
      exact w_X2_foreseeVoters_22 hC _ hk0 hk2 hF hw (lv_sub hl [1, 2, 3, 0] rfl)
    · have hF := ifN hF b1
      refine lv_aload_n hC.1 hC.2.1 dX2_foreseeVoters_8 rfl (lv_at hl 2 rfl) ?_
      refine lv_iload_n hC.1 hC.2.1 dX2_foreseeVoters_9 rfl (lv_at hl 3 rfl) ?_
      refine lv_iconst (v := (0 : Int32)) hC.1 hC.2.1 dX2_foreseeVoters_10 (by decide) ?_
      obtain ⟨M3, h2, hF⟩ := ob1S hF
      refine k_Nv (As := [.ref (ad G c2), .int x3, .int (0 : Int32)]) (rest := []) hC hw (c_X6_write (M := M) hk2 h2) ys_X6_write (k := 12) rfl ⟨rfl, rfl⟩ ⟨Nat.le_of_ble_eq_true rfl, Nat.le_of_ble_eq_true rfl⟩ ⟨Nat.zero_le _, Nat.zero_le _⟩ rfl rfl (Nat.le_of_ble_eq_true rfl) hl dX2_foreseeVoters_11 (fun H locs hw => ?_)
      refine lv_iinc (v := (x3 + (1 : Int32))) (lv' := [(3, .int (x3 + (1 : Int32))), (0, .ref (ad G c0)), (1, .int x1), (2, .ref (ad G c2))]) hC.1 hC.2.1 dX2_foreseeVoters_14 hl (k := 3) rfl rfl (by decide) rfl (fun ls hl => ?_)
      refine lv_goto (tgt := 2) hC.1 hC.2.1 dX2_foreseeVoters_17 (by decide) ?_
      exact ih hk0 hk2 hF hw (lv_sub hl [1, 2, 3, 0] rfl)
def F_X2_foreseeVoters (fu : Nat) (M : Mm) (c0 : Nat) (x1 : Int32) (c2 : Nat) : Option Mm :=
  F_X2_foreseeVoters_2 fu fu M c0 x1 c2 (0 : Int32)
set_option maxRecDepth 100000 in
set_option maxHeartbeats 4000000 in
theorem c_X2_foreseeVoters {l : Launch} {G : Gv} {fu : Nat} {M : Mm} {c0 : Nat} {x1 : Int32} {c2 : Nat} (hk0 : kd c0 = 11) (hk2 : kd c2 = 1) {M' : Mm} (hF : F_X2_foreseeVoters fu M c0 x1 c2 = some M') : Met l yX2_foreseeVoters (.code yX2_foreseeVoters cX2_foreseeVoters 6 none :: zU) rm_X2_foreseeVoters (va_Pc [.ref (ad G c0), .int x1, .ref (ad G c2)] (Wd G M)) (QV G M') 0 0 (zA G) := by
  refine zMet (by decide) rfl (Nat.le_of_ble_eq_true rfl) ?_
  intro p e s m below meth c hC hw ls hl
  have hl : lv_has ls 6 [(0, .ref (ad G c0)), (1, .int x1), (2, .ref (ad G c2))] := hl
  unfold F_X2_foreseeVoters at hF
  refine lv_iconst (v := (0 : Int32)) hC.1 hC.2.1 dX2_foreseeVoters_0 (by decide) ?_
  refine lv_istore_n (lv' := [(3, .int (0 : Int32)), (0, .ref (ad G c0)), (1, .int x1), (2, .ref (ad G c2))]) hC.1 hC.2.1 dX2_foreseeVoters_1 rfl hl (by decide) rfl (fun ls hl => ?_)
  exact w_X2_foreseeVoters_2 hC _ hk0 hk2 hF hw (lv_sub hl [1, 2, 3, 0] rfl)
abbrev rm_X2_foreseeLiving : Room := { frames := 4, cells := 0, slots := 0, locals := 101 }
theorem yv_X2_foreseeLiving : YV yX2_foreseeLiving cX2_foreseeLiving 2 none 1 RX2 := ⟨⟨q3_158, q3_159, q1_2, q3_160⟩, by decide +kernel⟩
theorem dX2_foreseeLiving_0 : decode cX2_foreseeLiving 0 = .ok (.aload_n 0, 1) := by decide +kernel
theorem dX2_foreseeLiving_1 : decode cX2_foreseeLiving 1 = .ok (.iconst 1, 1) := by decide +kernel
theorem dX2_foreseeLiving_2 : decode cX2_foreseeLiving 2 = .ok (.aload_n 1, 1) := by decide +kernel
theorem dX2_foreseeLiving_3 : decode cX2_foreseeLiving 3 = .ok (.invokevirtual 121, 3) := by decide +kernel
theorem dX2_foreseeLiving_6 : decode cX2_foreseeLiving 6 = .ok (.return_, 1) := by decide +kernel
def F_X2_foreseeLiving (fu : Nat) (M : Mm) (c0 : Nat) (c1 : Nat) : Option Mm :=
  ob1 (F_X2_foreseeVoters fu M c0 (1 : Int32) c1) (fun M2 =>
  some M2)
set_option maxRecDepth 100000 in
set_option maxHeartbeats 4000000 in
theorem c_X2_foreseeLiving {l : Launch} {G : Gv} {fu : Nat} {M : Mm} {c0 : Nat} {c1 : Nat} (hk0 : kd c0 = 11) (hk1 : kd c1 = 1) {M' : Mm} (hF : F_X2_foreseeLiving fu M c0 c1 = some M') : Met l yX2_foreseeLiving (.code yX2_foreseeLiving cX2_foreseeLiving 2 none :: zU) rm_X2_foreseeLiving (va_Pc [.ref (ad G c0), .ref (ad G c1)] (Wd G M)) (QV G M') 0 0 (zA G) := by
  refine zMet (by decide) rfl (Nat.le_of_ble_eq_true rfl) ?_
  intro p e s m below meth c hC hw ls hl
  have hl : lv_has ls 2 [(0, .ref (ad G c0)), (1, .ref (ad G c1))] := hl
  unfold F_X2_foreseeLiving at hF
  refine lv_aload_n hC.1 hC.2.1 dX2_foreseeLiving_0 rfl (lv_at hl 0 rfl) ?_
  refine lv_iconst (v := (1 : Int32)) hC.1 hC.2.1 dX2_foreseeLiving_1 (by decide) ?_
  refine lv_aload_n hC.1 hC.2.1 dX2_foreseeLiving_2 rfl (lv_at hl 1 rfl) ?_
  obtain ⟨M2, h1, hF⟩ := ob1S hF
  refine k_Vv (As := [.int (1 : Int32), .ref (ad G c1)]) (rest := []) hC hw (c_X2_foreseeVoters (M := M) hk0 hk1 h1) (RC_N hk0) yv_X2_foreseeVoters q3_161 ⟨rfl, rfl⟩ ⟨Nat.le_of_ble_eq_true rfl, Nat.le_of_ble_eq_true rfl⟩ ⟨Nat.zero_le _, Nat.zero_le _⟩ rfl rfl (Nat.le_of_ble_eq_true rfl) hl dX2_foreseeLiving_3 (fun H locs hw => ?_)
  exact r_vretE hC hw hF dX2_foreseeLiving_6
