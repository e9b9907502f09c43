abbrev rm_X7_lots : Room := { frames := 5, cells := 0, slots := 0, locals := 115 }
theorem yv_X7_lots : YV yX7_lots cX7_lots 7 (some .int) 3 RX7 := ⟨⟨q6_127, q6_128, q1_8, q6_129⟩, by decide +kernel⟩
theorem dX7_lots_0 : decode cX7_lots 0 = .ok (.iload_n 1, 1) := by decide +kernel
theorem dX7_lots_1 : decode cX7_lots 1 = .ok (.i2l, 1) := by decide +kernel
theorem dX7_lots_2 : decode cX7_lots 2 = .ok (.lconst 1, 1) := by decide +kernel
theorem dX7_lots_3 : decode cX7_lots 3 = .ok (.ldc2_w 317, 3) := by decide +kernel
theorem dX7_lots_6 : decode cX7_lots 6 = .ok (.invokestatic 104, 3) := by decide +kernel
theorem dX7_lots_9 : decode cX7_lots 9 = .ok (.ifCond .eq 27, 3) := by decide +kernel
theorem dX7_lots_12 : decode cX7_lots 12 = .ok (.iload_n 2, 1) := by decide +kernel
theorem dX7_lots_13 : decode cX7_lots 13 = .ok (.i2l, 1) := by decide +kernel
theorem dX7_lots_14 : decode cX7_lots 14 = .ok (.lconst 0, 1) := by decide +kernel
theorem dX7_lots_15 : decode cX7_lots 15 = .ok (.ldc2_w 298, 3) := by decide +kernel
theorem dX7_lots_18 : decode cX7_lots 18 = .ok (.invokestatic 104, 3) := by decide +kernel
theorem dX7_lots_21 : decode cX7_lots 21 = .ok (.ifCond .eq 15, 3) := by decide +kernel
theorem dX7_lots_24 : decode cX7_lots 24 = .ok (.iload_n 3, 1) := by decide +kernel
theorem dX7_lots_25 : decode cX7_lots 25 = .ok (.i2l, 1) := by decide +kernel
theorem dX7_lots_26 : decode cX7_lots 26 = .ok (.lconst 1, 1) := by decide +kernel
theorem dX7_lots_27 : decode cX7_lots 27 = .ok (.ldc2_w 319, 3) := by decide +kernel
theorem dX7_lots_30 : decode cX7_lots 30 = .ok (.invokestatic 104, 3) := by decide +kernel
theorem dX7_lots_33 : decode cX7_lots 33 = .ok (.ifCond .ne 5, 3) := by decide +kernel
theorem dX7_lots_36 : decode cX7_lots 36 = .ok (.iconst (-1), 1) := by decide +kernel
theorem dX7_lots_37 : decode cX7_lots 37 = .ok (.ireturn, 1) := by decide +kernel
theorem dX7_lots_38 : decode cX7_lots 38 = .ok (.aload_n 0, 1) := by decide +kernel
theorem dX7_lots_39 : decode cX7_lots 39 = .ok (.getfield 101, 3) := by decide +kernel
theorem dX7_lots_42 : decode cX7_lots 42 = .ok (.ifCond .ne 6, 3) := by decide +kernel
theorem dX7_lots_45 : decode cX7_lots 45 = .ok (.bipush (-4), 2) := by decide +kernel
theorem dX7_lots_47 : decode cX7_lots 47 = .ok (.ireturn, 1) := by decide +kernel
theorem dX7_lots_48 : decode cX7_lots 48 = .ok (.aload_n 0, 1) := by decide +kernel
theorem dX7_lots_49 : decode cX7_lots 49 = .ok (.getfield 170, 3) := by decide +kernel
theorem dX7_lots_52 : decode cX7_lots 52 = .ok (.iload_n 1, 1) := by decide +kernel
theorem dX7_lots_53 : decode cX7_lots 53 = .ok (.iadd, 1) := by decide +kernel
theorem dX7_lots_54 : decode cX7_lots 54 = .ok (.bipush 60, 2) := by decide +kernel
theorem dX7_lots_56 : decode cX7_lots 56 = .ok (.if_icmp .le 6, 3) := by decide +kernel
theorem dX7_lots_59 : decode cX7_lots 59 = .ok (.bipush (-2), 2) := by decide +kernel
theorem dX7_lots_61 : decode cX7_lots 61 = .ok (.ireturn, 1) := by decide +kernel
theorem dX7_lots_62 : decode cX7_lots 62 = .ok (.iload_n 3, 1) := by decide +kernel
theorem dX7_lots_63 : decode cX7_lots 63 = .ok (.i2l, 1) := by decide +kernel
theorem dX7_lots_64 : decode cX7_lots 64 = .ok (.lstore 4, 2) := by decide +kernel
theorem dX7_lots_66 : decode cX7_lots 66 = .ok (.iconst 0, 1) := by decide +kernel
theorem dX7_lots_67 : decode cX7_lots 67 = .ok (.istore 6, 2) := by decide +kernel
theorem dX7_lots_69 : decode cX7_lots 69 = .ok (.iload 6, 2) := by decide +kernel
theorem dX7_lots_71 : decode cX7_lots 71 = .ok (.iload_n 1, 1) := by decide +kernel
theorem dX7_lots_72 : decode cX7_lots 72 = .ok (.if_icmp .ge 42, 3) := by decide +kernel
theorem dX7_lots_75 : decode cX7_lots 75 = .ok (.lload 4, 2) := by decide +kernel
theorem dX7_lots_77 : decode cX7_lots 77 = .ok (.ldc2_w 321, 3) := by decide +kernel
theorem dX7_lots_80 : decode cX7_lots 80 = .ok (.lmul, 1) := by decide +kernel
theorem dX7_lots_81 : decode cX7_lots 81 = .ok (.ldc2_w 323, 3) := by decide +kernel
theorem dX7_lots_84 : decode cX7_lots 84 = .ok (.lrem, 1) := by decide +kernel
theorem dX7_lots_85 : decode cX7_lots 85 = .ok (.lstore 4, 2) := by decide +kernel
theorem dX7_lots_87 : decode cX7_lots 87 = .ok (.aload_n 0, 1) := by decide +kernel
theorem dX7_lots_88 : decode cX7_lots 88 = .ok (.lload 4, 2) := by decide +kernel
theorem dX7_lots_90 : decode cX7_lots 90 = .ok (.ldc2_w 298, 3) := by decide +kernel
theorem dX7_lots_93 : decode cX7_lots 93 = .ok (.lrem, 1) := by decide +kernel
theorem dX7_lots_94 : decode cX7_lots 94 = .ok (.iload_n 2, 1) := by decide +kernel
theorem dX7_lots_95 : decode cX7_lots 95 = .ok (.i2l, 1) := by decide +kernel
theorem dX7_lots_96 : decode cX7_lots 96 = .ok (.lcmp, 1) := by decide +kernel
theorem dX7_lots_97 : decode cX7_lots 97 = .ok (.ifCond .lt 7, 3) := by decide +kernel
theorem dX7_lots_100 : decode cX7_lots 100 = .ok (.iconst 1, 1) := by decide +kernel
theorem dX7_lots_101 : decode cX7_lots 101 = .ok (.goto 4, 3) := by decide +kernel
theorem dX7_lots_104 : decode cX7_lots 104 = .ok (.iconst 0, 1) := by decide +kernel
theorem dX7_lots_105 : decode cX7_lots 105 = .ok (.invokevirtual 225, 3) := by decide +kernel
theorem dX7_lots_108 : decode cX7_lots 108 = .ok (.iinc 6 1, 3) := by decide +kernel
theorem dX7_lots_111 : decode cX7_lots 111 = .ok (.goto (-42), 3) := by decide +kernel
theorem dX7_lots_114 : decode cX7_lots 114 = .ok (.aload_n 0, 1) := by decide +kernel
theorem dX7_lots_115 : decode cX7_lots 115 = .ok (.invokevirtual 229, 3) := by decide +kernel
theorem dX7_lots_118 : decode cX7_lots 118 = .ok (.invokestatic 233, 3) := by decide +kernel
theorem dX7_lots_121 : decode cX7_lots 121 = .ok (.ireturn, 1) := by decide +kernel
def F_X7_lots_105 (fu : Nat) (k69 : Mm → Int32 → Int32 → Int64 → Int32 → Option (Int32 × Mm)) (M : Mm) (x1 : Int32) (x2 : Int32) (x4 : Int64) (x6 : Int32) (t1 : Int32) : Option (Int32 × Mm) :=
  ob1 (F_X7_pass fu M t1) (fun M2 =>
  k69 M2 x1 x2 x4 (x6 + (1 : Int32)))
set_option maxRecDepth 100000 in
set_option maxHeartbeats 4000000 in
theorem w_X7_lots_105 {p : Program} {l : Launch} {e : Env} {s : State} {m : MethodId} {args : Array Value} {below : List Frame} {meth : Method} {c : Code} {G : Gv} (hC : Cx p s m args meth c cX7_lots 7 (some .int) RX7) {fu : Nat} {r : Int32} {M' : Mm} {k69 : Mm → Int32 → Int32 → Int64 → Int32 → Option (Int32 × Mm)} (hk_69 : ∀ {x1 : Int32} {x2 : Int32} {x4 : Int64} {x6 : Int32} {M : Mm} {H : Heap} {locs : List Loc} {ls : Array Slot}, k69 M x1 x2 x4 x6 = some (r, M') → St G s H locs M → lv_has ls 7 [(0, .ref (ad G 86)), (1, .int x1), (2, .int x2), (4, .long x4), (6, .int x6)] → W p l e rm_X7_lots s m args below meth c H locs 0 0 (MQ below (QI G r M') args s 0 0 (zA G)) (F0 m 69 ls [])) {x1 : Int32} {x2 : Int32} {x4 : Int64} {x6 : Int32} {t1 : Int32} {M : Mm} {H : Heap} {locs : List Loc} {ls : Array Slot} (hF : F_X7_lots_105 fu k69 M x1 x2 x4 x6 t1 = some (r, M')) (hw : St G s H locs M) (hl : lv_has ls 7 [(0, .ref (ad G 86)), (1, .int x1), (2, .int x2), (4, .long x4), (6, .int x6)]) : W p l e rm_X7_lots s m args below meth c H locs 0 0 (MQ below (QI G r M') args s 0 0 (zA G)) (F0 m 105 ls [.int t1, .ref (ad G 86)]) := by
  unfold F_X7_lots_105 at hF
  obtain ⟨M2, h1, hF⟩ := ob1S hF
  refine k_Vv (As := [.int t1]) (rest := []) hC hw (c_X7_pass (M := M) h1) RC_X yv_X7_pass q5_157 ⟨rfl, rfl⟩ ⟨Nat.le_of_ble_eq_true rfl, Nat.le_of_ble_eq_true rfl⟩ ⟨Nat.zero_le _, Nat.zero_le _⟩ rfl rfl (Nat.le_of_ble_eq_true rfl) hl dX7_lots_105 (fun H locs hw => ?_)
  refine lv_iinc (v := (x6 + (1 : Int32))) (lv' := [(6, .int (x6 + (1 : Int32))), (0, .ref (ad G 86)), (1, .int x1), (2, .int x2), (4, .long x4)]) hC.1 hC.2.1 dX7_lots_108 hl (k := 4) rfl rfl (by decide) rfl (fun ls hl => ?_)
  refine lv_goto (tgt := 69) hC.1 hC.2.1 dX7_lots_111 (by decide) ?_
  exact hk_69 hF hw (lv_sub hl [1, 2, 3, 4, 0] rfl)
def F_X7_lots_69 (fu : Nat) : Nat → Mm → Int32 → Int32 → Int64 → Int32 → Option (Int32 × Mm)
  | 0, _, _, _, _, _ => none
  | n + 1, M, x1, x2, x4, x6 =>
    if x1 ≤ x6 then
      ob1 (F_X7_here fu M) (fun r3 =>
      ob1 (F_X7_bits fu M r3) (fun r5 =>
      some (r5, M)))
    else
      lt1 ((x4 * (48271 : Int64)) - (x4 * (48271 : Int64)) / (2147483647 : Int64) * (2147483647 : Int64)) (fun y6 =>
      if (lg_cmp (y6 - y6 / (12 : Int64) * (12 : Int64)) x2.toInt64) < 0 then
        F_X7_lots_105 fu (F_X7_lots_69 fu n) M x1 x2 y6 x6 (0 : Int32)
      else
        F_X7_lots_105 fu (F_X7_lots_69 fu n) M x1 x2 y6 x6 (1 : Int32))
set_option maxRecDepth 100000 in
set_option maxHeartbeats 4000000 in
theorem w_X7_lots_69 {p : Program} {l : Launch} {e : Env} {s : State} {m : MethodId} {args : Array Value} {below : List Frame} {meth : Method} {c : Code} {G : Gv} (hC : Cx p s m args meth c cX7_lots 7 (some .int) RX7) {fu : Nat} {r : Int32} {M' : Mm} : ∀ (n : Nat) {x1 : Int32} {x2 : Int32} {x4 : Int64} {x6 : Int32} {M : Mm} {H : Heap} {locs : List Loc} {ls : Array Slot}, F_X7_lots_69 fu n M x1 x2 x4 x6 = some (r, M') → St G s H locs M → lv_has ls 7 [(0, .ref (ad G 86)), (1, .int x1), (2, .int x2), (4, .long x4), (6, .int x6)] → W p l e rm_X7_lots s m args below meth c H locs 0 0 (MQ below (QI G r M') args s 0 0 (zA G)) (F0 m 69 ls []) := by
  intro n
  induction n with
  | zero =>
    intro x1 x2 x4 x6 M H locs ls hF hw hl
    cases hF
  | succ n ih =>
    intro x1 x2 x4 x6 M H locs ls hF hw hl
    unfold F_X7_lots_69 at hF
    refine lv_iload hC.1 hC.2.1 dX7_lots_69 (lv_at hl 4 rfl) ?_
    refine lv_iload_n hC.1 hC.2.1 dX7_lots_71 rfl (lv_at hl 1 rfl) ?_
    refine lv_icmp_ge (tgt := 114) hC.1 hC.2.1 dX7_lots_72 (by decide) (fun b1 => ?_) (fun b1 => ?_)
    · have hF := ifP hF b1
      refine lv_aload_n hC.1 hC.2.1 dX7_lots_114 rfl (lv_at hl 0 rfl) ?_
      obtain ⟨r3, h2, hF⟩ := ob1S hF
      refine k_Vi (As := []) (rest := []) hC hw (c_X7_here (M := M) h2) RC_X yv_X7_here q5_165 ⟨rfl, rfl⟩ ⟨Nat.le_of_ble_eq_true rfl, Nat.le_of_ble_eq_true rfl⟩ ⟨Nat.zero_le _, Nat.zero_le _⟩ rfl rfl (Nat.le_of_ble_eq_true rfl) hl dX7_lots_115 (fun H locs hw => ?_)
      obtain ⟨r5, h4, hF⟩ := ob1S hF
      refine k_Si (As := [.int r3]) (rest := []) hC hw (c_X7_bits (M := M) h4) ys_X7_bits q5_169 ⟨rfl, rfl⟩ ⟨Nat.le_of_ble_eq_true rfl, Nat.le_of_ble_eq_true rfl⟩ ⟨Nat.zero_le _, Nat.zero_le _⟩ rfl rfl (Nat.le_of_ble_eq_true rfl) hl dX7_lots_118 (fun H locs hw => ?_)
      exact r_iretE hC hw hF dX7_lots_121
    · have hF := ifN hF b1
      refine lv_lload hC.1 hC.2.1 dX7_lots_75 (lv_at hl 3 rfl) ?_
      refine lv_ldc2 (v := (48271 : Int64)) hC.1 hC.2.1 hC.2.2.2.1 (hC.2.2.2.2.1 _ q6_132) dX7_lots_77 ?_
      refine lv_lmul hC.1 hC.2.1 dX7_lots_80 ?_
      refine lv_ldc2 (v := (2147483647 : Int64)) hC.1 hC.2.1 hC.2.2.2.1 (hC.2.2.2.2.1 _ q6_133) dX7_lots_81 ?_
      refine lv_lrem hC.1 hC.2.1 dX7_lots_84 (by decide) ?_
      refine lv_topl (fun y6 ey6 => ?_)
      have hF := lt1G hF ey6
      refine lv_lstore (lv' := [(4, .long y6), (0, .ref (ad G 86)), (1, .int x1), (2, .int x2), (6, .int x6)]) hC.1 hC.2.1 dX7_lots_85 hl (by decide) rfl (fun ls hl => ?_)
      refine lv_aload_n hC.1 hC.2.1 dX7_lots_87 rfl (lv_at hl 1 rfl) ?_
      refine lv_lload hC.1 hC.2.1 dX7_lots_88 (lv_at hl 0 rfl) ?_
      refine lv_ldc2 (v := (12 : Int64)) hC.1 hC.2.1 hC.2.2.2.1 (hC.2.2.2.2.1 _ q6_113) dX7_lots_90 ?_
      refine lv_lrem hC.1 hC.2.1 dX7_lots_93 (by decide) ?_
      refine lv_iload_n hC.1 hC.2.1 dX7_lots_94 rfl (lv_at hl 3 rfl) ?_
      refine lv_i2l hC.1 hC.2.1 dX7_lots_95 rfl ?_
      refine W.lcmp hC.1 hC.2.1 dX7_lots_96 ?_
      refine lv_if_lt (tgt := 104) hC.1 hC.2.1 dX7_lots_97 (by decide) (fun b7 => ?_) (fun b7 => ?_)
      · have hF := ifP hF b7
        refine lv_iconst (v := (0 : Int32)) hC.1 hC.2.1 dX7_lots_104 (by decide) ?_
        exact w_X7_lots_105 hC (hk_69 := ih) hF hw (lv_sub hl [1, 2, 3, 0, 4] rfl)
      · have hF := ifN hF b7
        refine lv_iconst (v := (1 : Int32)) hC.1 hC.2.1 dX7_lots_100 (by decide) ?_
        refine lv_goto (tgt := 105) hC.1 hC.2.1 dX7_lots_101 (by decide) ?_
        exact w_X7_lots_105 hC (hk_69 := ih) hF hw (lv_sub hl [1, 2, 3, 0, 4] rfl)
def F_X7_lots (fu : Nat) (M : Mm) (x1 : Int32) (x2 : Int32) (x3 : Int32) : Option (Int32 × Mm) :=
  ob1 (F_X7_in fu M x1.toInt64 (1 : Int64) (20 : Int64)) (fun r2 =>
  if r2 = 0 then
    some ((-1 : Int32), M)
  else
    ob1 (F_X7_in fu M x2.toInt64 (0 : Int64) (12 : Int64)) (fun r5 =>
    if r5 = 0 then
      some ((-1 : Int32), M)
    else
      ob1 (F_X7_in fu M x3.toInt64 (1 : Int64) (2147483646 : Int64)) (fun r8 =>
      if r8 = 0 then
        some ((-1 : Int32), M)
      else
        if (M.1 86 4) = 0 then
          some ((-4 : Int32), M)
        else
          if ((M.1 86 12) + x1) ≤ (60 : Int32) then
            F_X7_lots_69 fu fu M x1 x2 x3.toInt64 (0 : Int32)
          else
            some ((-2 : Int32), M))))
set_option maxRecDepth 100000 in
set_option maxHeartbeats 4000000 in
theorem c_X7_lots {l : Launch} {G : Gv} {fu : Nat} {M : Mm} {x1 : Int32} {x2 : Int32} {x3 : Int32} {r : Int32} {M' : Mm} (hF : F_X7_lots fu M x1 x2 x3 = some (r, M')) : Met l yX7_lots (.code yX7_lots cX7_lots 7 (some .int) :: zU) rm_X7_lots (va_Pc [.ref (ad G 86), .int x1, .int x2, .int x3] (Wd G M)) (QI G r M') 0 0 (zA G) := by
  refine zMet (by decide) rfl (Nat.le_of_ble_eq_true rfl) ?_
  intro p e s m below meth c hC hw ls hl
  have hl : lv_has ls 7 [(0, .ref (ad G 86)), (1, .int x1), (2, .int x2), (3, .int x3)] := hl
  unfold F_X7_lots at hF
  refine lv_iload_n hC.1 hC.2.1 dX7_lots_0 rfl (lv_at hl 1 rfl) ?_
  refine lv_i2l hC.1 hC.2.1 dX7_lots_1 rfl ?_
  refine lv_lconst (v := (1 : Int64)) hC.1 hC.2.1 dX7_lots_2 (by decide) ?_
  refine lv_ldc2 (v := (20 : Int64)) hC.1 hC.2.1 hC.2.2.2.1 (hC.2.2.2.2.1 _ q6_130) dX7_lots_3 ?_
  obtain ⟨r2, h1, hF⟩ := ob1S hF
  refine k_Si (As := [.long x1.toInt64, .long (1 : Int64), .long (20 : Int64)]) (rest := []) hC hw (c_X7_in (M := M) h1) ys_X7_in q5_3 ⟨rfl, rfl⟩ ⟨Nat.le_of_ble_eq_true rfl, Nat.le_of_ble_eq_true rfl⟩ ⟨Nat.zero_le _, Nat.zero_le _⟩ rfl rfl (Nat.le_of_ble_eq_true rfl) hl dX7_lots_6 (fun H locs hw => ?_)
  refine lv_if_eq (tgt := 36) hC.1 hC.2.1 dX7_lots_9 (by decide) (fun b3 => ?_) (fun b3 => ?_)
  · have hF := ifP hF b3
    refine lv_iconst (v := (-1 : Int32)) hC.1 hC.2.1 dX7_lots_36 (by decide) ?_
    exact r_iretE hC hw hF dX7_lots_37
  · have hF := ifN hF b3
    refine lv_iload_n hC.1 hC.2.1 dX7_lots_12 rfl (lv_at hl 2 rfl) ?_
    refine lv_i2l hC.1 hC.2.1 dX7_lots_13 rfl ?_
    refine lv_lconst (v := (0 : Int64)) hC.1 hC.2.1 dX7_lots_14 (by decide) ?_
    refine lv_ldc2 (v := (12 : Int64)) hC.1 hC.2.1 hC.2.2.2.1 (hC.2.2.2.2.1 _ q6_113) dX7_lots_15 ?_
    obtain ⟨r5, h4, hF⟩ := ob1S hF
    refine k_Si (As := [.long x2.toInt64, .long (0 : Int64), .long (12 : Int64)]) (rest := []) hC hw (c_X7_in (M := M) h4) ys_X7_in q5_3 ⟨rfl, rfl⟩ ⟨Nat.le_of_ble_eq_true rfl, Nat.le_of_ble_eq_true rfl⟩ ⟨Nat.zero_le _, Nat.zero_le _⟩ rfl rfl (Nat.le_of_ble_eq_true rfl) hl dX7_lots_18 (fun H locs hw => ?_)
    refine lv_if_eq (tgt := 36) hC.1 hC.2.1 dX7_lots_21 (by decide) (fun b6 => ?_) (fun b6 => ?_)
    · have hF := ifP hF b6
      refine lv_iconst (v := (-1 : Int32)) hC.1 hC.2.1 dX7_lots_36 (by decide) ?_
      exact r_iretE hC hw hF dX7_lots_37
    · have hF := ifN hF b6
      refine lv_iload_n hC.1 hC.2.1 dX7_lots_24 rfl (lv_at hl 3 rfl) ?_
      refine lv_i2l hC.1 hC.2.1 dX7_lots_25 rfl ?_
      refine lv_lconst (v := (1 : Int64)) hC.1 hC.2.1 dX7_lots_26 (by decide) ?_
      refine lv_ldc2 (v := (2147483646 : Int64)) hC.1 hC.2.1 hC.2.2.2.1 (hC.2.2.2.2.1 _ q6_131) dX7_lots_27 ?_
      obtain ⟨r8, h7, hF⟩ := ob1S hF
      refine k_Si (As := [.long x3.toInt64, .long (1 : Int64), .long (2147483646 : Int64)]) (rest := []) hC hw (c_X7_in (M := M) h7) ys_X7_in q5_3 ⟨rfl, rfl⟩ ⟨Nat.le_of_ble_eq_true rfl, Nat.le_of_ble_eq_true rfl⟩ ⟨Nat.zero_le _, Nat.zero_le _⟩ rfl rfl (Nat.le_of_ble_eq_true rfl) hl dX7_lots_30 (fun H locs hw => ?_)
      refine lv_if_ne (tgt := 38) hC.1 hC.2.1 dX7_lots_33 (by decide) (fun b9 => ?_) (fun b9 => ?_)
      · have hF := ifN hF b9
        refine lv_aload_n hC.1 hC.2.1 dX7_lots_38 rfl (lv_at hl 0 rfl) ?_
        refine g7_men hC hw q4_126 dX7_lots_39 ?_
        refine lv_if_ne (tgt := 48) hC.1 hC.2.1 dX7_lots_42 (by decide) (fun b10 => ?_) (fun b10 => ?_)
        · have hF := ifN hF b10
          refine lv_aload_n hC.1 hC.2.1 dX7_lots_48 rfl (lv_at hl 0 rfl) ?_
          refine g7_deeds hC hw q4_134 dX7_lots_49 ?_
          refine lv_iload_n hC.1 hC.2.1 dX7_lots_52 rfl (lv_at hl 1 rfl) ?_
          refine lv_iadd hC.1 hC.2.1 dX7_lots_53 ?_
          refine lv_bipush (v := (60 : Int32)) hC.1 hC.2.1 dX7_lots_54 (by decide) ?_
          refine lv_icmp_le (tgt := 62) hC.1 hC.2.1 dX7_lots_56 (by decide) (fun b11 => ?_) (fun b11 => ?_)
          · have hF := ifP hF b11
            refine lv_iload_n hC.1 hC.2.1 dX7_lots_62 rfl (lv_at hl 3 rfl) ?_
            refine lv_i2l hC.1 hC.2.1 dX7_lots_63 rfl ?_
            refine lv_lstore (lv' := [(4, .long x3.toInt64), (0, .ref (ad G 86)), (1, .int x1), (2, .int x2), (3, .int x3)]) hC.1 hC.2.1 dX7_lots_64 hl (by decide) rfl (fun ls hl => ?_)
            refine lv_iconst (v := (0 : Int32)) hC.1 hC.2.1 dX7_lots_66 (by decide) ?_
            refine lv_istore (lv' := [(6, .int (0 : Int32)), (4, .long x3.toInt64), (0, .ref (ad G 86)), (1, .int x1), (2, .int x2), (3, .int x3)]) hC.1 hC.2.1 dX7_lots_67 hl (by decide) rfl (fun ls hl => ?_)
            exact w_X7_lots_69 hC _ hF hw (lv_sub hl [2, 3, 4, 1, 0] rfl)
          · have hF := ifN hF b11
            refine lv_bipush (v := (-2 : Int32)) hC.1 hC.2.1 dX7_lots_59 (by decide) ?_
            exact r_iretE hC hw hF dX7_lots_61
        · have hF := ifP hF b10
          refine lv_bipush (v := (-4 : Int32)) hC.1 hC.2.1 dX7_lots_45 (by decide) ?_
          exact r_iretE hC hw hF dX7_lots_47
      · have hF := ifP hF b9
        refine lv_iconst (v := (-1 : Int32)) hC.1 hC.2.1 dX7_lots_36 (by decide) ?_
        exact r_iretE hC hw hF dX7_lots_37
abbrev rm_X7_asked : Room := { frames := 0, cells := 0, slots := 0, locals := 0 }
theorem yv_X7_asked : YV yX7_asked cX7_asked 1 (some .int) 0 RX7 := ⟨⟨q6_135, q6_136, q1_8, q6_137⟩, by decide +kernel⟩
theorem dX7_asked_0 : decode cX7_asked 0 = .ok (.aload_n 0, 1) := by decide +kernel
theorem dX7_asked_1 : decode cX7_asked 1 = .ok (.getfield 98, 3) := by decide +kernel
theorem dX7_asked_4 : decode cX7_asked 4 = .ok (.ireturn, 1) := by decide +kernel
def F_X7_asked (fu : Nat) (M : Mm) : Option Int32 :=
  some (M.1 86 16)
set_option maxRecDepth 100000 in
set_option maxHeartbeats 4000000 in
theorem c_X7_asked {l : Launch} {G : Gv} {fu : Nat} {M : Mm} {r : Int32} (hF : F_X7_asked fu M = some r) : Met l yX7_asked (.code yX7_asked cX7_asked 1 (some .int) :: zU) rm_X7_asked (va_Pc [.ref (ad G 86)] (Wd G M)) (QI G r M) 0 0 (zA G) := by
  refine zMet (by decide) rfl (Nat.le_of_ble_eq_true rfl) ?_
  intro p e s m below meth c hC hw ls hl
  have hl : lv_has ls 1 [(0, .ref (ad G 86))] := hl
  unfold F_X7_asked at hF
  refine lv_aload_n hC.1 hC.2.1 dX7_asked_0 rfl (lv_at hl 0 rfl) ?_
  refine g7_asks hC hw q4_138 dX7_asked_1 ?_
  exact r_iretP hC hw hF dX7_asked_4
abbrev rm_X7_upper : Room := { frames := 0, cells := 0, slots := 0, locals := 0 }
theorem yv_X7_upper : YV yX7_upper cX7_upper 1 (some .long) 0 RX7 := ⟨⟨q6_139, q6_140, q1_8, q6_141⟩, by decide +kernel⟩
theorem dX7_upper_0 : decode cX7_upper 0 = .ok (.aload_n 0, 1) := by decide +kernel
theorem dX7_upper_1 : decode cX7_upper 1 = .ok (.getfield 300, 3) := by decide +kernel
theorem dX7_upper_4 : decode cX7_upper 4 = .ok (.lreturn, 1) := by decide +kernel
def F_X7_upper (fu : Nat) (M : Mm) : Option Int64 :=
  some (M.2 86 17)
set_option maxRecDepth 100000 in
set_option maxHeartbeats 4000000 in
theorem c_X7_upper {l : Launch} {G : Gv} {fu : Nat} {M : Mm} {r : Int64} (hF : F_X7_upper fu M = some r) : Met l yX7_upper (.code yX7_upper cX7_upper 1 (some .long) :: zU) rm_X7_upper (va_Pc [.ref (ad G 86)] (Wd G M)) (QL G r M) 0 0 (zA G) := by
  refine zMet (by decide) rfl (Nat.le_of_ble_eq_true rfl) ?_
  intro p e s m below meth c hC hw ls hl
  have hl : lv_has ls 1 [(0, .ref (ad G 86))] := hl
  unfold F_X7_upper at hF
  refine lv_aload_n hC.1 hC.2.1 dX7_upper_0 rfl (lv_at hl 0 rfl) ?_
  refine g7_above hC hw q4_139 dX7_upper_1 ?_
  exact r_lretP hC hw hF dX7_upper_4
abbrev rm_X7_lower : Room := { frames := 0, cells := 0, slots := 0, locals := 0 }
theorem yv_X7_lower : YV yX7_lower cX7_lower 1 (some .long) 0 RX7 := ⟨⟨q6_143, q6_144, q1_8, q6_145⟩, by decide +kernel⟩
theorem dX7_lower_0 : decode cX7_lower 0 = .ok (.aload_n 0, 1) := by decide +kernel
theorem dX7_lower_1 : decode cX7_lower 1 = .ok (.getfield 47, 3) := by decide +kernel
theorem dX7_lower_4 : decode cX7_lower 4 = .ok (.lreturn, 1) := by decide +kernel
def F_X7_lower (fu : Nat) (M : Mm) : Option Int64 :=
  some (M.2 86 18)
set_option maxRecDepth 100000 in
set_option maxHeartbeats 4000000 in
theorem c_X7_lower {l : Launch} {G : Gv} {fu : Nat} {M : Mm} {r : Int64} (hF : F_X7_lower fu M = some r) : Met l yX7_lower (.code yX7_lower cX7_lower 1 (some .long) :: zU) rm_X7_lower (va_Pc [.ref (ad G 86)] (Wd G M)) (QL G r M) 0 0 (zA G) := by
  refine zMet (by decide) rfl (Nat.le_of_ble_eq_true rfl) ?_
  intro p e s m below meth c hC hw ls hl
  have hl : lv_has ls 1 [(0, .ref (ad G 86))] := hl
  unfold F_X7_lower at hF
  refine lv_aload_n hC.1 hC.2.1 dX7_lower_0 rfl (lv_at hl 0 rfl) ?_
  refine g7_below hC hw q4_140 dX7_lower_1 ?_
  exact r_lretP hC hw hF dX7_lower_4
abbrev rm_X7_there : Room := { frames := 0, cells := 0, slots := 0, locals := 0 }
theorem ys_X7_there : YS yX7_there cX7_there 4 (some .int) 2 := ⟨⟨q6_159, q1_8, q6_160⟩, by decide +kernel⟩
theorem dX7_there_0 : decode cX7_there 0 = .ok (.iconst 0, 1) := by decide +kernel
theorem dX7_there_1 : decode cX7_there 1 = .ok (.istore_n 2, 1) := by decide +kernel
theorem dX7_there_2 : decode cX7_there 2 = .ok (.iconst 0, 1) := by decide +kernel
theorem dX7_there_3 : decode cX7_there 3 = .ok (.istore_n 3, 1) := by decide +kernel
theorem dX7_there_4 : decode cX7_there 4 = .ok (.iload_n 3, 1) := by decide +kernel
theorem dX7_there_5 : decode cX7_there 5 = .ok (.iload_n 1, 1) := by decide +kernel
theorem dX7_there_6 : decode cX7_there 6 = .ok (.if_icmp .ge 25, 3) := by decide +kernel
theorem dX7_there_9 : decode cX7_there 9 = .ok (.iload_n 2, 1) := by decide +kernel
theorem dX7_there_10 : decode cX7_there 10 = .ok (.aload_n 0, 1) := by decide +kernel
theorem dX7_there_11 : decode cX7_there 11 = .ok (.iload_n 3, 1) := by decide +kernel
theorem dX7_there_12 : decode cX7_there 12 = .ok (.iaload, 1) := by decide +kernel
theorem dX7_there_13 : decode cX7_there 13 = .ok (.bipush (-9), 2) := by decide +kernel
theorem dX7_there_15 : decode cX7_there 15 = .ok (.if_icmp .ne 7, 3) := by decide +kernel
theorem dX7_there_18 : decode cX7_there 18 = .ok (.iconst 0, 1) := by decide +kernel
theorem dX7_there_19 : decode cX7_there 19 = .ok (.goto 4, 3) := by decide +kernel
theorem dX7_there_22 : decode cX7_there 22 = .ok (.iconst 1, 1) := by decide +kernel
theorem dX7_there_23 : decode cX7_there 23 = .ok (.iadd, 1) := by decide +kernel
theorem dX7_there_24 : decode cX7_there 24 = .ok (.istore_n 2, 1) := by decide +kernel
theorem dX7_there_25 : decode cX7_there 25 = .ok (.iinc 3 1, 3) := by decide +kernel
theorem dX7_there_28 : decode cX7_there 28 = .ok (.goto (-24), 3) := by decide +kernel
theorem dX7_there_31 : decode cX7_there 31 = .ok (.iload_n 2, 1) := by decide +kernel
theorem dX7_there_32 : decode cX7_there 32 = .ok (.ireturn, 1) := by decide +kernel
def F_X7_there_4 (fu : Nat) (M : Mm) : Nat → Nat → Int32 → Int32 → Int32 → Option Int32
  | 0, _, _, _, _ => none
  | n + 1, c0, x1, x2, x3 =>
    if x1 ≤ x3 then
      some x2
    else
      if x3 < 0 ∨ ln c0 ≤ x3.toNatClampNeg then none else (
      if (M.1 c0 x3.toNatClampNeg) = (-9 : Int32) then
        F_X7_there_4 fu M n c0 x1 (x2 + (0 : Int32)) (x3 + (1 : Int32))
      else
        F_X7_there_4 fu M n c0 x1 (x2 + (1 : Int32)) (x3 + (1 : Int32)))
set_option maxRecDepth 100000 in
set_option maxHeartbeats 4000000 in
theorem w_X7_there_4 {p : Program} {l : Launch} {e : Env} {s : State} {m : MethodId} {args : Array Value} {below : List Frame} {meth : Method} {c : Code} {G : Gv} (hC : Cx p s m args meth c cX7_there 4 (some .int) RX7) {fu : Nat} {r : Int32} {M : Mm} : ∀ (n : Nat) {c0 : Nat} {x1 : Int32} {x2 : Int32} {x3 : Int32} {H : Heap} {locs : List Loc} {ls : Array Slot} (hk0 : kd c0 = 1), F_X7_there_4 fu M n c0 x1 x2 x3 = some r → St G s H locs M → lv_has ls 4 [(0, .ref (ad G c0)), (1, .int x1), (2, .int x2), (3, .int x3)] → W p l e rm_X7_there s m args below meth c H locs 0 0 (MQ below (QI G r M) args s 0 0 (zA G)) (F0 m 4 ls []) := by
  intro n
  induction n with
  | zero =>
    intro c0 x1 x2 x3 H locs ls hk0 hF hw hl
    cases hF
  | succ n ih =>
    intro c0 x1 x2 x3 H locs ls hk0 hF hw hl
    unfold F_X7_there_4 at hF
    refine lv_iload_n hC.1 hC.2.1 dX7_there_4 rfl (lv_at hl 3 rfl) ?_
    refine lv_iload_n hC.1 hC.2.1 dX7_there_5 rfl (lv_at hl 1 rfl) ?_
    refine lv_icmp_ge (tgt := 31) hC.1 hC.2.1 dX7_there_6 (by decide) (fun b1 => ?_) (fun b1 => ?_)
    · have hF := ifP hF b1
      refine lv_iload_n hC.1 hC.2.1 dX7_there_31 rfl (lv_at hl 2 rfl) ?_
      exact r_iretP hC hw hF dX7_there_32
    · have hF := ifN hF b1
      refine lv_iload_n hC.1 hC.2.1 dX7_there_9 rfl (lv_at hl 2 rfl) ?_
      refine lv_aload_n hC.1 hC.2.1 dX7_there_10 rfl (lv_at hl 0 rfl) ?_
      refine lv_iload_n hC.1 hC.2.1 dX7_there_11 rfl (lv_at hl 3 rfl) ?_
      obtain ⟨n2, hF⟩ := ifO hF
      refine r_iald hC.1 hC.2.1 hw hk0 n2 dX7_there_12 ?_
      refine lv_bipush (v := (-9 : Int32)) hC.1 hC.2.1 dX7_there_13 (by decide) ?_
      refine lv_icmp_ne (tgt := 22) hC.1 hC.2.1 dX7_there_15 (by decide) (fun b3 => ?_) (fun b3 => ?_)
      · have hF := ifN hF b3
        refine lv_iconst (v := (1 : Int32)) hC.1 hC.2.1 dX7_there_22 (by decide) ?_
        refine lv_iadd hC.1 hC.2.1 dX7_there_23 ?_
        refine lv_istore_n (lv' := [(2, .int (x2 + (1 : Int32))), (0, .ref (ad G c0)), (1, .int x1), (3, .int x3)]) hC.1 hC.2.1 dX7_there_24 rfl hl (by decide) rfl (fun ls hl => ?_)
        refine lv_iinc (v := (x3 + (1 : Int32))) (lv' := [(3, .int (x3 + (1 : Int32))), (2, .int (x2 + (1 : Int32))), (0, .ref (ad G c0)), (1, .int x1)]) hC.1 hC.2.1 dX7_there_25 hl (k := 3) rfl rfl (by decide) rfl (fun ls hl => ?_)
        refine lv_goto (tgt := 4) hC.1 hC.2.1 dX7_there_28 (by decide) ?_
        exact ih hk0 hF hw (lv_sub hl [2, 3, 1, 0] rfl)
      · have hF := ifP hF b3
        refine lv_iconst (v := (0 : Int32)) hC.1 hC.2.1 dX7_there_18 (by decide) ?_
        refine lv_goto (tgt := 23) hC.1 hC.2.1 dX7_there_19 (by decide) ?_
        refine lv_iadd hC.1 hC.2.1 dX7_there_23 ?_
        refine lv_istore_n (lv' := [(2, .int (x2 + (0 : Int32))), (0, .ref (ad G c0)), (1, .int x1), (3, .int x3)]) hC.1 hC.2.1 dX7_there_24 rfl hl (by decide) rfl (fun ls hl => ?_)
        refine lv_iinc (v := (x3 + (1 : Int32))) (lv' := [(3, .int (x3 + (1 : Int32))), (2, .int (x2 + (0 : Int32))), (0, .ref (ad G c0)), (1, .int x1)]) hC.1 hC.2.1 dX7_there_25 hl (k := 3) rfl rfl (by decide) rfl (fun ls hl => ?_)
        refine lv_goto (tgt := 4) hC.1 hC.2.1 dX7_there_28 (by decide) ?_
        exact ih hk0 hF hw (lv_sub hl [2, 3, 1, 0] rfl)
def F_X7_there (fu : Nat) (M : Mm) (c0 : Nat) (x1 : Int32) : Option Int32 :=
  F_X7_there_4 fu M fu c0 x1 (0 : Int32) (0 : Int32)
set_option maxRecDepth 100000 in
set_option maxHeartbeats 4000000 in
theorem c_X7_there {l : Launch} {G : Gv} {fu : Nat} {M : Mm} {c0 : Nat} {x1 : Int32} (hk0 : kd c0 = 1) {r : Int32} (hF : F_X7_there fu M c0 x1 = some r) : Met l yX7_there (.code yX7_there cX7_there 4 (some .int) :: zU) rm_X7_there (va_Pc [.ref (ad G c0), .int x1] (Wd G M)) (QI G r M) 0 0 (zA G) := by
  refine zMet (by decide) rfl (Nat.le_of_ble_eq_true rfl) ?_
  intro p e s m below meth c hC hw ls hl
  have hl : lv_has ls 4 [(0, .ref (ad G c0)), (1, .int x1)] := hl
  unfold F_X7_there at hF
  refine lv_iconst (v := (0 : Int32)) hC.1 hC.2.1 dX7_there_0 (by decide) ?_
  refine lv_istore_n (lv' := [(2, .int (0 : Int32)), (0, .ref (ad G c0)), (1, .int x1)]) hC.1 hC.2.1 dX7_there_1 rfl hl (by decide) rfl (fun ls hl => ?_)
  refine lv_iconst (v := (0 : Int32)) hC.1 hC.2.1 dX7_there_2 (by decide) ?_
  refine lv_istore_n (lv' := [(3, .int (0 : Int32)), (2, .int (0 : Int32)), (0, .ref (ad G c0)), (1, .int x1)]) hC.1 hC.2.1 dX7_there_3 rfl hl (by decide) rfl (fun ls hl => ?_)
  exact w_X7_there_4 hC _ hk0 hF hw (lv_sub hl [2, 3, 1, 0] rfl)
abbrev rm_X7_allBulks : Room := { frames := 0, cells := 0, slots := 0, locals := 0 }
theorem yv_X7_allBulks : YV yX7_allBulks cX7_allBulks 3 (some .int) 0 RX7 := ⟨⟨q6_152, qs_75, q1_8, q6_153⟩, by decide +kernel⟩
theorem dX7_allBulks_0 : decode cX7_allBulks 0 = .ok (.iconst 0, 1) := by decide +kernel
theorem dX7_allBulks_1 : decode cX7_allBulks 1 = .ok (.istore_n 1, 1) := by decide +kernel
theorem dX7_allBulks_2 : decode cX7_allBulks 2 = .ok (.iconst 0, 1) := by decide +kernel
theorem dX7_allBulks_3 : decode cX7_allBulks 3 = .ok (.istore_n 2, 1) := by decide +kernel
theorem dX7_allBulks_4 : decode cX7_allBulks 4 = .ok (.iload_n 2, 1) := by decide +kernel
theorem dX7_allBulks_5 : decode cX7_allBulks 5 = .ok (.aload_n 0, 1) := by decide +kernel
theorem dX7_allBulks_6 : decode cX7_allBulks 6 = .ok (.getfield 101, 3) := by decide +kernel
theorem dX7_allBulks_9 : decode cX7_allBulks 9 = .ok (.if_icmp .ge 18, 3) := by decide +kernel
theorem dX7_allBulks_12 : decode cX7_allBulks 12 = .ok (.iload_n 1, 1) := by decide +kernel
theorem dX7_allBulks_13 : decode cX7_allBulks 13 = .ok (.aload_n 0, 1) := by decide +kernel
theorem dX7_allBulks_14 : decode cX7_allBulks 14 = .ok (.getfield 31, 3) := by decide +kernel
theorem dX7_allBulks_17 : decode cX7_allBulks 17 = .ok (.iload_n 2, 1) := by decide +kernel
theorem dX7_allBulks_18 : decode cX7_allBulks 18 = .ok (.iaload, 1) := by decide +kernel
theorem dX7_allBulks_19 : decode cX7_allBulks 19 = .ok (.iadd, 1) := by decide +kernel
theorem dX7_allBulks_20 : decode cX7_allBulks 20 = .ok (.istore_n 1, 1) := by decide +kernel
theorem dX7_allBulks_21 : decode cX7_allBulks 21 = .ok (.iinc 2 1, 3) := by decide +kernel
theorem dX7_allBulks_24 : decode cX7_allBulks 24 = .ok (.goto (-20), 3) := by decide +kernel
theorem dX7_allBulks_27 : decode cX7_allBulks 27 = .ok (.iload_n 1, 1) := by decide +kernel
theorem dX7_allBulks_28 : decode cX7_allBulks 28 = .ok (.ireturn, 1) := by decide +kernel
def F_X7_allBulks_4 (fu : Nat) (M : Mm) : Nat → Int32 → Int32 → Option Int32
  | 0, _, _ => none
  | n + 1, x1, x2 =>
    if (M.1 86 4) ≤ x2 then
      some x1
    else
      if x2 < 0 ∨ ln 94 ≤ x2.toNatClampNeg then none else (
      F_X7_allBulks_4 fu M n (x1 + (M.1 94 x2.toNatClampNeg)) (x2 + (1 : Int32)))
set_option maxRecDepth 100000 in
set_option maxHeartbeats 4000000 in
theorem w_X7_allBulks_4 {p : Program} {l : Launch} {e : Env} {s : State} {m : MethodId} {args : Array Value} {below : List Frame} {meth : Method} {c : Code} {G : Gv} (hC : Cx p s m args meth c cX7_allBulks 3 (some .int) RX7) {fu : Nat} {r : Int32} {M : Mm} : ∀ (n : Nat) {x1 : Int32} {x2 : Int32} {H : Heap} {locs : List Loc} {ls : Array Slot}, F_X7_allBulks_4 fu M n x1 x2 = some r → St G s H locs M → lv_has ls 3 [(0, .ref (ad G 86)), (1, .int x1), (2, .int x2)] → W p l e rm_X7_allBulks s m args below meth c H locs 0 0 (MQ below (QI G r M) args s 0 0 (zA G)) (F0 m 4 ls []) := by
  intro n
  induction n with
  | zero =>
    intro x1 x2 H locs ls hF hw hl
    cases hF
  | succ n ih =>
    intro x1 x2 H locs ls hF hw hl
    unfold F_X7_allBulks_4 at hF
    refine lv_iload_n hC.1 hC.2.1 dX7_allBulks_4 rfl (lv_at hl 2 rfl) ?_
    refine lv_aload_n hC.1 hC.2.1 dX7_allBulks_5 rfl (lv_at hl 0 rfl) ?_
    refine g7_men hC hw q4_126 dX7_allBulks_6 ?_
    refine lv_icmp_ge (tgt := 27) hC.1 hC.2.1 dX7_allBulks_9 (by decide) (fun b1 => ?_) (fun b1 => ?_)
    · have hF := ifP hF b1
      refine lv_iload_n hC.1 hC.2.1 dX7_allBulks_27 rfl (lv_at hl 1 rfl) ?_
      exact r_iretP hC hw hF dX7_allBulks_28
    · have hF := ifN hF b1
      refine lv_iload_n hC.1 hC.2.1 dX7_allBulks_12 rfl (lv_at hl 1 rfl) ?_
      refine lv_aload_n hC.1 hC.2.1 dX7_allBulks_13 rfl (lv_at hl 0 rfl) ?_
      refine g7_bulks hC hw q4_130 dX7_allBulks_14 ?_
      refine lv_iload_n hC.1 hC.2.1 dX7_allBulks_17 rfl (lv_at hl 2 rfl) ?_
      obtain ⟨n2, hF⟩ := ifO hF
      refine r_iald hC.1 hC.2.1 hw (rfl : kd 94 = 1) n2 dX7_allBulks_18 ?_
      refine lv_iadd hC.1 hC.2.1 dX7_allBulks_19 ?_
      refine lv_istore_n (lv' := [(1, .int (x1 + (M.1 94 x2.toNatClampNeg))), (0, .ref (ad G 86)), (2, .int x2)]) hC.1 hC.2.1 dX7_allBulks_20 rfl hl (by decide) rfl (fun ls hl => ?_)
      refine lv_iinc (v := (x2 + (1 : Int32))) (lv' := [(2, .int (x2 + (1 : Int32))), (1, .int (x1 + (M.1 94 x2.toNatClampNeg))), (0, .ref (ad G 86))]) hC.1 hC.2.1 dX7_allBulks_21 hl (k := 2) rfl rfl (by decide) rfl (fun ls hl => ?_)
      refine lv_goto (tgt := 4) hC.1 hC.2.1 dX7_allBulks_24 (by decide) ?_
      exact ih hF hw (lv_sub hl [2, 1, 0] rfl)
def F_X7_allBulks (fu : Nat) (M : Mm) : Option Int32 :=
  F_X7_allBulks_4 fu M fu (0 : Int32) (0 : Int32)
set_option maxRecDepth 100000 in
set_option maxHeartbeats 4000000 in
theorem c_X7_allBulks {l : Launch} {G : Gv} {fu : Nat} {M : Mm} {r : Int32} (hF : F_X7_allBulks fu M = some r) : Met l yX7_allBulks (.code yX7_allBulks cX7_allBulks 3 (some .int) :: zU) rm_X7_allBulks (va_Pc [.ref (ad G 86)] (Wd G M)) (QI G r M) 0 0 (zA G) := by
  refine zMet (by decide) rfl (Nat.le_of_ble_eq_true rfl) ?_
  intro p e s m below meth c hC hw ls hl
  have hl : lv_has ls 3 [(0, .ref (ad G 86))] := hl
  unfold F_X7_allBulks at hF
  refine lv_iconst (v := (0 : Int32)) hC.1 hC.2.1 dX7_allBulks_0 (by decide) ?_
  refine lv_istore_n (lv' := [(1, .int (0 : Int32)), (0, .ref (ad G 86))]) hC.1 hC.2.1 dX7_allBulks_1 rfl hl (by decide) rfl (fun ls hl => ?_)
  refine lv_iconst (v := (0 : Int32)) hC.1 hC.2.1 dX7_allBulks_2 (by decide) ?_
  refine lv_istore_n (lv' := [(2, .int (0 : Int32)), (1, .int (0 : Int32)), (0, .ref (ad G 86))]) hC.1 hC.2.1 dX7_allBulks_3 rfl hl (by decide) rfl (fun ls hl => ?_)
  exact w_X7_allBulks_4 hC _ hF hw (lv_sub hl [2, 1, 0] rfl)
abbrev rm_X7_hatted : Room := { frames := 1, cells := 0, slots := 0, locals := 20 }
theorem yv_X7_hatted : YV yX7_hatted cX7_hatted 3 (some .int) 0 RX7 := ⟨⟨q6_156, qs_76, q1_8, q6_157⟩, by decide +kernel⟩
theorem dX7_hatted_0 : decode cX7_hatted 0 = .ok (.iconst 0, 1) := by decide +kernel
theorem dX7_hatted_1 : decode cX7_hatted 1 = .ok (.istore_n 1, 1) := by decide +kernel
theorem dX7_hatted_2 : decode cX7_hatted 2 = .ok (.iconst 0, 1) := by decide +kernel
theorem dX7_hatted_3 : decode cX7_hatted 3 = .ok (.istore_n 2, 1) := by decide +kernel
theorem dX7_hatted_4 : decode cX7_hatted 4 = .ok (.iload_n 2, 1) := by decide +kernel
theorem dX7_hatted_5 : decode cX7_hatted 5 = .ok (.aload_n 0, 1) := by decide +kernel
theorem dX7_hatted_6 : decode cX7_hatted 6 = .ok (.getfield 101, 3) := by decide +kernel
theorem dX7_hatted_9 : decode cX7_hatted 9 = .ok (.if_icmp .ge 29, 3) := by decide +kernel
theorem dX7_hatted_12 : decode cX7_hatted 12 = .ok (.iload_n 1, 1) := by decide +kernel
theorem dX7_hatted_13 : decode cX7_hatted 13 = .ok (.aload_n 0, 1) := by decide +kernel
theorem dX7_hatted_14 : decode cX7_hatted 14 = .ok (.getfield 22, 3) := by decide +kernel
theorem dX7_hatted_17 : decode cX7_hatted 17 = .ok (.iload_n 2, 1) := by decide +kernel
theorem dX7_hatted_18 : decode cX7_hatted 18 = .ok (.iaload, 1) := by decide +kernel
theorem dX7_hatted_19 : decode cX7_hatted 19 = .ok (.invokestatic 203, 3) := by decide +kernel
theorem dX7_hatted_22 : decode cX7_hatted 22 = .ok (.ifCond .eq 7, 3) := by decide +kernel
theorem dX7_hatted_25 : decode cX7_hatted 25 = .ok (.iconst 1, 1) := by decide +kernel
theorem dX7_hatted_26 : decode cX7_hatted 26 = .ok (.goto 4, 3) := by decide +kernel
theorem dX7_hatted_29 : decode cX7_hatted 29 = .ok (.iconst 0, 1) := by decide +kernel
theorem dX7_hatted_30 : decode cX7_hatted 30 = .ok (.iadd, 1) := by decide +kernel
theorem dX7_hatted_31 : decode cX7_hatted 31 = .ok (.istore_n 1, 1) := by decide +kernel
theorem dX7_hatted_32 : decode cX7_hatted 32 = .ok (.iinc 2 1, 3) := by decide +kernel
theorem dX7_hatted_35 : decode cX7_hatted 35 = .ok (.goto (-31), 3) := by decide +kernel
theorem dX7_hatted_38 : decode cX7_hatted 38 = .ok (.iload_n 1, 1) := by decide +kernel
theorem dX7_hatted_39 : decode cX7_hatted 39 = .ok (.ireturn, 1) := by decide +kernel
def F_X7_hatted_4 (fu : Nat) (M : Mm) : Nat → Int32 → Int32 → Option Int32
  | 0, _, _ => none
  | n + 1, x1, x2 =>
    if (M.1 86 4) ≤ x2 then
      some x1
    else
      if x2 < 0 ∨ ln 91 ≤ x2.toNatClampNeg then none else (
      ob1 (F_X7_isHatted fu M (M.1 91 x2.toNatClampNeg)) (fun r4 =>
      if r4 = 0 then
        F_X7_hatted_4 fu M n (x1 + (0 : Int32)) (x2 + (1 : Int32))
      else
        F_X7_hatted_4 fu M n (x1 + (1 : Int32)) (x2 + (1 : Int32))))
set_option maxRecDepth 100000 in
set_option maxHeartbeats 4000000 in
theorem w_X7_hatted_4 {p : Program} {l : Launch} {e : Env} {s : State} {m : MethodId} {args : Array Value} {below : List Frame} {meth : Method} {c : Code} {G : Gv} (hC : Cx p s m args meth c cX7_hatted 3 (some .int) RX7) {fu : Nat} {r : Int32} {M : Mm} : ∀ (n : Nat) {x1 : Int32} {x2 : Int32} {H : Heap} {locs : List Loc} {ls : Array Slot}, F_X7_hatted_4 fu M n x1 x2 = some r → St G s H locs M → lv_has ls 3 [(0, .ref (ad G 86)), (1, .int x1), (2, .int x2)] → W p l e rm_X7_hatted s m args below meth c H locs 0 0 (MQ below (QI G r M) args s 0 0 (zA G)) (F0 m 4 ls []) := by
  intro n
  induction n with
  | zero =>
    intro x1 x2 H locs ls hF hw hl
    cases hF
  | succ n ih =>
    intro x1 x2 H locs ls hF hw hl
    unfold F_X7_hatted_4 at hF
    refine lv_iload_n hC.1 hC.2.1 dX7_hatted_4 rfl (lv_at hl 2 rfl) ?_
    refine lv_aload_n hC.1 hC.2.1 dX7_hatted_5 rfl (lv_at hl 0 rfl) ?_
    refine g7_men hC hw q4_126 dX7_hatted_6 ?_
    refine lv_icmp_ge (tgt := 38) hC.1 hC.2.1 dX7_hatted_9 (by decide) (fun b1 => ?_) (fun b1 => ?_)
    · have hF := ifP hF b1
      refine lv_iload_n hC.1 hC.2.1 dX7_hatted_38 rfl (lv_at hl 1 rfl) ?_
      exact r_iretP hC hw hF dX7_hatted_39
    · have hF := ifN hF b1
      refine lv_iload_n hC.1 hC.2.1 dX7_hatted_12 rfl (lv_at hl 1 rfl) ?_
      refine lv_aload_n hC.1 hC.2.1 dX7_hatted_13 rfl (lv_at hl 0 rfl) ?_
      refine g7_kindIs hC hw q4_127 dX7_hatted_14 ?_
      refine lv_iload_n hC.1 hC.2.1 dX7_hatted_17 rfl (lv_at hl 2 rfl) ?_
      obtain ⟨n2, hF⟩ := ifO hF
      refine r_iald hC.1 hC.2.1 hw (rfl : kd 91 = 1) n2 dX7_hatted_18 ?_
      obtain ⟨r4, h3, hF⟩ := ob1S hF
      refine k_Si (As := [.int (M.1 91 x2.toNatClampNeg)]) (rest := [.int x1]) hC hw (c_X7_isHatted (M := M) h3) ys_X7_isHatted q5_124 ⟨rfl, rfl⟩ ⟨Nat.le_of_ble_eq_true rfl, Nat.le_of_ble_eq_true rfl⟩ ⟨Nat.zero_le _, Nat.zero_le _⟩ rfl rfl (Nat.le_of_ble_eq_true rfl) hl dX7_hatted_19 (fun H locs hw => ?_)
      refine lv_if_eq (tgt := 29) hC.1 hC.2.1 dX7_hatted_22 (by decide) (fun b5 => ?_) (fun b5 => ?_)
      · have hF := ifP hF b5
        refine lv_iconst (v := (0 : Int32)) hC.1 hC.2.1 dX7_hatted_29 (by decide) ?_
        refine lv_iadd hC.1 hC.2.1 dX7_hatted_30 ?_
        refine lv_istore_n (lv' := [(1, .int (x1 + (0 : Int32))), (0, .ref (ad G 86)), (2, .int x2)]) hC.1 hC.2.1 dX7_hatted_31 rfl hl (by decide) rfl (fun ls hl => ?_)
        refine lv_iinc (v := (x2 + (1 : Int32))) (lv' := [(2, .int (x2 + (1 : Int32))), (1, .int (x1 + (0 : Int32))), (0, .ref (ad G 86))]) hC.1 hC.2.1 dX7_hatted_32 hl (k := 2) rfl rfl (by decide) rfl (fun ls hl => ?_)
        refine lv_goto (tgt := 4) hC.1 hC.2.1 dX7_hatted_35 (by decide) ?_
        exact ih hF hw (lv_sub hl [2, 1, 0] rfl)
      · have hF := ifN hF b5
        refine lv_iconst (v := (1 : Int32)) hC.1 hC.2.1 dX7_hatted_25 (by decide) ?_
        refine lv_goto (tgt := 30) hC.1 hC.2.1 dX7_hatted_26 (by decide) ?_
        refine lv_iadd hC.1 hC.2.1 dX7_hatted_30 ?_
        refine lv_istore_n (lv' := [(1, .int (x1 + (1 : Int32))), (0, .ref (ad G 86)), (2, .int x2)]) hC.1 hC.2.1 dX7_hatted_31 rfl hl (by decide) rfl (fun ls hl => ?_)
        refine lv_iinc (v := (x2 + (1 : Int32))) (lv' := [(2, .int (x2 + (1 : Int32))), (1, .int (x1 + (1 : Int32))), (0, .ref (ad G 86))]) hC.1 hC.2.1 dX7_hatted_32 hl (k := 2) rfl rfl (by decide) rfl (fun ls hl => ?_)
        refine lv_goto (tgt := 4) hC.1 hC.2.1 dX7_hatted_35 (by decide) ?_
        exact ih hF hw (lv_sub hl [2, 1, 0] rfl)
def F_X7_hatted (fu : Nat) (M : Mm) : Option Int32 :=
  F_X7_hatted_4 fu M fu (0 : Int32) (0 : Int32)
set_option maxRecDepth 100000 in
set_option maxHeartbeats 4000000 in
theorem c_X7_hatted {l : Launch} {G : Gv} {fu : Nat} {M : Mm} {r : Int32} (hF : F_X7_hatted fu M = some r) : Met l yX7_hatted (.code yX7_hatted cX7_hatted 3 (some .int) :: zU) rm_X7_hatted (va_Pc [.ref (ad G 86)] (Wd G M)) (QI G r M) 0 0 (zA G) := by
  refine zMet (by decide) rfl (Nat.le_of_ble_eq_true rfl) ?_
  intro p e s m below meth c hC hw ls hl
  have hl : lv_has ls 3 [(0, .ref (ad G 86))] := hl
  unfold F_X7_hatted at hF
  refine lv_iconst (v := (0 : Int32)) hC.1 hC.2.1 dX7_hatted_0 (by decide) ?_
  refine lv_istore_n (lv' := [(1, .int (0 : Int32)), (0, .ref (ad G 86))]) hC.1 hC.2.1 dX7_hatted_1 rfl hl (by decide) rfl (fun ls hl => ?_)
  refine lv_iconst (v := (0 : Int32)) hC.1 hC.2.1 dX7_hatted_2 (by decide) ?_
  refine lv_istore_n (lv' := [(2, .int (0 : Int32)), (1, .int (0 : Int32)), (0, .ref (ad G 86))]) hC.1 hC.2.1 dX7_hatted_3 rfl hl (by decide) rfl (fun ls hl => ?_)
  exact w_X7_hatted_4 hC _ hF hw (lv_sub hl [2, 1, 0] rfl)
abbrev rm_X7_norths : Room := { frames := 0, cells := 0, slots := 0, locals := 0 }
theorem yv_X7_norths : YV yX7_norths cX7_norths 3 (some .int) 0 RX7 := ⟨⟨q6_163, qs_77, q1_8, q6_164⟩, by decide +kernel⟩
theorem dX7_norths_0 : decode cX7_norths 0 = .ok (.iconst 0, 1) := by decide +kernel
theorem dX7_norths_1 : decode cX7_norths 1 = .ok (.istore_n 1, 1) := by decide +kernel
theorem dX7_norths_2 : decode cX7_norths 2 = .ok (.iconst 0, 1) := by decide +kernel
theorem dX7_norths_3 : decode cX7_norths 3 = .ok (.istore_n 2, 1) := by decide +kernel
theorem dX7_norths_4 : decode cX7_norths 4 = .ok (.iload_n 2, 1) := by decide +kernel
theorem dX7_norths_5 : decode cX7_norths 5 = .ok (.iconst 3, 1) := by decide +kernel
theorem dX7_norths_6 : decode cX7_norths 6 = .ok (.if_icmp .ge 26, 3) := by decide +kernel
theorem dX7_norths_9 : decode cX7_norths 9 = .ok (.iload_n 1, 1) := by decide +kernel
theorem dX7_norths_10 : decode cX7_norths 10 = .ok (.aload_n 0, 1) := by decide +kernel
theorem dX7_norths_11 : decode cX7_norths 11 = .ok (.getfield 43, 3) := by decide +kernel
theorem dX7_norths_14 : decode cX7_norths 14 = .ok (.iload_n 2, 1) := by decide +kernel
theorem dX7_norths_15 : decode cX7_norths 15 = .ok (.baload, 1) := by decide +kernel
theorem dX7_norths_16 : decode cX7_norths 16 = .ok (.ifCond .eq 7, 3) := by decide +kernel
theorem dX7_norths_19 : decode cX7_norths 19 = .ok (.iconst 1, 1) := by decide +kernel
theorem dX7_norths_20 : decode cX7_norths 20 = .ok (.goto 4, 3) := by decide +kernel
theorem dX7_norths_23 : decode cX7_norths 23 = .ok (.iconst 0, 1) := by decide +kernel
theorem dX7_norths_24 : decode cX7_norths 24 = .ok (.iadd, 1) := by decide +kernel
theorem dX7_norths_25 : decode cX7_norths 25 = .ok (.istore_n 1, 1) := by decide +kernel
theorem dX7_norths_26 : decode cX7_norths 26 = .ok (.iinc 2 1, 3) := by decide +kernel
theorem dX7_norths_29 : decode cX7_norths 29 = .ok (.goto (-25), 3) := by decide +kernel
theorem dX7_norths_32 : decode cX7_norths 32 = .ok (.iload_n 1, 1) := by decide +kernel
theorem dX7_norths_33 : decode cX7_norths 33 = .ok (.ireturn, 1) := by decide +kernel
def F_X7_norths_4 (fu : Nat) (M : Mm) : Nat → Int32 → Int32 → Option Int32
  | 0, _, _ => none
  | n + 1, x1, x2 =>
    if (3 : Int32) ≤ x2 then
      some x1
    else
      if x2 < 0 ∨ ln 98 ≤ x2.toNatClampNeg then none else (
      if (M.1 98 x2.toNatClampNeg) = 0 then
        F_X7_norths_4 fu M n (x1 + (0 : Int32)) (x2 + (1 : Int32))
      else
        F_X7_norths_4 fu M n (x1 + (1 : Int32)) (x2 + (1 : Int32)))
set_option maxRecDepth 100000 in
set_option maxHeartbeats 4000000 in
theorem w_X7_norths_4 {p : Program} {l : Launch} {e : Env} {s : State} {m : MethodId} {args : Array Value} {below : List Frame} {meth : Method} {c : Code} {G : Gv} (hC : Cx p s m args meth c cX7_norths 3 (some .int) RX7) {fu : Nat} {r : Int32} {M : Mm} : ∀ (n : Nat) {x1 : Int32} {x2 : Int32} {H : Heap} {locs : List Loc} {ls : Array Slot}, F_X7_norths_4 fu M n x1 x2 = some r → St G s H locs M → lv_has ls 3 [(0, .ref (ad G 86)), (1, .int x1), (2, .int x2)] → W p l e rm_X7_norths s m args below meth c H locs 0 0 (MQ below (QI G r M) args s 0 0 (zA G)) (F0 m 4 ls []) := by
  intro n
  induction n with
  | zero =>
    intro x1 x2 H locs ls hF hw hl
    cases hF
  | succ n ih =>
    intro x1 x2 H locs ls hF hw hl
    unfold F_X7_norths_4 at hF
    refine lv_iload_n hC.1 hC.2.1 dX7_norths_4 rfl (lv_at hl 2 rfl) ?_
    refine lv_iconst (v := (3 : Int32)) hC.1 hC.2.1 dX7_norths_5 (by decide) ?_
    refine lv_icmp_ge (tgt := 32) hC.1 hC.2.1 dX7_norths_6 (by decide) (fun b1 => ?_) (fun b1 => ?_)
    · have hF := ifP hF b1
      refine lv_iload_n hC.1 hC.2.1 dX7_norths_32 rfl (lv_at hl 1 rfl) ?_
      exact r_iretP hC hw hF dX7_norths_33
    · have hF := ifN hF b1
      refine lv_iload_n hC.1 hC.2.1 dX7_norths_9 rfl (lv_at hl 1 rfl) ?_
      refine lv_aload_n hC.1 hC.2.1 dX7_norths_10 rfl (lv_at hl 0 rfl) ?_
      refine g7_isKept hC hw q4_137 dX7_norths_11 ?_
      refine lv_iload_n hC.1 hC.2.1 dX7_norths_14 rfl (lv_at hl 2 rfl) ?_
      obtain ⟨n2, hF⟩ := ifO hF
      refine r_zald hC.1 hC.2.1 hw (rfl : kd 98 = 3) n2 dX7_norths_15 ?_
      refine lv_if_eq (tgt := 23) hC.1 hC.2.1 dX7_norths_16 (by decide) (fun b3 => ?_) (fun b3 => ?_)
      · have hF := ifP hF b3
        refine lv_iconst (v := (0 : Int32)) hC.1 hC.2.1 dX7_norths_23 (by decide) ?_
        refine lv_iadd hC.1 hC.2.1 dX7_norths_24 ?_
        refine lv_istore_n (lv' := [(1, .int (x1 + (0 : Int32))), (0, .ref (ad G 86)), (2, .int x2)]) hC.1 hC.2.1 dX7_norths_25 rfl hl (by decide) rfl (fun ls hl => ?_)
        refine lv_iinc (v := (x2 + (1 : Int32))) (lv' := [(2, .int (x2 + (1 : Int32))), (1, .int (x1 + (0 : Int32))), (0, .ref (ad G 86))]) hC.1 hC.2.1 dX7_norths_26 hl (k := 2) rfl rfl (by decide) rfl (fun ls hl => ?_)
        refine lv_goto (tgt := 4) hC.1 hC.2.1 dX7_norths_29 (by decide) ?_
        exact ih hF hw (lv_sub hl [2, 1, 0] rfl)
      · have hF := ifN hF b3
        refine lv_iconst (v := (1 : Int32)) hC.1 hC.2.1 dX7_norths_19 (by decide) ?_
        refine lv_goto (tgt := 24) hC.1 hC.2.1 dX7_norths_20 (by decide) ?_
        refine lv_iadd hC.1 hC.2.1 dX7_norths_24 ?_
        refine lv_istore_n (lv' := [(1, .int (x1 + (1 : Int32))), (0, .ref (ad G 86)), (2, .int x2)]) hC.1 hC.2.1 dX7_norths_25 rfl hl (by decide) rfl (fun ls hl => ?_)
        refine lv_iinc (v := (x2 + (1 : Int32))) (lv' := [(2, .int (x2 + (1 : Int32))), (1, .int (x1 + (1 : Int32))), (0, .ref (ad G 86))]) hC.1 hC.2.1 dX7_norths_26 hl (k := 2) rfl rfl (by decide) rfl (fun ls hl => ?_)
        refine lv_goto (tgt := 4) hC.1 hC.2.1 dX7_norths_29 (by decide) ?_
        exact ih hF hw (lv_sub hl [2, 1, 0] rfl)
def F_X7_norths (fu : Nat) (M : Mm) : Option Int32 :=
  F_X7_norths_4 fu M fu (0 : Int32) (0 : Int32)
set_option maxRecDepth 100000 in
set_option maxHeartbeats 4000000 in
theorem c_X7_norths {l : Launch} {G : Gv} {fu : Nat} {M : Mm} {r : Int32} (hF : F_X7_norths fu M = some r) : Met l yX7_norths (.code yX7_norths cX7_norths 3 (some .int) :: zU) rm_X7_norths (va_Pc [.ref (ad G 86)] (Wd G M)) (QI G r M) 0 0 (zA G) := by
  refine zMet (by decide) rfl (Nat.le_of_ble_eq_true rfl) ?_
  intro p e s m below meth c hC hw ls hl
  have hl : lv_has ls 3 [(0, .ref (ad G 86))] := hl
  unfold F_X7_norths at hF
  refine lv_iconst (v := (0 : Int32)) hC.1 hC.2.1 dX7_norths_0 (by decide) ?_
  refine lv_istore_n (lv' := [(1, .int (0 : Int32)), (0, .ref (ad G 86))]) hC.1 hC.2.1 dX7_norths_1 rfl hl (by decide) rfl (fun ls hl => ?_)
  refine lv_iconst (v := (0 : Int32)) hC.1 hC.2.1 dX7_norths_2 (by decide) ?_
  refine lv_istore_n (lv' := [(2, .int (0 : Int32)), (1, .int (0 : Int32)), (0, .ref (ad G 86))]) hC.1 hC.2.1 dX7_norths_3 rfl hl (by decide) rfl (fun ls hl => ?_)
  exact w_X7_norths_4 hC _ hF hw (lv_sub hl [2, 1, 0] rfl)
abbrev rm_X7_count : Room := { frames := 2, cells := 0, slots := 0, locals := 42 }
theorem yv_X7_count : YV yX7_count cX7_count 2 (some .int) 1 RX7 := ⟨⟨q6_147, q6_148, q1_8, q6_149⟩, by decide +kernel⟩
theorem dX7_count_0 : decode cX7_count 0 = .ok (.iload_n 1, 1) := by decide +kernel
theorem dX7_count_1 : decode cX7_count 1 = .ok (.tableswitch 116 0 8 #[51, 56, 61, 77, 82, 87, 92, 102, 111], 51) := by decide +kernel
theorem dX7_count_52 : decode cX7_count 52 = .ok (.aload_n 0, 1) := by decide +kernel
theorem dX7_count_53 : decode cX7_count 53 = .ok (.getfield 101, 3) := by decide +kernel
theorem dX7_count_56 : decode cX7_count 56 = .ok (.ireturn, 1) := by decide +kernel
theorem dX7_count_57 : decode cX7_count 57 = .ok (.aload_n 0, 1) := by decide +kernel
theorem dX7_count_58 : decode cX7_count 58 = .ok (.getfield 167, 3) := by decide +kernel
theorem dX7_count_61 : decode cX7_count 61 = .ok (.ireturn, 1) := by decide +kernel
theorem dX7_count_62 : decode cX7_count 62 = .ok (.aload_n 0, 1) := by decide +kernel
theorem dX7_count_63 : decode cX7_count 63 = .ok (.getfield 101, 3) := by decide +kernel
theorem dX7_count_66 : decode cX7_count 66 = .ok (.ifCond .ne 7, 3) := by decide +kernel
theorem dX7_count_69 : decode cX7_count 69 = .ok (.iconst 0, 1) := by decide +kernel
theorem dX7_count_70 : decode cX7_count 70 = .ok (.goto 7, 3) := by decide +kernel
theorem dX7_count_73 : decode cX7_count 73 = .ok (.aload_n 0, 1) := by decide +kernel
theorem dX7_count_74 : decode cX7_count 74 = .ok (.getfield 164, 3) := by decide +kernel
theorem dX7_count_77 : decode cX7_count 77 = .ok (.ireturn, 1) := by decide +kernel
theorem dX7_count_78 : decode cX7_count 78 = .ok (.aload_n 0, 1) := by decide +kernel
theorem dX7_count_79 : decode cX7_count 79 = .ok (.getfield 170, 3) := by decide +kernel
theorem dX7_count_82 : decode cX7_count 82 = .ok (.ireturn, 1) := by decide +kernel
theorem dX7_count_83 : decode cX7_count 83 = .ok (.aload_n 0, 1) := by decide +kernel
theorem dX7_count_84 : decode cX7_count 84 = .ok (.invokevirtual 325, 3) := by decide +kernel
theorem dX7_count_87 : decode cX7_count 87 = .ok (.ireturn, 1) := by decide +kernel
theorem dX7_count_88 : decode cX7_count 88 = .ok (.aload_n 0, 1) := by decide +kernel
theorem dX7_count_89 : decode cX7_count 89 = .ok (.invokevirtual 328, 3) := by decide +kernel
theorem dX7_count_92 : decode cX7_count 92 = .ok (.ireturn, 1) := by decide +kernel
theorem dX7_count_93 : decode cX7_count 93 = .ok (.aload_n 0, 1) := by decide +kernel
theorem dX7_count_94 : decode cX7_count 94 = .ok (.getfield 13, 3) := by decide +kernel
theorem dX7_count_97 : decode cX7_count 97 = .ok (.bipush 6, 2) := by decide +kernel
theorem dX7_count_99 : decode cX7_count 99 = .ok (.invokestatic 331, 3) := by decide +kernel
theorem dX7_count_102 : decode cX7_count 102 = .ok (.ireturn, 1) := by decide +kernel
theorem dX7_count_103 : decode cX7_count 103 = .ok (.aload_n 0, 1) := by decide +kernel
theorem dX7_count_104 : decode cX7_count 104 = .ok (.getfield 19, 3) := by decide +kernel
theorem dX7_count_107 : decode cX7_count 107 = .ok (.iconst 4, 1) := by decide +kernel
theorem dX7_count_108 : decode cX7_count 108 = .ok (.invokestatic 331, 3) := by decide +kernel
theorem dX7_count_111 : decode cX7_count 111 = .ok (.ireturn, 1) := by decide +kernel
theorem dX7_count_112 : decode cX7_count 112 = .ok (.aload_n 0, 1) := by decide +kernel
theorem dX7_count_113 : decode cX7_count 113 = .ok (.invokevirtual 335, 3) := by decide +kernel
theorem dX7_count_116 : decode cX7_count 116 = .ok (.ireturn, 1) := by decide +kernel
theorem dX7_count_117 : decode cX7_count 117 = .ok (.iconst (-1), 1) := by decide +kernel
theorem dX7_count_118 : decode cX7_count 118 = .ok (.ireturn, 1) := by decide +kernel
def F_X7_count (fu : Nat) (M : Mm) (x1 : Int32) : Option Int32 :=
  if x1 = (0 : Int32) then
    some (M.1 86 4)
  else
  if x1 = (1 : Int32) then
    some (M.1 86 11)
  else
  if x1 = (2 : Int32) then
    if (M.1 86 4) = 0 then
      some (0 : Int32)
    else
      some (M.1 86 10)
  else
  if x1 = (3 : Int32) then
    some (M.1 86 12)
  else
  if x1 = (4 : Int32) then
    ob1 (F_X7_allBulks fu M) (fun r8 =>
    some r8)
  else
  if x1 = (5 : Int32) then
    ob1 (F_X7_hatted fu M) (fun r11 =>
    some r11)
  else
  if x1 = (6 : Int32) then
    ob1 (F_X7_there fu M 88 (6 : Int32)) (fun r14 =>
    some r14)
  else
  if x1 = (7 : Int32) then
    ob1 (F_X7_there fu M 90 (4 : Int32)) (fun r17 =>
    some r17)
  else
  if x1 = (8 : Int32) then
    ob1 (F_X7_norths fu M) (fun r20 =>
    some r20)
  else
  some (-1 : Int32)
set_option maxRecDepth 100000 in
set_option maxHeartbeats 4000000 in
theorem c_X7_count {l : Launch} {G : Gv} {fu : Nat} {M : Mm} {x1 : Int32} {r : Int32} (hF : F_X7_count fu M x1 = some r) : Met l yX7_count (.code yX7_count cX7_count 2 (some .int) :: zU) rm_X7_count (va_Pc [.ref (ad G 86), .int x1] (Wd G M)) (QI G r M) 0 0 (zA G) := by
  refine zMet (by decide) rfl (Nat.le_of_ble_eq_true rfl) ?_
  intro p e s m below meth c hC hw ls hl
  have hl : lv_has ls 2 [(0, .ref (ad G 86)), (1, .int x1)] := hl
  unfold F_X7_count at hF
  refine lv_iload_n hC.1 hC.2.1 dX7_count_0 rfl (lv_at hl 1 rfl) ?_
  rcases Classical.em (x1 = (0 : Int32)) with w1 | w1
  · have hF := ifP hF w1
    refine r_swI (v := (0 : Int32)) (off := 51) (tgt := 52) hC.1 hC.2.1 w1 dX7_count_1 (by decide) (by decide) rfl (by decide) ?_
    refine lv_aload_n hC.1 hC.2.1 dX7_count_52 rfl (lv_at hl 0 rfl) ?_
    refine g7_men hC hw q4_126 dX7_count_53 ?_
    exact r_iretP hC hw hF dX7_count_56
  have hF := ifN hF w1
  rcases Classical.em (x1 = (1 : Int32)) with w2 | w2
  · have hF := ifP hF w2
    refine r_swI (v := (1 : Int32)) (off := 56) (tgt := 57) hC.1 hC.2.1 w2 dX7_count_1 (by decide) (by decide) rfl (by decide) ?_
    refine lv_aload_n hC.1 hC.2.1 dX7_count_57 rfl (lv_at hl 0 rfl) ?_
    refine g7_dayIs hC hw q4_133 dX7_count_58 ?_
    exact r_iretP hC hw hF dX7_count_61
  have hF := ifN hF w2
  rcases Classical.em (x1 = (2 : Int32)) with w3 | w3
  · have hF := ifP hF w3
    refine r_swI (v := (2 : Int32)) (off := 61) (tgt := 62) hC.1 hC.2.1 w3 dX7_count_1 (by decide) (by decide) rfl (by decide) ?_
    refine lv_aload_n hC.1 hC.2.1 dX7_count_62 rfl (lv_at hl 0 rfl) ?_
    refine g7_men hC hw q4_126 dX7_count_63 ?_
    refine lv_if_ne (tgt := 73) hC.1 hC.2.1 dX7_count_66 (by decide) (fun b4 => ?_) (fun b4 => ?_)
    · have hF := ifN hF b4
      refine lv_aload_n hC.1 hC.2.1 dX7_count_73 rfl (lv_at hl 0 rfl) ?_
      refine g7_rightIs hC hw q4_132 dX7_count_74 ?_
      exact r_iretP hC hw hF dX7_count_77
    · have hF := ifP hF b4
      refine lv_iconst (v := (0 : Int32)) hC.1 hC.2.1 dX7_count_69 (by decide) ?_
      refine lv_goto (tgt := 77) hC.1 hC.2.1 dX7_count_70 (by decide) ?_
      exact r_iretP hC hw hF dX7_count_77
  have hF := ifN hF w3
  rcases Classical.em (x1 = (3 : Int32)) with w5 | w5
  · have hF := ifP hF w5
    refine r_swI (v := (3 : Int32)) (off := 77) (tgt := 78) hC.1 hC.2.1 w5 dX7_count_1 (by decide) (by decide) rfl (by decide) ?_
    refine lv_aload_n hC.1 hC.2.1 dX7_count_78 rfl (lv_at hl 0 rfl) ?_
    refine g7_deeds hC hw q4_134 dX7_count_79 ?_
    exact r_iretP hC hw hF dX7_count_82
  have hF := ifN hF w5
  rcases Classical.em (x1 = (4 : Int32)) with w6 | w6
  · have hF := ifP hF w6
    refine r_swI (v := (4 : Int32)) (off := 82) (tgt := 83) hC.1 hC.2.1 w6 dX7_count_1 (by decide) (by decide) rfl (by decide) ?_
    refine lv_aload_n hC.1 hC.2.1 dX7_count_83 rfl (lv_at hl 0 rfl) ?_
    obtain ⟨r8, h7, hF⟩ := ob1S hF
    refine k_Vi (As := []) (rest := []) hC hw (c_X7_allBulks (M := M) h7) RC_X yv_X7_allBulks q6_150 ⟨rfl, rfl⟩ ⟨Nat.le_of_ble_eq_true rfl, Nat.le_of_ble_eq_true rfl⟩ ⟨Nat.zero_le _, Nat.zero_le _⟩ rfl rfl (Nat.le_of_ble_eq_true rfl) hl dX7_count_84 (fun H locs hw => ?_)
    exact r_iretP hC hw hF dX7_count_87
  have hF := ifN hF w6
  rcases Classical.em (x1 = (5 : Int32)) with w9 | w9
  · have hF := ifP hF w9
    refine r_swI (v := (5 : Int32)) (off := 87) (tgt := 88) hC.1 hC.2.1 w9 dX7_count_1 (by decide) (by decide) rfl (by decide) ?_
    refine lv_aload_n hC.1 hC.2.1 dX7_count_88 rfl (lv_at hl 0 rfl) ?_
    obtain ⟨r11, h10, hF⟩ := ob1S hF
    refine k_Vi (As := []) (rest := []) hC hw (c_X7_hatted (M := M) h10) RC_X yv_X7_hatted q6_154 ⟨rfl, rfl⟩ ⟨Nat.le_of_ble_eq_true rfl, Nat.le_of_ble_eq_true rfl⟩ ⟨Nat.zero_le _, Nat.zero_le _⟩ rfl rfl (Nat.le_of_ble_eq_true rfl) hl dX7_count_89 (fun H locs hw => ?_)
    exact r_iretP hC hw hF dX7_count_92
  have hF := ifN hF w9
  rcases Classical.em (x1 = (6 : Int32)) with w12 | w12
  · have hF := ifP hF w12
    refine r_swI (v := (6 : Int32)) (off := 92) (tgt := 93) hC.1 hC.2.1 w12 dX7_count_1 (by decide) (by decide) rfl (by decide) ?_
    refine lv_aload_n hC.1 hC.2.1 dX7_count_93 rfl (lv_at hl 0 rfl) ?_
    refine g7_rowLong hC hw q4_123 dX7_count_94 ?_
    refine lv_bipush (v := (6 : Int32)) hC.1 hC.2.1 dX7_count_97 (by decide) ?_
    obtain ⟨r14, h13, hF⟩ := ob1S hF
    refine k_Si (As := [.ref (ad G 88), .int (6 : Int32)]) (rest := []) hC hw (c_X7_there (M := M) (rfl : kd 88 = 1) h13) ys_X7_there q6_158 ⟨rfl, rfl⟩ ⟨Nat.le_of_ble_eq_true rfl, Nat.le_of_ble_eq_true rfl⟩ ⟨Nat.zero_le _, Nat.zero_le _⟩ rfl rfl (Nat.le_of_ble_eq_true rfl) hl dX7_count_99 (fun H locs hw => ?_)
    exact r_iretP hC hw hF dX7_count_102
  have hF := ifN hF w12
  rcases Classical.em (x1 = (7 : Int32)) with w15 | w15
  · have hF := ifP hF w15
    refine r_swI (v := (7 : Int32)) (off := 102) (tgt := 103) hC.1 hC.2.1 w15 dX7_count_1 (by decide) (by decide) rfl (by decide) ?_
    refine lv_aload_n hC.1 hC.2.1 dX7_count_103 rfl (lv_at hl 0 rfl) ?_
    refine g7_textLong hC hw q4_125 dX7_count_104 ?_
    refine lv_iconst (v := (4 : Int32)) hC.1 hC.2.1 dX7_count_107 (by decide) ?_
    obtain ⟨r17, h16, hF⟩ := ob1S hF
    refine k_Si (As := [.ref (ad G 90), .int (4 : Int32)]) (rest := []) hC hw (c_X7_there (M := M) (rfl : kd 90 = 1) h16) ys_X7_there q6_158 ⟨rfl, rfl⟩ ⟨Nat.le_of_ble_eq_true rfl, Nat.le_of_ble_eq_true rfl⟩ ⟨Nat.zero_le _, Nat.zero_le _⟩ rfl rfl (Nat.le_of_ble_eq_true rfl) hl dX7_count_108 (fun H locs hw => ?_)
    exact r_iretP hC hw hF dX7_count_111
  have hF := ifN hF w15
  rcases Classical.em (x1 = (8 : Int32)) with w18 | w18
  · have hF := ifP hF w18
    refine r_swI (v := (8 : Int32)) (off := 111) (tgt := 112) hC.1 hC.2.1 w18 dX7_count_1 (by decide) (by decide) rfl (by decide) ?_
    refine lv_aload_n hC.1 hC.2.1 dX7_count_112 rfl (lv_at hl 0 rfl) ?_
    obtain ⟨r20, h19, hF⟩ := ob1S hF
    refine k_Vi (As := []) (rest := []) hC hw (c_X7_norths (M := M) h19) RC_X yv_X7_norths q6_161 ⟨rfl, rfl⟩ ⟨Nat.le_of_ble_eq_true rfl, Nat.le_of_ble_eq_true rfl⟩ ⟨Nat.zero_le _, Nat.zero_le _⟩ rfl rfl (Nat.le_of_ble_eq_true rfl) hl dX7_count_113 (fun H locs hw => ?_)
    exact r_iretP hC hw hF dX7_count_116
  have hF := ifN hF w18
  refine r_swD (tgt := 117) (vs := [(0 : Int32), (1 : Int32), (2 : Int32), (3 : Int32), (4 : Int32), (5 : Int32), (6 : Int32), (7 : Int32), (8 : Int32)]) hC.1 hC.2.1 (List.forall_mem_cons.mpr ⟨w1, List.forall_mem_cons.mpr ⟨w2, List.forall_mem_cons.mpr ⟨w3, List.forall_mem_cons.mpr ⟨w5, List.forall_mem_cons.mpr ⟨w6, List.forall_mem_cons.mpr ⟨w9, List.forall_mem_cons.mpr ⟨w12, List.forall_mem_cons.mpr ⟨w15, List.forall_mem_cons.mpr ⟨w18, fun v hv => absurd hv List.not_mem_nil⟩⟩⟩⟩⟩⟩⟩⟩⟩) dX7_count_1 (by decide) rfl (by decide) ?_
  refine lv_iconst (v := (-1 : Int32)) hC.1 hC.2.1 dX7_count_117 (by decide) ?_
  exact r_iretP hC hw hF dX7_count_118
abbrev rm_X7_finding : Room := { frames := 0, cells := 0, slots := 0, locals := 0 }
theorem yv_X7_finding : YV yX7_finding cX7_finding 1 (some .int) 0 RX7 := ⟨⟨q6_166, q6_167, q1_8, q6_168⟩, by decide +kernel⟩
theorem dX7_finding_0 : decode cX7_finding 0 = .ok (.aload_n 0, 1) := by decide +kernel
theorem dX7_finding_1 : decode cX7_finding 1 = .ok (.getfield 94, 3) := by decide +kernel
theorem dX7_finding_4 : decode cX7_finding 4 = .ok (.ireturn, 1) := by decide +kernel
def F_X7_finding (fu : Nat) (M : Mm) : Option Int32 :=
  some (M.1 86 19)
set_option maxRecDepth 100000 in
set_option maxHeartbeats 4000000 in
theorem c_X7_finding {l : Launch} {G : Gv} {fu : Nat} {M : Mm} {r : Int32} (hF : F_X7_finding fu M = some r) : Met l yX7_finding (.code yX7_finding cX7_finding 1 (some .int) :: zU) rm_X7_finding (va_Pc [.ref (ad G 86)] (Wd G M)) (QI G r M) 0 0 (zA G) := by
  refine zMet (by decide) rfl (Nat.le_of_ble_eq_true rfl) ?_
  intro p e s m below meth c hC hw ls hl
  have hl : lv_has ls 1 [(0, .ref (ad G 86))] := hl
  unfold F_X7_finding at hF
  refine lv_aload_n hC.1 hC.2.1 dX7_finding_0 rfl (lv_at hl 0 rfl) ?_
  refine g7_found hC hw q4_141 dX7_finding_1 ?_
  exact r_iretP hC hw hF dX7_finding_4
abbrev rm_X7_findings : Room := { frames := 1, cells := 0, slots := 0, locals := 25 }
theorem yv_X7_findings : YV yX7_findings cX7_findings 2 (some .int) 1 RX7 := ⟨⟨q6_170, q6_171, q1_8, q6_172⟩, by decide +kernel⟩
theorem dX7_findings_0 : decode cX7_findings 0 = .ok (.iload_n 1, 1) := by decide +kernel
theorem dX7_findings_1 : decode cX7_findings 1 = .ok (.i2l, 1) := by decide +kernel
theorem dX7_findings_2 : decode cX7_findings 2 = .ok (.lconst 1, 1) := by decide +kernel
theorem dX7_findings_3 : decode cX7_findings 3 = .ok (.ldc2_w 108, 3) := by decide +kernel
theorem dX7_findings_6 : decode cX7_findings 6 = .ok (.invokestatic 104, 3) := by decide +kernel
theorem dX7_findings_9 : decode cX7_findings 9 = .ok (.ifCond .eq 12, 3) := by decide +kernel
theorem dX7_findings_12 : decode cX7_findings 12 = .ok (.aload_n 0, 1) := by decide +kernel
theorem dX7_findings_13 : decode cX7_findings 13 = .ok (.getfield 51, 3) := by decide +kernel
theorem dX7_findings_16 : decode cX7_findings 16 = .ok (.iload_n 1, 1) := by decide +kernel
theorem dX7_findings_17 : decode cX7_findings 17 = .ok (.iaload, 1) := by decide +kernel
theorem dX7_findings_18 : decode cX7_findings 18 = .ok (.goto 4, 3) := by decide +kernel
theorem dX7_findings_21 : decode cX7_findings 21 = .ok (.iconst (-1), 1) := by decide +kernel
theorem dX7_findings_22 : decode cX7_findings 22 = .ok (.ireturn, 1) := by decide +kernel
def F_X7_findings (fu : Nat) (M : Mm) (x1 : Int32) : Option Int32 :=
  ob1 (F_X7_in fu M x1.toInt64 (1 : Int64) (5 : Int64)) (fun r2 =>
  if r2 = 0 then
    some (-1 : Int32)
  else
    if x1 < 0 ∨ ln 99 ≤ x1.toNatClampNeg then none else (
    some (M.1 99 x1.toNatClampNeg)))
set_option maxRecDepth 100000 in
set_option maxHeartbeats 4000000 in
theorem c_X7_findings {l : Launch} {G : Gv} {fu : Nat} {M : Mm} {x1 : Int32} {r : Int32} (hF : F_X7_findings fu M x1 = some r) : Met l yX7_findings (.code yX7_findings cX7_findings 2 (some .int) :: zU) rm_X7_findings (va_Pc [.ref (ad G 86), .int x1] (Wd G M)) (QI G r M) 0 0 (zA G) := by
  refine zMet (by decide) rfl (Nat.le_of_ble_eq_true rfl) ?_
  intro p e s m below meth c hC hw ls hl
  have hl : lv_has ls 2 [(0, .ref (ad G 86)), (1, .int x1)] := hl
  unfold F_X7_findings at hF
  refine lv_iload_n hC.1 hC.2.1 dX7_findings_0 rfl (lv_at hl 1 rfl) ?_
  refine lv_i2l hC.1 hC.2.1 dX7_findings_1 rfl ?_
  refine lv_lconst (v := (1 : Int64)) hC.1 hC.2.1 dX7_findings_2 (by decide) ?_
  refine lv_ldc2 (v := (5 : Int64)) hC.1 hC.2.1 hC.2.2.2.1 (hC.2.2.2.2.1 _ q5_2) dX7_findings_3 ?_
  obtain ⟨r2, h1, hF⟩ := ob1S hF
  refine k_Si (As := [.long x1.toInt64, .long (1 : Int64), .long (5 : Int64)]) (rest := []) hC hw (c_X7_in (M := M) h1) ys_X7_in q5_3 ⟨rfl, rfl⟩ ⟨Nat.le_of_ble_eq_true rfl, Nat.le_of_ble_eq_true rfl⟩ ⟨Nat.zero_le _, Nat.zero_le _⟩ rfl rfl (Nat.le_of_ble_eq_true rfl) hl dX7_findings_6 (fun H locs hw => ?_)
  refine lv_if_eq (tgt := 21) hC.1 hC.2.1 dX7_findings_9 (by decide) (fun b3 => ?_) (fun b3 => ?_)
  · have hF := ifP hF b3
    refine lv_iconst (v := (-1 : Int32)) hC.1 hC.2.1 dX7_findings_21 (by decide) ?_
    exact r_iretP hC hw hF dX7_findings_22
  · have hF := ifN hF b3
    refine lv_aload_n hC.1 hC.2.1 dX7_findings_12 rfl (lv_at hl 0 rfl) ?_
    refine g7_manyFound hC hw q4_142 dX7_findings_13 ?_
    refine lv_iload_n hC.1 hC.2.1 dX7_findings_16 rfl (lv_at hl 1 rfl) ?_
    obtain ⟨n4, hF⟩ := ifO hF
    refine r_iald hC.1 hC.2.1 hw (rfl : kd 99 = 1) n4 dX7_findings_17 ?_
    refine lv_goto (tgt := 22) hC.1 hC.2.1 dX7_findings_18 (by decide) ?_
    exact r_iretP hC hw hF dX7_findings_22
abbrev rm_X7_sums : Room := { frames := 0, cells := 0, slots := 0, locals := 0 }
theorem ys_X7_sums : YS yX7_sums cX7_sums 8 (some .long) 4 := ⟨⟨q6_181, q1_8, q6_182⟩, by decide +kernel⟩
theorem dX7_sums_0 : decode cX7_sums 0 = .ok (.ldc2_w 338, 3) := by decide +kernel
theorem dX7_sums_3 : decode cX7_sums 3 = .ok (.lload_n 0, 1) := by decide +kernel
theorem dX7_sums_4 : decode cX7_sums 4 = .ok (.lmul, 1) := by decide +kernel
theorem dX7_sums_5 : decode cX7_sums 5 = .ok (.iload 4, 2) := by decide +kernel
theorem dX7_sums_7 : decode cX7_sums 7 = .ok (.bipush (-9), 2) := by decide +kernel
theorem dX7_sums_9 : decode cX7_sums 9 = .ok (.if_icmp .ne 7, 3) := by decide +kernel
theorem dX7_sums_12 : decode cX7_sums 12 = .ok (.iconst (-1), 1) := by decide +kernel
theorem dX7_sums_13 : decode cX7_sums 13 = .ok (.goto 5, 3) := by decide +kernel
theorem dX7_sums_16 : decode cX7_sums 16 = .ok (.iload 4, 2) := by decide +kernel
theorem dX7_sums_18 : decode cX7_sums 18 = .ok (.i2l, 1) := by decide +kernel
theorem dX7_sums_19 : decode cX7_sums 19 = .ok (.ladd, 1) := by decide +kernel
theorem dX7_sums_20 : decode cX7_sums 20 = .ok (.lstore 5, 2) := by decide +kernel
theorem dX7_sums_22 : decode cX7_sums 22 = .ok (.iconst 0, 1) := by decide +kernel
theorem dX7_sums_23 : decode cX7_sums 23 = .ok (.istore 7, 2) := by decide +kernel
theorem dX7_sums_25 : decode cX7_sums 25 = .ok (.iload 7, 2) := by decide +kernel
theorem dX7_sums_27 : decode cX7_sums 27 = .ok (.iload 4, 2) := by decide +kernel
theorem dX7_sums_29 : decode cX7_sums 29 = .ok (.if_icmp .ge 25, 3) := by decide +kernel
theorem dX7_sums_32 : decode cX7_sums 32 = .ok (.ldc2_w 338, 3) := by decide +kernel
theorem dX7_sums_35 : decode cX7_sums 35 = .ok (.lload 5, 2) := by decide +kernel
theorem dX7_sums_37 : decode cX7_sums 37 = .ok (.lmul, 1) := by decide +kernel
theorem dX7_sums_38 : decode cX7_sums 38 = .ok (.aload_n 2, 1) := by decide +kernel
theorem dX7_sums_39 : decode cX7_sums 39 = .ok (.iload_n 3, 1) := by decide +kernel
theorem dX7_sums_40 : decode cX7_sums 40 = .ok (.iload 7, 2) := by decide +kernel
theorem dX7_sums_42 : decode cX7_sums 42 = .ok (.iadd, 1) := by decide +kernel
theorem dX7_sums_43 : decode cX7_sums 43 = .ok (.iaload, 1) := by decide +kernel
theorem dX7_sums_44 : decode cX7_sums 44 = .ok (.i2l, 1) := by decide +kernel
theorem dX7_sums_45 : decode cX7_sums 45 = .ok (.ladd, 1) := by decide +kernel
theorem dX7_sums_46 : decode cX7_sums 46 = .ok (.lstore 5, 2) := by decide +kernel
theorem dX7_sums_48 : decode cX7_sums 48 = .ok (.iinc 7 1, 3) := by decide +kernel
theorem dX7_sums_51 : decode cX7_sums 51 = .ok (.goto (-26), 3) := by decide +kernel
theorem dX7_sums_54 : decode cX7_sums 54 = .ok (.lload 5, 2) := by decide +kernel
theorem dX7_sums_56 : decode cX7_sums 56 = .ok (.lreturn, 1) := by decide +kernel
def F_X7_sums_25 (fu : Nat) (M : Mm) : Nat → Nat → Int32 → Int32 → Int64 → Int32 → Option Int64
  | 0, _, _, _, _, _ => none
  | n + 1, c2, x3, x4, x5, x7 =>
    if x4 ≤ x7 then
      some x5
    else
      if (x3 + x7) < 0 ∨ ln c2 ≤ (x3 + x7).toNatClampNeg then none else (
      lt1 (((31 : Int64) * x5) + (M.1 c2 (x3 + x7).toNatClampNeg).toInt64) (fun y3 =>
      F_X7_sums_25 fu M n c2 x3 x4 y3 (x7 + (1 : Int32))))
set_option maxRecDepth 100000 in
set_option maxHeartbeats 4000000 in
theorem w_X7_sums_25 {p : Program} {l : Launch} {e : Env} {s : State} {m : MethodId} {args : Array Value} {below : List Frame} {meth : Method} {c : Code} {G : Gv} (hC : Cx p s m args meth c cX7_sums 8 (some .long) RX7) {fu : Nat} {r : Int64} {M : Mm} : ∀ (n : Nat) {c2 : Nat} {x3 : Int32} {x4 : Int32} {x5 : Int64} {x7 : Int32} {H : Heap} {locs : List Loc} {ls : Array Slot} (hk2 : kd c2 = 1), F_X7_sums_25 fu M n c2 x3 x4 x5 x7 = some r → St G s H locs M → lv_has ls 8 [(2, .ref (ad G c2)), (3, .int x3), (4, .int x4), (5, .long x5), (7, .int x7)] → W p l e rm_X7_sums s m args below meth c H locs 0 0 (MQ below (QL G r M) args s 0 0 (zA G)) (F0 m 25 ls []) := by
  intro n
  induction n with
  | zero =>
    intro c2 x3 x4 x5 x7 H locs ls hk2 hF hw hl
    cases hF
  | succ n ih =>
    intro c2 x3 x4 x5 x7 H locs ls hk2 hF hw hl
    unfold F_X7_sums_25 at hF
    refine lv_iload hC.1 hC.2.1 dX7_sums_25 (lv_at hl 4 rfl) ?_
    refine lv_iload hC.1 hC.2.1 dX7_sums_27 (lv_at hl 2 rfl) ?_
    refine lv_icmp_ge (tgt := 54) hC.1 hC.2.1 dX7_sums_29 (by decide) (fun b1 => ?_) (fun b1 => ?_)
    · have hF := ifP hF b1
      refine lv_lload hC.1 hC.2.1 dX7_sums_54 (lv_at hl 3 rfl) ?_
      exact r_lretP hC hw hF dX7_sums_56
    · have hF := ifN hF b1
      refine lv_ldc2 (v := (31 : Int64)) hC.1 hC.2.1 hC.2.2.2.1 (hC.2.2.2.2.1 _ q6_178) dX7_sums_32 ?_
      refine lv_lload hC.1 hC.2.1 dX7_sums_35 (lv_at hl 3 rfl) ?_
      refine lv_lmul hC.1 hC.2.1 dX7_sums_37 ?_
      refine lv_aload_n hC.1 hC.2.1 dX7_sums_38 rfl (lv_at hl 0 rfl) ?_
      refine lv_iload_n hC.1 hC.2.1 dX7_sums_39 rfl (lv_at hl 1 rfl) ?_
      refine lv_iload hC.1 hC.2.1 dX7_sums_40 (lv_at hl 4 rfl) ?_
      refine lv_iadd hC.1 hC.2.1 dX7_sums_42 ?_
      obtain ⟨n2, hF⟩ := ifO hF
      refine r_iald hC.1 hC.2.1 hw hk2 n2 dX7_sums_43 ?_
      refine lv_i2l hC.1 hC.2.1 dX7_sums_44 rfl ?_
      refine lv_ladd hC.1 hC.2.1 dX7_sums_45 ?_
      refine lv_topl (fun y3 ey3 => ?_)
      have hF := lt1G hF ey3
      refine lv_lstore (lv' := [(5, .long y3), (2, .ref (ad G c2)), (3, .int x3), (4, .int x4), (7, .int x7)]) hC.1 hC.2.1 dX7_sums_46 hl (by decide) rfl (fun ls hl => ?_)
      refine lv_iinc (v := (x7 + (1 : Int32))) (lv' := [(7, .int (x7 + (1 : Int32))), (5, .long y3), (2, .ref (ad G c2)), (3, .int x3), (4, .int x4)]) hC.1 hC.2.1 dX7_sums_48 hl (k := 4) rfl rfl (by decide) rfl (fun ls hl => ?_)
      refine lv_goto (tgt := 25) hC.1 hC.2.1 dX7_sums_51 (by decide) ?_
      exact ih hk2 hF hw (lv_sub hl [2, 3, 4, 1, 0] rfl)
def F_X7_sums (fu : Nat) (M : Mm) (x0 : Int64) (c2 : Nat) (x3 : Int32) (x4 : Int32) : Option Int64 :=
  if x4 = (-9 : Int32) then
    lt1 (((31 : Int64) * x0) + (-1 : Int32).toInt64) (fun y2 =>
    F_X7_sums_25 fu M fu c2 x3 x4 y2 (0 : Int32))
  else
    F_X7_sums_25 fu M fu c2 x3 x4 (((31 : Int64) * x0) + x4.toInt64) (0 : Int32)
set_option maxRecDepth 100000 in
set_option maxHeartbeats 4000000 in
theorem c_X7_sums {l : Launch} {G : Gv} {fu : Nat} {M : Mm} {x0 : Int64} {c2 : Nat} {x3 : Int32} {x4 : Int32} (hk2 : kd c2 = 1) {r : Int64} (hF : F_X7_sums fu M x0 c2 x3 x4 = some r) : Met l yX7_sums (.code yX7_sums cX7_sums 8 (some .long) :: zU) rm_X7_sums (va_Pc [.long x0, .ref (ad G c2), .int x3, .int x4] (Wd G M)) (QL G r M) 0 0 (zA G) := by
  refine zMet (by decide) rfl (Nat.le_of_ble_eq_true rfl) ?_
  intro p e s m below meth c hC hw ls hl
  have hl : lv_has ls 8 [(0, .long x0), (2, .ref (ad G c2)), (3, .int x3), (4, .int x4)] := hl
  unfold F_X7_sums at hF
  refine lv_ldc2 (v := (31 : Int64)) hC.1 hC.2.1 hC.2.2.2.1 (hC.2.2.2.2.1 _ q6_178) dX7_sums_0 ?_
  refine lv_lload_n hC.1 hC.2.1 dX7_sums_3 rfl (lv_at hl 0 rfl) ?_
  refine lv_lmul hC.1 hC.2.1 dX7_sums_4 ?_
  refine lv_iload hC.1 hC.2.1 dX7_sums_5 (lv_at hl 3 rfl) ?_
  refine lv_bipush (v := (-9 : Int32)) hC.1 hC.2.1 dX7_sums_7 (by decide) ?_
  refine lv_icmp_ne (tgt := 16) hC.1 hC.2.1 dX7_sums_9 (by decide) (fun b1 => ?_) (fun b1 => ?_)
  · have hF := ifN hF b1
    refine lv_iload hC.1 hC.2.1 dX7_sums_16 (lv_at hl 3 rfl) ?_
    refine lv_i2l hC.1 hC.2.1 dX7_sums_18 rfl ?_
    refine lv_ladd hC.1 hC.2.1 dX7_sums_19 ?_
    refine lv_lstore (lv' := [(5, .long (((31 : Int64) * x0) + x4.toInt64)), (0, .long x0), (2, .ref (ad G c2)), (3, .int x3), (4, .int x4)]) hC.1 hC.2.1 dX7_sums_20 hl (by decide) rfl (fun ls hl => ?_)
    refine lv_iconst (v := (0 : Int32)) hC.1 hC.2.1 dX7_sums_22 (by decide) ?_
    refine lv_istore (lv' := [(7, .int (0 : Int32)), (5, .long (((31 : Int64) * x0) + x4.toInt64)), (0, .long x0), (2, .ref (ad G c2)), (3, .int x3), (4, .int x4)]) hC.1 hC.2.1 dX7_sums_23 hl (by decide) rfl (fun ls hl => ?_)
    exact w_X7_sums_25 hC _ hk2 hF hw (lv_sub hl [3, 4, 5, 1, 0] rfl)
  · have hF := ifP hF b1
    refine lv_iconst (v := (-1 : Int32)) hC.1 hC.2.1 dX7_sums_12 (by decide) ?_
    refine lv_goto (tgt := 18) hC.1 hC.2.1 dX7_sums_13 (by decide) ?_
    refine lv_i2l hC.1 hC.2.1 dX7_sums_18 rfl ?_
    refine lv_ladd hC.1 hC.2.1 dX7_sums_19 ?_
    refine lv_topl (fun y2 ey2 => ?_)
    have hF := lt1G hF ey2
    refine lv_lstore (lv' := [(5, .long y2), (0, .long x0), (2, .ref (ad G c2)), (3, .int x3), (4, .int x4)]) hC.1 hC.2.1 dX7_sums_20 hl (by decide) rfl (fun ls hl => ?_)
    refine lv_iconst (v := (0 : Int32)) hC.1 hC.2.1 dX7_sums_22 (by decide) ?_
    refine lv_istore (lv' := [(7, .int (0 : Int32)), (5, .long y2), (0, .long x0), (2, .ref (ad G c2)), (3, .int x3), (4, .int x4)]) hC.1 hC.2.1 dX7_sums_23 hl (by decide) rfl (fun ls hl => ?_)
    exact w_X7_sums_25 hC _ hk2 hF hw (lv_sub hl [3, 4, 5, 1, 0] rfl)
abbrev rm_X7_digest : Room := { frames := 5, cells := 0, slots := 0, locals := 116 }
theorem yv_X7_digest : YV yX7_digest cX7_digest 5 (some .long) 0 RX7 := ⟨⟨q6_174, q6_175, q1_8, q6_176⟩, by decide +kernel⟩
theorem dX7_digest_0 : decode cX7_digest 0 = .ok (.ldc2_w 340, 3) := by decide +kernel
theorem dX7_digest_3 : decode cX7_digest 3 = .ok (.lstore_n 1, 1) := by decide +kernel
theorem dX7_digest_4 : decode cX7_digest 4 = .ok (.iconst 0, 1) := by decide +kernel
theorem dX7_digest_5 : decode cX7_digest 5 = .ok (.istore_n 3, 1) := by decide +kernel
theorem dX7_digest_6 : decode cX7_digest 6 = .ok (.iload_n 3, 1) := by decide +kernel
theorem dX7_digest_7 : decode cX7_digest 7 = .ok (.bipush 9, 2) := by decide +kernel
theorem dX7_digest_9 : decode cX7_digest 9 = .ok (.if_icmp .ge 22, 3) := by decide +kernel
theorem dX7_digest_12 : decode cX7_digest 12 = .ok (.ldc2_w 338, 3) := by decide +kernel
theorem dX7_digest_15 : decode cX7_digest 15 = .ok (.lload_n 1, 1) := by decide +kernel
theorem dX7_digest_16 : decode cX7_digest 16 = .ok (.lmul, 1) := by decide +kernel
theorem dX7_digest_17 : decode cX7_digest 17 = .ok (.aload_n 0, 1) := by decide +kernel
theorem dX7_digest_18 : decode cX7_digest 18 = .ok (.iload_n 3, 1) := by decide +kernel
theorem dX7_digest_19 : decode cX7_digest 19 = .ok (.invokevirtual 342, 3) := by decide +kernel
theorem dX7_digest_22 : decode cX7_digest 22 = .ok (.i2l, 1) := by decide +kernel
theorem dX7_digest_23 : decode cX7_digest 23 = .ok (.ladd, 1) := by decide +kernel
theorem dX7_digest_24 : decode cX7_digest 24 = .ok (.lstore_n 1, 1) := by decide +kernel
theorem dX7_digest_25 : decode cX7_digest 25 = .ok (.iinc 3 1, 3) := by decide +kernel
theorem dX7_digest_28 : decode cX7_digest 28 = .ok (.goto (-22), 3) := by decide +kernel
theorem dX7_digest_31 : decode cX7_digest 31 = .ok (.aload_n 0, 1) := by decide +kernel
theorem dX7_digest_32 : decode cX7_digest 32 = .ok (.iconst 0, 1) := by decide +kernel
theorem dX7_digest_33 : decode cX7_digest 33 = .ok (.invokevirtual 200, 3) := by decide +kernel
theorem dX7_digest_36 : decode cX7_digest 36 = .ok (.istore_n 3, 1) := by decide +kernel
theorem dX7_digest_37 : decode cX7_digest 37 = .ok (.iconst 0, 1) := by decide +kernel
theorem dX7_digest_38 : decode cX7_digest 38 = .ok (.istore 4, 2) := by decide +kernel
theorem dX7_digest_40 : decode cX7_digest 40 = .ok (.iload 4, 2) := by decide +kernel
theorem dX7_digest_42 : decode cX7_digest 42 = .ok (.aload_n 0, 1) := by decide +kernel
theorem dX7_digest_43 : decode cX7_digest 43 = .ok (.getfield 101, 3) := by decide +kernel
theorem dX7_digest_46 : decode cX7_digest 46 = .ok (.if_icmp .ge 105, 3) := by decide +kernel
theorem dX7_digest_49 : decode cX7_digest 49 = .ok (.ldc2_w 338, 3) := by decide +kernel
theorem dX7_digest_52 : decode cX7_digest 52 = .ok (.ldc2_w 338, 3) := by decide +kernel
theorem dX7_digest_55 : decode cX7_digest 55 = .ok (.ldc2_w 338, 3) := by decide +kernel
theorem dX7_digest_58 : decode cX7_digest 58 = .ok (.lload_n 1, 1) := by decide +kernel
theorem dX7_digest_59 : decode cX7_digest 59 = .ok (.lmul, 1) := by decide +kernel
theorem dX7_digest_60 : decode cX7_digest 60 = .ok (.aload_n 0, 1) := by decide +kernel
theorem dX7_digest_61 : decode cX7_digest 61 = .ok (.getfield 22, 3) := by decide +kernel
theorem dX7_digest_64 : decode cX7_digest 64 = .ok (.iload 4, 2) := by decide +kernel
theorem dX7_digest_66 : decode cX7_digest 66 = .ok (.iaload, 1) := by decide +kernel
theorem dX7_digest_67 : decode cX7_digest 67 = .ok (.i2l, 1) := by decide +kernel
theorem dX7_digest_68 : decode cX7_digest 68 = .ok (.ladd, 1) := by decide +kernel
theorem dX7_digest_69 : decode cX7_digest 69 = .ok (.lmul, 1) := by decide +kernel
theorem dX7_digest_70 : decode cX7_digest 70 = .ok (.aload_n 0, 1) := by decide +kernel
theorem dX7_digest_71 : decode cX7_digest 71 = .ok (.getfield 31, 3) := by decide +kernel
theorem dX7_digest_74 : decode cX7_digest 74 = .ok (.iload 4, 2) := by decide +kernel
theorem dX7_digest_76 : decode cX7_digest 76 = .ok (.iaload, 1) := by decide +kernel
theorem dX7_digest_77 : decode cX7_digest 77 = .ok (.i2l, 1) := by decide +kernel
theorem dX7_digest_78 : decode cX7_digest 78 = .ok (.ladd, 1) := by decide +kernel
theorem dX7_digest_79 : decode cX7_digest 79 = .ok (.lmul, 1) := by decide +kernel
theorem dX7_digest_80 : decode cX7_digest 80 = .ok (.aload_n 0, 1) := by decide +kernel
theorem dX7_digest_81 : decode cX7_digest 81 = .ok (.getfield 34, 3) := by decide +kernel
theorem dX7_digest_84 : decode cX7_digest 84 = .ok (.iload 4, 2) := by decide +kernel
theorem dX7_digest_86 : decode cX7_digest 86 = .ok (.iaload, 1) := by decide +kernel
theorem dX7_digest_87 : decode cX7_digest 87 = .ok (.i2l, 1) := by decide +kernel
theorem dX7_digest_88 : decode cX7_digest 88 = .ok (.ladd, 1) := by decide +kernel
theorem dX7_digest_89 : decode cX7_digest 89 = .ok (.lstore_n 1, 1) := by decide +kernel
theorem dX7_digest_90 : decode cX7_digest 90 = .ok (.ldc2_w 338, 3) := by decide +kernel
theorem dX7_digest_93 : decode cX7_digest 93 = .ok (.ldc2_w 338, 3) := by decide +kernel
theorem dX7_digest_96 : decode cX7_digest 96 = .ok (.ldc2_w 338, 3) := by decide +kernel
theorem dX7_digest_99 : decode cX7_digest 99 = .ok (.lload_n 1, 1) := by decide +kernel
theorem dX7_digest_100 : decode cX7_digest 100 = .ok (.lmul, 1) := by decide +kernel
theorem dX7_digest_101 : decode cX7_digest 101 = .ok (.aload_n 0, 1) := by decide +kernel
theorem dX7_digest_102 : decode cX7_digest 102 = .ok (.getfield 25, 3) := by decide +kernel
theorem dX7_digest_105 : decode cX7_digest 105 = .ok (.iload 4, 2) := by decide +kernel
theorem dX7_digest_107 : decode cX7_digest 107 = .ok (.iaload, 1) := by decide +kernel
theorem dX7_digest_108 : decode cX7_digest 108 = .ok (.i2l, 1) := by decide +kernel
theorem dX7_digest_109 : decode cX7_digest 109 = .ok (.ladd, 1) := by decide +kernel
theorem dX7_digest_110 : decode cX7_digest 110 = .ok (.lmul, 1) := by decide +kernel
theorem dX7_digest_111 : decode cX7_digest 111 = .ok (.aload_n 0, 1) := by decide +kernel
theorem dX7_digest_112 : decode cX7_digest 112 = .ok (.iload 4, 2) := by decide +kernel
theorem dX7_digest_114 : decode cX7_digest 114 = .ok (.aload_n 0, 1) := by decide +kernel
theorem dX7_digest_115 : decode cX7_digest 115 = .ok (.getfield 31, 3) := by decide +kernel
theorem dX7_digest_118 : decode cX7_digest 118 = .ok (.iload 4, 2) := by decide +kernel
theorem dX7_digest_120 : decode cX7_digest 120 = .ok (.iaload, 1) := by decide +kernel
theorem dX7_digest_121 : decode cX7_digest 121 = .ok (.invokevirtual 187, 3) := by decide +kernel
theorem dX7_digest_124 : decode cX7_digest 124 = .ok (.ifCond .eq 7, 3) := by decide +kernel
theorem dX7_digest_127 : decode cX7_digest 127 = .ok (.iconst 1, 1) := by decide +kernel
theorem dX7_digest_128 : decode cX7_digest 128 = .ok (.goto 4, 3) := by decide +kernel
theorem dX7_digest_131 : decode cX7_digest 131 = .ok (.iconst 0, 1) := by decide +kernel
theorem dX7_digest_132 : decode cX7_digest 132 = .ok (.i2l, 1) := by decide +kernel
theorem dX7_digest_133 : decode cX7_digest 133 = .ok (.ladd, 1) := by decide +kernel
theorem dX7_digest_134 : decode cX7_digest 134 = .ok (.lmul, 1) := by decide +kernel
theorem dX7_digest_135 : decode cX7_digest 135 = .ok (.aload_n 0, 1) := by decide +kernel
theorem dX7_digest_136 : decode cX7_digest 136 = .ok (.iload 4, 2) := by decide +kernel
theorem dX7_digest_138 : decode cX7_digest 138 = .ok (.iload_n 3, 1) := by decide +kernel
theorem dX7_digest_139 : decode cX7_digest 139 = .ok (.invokevirtual 191, 3) := by decide +kernel
theorem dX7_digest_142 : decode cX7_digest 142 = .ok (.i2l, 1) := by decide +kernel
theorem dX7_digest_143 : decode cX7_digest 143 = .ok (.ladd, 1) := by decide +kernel
theorem dX7_digest_144 : decode cX7_digest 144 = .ok (.lstore_n 1, 1) := by decide +kernel
theorem dX7_digest_145 : decode cX7_digest 145 = .ok (.iinc 4 1, 3) := by decide +kernel
theorem dX7_digest_148 : decode cX7_digest 148 = .ok (.goto (-108), 3) := by decide +kernel
theorem dX7_digest_151 : decode cX7_digest 151 = .ok (.iconst 0, 1) := by decide +kernel
theorem dX7_digest_152 : decode cX7_digest 152 = .ok (.istore 4, 2) := by decide +kernel
theorem dX7_digest_154 : decode cX7_digest 154 = .ok (.iload 4, 2) := by decide +kernel
theorem dX7_digest_156 : decode cX7_digest 156 = .ok (.iconst 3, 1) := by decide +kernel
theorem dX7_digest_157 : decode cX7_digest 157 = .ok (.if_icmp .ge 44, 3) := by decide +kernel
theorem dX7_digest_160 : decode cX7_digest 160 = .ok (.ldc2_w 338, 3) := by decide +kernel
theorem dX7_digest_163 : decode cX7_digest 163 = .ok (.lload_n 1, 1) := by decide +kernel
theorem dX7_digest_164 : decode cX7_digest 164 = .ok (.lmul, 1) := by decide +kernel
theorem dX7_digest_165 : decode cX7_digest 165 = .ok (.aload_n 0, 1) := by decide +kernel
theorem dX7_digest_166 : decode cX7_digest 166 = .ok (.getfield 43, 3) := by decide +kernel
theorem dX7_digest_169 : decode cX7_digest 169 = .ok (.iload 4, 2) := by decide +kernel
theorem dX7_digest_171 : decode cX7_digest 171 = .ok (.baload, 1) := by decide +kernel
theorem dX7_digest_172 : decode cX7_digest 172 = .ok (.ifCond .eq 19, 3) := by decide +kernel
theorem dX7_digest_175 : decode cX7_digest 175 = .ok (.aload_n 0, 1) := by decide +kernel
theorem dX7_digest_176 : decode cX7_digest 176 = .ok (.getfield 40, 3) := by decide +kernel
theorem dX7_digest_179 : decode cX7_digest 179 = .ok (.sipush 795, 3) := by decide +kernel
theorem dX7_digest_182 : decode cX7_digest 182 = .ok (.iload 4, 2) := by decide +kernel
theorem dX7_digest_184 : decode cX7_digest 184 = .ok (.imul, 1) := by decide +kernel
theorem dX7_digest_185 : decode cX7_digest 185 = .ok (.iconst 2, 1) := by decide +kernel
theorem dX7_digest_186 : decode cX7_digest 186 = .ok (.iadd, 1) := by decide +kernel
theorem dX7_digest_187 : decode cX7_digest 187 = .ok (.iaload, 1) := by decide +kernel
theorem dX7_digest_188 : decode cX7_digest 188 = .ok (.goto 4, 3) := by decide +kernel
theorem dX7_digest_191 : decode cX7_digest 191 = .ok (.iconst (-1), 1) := by decide +kernel
theorem dX7_digest_192 : decode cX7_digest 192 = .ok (.i2l, 1) := by decide +kernel
theorem dX7_digest_193 : decode cX7_digest 193 = .ok (.ladd, 1) := by decide +kernel
theorem dX7_digest_194 : decode cX7_digest 194 = .ok (.lstore_n 1, 1) := by decide +kernel
theorem dX7_digest_195 : decode cX7_digest 195 = .ok (.iinc 4 1, 3) := by decide +kernel
theorem dX7_digest_198 : decode cX7_digest 198 = .ok (.goto (-44), 3) := by decide +kernel
theorem dX7_digest_201 : decode cX7_digest 201 = .ok (.iconst 0, 1) := by decide +kernel
theorem dX7_digest_202 : decode cX7_digest 202 = .ok (.istore 4, 2) := by decide +kernel
theorem dX7_digest_204 : decode cX7_digest 204 = .ok (.iload 4, 2) := by decide +kernel
theorem dX7_digest_206 : decode cX7_digest 206 = .ok (.bipush 6, 2) := by decide +kernel
theorem dX7_digest_208 : decode cX7_digest 208 = .ok (.if_icmp .ge 30, 3) := by decide +kernel
theorem dX7_digest_211 : decode cX7_digest 211 = .ok (.lload_n 1, 1) := by decide +kernel
theorem dX7_digest_212 : decode cX7_digest 212 = .ok (.aload_n 0, 1) := by decide +kernel
theorem dX7_digest_213 : decode cX7_digest 213 = .ok (.getfield 7, 3) := by decide +kernel
theorem dX7_digest_216 : decode cX7_digest 216 = .ok (.bipush 40, 2) := by decide +kernel
theorem dX7_digest_218 : decode cX7_digest 218 = .ok (.iload 4, 2) := by decide +kernel
theorem dX7_digest_220 : decode cX7_digest 220 = .ok (.imul, 1) := by decide +kernel
theorem dX7_digest_221 : decode cX7_digest 221 = .ok (.aload_n 0, 1) := by decide +kernel
theorem dX7_digest_222 : decode cX7_digest 222 = .ok (.getfield 13, 3) := by decide +kernel
theorem dX7_digest_225 : decode cX7_digest 225 = .ok (.iload 4, 2) := by decide +kernel
theorem dX7_digest_227 : decode cX7_digest 227 = .ok (.iaload, 1) := by decide +kernel
theorem dX7_digest_228 : decode cX7_digest 228 = .ok (.invokestatic 345, 3) := by decide +kernel
theorem dX7_digest_231 : decode cX7_digest 231 = .ok (.lstore_n 1, 1) := by decide +kernel
theorem dX7_digest_232 : decode cX7_digest 232 = .ok (.iinc 4 1, 3) := by decide +kernel
theorem dX7_digest_235 : decode cX7_digest 235 = .ok (.goto (-31), 3) := by decide +kernel
theorem dX7_digest_238 : decode cX7_digest 238 = .ok (.iconst 0, 1) := by decide +kernel
theorem dX7_digest_239 : decode cX7_digest 239 = .ok (.istore 4, 2) := by decide +kernel
theorem dX7_digest_241 : decode cX7_digest 241 = .ok (.iload 4, 2) := by decide +kernel
theorem dX7_digest_243 : decode cX7_digest 243 = .ok (.iconst 4, 1) := by decide +kernel
theorem dX7_digest_244 : decode cX7_digest 244 = .ok (.if_icmp .ge 30, 3) := by decide +kernel
theorem dX7_digest_247 : decode cX7_digest 247 = .ok (.lload_n 1, 1) := by decide +kernel
theorem dX7_digest_248 : decode cX7_digest 248 = .ok (.aload_n 0, 1) := by decide +kernel
theorem dX7_digest_249 : decode cX7_digest 249 = .ok (.getfield 16, 3) := by decide +kernel
theorem dX7_digest_252 : decode cX7_digest 252 = .ok (.bipush 60, 2) := by decide +kernel
theorem dX7_digest_254 : decode cX7_digest 254 = .ok (.iload 4, 2) := by decide +kernel
theorem dX7_digest_256 : decode cX7_digest 256 = .ok (.imul, 1) := by decide +kernel
theorem dX7_digest_257 : decode cX7_digest 257 = .ok (.aload_n 0, 1) := by decide +kernel
theorem dX7_digest_258 : decode cX7_digest 258 = .ok (.getfield 19, 3) := by decide +kernel
theorem dX7_digest_261 : decode cX7_digest 261 = .ok (.iload 4, 2) := by decide +kernel
theorem dX7_digest_263 : decode cX7_digest 263 = .ok (.iaload, 1) := by decide +kernel
theorem dX7_digest_264 : decode cX7_digest 264 = .ok (.invokestatic 345, 3) := by decide +kernel
theorem dX7_digest_267 : decode cX7_digest 267 = .ok (.lstore_n 1, 1) := by decide +kernel
theorem dX7_digest_268 : decode cX7_digest 268 = .ok (.iinc 4 1, 3) := by decide +kernel
theorem dX7_digest_271 : decode cX7_digest 271 = .ok (.goto (-30), 3) := by decide +kernel
theorem dX7_digest_274 : decode cX7_digest 274 = .ok (.lload_n 1, 1) := by decide +kernel
theorem dX7_digest_275 : decode cX7_digest 275 = .ok (.lreturn, 1) := by decide +kernel
def F_X7_digest_132 (fu : Nat) (M : Mm) (k40 : Int64 → Int32 → Int32 → Option Int64) (x3 : Int32) (x4 : Int32) (t0 : Int64) (t1 : Int64) (t2 : Int32) : Option Int64 :=
  ob1 (F_X7_votesBy fu M x4 x3) (fun r2 =>
  k40 ((t0 * (t1 + t2.toInt64)) + r2.toInt64) x3 (x4 + (1 : Int32)))
set_option maxRecDepth 100000 in
set_option maxHeartbeats 4000000 in
theorem w_X7_digest_132 {p : Program} {l : Launch} {e : Env} {s : State} {m : MethodId} {args : Array Value} {below : List Frame} {meth : Method} {c : Code} {G : Gv} (hC : Cx p s m args meth c cX7_digest 5 (some .long) RX7) {fu : Nat} {r : Int64} {M : Mm} {k40 : Int64 → Int32 → Int32 → Option Int64} (hk_40 : ∀ {x1 : Int64} {x3 : Int32} {x4 : Int32} {H : Heap} {locs : List Loc} {ls : Array Slot}, k40 x1 x3 x4 = some r → St G s H locs M → lv_has ls 5 [(0, .ref (ad G 86)), (1, .long x1), (3, .int x3), (4, .int x4)] → W p l e rm_X7_digest s m args below meth c H locs 0 0 (MQ below (QL G r M) args s 0 0 (zA G)) (F0 m 40 ls [])) {x3 : Int32} {x4 : Int32} {t0 : Int64} {t1 : Int64} {t2 : Int32} {H : Heap} {locs : List Loc} {ls : Array Slot} (hF : F_X7_digest_132 fu M k40 x3 x4 t0 t1 t2 = some r) (hw : St G s H locs M) (hl : lv_has ls 5 [(0, .ref (ad G 86)), (3, .int x3), (4, .int x4)]) : W p l e rm_X7_digest s m args below meth c H locs 0 0 (MQ below (QL G r M) args s 0 0 (zA G)) (F0 m 132 ls [.int t2, .long t1, .long t0]) := by
  unfold F_X7_digest_132 at hF
  refine lv_i2l hC.1 hC.2.1 dX7_digest_132 rfl ?_
  refine lv_ladd hC.1 hC.2.1 dX7_digest_133 ?_
  refine lv_lmul hC.1 hC.2.1 dX7_digest_134 ?_
  refine lv_aload_n hC.1 hC.2.1 dX7_digest_135 rfl (lv_at hl 0 rfl) ?_
  refine lv_iload hC.1 hC.2.1 dX7_digest_136 (lv_at hl 2 rfl) ?_
  refine lv_iload_n hC.1 hC.2.1 dX7_digest_138 rfl (lv_at hl 1 rfl) ?_
  obtain ⟨r2, h1, hF⟩ := ob1S hF
  refine k_Vi (As := [.int x4, .int x3]) (rest := [.long (t0 * (t1 + t2.toInt64))]) hC hw (c_X7_votesBy (M := M) h1) RC_X yv_X7_votesBy q5_116 ⟨rfl, rfl⟩ ⟨Nat.le_of_ble_eq_true rfl, Nat.le_of_ble_eq_true rfl⟩ ⟨Nat.zero_le _, Nat.zero_le _⟩ rfl rfl (Nat.le_of_ble_eq_true rfl) hl dX7_digest_139 (fun H locs hw => ?_)
  refine lv_i2l hC.1 hC.2.1 dX7_digest_142 rfl ?_
  refine lv_ladd hC.1 hC.2.1 dX7_digest_143 ?_
  refine lv_lstore_n (lv' := [(1, .long ((t0 * (t1 + t2.toInt64)) + r2.toInt64)), (0, .ref (ad G 86)), (3, .int x3), (4, .int x4)]) hC.1 hC.2.1 dX7_digest_144 rfl hl (by decide) rfl (fun ls hl => ?_)
  refine lv_iinc (v := (x4 + (1 : Int32))) (lv' := [(4, .int (x4 + (1 : Int32))), (1, .long ((t0 * (t1 + t2.toInt64)) + r2.toInt64)), (0, .ref (ad G 86)), (3, .int x3)]) hC.1 hC.2.1 dX7_digest_145 hl (k := 3) rfl rfl (by decide) rfl (fun ls hl => ?_)
  refine lv_goto (tgt := 40) hC.1 hC.2.1 dX7_digest_148 (by decide) ?_
  exact hk_40 hF hw (lv_sub hl [2, 1, 3, 0] rfl)
def F_X7_digest_241 (fu : Nat) (M : Mm) : Nat → Int64 → Int32 → Option Int64
  | 0, _, _ => none
  | n + 1, x1, x4 =>
    if (4 : Int32) ≤ x4 then
      some x1
    else
      if x4 < 0 ∨ ln 90 ≤ x4.toNatClampNeg then none else (
      ob1 (F_X7_sums fu M x1 89 ((60 : Int32) * x4) (M.1 90 x4.toNatClampNeg)) (fun r4 =>
      F_X7_digest_241 fu M n r4 (x4 + (1 : Int32))))
set_option maxRecDepth 100000 in
set_option maxHeartbeats 4000000 in
theorem w_X7_digest_241 {p : Program} {l : Launch} {e : Env} {s : State} {m : MethodId} {args : Array Value} {below : List Frame} {meth : Method} {c : Code} {G : Gv} (hC : Cx p s m args meth c cX7_digest 5 (some .long) RX7) {fu : Nat} {r : Int64} {M : Mm} : ∀ (n : Nat) {x1 : Int64} {x4 : Int32} {H : Heap} {locs : List Loc} {ls : Array Slot}, F_X7_digest_241 fu M n x1 x4 = some r → St G s H locs M → lv_has ls 5 [(0, .ref (ad G 86)), (1, .long x1), (4, .int x4)] → W p l e rm_X7_digest s m args below meth c H locs 0 0 (MQ below (QL G r M) args s 0 0 (zA G)) (F0 m 241 ls []) := by
  intro n
  induction n with
  | zero =>
    intro x1 x4 H locs ls hF hw hl
    cases hF
  | succ n ih =>
    intro x1 x4 H locs ls hF hw hl
    unfold F_X7_digest_241 at hF
    refine lv_iload hC.1 hC.2.1 dX7_digest_241 (lv_at hl 2 rfl) ?_
    refine lv_iconst (v := (4 : Int32)) hC.1 hC.2.1 dX7_digest_243 (by decide) ?_
    refine lv_icmp_ge (tgt := 274) hC.1 hC.2.1 dX7_digest_244 (by decide) (fun b1 => ?_) (fun b1 => ?_)
    · have hF := ifP hF b1
      refine lv_lload_n hC.1 hC.2.1 dX7_digest_274 rfl (lv_at hl 1 rfl) ?_
      exact r_lretP hC hw hF dX7_digest_275
    · have hF := ifN hF b1
      refine lv_lload_n hC.1 hC.2.1 dX7_digest_247 rfl (lv_at hl 1 rfl) ?_
      refine lv_aload_n hC.1 hC.2.1 dX7_digest_248 rfl (lv_at hl 0 rfl) ?_
      refine g7_texts hC hw q4_124 dX7_digest_249 ?_
      refine lv_bipush (v := (60 : Int32)) hC.1 hC.2.1 dX7_digest_252 (by decide) ?_
      refine lv_iload hC.1 hC.2.1 dX7_digest_254 (lv_at hl 2 rfl) ?_
      refine lv_imul hC.1 hC.2.1 dX7_digest_256 ?_
      refine lv_aload_n hC.1 hC.2.1 dX7_digest_257 rfl (lv_at hl 0 rfl) ?_
      refine g7_textLong hC hw q4_125 dX7_digest_258 ?_
      refine lv_iload hC.1 hC.2.1 dX7_digest_261 (lv_at hl 2 rfl) ?_
      obtain ⟨n2, hF⟩ := ifO hF
      refine r_iald hC.1 hC.2.1 hw (rfl : kd 90 = 1) n2 dX7_digest_263 ?_
      obtain ⟨r4, h3, hF⟩ := ob1S hF
      refine k_Sl (As := [.long x1, .ref (ad G 89), .int ((60 : Int32) * x4), .int (M.1 90 x4.toNatClampNeg)]) (rest := []) hC hw (c_X7_sums (M := M) (rfl : kd 89 = 1) h3) ys_X7_sums q6_180 ⟨rfl, rfl⟩ ⟨Nat.le_of_ble_eq_true rfl, Nat.le_of_ble_eq_true rfl⟩ ⟨Nat.zero_le _, Nat.zero_le _⟩ rfl rfl (Nat.le_of_ble_eq_true rfl) hl dX7_digest_264 (fun H locs hw => ?_)
      refine lv_lstore_n (lv' := [(1, .long r4), (0, .ref (ad G 86)), (4, .int x4)]) hC.1 hC.2.1 dX7_digest_267 rfl hl (by decide) rfl (fun ls hl => ?_)
      refine lv_iinc (v := (x4 + (1 : Int32))) (lv' := [(4, .int (x4 + (1 : Int32))), (1, .long r4), (0, .ref (ad G 86))]) hC.1 hC.2.1 dX7_digest_268 hl (k := 2) rfl rfl (by decide) rfl (fun ls hl => ?_)
      refine lv_goto (tgt := 241) hC.1 hC.2.1 dX7_digest_271 (by decide) ?_
      exact ih hF hw (lv_sub hl [2, 1, 0] rfl)
def F_X7_digest_204 (fu : Nat) (M : Mm) : Nat → Int64 → Int32 → Option Int64
  | 0, _, _ => none
  | n + 1, x1, x4 =>
    if (6 : Int32) ≤ x4 then
      F_X7_digest_241 fu M fu x1 (0 : Int32)
    else
      if x4 < 0 ∨ ln 88 ≤ x4.toNatClampNeg then none else (
      ob1 (F_X7_sums fu M x1 87 ((40 : Int32) * x4) (M.1 88 x4.toNatClampNeg)) (fun r4 =>
      F_X7_digest_204 fu M n r4 (x4 + (1 : Int32))))
set_option maxRecDepth 100000 in
set_option maxHeartbeats 4000000 in
theorem w_X7_digest_204 {p : Program} {l : Launch} {e : Env} {s : State} {m : MethodId} {args : Array Value} {below : List Frame} {meth : Method} {c : Code} {G : Gv} (hC : Cx p s m args meth c cX7_digest 5 (some .long) RX7) {fu : Nat} {r : Int64} {M : Mm} : ∀ (n : Nat) {x1 : Int64} {x4 : Int32} {H : Heap} {locs : List Loc} {ls : Array Slot}, F_X7_digest_204 fu M n x1 x4 = some r → St G s H locs M → lv_has ls 5 [(0, .ref (ad G 86)), (1, .long x1), (4, .int x4)] → W p l e rm_X7_digest s m args below meth c H locs 0 0 (MQ below (QL G r M) args s 0 0 (zA G)) (F0 m 204 ls []) := by
  intro n
  induction n with
  | zero =>
    intro x1 x4 H locs ls hF hw hl
    cases hF
  | succ n ih =>
    intro x1 x4 H locs ls hF hw hl
    unfold F_X7_digest_204 at hF
    refine lv_iload hC.1 hC.2.1 dX7_digest_204 (lv_at hl 2 rfl) ?_
    refine lv_bipush (v := (6 : Int32)) hC.1 hC.2.1 dX7_digest_206 (by decide) ?_
    refine lv_icmp_ge (tgt := 238) hC.1 hC.2.1 dX7_digest_208 (by decide) (fun b1 => ?_) (fun b1 => ?_)
    · have hF := ifP hF b1
      refine lv_iconst (v := (0 : Int32)) hC.1 hC.2.1 dX7_digest_238 (by decide) ?_
      refine lv_istore (lv' := [(4, .int (0 : Int32)), (0, .ref (ad G 86)), (1, .long x1)]) hC.1 hC.2.1 dX7_digest_239 hl (by decide) rfl (fun ls hl => ?_)
      exact w_X7_digest_241 hC _ hF hw (lv_sub hl [1, 2, 0] rfl)
    · have hF := ifN hF b1
      refine lv_lload_n hC.1 hC.2.1 dX7_digest_211 rfl (lv_at hl 1 rfl) ?_
      refine lv_aload_n hC.1 hC.2.1 dX7_digest_212 rfl (lv_at hl 0 rfl) ?_
      refine g7_rows hC hw q4_122 dX7_digest_213 ?_
      refine lv_bipush (v := (40 : Int32)) hC.1 hC.2.1 dX7_digest_216 (by decide) ?_
      refine lv_iload hC.1 hC.2.1 dX7_digest_218 (lv_at hl 2 rfl) ?_
      refine lv_imul hC.1 hC.2.1 dX7_digest_220 ?_
      refine lv_aload_n hC.1 hC.2.1 dX7_digest_221 rfl (lv_at hl 0 rfl) ?_
      refine g7_rowLong hC hw q4_123 dX7_digest_222 ?_
      refine lv_iload hC.1 hC.2.1 dX7_digest_225 (lv_at hl 2 rfl) ?_
      obtain ⟨n2, hF⟩ := ifO hF
      refine r_iald hC.1 hC.2.1 hw (rfl : kd 88 = 1) n2 dX7_digest_227 ?_
      obtain ⟨r4, h3, hF⟩ := ob1S hF
      refine k_Sl (As := [.long x1, .ref (ad G 87), .int ((40 : Int32) * x4), .int (M.1 88 x4.toNatClampNeg)]) (rest := []) hC hw (c_X7_sums (M := M) (rfl : kd 87 = 1) h3) ys_X7_sums q6_180 ⟨rfl, rfl⟩ ⟨Nat.le_of_ble_eq_true rfl, Nat.le_of_ble_eq_true rfl⟩ ⟨Nat.zero_le _, Nat.zero_le _⟩ rfl rfl (Nat.le_of_ble_eq_true rfl) hl dX7_digest_228 (fun H locs hw => ?_)
      refine lv_lstore_n (lv' := [(1, .long r4), (0, .ref (ad G 86)), (4, .int x4)]) hC.1 hC.2.1 dX7_digest_231 rfl hl (by decide) rfl (fun ls hl => ?_)
      refine lv_iinc (v := (x4 + (1 : Int32))) (lv' := [(4, .int (x4 + (1 : Int32))), (1, .long r4), (0, .ref (ad G 86))]) hC.1 hC.2.1 dX7_digest_232 hl (k := 2) rfl rfl (by decide) rfl (fun ls hl => ?_)
      refine lv_goto (tgt := 204) hC.1 hC.2.1 dX7_digest_235 (by decide) ?_
      exact ih hF hw (lv_sub hl [2, 1, 0] rfl)
def F_X7_digest_154 (fu : Nat) (M : Mm) : Nat → Int64 → Int32 → Option Int64
  | 0, _, _ => none
  | n + 1, x1, x4 =>
    if (3 : Int32) ≤ x4 then
      F_X7_digest_204 fu M fu x1 (0 : Int32)
    else
      if x4 < 0 ∨ ln 98 ≤ x4.toNatClampNeg then none else (
      if (M.1 98 x4.toNatClampNeg) = 0 then
        lt1 (((31 : Int64) * x1) + (-1 : Int32).toInt64) (fun y4 =>
        F_X7_digest_154 fu M n y4 (x4 + (1 : Int32)))
      else
        if (((795 : Int32) * x4) + (2 : Int32)) < 0 ∨ ln 97 ≤ (((795 : Int32) * x4) + (2 : Int32)).toNatClampNeg then none else (
        lt1 (((31 : Int64) * x1) + (M.1 97 (((795 : Int32) * x4) + (2 : Int32)).toNatClampNeg).toInt64) (fun y6 =>
        F_X7_digest_154 fu M n y6 (x4 + (1 : Int32)))))
set_option maxRecDepth 100000 in
set_option maxHeartbeats 4000000 in
theorem w_X7_digest_154 {p : Program} {l : Launch} {e : Env} {s : State} {m : MethodId} {args : Array Value} {below : List Frame} {meth : Method} {c : Code} {G : Gv} (hC : Cx p s m args meth c cX7_digest 5 (some .long) RX7) {fu : Nat} {r : Int64} {M : Mm} : ∀ (n : Nat) {x1 : Int64} {x4 : Int32} {H : Heap} {locs : List Loc} {ls : Array Slot}, F_X7_digest_154 fu M n x1 x4 = some r → St G s H locs M → lv_has ls 5 [(0, .ref (ad G 86)), (1, .long x1), (4, .int x4)] → W p l e rm_X7_digest s m args below meth c H locs 0 0 (MQ below (QL G r M) args s 0 0 (zA G)) (F0 m 154 ls []) := by
  intro n
  induction n with
  | zero =>
    intro x1 x4 H locs ls hF hw hl
    cases hF
  | succ n ih =>
    intro x1 x4 H locs ls hF hw hl
    unfold F_X7_digest_154 at hF
    refine lv_iload hC.1 hC.2.1 dX7_digest_154 (lv_at hl 2 rfl) ?_
    refine lv_iconst (v := (3 : Int32)) hC.1 hC.2.1 dX7_digest_156 (by decide) ?_
    refine lv_icmp_ge (tgt := 201) hC.1 hC.2.1 dX7_digest_157 (by decide) (fun b1 => ?_) (fun b1 => ?_)
    · have hF := ifP hF b1
      refine lv_iconst (v := (0 : Int32)) hC.1 hC.2.1 dX7_digest_201 (by decide) ?_
      refine lv_istore (lv' := [(4, .int (0 : Int32)), (0, .ref (ad G 86)), (1, .long x1)]) hC.1 hC.2.1 dX7_digest_202 hl (by decide) rfl (fun ls hl => ?_)
      exact w_X7_digest_204 hC _ hF hw (lv_sub hl [1, 2, 0] rfl)
    · have hF := ifN hF b1
      refine lv_ldc2 (v := (31 : Int64)) hC.1 hC.2.1 hC.2.2.2.1 (hC.2.2.2.2.1 _ q6_178) dX7_digest_160 ?_
      refine lv_lload_n hC.1 hC.2.1 dX7_digest_163 rfl (lv_at hl 1 rfl) ?_
      refine lv_lmul hC.1 hC.2.1 dX7_digest_164 ?_
      refine lv_aload_n hC.1 hC.2.1 dX7_digest_165 rfl (lv_at hl 0 rfl) ?_
      refine g7_isKept hC hw q4_137 dX7_digest_166 ?_
      refine lv_iload hC.1 hC.2.1 dX7_digest_169 (lv_at hl 2 rfl) ?_
      obtain ⟨n2, hF⟩ := ifO hF
      refine r_zald hC.1 hC.2.1 hw (rfl : kd 98 = 3) n2 dX7_digest_171 ?_
      refine lv_if_eq (tgt := 191) hC.1 hC.2.1 dX7_digest_172 (by decide) (fun b3 => ?_) (fun b3 => ?_)
      · have hF := ifP hF b3
        refine lv_iconst (v := (-1 : Int32)) hC.1 hC.2.1 dX7_digest_191 (by decide) ?_
        refine lv_i2l hC.1 hC.2.1 dX7_digest_192 rfl ?_
        refine lv_ladd hC.1 hC.2.1 dX7_digest_193 ?_
        refine lv_topl (fun y4 ey4 => ?_)
        have hF := lt1G hF ey4
        refine lv_lstore_n (lv' := [(1, .long y4), (0, .ref (ad G 86)), (4, .int x4)]) hC.1 hC.2.1 dX7_digest_194 rfl hl (by decide) rfl (fun ls hl => ?_)
        refine lv_iinc (v := (x4 + (1 : Int32))) (lv' := [(4, .int (x4 + (1 : Int32))), (1, .long y4), (0, .ref (ad G 86))]) hC.1 hC.2.1 dX7_digest_195 hl (k := 2) rfl rfl (by decide) rfl (fun ls hl => ?_)
        refine lv_goto (tgt := 154) hC.1 hC.2.1 dX7_digest_198 (by decide) ?_
        exact ih hF hw (lv_sub hl [2, 1, 0] rfl)
      · have hF := ifN hF b3
        refine lv_aload_n hC.1 hC.2.1 dX7_digest_175 rfl (lv_at hl 0 rfl) ?_
        refine g7_kept hC hw q4_136 dX7_digest_176 ?_
        refine lv_sipush (v := (795 : Int32)) hC.1 hC.2.1 dX7_digest_179 (by decide) ?_
        refine lv_iload hC.1 hC.2.1 dX7_digest_182 (lv_at hl 2 rfl) ?_
        refine lv_imul hC.1 hC.2.1 dX7_digest_184 ?_
        refine lv_iconst (v := (2 : Int32)) hC.1 hC.2.1 dX7_digest_185 (by decide) ?_
        refine lv_iadd hC.1 hC.2.1 dX7_digest_186 ?_
        obtain ⟨n5, hF⟩ := ifO hF
        refine r_iald hC.1 hC.2.1 hw (rfl : kd 97 = 1) n5 dX7_digest_187 ?_
        refine lv_goto (tgt := 192) hC.1 hC.2.1 dX7_digest_188 (by decide) ?_
        refine lv_i2l hC.1 hC.2.1 dX7_digest_192 rfl ?_
        refine lv_ladd hC.1 hC.2.1 dX7_digest_193 ?_
        refine lv_topl (fun y6 ey6 => ?_)
        have hF := lt1G hF ey6
        refine lv_lstore_n (lv' := [(1, .long y6), (0, .ref (ad G 86)), (4, .int x4)]) hC.1 hC.2.1 dX7_digest_194 rfl hl (by decide) rfl (fun ls hl => ?_)
        refine lv_iinc (v := (x4 + (1 : Int32))) (lv' := [(4, .int (x4 + (1 : Int32))), (1, .long y6), (0, .ref (ad G 86))]) hC.1 hC.2.1 dX7_digest_195 hl (k := 2) rfl rfl (by decide) rfl (fun ls hl => ?_)
        refine lv_goto (tgt := 154) hC.1 hC.2.1 dX7_digest_198 (by decide) ?_
        exact ih hF hw (lv_sub hl [2, 1, 0] rfl)
def F_X7_digest_40 (fu : Nat) (M : Mm) : Nat → Int64 → Int32 → Int32 → Option Int64
  | 0, _, _, _ => none
  | n + 1, x1, x3, x4 =>
    if (M.1 86 4) ≤ x4 then
      F_X7_digest_154 fu M fu x1 (0 : Int32)
    else
      if x4 < 0 ∨ ln 91 ≤ x4.toNatClampNeg then none else (
      if x4 < 0 ∨ ln 94 ≤ x4.toNatClampNeg then none else (
      if x4 < 0 ∨ ln 95 ≤ x4.toNatClampNeg then none else (
      lt1 (((31 : Int64) * (((31 : Int64) * (((31 : Int64) * x1) + (M.1 91 x4.toNatClampNeg).toInt64)) + (M.1 94 x4.toNatClampNeg).toInt64)) + (M.1 95 x4.toNatClampNeg).toInt64) (fun y5 =>
      if x4 < 0 ∨ ln 92 ≤ x4.toNatClampNeg then none else (
      if x4 < 0 ∨ ln 94 ≤ x4.toNatClampNeg then none else (
      ob1 (F_X7_mayVote fu M x4 (M.1 94 x4.toNatClampNeg)) (fun r9 =>
      if r9 = 0 then
        F_X7_digest_132 fu M (F_X7_digest_40 fu M n) x3 x4 (31 : Int64) ((31 : Int64) * (((31 : Int64) * y5) + (M.1 92 x4.toNatClampNeg).toInt64)) (0 : Int32)
      else
        F_X7_digest_132 fu M (F_X7_digest_40 fu M n) x3 x4 (31 : Int64) ((31 : Int64) * (((31 : Int64) * y5) + (M.1 92 x4.toNatClampNeg).toInt64)) (1 : Int32))))))))
set_option maxRecDepth 100000 in
set_option maxHeartbeats 4000000 in
theorem w_X7_digest_40 {p : Program} {l : Launch} {e : Env} {s : State} {m : MethodId} {args : Array Value} {below : List Frame} {meth : Method} {c : Code} {G : Gv} (hC : Cx p s m args meth c cX7_digest 5 (some .long) RX7) {fu : Nat} {r : Int64} {M : Mm} : ∀ (n : Nat) {x1 : Int64} {x3 : Int32} {x4 : Int32} {H : Heap} {locs : List Loc} {ls : Array Slot}, F_X7_digest_40 fu M n x1 x3 x4 = some r → St G s H locs M → lv_has ls 5 [(0, .ref (ad G 86)), (1, .long x1), (3, .int x3), (4, .int x4)] → W p l e rm_X7_digest s m args below meth c H locs 0 0 (MQ below (QL G r M) args s 0 0 (zA G)) (F0 m 40 ls []) := by
  intro n
  induction n with
  | zero =>
    intro x1 x3 x4 H locs ls hF hw hl
    cases hF
  | succ n ih =>
    intro x1 x3 x4 H locs ls hF hw hl
    unfold F_X7_digest_40 at hF
    refine lv_iload hC.1 hC.2.1 dX7_digest_40 (lv_at hl 3 rfl) ?_
    refine lv_aload_n hC.1 hC.2.1 dX7_digest_42 rfl (lv_at hl 0 rfl) ?_
    refine g7_men hC hw q4_126 dX7_digest_43 ?_
    refine lv_icmp_ge (tgt := 151) hC.1 hC.2.1 dX7_digest_46 (by decide) (fun b1 => ?_) (fun b1 => ?_)
    · have hF := ifP hF b1
      refine lv_iconst (v := (0 : Int32)) hC.1 hC.2.1 dX7_digest_151 (by decide) ?_
      refine lv_istore (lv' := [(4, .int (0 : Int32)), (0, .ref (ad G 86)), (1, .long x1), (3, .int x3)]) hC.1 hC.2.1 dX7_digest_152 hl (by decide) rfl (fun ls hl => ?_)
      exact w_X7_digest_154 hC _ hF hw (lv_sub hl [1, 2, 0] rfl)
    · have hF := ifN hF b1
      refine lv_ldc2 (v := (31 : Int64)) hC.1 hC.2.1 hC.2.2.2.1 (hC.2.2.2.2.1 _ q6_178) dX7_digest_49 ?_
      refine lv_ldc2 (v := (31 : Int64)) hC.1 hC.2.1 hC.2.2.2.1 (hC.2.2.2.2.1 _ q6_178) dX7_digest_52 ?_
      refine lv_ldc2 (v := (31 : Int64)) hC.1 hC.2.1 hC.2.2.2.1 (hC.2.2.2.2.1 _ q6_178) dX7_digest_55 ?_
      refine lv_lload_n hC.1 hC.2.1 dX7_digest_58 rfl (lv_at hl 1 rfl) ?_
      refine lv_lmul hC.1 hC.2.1 dX7_digest_59 ?_
      refine lv_aload_n hC.1 hC.2.1 dX7_digest_60 rfl (lv_at hl 0 rfl) ?_
      refine g7_kindIs hC hw q4_127 dX7_digest_61 ?_
      refine lv_iload hC.1 hC.2.1 dX7_digest_64 (lv_at hl 3 rfl) ?_
      obtain ⟨n2, hF⟩ := ifO hF
      refine r_iald hC.1 hC.2.1 hw (rfl : kd 91 = 1) n2 dX7_digest_66 ?_
      refine lv_i2l hC.1 hC.2.1 dX7_digest_67 rfl ?_
      refine lv_ladd hC.1 hC.2.1 dX7_digest_68 ?_
      refine lv_lmul hC.1 hC.2.1 dX7_digest_69 ?_
      refine lv_aload_n hC.1 hC.2.1 dX7_digest_70 rfl (lv_at hl 0 rfl) ?_
      refine g7_bulks hC hw q4_130 dX7_digest_71 ?_
      refine lv_iload hC.1 hC.2.1 dX7_digest_74 (lv_at hl 3 rfl) ?_
      obtain ⟨n3, hF⟩ := ifO hF
      refine r_iald hC.1 hC.2.1 hw (rfl : kd 94 = 1) n3 dX7_digest_76 ?_
      refine lv_i2l hC.1 hC.2.1 dX7_digest_77 rfl ?_
      refine lv_ladd hC.1 hC.2.1 dX7_digest_78 ?_
      refine lv_lmul hC.1 hC.2.1 dX7_digest_79 ?_
      refine lv_aload_n hC.1 hC.2.1 dX7_digest_80 rfl (lv_at hl 0 rfl) ?_
      refine g7_shades hC hw q4_131 dX7_digest_81 ?_
      refine lv_iload hC.1 hC.2.1 dX7_digest_84 (lv_at hl 3 rfl) ?_
      obtain ⟨n4, hF⟩ := ifO hF
      refine r_iald hC.1 hC.2.1 hw (rfl : kd 95 = 1) n4 dX7_digest_86 ?_
      refine lv_i2l hC.1 hC.2.1 dX7_digest_87 rfl ?_
      refine lv_ladd hC.1 hC.2.1 dX7_digest_88 ?_
      refine lv_topl (fun y5 ey5 => ?_)
      have hF := lt1G hF ey5
      refine lv_lstore_n (lv' := [(1, .long y5), (0, .ref (ad G 86)), (3, .int x3), (4, .int x4)]) hC.1 hC.2.1 dX7_digest_89 rfl hl (by decide) rfl (fun ls hl => ?_)
      refine lv_ldc2 (v := (31 : Int64)) hC.1 hC.2.1 hC.2.2.2.1 (hC.2.2.2.2.1 _ q6_178) dX7_digest_90 ?_
      refine lv_ldc2 (v := (31 : Int64)) hC.1 hC.2.1 hC.2.2.2.1 (hC.2.2.2.2.1 _ q6_178) dX7_digest_93 ?_
      refine lv_ldc2 (v := (31 : Int64)) hC.1 hC.2.1 hC.2.2.2.1 (hC.2.2.2.2.1 _ q6_178) dX7_digest_96 ?_
      refine lv_lload_n hC.1 hC.2.1 dX7_digest_99 rfl (lv_at hl 0 rfl) ?_
      refine lv_lmul hC.1 hC.2.1 dX7_digest_100 ?_
      refine lv_aload_n hC.1 hC.2.1 dX7_digest_101 rfl (lv_at hl 1 rfl) ?_
      refine g7_own hC hw q4_128 dX7_digest_102 ?_
      refine lv_iload hC.1 hC.2.1 dX7_digest_105 (lv_at hl 3 rfl) ?_
      obtain ⟨n6, hF⟩ := ifO hF
      refine r_iald hC.1 hC.2.1 hw (rfl : kd 92 = 1) n6 dX7_digest_107 ?_
      refine lv_i2l hC.1 hC.2.1 dX7_digest_108 rfl ?_
      refine lv_ladd hC.1 hC.2.1 dX7_digest_109 ?_
      refine lv_lmul hC.1 hC.2.1 dX7_digest_110 ?_
      refine lv_aload_n hC.1 hC.2.1 dX7_digest_111 rfl (lv_at hl 1 rfl) ?_
      refine lv_iload hC.1 hC.2.1 dX7_digest_112 (lv_at hl 3 rfl) ?_
      refine lv_aload_n hC.1 hC.2.1 dX7_digest_114 rfl (lv_at hl 1 rfl) ?_
      refine g7_bulks hC hw q4_130 dX7_digest_115 ?_
      refine lv_iload hC.1 hC.2.1 dX7_digest_118 (lv_at hl 3 rfl) ?_
      obtain ⟨n7, hF⟩ := ifO hF
      refine r_iald hC.1 hC.2.1 hw (rfl : kd 94 = 1) n7 dX7_digest_120 ?_
      obtain ⟨r9, h8, hF⟩ := ob1S hF
      refine k_Vi (As := [.int x4, .int (M.1 94 x4.toNatClampNeg)]) (rest := [.long ((31 : Int64) * (((31 : Int64) * y5) + (M.1 92 x4.toNatClampNeg).toInt64)), .long (31 : Int64)]) hC hw (c_X7_mayVote (M := M) h8) RC_X yv_X7_mayVote q5_93 ⟨rfl, rfl⟩ ⟨Nat.le_of_ble_eq_true rfl, Nat.le_of_ble_eq_true rfl⟩ ⟨Nat.zero_le _, Nat.zero_le _⟩ rfl rfl (Nat.le_of_ble_eq_true rfl) hl dX7_digest_121 (fun H locs hw => ?_)
      refine lv_if_eq (tgt := 131) hC.1 hC.2.1 dX7_digest_124 (by decide) (fun b10 => ?_) (fun b10 => ?_)
      · have hF := ifP hF b10
        refine lv_iconst (v := (0 : Int32)) hC.1 hC.2.1 dX7_digest_131 (by decide) ?_
        exact w_X7_digest_132 hC (hk_40 := ih) hF hw (lv_sub hl [1, 2, 3] rfl)
      · have hF := ifN hF b10
        refine lv_iconst (v := (1 : Int32)) hC.1 hC.2.1 dX7_digest_127 (by decide) ?_
        refine lv_goto (tgt := 132) hC.1 hC.2.1 dX7_digest_128 (by decide) ?_
        exact w_X7_digest_132 hC (hk_40 := ih) hF hw (lv_sub hl [1, 2, 3] rfl)
def F_X7_digest_6 (fu : Nat) (M : Mm) : Nat → Int64 → Int32 → Option Int64
  | 0, _, _ => none
  | n + 1, x1, x3 =>
    if (9 : Int32) ≤ x3 then
      ob1 (F_X7_whoThen fu M (0 : Int32)) (fun r3 =>
      F_X7_digest_40 fu M fu x1 r3 (0 : Int32))
    else
      ob1 (F_X7_count fu M x3) (fun r5 =>
      F_X7_digest_6 fu M n (((31 : Int64) * x1) + r5.toInt64) (x3 + (1 : Int32)))
set_option maxRecDepth 100000 in
set_option maxHeartbeats 4000000 in
theorem w_X7_digest_6 {p : Program} {l : Launch} {e : Env} {s : State} {m : MethodId} {args : Array Value} {below : List Frame} {meth : Method} {c : Code} {G : Gv} (hC : Cx p s m args meth c cX7_digest 5 (some .long) RX7) {fu : Nat} {r : Int64} {M : Mm} : ∀ (n : Nat) {x1 : Int64} {x3 : Int32} {H : Heap} {locs : List Loc} {ls : Array Slot}, F_X7_digest_6 fu M n x1 x3 = some r → St G s H locs M → lv_has ls 5 [(0, .ref (ad G 86)), (1, .long x1), (3, .int x3)] → W p l e rm_X7_digest s m args below meth c H locs 0 0 (MQ below (QL G r M) args s 0 0 (zA G)) (F0 m 6 ls []) := by
  intro n
  induction n with
  | zero =>
    intro x1 x3 H locs ls hF hw hl
    cases hF
  | succ n ih =>
    intro x1 x3 H locs ls hF hw hl
    unfold F_X7_digest_6 at hF
    refine lv_iload_n hC.1 hC.2.1 dX7_digest_6 rfl (lv_at hl 2 rfl) ?_
    refine lv_bipush (v := (9 : Int32)) hC.1 hC.2.1 dX7_digest_7 (by decide) ?_
    refine lv_icmp_ge (tgt := 31) hC.1 hC.2.1 dX7_digest_9 (by decide) (fun b1 => ?_) (fun b1 => ?_)
    · have hF := ifP hF b1
      refine lv_aload_n hC.1 hC.2.1 dX7_digest_31 rfl (lv_at hl 0 rfl) ?_
      refine lv_iconst (v := (0 : Int32)) hC.1 hC.2.1 dX7_digest_32 (by decide) ?_
      obtain ⟨r3, h2, hF⟩ := ob1S hF
      refine k_Vi (As := [.int (0 : Int32)]) (rest := []) hC hw (c_X7_whoThen (M := M) h2) RC_X yv_X7_whoThen q5_97 ⟨rfl, rfl⟩ ⟨Nat.le_of_ble_eq_true rfl, Nat.le_of_ble_eq_true rfl⟩ ⟨Nat.zero_le _, Nat.zero_le _⟩ rfl rfl (Nat.le_of_ble_eq_true rfl) hl dX7_digest_33 (fun H locs hw => ?_)
      refine lv_istore_n (lv' := [(3, .int r3), (0, .ref (ad G 86)), (1, .long x1)]) hC.1 hC.2.1 dX7_digest_36 rfl hl (by decide) rfl (fun ls hl => ?_)
      refine lv_iconst (v := (0 : Int32)) hC.1 hC.2.1 dX7_digest_37 (by decide) ?_
      refine lv_istore (lv' := [(4, .int (0 : Int32)), (3, .int r3), (0, .ref (ad G 86)), (1, .long x1)]) hC.1 hC.2.1 dX7_digest_38 hl (by decide) rfl (fun ls hl => ?_)
      exact w_X7_digest_40 hC _ hF hw (lv_sub hl [2, 3, 1, 0] rfl)
    · have hF := ifN hF b1
      refine lv_ldc2 (v := (31 : Int64)) hC.1 hC.2.1 hC.2.2.2.1 (hC.2.2.2.2.1 _ q6_178) dX7_digest_12 ?_
      refine lv_lload_n hC.1 hC.2.1 dX7_digest_15 rfl (lv_at hl 1 rfl) ?_
      refine lv_lmul hC.1 hC.2.1 dX7_digest_16 ?_
      refine lv_aload_n hC.1 hC.2.1 dX7_digest_17 rfl (lv_at hl 0 rfl) ?_
      refine lv_iload_n hC.1 hC.2.1 dX7_digest_18 rfl (lv_at hl 2 rfl) ?_
      obtain ⟨r5, h4, hF⟩ := ob1S hF
      refine k_Vi (As := [.int x3]) (rest := [.long ((31 : Int64) * x1)]) hC hw (c_X7_count (M := M) h4) RC_X yv_X7_count q6_179 ⟨rfl, rfl⟩ ⟨Nat.le_of_ble_eq_true rfl, Nat.le_of_ble_eq_true rfl⟩ ⟨Nat.zero_le _, Nat.zero_le _⟩ rfl rfl (Nat.le_of_ble_eq_true rfl) hl dX7_digest_19 (fun H locs hw => ?_)
      refine lv_i2l hC.1 hC.2.1 dX7_digest_22 rfl ?_
      refine lv_ladd hC.1 hC.2.1 dX7_digest_23 ?_
      refine lv_lstore_n (lv' := [(1, .long (((31 : Int64) * x1) + r5.toInt64)), (0, .ref (ad G 86)), (3, .int x3)]) hC.1 hC.2.1 dX7_digest_24 rfl hl (by decide) rfl (fun ls hl => ?_)
      refine lv_iinc (v := (x3 + (1 : Int32))) (lv' := [(3, .int (x3 + (1 : Int32))), (1, .long (((31 : Int64) * x1) + r5.toInt64)), (0, .ref (ad G 86))]) hC.1 hC.2.1 dX7_digest_25 hl (k := 2) rfl rfl (by decide) rfl (fun ls hl => ?_)
      refine lv_goto (tgt := 6) hC.1 hC.2.1 dX7_digest_28 (by decide) ?_
      exact ih hF hw (lv_sub hl [2, 1, 0] rfl)
def F_X7_digest (fu : Nat) (M : Mm) : Option Int64 :=
  F_X7_digest_6 fu M fu (17 : Int64) (0 : Int32)
set_option maxRecDepth 100000 in
set_option maxHeartbeats 4000000 in
theorem c_X7_digest {l : Launch} {G : Gv} {fu : Nat} {M : Mm} {r : Int64} (hF : F_X7_digest fu M = some r) : Met l yX7_digest (.code yX7_digest cX7_digest 5 (some .long) :: zU) rm_X7_digest (va_Pc [.ref (ad G 86)] (Wd G M)) (QL G r M) 0 0 (zA G) := by
  refine zMet (by decide) rfl (Nat.le_of_ble_eq_true rfl) ?_
  intro p e s m below meth c hC hw ls hl
  have hl : lv_has ls 5 [(0, .ref (ad G 86))] := hl
  unfold F_X7_digest at hF
  refine lv_ldc2 (v := (17 : Int64)) hC.1 hC.2.1 hC.2.2.2.1 (hC.2.2.2.2.1 _ q6_177) dX7_digest_0 ?_
  refine lv_lstore_n (lv' := [(1, .long (17 : Int64)), (0, .ref (ad G 86))]) hC.1 hC.2.1 dX7_digest_3 rfl hl (by decide) rfl (fun ls hl => ?_)
  refine lv_iconst (v := (0 : Int32)) hC.1 hC.2.1 dX7_digest_4 (by decide) ?_
  refine lv_istore_n (lv' := [(3, .int (0 : Int32)), (1, .long (17 : Int64)), (0, .ref (ad G 86))]) hC.1 hC.2.1 dX7_digest_5 rfl hl (by decide) rfl (fun ls hl => ?_)
  exact w_X7_digest_6 hC _ hF hw (lv_sub hl [2, 1, 0] rfl)
