abbrev rm_X6_census : Room := { frames := 5, cells := 0, slots := 0, locals := 122 }
theorem yv_X6_census : YV yX6_census cX6_census 6 (some .int) 1 RX6 := ⟨⟨q3_0, q3_1, q1_1, q3_2⟩, by decide +kernel⟩
theorem dX6_census_0 : decode cX6_census 0 = .ok (.aload_n 0, 1) := by decide +kernel
theorem dX6_census_1 : decode cX6_census 1 = .ok (.iload_n 1, 1) := by decide +kernel
theorem dX6_census_2 : decode cX6_census 2 = .ok (.invokevirtual 78, 3) := by decide +kernel
theorem dX6_census_5 : decode cX6_census 5 = .ok (.astore_n 2, 1) := by decide +kernel
theorem dX6_census_6 : decode cX6_census 6 = .ok (.aload_n 2, 1) := by decide +kernel
theorem dX6_census_7 : decode cX6_census 7 = .ok (.ifnonnull 5, 3) := by decide +kernel
theorem dX6_census_10 : decode cX6_census 10 = .ok (.iconst (-1), 1) := by decide +kernel
theorem dX6_census_11 : decode cX6_census 11 = .ok (.ireturn, 1) := by decide +kernel
theorem dX6_census_12 : decode cX6_census 12 = .ok (.aload_n 0, 1) := by decide +kernel
theorem dX6_census_13 : decode cX6_census 13 = .ok (.getfield 24, 3) := by decide +kernel
theorem dX6_census_16 : decode cX6_census 16 = .ok (.getfield 152, 3) := by decide +kernel
theorem dX6_census_19 : decode cX6_census 19 = .ok (.ifCond .ne 6, 3) := by decide +kernel
theorem dX6_census_22 : decode cX6_census 22 = .ok (.bipush (-4), 2) := by decide +kernel
theorem dX6_census_24 : decode cX6_census 24 = .ok (.ireturn, 1) := by decide +kernel
theorem dX6_census_25 : decode cX6_census 25 = .ok (.aload_n 0, 1) := by decide +kernel
theorem dX6_census_26 : decode cX6_census 26 = .ok (.getfield 24, 3) := by decide +kernel
theorem dX6_census_29 : decode cX6_census 29 = .ok (.aload_n 0, 1) := by decide +kernel
theorem dX6_census_30 : decode cX6_census 30 = .ok (.getfield 61, 3) := by decide +kernel
theorem dX6_census_33 : decode cX6_census 33 = .ok (.invokevirtual 280, 3) := by decide +kernel
theorem dX6_census_36 : decode cX6_census 36 = .ok (.aload_n 0, 1) := by decide +kernel
theorem dX6_census_37 : decode cX6_census 37 = .ok (.invokevirtual 284, 3) := by decide +kernel
theorem dX6_census_40 : decode cX6_census 40 = .ok (.iconst 0, 1) := by decide +kernel
theorem dX6_census_41 : decode cX6_census 41 = .ok (.istore_n 3, 1) := by decide +kernel
theorem dX6_census_42 : decode cX6_census 42 = .ok (.iconst 0, 1) := by decide +kernel
theorem dX6_census_43 : decode cX6_census 43 = .ok (.istore 4, 2) := by decide +kernel
theorem dX6_census_45 : decode cX6_census 45 = .ok (.iload 4, 2) := by decide +kernel
theorem dX6_census_47 : decode cX6_census 47 = .ok (.aload_n 0, 1) := by decide +kernel
theorem dX6_census_48 : decode cX6_census 48 = .ok (.getfield 24, 3) := by decide +kernel
theorem dX6_census_51 : decode cX6_census 51 = .ok (.getfield 152, 3) := by decide +kernel
theorem dX6_census_54 : decode cX6_census 54 = .ok (.if_icmp .ge 34, 3) := by decide +kernel
theorem dX6_census_57 : decode cX6_census 57 = .ok (.aload_n 0, 1) := by decide +kernel
theorem dX6_census_58 : decode cX6_census 58 = .ok (.iload_n 3, 1) := by decide +kernel
theorem dX6_census_59 : decode cX6_census 59 = .ok (.invokevirtual 287, 3) := by decide +kernel
theorem dX6_census_62 : decode cX6_census 62 = .ok (.istore 5, 2) := by decide +kernel
theorem dX6_census_64 : decode cX6_census 64 = .ok (.aload_n 0, 1) := by decide +kernel
theorem dX6_census_65 : decode cX6_census 65 = .ok (.getfield 64, 3) := by decide +kernel
theorem dX6_census_68 : decode cX6_census 68 = .ok (.iload 4, 2) := by decide +kernel
theorem dX6_census_70 : decode cX6_census 70 = .ok (.iload 5, 2) := by decide +kernel
theorem dX6_census_72 : decode cX6_census 72 = .ok (.invokestatic 105, 3) := by decide +kernel
theorem dX6_census_75 : decode cX6_census 75 = .ok (.iload_n 3, 1) := by decide +kernel
theorem dX6_census_76 : decode cX6_census 76 = .ok (.iconst 1, 1) := by decide +kernel
theorem dX6_census_77 : decode cX6_census 77 = .ok (.iload 5, 2) := by decide +kernel
theorem dX6_census_79 : decode cX6_census 79 = .ok (.ishl, 1) := by decide +kernel
theorem dX6_census_80 : decode cX6_census 80 = .ok (.ior, 1) := by decide +kernel
theorem dX6_census_81 : decode cX6_census 81 = .ok (.istore_n 3, 1) := by decide +kernel
theorem dX6_census_82 : decode cX6_census 82 = .ok (.iinc 4 1, 3) := by decide +kernel
theorem dX6_census_85 : decode cX6_census 85 = .ok (.goto (-40), 3) := by decide +kernel
theorem dX6_census_88 : decode cX6_census 88 = .ok (.aload_n 2, 1) := by decide +kernel
theorem dX6_census_89 : decode cX6_census 89 = .ok (.aload_n 0, 1) := by decide +kernel
theorem dX6_census_90 : decode cX6_census 90 = .ok (.getfield 64, 3) := by decide +kernel
theorem dX6_census_93 : decode cX6_census 93 = .ok (.aload_n 0, 1) := by decide +kernel
theorem dX6_census_94 : decode cX6_census 94 = .ok (.getfield 24, 3) := by decide +kernel
theorem dX6_census_97 : decode cX6_census 97 = .ok (.getfield 152, 3) := by decide +kernel
theorem dX6_census_100 : decode cX6_census 100 = .ok (.invokevirtual 258, 3) := by decide +kernel
theorem dX6_census_103 : decode cX6_census 103 = .ok (.aload_n 0, 1) := by decide +kernel
theorem dX6_census_104 : decode cX6_census 104 = .ok (.getfield 73, 3) := by decide +kernel
theorem dX6_census_107 : decode cX6_census 107 = .ok (.iconst 0, 1) := by decide +kernel
theorem dX6_census_108 : decode cX6_census 108 = .ok (.invokestatic 101, 3) := by decide +kernel
theorem dX6_census_111 : decode cX6_census 111 = .ok (.ireturn, 1) := by decide +kernel
def F_X6_census_45 (fu : Nat) : Nat → Mm → Nat → Int32 → Int32 → Option (Int32 × Mm)
  | 0, _, _, _, _ => none
  | n + 1, M, c2, x3, x4 =>
    if (M.1 24 0) ≤ x4 then
      ob1 (F_X4_take fu M c2 82 (M.1 24 0)) (fun M3 =>
      ob1 (F_X6_read fu M3 85 (0 : Int32)) (fun r5 =>
      some (r5, M3)))
    else
      ob1 (F_X6_nextCounted fu M x3) (fun r7 =>
      ob1 (F_X6_write fu M 82 x4 r7) (fun M9 =>
      F_X6_census_45 fu n M9 c2 (x3 ||| ((1 : Int32) <<< (r7 &&& 31))) (x4 + (1 : Int32))))
set_option maxRecDepth 100000 in
set_option maxHeartbeats 4000000 in
theorem w_X6_census_45 {p : Program} {l : Launch} {e : Env} {s : State} {m : MethodId} {args : Array Value} {below : List Frame} {meth : Method} {c : Code} {G : Gv} (hC : Cx p s m args meth c cX6_census 6 (some .int) RX6) {fu : Nat} {r : Int32} {M' : Mm} : ∀ (n : Nat) {c2 : Nat} {x3 : Int32} {x4 : Int32} {M : Mm} {H : Heap} {locs : List Loc} {ls : Array Slot} (hk2 : kd c2 = 12), F_X6_census_45 fu n M c2 x3 x4 = some (r, M') → St G s H locs M → lv_has ls 6 [(0, .ref (ad G 0)), (2, .ref (ad G c2)), (3, .int x3), (4, .int x4)] → W p l e rm_X6_census s m args below meth c H locs 0 0 (MQ below (QI G r M') args s 0 0 (zA G)) (F0 m 45 ls []) := by
  intro n
  induction n with
  | zero =>
    intro c2 x3 x4 M H locs ls hk2 hF hw hl
    cases hF
  | succ n ih =>
    intro c2 x3 x4 M H locs ls hk2 hF hw hl
    unfold F_X6_census_45 at hF
    refine lv_iload hC.1 hC.2.1 dX6_census_45 (lv_at hl 3 rfl) ?_
    refine lv_aload_n hC.1 hC.2.1 dX6_census_47 rfl (lv_at hl 0 rfl) ?_
    refine g6_north hC hw q1_195 dX6_census_48 ?_
    refine g2_men hC hw (rfl : kd 24 = 11) q1_29 dX6_census_51 ?_
    refine lv_icmp_ge (tgt := 88) hC.1 hC.2.1 dX6_census_54 (by decide) (fun b1 => ?_) (fun b1 => ?_)
    · have hF := ifP hF b1
      refine lv_aload_n hC.1 hC.2.1 dX6_census_88 rfl (lv_at hl 1 rfl) ?_
      refine lv_aload_n hC.1 hC.2.1 dX6_census_89 rfl (lv_at hl 0 rfl) ?_
      refine g6_plan hC hw q1_206 dX6_census_90 ?_
      refine lv_aload_n hC.1 hC.2.1 dX6_census_93 rfl (lv_at hl 0 rfl) ?_
      refine g6_north hC hw q1_195 dX6_census_94 ?_
      refine g2_men hC hw (rfl : kd 24 = 11) q1_29 dX6_census_97 ?_
      obtain ⟨M3, h2, hF⟩ := ob1S hF
      refine k_Vv (As := [.ref (ad G 82), .int (M.1 24 0)]) (rest := []) hC hw (c_X4_take (M := M) hk2 (rfl : kd 82 = 1) h2) (RC_R hk2) yv_X4_take q2_204 ⟨rfl, rfl⟩ ⟨Nat.le_of_ble_eq_true rfl, Nat.le_of_ble_eq_true rfl⟩ ⟨Nat.zero_le _, Nat.zero_le _⟩ rfl rfl (Nat.le_of_ble_eq_true rfl) hl dX6_census_100 (fun H locs hw => ?_)
      refine lv_aload_n hC.1 hC.2.1 dX6_census_103 rfl (lv_at hl 0 rfl) ?_
      refine g6_mostCounted hC hw q1_209 dX6_census_104 ?_
      refine lv_iconst (v := (0 : Int32)) hC.1 hC.2.1 dX6_census_107 (by decide) ?_
      obtain ⟨r5, h4, hF⟩ := ob1S hF
      refine k_Si (As := [.ref (ad G 85), .int (0 : Int32)]) (rest := []) hC hw (c_X6_read (M := M3) (rfl : kd 85 = 1) h4) ys_X6_read q2_17 ⟨rfl, rfl⟩ ⟨Nat.le_of_ble_eq_true rfl, Nat.le_of_ble_eq_true rfl⟩ ⟨Nat.zero_le _, Nat.zero_le _⟩ rfl rfl (Nat.le_of_ble_eq_true rfl) hl dX6_census_108 (fun H locs hw => ?_)
      exact r_iretE hC hw hF dX6_census_111
    · have hF := ifN hF b1
      refine lv_aload_n hC.1 hC.2.1 dX6_census_57 rfl (lv_at hl 0 rfl) ?_
      refine lv_iload_n hC.1 hC.2.1 dX6_census_58 rfl (lv_at hl 2 rfl) ?_
      obtain ⟨r7, h6, hF⟩ := ob1S hF
      refine k_Vi (As := [.int x3]) (rest := []) hC hw (c_X6_nextCounted (M := M) h6) RC_S yv_X6_nextCounted q3_24 ⟨rfl, rfl⟩ ⟨Nat.le_of_ble_eq_true rfl, Nat.le_of_ble_eq_true rfl⟩ ⟨Nat.zero_le _, Nat.zero_le _⟩ rfl rfl (Nat.le_of_ble_eq_true rfl) hl dX6_census_59 (fun H locs hw => ?_)
      refine lv_istore (lv' := [(5, .int r7), (0, .ref (ad G 0)), (2, .ref (ad G c2)), (3, .int x3), (4, .int x4)]) hC.1 hC.2.1 dX6_census_62 hl (by decide) rfl (fun ls hl => ?_)
      refine lv_aload_n hC.1 hC.2.1 dX6_census_64 rfl (lv_at hl 1 rfl) ?_
      refine g6_plan hC hw q1_206 dX6_census_65 ?_
      refine lv_iload hC.1 hC.2.1 dX6_census_68 (lv_at hl 4 rfl) ?_
      refine lv_iload hC.1 hC.2.1 dX6_census_70 (lv_at hl 0 rfl) ?_
      obtain ⟨M9, h8, hF⟩ := ob1S hF
      refine k_Sv (As := [.ref (ad G 82), .int x4, .int r7]) (rest := []) hC hw (c_X6_write (M := M) (rfl : kd 82 = 1) h8) ys_X6_write q2_20 ⟨rfl, rfl⟩ ⟨Nat.le_of_ble_eq_true rfl, Nat.le_of_ble_eq_true rfl⟩ ⟨Nat.zero_le _, Nat.zero_le _⟩ rfl rfl (Nat.le_of_ble_eq_true rfl) hl dX6_census_72 (fun H locs hw => ?_)
      refine lv_iload_n hC.1 hC.2.1 dX6_census_75 rfl (lv_at hl 3 rfl) ?_
      refine lv_iconst (v := (1 : Int32)) hC.1 hC.2.1 dX6_census_76 (by decide) ?_
      refine lv_iload hC.1 hC.2.1 dX6_census_77 (lv_at hl 0 rfl) ?_
      refine lv_ishl hC.1 hC.2.1 dX6_census_79 ?_
      refine lv_ior hC.1 hC.2.1 dX6_census_80 ?_
      refine lv_istore_n (lv' := [(3, .int (x3 ||| ((1 : Int32) <<< (r7 &&& 31)))), (5, .int r7), (0, .ref (ad G 0)), (2, .ref (ad G c2)), (4, .int x4)]) hC.1 hC.2.1 dX6_census_81 rfl hl (by decide) rfl (fun ls hl => ?_)
      refine lv_iinc (v := (x4 + (1 : Int32))) (lv' := [(4, .int (x4 + (1 : Int32))), (3, .int (x3 ||| ((1 : Int32) <<< (r7 &&& 31)))), (5, .int r7), (0, .ref (ad G 0)), (2, .ref (ad G c2))]) hC.1 hC.2.1 dX6_census_82 hl (k := 4) rfl rfl (by decide) rfl (fun ls hl => ?_)
      refine lv_goto (tgt := 45) hC.1 hC.2.1 dX6_census_85 (by decide) ?_
      exact ih hk2 hF hw (lv_sub hl [3, 4, 1, 0] rfl)
def F_X6_census (fu : Nat) (M : Mm) (x1 : Int32) : Option (Int32 × Mm) :=
  ob1 (F_X6_rowOf fu M x1) (fun r2 =>
  op1 r2 (
    some ((-1 : Int32), M)) (fun c3 =>
    if ¬ kd c3 = 12 then none else (
    if (M.1 24 0) = 0 then
      some ((-4 : Int32), M)
    else
      ob1 (F_X2_foreseeLiving fu M 24 81) (fun M7 =>
      ob1 (F_X6_fillMostCounted fu M7) (fun M9 =>
      F_X6_census_45 fu fu M9 c3 (0 : Int32) (0 : Int32))))))
set_option maxRecDepth 100000 in
set_option maxHeartbeats 4000000 in
theorem c_X6_census {l : Launch} {G : Gv} {fu : Nat} {M : Mm} {x1 : Int32} {r : Int32} {M' : Mm} (hF : F_X6_census fu M x1 = some (r, M')) : Met l yX6_census (.code yX6_census cX6_census 6 (some .int) :: zU) rm_X6_census (va_Pc [.ref (ad G 0), .int x1] (Wd G M)) (QI G r M') 0 0 (zA G) := by
  refine zMet (by decide) rfl (Nat.le_of_ble_eq_true rfl) ?_
  intro p e s m below meth c hC hw ls hl
  have hl : lv_has ls 6 [(0, .ref (ad G 0)), (1, .int x1)] := hl
  unfold F_X6_census at hF
  refine lv_aload_n hC.1 hC.2.1 dX6_census_0 rfl (lv_at hl 0 rfl) ?_
  refine lv_iload_n hC.1 hC.2.1 dX6_census_1 rfl (lv_at hl 1 rfl) ?_
  obtain ⟨r2, h1, hF⟩ := ob1S hF
  refine k_Vq (As := [.int x1]) (rest := []) hC hw (c_X6_rowOf (M := M) h1) RC_S yv_X6_rowOf q2_9 ⟨rfl, rfl⟩ ⟨Nat.le_of_ble_eq_true rfl, Nat.le_of_ble_eq_true rfl⟩ ⟨Nat.zero_le _, Nat.zero_le _⟩ rfl rfl (Nat.le_of_ble_eq_true rfl) hl dX6_census_2 (fun H locs hw => ?_)
  cases r2 with
  | none =>
    have hF := op1N hF
    refine topN ?_
    refine lv_astore_nN (lv' := [(2, .null), (0, .ref (ad G 0)), (1, .int x1)]) hC.1 hC.2.1 dX6_census_5 rfl hl (by decide) rfl (fun ls hl => ?_)
    refine lv_aload_nN hC.1 hC.2.1 dX6_census_6 rfl (lv_at hl 0 rfl) ?_
    refine lv_ifnonnullN hC.1 hC.2.1 dX6_census_7 ?_
    refine lv_iconst (v := (-1 : Int32)) hC.1 hC.2.1 dX6_census_10 (by decide) ?_
    exact r_iretE hC hw hF dX6_census_11
  | some c3 =>
    obtain ⟨g4, hF⟩ := ifO (op1C hF)
    have g4 := Decidable.not_not.mp g4
    refine topC ?_
    refine lv_astore_n (lv' := [(2, .ref (ad G c3)), (0, .ref (ad G 0)), (1, .int x1)]) hC.1 hC.2.1 dX6_census_5 rfl hl (by decide) rfl (fun ls hl => ?_)
    refine lv_aload_n hC.1 hC.2.1 dX6_census_6 rfl (lv_at hl 0 rfl) ?_
    refine lv_ifnonnull (tgt := 12) hC.1 hC.2.1 dX6_census_7 (by decide) ?_
    refine lv_aload_n hC.1 hC.2.1 dX6_census_12 rfl (lv_at hl 1 rfl) ?_
    refine g6_north hC hw q1_195 dX6_census_13 ?_
    refine g2_men hC hw (rfl : kd 24 = 11) q1_29 dX6_census_16 ?_
    refine lv_if_ne (tgt := 25) hC.1 hC.2.1 dX6_census_19 (by decide) (fun b5 => ?_) (fun b5 => ?_)
    · have hF := ifN hF b5
      refine lv_aload_n hC.1 hC.2.1 dX6_census_25 rfl (lv_at hl 1 rfl) ?_
      refine g6_north hC hw q1_195 dX6_census_26 ?_
      refine lv_aload_n hC.1 hC.2.1 dX6_census_29 rfl (lv_at hl 1 rfl) ?_
      refine g6_ahead hC hw q1_205 dX6_census_30 ?_
      obtain ⟨M7, h6, hF⟩ := ob1S hF
      refine k_Vv (As := [.ref (ad G 81)]) (rest := []) hC hw (c_X2_foreseeLiving (M := M) (rfl : kd 24 = 11) (rfl : kd 81 = 1) h6) (RC_N (rfl : kd 24 = 11)) yv_X2_foreseeLiving q3_3 ⟨rfl, rfl⟩ ⟨Nat.le_of_ble_eq_true rfl, Nat.le_of_ble_eq_true rfl⟩ ⟨Nat.zero_le _, Nat.zero_le _⟩ rfl rfl (Nat.le_of_ble_eq_true rfl) hl dX6_census_33 (fun H locs hw => ?_)
      refine lv_aload_n hC.1 hC.2.1 dX6_census_36 rfl (lv_at hl 1 rfl) ?_
      obtain ⟨M9, h8, hF⟩ := ob1S hF
      refine k_Vv (As := []) (rest := []) hC hw (c_X6_fillMostCounted (M := M7) h8) RC_S yv_X6_fillMostCounted q3_11 ⟨rfl, rfl⟩ ⟨Nat.le_of_ble_eq_true rfl, Nat.le_of_ble_eq_true rfl⟩ ⟨Nat.zero_le _, Nat.zero_le _⟩ rfl rfl (Nat.le_of_ble_eq_true rfl) hl dX6_census_37 (fun H locs hw => ?_)
      refine lv_iconst (v := (0 : Int32)) hC.1 hC.2.1 dX6_census_40 (by decide) ?_
      refine lv_istore_n (lv' := [(3, .int (0 : Int32)), (2, .ref (ad G c3)), (0, .ref (ad G 0)), (1, .int x1)]) hC.1 hC.2.1 dX6_census_41 rfl hl (by decide) rfl (fun ls hl => ?_)
      refine lv_iconst (v := (0 : Int32)) hC.1 hC.2.1 dX6_census_42 (by decide) ?_
      refine lv_istore (lv' := [(4, .int (0 : Int32)), (3, .int (0 : Int32)), (2, .ref (ad G c3)), (0, .ref (ad G 0)), (1, .int x1)]) hC.1 hC.2.1 dX6_census_43 hl (by decide) rfl (fun ls hl => ?_)
      exact w_X6_census_45 hC _ g4 hF hw (lv_sub hl [3, 2, 1, 0] rfl)
    · have hF := ifP hF b5
      refine lv_bipush (v := (-4 : Int32)) hC.1 hC.2.1 dX6_census_22 (by decide) ?_
      exact r_iretE hC hw hF dX6_census_24
abbrev rm_X6_counted : Room := { frames := 5, cells := 0, slots := 0, locals := 122 }
theorem yv_X6_counted : YV yX6_counted cX6_counted 7 (some .int) 1 RX6 := ⟨⟨q3_29, q3_30, q1_1, q3_31⟩, by decide +kernel⟩
theorem dX6_counted_0 : decode cX6_counted 0 = .ok (.aload_n 0, 1) := by decide +kernel
theorem dX6_counted_1 : decode cX6_counted 1 = .ok (.iload_n 1, 1) := by decide +kernel
theorem dX6_counted_2 : decode cX6_counted 2 = .ok (.invokevirtual 78, 3) := by decide +kernel
theorem dX6_counted_5 : decode cX6_counted 5 = .ok (.astore_n 2, 1) := by decide +kernel
theorem dX6_counted_6 : decode cX6_counted 6 = .ok (.aload_n 2, 1) := by decide +kernel
theorem dX6_counted_7 : decode cX6_counted 7 = .ok (.ifnonnull 5, 3) := by decide +kernel
theorem dX6_counted_10 : decode cX6_counted 10 = .ok (.iconst (-1), 1) := by decide +kernel
theorem dX6_counted_11 : decode cX6_counted 11 = .ok (.ireturn, 1) := by decide +kernel
theorem dX6_counted_12 : decode cX6_counted 12 = .ok (.aload_n 0, 1) := by decide +kernel
theorem dX6_counted_13 : decode cX6_counted 13 = .ok (.getfield 24, 3) := by decide +kernel
theorem dX6_counted_16 : decode cX6_counted 16 = .ok (.getfield 152, 3) := by decide +kernel
theorem dX6_counted_19 : decode cX6_counted 19 = .ok (.ifCond .ne 6, 3) := by decide +kernel
theorem dX6_counted_22 : decode cX6_counted 22 = .ok (.bipush (-4), 2) := by decide +kernel
theorem dX6_counted_24 : decode cX6_counted 24 = .ok (.ireturn, 1) := by decide +kernel
theorem dX6_counted_25 : decode cX6_counted 25 = .ok (.aload_n 2, 1) := by decide +kernel
theorem dX6_counted_26 : decode cX6_counted 26 = .ok (.getfield 90, 3) := by decide +kernel
theorem dX6_counted_29 : decode cX6_counted 29 = .ok (.ifCond .ne 9, 3) := by decide +kernel
theorem dX6_counted_32 : decode cX6_counted 32 = .ok (.aload_n 0, 1) := by decide +kernel
theorem dX6_counted_33 : decode cX6_counted 33 = .ok (.iconst 1, 1) := by decide +kernel
theorem dX6_counted_34 : decode cX6_counted 34 = .ok (.invokevirtual 82, 3) := by decide +kernel
theorem dX6_counted_37 : decode cX6_counted 37 = .ok (.ireturn, 1) := by decide +kernel
theorem dX6_counted_38 : decode cX6_counted 38 = .ok (.aload_n 2, 1) := by decide +kernel
theorem dX6_counted_39 : decode cX6_counted 39 = .ok (.getfield 94, 3) := by decide +kernel
theorem dX6_counted_42 : decode cX6_counted 42 = .ok (.aload_n 0, 1) := by decide +kernel
theorem dX6_counted_43 : decode cX6_counted 43 = .ok (.getfield 24, 3) := by decide +kernel
theorem dX6_counted_46 : decode cX6_counted 46 = .ok (.getfield 152, 3) := by decide +kernel
theorem dX6_counted_49 : decode cX6_counted 49 = .ok (.if_icmp .eq 9, 3) := by decide +kernel
theorem dX6_counted_52 : decode cX6_counted 52 = .ok (.aload_n 0, 1) := by decide +kernel
theorem dX6_counted_53 : decode cX6_counted 53 = .ok (.iconst 5, 1) := by decide +kernel
theorem dX6_counted_54 : decode cX6_counted 54 = .ok (.invokevirtual 82, 3) := by decide +kernel
theorem dX6_counted_57 : decode cX6_counted 57 = .ok (.ireturn, 1) := by decide +kernel
theorem dX6_counted_58 : decode cX6_counted 58 = .ok (.aload_n 0, 1) := by decide +kernel
theorem dX6_counted_59 : decode cX6_counted 59 = .ok (.getfield 24, 3) := by decide +kernel
theorem dX6_counted_62 : decode cX6_counted 62 = .ok (.aload_n 0, 1) := by decide +kernel
theorem dX6_counted_63 : decode cX6_counted 63 = .ok (.getfield 61, 3) := by decide +kernel
theorem dX6_counted_66 : decode cX6_counted 66 = .ok (.invokevirtual 280, 3) := by decide +kernel
theorem dX6_counted_69 : decode cX6_counted 69 = .ok (.iconst 0, 1) := by decide +kernel
theorem dX6_counted_70 : decode cX6_counted 70 = .ok (.istore_n 3, 1) := by decide +kernel
theorem dX6_counted_71 : decode cX6_counted 71 = .ok (.iconst 0, 1) := by decide +kernel
theorem dX6_counted_72 : decode cX6_counted 72 = .ok (.istore 4, 2) := by decide +kernel
theorem dX6_counted_74 : decode cX6_counted 74 = .ok (.iconst 0, 1) := by decide +kernel
theorem dX6_counted_75 : decode cX6_counted 75 = .ok (.istore 5, 2) := by decide +kernel
theorem dX6_counted_77 : decode cX6_counted 77 = .ok (.iload 5, 2) := by decide +kernel
theorem dX6_counted_79 : decode cX6_counted 79 = .ok (.aload_n 0, 1) := by decide +kernel
theorem dX6_counted_80 : decode cX6_counted 80 = .ok (.getfield 24, 3) := by decide +kernel
theorem dX6_counted_83 : decode cX6_counted 83 = .ok (.getfield 152, 3) := by decide +kernel
theorem dX6_counted_86 : decode cX6_counted 86 = .ok (.if_icmp .ge 67, 3) := by decide +kernel
theorem dX6_counted_89 : decode cX6_counted 89 = .ok (.aload_n 2, 1) := by decide +kernel
theorem dX6_counted_90 : decode cX6_counted 90 = .ok (.getfield 98, 3) := by decide +kernel
theorem dX6_counted_93 : decode cX6_counted 93 = .ok (.iload 5, 2) := by decide +kernel
theorem dX6_counted_95 : decode cX6_counted 95 = .ok (.invokestatic 101, 3) := by decide +kernel
theorem dX6_counted_98 : decode cX6_counted 98 = .ok (.istore 6, 2) := by decide +kernel
theorem dX6_counted_100 : decode cX6_counted 100 = .ok (.aload_n 0, 1) := by decide +kernel
theorem dX6_counted_101 : decode cX6_counted 101 = .ok (.getfield 24, 3) := by decide +kernel
theorem dX6_counted_104 : decode cX6_counted 104 = .ok (.iload 6, 2) := by decide +kernel
theorem dX6_counted_106 : decode cX6_counted 106 = .ok (.invokevirtual 155, 3) := by decide +kernel
theorem dX6_counted_109 : decode cX6_counted 109 = .ok (.ifCond .eq 12, 3) := by decide +kernel
theorem dX6_counted_112 : decode cX6_counted 112 = .ok (.iload_n 3, 1) := by decide +kernel
theorem dX6_counted_113 : decode cX6_counted 113 = .ok (.iload 6, 2) := by decide +kernel
theorem dX6_counted_115 : decode cX6_counted 115 = .ok (.invokestatic 252, 3) := by decide +kernel
theorem dX6_counted_118 : decode cX6_counted 118 = .ok (.ifCond .eq 9, 3) := by decide +kernel
theorem dX6_counted_121 : decode cX6_counted 121 = .ok (.aload_n 0, 1) := by decide +kernel
theorem dX6_counted_122 : decode cX6_counted 122 = .ok (.iconst 3, 1) := by decide +kernel
theorem dX6_counted_123 : decode cX6_counted 123 = .ok (.invokevirtual 82, 3) := by decide +kernel
theorem dX6_counted_126 : decode cX6_counted 126 = .ok (.ireturn, 1) := by decide +kernel
theorem dX6_counted_127 : decode cX6_counted 127 = .ok (.iload_n 3, 1) := by decide +kernel
theorem dX6_counted_128 : decode cX6_counted 128 = .ok (.iconst 1, 1) := by decide +kernel
theorem dX6_counted_129 : decode cX6_counted 129 = .ok (.iload 6, 2) := by decide +kernel
theorem dX6_counted_131 : decode cX6_counted 131 = .ok (.ishl, 1) := by decide +kernel
theorem dX6_counted_132 : decode cX6_counted 132 = .ok (.ior, 1) := by decide +kernel
theorem dX6_counted_133 : decode cX6_counted 133 = .ok (.istore_n 3, 1) := by decide +kernel
theorem dX6_counted_134 : decode cX6_counted 134 = .ok (.iload 4, 2) := by decide +kernel
theorem dX6_counted_136 : decode cX6_counted 136 = .ok (.aload_n 0, 1) := by decide +kernel
theorem dX6_counted_137 : decode cX6_counted 137 = .ok (.iload 6, 2) := by decide +kernel
theorem dX6_counted_139 : decode cX6_counted 139 = .ok (.iload 5, 2) := by decide +kernel
theorem dX6_counted_141 : decode cX6_counted 141 = .ok (.invokevirtual 290, 3) := by decide +kernel
theorem dX6_counted_144 : decode cX6_counted 144 = .ok (.iadd, 1) := by decide +kernel
theorem dX6_counted_145 : decode cX6_counted 145 = .ok (.istore 4, 2) := by decide +kernel
theorem dX6_counted_147 : decode cX6_counted 147 = .ok (.iinc 5 1, 3) := by decide +kernel
theorem dX6_counted_150 : decode cX6_counted 150 = .ok (.goto (-73), 3) := by decide +kernel
theorem dX6_counted_153 : decode cX6_counted 153 = .ok (.iload 4, 2) := by decide +kernel
theorem dX6_counted_155 : decode cX6_counted 155 = .ok (.ireturn, 1) := by decide +kernel
def F_X6_counted_121 (fu : Nat) (M : Mm) : Option (Int32 × Mm) :=
  ob2 (F_X6_found fu M (3 : Int32)) (fun r2 M3 =>
  some (r2, M3))
set_option maxRecDepth 100000 in
set_option maxHeartbeats 4000000 in
theorem w_X6_counted_121 {p : Program} {l : Launch} {e : Env} {s : State} {m : MethodId} {args : Array Value} {below : List Frame} {meth : Method} {c : Code} {G : Gv} (hC : Cx p s m args meth c cX6_counted 7 (some .int) RX6) {fu : Nat} {r : Int32} {M' : Mm} {M : Mm} {H : Heap} {locs : List Loc} {ls : Array Slot} (hF : F_X6_counted_121 fu M = some (r, M')) (hw : St G s H locs M) (hl : lv_has ls 7 [(0, .ref (ad G 0))]) : W p l e rm_X6_counted s m args below meth c H locs 0 0 (MQ below (QI G r M') args s 0 0 (zA G)) (F0 m 121 ls []) := by
  unfold F_X6_counted_121 at hF
  refine lv_aload_n hC.1 hC.2.1 dX6_counted_121 rfl (lv_at hl 0 rfl) ?_
  refine lv_iconst (v := (3 : Int32)) hC.1 hC.2.1 dX6_counted_122 (by decide) ?_
  obtain ⟨r2, M3, h1, hF⟩ := ob2S hF
  refine k_Vi (As := [.int (3 : Int32)]) (rest := []) hC hw (c_X6_found (M := M) h1) RC_S yv_X6_found q2_13 ⟨rfl, rfl⟩ ⟨Nat.le_of_ble_eq_true rfl, Nat.le_of_ble_eq_true rfl⟩ ⟨Nat.zero_le _, Nat.zero_le _⟩ rfl rfl (Nat.le_of_ble_eq_true rfl) hl dX6_counted_123 (fun H locs hw => ?_)
  exact r_iretE hC hw hF dX6_counted_126
def F_X6_counted_77 (fu : Nat) : Nat → Mm → Nat → Int32 → Int32 → Int32 → Option (Int32 × Mm)
  | 0, _, _, _, _, _ => none
  | n + 1, M, c2, x3, x4, x5 =>
    if (M.1 24 0) ≤ x5 then
      some (x4, M)
    else
      ob1 (F_X6_read fu M (c2 + 6) x5) (fun r3 =>
      ob1 (F_X2_isMan fu M 24 r3) (fun r5 =>
      if r5 = 0 then
        F_X6_counted_121 fu M
      else
        ob1 (F_X6_isIn fu M x3 r3) (fun r8 =>
        if r8 = 0 then
          ob1 (F_X6_countedOn fu M r3 x5) (fun r11 =>
          F_X6_counted_77 fu n M c2 (x3 ||| ((1 : Int32) <<< (r3 &&& 31))) (x4 + r11) (x5 + (1 : Int32)))
        else
          F_X6_counted_121 fu M)))
set_option maxRecDepth 100000 in
set_option maxHeartbeats 4000000 in
theorem w_X6_counted_77 {p : Program} {l : Launch} {e : Env} {s : State} {m : MethodId} {args : Array Value} {below : List Frame} {meth : Method} {c : Code} {G : Gv} (hC : Cx p s m args meth c cX6_counted 7 (some .int) RX6) {fu : Nat} {r : Int32} {M' : Mm} : ∀ (n : Nat) {c2 : Nat} {x3 : Int32} {x4 : Int32} {x5 : Int32} {M : Mm} {H : Heap} {locs : List Loc} {ls : Array Slot} (hk2 : kd c2 = 12), F_X6_counted_77 fu n M c2 x3 x4 x5 = some (r, M') → St G s H locs M → lv_has ls 7 [(0, .ref (ad G 0)), (2, .ref (ad G c2)), (3, .int x3), (4, .int x4), (5, .int x5)] → W p l e rm_X6_counted s m args below meth c H locs 0 0 (MQ below (QI G r M') args s 0 0 (zA G)) (F0 m 77 ls []) := by
  intro n
  induction n with
  | zero =>
    intro c2 x3 x4 x5 M H locs ls hk2 hF hw hl
    cases hF
  | succ n ih =>
    intro c2 x3 x4 x5 M H locs ls hk2 hF hw hl
    unfold F_X6_counted_77 at hF
    refine lv_iload hC.1 hC.2.1 dX6_counted_77 (lv_at hl 4 rfl) ?_
    refine lv_aload_n hC.1 hC.2.1 dX6_counted_79 rfl (lv_at hl 0 rfl) ?_
    refine g6_north hC hw q1_195 dX6_counted_80 ?_
    refine g2_men hC hw (rfl : kd 24 = 11) q1_29 dX6_counted_83 ?_
    refine lv_icmp_ge (tgt := 153) hC.1 hC.2.1 dX6_counted_86 (by decide) (fun b1 => ?_) (fun b1 => ?_)
    · have hF := ifP hF b1
      refine lv_iload hC.1 hC.2.1 dX6_counted_153 (lv_at hl 3 rfl) ?_
      exact r_iretE hC hw hF dX6_counted_155
    · have hF := ifN hF b1
      refine lv_aload_n hC.1 hC.2.1 dX6_counted_89 rfl (lv_at hl 1 rfl) ?_
      refine g4_cells hC hw hk2 q1_166 dX6_counted_90 ?_
      refine lv_iload hC.1 hC.2.1 dX6_counted_93 (lv_at hl 4 rfl) ?_
      obtain ⟨r3, h2, hF⟩ := ob1S hF
      refine k_Si (As := [.ref (ad G (c2 + 6)), .int x5]) (rest := []) hC hw (c_X6_read (M := M) (kdRc hk2) h2) ys_X6_read q2_17 ⟨rfl, rfl⟩ ⟨Nat.le_of_ble_eq_true rfl, Nat.le_of_ble_eq_true rfl⟩ ⟨Nat.zero_le _, Nat.zero_le _⟩ rfl rfl (Nat.le_of_ble_eq_true rfl) hl dX6_counted_95 (fun H locs hw => ?_)
      refine lv_istore (lv' := [(6, .int r3), (0, .ref (ad G 0)), (2, .ref (ad G c2)), (3, .int x3), (4, .int x4), (5, .int x5)]) hC.1 hC.2.1 dX6_counted_98 hl (by decide) rfl (fun ls hl => ?_)
      refine lv_aload_n hC.1 hC.2.1 dX6_counted_100 rfl (lv_at hl 1 rfl) ?_
      refine g6_north hC hw q1_195 dX6_counted_101 ?_
      refine lv_iload hC.1 hC.2.1 dX6_counted_104 (lv_at hl 0 rfl) ?_
      obtain ⟨r5, h4, hF⟩ := ob1S hF
      refine k_Vi (As := [.int r3]) (rest := []) hC hw (c_X2_isMan (M := M) (rfl : kd 24 = 11) h4) (RC_N (rfl : kd 24 = 11)) yv_X2_isMan q2_31 ⟨rfl, rfl⟩ ⟨Nat.le_of_ble_eq_true rfl, Nat.le_of_ble_eq_true rfl⟩ ⟨Nat.zero_le _, Nat.zero_le _⟩ rfl rfl (Nat.le_of_ble_eq_true rfl) hl dX6_counted_106 (fun H locs hw => ?_)
      refine lv_if_eq (tgt := 121) hC.1 hC.2.1 dX6_counted_109 (by decide) (fun b6 => ?_) (fun b6 => ?_)
      · have hF := ifP hF b6
        exact w_X6_counted_121 hC hF hw (lv_sub hl [1] rfl)
      · have hF := ifN hF b6
        refine lv_iload_n hC.1 hC.2.1 dX6_counted_112 rfl (lv_at hl 3 rfl) ?_
        refine lv_iload hC.1 hC.2.1 dX6_counted_113 (lv_at hl 0 rfl) ?_
        obtain ⟨r8, h7, hF⟩ := ob1S hF
        refine k_Si (As := [.int x3, .int r3]) (rest := []) hC hw (c_X6_isIn (M := M) h7) ys_X6_isIn q2_199 ⟨rfl, rfl⟩ ⟨Nat.le_of_ble_eq_true rfl, Nat.le_of_ble_eq_true rfl⟩ ⟨Nat.zero_le _, Nat.zero_le _⟩ rfl rfl (Nat.le_of_ble_eq_true rfl) hl dX6_counted_115 (fun H locs hw => ?_)
        refine lv_if_eq (tgt := 127) hC.1 hC.2.1 dX6_counted_118 (by decide) (fun b9 => ?_) (fun b9 => ?_)
        · have hF := ifP hF b9
          refine lv_iload_n hC.1 hC.2.1 dX6_counted_127 rfl (lv_at hl 3 rfl) ?_
          refine lv_iconst (v := (1 : Int32)) hC.1 hC.2.1 dX6_counted_128 (by decide) ?_
          refine lv_iload hC.1 hC.2.1 dX6_counted_129 (lv_at hl 0 rfl) ?_
          refine lv_ishl hC.1 hC.2.1 dX6_counted_131 ?_
          refine lv_ior hC.1 hC.2.1 dX6_counted_132 ?_
          refine lv_istore_n (lv' := [(3, .int (x3 ||| ((1 : Int32) <<< (r3 &&& 31)))), (6, .int r3), (0, .ref (ad G 0)), (2, .ref (ad G c2)), (4, .int x4), (5, .int x5)]) hC.1 hC.2.1 dX6_counted_133 rfl hl (by decide) rfl (fun ls hl => ?_)
          refine lv_iload hC.1 hC.2.1 dX6_counted_134 (lv_at hl 4 rfl) ?_
          refine lv_aload_n hC.1 hC.2.1 dX6_counted_136 rfl (lv_at hl 2 rfl) ?_
          refine lv_iload hC.1 hC.2.1 dX6_counted_137 (lv_at hl 1 rfl) ?_
          refine lv_iload hC.1 hC.2.1 dX6_counted_139 (lv_at hl 5 rfl) ?_
          obtain ⟨r11, h10, hF⟩ := ob1S hF
          refine k_Vi (As := [.int r3, .int x5]) (rest := [.int x4]) hC hw (c_X6_countedOn (M := M) h10) RC_S yv_X6_countedOn q3_19 ⟨rfl, rfl⟩ ⟨Nat.le_of_ble_eq_true rfl, Nat.le_of_ble_eq_true rfl⟩ ⟨Nat.zero_le _, Nat.zero_le _⟩ rfl rfl (Nat.le_of_ble_eq_true rfl) hl dX6_counted_141 (fun H locs hw => ?_)
          refine lv_iadd hC.1 hC.2.1 dX6_counted_144 ?_
          refine lv_istore (lv' := [(4, .int (x4 + r11)), (3, .int (x3 ||| ((1 : Int32) <<< (r3 &&& 31)))), (6, .int r3), (0, .ref (ad G 0)), (2, .ref (ad G c2)), (5, .int x5)]) hC.1 hC.2.1 dX6_counted_145 hl (by decide) rfl (fun ls hl => ?_)
          refine lv_iinc (v := (x5 + (1 : Int32))) (lv' := [(5, .int (x5 + (1 : Int32))), (4, .int (x4 + r11)), (3, .int (x3 ||| ((1 : Int32) <<< (r3 &&& 31)))), (6, .int r3), (0, .ref (ad G 0)), (2, .ref (ad G c2))]) hC.1 hC.2.1 dX6_counted_147 hl (k := 5) rfl rfl (by decide) rfl (fun ls hl => ?_)
          refine lv_goto (tgt := 77) hC.1 hC.2.1 dX6_counted_150 (by decide) ?_
          exact ih hk2 hF hw (lv_sub hl [4, 5, 2, 1, 0] rfl)
        · have hF := ifN hF b9
          exact w_X6_counted_121 hC hF hw (lv_sub hl [1] rfl)
def F_X6_counted (fu : Nat) (M : Mm) (x1 : Int32) : Option (Int32 × Mm) :=
  ob1 (F_X6_rowOf fu M x1) (fun r2 =>
  op1 r2 (
    some ((-1 : Int32), M)) (fun c3 =>
    if ¬ kd c3 = 12 then none else (
    if (M.1 24 0) = 0 then
      some ((-4 : Int32), M)
    else
      if (M.1 c3 0) = 0 then
        ob2 (F_X6_found fu M (1 : Int32)) (fun r14 M15 =>
        some (r14, M15))
      else
        if (M.1 c3 1) = (M.1 24 0) then
          ob1 (F_X2_foreseeLiving fu M 24 81) (fun M9 =>
          F_X6_counted_77 fu fu M9 c3 (0 : Int32) (0 : Int32) (0 : Int32))
        else
          ob2 (F_X6_found fu M (5 : Int32)) (fun r11 M12 =>
          some (r11, M12)))))
set_option maxRecDepth 100000 in
set_option maxHeartbeats 4000000 in
theorem c_X6_counted {l : Launch} {G : Gv} {fu : Nat} {M : Mm} {x1 : Int32} {r : Int32} {M' : Mm} (hF : F_X6_counted fu M x1 = some (r, M')) : Met l yX6_counted (.code yX6_counted cX6_counted 7 (some .int) :: zU) rm_X6_counted (va_Pc [.ref (ad G 0), .int x1] (Wd G M)) (QI G r M') 0 0 (zA G) := by
  refine zMet (by decide) rfl (Nat.le_of_ble_eq_true rfl) ?_
  intro p e s m below meth c hC hw ls hl
  have hl : lv_has ls 7 [(0, .ref (ad G 0)), (1, .int x1)] := hl
  unfold F_X6_counted at hF
  refine lv_aload_n hC.1 hC.2.1 dX6_counted_0 rfl (lv_at hl 0 rfl) ?_
  refine lv_iload_n hC.1 hC.2.1 dX6_counted_1 rfl (lv_at hl 1 rfl) ?_
  obtain ⟨r2, h1, hF⟩ := ob1S hF
  refine k_Vq (As := [.int x1]) (rest := []) hC hw (c_X6_rowOf (M := M) h1) RC_S yv_X6_rowOf q2_9 ⟨rfl, rfl⟩ ⟨Nat.le_of_ble_eq_true rfl, Nat.le_of_ble_eq_true rfl⟩ ⟨Nat.zero_le _, Nat.zero_le _⟩ rfl rfl (Nat.le_of_ble_eq_true rfl) hl dX6_counted_2 (fun H locs hw => ?_)
  cases r2 with
  | none =>
    have hF := op1N hF
    refine topN ?_
    refine lv_astore_nN (lv' := [(2, .null), (0, .ref (ad G 0)), (1, .int x1)]) hC.1 hC.2.1 dX6_counted_5 rfl hl (by decide) rfl (fun ls hl => ?_)
    refine lv_aload_nN hC.1 hC.2.1 dX6_counted_6 rfl (lv_at hl 0 rfl) ?_
    refine lv_ifnonnullN hC.1 hC.2.1 dX6_counted_7 ?_
    refine lv_iconst (v := (-1 : Int32)) hC.1 hC.2.1 dX6_counted_10 (by decide) ?_
    exact r_iretE hC hw hF dX6_counted_11
  | some c3 =>
    obtain ⟨g4, hF⟩ := ifO (op1C hF)
    have g4 := Decidable.not_not.mp g4
    refine topC ?_
    refine lv_astore_n (lv' := [(2, .ref (ad G c3)), (0, .ref (ad G 0)), (1, .int x1)]) hC.1 hC.2.1 dX6_counted_5 rfl hl (by decide) rfl (fun ls hl => ?_)
    refine lv_aload_n hC.1 hC.2.1 dX6_counted_6 rfl (lv_at hl 0 rfl) ?_
    refine lv_ifnonnull (tgt := 12) hC.1 hC.2.1 dX6_counted_7 (by decide) ?_
    refine lv_aload_n hC.1 hC.2.1 dX6_counted_12 rfl (lv_at hl 1 rfl) ?_
    refine g6_north hC hw q1_195 dX6_counted_13 ?_
    refine g2_men hC hw (rfl : kd 24 = 11) q1_29 dX6_counted_16 ?_
    refine lv_if_ne (tgt := 25) hC.1 hC.2.1 dX6_counted_19 (by decide) (fun b5 => ?_) (fun b5 => ?_)
    · have hF := ifN hF b5
      refine lv_aload_n hC.1 hC.2.1 dX6_counted_25 rfl (lv_at hl 0 rfl) ?_
      refine g4_there hC hw g4 q1_162 dX6_counted_26 ?_
      refine lv_if_ne (tgt := 38) hC.1 hC.2.1 dX6_counted_29 (by decide) (fun b6 => ?_) (fun b6 => ?_)
      · have hF := ifN hF b6
        refine lv_aload_n hC.1 hC.2.1 dX6_counted_38 rfl (lv_at hl 0 rfl) ?_
        refine g4_size hC hw g4 q1_164 dX6_counted_39 ?_
        refine lv_aload_n hC.1 hC.2.1 dX6_counted_42 rfl (lv_at hl 1 rfl) ?_
        refine g6_north hC hw q1_195 dX6_counted_43 ?_
        refine g2_men hC hw (rfl : kd 24 = 11) q1_29 dX6_counted_46 ?_
        refine lv_icmp_eq (tgt := 58) hC.1 hC.2.1 dX6_counted_49 (by decide) (fun b7 => ?_) (fun b7 => ?_)
        · have hF := ifP hF b7
          refine lv_aload_n hC.1 hC.2.1 dX6_counted_58 rfl (lv_at hl 1 rfl) ?_
          refine g6_north hC hw q1_195 dX6_counted_59 ?_
          refine lv_aload_n hC.1 hC.2.1 dX6_counted_62 rfl (lv_at hl 1 rfl) ?_
          refine g6_ahead hC hw q1_205 dX6_counted_63 ?_
          obtain ⟨M9, h8, hF⟩ := ob1S hF
          refine k_Vv (As := [.ref (ad G 81)]) (rest := []) hC hw (c_X2_foreseeLiving (M := M) (rfl : kd 24 = 11) (rfl : kd 81 = 1) h8) (RC_N (rfl : kd 24 = 11)) yv_X2_foreseeLiving q3_3 ⟨rfl, rfl⟩ ⟨Nat.le_of_ble_eq_true rfl, Nat.le_of_ble_eq_true rfl⟩ ⟨Nat.zero_le _, Nat.zero_le _⟩ rfl rfl (Nat.le_of_ble_eq_true rfl) hl dX6_counted_66 (fun H locs hw => ?_)
          refine lv_iconst (v := (0 : Int32)) hC.1 hC.2.1 dX6_counted_69 (by decide) ?_
          refine lv_istore_n (lv' := [(3, .int (0 : Int32)), (2, .ref (ad G c3)), (0, .ref (ad G 0)), (1, .int x1)]) hC.1 hC.2.1 dX6_counted_70 rfl hl (by decide) rfl (fun ls hl => ?_)
          refine lv_iconst (v := (0 : Int32)) hC.1 hC.2.1 dX6_counted_71 (by decide) ?_
          refine lv_istore (lv' := [(4, .int (0 : Int32)), (3, .int (0 : Int32)), (2, .ref (ad G c3)), (0, .ref (ad G 0)), (1, .int x1)]) hC.1 hC.2.1 dX6_counted_72 hl (by decide) rfl (fun ls hl => ?_)
          refine lv_iconst (v := (0 : Int32)) hC.1 hC.2.1 dX6_counted_74 (by decide) ?_
          refine lv_istore (lv' := [(5, .int (0 : Int32)), (4, .int (0 : Int32)), (3, .int (0 : Int32)), (2, .ref (ad G c3)), (0, .ref (ad G 0)), (1, .int x1)]) hC.1 hC.2.1 dX6_counted_75 hl (by decide) rfl (fun ls hl => ?_)
          exact w_X6_counted_77 hC _ g4 hF hw (lv_sub hl [4, 3, 2, 1, 0] rfl)
        · have hF := ifN hF b7
          refine lv_aload_n hC.1 hC.2.1 dX6_counted_52 rfl (lv_at hl 1 rfl) ?_
          refine lv_iconst (v := (5 : Int32)) hC.1 hC.2.1 dX6_counted_53 (by decide) ?_
          obtain ⟨r11, M12, h10, hF⟩ := ob2S hF
          refine k_Vi (As := [.int (5 : Int32)]) (rest := []) hC hw (c_X6_found (M := M) h10) RC_S yv_X6_found q2_13 ⟨rfl, rfl⟩ ⟨Nat.le_of_ble_eq_true rfl, Nat.le_of_ble_eq_true rfl⟩ ⟨Nat.zero_le _, Nat.zero_le _⟩ rfl rfl (Nat.le_of_ble_eq_true rfl) hl dX6_counted_54 (fun H locs hw => ?_)
          exact r_iretE hC hw hF dX6_counted_57
      · have hF := ifP hF b6
        refine lv_aload_n hC.1 hC.2.1 dX6_counted_32 rfl (lv_at hl 1 rfl) ?_
        refine lv_iconst (v := (1 : Int32)) hC.1 hC.2.1 dX6_counted_33 (by decide) ?_
        obtain ⟨r14, M15, h13, hF⟩ := ob2S hF
        refine k_Vi (As := [.int (1 : Int32)]) (rest := []) hC hw (c_X6_found (M := M) h13) RC_S yv_X6_found q2_13 ⟨rfl, rfl⟩ ⟨Nat.le_of_ble_eq_true rfl, Nat.le_of_ble_eq_true rfl⟩ ⟨Nat.zero_le _, Nat.zero_le _⟩ rfl rfl (Nat.le_of_ble_eq_true rfl) hl dX6_counted_34 (fun H locs hw => ?_)
        exact r_iretE hC hw hF dX6_counted_37
    · have hF := ifP hF b5
      refine lv_bipush (v := (-4 : Int32)) hC.1 hC.2.1 dX6_counted_22 (by decide) ?_
      exact r_iretE hC hw hF dX6_counted_24
abbrev rm_X6_rights : Room := { frames := 3, cells := 0, slots := 0, locals := 67 }
theorem yv_X6_rights : YV yX6_rights cX6_rights 4 (some .int) 1 RX6 := ⟨⟨q3_33, q3_34, q1_1, q3_35⟩, by decide +kernel⟩
theorem dX6_rights_0 : decode cX6_rights 0 = .ok (.aload_n 0, 1) := by decide +kernel
theorem dX6_rights_1 : decode cX6_rights 1 = .ok (.getfield 24, 3) := by decide +kernel
theorem dX6_rights_4 : decode cX6_rights 4 = .ok (.iload_n 1, 1) := by decide +kernel
theorem dX6_rights_5 : decode cX6_rights 5 = .ok (.invokevirtual 249, 3) := by decide +kernel
theorem dX6_rights_8 : decode cX6_rights 8 = .ok (.ifCond .ne 5, 3) := by decide +kernel
theorem dX6_rights_11 : decode cX6_rights 11 = .ok (.iconst (-1), 1) := by decide +kernel
theorem dX6_rights_12 : decode cX6_rights 12 = .ok (.ireturn, 1) := by decide +kernel
theorem dX6_rights_13 : decode cX6_rights 13 = .ok (.iconst 0, 1) := by decide +kernel
theorem dX6_rights_14 : decode cX6_rights 14 = .ok (.istore_n 2, 1) := by decide +kernel
theorem dX6_rights_15 : decode cX6_rights 15 = .ok (.iconst 1, 1) := by decide +kernel
theorem dX6_rights_16 : decode cX6_rights 16 = .ok (.istore_n 3, 1) := by decide +kernel
theorem dX6_rights_17 : decode cX6_rights 17 = .ok (.iload_n 3, 1) := by decide +kernel
theorem dX6_rights_18 : decode cX6_rights 18 = .ok (.bipush 9, 2) := by decide +kernel
theorem dX6_rights_20 : decode cX6_rights 20 = .ok (.if_icmp .gt 27, 3) := by decide +kernel
theorem dX6_rights_23 : decode cX6_rights 23 = .ok (.aload_n 0, 1) := by decide +kernel
theorem dX6_rights_24 : decode cX6_rights 24 = .ok (.getfield 24, 3) := by decide +kernel
theorem dX6_rights_27 : decode cX6_rights 27 = .ok (.iload_n 3, 1) := by decide +kernel
theorem dX6_rights_28 : decode cX6_rights 28 = .ok (.invokevirtual 304, 3) := by decide +kernel
theorem dX6_rights_31 : decode cX6_rights 31 = .ok (.iload_n 1, 1) := by decide +kernel
theorem dX6_rights_32 : decode cX6_rights 32 = .ok (.if_icmp .ne 9, 3) := by decide +kernel
theorem dX6_rights_35 : decode cX6_rights 35 = .ok (.iload_n 2, 1) := by decide +kernel
theorem dX6_rights_36 : decode cX6_rights 36 = .ok (.iconst 1, 1) := by decide +kernel
theorem dX6_rights_37 : decode cX6_rights 37 = .ok (.iload_n 3, 1) := by decide +kernel
theorem dX6_rights_38 : decode cX6_rights 38 = .ok (.ishl, 1) := by decide +kernel
theorem dX6_rights_39 : decode cX6_rights 39 = .ok (.ior, 1) := by decide +kernel
theorem dX6_rights_40 : decode cX6_rights 40 = .ok (.istore_n 2, 1) := by decide +kernel
theorem dX6_rights_41 : decode cX6_rights 41 = .ok (.iinc 3 1, 3) := by decide +kernel
theorem dX6_rights_44 : decode cX6_rights 44 = .ok (.goto (-27), 3) := by decide +kernel
theorem dX6_rights_47 : decode cX6_rights 47 = .ok (.iload_n 2, 1) := by decide +kernel
theorem dX6_rights_48 : decode cX6_rights 48 = .ok (.ireturn, 1) := by decide +kernel
def F_X6_rights_17 (fu : Nat) (M : Mm) : Nat → Int32 → Int32 → Int32 → Option Int32
  | 0, _, _, _ => none
  | n + 1, x1, x2, x3 =>
    if (9 : Int32) < x3 then
      some x2
    else
      ob1 (F_X2_votersBy fu M 24 x3) (fun r3 =>
      if r3 = x1 then
        F_X6_rights_17 fu M n x1 (x2 ||| ((1 : Int32) <<< (x3 &&& 31))) (x3 + (1 : Int32))
      else
        F_X6_rights_17 fu M n x1 x2 (x3 + (1 : Int32)))
set_option maxRecDepth 100000 in
set_option maxHeartbeats 4000000 in
theorem w_X6_rights_17 {p : Program} {l : Launch} {e : Env} {s : State} {m : MethodId} {args : Array Value} {below : List Frame} {meth : Method} {c : Code} {G : Gv} (hC : Cx p s m args meth c cX6_rights 4 (some .int) RX6) {fu : Nat} {r : Int32} {M : Mm} : ∀ (n : Nat) {x1 : Int32} {x2 : Int32} {x3 : Int32} {H : Heap} {locs : List Loc} {ls : Array Slot}, F_X6_rights_17 fu M n x1 x2 x3 = some r → St G s H locs M → lv_has ls 4 [(0, .ref (ad G 0)), (1, .int x1), (2, .int x2), (3, .int x3)] → W p l e rm_X6_rights s m args below meth c H locs 0 0 (MQ below (QI G r M) args s 0 0 (zA G)) (F0 m 17 ls []) := by
  intro n
  induction n with
  | zero =>
    intro x1 x2 x3 H locs ls hF hw hl
    cases hF
  | succ n ih =>
    intro x1 x2 x3 H locs ls hF hw hl
    unfold F_X6_rights_17 at hF
    refine lv_iload_n hC.1 hC.2.1 dX6_rights_17 rfl (lv_at hl 3 rfl) ?_
    refine lv_bipush (v := (9 : Int32)) hC.1 hC.2.1 dX6_rights_18 (by decide) ?_
    refine lv_icmp_gt (tgt := 47) hC.1 hC.2.1 dX6_rights_20 (by decide) (fun b1 => ?_) (fun b1 => ?_)
    · have hF := ifP hF b1
      refine lv_iload_n hC.1 hC.2.1 dX6_rights_47 rfl (lv_at hl 2 rfl) ?_
      exact r_iretP hC hw hF dX6_rights_48
    · have hF := ifN hF b1
      refine lv_aload_n hC.1 hC.2.1 dX6_rights_23 rfl (lv_at hl 0 rfl) ?_
      refine g6_north hC hw q1_195 dX6_rights_24 ?_
      refine lv_iload_n hC.1 hC.2.1 dX6_rights_27 rfl (lv_at hl 3 rfl) ?_
      obtain ⟨r3, h2, hF⟩ := ob1S hF
      refine k_Vi (As := [.int x3]) (rest := []) hC hw (c_X2_votersBy (M := M) (rfl : kd 24 = 11) h2) (RC_N (rfl : kd 24 = 11)) yv_X2_votersBy q3_36 ⟨rfl, rfl⟩ ⟨Nat.le_of_ble_eq_true rfl, Nat.le_of_ble_eq_true rfl⟩ ⟨Nat.zero_le _, Nat.zero_le _⟩ rfl rfl (Nat.le_of_ble_eq_true rfl) hl dX6_rights_28 (fun H locs hw => ?_)
      refine lv_iload_n hC.1 hC.2.1 dX6_rights_31 rfl (lv_at hl 1 rfl) ?_
      refine lv_icmp_ne (tgt := 41) hC.1 hC.2.1 dX6_rights_32 (by decide) (fun b4 => ?_) (fun b4 => ?_)
      · have hF := ifN hF b4
        refine lv_iinc (v := (x3 + (1 : Int32))) (lv' := [(3, .int (x3 + (1 : Int32))), (0, .ref (ad G 0)), (1, .int x1), (2, .int x2)]) hC.1 hC.2.1 dX6_rights_41 hl (k := 3) rfl rfl (by decide) rfl (fun ls hl => ?_)
        refine lv_goto (tgt := 17) hC.1 hC.2.1 dX6_rights_44 (by decide) ?_
        exact ih hF hw (lv_sub hl [1, 2, 3, 0] rfl)
      · have hF := ifP hF b4
        refine lv_iload_n hC.1 hC.2.1 dX6_rights_35 rfl (lv_at hl 2 rfl) ?_
        refine lv_iconst (v := (1 : Int32)) hC.1 hC.2.1 dX6_rights_36 (by decide) ?_
        refine lv_iload_n hC.1 hC.2.1 dX6_rights_37 rfl (lv_at hl 3 rfl) ?_
        refine lv_ishl hC.1 hC.2.1 dX6_rights_38 ?_
        refine lv_ior hC.1 hC.2.1 dX6_rights_39 ?_
        refine lv_istore_n (lv' := [(2, .int (x2 ||| ((1 : Int32) <<< (x3 &&& 31)))), (0, .ref (ad G 0)), (1, .int x1), (3, .int x3)]) hC.1 hC.2.1 dX6_rights_40 rfl hl (by decide) rfl (fun ls hl => ?_)
        refine lv_iinc (v := (x3 + (1 : Int32))) (lv' := [(3, .int (x3 + (1 : Int32))), (2, .int (x2 ||| ((1 : Int32) <<< (x3 &&& 31)))), (0, .ref (ad G 0)), (1, .int x1)]) hC.1 hC.2.1 dX6_rights_41 hl (k := 3) rfl rfl (by decide) rfl (fun ls hl => ?_)
        refine lv_goto (tgt := 17) hC.1 hC.2.1 dX6_rights_44 (by decide) ?_
        exact ih hF hw (lv_sub hl [2, 3, 1, 0] rfl)
def F_X6_rights (fu : Nat) (M : Mm) (x1 : Int32) : Option Int32 :=
  ob1 (F_X2_isSet fu M 24 x1) (fun r2 =>
  if r2 = 0 then
    some (-1 : Int32)
  else
    F_X6_rights_17 fu M fu x1 (0 : Int32) (1 : Int32))
set_option maxRecDepth 100000 in
set_option maxHeartbeats 4000000 in
theorem c_X6_rights {l : Launch} {G : Gv} {fu : Nat} {M : Mm} {x1 : Int32} {r : Int32} (hF : F_X6_rights fu M x1 = some r) : Met l yX6_rights (.code yX6_rights cX6_rights 4 (some .int) :: zU) rm_X6_rights (va_Pc [.ref (ad G 0), .int x1] (Wd G M)) (QI G r M) 0 0 (zA G) := by
  refine zMet (by decide) rfl (Nat.le_of_ble_eq_true rfl) ?_
  intro p e s m below meth c hC hw ls hl
  have hl : lv_has ls 4 [(0, .ref (ad G 0)), (1, .int x1)] := hl
  unfold F_X6_rights at hF
  refine lv_aload_n hC.1 hC.2.1 dX6_rights_0 rfl (lv_at hl 0 rfl) ?_
  refine g6_north hC hw q1_195 dX6_rights_1 ?_
  refine lv_iload_n hC.1 hC.2.1 dX6_rights_4 rfl (lv_at hl 1 rfl) ?_
  obtain ⟨r2, h1, hF⟩ := ob1S hF
  refine k_Vi (As := [.int x1]) (rest := []) hC hw (c_X2_isSet (M := M) (rfl : kd 24 = 11) h1) (RC_N (rfl : kd 24 = 11)) yv_X2_isSet q2_195 ⟨rfl, rfl⟩ ⟨Nat.le_of_ble_eq_true rfl, Nat.le_of_ble_eq_true rfl⟩ ⟨Nat.zero_le _, Nat.zero_le _⟩ rfl rfl (Nat.le_of_ble_eq_true rfl) hl dX6_rights_5 (fun H locs hw => ?_)
  refine lv_if_ne (tgt := 13) hC.1 hC.2.1 dX6_rights_8 (by decide) (fun b3 => ?_) (fun b3 => ?_)
  · have hF := ifN hF b3
    refine lv_iconst (v := (0 : Int32)) hC.1 hC.2.1 dX6_rights_13 (by decide) ?_
    refine lv_istore_n (lv' := [(2, .int (0 : Int32)), (0, .ref (ad G 0)), (1, .int x1)]) hC.1 hC.2.1 dX6_rights_14 rfl hl (by decide) rfl (fun ls hl => ?_)
    refine lv_iconst (v := (1 : Int32)) hC.1 hC.2.1 dX6_rights_15 (by decide) ?_
    refine lv_istore_n (lv' := [(3, .int (1 : Int32)), (2, .int (0 : Int32)), (0, .ref (ad G 0)), (1, .int x1)]) hC.1 hC.2.1 dX6_rights_16 rfl hl (by decide) rfl (fun ls hl => ?_)
    exact w_X6_rights_17 hC _ hF hw (lv_sub hl [2, 3, 1, 0] rfl)
  · have hF := ifP hF b3
    refine lv_iconst (v := (-1 : Int32)) hC.1 hC.2.1 dX6_rights_11 (by decide) ?_
    exact r_iretP hC hw hF dX6_rights_12
abbrev rm_X6_commonDivisor : Room := { frames := 0, cells := 0, slots := 0, locals := 0 }
theorem ys_X6_commonDivisor : YS yX6_commonDivisor cX6_commonDivisor 7 (some .long) 2 := ⟨⟨q3_68, q1_1, q3_69⟩, by decide +kernel⟩
theorem dX6_commonDivisor_0 : decode cX6_commonDivisor 0 = .ok (.iconst 0, 1) := by decide +kernel
theorem dX6_commonDivisor_1 : decode cX6_commonDivisor 1 = .ok (.istore 4, 2) := by decide +kernel
theorem dX6_commonDivisor_3 : decode cX6_commonDivisor 3 = .ok (.iload 4, 2) := by decide +kernel
theorem dX6_commonDivisor_5 : decode cX6_commonDivisor 5 = .ok (.bipush 100, 2) := by decide +kernel
theorem dX6_commonDivisor_7 : decode cX6_commonDivisor 7 = .ok (.if_icmp .ge 25, 3) := by decide +kernel
theorem dX6_commonDivisor_10 : decode cX6_commonDivisor 10 = .ok (.lload_n 2, 1) := by decide +kernel
theorem dX6_commonDivisor_11 : decode cX6_commonDivisor 11 = .ok (.lconst 0, 1) := by decide +kernel
theorem dX6_commonDivisor_12 : decode cX6_commonDivisor 12 = .ok (.lcmp, 1) := by decide +kernel
theorem dX6_commonDivisor_13 : decode cX6_commonDivisor 13 = .ok (.ifCond .eq 19, 3) := by decide +kernel
theorem dX6_commonDivisor_16 : decode cX6_commonDivisor 16 = .ok (.lload_n 0, 1) := by decide +kernel
theorem dX6_commonDivisor_17 : decode cX6_commonDivisor 17 = .ok (.lload_n 2, 1) := by decide +kernel
theorem dX6_commonDivisor_18 : decode cX6_commonDivisor 18 = .ok (.lrem, 1) := by decide +kernel
theorem dX6_commonDivisor_19 : decode cX6_commonDivisor 19 = .ok (.lstore 5, 2) := by decide +kernel
theorem dX6_commonDivisor_21 : decode cX6_commonDivisor 21 = .ok (.lload_n 2, 1) := by decide +kernel
theorem dX6_commonDivisor_22 : decode cX6_commonDivisor 22 = .ok (.lstore_n 0, 1) := by decide +kernel
theorem dX6_commonDivisor_23 : decode cX6_commonDivisor 23 = .ok (.lload 5, 2) := by decide +kernel
theorem dX6_commonDivisor_25 : decode cX6_commonDivisor 25 = .ok (.lstore_n 2, 1) := by decide +kernel
theorem dX6_commonDivisor_26 : decode cX6_commonDivisor 26 = .ok (.iinc 4 1, 3) := by decide +kernel
theorem dX6_commonDivisor_29 : decode cX6_commonDivisor 29 = .ok (.goto (-26), 3) := by decide +kernel
theorem dX6_commonDivisor_32 : decode cX6_commonDivisor 32 = .ok (.lload_n 0, 1) := by decide +kernel
theorem dX6_commonDivisor_33 : decode cX6_commonDivisor 33 = .ok (.lreturn, 1) := by decide +kernel
def F_X6_commonDivisor_3 (fu : Nat) (M : Mm) : Nat → Int64 → Int64 → Int32 → Option Int64
  | 0, _, _, _ => none
  | n + 1, x0, x2, x4 =>
    if (100 : Int32) ≤ x4 then
      some x0
    else
      if (lg_cmp x2 (0 : Int64)) = 0 then
        some x0
      else
        if x2 = 0 then none else (
        F_X6_commonDivisor_3 fu M n x2 (x0 - x0 / x2 * x2) (x4 + (1 : Int32)))
set_option maxRecDepth 100000 in
set_option maxHeartbeats 4000000 in
theorem w_X6_commonDivisor_3 {p : Program} {l : Launch} {e : Env} {s : State} {m : MethodId} {args : Array Value} {below : List Frame} {meth : Method} {c : Code} {G : Gv} (hC : Cx p s m args meth c cX6_commonDivisor 7 (some .long) RX6) {fu : Nat} {r : Int64} {M : Mm} : ∀ (n : Nat) {x0 : Int64} {x2 : Int64} {x4 : Int32} {H : Heap} {locs : List Loc} {ls : Array Slot}, F_X6_commonDivisor_3 fu M n x0 x2 x4 = some r → St G s H locs M → lv_has ls 7 [(0, .long x0), (2, .long x2), (4, .int x4)] → W p l e rm_X6_commonDivisor s m args below meth c H locs 0 0 (MQ below (QL G r M) args s 0 0 (zA G)) (F0 m 3 ls []) := by
  intro n
  induction n with
  | zero =>
    intro x0 x2 x4 H locs ls hF hw hl
    cases hF
  | succ n ih =>
    intro x0 x2 x4 H locs ls hF hw hl
    unfold F_X6_commonDivisor_3 at hF
    refine lv_iload hC.1 hC.2.1 dX6_commonDivisor_3 (lv_at hl 2 rfl) ?_
    refine lv_bipush (v := (100 : Int32)) hC.1 hC.2.1 dX6_commonDivisor_5 (by decide) ?_
    refine lv_icmp_ge (tgt := 32) hC.1 hC.2.1 dX6_commonDivisor_7 (by decide) (fun b1 => ?_) (fun b1 => ?_)
    · have hF := ifP hF b1
      refine lv_lload_n hC.1 hC.2.1 dX6_commonDivisor_32 rfl (lv_at hl 0 rfl) ?_
      exact r_lretP hC hw hF dX6_commonDivisor_33
    · have hF := ifN hF b1
      refine lv_lload_n hC.1 hC.2.1 dX6_commonDivisor_10 rfl (lv_at hl 1 rfl) ?_
      refine lv_lconst (v := (0 : Int64)) hC.1 hC.2.1 dX6_commonDivisor_11 (by decide) ?_
      refine W.lcmp hC.1 hC.2.1 dX6_commonDivisor_12 ?_
      refine lv_if_eq (tgt := 32) hC.1 hC.2.1 dX6_commonDivisor_13 (by decide) (fun b2 => ?_) (fun b2 => ?_)
      · have hF := ifP hF b2
        refine lv_lload_n hC.1 hC.2.1 dX6_commonDivisor_32 rfl (lv_at hl 0 rfl) ?_
        exact r_lretP hC hw hF dX6_commonDivisor_33
      · have hF := ifN hF b2
        refine lv_lload_n hC.1 hC.2.1 dX6_commonDivisor_16 rfl (lv_at hl 0 rfl) ?_
        refine lv_lload_n hC.1 hC.2.1 dX6_commonDivisor_17 rfl (lv_at hl 1 rfl) ?_
        obtain ⟨n3, hF⟩ := ifO hF
        refine lv_lrem hC.1 hC.2.1 dX6_commonDivisor_18 n3 ?_
        refine lv_lstore (lv' := [(5, .long (x0 - x0 / x2 * x2)), (0, .long x0), (2, .long x2), (4, .int x4)]) hC.1 hC.2.1 dX6_commonDivisor_19 hl (by decide) rfl (fun ls hl => ?_)
        refine lv_lload_n hC.1 hC.2.1 dX6_commonDivisor_21 rfl (lv_at hl 2 rfl) ?_
        refine lv_lstore_n (lv' := [(0, .long x2), (5, .long (x0 - x0 / x2 * x2)), (2, .long x2), (4, .int x4)]) hC.1 hC.2.1 dX6_commonDivisor_22 rfl hl (by decide) rfl (fun ls hl => ?_)
        refine lv_lload hC.1 hC.2.1 dX6_commonDivisor_23 (lv_at hl 1 rfl) ?_
        refine lv_lstore_n (lv' := [(2, .long (x0 - x0 / x2 * x2)), (0, .long x2), (5, .long (x0 - x0 / x2 * x2)), (4, .int x4)]) hC.1 hC.2.1 dX6_commonDivisor_25 rfl hl (by decide) rfl (fun ls hl => ?_)
        refine lv_iinc (v := (x4 + (1 : Int32))) (lv' := [(4, .int (x4 + (1 : Int32))), (2, .long (x0 - x0 / x2 * x2)), (0, .long x2), (5, .long (x0 - x0 / x2 * x2))]) hC.1 hC.2.1 dX6_commonDivisor_26 hl (k := 3) rfl rfl (by decide) rfl (fun ls hl => ?_)
        refine lv_goto (tgt := 3) hC.1 hC.2.1 dX6_commonDivisor_29 (by decide) ?_
        exact ih hF hw (lv_sub hl [2, 1, 0] rfl)
def F_X6_commonDivisor (fu : Nat) (M : Mm) (x0 : Int64) (x2 : Int64) : Option Int64 :=
  F_X6_commonDivisor_3 fu M fu x0 x2 (0 : Int32)
set_option maxRecDepth 100000 in
set_option maxHeartbeats 4000000 in
theorem c_X6_commonDivisor {l : Launch} {G : Gv} {fu : Nat} {M : Mm} {x0 : Int64} {x2 : Int64} {r : Int64} (hF : F_X6_commonDivisor fu M x0 x2 = some r) : Met l yX6_commonDivisor (.code yX6_commonDivisor cX6_commonDivisor 7 (some .long) :: zU) rm_X6_commonDivisor (va_Pc [.long x0, .long x2] (Wd G M)) (QL G r M) 0 0 (zA G) := by
  refine zMet (by decide) rfl (Nat.le_of_ble_eq_true rfl) ?_
  intro p e s m below meth c hC hw ls hl
  have hl : lv_has ls 7 [(0, .long x0), (2, .long x2)] := hl
  unfold F_X6_commonDivisor at hF
  refine lv_iconst (v := (0 : Int32)) hC.1 hC.2.1 dX6_commonDivisor_0 (by decide) ?_
  refine lv_istore (lv' := [(4, .int (0 : Int32)), (0, .long x0), (2, .long x2)]) hC.1 hC.2.1 dX6_commonDivisor_1 hl (by decide) rfl (fun ls hl => ?_)
  exact w_X6_commonDivisor_3 hC _ hF hw (lv_sub hl [1, 2, 0] rfl)
abbrev rm_X6_tellChance : Room := { frames := 1, cells := 0, slots := 0, locals := 26 }
theorem yv_X6_tellChance : YV yX6_tellChance cX6_tellChance 7 none 2 RX6 := ⟨⟨q3_65, qs_18, q1_1, q3_66⟩, by decide +kernel⟩
theorem dX6_tellChance_0 : decode cX6_tellChance 0 = .ok (.lload_n 1, 1) := by decide +kernel
theorem dX6_tellChance_1 : decode cX6_tellChance 1 = .ok (.lload_n 3, 1) := by decide +kernel
theorem dX6_tellChance_2 : decode cX6_tellChance 2 = .ok (.invokestatic 359, 3) := by decide +kernel
theorem dX6_tellChance_5 : decode cX6_tellChance 5 = .ok (.lstore 5, 2) := by decide +kernel
theorem dX6_tellChance_7 : decode cX6_tellChance 7 = .ok (.lload 5, 2) := by decide +kernel
theorem dX6_tellChance_9 : decode cX6_tellChance 9 = .ok (.lconst 0, 1) := by decide +kernel
theorem dX6_tellChance_10 : decode cX6_tellChance 10 = .ok (.lcmp, 1) := by decide +kernel
theorem dX6_tellChance_11 : decode cX6_tellChance 11 = .ok (.ifCond .le 19, 3) := by decide +kernel
theorem dX6_tellChance_14 : decode cX6_tellChance 14 = .ok (.aload_n 0, 1) := by decide +kernel
theorem dX6_tellChance_15 : decode cX6_tellChance 15 = .ok (.lload_n 1, 1) := by decide +kernel
theorem dX6_tellChance_16 : decode cX6_tellChance 16 = .ok (.lload 5, 2) := by decide +kernel
theorem dX6_tellChance_18 : decode cX6_tellChance 18 = .ok (.ldiv, 1) := by decide +kernel
theorem dX6_tellChance_19 : decode cX6_tellChance 19 = .ok (.putfield 341, 3) := by decide +kernel
theorem dX6_tellChance_22 : decode cX6_tellChance 22 = .ok (.aload_n 0, 1) := by decide +kernel
theorem dX6_tellChance_23 : decode cX6_tellChance 23 = .ok (.lload_n 3, 1) := by decide +kernel
theorem dX6_tellChance_24 : decode cX6_tellChance 24 = .ok (.lload 5, 2) := by decide +kernel
theorem dX6_tellChance_26 : decode cX6_tellChance 26 = .ok (.ldiv, 1) := by decide +kernel
theorem dX6_tellChance_27 : decode cX6_tellChance 27 = .ok (.putfield 57, 3) := by decide +kernel
theorem dX6_tellChance_30 : decode cX6_tellChance 30 = .ok (.return_, 1) := by decide +kernel
def F_X6_tellChance (fu : Nat) (M : Mm) (x1 : Int64) (x3 : Int64) : Option Mm :=
  ob1 (F_X6_commonDivisor fu M x1 x3) (fun r2 =>
  if (lg_cmp r2 (0 : Int64)) ≤ 0 then
    some M
  else
    if r2 = 0 then none else (
    lt1 (pL M 0 10 (x1 / r2)) (fun M5 =>
    if r2 = 0 then none else (
    lt1 (pL M5 0 11 (x3 / r2)) (fun M7 =>
    some M7)))))
set_option maxRecDepth 100000 in
set_option maxHeartbeats 4000000 in
theorem c_X6_tellChance {l : Launch} {G : Gv} {fu : Nat} {M : Mm} {x1 : Int64} {x3 : Int64} {M' : Mm} (hF : F_X6_tellChance fu M x1 x3 = some M') : Met l yX6_tellChance (.code yX6_tellChance cX6_tellChance 7 none :: zU) rm_X6_tellChance (va_Pc [.ref (ad G 0), .long x1, .long x3] (Wd G M)) (QV G M') 0 0 (zA G) := by
  refine zMet (by decide) rfl (Nat.le_of_ble_eq_true rfl) ?_
  intro p e s m below meth c hC hw ls hl
  have hl : lv_has ls 7 [(0, .ref (ad G 0)), (1, .long x1), (3, .long x3)] := hl
  unfold F_X6_tellChance at hF
  refine lv_lload_n hC.1 hC.2.1 dX6_tellChance_0 rfl (lv_at hl 1 rfl) ?_
  refine lv_lload_n hC.1 hC.2.1 dX6_tellChance_1 rfl (lv_at hl 2 rfl) ?_
  obtain ⟨r2, h1, hF⟩ := ob1S hF
  refine k_Sl (As := [.long x1, .long x3]) (rest := []) hC hw (c_X6_commonDivisor (M := M) h1) ys_X6_commonDivisor q3_67 ⟨rfl, rfl⟩ ⟨Nat.le_of_ble_eq_true rfl, Nat.le_of_ble_eq_true rfl⟩ ⟨Nat.zero_le _, Nat.zero_le _⟩ rfl rfl (Nat.le_of_ble_eq_true rfl) hl dX6_tellChance_2 (fun H locs hw => ?_)
  refine lv_lstore (lv' := [(5, .long r2), (0, .ref (ad G 0)), (1, .long x1), (3, .long x3)]) hC.1 hC.2.1 dX6_tellChance_5 hl (by decide) rfl (fun ls hl => ?_)
  refine lv_lload hC.1 hC.2.1 dX6_tellChance_7 (lv_at hl 0 rfl) ?_
  refine lv_lconst (v := (0 : Int64)) hC.1 hC.2.1 dX6_tellChance_9 (by decide) ?_
  refine W.lcmp hC.1 hC.2.1 dX6_tellChance_10 ?_
  refine lv_if_le (tgt := 30) hC.1 hC.2.1 dX6_tellChance_11 (by decide) (fun b3 => ?_) (fun b3 => ?_)
  · have hF := ifP hF b3
    exact r_vretE hC hw hF dX6_tellChance_30
  · have hF := ifN hF b3
    refine lv_aload_n hC.1 hC.2.1 dX6_tellChance_14 rfl (lv_at hl 1 rfl) ?_
    refine lv_lload_n hC.1 hC.2.1 dX6_tellChance_15 rfl (lv_at hl 2 rfl) ?_
    refine lv_lload hC.1 hC.2.1 dX6_tellChance_16 (lv_at hl 0 rfl) ?_
    obtain ⟨n4, hF⟩ := ifO hF
    refine lv_ldiv hC.1 hC.2.1 dX6_tellChance_18 n4 ?_
    refine u6_upperNumber hC hw q1_203 dX6_tellChance_19 (fun H locs hw => ?_)
    obtain ⟨M5, hw, hF⟩ := lt1W hF hw
    refine lv_aload_n hC.1 hC.2.1 dX6_tellChance_22 rfl (lv_at hl 1 rfl) ?_
    refine lv_lload_n hC.1 hC.2.1 dX6_tellChance_23 rfl (lv_at hl 3 rfl) ?_
    refine lv_lload hC.1 hC.2.1 dX6_tellChance_24 (lv_at hl 0 rfl) ?_
    obtain ⟨n6, hF⟩ := ifO hF
    refine lv_ldiv hC.1 hC.2.1 dX6_tellChance_26 n6 ?_
    refine u6_lowerNumber hC hw q1_204 dX6_tellChance_27 (fun H locs hw => ?_)
    obtain ⟨M7, hw, hF⟩ := lt1W hF hw
    exact r_vretE hC hw hF dX6_tellChance_30
abbrev rm_X6_odds : Room := { frames := 4, cells := 0, slots := 0, locals := 101 }
theorem yv_X6_odds : YV yX6_odds cX6_odds 4 (some .int) 3 RX6 := ⟨⟨q3_38, q3_39, q1_1, q3_40⟩, by decide +kernel⟩
theorem dX6_odds_0 : decode cX6_odds 0 = .ok (.aload_n 0, 1) := by decide +kernel
theorem dX6_odds_1 : decode cX6_odds 1 = .ok (.getfield 24, 3) := by decide +kernel
theorem dX6_odds_4 : decode cX6_odds 4 = .ok (.iload_n 1, 1) := by decide +kernel
theorem dX6_odds_5 : decode cX6_odds 5 = .ok (.invokevirtual 155, 3) := by decide +kernel
theorem dX6_odds_8 : decode cX6_odds 8 = .ok (.ifCond .eq 23, 3) := by decide +kernel
theorem dX6_odds_11 : decode cX6_odds 11 = .ok (.iload_n 2, 1) := by decide +kernel
theorem dX6_odds_12 : decode cX6_odds 12 = .ok (.ifCond .lt 19, 3) := by decide +kernel
theorem dX6_odds_15 : decode cX6_odds 15 = .ok (.iload_n 2, 1) := by decide +kernel
theorem dX6_odds_16 : decode cX6_odds 16 = .ok (.bipush 8, 2) := by decide +kernel
theorem dX6_odds_18 : decode cX6_odds 18 = .ok (.if_icmp .gt 13, 3) := by decide +kernel
theorem dX6_odds_21 : decode cX6_odds 21 = .ok (.iload_n 3, 1) := by decide +kernel
theorem dX6_odds_22 : decode cX6_odds 22 = .ok (.ifCond .lt 9, 3) := by decide +kernel
theorem dX6_odds_25 : decode cX6_odds 25 = .ok (.iload_n 3, 1) := by decide +kernel
theorem dX6_odds_26 : decode cX6_odds 26 = .ok (.bipush 12, 2) := by decide +kernel
theorem dX6_odds_28 : decode cX6_odds 28 = .ok (.if_icmp .le 5, 3) := by decide +kernel
theorem dX6_odds_31 : decode cX6_odds 31 = .ok (.iconst (-1), 1) := by decide +kernel
theorem dX6_odds_32 : decode cX6_odds 32 = .ok (.ireturn, 1) := by decide +kernel
theorem dX6_odds_33 : decode cX6_odds 33 = .ok (.aload_n 0, 1) := by decide +kernel
theorem dX6_odds_34 : decode cX6_odds 34 = .ok (.getfield 49, 3) := by decide +kernel
theorem dX6_odds_37 : decode cX6_odds 37 = .ok (.aload_n 0, 1) := by decide +kernel
theorem dX6_odds_38 : decode cX6_odds 38 = .ok (.getfield 24, 3) := by decide +kernel
theorem dX6_odds_41 : decode cX6_odds 41 = .ok (.iload_n 1, 1) := by decide +kernel
theorem dX6_odds_42 : decode cX6_odds 42 = .ok (.iload_n 2, 1) := by decide +kernel
theorem dX6_odds_43 : decode cX6_odds 43 = .ok (.iload_n 3, 1) := by decide +kernel
theorem dX6_odds_44 : decode cX6_odds 44 = .ok (.invokevirtual 317, 3) := by decide +kernel
theorem dX6_odds_47 : decode cX6_odds 47 = .ok (.aload_n 0, 1) := by decide +kernel
theorem dX6_odds_48 : decode cX6_odds 48 = .ok (.aload_n 0, 1) := by decide +kernel
theorem dX6_odds_49 : decode cX6_odds 49 = .ok (.getfield 49, 3) := by decide +kernel
theorem dX6_odds_52 : decode cX6_odds 52 = .ok (.invokevirtual 321, 3) := by decide +kernel
theorem dX6_odds_55 : decode cX6_odds 55 = .ok (.aload_n 0, 1) := by decide +kernel
theorem dX6_odds_56 : decode cX6_odds 56 = .ok (.getfield 49, 3) := by decide +kernel
theorem dX6_odds_59 : decode cX6_odds 59 = .ok (.getfield 324, 3) := by decide +kernel
theorem dX6_odds_62 : decode cX6_odds 62 = .ok (.invokevirtual 327, 3) := by decide +kernel
theorem dX6_odds_65 : decode cX6_odds 65 = .ok (.iconst 1, 1) := by decide +kernel
theorem dX6_odds_66 : decode cX6_odds 66 = .ok (.ireturn, 1) := by decide +kernel
def F_X6_odds (fu : Nat) (M : Mm) (x1 : Int32) (x2 : Int32) (x3 : Int32) : Option (Int32 × Mm) :=
  ob1 (F_X2_isMan fu M 24 x1) (fun r2 =>
  if r2 = 0 then
    some ((-1 : Int32), M)
  else
    if x2 < 0 then
      some ((-1 : Int32), M)
    else
      if (8 : Int32) < x2 then
        some ((-1 : Int32), M)
      else
        if x3 < 0 then
          some ((-1 : Int32), M)
        else
          if x3 ≤ (12 : Int32) then
            ob1 (F_X0_weigh fu M 24 x1 x2 x3) (fun M9 =>
            ob1 (F_X0_waysToLast fu M9) (fun r11 =>
            ob1 (F_X6_tellChance fu M9 r11 (M9.2 77 2)) (fun M13 =>
            some ((1 : Int32), M13))))
          else
            some ((-1 : Int32), M))
set_option maxRecDepth 100000 in
set_option maxHeartbeats 4000000 in
theorem c_X6_odds {l : Launch} {G : Gv} {fu : Nat} {M : Mm} {x1 : Int32} {x2 : Int32} {x3 : Int32} {r : Int32} {M' : Mm} (hF : F_X6_odds fu M x1 x2 x3 = some (r, M')) : Met l yX6_odds (.code yX6_odds cX6_odds 4 (some .int) :: zU) rm_X6_odds (va_Pc [.ref (ad G 0), .int x1, .int x2, .int x3] (Wd G M)) (QI G r M') 0 0 (zA G) := by
  refine zMet (by decide) rfl (Nat.le_of_ble_eq_true rfl) ?_
  intro p e s m below meth c hC hw ls hl
  have hl : lv_has ls 4 [(0, .ref (ad G 0)), (1, .int x1), (2, .int x2), (3, .int x3)] := hl
  unfold F_X6_odds at hF
  refine lv_aload_n hC.1 hC.2.1 dX6_odds_0 rfl (lv_at hl 0 rfl) ?_
  refine g6_north hC hw q1_195 dX6_odds_1 ?_
  refine lv_iload_n hC.1 hC.2.1 dX6_odds_4 rfl (lv_at hl 1 rfl) ?_
  obtain ⟨r2, h1, hF⟩ := ob1S hF
  refine k_Vi (As := [.int x1]) (rest := []) hC hw (c_X2_isMan (M := M) (rfl : kd 24 = 11) h1) (RC_N (rfl : kd 24 = 11)) yv_X2_isMan q2_31 ⟨rfl, rfl⟩ ⟨Nat.le_of_ble_eq_true rfl, Nat.le_of_ble_eq_true rfl⟩ ⟨Nat.zero_le _, Nat.zero_le _⟩ rfl rfl (Nat.le_of_ble_eq_true rfl) hl dX6_odds_5 (fun H locs hw => ?_)
  refine lv_if_eq (tgt := 31) hC.1 hC.2.1 dX6_odds_8 (by decide) (fun b3 => ?_) (fun b3 => ?_)
  · have hF := ifP hF b3
    refine lv_iconst (v := (-1 : Int32)) hC.1 hC.2.1 dX6_odds_31 (by decide) ?_
    exact r_iretE hC hw hF dX6_odds_32
  · have hF := ifN hF b3
    refine lv_iload_n hC.1 hC.2.1 dX6_odds_11 rfl (lv_at hl 2 rfl) ?_
    refine lv_if_lt (tgt := 31) hC.1 hC.2.1 dX6_odds_12 (by decide) (fun b4 => ?_) (fun b4 => ?_)
    · have hF := ifP hF b4
      refine lv_iconst (v := (-1 : Int32)) hC.1 hC.2.1 dX6_odds_31 (by decide) ?_
      exact r_iretE hC hw hF dX6_odds_32
    · have hF := ifN hF b4
      refine lv_iload_n hC.1 hC.2.1 dX6_odds_15 rfl (lv_at hl 2 rfl) ?_
      refine lv_bipush (v := (8 : Int32)) hC.1 hC.2.1 dX6_odds_16 (by decide) ?_
      refine lv_icmp_gt (tgt := 31) hC.1 hC.2.1 dX6_odds_18 (by decide) (fun b5 => ?_) (fun b5 => ?_)
      · have hF := ifP hF b5
        refine lv_iconst (v := (-1 : Int32)) hC.1 hC.2.1 dX6_odds_31 (by decide) ?_
        exact r_iretE hC hw hF dX6_odds_32
      · have hF := ifN hF b5
        refine lv_iload_n hC.1 hC.2.1 dX6_odds_21 rfl (lv_at hl 3 rfl) ?_
        refine lv_if_lt (tgt := 31) hC.1 hC.2.1 dX6_odds_22 (by decide) (fun b6 => ?_) (fun b6 => ?_)
        · have hF := ifP hF b6
          refine lv_iconst (v := (-1 : Int32)) hC.1 hC.2.1 dX6_odds_31 (by decide) ?_
          exact r_iretE hC hw hF dX6_odds_32
        · have hF := ifN hF b6
          refine lv_iload_n hC.1 hC.2.1 dX6_odds_25 rfl (lv_at hl 3 rfl) ?_
          refine lv_bipush (v := (12 : Int32)) hC.1 hC.2.1 dX6_odds_26 (by decide) ?_
          refine lv_icmp_le (tgt := 33) hC.1 hC.2.1 dX6_odds_28 (by decide) (fun b7 => ?_) (fun b7 => ?_)
          · have hF := ifP hF b7
            refine lv_aload_n hC.1 hC.2.1 dX6_odds_33 rfl (lv_at hl 0 rfl) ?_
            refine g6_clouds hC hw q1_199 dX6_odds_34 ?_
            refine lv_aload_n hC.1 hC.2.1 dX6_odds_37 rfl (lv_at hl 0 rfl) ?_
            refine g6_north hC hw q1_195 dX6_odds_38 ?_
            refine lv_iload_n hC.1 hC.2.1 dX6_odds_41 rfl (lv_at hl 1 rfl) ?_
            refine lv_iload_n hC.1 hC.2.1 dX6_odds_42 rfl (lv_at hl 2 rfl) ?_
            refine lv_iload_n hC.1 hC.2.1 dX6_odds_43 rfl (lv_at hl 3 rfl) ?_
            obtain ⟨M9, h8, hF⟩ := ob1S hF
            refine k_Vv (As := [.ref (ad G 24), .int x1, .int x2, .int x3]) (rest := []) hC hw (c_X0_weigh (M := M) (rfl : kd 24 = 11) h8) RC_C yv_X0_weigh q3_41 ⟨rfl, rfl⟩ ⟨Nat.le_of_ble_eq_true rfl, Nat.le_of_ble_eq_true rfl⟩ ⟨Nat.zero_le _, Nat.zero_le _⟩ rfl rfl (Nat.le_of_ble_eq_true rfl) hl dX6_odds_44 (fun H locs hw => ?_)
            refine lv_aload_n hC.1 hC.2.1 dX6_odds_47 rfl (lv_at hl 0 rfl) ?_
            refine lv_aload_n hC.1 hC.2.1 dX6_odds_48 rfl (lv_at hl 0 rfl) ?_
            refine g6_clouds hC hw q1_199 dX6_odds_49 ?_
            obtain ⟨r11, h10, hF⟩ := ob1S hF
            refine k_Vl (As := []) (rest := [.ref (ad G 0)]) hC hw (c_X0_waysToLast (M := M9) h10) RC_C yv_X0_waysToLast q3_59 ⟨rfl, rfl⟩ ⟨Nat.le_of_ble_eq_true rfl, Nat.le_of_ble_eq_true rfl⟩ ⟨Nat.zero_le _, Nat.zero_le _⟩ rfl rfl (Nat.le_of_ble_eq_true rfl) hl dX6_odds_52 (fun H locs hw => ?_)
            refine lv_aload_n hC.1 hC.2.1 dX6_odds_55 rfl (lv_at hl 0 rfl) ?_
            refine g6_clouds hC hw q1_199 dX6_odds_56 ?_
            refine g0_allWays hC hw q1_147 dX6_odds_59 ?_
            obtain ⟨M13, h12, hF⟩ := ob1S hF
            refine k_Vv (As := [.long r11, .long (M9.2 77 2)]) (rest := []) hC hw (c_X6_tellChance (M := M9) h12) RC_S yv_X6_tellChance q3_63 ⟨rfl, rfl⟩ ⟨Nat.le_of_ble_eq_true rfl, Nat.le_of_ble_eq_true rfl⟩ ⟨Nat.zero_le _, Nat.zero_le _⟩ rfl rfl (Nat.le_of_ble_eq_true rfl) hl dX6_odds_62 (fun H locs hw => ?_)
            refine lv_iconst (v := (1 : Int32)) hC.1 hC.2.1 dX6_odds_65 (by decide) ?_
            exact r_iretE hC hw hF dX6_odds_66
          · have hF := ifN hF b7
            refine lv_iconst (v := (-1 : Int32)) hC.1 hC.2.1 dX6_odds_31 (by decide) ?_
            exact r_iretE hC hw hF dX6_odds_32
abbrev rm_X6_mid : Room := { frames := 4, cells := 0, slots := 0, locals := 101 }
theorem yv_X6_mid : YV yX6_mid cX6_mid 4 (some .int) 3 RX6 := ⟨⟨q3_71, q3_72, q1_1, q3_73⟩, by decide +kernel⟩
theorem dX6_mid_0 : decode cX6_mid 0 = .ok (.aload_n 0, 1) := by decide +kernel
theorem dX6_mid_1 : decode cX6_mid 1 = .ok (.getfield 24, 3) := by decide +kernel
theorem dX6_mid_4 : decode cX6_mid 4 = .ok (.iload_n 1, 1) := by decide +kernel
theorem dX6_mid_5 : decode cX6_mid 5 = .ok (.invokevirtual 155, 3) := by decide +kernel
theorem dX6_mid_8 : decode cX6_mid 8 = .ok (.ifCond .eq 23, 3) := by decide +kernel
theorem dX6_mid_11 : decode cX6_mid 11 = .ok (.iload_n 2, 1) := by decide +kernel
theorem dX6_mid_12 : decode cX6_mid 12 = .ok (.ifCond .lt 19, 3) := by decide +kernel
theorem dX6_mid_15 : decode cX6_mid 15 = .ok (.iload_n 2, 1) := by decide +kernel
theorem dX6_mid_16 : decode cX6_mid 16 = .ok (.bipush 8, 2) := by decide +kernel
theorem dX6_mid_18 : decode cX6_mid 18 = .ok (.if_icmp .gt 13, 3) := by decide +kernel
theorem dX6_mid_21 : decode cX6_mid 21 = .ok (.iload_n 3, 1) := by decide +kernel
theorem dX6_mid_22 : decode cX6_mid 22 = .ok (.ifCond .lt 9, 3) := by decide +kernel
theorem dX6_mid_25 : decode cX6_mid 25 = .ok (.iload_n 3, 1) := by decide +kernel
theorem dX6_mid_26 : decode cX6_mid 26 = .ok (.bipush 12, 2) := by decide +kernel
theorem dX6_mid_28 : decode cX6_mid 28 = .ok (.if_icmp .le 5, 3) := by decide +kernel
theorem dX6_mid_31 : decode cX6_mid 31 = .ok (.iconst (-1), 1) := by decide +kernel
theorem dX6_mid_32 : decode cX6_mid 32 = .ok (.ireturn, 1) := by decide +kernel
theorem dX6_mid_33 : decode cX6_mid 33 = .ok (.aload_n 0, 1) := by decide +kernel
theorem dX6_mid_34 : decode cX6_mid 34 = .ok (.getfield 49, 3) := by decide +kernel
theorem dX6_mid_37 : decode cX6_mid 37 = .ok (.aload_n 0, 1) := by decide +kernel
theorem dX6_mid_38 : decode cX6_mid 38 = .ok (.getfield 24, 3) := by decide +kernel
theorem dX6_mid_41 : decode cX6_mid 41 = .ok (.iload_n 1, 1) := by decide +kernel
theorem dX6_mid_42 : decode cX6_mid 42 = .ok (.iload_n 2, 1) := by decide +kernel
theorem dX6_mid_43 : decode cX6_mid 43 = .ok (.iload_n 3, 1) := by decide +kernel
theorem dX6_mid_44 : decode cX6_mid 44 = .ok (.invokevirtual 317, 3) := by decide +kernel
theorem dX6_mid_47 : decode cX6_mid 47 = .ok (.aload_n 0, 1) := by decide +kernel
theorem dX6_mid_48 : decode cX6_mid 48 = .ok (.aload_n 0, 1) := by decide +kernel
theorem dX6_mid_49 : decode cX6_mid 49 = .ok (.getfield 49, 3) := by decide +kernel
theorem dX6_mid_52 : decode cX6_mid 52 = .ok (.invokevirtual 331, 3) := by decide +kernel
theorem dX6_mid_55 : decode cX6_mid 55 = .ok (.aload_n 0, 1) := by decide +kernel
theorem dX6_mid_56 : decode cX6_mid 56 = .ok (.getfield 49, 3) := by decide +kernel
theorem dX6_mid_59 : decode cX6_mid 59 = .ok (.getfield 324, 3) := by decide +kernel
theorem dX6_mid_62 : decode cX6_mid 62 = .ok (.invokevirtual 327, 3) := by decide +kernel
theorem dX6_mid_65 : decode cX6_mid 65 = .ok (.iconst 1, 1) := by decide +kernel
theorem dX6_mid_66 : decode cX6_mid 66 = .ok (.ireturn, 1) := by decide +kernel
def F_X6_mid (fu : Nat) (M : Mm) (x1 : Int32) (x2 : Int32) (x3 : Int32) : Option (Int32 × Mm) :=
  ob1 (F_X2_isMan fu M 24 x1) (fun r2 =>
  if r2 = 0 then
    some ((-1 : Int32), M)
  else
    if x2 < 0 then
      some ((-1 : Int32), M)
    else
      if (8 : Int32) < x2 then
        some ((-1 : Int32), M)
      else
        if x3 < 0 then
          some ((-1 : Int32), M)
        else
          if x3 ≤ (12 : Int32) then
            ob1 (F_X0_weigh fu M 24 x1 x2 x3) (fun M9 =>
            ob1 (F_X0_bulkOfWays fu M9) (fun r11 =>
            ob1 (F_X6_tellChance fu M9 r11 (M9.2 77 2)) (fun M13 =>
            some ((1 : Int32), M13))))
          else
            some ((-1 : Int32), M))
set_option maxRecDepth 100000 in
set_option maxHeartbeats 4000000 in
theorem c_X6_mid {l : Launch} {G : Gv} {fu : Nat} {M : Mm} {x1 : Int32} {x2 : Int32} {x3 : Int32} {r : Int32} {M' : Mm} (hF : F_X6_mid fu M x1 x2 x3 = some (r, M')) : Met l yX6_mid (.code yX6_mid cX6_mid 4 (some .int) :: zU) rm_X6_mid (va_Pc [.ref (ad G 0), .int x1, .int x2, .int x3] (Wd G M)) (QI G r M') 0 0 (zA G) := by
  refine zMet (by decide) rfl (Nat.le_of_ble_eq_true rfl) ?_
  intro p e s m below meth c hC hw ls hl
  have hl : lv_has ls 4 [(0, .ref (ad G 0)), (1, .int x1), (2, .int x2), (3, .int x3)] := hl
  unfold F_X6_mid at hF
  refine lv_aload_n hC.1 hC.2.1 dX6_mid_0 rfl (lv_at hl 0 rfl) ?_
  refine g6_north hC hw q1_195 dX6_mid_1 ?_
  refine lv_iload_n hC.1 hC.2.1 dX6_mid_4 rfl (lv_at hl 1 rfl) ?_
  obtain ⟨r2, h1, hF⟩ := ob1S hF
  refine k_Vi (As := [.int x1]) (rest := []) hC hw (c_X2_isMan (M := M) (rfl : kd 24 = 11) h1) (RC_N (rfl : kd 24 = 11)) yv_X2_isMan q2_31 ⟨rfl, rfl⟩ ⟨Nat.le_of_ble_eq_true rfl, Nat.le_of_ble_eq_true rfl⟩ ⟨Nat.zero_le _, Nat.zero_le _⟩ rfl rfl (Nat.le_of_ble_eq_true rfl) hl dX6_mid_5 (fun H locs hw => ?_)
  refine lv_if_eq (tgt := 31) hC.1 hC.2.1 dX6_mid_8 (by decide) (fun b3 => ?_) (fun b3 => ?_)
  · have hF := ifP hF b3
    refine lv_iconst (v := (-1 : Int32)) hC.1 hC.2.1 dX6_mid_31 (by decide) ?_
    exact r_iretE hC hw hF dX6_mid_32
  · have hF := ifN hF b3
    refine lv_iload_n hC.1 hC.2.1 dX6_mid_11 rfl (lv_at hl 2 rfl) ?_
    refine lv_if_lt (tgt := 31) hC.1 hC.2.1 dX6_mid_12 (by decide) (fun b4 => ?_) (fun b4 => ?_)
    · have hF := ifP hF b4
      refine lv_iconst (v := (-1 : Int32)) hC.1 hC.2.1 dX6_mid_31 (by decide) ?_
      exact r_iretE hC hw hF dX6_mid_32
    · have hF := ifN hF b4
      refine lv_iload_n hC.1 hC.2.1 dX6_mid_15 rfl (lv_at hl 2 rfl) ?_
      refine lv_bipush (v := (8 : Int32)) hC.1 hC.2.1 dX6_mid_16 (by decide) ?_
      refine lv_icmp_gt (tgt := 31) hC.1 hC.2.1 dX6_mid_18 (by decide) (fun b5 => ?_) (fun b5 => ?_)
      · have hF := ifP hF b5
        refine lv_iconst (v := (-1 : Int32)) hC.1 hC.2.1 dX6_mid_31 (by decide) ?_
        exact r_iretE hC hw hF dX6_mid_32
      · have hF := ifN hF b5
        refine lv_iload_n hC.1 hC.2.1 dX6_mid_21 rfl (lv_at hl 3 rfl) ?_
        refine lv_if_lt (tgt := 31) hC.1 hC.2.1 dX6_mid_22 (by decide) (fun b6 => ?_) (fun b6 => ?_)
        · have hF := ifP hF b6
          refine lv_iconst (v := (-1 : Int32)) hC.1 hC.2.1 dX6_mid_31 (by decide) ?_
          exact r_iretE hC hw hF dX6_mid_32
        · have hF := ifN hF b6
          refine lv_iload_n hC.1 hC.2.1 dX6_mid_25 rfl (lv_at hl 3 rfl) ?_
          refine lv_bipush (v := (12 : Int32)) hC.1 hC.2.1 dX6_mid_26 (by decide) ?_
          refine lv_icmp_le (tgt := 33) hC.1 hC.2.1 dX6_mid_28 (by decide) (fun b7 => ?_) (fun b7 => ?_)
          · have hF := ifP hF b7
            refine lv_aload_n hC.1 hC.2.1 dX6_mid_33 rfl (lv_at hl 0 rfl) ?_
            refine g6_clouds hC hw q1_199 dX6_mid_34 ?_
            refine lv_aload_n hC.1 hC.2.1 dX6_mid_37 rfl (lv_at hl 0 rfl) ?_
            refine g6_north hC hw q1_195 dX6_mid_38 ?_
            refine lv_iload_n hC.1 hC.2.1 dX6_mid_41 rfl (lv_at hl 1 rfl) ?_
            refine lv_iload_n hC.1 hC.2.1 dX6_mid_42 rfl (lv_at hl 2 rfl) ?_
            refine lv_iload_n hC.1 hC.2.1 dX6_mid_43 rfl (lv_at hl 3 rfl) ?_
            obtain ⟨M9, h8, hF⟩ := ob1S hF
            refine k_Vv (As := [.ref (ad G 24), .int x1, .int x2, .int x3]) (rest := []) hC hw (c_X0_weigh (M := M) (rfl : kd 24 = 11) h8) RC_C yv_X0_weigh q3_41 ⟨rfl, rfl⟩ ⟨Nat.le_of_ble_eq_true rfl, Nat.le_of_ble_eq_true rfl⟩ ⟨Nat.zero_le _, Nat.zero_le _⟩ rfl rfl (Nat.le_of_ble_eq_true rfl) hl dX6_mid_44 (fun H locs hw => ?_)
            refine lv_aload_n hC.1 hC.2.1 dX6_mid_47 rfl (lv_at hl 0 rfl) ?_
            refine lv_aload_n hC.1 hC.2.1 dX6_mid_48 rfl (lv_at hl 0 rfl) ?_
            refine g6_clouds hC hw q1_199 dX6_mid_49 ?_
            obtain ⟨r11, h10, hF⟩ := ob1S hF
            refine k_Vl (As := []) (rest := [.ref (ad G 0)]) hC hw (c_X0_bulkOfWays (M := M9) h10) RC_C yv_X0_bulkOfWays q3_74 ⟨rfl, rfl⟩ ⟨Nat.le_of_ble_eq_true rfl, Nat.le_of_ble_eq_true rfl⟩ ⟨Nat.zero_le _, Nat.zero_le _⟩ rfl rfl (Nat.le_of_ble_eq_true rfl) hl dX6_mid_52 (fun H locs hw => ?_)
            refine lv_aload_n hC.1 hC.2.1 dX6_mid_55 rfl (lv_at hl 0 rfl) ?_
            refine g6_clouds hC hw q1_199 dX6_mid_56 ?_
            refine g0_allWays hC hw q1_147 dX6_mid_59 ?_
            obtain ⟨M13, h12, hF⟩ := ob1S hF
            refine k_Vv (As := [.long r11, .long (M9.2 77 2)]) (rest := []) hC hw (c_X6_tellChance (M := M9) h12) RC_S yv_X6_tellChance q3_63 ⟨rfl, rfl⟩ ⟨Nat.le_of_ble_eq_true rfl, Nat.le_of_ble_eq_true rfl⟩ ⟨Nat.zero_le _, Nat.zero_le _⟩ rfl rfl (Nat.le_of_ble_eq_true rfl) hl dX6_mid_62 (fun H locs hw => ?_)
            refine lv_iconst (v := (1 : Int32)) hC.1 hC.2.1 dX6_mid_65 (by decide) ?_
            exact r_iretE hC hw hF dX6_mid_66
          · have hF := ifN hF b7
            refine lv_iconst (v := (-1 : Int32)) hC.1 hC.2.1 dX6_mid_31 (by decide) ?_
            exact r_iretE hC hw hF dX6_mid_32
abbrev rm_X6_lots : Room := { frames := 6, cells := 0, slots := 0, locals := 143 }
theorem yv_X6_lots : YV yX6_lots cX6_lots 7 (some .int) 3 RX6 := ⟨⟨q3_79, q3_80, q1_1, q3_81⟩, by decide +kernel⟩
theorem dX6_lots_0 : decode cX6_lots 0 = .ok (.iload_n 1, 1) := by decide +kernel
theorem dX6_lots_1 : decode cX6_lots 1 = .ok (.iconst 1, 1) := by decide +kernel
theorem dX6_lots_2 : decode cX6_lots 2 = .ok (.if_icmp .lt 31, 3) := by decide +kernel
theorem dX6_lots_5 : decode cX6_lots 5 = .ok (.iload_n 1, 1) := by decide +kernel
theorem dX6_lots_6 : decode cX6_lots 6 = .ok (.bipush 20, 2) := by decide +kernel
theorem dX6_lots_8 : decode cX6_lots 8 = .ok (.if_icmp .gt 25, 3) := by decide +kernel
theorem dX6_lots_11 : decode cX6_lots 11 = .ok (.iload_n 2, 1) := by decide +kernel
theorem dX6_lots_12 : decode cX6_lots 12 = .ok (.ifCond .lt 21, 3) := by decide +kernel
theorem dX6_lots_15 : decode cX6_lots 15 = .ok (.iload_n 2, 1) := by decide +kernel
theorem dX6_lots_16 : decode cX6_lots 16 = .ok (.bipush 12, 2) := by decide +kernel
theorem dX6_lots_18 : decode cX6_lots 18 = .ok (.if_icmp .gt 15, 3) := by decide +kernel
theorem dX6_lots_21 : decode cX6_lots 21 = .ok (.iload_n 3, 1) := by decide +kernel
theorem dX6_lots_22 : decode cX6_lots 22 = .ok (.iconst 1, 1) := by decide +kernel
theorem dX6_lots_23 : decode cX6_lots 23 = .ok (.if_icmp .lt 10, 3) := by decide +kernel
theorem dX6_lots_26 : decode cX6_lots 26 = .ok (.iload_n 3, 1) := by decide +kernel
theorem dX6_lots_27 : decode cX6_lots 27 = .ok (.ldc_w 334, 3) := by decide +kernel
theorem dX6_lots_30 : decode cX6_lots 30 = .ok (.if_icmp .le 5, 3) := by decide +kernel
theorem dX6_lots_33 : decode cX6_lots 33 = .ok (.iconst (-1), 1) := by decide +kernel
theorem dX6_lots_34 : decode cX6_lots 34 = .ok (.ireturn, 1) := by decide +kernel
theorem dX6_lots_35 : decode cX6_lots 35 = .ok (.aload_n 0, 1) := by decide +kernel
theorem dX6_lots_36 : decode cX6_lots 36 = .ok (.getfield 24, 3) := by decide +kernel
theorem dX6_lots_39 : decode cX6_lots 39 = .ok (.getfield 152, 3) := by decide +kernel
theorem dX6_lots_42 : decode cX6_lots 42 = .ok (.ifCond .ne 6, 3) := by decide +kernel
theorem dX6_lots_45 : decode cX6_lots 45 = .ok (.bipush (-4), 2) := by decide +kernel
theorem dX6_lots_47 : decode cX6_lots 47 = .ok (.ireturn, 1) := by decide +kernel
theorem dX6_lots_48 : decode cX6_lots 48 = .ok (.aload_n 0, 1) := by decide +kernel
theorem dX6_lots_49 : decode cX6_lots 49 = .ok (.getfield 24, 3) := by decide +kernel
theorem dX6_lots_52 : decode cX6_lots 52 = .ok (.getfield 198, 3) := by decide +kernel
theorem dX6_lots_55 : decode cX6_lots 55 = .ok (.iload_n 1, 1) := by decide +kernel
theorem dX6_lots_56 : decode cX6_lots 56 = .ok (.iadd, 1) := by decide +kernel
theorem dX6_lots_57 : decode cX6_lots 57 = .ok (.bipush 60, 2) := by decide +kernel
theorem dX6_lots_59 : decode cX6_lots 59 = .ok (.if_icmp .le 6, 3) := by decide +kernel
theorem dX6_lots_62 : decode cX6_lots 62 = .ok (.bipush (-2), 2) := by decide +kernel
theorem dX6_lots_64 : decode cX6_lots 64 = .ok (.ireturn, 1) := by decide +kernel
theorem dX6_lots_65 : decode cX6_lots 65 = .ok (.iload_n 3, 1) := by decide +kernel
theorem dX6_lots_66 : decode cX6_lots 66 = .ok (.i2l, 1) := by decide +kernel
theorem dX6_lots_67 : decode cX6_lots 67 = .ok (.lstore 4, 2) := by decide +kernel
theorem dX6_lots_69 : decode cX6_lots 69 = .ok (.iconst 0, 1) := by decide +kernel
theorem dX6_lots_70 : decode cX6_lots 70 = .ok (.istore 6, 2) := by decide +kernel
theorem dX6_lots_72 : decode cX6_lots 72 = .ok (.iload 6, 2) := by decide +kernel
theorem dX6_lots_74 : decode cX6_lots 74 = .ok (.iload_n 1, 1) := by decide +kernel
theorem dX6_lots_75 : decode cX6_lots 75 = .ok (.if_icmp .ge 47, 3) := by decide +kernel
theorem dX6_lots_78 : decode cX6_lots 78 = .ok (.lload 4, 2) := by decide +kernel
theorem dX6_lots_80 : decode cX6_lots 80 = .ok (.ldc2_w 335, 3) := by decide +kernel
theorem dX6_lots_83 : decode cX6_lots 83 = .ok (.lmul, 1) := by decide +kernel
theorem dX6_lots_84 : decode cX6_lots 84 = .ok (.ldc2_w 337, 3) := by decide +kernel
theorem dX6_lots_87 : decode cX6_lots 87 = .ok (.lrem, 1) := by decide +kernel
theorem dX6_lots_88 : decode cX6_lots 88 = .ok (.lstore 4, 2) := by decide +kernel
theorem dX6_lots_90 : decode cX6_lots 90 = .ok (.aload_n 0, 1) := by decide +kernel
theorem dX6_lots_91 : decode cX6_lots 91 = .ok (.getfield 24, 3) := by decide +kernel
theorem dX6_lots_94 : decode cX6_lots 94 = .ok (.lload 4, 2) := by decide +kernel
theorem dX6_lots_96 : decode cX6_lots 96 = .ok (.ldc2_w 339, 3) := by decide +kernel
theorem dX6_lots_99 : decode cX6_lots 99 = .ok (.lrem, 1) := by decide +kernel
theorem dX6_lots_100 : decode cX6_lots 100 = .ok (.iload_n 2, 1) := by decide +kernel
theorem dX6_lots_101 : decode cX6_lots 101 = .ok (.i2l, 1) := by decide +kernel
theorem dX6_lots_102 : decode cX6_lots 102 = .ok (.lcmp, 1) := by decide +kernel
theorem dX6_lots_103 : decode cX6_lots 103 = .ok (.ifCond .ge 7, 3) := by decide +kernel
theorem dX6_lots_106 : decode cX6_lots 106 = .ok (.iconst 1, 1) := by decide +kernel
theorem dX6_lots_107 : decode cX6_lots 107 = .ok (.goto 4, 3) := by decide +kernel
theorem dX6_lots_110 : decode cX6_lots 110 = .ok (.iconst 0, 1) := by decide +kernel
theorem dX6_lots_111 : decode cX6_lots 111 = .ok (.iconst 0, 1) := by decide +kernel
theorem dX6_lots_112 : decode cX6_lots 112 = .ok (.iconst 0, 1) := by decide +kernel
theorem dX6_lots_113 : decode cX6_lots 113 = .ok (.invokevirtual 201, 3) := by decide +kernel
theorem dX6_lots_116 : decode cX6_lots 116 = .ok (.iinc 6 1, 3) := by decide +kernel
theorem dX6_lots_119 : decode cX6_lots 119 = .ok (.goto (-47), 3) := by decide +kernel
theorem dX6_lots_122 : decode cX6_lots 122 = .ok (.aload_n 0, 1) := by decide +kernel
theorem dX6_lots_123 : decode cX6_lots 123 = .ok (.getfield 24, 3) := by decide +kernel
theorem dX6_lots_126 : decode cX6_lots 126 = .ok (.invokevirtual 205, 3) := by decide +kernel
theorem dX6_lots_129 : decode cX6_lots 129 = .ok (.invokestatic 209, 3) := by decide +kernel
theorem dX6_lots_132 : decode cX6_lots 132 = .ok (.ireturn, 1) := by decide +kernel
def F_X6_lots_111 (fu : Nat) (k72 : Mm → Int32 → Int32 → Int64 → Int32 → Option (Int32 × Mm)) (M : Mm) (x1 : Int32) (x2 : Int32) (x4 : Int64) (x6 : Int32) (t1 : Int32) : Option (Int32 × Mm) :=
  ob1 (F_X2_act fu M 24 t1 (0 : Int32) (0 : Int32)) (fun M2 =>
  k72 M2 x1 x2 x4 (x6 + (1 : Int32)))
set_option maxRecDepth 100000 in
set_option maxHeartbeats 4000000 in
theorem w_X6_lots_111 {p : Program} {l : Launch} {e : Env} {s : State} {m : MethodId} {args : Array Value} {below : List Frame} {meth : Method} {c : Code} {G : Gv} (hC : Cx p s m args meth c cX6_lots 7 (some .int) RX6) {fu : Nat} {r : Int32} {M' : Mm} {k72 : Mm → Int32 → Int32 → Int64 → Int32 → Option (Int32 × Mm)} (hk_72 : ∀ {x1 : Int32} {x2 : Int32} {x4 : Int64} {x6 : Int32} {M : Mm} {H : Heap} {locs : List Loc} {ls : Array Slot}, k72 M x1 x2 x4 x6 = some (r, M') → St G s H locs M → lv_has ls 7 [(0, .ref (ad G 0)), (1, .int x1), (2, .int x2), (4, .long x4), (6, .int x6)] → W p l e rm_X6_lots s m args below meth c H locs 0 0 (MQ below (QI G r M') args s 0 0 (zA G)) (F0 m 72 ls [])) {x1 : Int32} {x2 : Int32} {x4 : Int64} {x6 : Int32} {t1 : Int32} {M : Mm} {H : Heap} {locs : List Loc} {ls : Array Slot} (hF : F_X6_lots_111 fu k72 M x1 x2 x4 x6 t1 = some (r, M')) (hw : St G s H locs M) (hl : lv_has ls 7 [(0, .ref (ad G 0)), (1, .int x1), (2, .int x2), (4, .long x4), (6, .int x6)]) : W p l e rm_X6_lots s m args below meth c H locs 0 0 (MQ below (QI G r M') args s 0 0 (zA G)) (F0 m 111 ls [.int t1, .ref (ad G 24)]) := by
  unfold F_X6_lots_111 at hF
  refine lv_iconst (v := (0 : Int32)) hC.1 hC.2.1 dX6_lots_111 (by decide) ?_
  refine lv_iconst (v := (0 : Int32)) hC.1 hC.2.1 dX6_lots_112 (by decide) ?_
  obtain ⟨M2, h1, hF⟩ := ob1S hF
  refine k_Vv (As := [.int t1, .int (0 : Int32), .int (0 : Int32)]) (rest := []) hC hw (c_X2_act (M := M) (rfl : kd 24 = 11) h1) (RC_N (rfl : kd 24 = 11)) yv_X2_act q2_67 ⟨rfl, rfl⟩ ⟨Nat.le_of_ble_eq_true rfl, Nat.le_of_ble_eq_true rfl⟩ ⟨Nat.zero_le _, Nat.zero_le _⟩ rfl rfl (Nat.le_of_ble_eq_true rfl) hl dX6_lots_113 (fun H locs hw => ?_)
  refine lv_iinc (v := (x6 + (1 : Int32))) (lv' := [(6, .int (x6 + (1 : Int32))), (0, .ref (ad G 0)), (1, .int x1), (2, .int x2), (4, .long x4)]) hC.1 hC.2.1 dX6_lots_116 hl (k := 4) rfl rfl (by decide) rfl (fun ls hl => ?_)
  refine lv_goto (tgt := 72) hC.1 hC.2.1 dX6_lots_119 (by decide) ?_
  exact hk_72 hF hw (lv_sub hl [1, 2, 3, 4, 0] rfl)
def F_X6_lots_72 (fu : Nat) : Nat → Mm → Int32 → Int32 → Int64 → Int32 → Option (Int32 × Mm)
  | 0, _, _, _, _, _ => none
  | n + 1, M, x1, x2, x4, x6 =>
    if x1 ≤ x6 then
      ob1 (F_X2_living fu M 24) (fun r3 =>
      ob1 (F_J6_bitCount_0f7a4 fu M r3) (fun r5 =>
      some (r5, M)))
    else
      lt1 ((x4 * (48271 : Int64)) - (x4 * (48271 : Int64)) / (2147483647 : Int64) * (2147483647 : Int64)) (fun y6 =>
      if 0 ≤ (lg_cmp (y6 - y6 / (12 : Int64) * (12 : Int64)) x2.toInt64) then
        F_X6_lots_111 fu (F_X6_lots_72 fu n) M x1 x2 y6 x6 (0 : Int32)
      else
        F_X6_lots_111 fu (F_X6_lots_72 fu n) M x1 x2 y6 x6 (1 : Int32))
set_option maxRecDepth 100000 in
set_option maxHeartbeats 4000000 in
theorem w_X6_lots_72 {p : Program} {l : Launch} {e : Env} {s : State} {m : MethodId} {args : Array Value} {below : List Frame} {meth : Method} {c : Code} {G : Gv} (hC : Cx p s m args meth c cX6_lots 7 (some .int) RX6) {fu : Nat} {r : Int32} {M' : Mm} : ∀ (n : Nat) {x1 : Int32} {x2 : Int32} {x4 : Int64} {x6 : Int32} {M : Mm} {H : Heap} {locs : List Loc} {ls : Array Slot}, F_X6_lots_72 fu n M x1 x2 x4 x6 = some (r, M') → St G s H locs M → lv_has ls 7 [(0, .ref (ad G 0)), (1, .int x1), (2, .int x2), (4, .long x4), (6, .int x6)] → W p l e rm_X6_lots s m args below meth c H locs 0 0 (MQ below (QI G r M') args s 0 0 (zA G)) (F0 m 72 ls []) := by
  intro n
  induction n with
  | zero =>
    intro x1 x2 x4 x6 M H locs ls hF hw hl
    cases hF
  | succ n ih =>
    intro x1 x2 x4 x6 M H locs ls hF hw hl
    unfold F_X6_lots_72 at hF
    refine lv_iload hC.1 hC.2.1 dX6_lots_72 (lv_at hl 4 rfl) ?_
    refine lv_iload_n hC.1 hC.2.1 dX6_lots_74 rfl (lv_at hl 1 rfl) ?_
    refine lv_icmp_ge (tgt := 122) hC.1 hC.2.1 dX6_lots_75 (by decide) (fun b1 => ?_) (fun b1 => ?_)
    · have hF := ifP hF b1
      refine lv_aload_n hC.1 hC.2.1 dX6_lots_122 rfl (lv_at hl 0 rfl) ?_
      refine g6_north hC hw q1_195 dX6_lots_123 ?_
      obtain ⟨r3, h2, hF⟩ := ob1S hF
      refine k_Vi (As := []) (rest := []) hC hw (c_X2_living (M := M) (rfl : kd 24 = 11) h2) (RC_N (rfl : kd 24 = 11)) yv_X2_living q2_94 ⟨rfl, rfl⟩ ⟨Nat.le_of_ble_eq_true rfl, Nat.le_of_ble_eq_true rfl⟩ ⟨Nat.zero_le _, Nat.zero_le _⟩ rfl rfl (Nat.le_of_ble_eq_true rfl) hl dX6_lots_126 (fun H locs hw => ?_)
      obtain ⟨r5, h4, hF⟩ := ob1S hF
      refine k_Si (As := [.int r3]) (rest := []) hC hw (c_J6_bitCount_0f7a4 (M := M) h4) ys_J6_bitCount_0f7a4 q2_98 ⟨rfl, rfl⟩ ⟨Nat.le_of_ble_eq_true rfl, Nat.le_of_ble_eq_true rfl⟩ ⟨Nat.zero_le _, Nat.zero_le _⟩ rfl rfl (Nat.le_of_ble_eq_true rfl) hl dX6_lots_129 (fun H locs hw => ?_)
      exact r_iretE hC hw hF dX6_lots_132
    · have hF := ifN hF b1
      refine lv_lload hC.1 hC.2.1 dX6_lots_78 (lv_at hl 3 rfl) ?_
      refine lv_ldc2 (v := (48271 : Int64)) hC.1 hC.2.1 hC.2.2.2.1 (hC.2.2.2.2.1 _ q3_83) dX6_lots_80 ?_
      refine lv_lmul hC.1 hC.2.1 dX6_lots_83 ?_
      refine lv_ldc2 (v := (2147483647 : Int64)) hC.1 hC.2.1 hC.2.2.2.1 (hC.2.2.2.2.1 _ q3_84) dX6_lots_84 ?_
      refine lv_lrem hC.1 hC.2.1 dX6_lots_87 (by decide) ?_
      refine lv_topl (fun y6 ey6 => ?_)
      have hF := lt1G hF ey6
      refine lv_lstore (lv' := [(4, .long y6), (0, .ref (ad G 0)), (1, .int x1), (2, .int x2), (6, .int x6)]) hC.1 hC.2.1 dX6_lots_88 hl (by decide) rfl (fun ls hl => ?_)
      refine lv_aload_n hC.1 hC.2.1 dX6_lots_90 rfl (lv_at hl 1 rfl) ?_
      refine g6_north hC hw q1_195 dX6_lots_91 ?_
      refine lv_lload hC.1 hC.2.1 dX6_lots_94 (lv_at hl 0 rfl) ?_
      refine lv_ldc2 (v := (12 : Int64)) hC.1 hC.2.1 hC.2.2.2.1 (hC.2.2.2.2.1 _ q3_85) dX6_lots_96 ?_
      refine lv_lrem hC.1 hC.2.1 dX6_lots_99 (by decide) ?_
      refine lv_iload_n hC.1 hC.2.1 dX6_lots_100 rfl (lv_at hl 3 rfl) ?_
      refine lv_i2l hC.1 hC.2.1 dX6_lots_101 rfl ?_
      refine W.lcmp hC.1 hC.2.1 dX6_lots_102 ?_
      refine lv_if_ge (tgt := 110) hC.1 hC.2.1 dX6_lots_103 (by decide) (fun b7 => ?_) (fun b7 => ?_)
      · have hF := ifP hF b7
        refine lv_iconst (v := (0 : Int32)) hC.1 hC.2.1 dX6_lots_110 (by decide) ?_
        exact w_X6_lots_111 hC (hk_72 := ih) hF hw (lv_sub hl [1, 2, 3, 0, 4] rfl)
      · have hF := ifN hF b7
        refine lv_iconst (v := (1 : Int32)) hC.1 hC.2.1 dX6_lots_106 (by decide) ?_
        refine lv_goto (tgt := 111) hC.1 hC.2.1 dX6_lots_107 (by decide) ?_
        exact w_X6_lots_111 hC (hk_72 := ih) hF hw (lv_sub hl [1, 2, 3, 0, 4] rfl)
def F_X6_lots (fu : Nat) (M : Mm) (x1 : Int32) (x2 : Int32) (x3 : Int32) : Option (Int32 × Mm) :=
  if x1 < (1 : Int32) then
    some ((-1 : Int32), M)
  else
    if (20 : Int32) < x1 then
      some ((-1 : Int32), M)
    else
      if x2 < 0 then
        some ((-1 : Int32), M)
      else
        if (12 : Int32) < x2 then
          some ((-1 : Int32), M)
        else
          if x3 < (1 : Int32) then
            some ((-1 : Int32), M)
          else
            if x3 ≤ (2147483646 : Int32) then
              if (M.1 24 0) = 0 then
                some ((-4 : Int32), M)
              else
                if ((M.1 24 3) + x1) ≤ (60 : Int32) then
                  F_X6_lots_72 fu fu M x1 x2 x3.toInt64 (0 : Int32)
                else
                  some ((-2 : Int32), M)
            else
              some ((-1 : Int32), M)
set_option maxRecDepth 100000 in
set_option maxHeartbeats 4000000 in
theorem c_X6_lots {l : Launch} {G : Gv} {fu : Nat} {M : Mm} {x1 : Int32} {x2 : Int32} {x3 : Int32} {r : Int32} {M' : Mm} (hF : F_X6_lots fu M x1 x2 x3 = some (r, M')) : Met l yX6_lots (.code yX6_lots cX6_lots 7 (some .int) :: zU) rm_X6_lots (va_Pc [.ref (ad G 0), .int x1, .int x2, .int x3] (Wd G M)) (QI G r M') 0 0 (zA G) := by
  refine zMet (by decide) rfl (Nat.le_of_ble_eq_true rfl) ?_
  intro p e s m below meth c hC hw ls hl
  have hl : lv_has ls 7 [(0, .ref (ad G 0)), (1, .int x1), (2, .int x2), (3, .int x3)] := hl
  unfold F_X6_lots at hF
  refine lv_iload_n hC.1 hC.2.1 dX6_lots_0 rfl (lv_at hl 1 rfl) ?_
  refine lv_iconst (v := (1 : Int32)) hC.1 hC.2.1 dX6_lots_1 (by decide) ?_
  refine lv_icmp_lt (tgt := 33) hC.1 hC.2.1 dX6_lots_2 (by decide) (fun b1 => ?_) (fun b1 => ?_)
  · have hF := ifP hF b1
    refine lv_iconst (v := (-1 : Int32)) hC.1 hC.2.1 dX6_lots_33 (by decide) ?_
    exact r_iretE hC hw hF dX6_lots_34
  · have hF := ifN hF b1
    refine lv_iload_n hC.1 hC.2.1 dX6_lots_5 rfl (lv_at hl 1 rfl) ?_
    refine lv_bipush (v := (20 : Int32)) hC.1 hC.2.1 dX6_lots_6 (by decide) ?_
    refine lv_icmp_gt (tgt := 33) hC.1 hC.2.1 dX6_lots_8 (by decide) (fun b2 => ?_) (fun b2 => ?_)
    · have hF := ifP hF b2
      refine lv_iconst (v := (-1 : Int32)) hC.1 hC.2.1 dX6_lots_33 (by decide) ?_
      exact r_iretE hC hw hF dX6_lots_34
    · have hF := ifN hF b2
      refine lv_iload_n hC.1 hC.2.1 dX6_lots_11 rfl (lv_at hl 2 rfl) ?_
      refine lv_if_lt (tgt := 33) hC.1 hC.2.1 dX6_lots_12 (by decide) (fun b3 => ?_) (fun b3 => ?_)
      · have hF := ifP hF b3
        refine lv_iconst (v := (-1 : Int32)) hC.1 hC.2.1 dX6_lots_33 (by decide) ?_
        exact r_iretE hC hw hF dX6_lots_34
      · have hF := ifN hF b3
        refine lv_iload_n hC.1 hC.2.1 dX6_lots_15 rfl (lv_at hl 2 rfl) ?_
        refine lv_bipush (v := (12 : Int32)) hC.1 hC.2.1 dX6_lots_16 (by decide) ?_
        refine lv_icmp_gt (tgt := 33) hC.1 hC.2.1 dX6_lots_18 (by decide) (fun b4 => ?_) (fun b4 => ?_)
        · have hF := ifP hF b4
          refine lv_iconst (v := (-1 : Int32)) hC.1 hC.2.1 dX6_lots_33 (by decide) ?_
          exact r_iretE hC hw hF dX6_lots_34
        · have hF := ifN hF b4
          refine lv_iload_n hC.1 hC.2.1 dX6_lots_21 rfl (lv_at hl 3 rfl) ?_
          refine lv_iconst (v := (1 : Int32)) hC.1 hC.2.1 dX6_lots_22 (by decide) ?_
          refine lv_icmp_lt (tgt := 33) hC.1 hC.2.1 dX6_lots_23 (by decide) (fun b5 => ?_) (fun b5 => ?_)
          · have hF := ifP hF b5
            refine lv_iconst (v := (-1 : Int32)) hC.1 hC.2.1 dX6_lots_33 (by decide) ?_
            exact r_iretE hC hw hF dX6_lots_34
          · have hF := ifN hF b5
            refine lv_iload_n hC.1 hC.2.1 dX6_lots_26 rfl (lv_at hl 3 rfl) ?_
            refine lv_ldcw (v := (2147483646 : Int32)) hC.1 hC.2.1 hC.2.2.2.1 (hC.2.2.2.2.1 _ q3_82) dX6_lots_27 ?_
            refine lv_icmp_le (tgt := 35) hC.1 hC.2.1 dX6_lots_30 (by decide) (fun b6 => ?_) (fun b6 => ?_)
            · have hF := ifP hF b6
              refine lv_aload_n hC.1 hC.2.1 dX6_lots_35 rfl (lv_at hl 0 rfl) ?_
              refine g6_north hC hw q1_195 dX6_lots_36 ?_
              refine g2_men hC hw (rfl : kd 24 = 11) q1_29 dX6_lots_39 ?_
              refine lv_if_ne (tgt := 48) hC.1 hC.2.1 dX6_lots_42 (by decide) (fun b7 => ?_) (fun b7 => ?_)
              · have hF := ifN hF b7
                refine lv_aload_n hC.1 hC.2.1 dX6_lots_48 rfl (lv_at hl 0 rfl) ?_
                refine g6_north hC hw q1_195 dX6_lots_49 ?_
                refine g2_deeds hC hw (rfl : kd 24 = 11) q1_35 dX6_lots_52 ?_
                refine lv_iload_n hC.1 hC.2.1 dX6_lots_55 rfl (lv_at hl 1 rfl) ?_
                refine lv_iadd hC.1 hC.2.1 dX6_lots_56 ?_
                refine lv_bipush (v := (60 : Int32)) hC.1 hC.2.1 dX6_lots_57 (by decide) ?_
                refine lv_icmp_le (tgt := 65) hC.1 hC.2.1 dX6_lots_59 (by decide) (fun b8 => ?_) (fun b8 => ?_)
                · have hF := ifP hF b8
                  refine lv_iload_n hC.1 hC.2.1 dX6_lots_65 rfl (lv_at hl 3 rfl) ?_
                  refine lv_i2l hC.1 hC.2.1 dX6_lots_66 rfl ?_
                  refine lv_lstore (lv' := [(4, .long x3.toInt64), (0, .ref (ad G 0)), (1, .int x1), (2, .int x2), (3, .int x3)]) hC.1 hC.2.1 dX6_lots_67 hl (by decide) rfl (fun ls hl => ?_)
                  refine lv_iconst (v := (0 : Int32)) hC.1 hC.2.1 dX6_lots_69 (by decide) ?_
                  refine lv_istore (lv' := [(6, .int (0 : Int32)), (4, .long x3.toInt64), (0, .ref (ad G 0)), (1, .int x1), (2, .int x2), (3, .int x3)]) hC.1 hC.2.1 dX6_lots_70 hl (by decide) rfl (fun ls hl => ?_)
                  exact w_X6_lots_72 hC _ hF hw (lv_sub hl [2, 3, 4, 1, 0] rfl)
                · have hF := ifN hF b8
                  refine lv_bipush (v := (-2 : Int32)) hC.1 hC.2.1 dX6_lots_62 (by decide) ?_
                  exact r_iretE hC hw hF dX6_lots_64
              · have hF := ifP hF b7
                refine lv_bipush (v := (-4 : Int32)) hC.1 hC.2.1 dX6_lots_45 (by decide) ?_
                exact r_iretE hC hw hF dX6_lots_47
            · have hF := ifN hF b6
              refine lv_iconst (v := (-1 : Int32)) hC.1 hC.2.1 dX6_lots_33 (by decide) ?_
              exact r_iretE hC hw hF dX6_lots_34
abbrev rm_X6_asked : Room := { frames := 0, cells := 0, slots := 0, locals := 0 }
theorem yv_X6_asked : YV yX6_asked cX6_asked 1 (some .int) 0 RX6 := ⟨⟨q3_87, q3_88, q1_1, q3_89⟩, by decide +kernel⟩
theorem dX6_asked_0 : decode cX6_asked 0 = .ok (.aload_n 0, 1) := by decide +kernel
theorem dX6_asked_1 : decode cX6_asked 1 = .ok (.getfield 220, 3) := by decide +kernel
theorem dX6_asked_4 : decode cX6_asked 4 = .ok (.ireturn, 1) := by decide +kernel
def F_X6_asked (fu : Nat) (M : Mm) : Option Int32 :=
  some (M.1 0 9)
set_option maxRecDepth 100000 in
set_option maxHeartbeats 4000000 in
theorem c_X6_asked {l : Launch} {G : Gv} {fu : Nat} {M : Mm} {r : Int32} (hF : F_X6_asked fu M = some r) : Met l yX6_asked (.code yX6_asked cX6_asked 1 (some .int) :: zU) rm_X6_asked (va_Pc [.ref (ad G 0)] (Wd G M)) (QI G r M) 0 0 (zA G) := by
  refine zMet (by decide) rfl (Nat.le_of_ble_eq_true rfl) ?_
  intro p e s m below meth c hC hw ls hl
  have hl : lv_has ls 1 [(0, .ref (ad G 0))] := hl
  unfold F_X6_asked at hF
  refine lv_aload_n hC.1 hC.2.1 dX6_asked_0 rfl (lv_at hl 0 rfl) ?_
  refine g6_told hC hw q1_202 dX6_asked_1 ?_
  exact r_iretP hC hw hF dX6_asked_4
abbrev rm_X6_upper : Room := { frames := 0, cells := 0, slots := 0, locals := 0 }
theorem yv_X6_upper : YV yX6_upper cX6_upper 1 (some .long) 0 RX6 := ⟨⟨q3_91, q3_92, q1_1, q3_93⟩, by decide +kernel⟩
theorem dX6_upper_0 : decode cX6_upper 0 = .ok (.aload_n 0, 1) := by decide +kernel
theorem dX6_upper_1 : decode cX6_upper 1 = .ok (.getfield 341, 3) := by decide +kernel
theorem dX6_upper_4 : decode cX6_upper 4 = .ok (.lreturn, 1) := by decide +kernel
def F_X6_upper (fu : Nat) (M : Mm) : Option Int64 :=
  some (M.2 0 10)
set_option maxRecDepth 100000 in
set_option maxHeartbeats 4000000 in
theorem c_X6_upper {l : Launch} {G : Gv} {fu : Nat} {M : Mm} {r : Int64} (hF : F_X6_upper fu M = some r) : Met l yX6_upper (.code yX6_upper cX6_upper 1 (some .long) :: zU) rm_X6_upper (va_Pc [.ref (ad G 0)] (Wd G M)) (QL G r M) 0 0 (zA G) := by
  refine zMet (by decide) rfl (Nat.le_of_ble_eq_true rfl) ?_
  intro p e s m below meth c hC hw ls hl
  have hl : lv_has ls 1 [(0, .ref (ad G 0))] := hl
  unfold F_X6_upper at hF
  refine lv_aload_n hC.1 hC.2.1 dX6_upper_0 rfl (lv_at hl 0 rfl) ?_
  refine g6_upperNumber hC hw q1_203 dX6_upper_1 ?_
  exact r_lretP hC hw hF dX6_upper_4
abbrev rm_X6_lower : Room := { frames := 0, cells := 0, slots := 0, locals := 0 }
theorem yv_X6_lower : YV yX6_lower cX6_lower 1 (some .long) 0 RX6 := ⟨⟨q3_95, q3_96, q1_1, q3_97⟩, by decide +kernel⟩
theorem dX6_lower_0 : decode cX6_lower 0 = .ok (.aload_n 0, 1) := by decide +kernel
theorem dX6_lower_1 : decode cX6_lower 1 = .ok (.getfield 57, 3) := by decide +kernel
theorem dX6_lower_4 : decode cX6_lower 4 = .ok (.lreturn, 1) := by decide +kernel
def F_X6_lower (fu : Nat) (M : Mm) : Option Int64 :=
  some (M.2 0 11)
set_option maxRecDepth 100000 in
set_option maxHeartbeats 4000000 in
theorem c_X6_lower {l : Launch} {G : Gv} {fu : Nat} {M : Mm} {r : Int64} (hF : F_X6_lower fu M = some r) : Met l yX6_lower (.code yX6_lower cX6_lower 1 (some .long) :: zU) rm_X6_lower (va_Pc [.ref (ad G 0)] (Wd G M)) (QL G r M) 0 0 (zA G) := by
  refine zMet (by decide) rfl (Nat.le_of_ble_eq_true rfl) ?_
  intro p e s m below meth c hC hw ls hl
  have hl : lv_has ls 1 [(0, .ref (ad G 0))] := hl
  unfold F_X6_lower at hF
  refine lv_aload_n hC.1 hC.2.1 dX6_lower_0 rfl (lv_at hl 0 rfl) ?_
  refine g6_lowerNumber hC hw q1_204 dX6_lower_1 ?_
  exact r_lretP hC hw hF dX6_lower_4
abbrev rm_X6_rowsThere : Room := { frames := 1, cells := 0, slots := 0, locals := 21 }
theorem yv_X6_rowsThere : YV yX6_rowsThere cX6_rowsThere 4 (some .int) 0 RX6 := ⟨⟨q3_119, qs_20, q1_1, q3_120⟩, by decide +kernel⟩
theorem dX6_rowsThere_0 : decode cX6_rowsThere 0 = .ok (.iconst 0, 1) := by decide +kernel
theorem dX6_rowsThere_1 : decode cX6_rowsThere 1 = .ok (.istore_n 1, 1) := by decide +kernel
theorem dX6_rowsThere_2 : decode cX6_rowsThere 2 = .ok (.iconst 0, 1) := by decide +kernel
theorem dX6_rowsThere_3 : decode cX6_rowsThere 3 = .ok (.istore_n 2, 1) := by decide +kernel
theorem dX6_rowsThere_4 : decode cX6_rowsThere 4 = .ok (.iload_n 2, 1) := by decide +kernel
theorem dX6_rowsThere_5 : decode cX6_rowsThere 5 = .ok (.bipush 6, 2) := by decide +kernel
theorem dX6_rowsThere_7 : decode cX6_rowsThere 7 = .ok (.if_icmp .ge 29, 3) := by decide +kernel
theorem dX6_rowsThere_10 : decode cX6_rowsThere 10 = .ok (.aload_n 0, 1) := by decide +kernel
theorem dX6_rowsThere_11 : decode cX6_rowsThere 11 = .ok (.iload_n 2, 1) := by decide +kernel
theorem dX6_rowsThere_12 : decode cX6_rowsThere 12 = .ok (.invokevirtual 78, 3) := by decide +kernel
theorem dX6_rowsThere_15 : decode cX6_rowsThere 15 = .ok (.astore_n 3, 1) := by decide +kernel
theorem dX6_rowsThere_16 : decode cX6_rowsThere 16 = .ok (.aload_n 3, 1) := by decide +kernel
theorem dX6_rowsThere_17 : decode cX6_rowsThere 17 = .ok (.ifnull 13, 3) := by decide +kernel
theorem dX6_rowsThere_20 : decode cX6_rowsThere 20 = .ok (.aload_n 3, 1) := by decide +kernel
theorem dX6_rowsThere_21 : decode cX6_rowsThere 21 = .ok (.getfield 90, 3) := by decide +kernel
theorem dX6_rowsThere_24 : decode cX6_rowsThere 24 = .ok (.ifCond .eq 6, 3) := by decide +kernel
theorem dX6_rowsThere_27 : decode cX6_rowsThere 27 = .ok (.iinc 1 1, 3) := by decide +kernel
theorem dX6_rowsThere_30 : decode cX6_rowsThere 30 = .ok (.iinc 2 1, 3) := by decide +kernel
theorem dX6_rowsThere_33 : decode cX6_rowsThere 33 = .ok (.goto (-29), 3) := by decide +kernel
theorem dX6_rowsThere_36 : decode cX6_rowsThere 36 = .ok (.iload_n 1, 1) := by decide +kernel
theorem dX6_rowsThere_37 : decode cX6_rowsThere 37 = .ok (.ireturn, 1) := by decide +kernel
def F_X6_rowsThere_4 (fu : Nat) (M : Mm) : Nat → Int32 → Int32 → Option Int32
  | 0, _, _ => none
  | n + 1, x1, x2 =>
    if (6 : Int32) ≤ x2 then
      some x1
    else
      ob1 (F_X6_rowOf fu M x2) (fun r3 =>
      op1 r3 (
        F_X6_rowsThere_4 fu M n x1 (x2 + (1 : Int32))) (fun c4 =>
        if ¬ kd c4 = 12 then none else (
        if (M.1 c4 0) = 0 then
          F_X6_rowsThere_4 fu M n x1 (x2 + (1 : Int32))
        else
          F_X6_rowsThere_4 fu M n (x1 + (1 : Int32)) (x2 + (1 : Int32)))))
set_option maxRecDepth 100000 in
set_option maxHeartbeats 4000000 in
theorem w_X6_rowsThere_4 {p : Program} {l : Launch} {e : Env} {s : State} {m : MethodId} {args : Array Value} {below : List Frame} {meth : Method} {c : Code} {G : Gv} (hC : Cx p s m args meth c cX6_rowsThere 4 (some .int) RX6) {fu : Nat} {r : Int32} {M : Mm} : ∀ (n : Nat) {x1 : Int32} {x2 : Int32} {H : Heap} {locs : List Loc} {ls : Array Slot}, F_X6_rowsThere_4 fu M n x1 x2 = some r → St G s H locs M → lv_has ls 4 [(0, .ref (ad G 0)), (1, .int x1), (2, .int x2)] → W p l e rm_X6_rowsThere s m args below meth c H locs 0 0 (MQ below (QI G r M) args s 0 0 (zA G)) (F0 m 4 ls []) := by
  intro n
  induction n with
  | zero =>
    intro x1 x2 H locs ls hF hw hl
    cases hF
  | succ n ih =>
    intro x1 x2 H locs ls hF hw hl
    unfold F_X6_rowsThere_4 at hF
    refine lv_iload_n hC.1 hC.2.1 dX6_rowsThere_4 rfl (lv_at hl 2 rfl) ?_
    refine lv_bipush (v := (6 : Int32)) hC.1 hC.2.1 dX6_rowsThere_5 (by decide) ?_
    refine lv_icmp_ge (tgt := 36) hC.1 hC.2.1 dX6_rowsThere_7 (by decide) (fun b1 => ?_) (fun b1 => ?_)
    · have hF := ifP hF b1
      refine lv_iload_n hC.1 hC.2.1 dX6_rowsThere_36 rfl (lv_at hl 1 rfl) ?_
      exact r_iretP hC hw hF dX6_rowsThere_37
    · have hF := ifN hF b1
      refine lv_aload_n hC.1 hC.2.1 dX6_rowsThere_10 rfl (lv_at hl 0 rfl) ?_
      refine lv_iload_n hC.1 hC.2.1 dX6_rowsThere_11 rfl (lv_at hl 2 rfl) ?_
      obtain ⟨r3, h2, hF⟩ := ob1S hF
      refine k_Vq (As := [.int x2]) (rest := []) hC hw (c_X6_rowOf (M := M) h2) RC_S yv_X6_rowOf q2_9 ⟨rfl, rfl⟩ ⟨Nat.le_of_ble_eq_true rfl, Nat.le_of_ble_eq_true rfl⟩ ⟨Nat.zero_le _, Nat.zero_le _⟩ rfl rfl (Nat.le_of_ble_eq_true rfl) hl dX6_rowsThere_12 (fun H locs hw => ?_)
      cases r3 with
      | none =>
        have hF := op1N hF
        refine topN ?_
        refine lv_astore_nN (lv' := [(3, .null), (0, .ref (ad G 0)), (1, .int x1), (2, .int x2)]) hC.1 hC.2.1 dX6_rowsThere_15 rfl hl (by decide) rfl (fun ls hl => ?_)
        refine lv_aload_nN hC.1 hC.2.1 dX6_rowsThere_16 rfl (lv_at hl 0 rfl) ?_
        refine lv_ifnullN (tgt := 30) hC.1 hC.2.1 dX6_rowsThere_17 (by decide) ?_
        refine lv_iinc (v := (x2 + (1 : Int32))) (lv' := [(2, .int (x2 + (1 : Int32))), (3, .null), (0, .ref (ad G 0)), (1, .int x1)]) hC.1 hC.2.1 dX6_rowsThere_30 hl (k := 3) rfl rfl (by decide) rfl (fun ls hl => ?_)
        refine lv_goto (tgt := 4) hC.1 hC.2.1 dX6_rowsThere_33 (by decide) ?_
        exact ih hF hw (lv_sub hl [2, 3, 0] rfl)
      | some c4 =>
        obtain ⟨g5, hF⟩ := ifO (op1C hF)
        have g5 := Decidable.not_not.mp g5
        refine topC ?_
        refine lv_astore_n (lv' := [(3, .ref (ad G c4)), (0, .ref (ad G 0)), (1, .int x1), (2, .int x2)]) hC.1 hC.2.1 dX6_rowsThere_15 rfl hl (by decide) rfl (fun ls hl => ?_)
        refine lv_aload_n hC.1 hC.2.1 dX6_rowsThere_16 rfl (lv_at hl 0 rfl) ?_
        refine lv_ifnull hC.1 hC.2.1 dX6_rowsThere_17 ?_
        refine lv_aload_n hC.1 hC.2.1 dX6_rowsThere_20 rfl (lv_at hl 0 rfl) ?_
        refine g4_there hC hw g5 q1_162 dX6_rowsThere_21 ?_
        refine lv_if_eq (tgt := 30) hC.1 hC.2.1 dX6_rowsThere_24 (by decide) (fun b6 => ?_) (fun b6 => ?_)
        · have hF := ifP hF b6
          refine lv_iinc (v := (x2 + (1 : Int32))) (lv' := [(2, .int (x2 + (1 : Int32))), (3, .ref (ad G c4)), (0, .ref (ad G 0)), (1, .int x1)]) hC.1 hC.2.1 dX6_rowsThere_30 hl (k := 3) rfl rfl (by decide) rfl (fun ls hl => ?_)
          refine lv_goto (tgt := 4) hC.1 hC.2.1 dX6_rowsThere_33 (by decide) ?_
          exact ih hF hw (lv_sub hl [2, 3, 0] rfl)
        · have hF := ifN hF b6
          refine lv_iinc (v := (x1 + (1 : Int32))) (lv' := [(1, .int (x1 + (1 : Int32))), (3, .ref (ad G c4)), (0, .ref (ad G 0)), (2, .int x2)]) hC.1 hC.2.1 dX6_rowsThere_27 hl (k := 2) rfl rfl (by decide) rfl (fun ls hl => ?_)
          refine lv_iinc (v := (x2 + (1 : Int32))) (lv' := [(2, .int (x2 + (1 : Int32))), (1, .int (x1 + (1 : Int32))), (3, .ref (ad G c4)), (0, .ref (ad G 0))]) hC.1 hC.2.1 dX6_rowsThere_30 hl (k := 3) rfl rfl (by decide) rfl (fun ls hl => ?_)
          refine lv_goto (tgt := 4) hC.1 hC.2.1 dX6_rowsThere_33 (by decide) ?_
          exact ih hF hw (lv_sub hl [3, 1, 0] rfl)
def F_X6_rowsThere (fu : Nat) (M : Mm) : Option Int32 :=
  F_X6_rowsThere_4 fu M fu (0 : Int32) (0 : Int32)
set_option maxRecDepth 100000 in
set_option maxHeartbeats 4000000 in
theorem c_X6_rowsThere {l : Launch} {G : Gv} {fu : Nat} {M : Mm} {r : Int32} (hF : F_X6_rowsThere fu M = some r) : Met l yX6_rowsThere (.code yX6_rowsThere cX6_rowsThere 4 (some .int) :: zU) rm_X6_rowsThere (va_Pc [.ref (ad G 0)] (Wd G M)) (QI G r M) 0 0 (zA G) := by
  refine zMet (by decide) rfl (Nat.le_of_ble_eq_true rfl) ?_
  intro p e s m below meth c hC hw ls hl
  have hl : lv_has ls 4 [(0, .ref (ad G 0))] := hl
  unfold F_X6_rowsThere at hF
  refine lv_iconst (v := (0 : Int32)) hC.1 hC.2.1 dX6_rowsThere_0 (by decide) ?_
  refine lv_istore_n (lv' := [(1, .int (0 : Int32)), (0, .ref (ad G 0))]) hC.1 hC.2.1 dX6_rowsThere_1 rfl hl (by decide) rfl (fun ls hl => ?_)
  refine lv_iconst (v := (0 : Int32)) hC.1 hC.2.1 dX6_rowsThere_2 (by decide) ?_
  refine lv_istore_n (lv' := [(2, .int (0 : Int32)), (1, .int (0 : Int32)), (0, .ref (ad G 0))]) hC.1 hC.2.1 dX6_rowsThere_3 rfl hl (by decide) rfl (fun ls hl => ?_)
  exact w_X6_rowsThere_4 hC _ hF hw (lv_sub hl [2, 1, 0] rfl)
abbrev rm_X6_textsThere : Room := { frames := 1, cells := 0, slots := 0, locals := 21 }
theorem yv_X6_textsThere : YV yX6_textsThere cX6_textsThere 4 (some .int) 0 RX6 := ⟨⟨q3_123, qs_21, q1_1, q3_124⟩, by decide +kernel⟩
theorem dX6_textsThere_0 : decode cX6_textsThere 0 = .ok (.iconst 0, 1) := by decide +kernel
theorem dX6_textsThere_1 : decode cX6_textsThere 1 = .ok (.istore_n 1, 1) := by decide +kernel
theorem dX6_textsThere_2 : decode cX6_textsThere 2 = .ok (.iconst 0, 1) := by decide +kernel
theorem dX6_textsThere_3 : decode cX6_textsThere 3 = .ok (.istore_n 2, 1) := by decide +kernel
theorem dX6_textsThere_4 : decode cX6_textsThere 4 = .ok (.iload_n 2, 1) := by decide +kernel
theorem dX6_textsThere_5 : decode cX6_textsThere 5 = .ok (.iconst 4, 1) := by decide +kernel
theorem dX6_textsThere_6 : decode cX6_textsThere 6 = .ok (.if_icmp .ge 29, 3) := by decide +kernel
theorem dX6_textsThere_9 : decode cX6_textsThere 9 = .ok (.aload_n 0, 1) := by decide +kernel
theorem dX6_textsThere_10 : decode cX6_textsThere 10 = .ok (.iload_n 2, 1) := by decide +kernel
theorem dX6_textsThere_11 : decode cX6_textsThere 11 = .ok (.invokevirtual 126, 3) := by decide +kernel
theorem dX6_textsThere_14 : decode cX6_textsThere 14 = .ok (.astore_n 3, 1) := by decide +kernel
theorem dX6_textsThere_15 : decode cX6_textsThere 15 = .ok (.aload_n 3, 1) := by decide +kernel
theorem dX6_textsThere_16 : decode cX6_textsThere 16 = .ok (.ifnull 13, 3) := by decide +kernel
theorem dX6_textsThere_19 : decode cX6_textsThere 19 = .ok (.aload_n 3, 1) := by decide +kernel
theorem dX6_textsThere_20 : decode cX6_textsThere 20 = .ok (.getfield 131, 3) := by decide +kernel
theorem dX6_textsThere_23 : decode cX6_textsThere 23 = .ok (.ifCond .eq 6, 3) := by decide +kernel
theorem dX6_textsThere_26 : decode cX6_textsThere 26 = .ok (.iinc 1 1, 3) := by decide +kernel
theorem dX6_textsThere_29 : decode cX6_textsThere 29 = .ok (.iinc 2 1, 3) := by decide +kernel
theorem dX6_textsThere_32 : decode cX6_textsThere 32 = .ok (.goto (-28), 3) := by decide +kernel
theorem dX6_textsThere_35 : decode cX6_textsThere 35 = .ok (.iload_n 1, 1) := by decide +kernel
theorem dX6_textsThere_36 : decode cX6_textsThere 36 = .ok (.ireturn, 1) := by decide +kernel
def F_X6_textsThere_4 (fu : Nat) (M : Mm) : Nat → Int32 → Int32 → Option Int32
  | 0, _, _ => none
  | n + 1, x1, x2 =>
    if (4 : Int32) ≤ x2 then
      some x1
    else
      ob1 (F_X6_textOf fu M x2) (fun r3 =>
      op1 r3 (
        F_X6_textsThere_4 fu M n x1 (x2 + (1 : Int32))) (fun c4 =>
        if ¬ kd c4 = 13 then none else (
        if (M.1 c4 0) = 0 then
          F_X6_textsThere_4 fu M n x1 (x2 + (1 : Int32))
        else
          F_X6_textsThere_4 fu M n (x1 + (1 : Int32)) (x2 + (1 : Int32)))))
set_option maxRecDepth 100000 in
set_option maxHeartbeats 4000000 in
theorem w_X6_textsThere_4 {p : Program} {l : Launch} {e : Env} {s : State} {m : MethodId} {args : Array Value} {below : List Frame} {meth : Method} {c : Code} {G : Gv} (hC : Cx p s m args meth c cX6_textsThere 4 (some .int) RX6) {fu : Nat} {r : Int32} {M : Mm} : ∀ (n : Nat) {x1 : Int32} {x2 : Int32} {H : Heap} {locs : List Loc} {ls : Array Slot}, F_X6_textsThere_4 fu M n x1 x2 = some r → St G s H locs M → lv_has ls 4 [(0, .ref (ad G 0)), (1, .int x1), (2, .int x2)] → W p l e rm_X6_textsThere s m args below meth c H locs 0 0 (MQ below (QI G r M) args s 0 0 (zA G)) (F0 m 4 ls []) := by
  intro n
  induction n with
  | zero =>
    intro x1 x2 H locs ls hF hw hl
    cases hF
  | succ n ih =>
    intro x1 x2 H locs ls hF hw hl
    unfold F_X6_textsThere_4 at hF
    refine lv_iload_n hC.1 hC.2.1 dX6_textsThere_4 rfl (lv_at hl 2 rfl) ?_
    refine lv_iconst (v := (4 : Int32)) hC.1 hC.2.1 dX6_textsThere_5 (by decide) ?_
    refine lv_icmp_ge (tgt := 35) hC.1 hC.2.1 dX6_textsThere_6 (by decide) (fun b1 => ?_) (fun b1 => ?_)
    · have hF := ifP hF b1
      refine lv_iload_n hC.1 hC.2.1 dX6_textsThere_35 rfl (lv_at hl 1 rfl) ?_
      exact r_iretP hC hw hF dX6_textsThere_36
    · have hF := ifN hF b1
      refine lv_aload_n hC.1 hC.2.1 dX6_textsThere_9 rfl (lv_at hl 0 rfl) ?_
      refine lv_iload_n hC.1 hC.2.1 dX6_textsThere_10 rfl (lv_at hl 2 rfl) ?_
      obtain ⟨r3, h2, hF⟩ := ob1S hF
      refine k_Vq (As := [.int x2]) (rest := []) hC hw (c_X6_textOf (M := M) h2) RC_S yv_X6_textOf q3_125 ⟨rfl, rfl⟩ ⟨Nat.le_of_ble_eq_true rfl, Nat.le_of_ble_eq_true rfl⟩ ⟨Nat.zero_le _, Nat.zero_le _⟩ rfl rfl (Nat.le_of_ble_eq_true rfl) hl dX6_textsThere_11 (fun H locs hw => ?_)
      cases r3 with
      | none =>
        have hF := op1N hF
        refine topN ?_
        refine lv_astore_nN (lv' := [(3, .null), (0, .ref (ad G 0)), (1, .int x1), (2, .int x2)]) hC.1 hC.2.1 dX6_textsThere_14 rfl hl (by decide) rfl (fun ls hl => ?_)
        refine lv_aload_nN hC.1 hC.2.1 dX6_textsThere_15 rfl (lv_at hl 0 rfl) ?_
        refine lv_ifnullN (tgt := 29) hC.1 hC.2.1 dX6_textsThere_16 (by decide) ?_
        refine lv_iinc (v := (x2 + (1 : Int32))) (lv' := [(2, .int (x2 + (1 : Int32))), (3, .null), (0, .ref (ad G 0)), (1, .int x1)]) hC.1 hC.2.1 dX6_textsThere_29 hl (k := 3) rfl rfl (by decide) rfl (fun ls hl => ?_)
        refine lv_goto (tgt := 4) hC.1 hC.2.1 dX6_textsThere_32 (by decide) ?_
        exact ih hF hw (lv_sub hl [2, 3, 0] rfl)
      | some c4 =>
        obtain ⟨g5, hF⟩ := ifO (op1C hF)
        have g5 := Decidable.not_not.mp g5
        refine topC ?_
        refine lv_astore_n (lv' := [(3, .ref (ad G c4)), (0, .ref (ad G 0)), (1, .int x1), (2, .int x2)]) hC.1 hC.2.1 dX6_textsThere_14 rfl hl (by decide) rfl (fun ls hl => ?_)
        refine lv_aload_n hC.1 hC.2.1 dX6_textsThere_15 rfl (lv_at hl 0 rfl) ?_
        refine lv_ifnull hC.1 hC.2.1 dX6_textsThere_16 ?_
        refine lv_aload_n hC.1 hC.2.1 dX6_textsThere_19 rfl (lv_at hl 0 rfl) ?_
        refine g5_there hC hw g5 q1_180 dX6_textsThere_20 ?_
        refine lv_if_eq (tgt := 29) hC.1 hC.2.1 dX6_textsThere_23 (by decide) (fun b6 => ?_) (fun b6 => ?_)
        · have hF := ifP hF b6
          refine lv_iinc (v := (x2 + (1 : Int32))) (lv' := [(2, .int (x2 + (1 : Int32))), (3, .ref (ad G c4)), (0, .ref (ad G 0)), (1, .int x1)]) hC.1 hC.2.1 dX6_textsThere_29 hl (k := 3) rfl rfl (by decide) rfl (fun ls hl => ?_)
          refine lv_goto (tgt := 4) hC.1 hC.2.1 dX6_textsThere_32 (by decide) ?_
          exact ih hF hw (lv_sub hl [2, 3, 0] rfl)
        · have hF := ifN hF b6
          refine lv_iinc (v := (x1 + (1 : Int32))) (lv' := [(1, .int (x1 + (1 : Int32))), (3, .ref (ad G c4)), (0, .ref (ad G 0)), (2, .int x2)]) hC.1 hC.2.1 dX6_textsThere_26 hl (k := 2) rfl rfl (by decide) rfl (fun ls hl => ?_)
          refine lv_iinc (v := (x2 + (1 : Int32))) (lv' := [(2, .int (x2 + (1 : Int32))), (1, .int (x1 + (1 : Int32))), (3, .ref (ad G c4)), (0, .ref (ad G 0))]) hC.1 hC.2.1 dX6_textsThere_29 hl (k := 3) rfl rfl (by decide) rfl (fun ls hl => ?_)
          refine lv_goto (tgt := 4) hC.1 hC.2.1 dX6_textsThere_32 (by decide) ?_
          exact ih hF hw (lv_sub hl [3, 1, 0] rfl)
def F_X6_textsThere (fu : Nat) (M : Mm) : Option Int32 :=
  F_X6_textsThere_4 fu M fu (0 : Int32) (0 : Int32)
set_option maxRecDepth 100000 in
set_option maxHeartbeats 4000000 in
theorem c_X6_textsThere {l : Launch} {G : Gv} {fu : Nat} {M : Mm} {r : Int32} (hF : F_X6_textsThere fu M = some r) : Met l yX6_textsThere (.code yX6_textsThere cX6_textsThere 4 (some .int) :: zU) rm_X6_textsThere (va_Pc [.ref (ad G 0)] (Wd G M)) (QI G r M) 0 0 (zA G) := by
  refine zMet (by decide) rfl (Nat.le_of_ble_eq_true rfl) ?_
  intro p e s m below meth c hC hw ls hl
  have hl : lv_has ls 4 [(0, .ref (ad G 0))] := hl
  unfold F_X6_textsThere at hF
  refine lv_iconst (v := (0 : Int32)) hC.1 hC.2.1 dX6_textsThere_0 (by decide) ?_
  refine lv_istore_n (lv' := [(1, .int (0 : Int32)), (0, .ref (ad G 0))]) hC.1 hC.2.1 dX6_textsThere_1 rfl hl (by decide) rfl (fun ls hl => ?_)
  refine lv_iconst (v := (0 : Int32)) hC.1 hC.2.1 dX6_textsThere_2 (by decide) ?_
  refine lv_istore_n (lv' := [(2, .int (0 : Int32)), (1, .int (0 : Int32)), (0, .ref (ad G 0))]) hC.1 hC.2.1 dX6_textsThere_3 rfl hl (by decide) rfl (fun ls hl => ?_)
  exact w_X6_textsThere_4 hC _ hF hw (lv_sub hl [2, 1, 0] rfl)
abbrev rm_X6_keptThere : Room := { frames := 1, cells := 0, slots := 0, locals := 21 }
theorem yv_X6_keptThere : YV yX6_keptThere cX6_keptThere 4 (some .int) 0 RX6 := ⟨⟨q3_131, qs_23, q1_1, q3_132⟩, by decide +kernel⟩
theorem dX6_keptThere_0 : decode cX6_keptThere 0 = .ok (.iconst 0, 1) := by decide +kernel
theorem dX6_keptThere_1 : decode cX6_keptThere 1 = .ok (.istore_n 1, 1) := by decide +kernel
theorem dX6_keptThere_2 : decode cX6_keptThere 2 = .ok (.iconst 0, 1) := by decide +kernel
theorem dX6_keptThere_3 : decode cX6_keptThere 3 = .ok (.istore_n 2, 1) := by decide +kernel
theorem dX6_keptThere_4 : decode cX6_keptThere 4 = .ok (.iload_n 2, 1) := by decide +kernel
theorem dX6_keptThere_5 : decode cX6_keptThere 5 = .ok (.iconst 3, 1) := by decide +kernel
theorem dX6_keptThere_6 : decode cX6_keptThere 6 = .ok (.if_icmp .ge 29, 3) := by decide +kernel
theorem dX6_keptThere_9 : decode cX6_keptThere 9 = .ok (.aload_n 0, 1) := by decide +kernel
theorem dX6_keptThere_10 : decode cX6_keptThere 10 = .ok (.iload_n 2, 1) := by decide +kernel
theorem dX6_keptThere_11 : decode cX6_keptThere 11 = .ok (.invokevirtual 148, 3) := by decide +kernel
theorem dX6_keptThere_14 : decode cX6_keptThere 14 = .ok (.astore_n 3, 1) := by decide +kernel
theorem dX6_keptThere_15 : decode cX6_keptThere 15 = .ok (.aload_n 3, 1) := by decide +kernel
theorem dX6_keptThere_16 : decode cX6_keptThere 16 = .ok (.ifnull 13, 3) := by decide +kernel
theorem dX6_keptThere_19 : decode cX6_keptThere 19 = .ok (.aload_n 3, 1) := by decide +kernel
theorem dX6_keptThere_20 : decode cX6_keptThere 20 = .ok (.getfield 152, 3) := by decide +kernel
theorem dX6_keptThere_23 : decode cX6_keptThere 23 = .ok (.ifCond .le 6, 3) := by decide +kernel
theorem dX6_keptThere_26 : decode cX6_keptThere 26 = .ok (.iinc 1 1, 3) := by decide +kernel
theorem dX6_keptThere_29 : decode cX6_keptThere 29 = .ok (.iinc 2 1, 3) := by decide +kernel
theorem dX6_keptThere_32 : decode cX6_keptThere 32 = .ok (.goto (-28), 3) := by decide +kernel
theorem dX6_keptThere_35 : decode cX6_keptThere 35 = .ok (.iload_n 1, 1) := by decide +kernel
theorem dX6_keptThere_36 : decode cX6_keptThere 36 = .ok (.ireturn, 1) := by decide +kernel
def F_X6_keptThere_4 (fu : Nat) (M : Mm) : Nat → Int32 → Int32 → Option Int32
  | 0, _, _ => none
  | n + 1, x1, x2 =>
    if (3 : Int32) ≤ x2 then
      some x1
    else
      ob1 (F_X6_keptOf fu M x2) (fun r3 =>
      op1 r3 (
        F_X6_keptThere_4 fu M n x1 (x2 + (1 : Int32))) (fun c4 =>
        if ¬ kd c4 = 11 then none else (
        if (M.1 c4 0) ≤ 0 then
          F_X6_keptThere_4 fu M n x1 (x2 + (1 : Int32))
        else
          F_X6_keptThere_4 fu M n (x1 + (1 : Int32)) (x2 + (1 : Int32)))))
set_option maxRecDepth 100000 in
set_option maxHeartbeats 4000000 in
theorem w_X6_keptThere_4 {p : Program} {l : Launch} {e : Env} {s : State} {m : MethodId} {args : Array Value} {below : List Frame} {meth : Method} {c : Code} {G : Gv} (hC : Cx p s m args meth c cX6_keptThere 4 (some .int) RX6) {fu : Nat} {r : Int32} {M : Mm} : ∀ (n : Nat) {x1 : Int32} {x2 : Int32} {H : Heap} {locs : List Loc} {ls : Array Slot}, F_X6_keptThere_4 fu M n x1 x2 = some r → St G s H locs M → lv_has ls 4 [(0, .ref (ad G 0)), (1, .int x1), (2, .int x2)] → W p l e rm_X6_keptThere s m args below meth c H locs 0 0 (MQ below (QI G r M) args s 0 0 (zA G)) (F0 m 4 ls []) := by
  intro n
  induction n with
  | zero =>
    intro x1 x2 H locs ls hF hw hl
    cases hF
  | succ n ih =>
    intro x1 x2 H locs ls hF hw hl
    unfold F_X6_keptThere_4 at hF
    refine lv_iload_n hC.1 hC.2.1 dX6_keptThere_4 rfl (lv_at hl 2 rfl) ?_
    refine lv_iconst (v := (3 : Int32)) hC.1 hC.2.1 dX6_keptThere_5 (by decide) ?_
    refine lv_icmp_ge (tgt := 35) hC.1 hC.2.1 dX6_keptThere_6 (by decide) (fun b1 => ?_) (fun b1 => ?_)
    · have hF := ifP hF b1
      refine lv_iload_n hC.1 hC.2.1 dX6_keptThere_35 rfl (lv_at hl 1 rfl) ?_
      exact r_iretP hC hw hF dX6_keptThere_36
    · have hF := ifN hF b1
      refine lv_aload_n hC.1 hC.2.1 dX6_keptThere_9 rfl (lv_at hl 0 rfl) ?_
      refine lv_iload_n hC.1 hC.2.1 dX6_keptThere_10 rfl (lv_at hl 2 rfl) ?_
      obtain ⟨r3, h2, hF⟩ := ob1S hF
      refine k_Vq (As := [.int x2]) (rest := []) hC hw (c_X6_keptOf (M := M) h2) RC_S yv_X6_keptOf q2_131 ⟨rfl, rfl⟩ ⟨Nat.le_of_ble_eq_true rfl, Nat.le_of_ble_eq_true rfl⟩ ⟨Nat.zero_le _, Nat.zero_le _⟩ rfl rfl (Nat.le_of_ble_eq_true rfl) hl dX6_keptThere_11 (fun H locs hw => ?_)
      cases r3 with
      | none =>
        have hF := op1N hF
        refine topN ?_
        refine lv_astore_nN (lv' := [(3, .null), (0, .ref (ad G 0)), (1, .int x1), (2, .int x2)]) hC.1 hC.2.1 dX6_keptThere_14 rfl hl (by decide) rfl (fun ls hl => ?_)
        refine lv_aload_nN hC.1 hC.2.1 dX6_keptThere_15 rfl (lv_at hl 0 rfl) ?_
        refine lv_ifnullN (tgt := 29) hC.1 hC.2.1 dX6_keptThere_16 (by decide) ?_
        refine lv_iinc (v := (x2 + (1 : Int32))) (lv' := [(2, .int (x2 + (1 : Int32))), (3, .null), (0, .ref (ad G 0)), (1, .int x1)]) hC.1 hC.2.1 dX6_keptThere_29 hl (k := 3) rfl rfl (by decide) rfl (fun ls hl => ?_)
        refine lv_goto (tgt := 4) hC.1 hC.2.1 dX6_keptThere_32 (by decide) ?_
        exact ih hF hw (lv_sub hl [2, 3, 0] rfl)
      | some c4 =>
        obtain ⟨g5, hF⟩ := ifO (op1C hF)
        have g5 := Decidable.not_not.mp g5
        refine topC ?_
        refine lv_astore_n (lv' := [(3, .ref (ad G c4)), (0, .ref (ad G 0)), (1, .int x1), (2, .int x2)]) hC.1 hC.2.1 dX6_keptThere_14 rfl hl (by decide) rfl (fun ls hl => ?_)
        refine lv_aload_n hC.1 hC.2.1 dX6_keptThere_15 rfl (lv_at hl 0 rfl) ?_
        refine lv_ifnull hC.1 hC.2.1 dX6_keptThere_16 ?_
        refine lv_aload_n hC.1 hC.2.1 dX6_keptThere_19 rfl (lv_at hl 0 rfl) ?_
        refine g2_men hC hw g5 q1_29 dX6_keptThere_20 ?_
        refine lv_if_le (tgt := 29) hC.1 hC.2.1 dX6_keptThere_23 (by decide) (fun b6 => ?_) (fun b6 => ?_)
        · have hF := ifP hF b6
          refine lv_iinc (v := (x2 + (1 : Int32))) (lv' := [(2, .int (x2 + (1 : Int32))), (3, .ref (ad G c4)), (0, .ref (ad G 0)), (1, .int x1)]) hC.1 hC.2.1 dX6_keptThere_29 hl (k := 3) rfl rfl (by decide) rfl (fun ls hl => ?_)
          refine lv_goto (tgt := 4) hC.1 hC.2.1 dX6_keptThere_32 (by decide) ?_
          exact ih hF hw (lv_sub hl [2, 3, 0] rfl)
        · have hF := ifN hF b6
          refine lv_iinc (v := (x1 + (1 : Int32))) (lv' := [(1, .int (x1 + (1 : Int32))), (3, .ref (ad G c4)), (0, .ref (ad G 0)), (2, .int x2)]) hC.1 hC.2.1 dX6_keptThere_26 hl (k := 2) rfl rfl (by decide) rfl (fun ls hl => ?_)
          refine lv_iinc (v := (x2 + (1 : Int32))) (lv' := [(2, .int (x2 + (1 : Int32))), (1, .int (x1 + (1 : Int32))), (3, .ref (ad G c4)), (0, .ref (ad G 0))]) hC.1 hC.2.1 dX6_keptThere_29 hl (k := 3) rfl rfl (by decide) rfl (fun ls hl => ?_)
          refine lv_goto (tgt := 4) hC.1 hC.2.1 dX6_keptThere_32 (by decide) ?_
          exact ih hF hw (lv_sub hl [3, 1, 0] rfl)
def F_X6_keptThere (fu : Nat) (M : Mm) : Option Int32 :=
  F_X6_keptThere_4 fu M fu (0 : Int32) (0 : Int32)
set_option maxRecDepth 100000 in
set_option maxHeartbeats 4000000 in
theorem c_X6_keptThere {l : Launch} {G : Gv} {fu : Nat} {M : Mm} {r : Int32} (hF : F_X6_keptThere fu M = some r) : Met l yX6_keptThere (.code yX6_keptThere cX6_keptThere 4 (some .int) :: zU) rm_X6_keptThere (va_Pc [.ref (ad G 0)] (Wd G M)) (QI G r M) 0 0 (zA G) := by
  refine zMet (by decide) rfl (Nat.le_of_ble_eq_true rfl) ?_
  intro p e s m below meth c hC hw ls hl
  have hl : lv_has ls 4 [(0, .ref (ad G 0))] := hl
  unfold F_X6_keptThere at hF
  refine lv_iconst (v := (0 : Int32)) hC.1 hC.2.1 dX6_keptThere_0 (by decide) ?_
  refine lv_istore_n (lv' := [(1, .int (0 : Int32)), (0, .ref (ad G 0))]) hC.1 hC.2.1 dX6_keptThere_1 rfl hl (by decide) rfl (fun ls hl => ?_)
  refine lv_iconst (v := (0 : Int32)) hC.1 hC.2.1 dX6_keptThere_2 (by decide) ?_
  refine lv_istore_n (lv' := [(2, .int (0 : Int32)), (1, .int (0 : Int32)), (0, .ref (ad G 0))]) hC.1 hC.2.1 dX6_keptThere_3 rfl hl (by decide) rfl (fun ls hl => ?_)
  exact w_X6_keptThere_4 hC _ hF hw (lv_sub hl [2, 1, 0] rfl)
abbrev rm_X6_countOf : Room := { frames := 2, cells := 0, slots := 0, locals := 44 }
theorem yv_X6_countOf : YV yX6_countOf cX6_countOf 2 (some .int) 1 RX6 := ⟨⟨q3_104, qs_19, q1_1, q3_105⟩, by decide +kernel⟩
theorem dX6_countOf_0 : decode cX6_countOf 0 = .ok (.iload_n 1, 1) := by decide +kernel
theorem dX6_countOf_1 : decode cX6_countOf 1 = .ok (.tableswitch 105 0 7 #[47, 55, 63, 71, 79, 87, 95, 100], 47) := by decide +kernel
theorem dX6_countOf_48 : decode cX6_countOf 48 = .ok (.aload_n 0, 1) := by decide +kernel
theorem dX6_countOf_49 : decode cX6_countOf 49 = .ok (.getfield 24, 3) := by decide +kernel
theorem dX6_countOf_52 : decode cX6_countOf 52 = .ok (.getfield 152, 3) := by decide +kernel
theorem dX6_countOf_55 : decode cX6_countOf 55 = .ok (.ireturn, 1) := by decide +kernel
theorem dX6_countOf_56 : decode cX6_countOf 56 = .ok (.aload_n 0, 1) := by decide +kernel
theorem dX6_countOf_57 : decode cX6_countOf 57 = .ok (.getfield 24, 3) := by decide +kernel
theorem dX6_countOf_60 : decode cX6_countOf 60 = .ok (.getfield 223, 3) := by decide +kernel
theorem dX6_countOf_63 : decode cX6_countOf 63 = .ok (.ireturn, 1) := by decide +kernel
theorem dX6_countOf_64 : decode cX6_countOf 64 = .ok (.aload_n 0, 1) := by decide +kernel
theorem dX6_countOf_65 : decode cX6_countOf 65 = .ok (.getfield 24, 3) := by decide +kernel
theorem dX6_countOf_68 : decode cX6_countOf 68 = .ok (.getfield 195, 3) := by decide +kernel
theorem dX6_countOf_71 : decode cX6_countOf 71 = .ok (.ireturn, 1) := by decide +kernel
theorem dX6_countOf_72 : decode cX6_countOf 72 = .ok (.aload_n 0, 1) := by decide +kernel
theorem dX6_countOf_73 : decode cX6_countOf 73 = .ok (.getfield 24, 3) := by decide +kernel
theorem dX6_countOf_76 : decode cX6_countOf 76 = .ok (.getfield 198, 3) := by decide +kernel
theorem dX6_countOf_79 : decode cX6_countOf 79 = .ok (.ireturn, 1) := by decide +kernel
theorem dX6_countOf_80 : decode cX6_countOf 80 = .ok (.aload_n 0, 1) := by decide +kernel
theorem dX6_countOf_81 : decode cX6_countOf 81 = .ok (.getfield 24, 3) := by decide +kernel
theorem dX6_countOf_84 : decode cX6_countOf 84 = .ok (.invokevirtual 363, 3) := by decide +kernel
theorem dX6_countOf_87 : decode cX6_countOf 87 = .ok (.ireturn, 1) := by decide +kernel
theorem dX6_countOf_88 : decode cX6_countOf 88 = .ok (.aload_n 0, 1) := by decide +kernel
theorem dX6_countOf_89 : decode cX6_countOf 89 = .ok (.getfield 24, 3) := by decide +kernel
theorem dX6_countOf_92 : decode cX6_countOf 92 = .ok (.invokevirtual 366, 3) := by decide +kernel
theorem dX6_countOf_95 : decode cX6_countOf 95 = .ok (.ireturn, 1) := by decide +kernel
theorem dX6_countOf_96 : decode cX6_countOf 96 = .ok (.aload_n 0, 1) := by decide +kernel
theorem dX6_countOf_97 : decode cX6_countOf 97 = .ok (.invokevirtual 369, 3) := by decide +kernel
theorem dX6_countOf_100 : decode cX6_countOf 100 = .ok (.ireturn, 1) := by decide +kernel
theorem dX6_countOf_101 : decode cX6_countOf 101 = .ok (.aload_n 0, 1) := by decide +kernel
theorem dX6_countOf_102 : decode cX6_countOf 102 = .ok (.invokevirtual 372, 3) := by decide +kernel
theorem dX6_countOf_105 : decode cX6_countOf 105 = .ok (.ireturn, 1) := by decide +kernel
theorem dX6_countOf_106 : decode cX6_countOf 106 = .ok (.aload_n 0, 1) := by decide +kernel
theorem dX6_countOf_107 : decode cX6_countOf 107 = .ok (.invokevirtual 375, 3) := by decide +kernel
theorem dX6_countOf_110 : decode cX6_countOf 110 = .ok (.ireturn, 1) := by decide +kernel
def F_X6_countOf (fu : Nat) (M : Mm) (x1 : Int32) : Option Int32 :=
  if x1 = (0 : Int32) then
    some (M.1 24 0)
  else
  if x1 = (1 : Int32) then
    some (M.1 24 2)
  else
  if x1 = (2 : Int32) then
    some (M.1 24 1)
  else
  if x1 = (3 : Int32) then
    some (M.1 24 3)
  else
  if x1 = (4 : Int32) then
    ob1 (F_X2_bulkOfAll fu M 24) (fun r7 =>
    some r7)
  else
  if x1 = (5 : Int32) then
    ob1 (F_X2_hattedOnes fu M 24) (fun r10 =>
    some r10)
  else
  if x1 = (6 : Int32) then
    ob1 (F_X6_rowsThere fu M) (fun r13 =>
    some r13)
  else
  if x1 = (7 : Int32) then
    ob1 (F_X6_textsThere fu M) (fun r16 =>
    some r16)
  else
  ob1 (F_X6_keptThere fu M) (fun r18 =>
  some r18)
set_option maxRecDepth 100000 in
set_option maxHeartbeats 4000000 in
theorem c_X6_countOf {l : Launch} {G : Gv} {fu : Nat} {M : Mm} {x1 : Int32} {r : Int32} (hF : F_X6_countOf fu M x1 = some r) : Met l yX6_countOf (.code yX6_countOf cX6_countOf 2 (some .int) :: zU) rm_X6_countOf (va_Pc [.ref (ad G 0), .int x1] (Wd G M)) (QI G r M) 0 0 (zA G) := by
  refine zMet (by decide) rfl (Nat.le_of_ble_eq_true rfl) ?_
  intro p e s m below meth c hC hw ls hl
  have hl : lv_has ls 2 [(0, .ref (ad G 0)), (1, .int x1)] := hl
  unfold F_X6_countOf at hF
  refine lv_iload_n hC.1 hC.2.1 dX6_countOf_0 rfl (lv_at hl 1 rfl) ?_
  rcases Classical.em (x1 = (0 : Int32)) with w1 | w1
  · have hF := ifP hF w1
    refine r_swI (v := (0 : Int32)) (off := 47) (tgt := 48) hC.1 hC.2.1 w1 dX6_countOf_1 (by decide) (by decide) rfl (by decide) ?_
    refine lv_aload_n hC.1 hC.2.1 dX6_countOf_48 rfl (lv_at hl 0 rfl) ?_
    refine g6_north hC hw q1_195 dX6_countOf_49 ?_
    refine g2_men hC hw (rfl : kd 24 = 11) q1_29 dX6_countOf_52 ?_
    exact r_iretP hC hw hF dX6_countOf_55
  have hF := ifN hF w1
  rcases Classical.em (x1 = (1 : Int32)) with w2 | w2
  · have hF := ifP hF w2
    refine r_swI (v := (1 : Int32)) (off := 55) (tgt := 56) hC.1 hC.2.1 w2 dX6_countOf_1 (by decide) (by decide) rfl (by decide) ?_
    refine lv_aload_n hC.1 hC.2.1 dX6_countOf_56 rfl (lv_at hl 0 rfl) ?_
    refine g6_north hC hw q1_195 dX6_countOf_57 ?_
    refine g2_today hC hw (rfl : kd 24 = 11) q1_33 dX6_countOf_60 ?_
    exact r_iretP hC hw hF dX6_countOf_63
  have hF := ifN hF w2
  rcases Classical.em (x1 = (2 : Int32)) with w3 | w3
  · have hF := ifP hF w3
    refine r_swI (v := (2 : Int32)) (off := 63) (tgt := 64) hC.1 hC.2.1 w3 dX6_countOf_1 (by decide) (by decide) rfl (by decide) ?_
    refine lv_aload_n hC.1 hC.2.1 dX6_countOf_64 rfl (lv_at hl 0 rfl) ?_
    refine g6_north hC hw q1_195 dX6_countOf_65 ?_
    refine g2_rightNow hC hw (rfl : kd 24 = 11) q1_31 dX6_countOf_68 ?_
    exact r_iretP hC hw hF dX6_countOf_71
  have hF := ifN hF w3
  rcases Classical.em (x1 = (3 : Int32)) with w4 | w4
  · have hF := ifP hF w4
    refine r_swI (v := (3 : Int32)) (off := 71) (tgt := 72) hC.1 hC.2.1 w4 dX6_countOf_1 (by decide) (by decide) rfl (by decide) ?_
    refine lv_aload_n hC.1 hC.2.1 dX6_countOf_72 rfl (lv_at hl 0 rfl) ?_
    refine g6_north hC hw q1_195 dX6_countOf_73 ?_
    refine g2_deeds hC hw (rfl : kd 24 = 11) q1_35 dX6_countOf_76 ?_
    exact r_iretP hC hw hF dX6_countOf_79
  have hF := ifN hF w4
  rcases Classical.em (x1 = (4 : Int32)) with w5 | w5
  · have hF := ifP hF w5
    refine r_swI (v := (4 : Int32)) (off := 79) (tgt := 80) hC.1 hC.2.1 w5 dX6_countOf_1 (by decide) (by decide) rfl (by decide) ?_
    refine lv_aload_n hC.1 hC.2.1 dX6_countOf_80 rfl (lv_at hl 0 rfl) ?_
    refine g6_north hC hw q1_195 dX6_countOf_81 ?_
    obtain ⟨r7, h6, hF⟩ := ob1S hF
    refine k_Vi (As := []) (rest := []) hC hw (c_X2_bulkOfAll (M := M) (rfl : kd 24 = 11) h6) (RC_N (rfl : kd 24 = 11)) yv_X2_bulkOfAll q3_106 ⟨rfl, rfl⟩ ⟨Nat.le_of_ble_eq_true rfl, Nat.le_of_ble_eq_true rfl⟩ ⟨Nat.zero_le _, Nat.zero_le _⟩ rfl rfl (Nat.le_of_ble_eq_true rfl) hl dX6_countOf_84 (fun H locs hw => ?_)
    exact r_iretP hC hw hF dX6_countOf_87
  have hF := ifN hF w5
  rcases Classical.em (x1 = (5 : Int32)) with w8 | w8
  · have hF := ifP hF w8
    refine r_swI (v := (5 : Int32)) (off := 87) (tgt := 88) hC.1 hC.2.1 w8 dX6_countOf_1 (by decide) (by decide) rfl (by decide) ?_
    refine lv_aload_n hC.1 hC.2.1 dX6_countOf_88 rfl (lv_at hl 0 rfl) ?_
    refine g6_north hC hw q1_195 dX6_countOf_89 ?_
    obtain ⟨r10, h9, hF⟩ := ob1S hF
    refine k_Vi (As := []) (rest := []) hC hw (c_X2_hattedOnes (M := M) (rfl : kd 24 = 11) h9) (RC_N (rfl : kd 24 = 11)) yv_X2_hattedOnes q3_110 ⟨rfl, rfl⟩ ⟨Nat.le_of_ble_eq_true rfl, Nat.le_of_ble_eq_true rfl⟩ ⟨Nat.zero_le _, Nat.zero_le _⟩ rfl rfl (Nat.le_of_ble_eq_true rfl) hl dX6_countOf_92 (fun H locs hw => ?_)
    exact r_iretP hC hw hF dX6_countOf_95
  have hF := ifN hF w8
  rcases Classical.em (x1 = (6 : Int32)) with w11 | w11
  · have hF := ifP hF w11
    refine r_swI (v := (6 : Int32)) (off := 95) (tgt := 96) hC.1 hC.2.1 w11 dX6_countOf_1 (by decide) (by decide) rfl (by decide) ?_
    refine lv_aload_n hC.1 hC.2.1 dX6_countOf_96 rfl (lv_at hl 0 rfl) ?_
    obtain ⟨r13, h12, hF⟩ := ob1S hF
    refine k_Vi (As := []) (rest := []) hC hw (c_X6_rowsThere (M := M) h12) RC_S yv_X6_rowsThere q3_117 ⟨rfl, rfl⟩ ⟨Nat.le_of_ble_eq_true rfl, Nat.le_of_ble_eq_true rfl⟩ ⟨Nat.zero_le _, Nat.zero_le _⟩ rfl rfl (Nat.le_of_ble_eq_true rfl) hl dX6_countOf_97 (fun H locs hw => ?_)
    exact r_iretP hC hw hF dX6_countOf_100
  have hF := ifN hF w11
  rcases Classical.em (x1 = (7 : Int32)) with w14 | w14
  · have hF := ifP hF w14
    refine r_swI (v := (7 : Int32)) (off := 100) (tgt := 101) hC.1 hC.2.1 w14 dX6_countOf_1 (by decide) (by decide) rfl (by decide) ?_
    refine lv_aload_n hC.1 hC.2.1 dX6_countOf_101 rfl (lv_at hl 0 rfl) ?_
    obtain ⟨r16, h15, hF⟩ := ob1S hF
    refine k_Vi (As := []) (rest := []) hC hw (c_X6_textsThere (M := M) h15) RC_S yv_X6_textsThere q3_121 ⟨rfl, rfl⟩ ⟨Nat.le_of_ble_eq_true rfl, Nat.le_of_ble_eq_true rfl⟩ ⟨Nat.zero_le _, Nat.zero_le _⟩ rfl rfl (Nat.le_of_ble_eq_true rfl) hl dX6_countOf_102 (fun H locs hw => ?_)
    exact r_iretP hC hw hF dX6_countOf_105
  have hF := ifN hF w14
  refine r_swD (tgt := 106) (vs := [(0 : Int32), (1 : Int32), (2 : Int32), (3 : Int32), (4 : Int32), (5 : Int32), (6 : Int32), (7 : Int32)]) hC.1 hC.2.1 (List.forall_mem_cons.mpr ⟨w1, List.forall_mem_cons.mpr ⟨w2, List.forall_mem_cons.mpr ⟨w3, List.forall_mem_cons.mpr ⟨w4, List.forall_mem_cons.mpr ⟨w5, List.forall_mem_cons.mpr ⟨w8, List.forall_mem_cons.mpr ⟨w11, List.forall_mem_cons.mpr ⟨w14, fun v hv => absurd hv List.not_mem_nil⟩⟩⟩⟩⟩⟩⟩⟩) dX6_countOf_1 (by decide) rfl (by decide) ?_
  refine lv_aload_n hC.1 hC.2.1 dX6_countOf_106 rfl (lv_at hl 0 rfl) ?_
  obtain ⟨r18, h17, hF⟩ := ob1S hF
  refine k_Vi (As := []) (rest := []) hC hw (c_X6_keptThere (M := M) h17) RC_S yv_X6_keptThere q3_129 ⟨rfl, rfl⟩ ⟨Nat.le_of_ble_eq_true rfl, Nat.le_of_ble_eq_true rfl⟩ ⟨Nat.zero_le _, Nat.zero_le _⟩ rfl rfl (Nat.le_of_ble_eq_true rfl) hl dX6_countOf_107 (fun H locs hw => ?_)
  exact r_iretP hC hw hF dX6_countOf_110
abbrev rm_X6_count : Room := { frames := 3, cells := 0, slots := 0, locals := 65 }
theorem yv_X6_count : YV yX6_count cX6_count 2 (some .int) 1 RX6 := ⟨⟨q3_99, q3_100, q1_1, q3_101⟩, by decide +kernel⟩
theorem dX6_count_0 : decode cX6_count 0 = .ok (.iload_n 1, 1) := by decide +kernel
theorem dX6_count_1 : decode cX6_count 1 = .ok (.ifCond .lt 9, 3) := by decide +kernel
theorem dX6_count_4 : decode cX6_count 4 = .ok (.iload_n 1, 1) := by decide +kernel
theorem dX6_count_5 : decode cX6_count 5 = .ok (.bipush 9, 2) := by decide +kernel
theorem dX6_count_7 : decode cX6_count 7 = .ok (.if_icmp .lt 5, 3) := by decide +kernel
theorem dX6_count_10 : decode cX6_count 10 = .ok (.iconst (-1), 1) := by decide +kernel
theorem dX6_count_11 : decode cX6_count 11 = .ok (.ireturn, 1) := by decide +kernel
theorem dX6_count_12 : decode cX6_count 12 = .ok (.aload_n 0, 1) := by decide +kernel
theorem dX6_count_13 : decode cX6_count 13 = .ok (.iload_n 1, 1) := by decide +kernel
theorem dX6_count_14 : decode cX6_count 14 = .ok (.invokevirtual 344, 3) := by decide +kernel
theorem dX6_count_17 : decode cX6_count 17 = .ok (.ireturn, 1) := by decide +kernel
def F_X6_count (fu : Nat) (M : Mm) (x1 : Int32) : Option Int32 :=
  if x1 < 0 then
    some (-1 : Int32)
  else
    if x1 < (9 : Int32) then
      ob1 (F_X6_countOf fu M x1) (fun r4 =>
      some r4)
    else
      some (-1 : Int32)
set_option maxRecDepth 100000 in
set_option maxHeartbeats 4000000 in
theorem c_X6_count {l : Launch} {G : Gv} {fu : Nat} {M : Mm} {x1 : Int32} {r : Int32} (hF : F_X6_count fu M x1 = some r) : Met l yX6_count (.code yX6_count cX6_count 2 (some .int) :: zU) rm_X6_count (va_Pc [.ref (ad G 0), .int x1] (Wd G M)) (QI G r M) 0 0 (zA G) := by
  refine zMet (by decide) rfl (Nat.le_of_ble_eq_true rfl) ?_
  intro p e s m below meth c hC hw ls hl
  have hl : lv_has ls 2 [(0, .ref (ad G 0)), (1, .int x1)] := hl
  unfold F_X6_count at hF
  refine lv_iload_n hC.1 hC.2.1 dX6_count_0 rfl (lv_at hl 1 rfl) ?_
  refine lv_if_lt (tgt := 10) hC.1 hC.2.1 dX6_count_1 (by decide) (fun b1 => ?_) (fun b1 => ?_)
  · have hF := ifP hF b1
    refine lv_iconst (v := (-1 : Int32)) hC.1 hC.2.1 dX6_count_10 (by decide) ?_
    exact r_iretP hC hw hF dX6_count_11
  · have hF := ifN hF b1
    refine lv_iload_n hC.1 hC.2.1 dX6_count_4 rfl (lv_at hl 1 rfl) ?_
    refine lv_bipush (v := (9 : Int32)) hC.1 hC.2.1 dX6_count_5 (by decide) ?_
    refine lv_icmp_lt (tgt := 12) hC.1 hC.2.1 dX6_count_7 (by decide) (fun b2 => ?_) (fun b2 => ?_)
    · have hF := ifP hF b2
      refine lv_aload_n hC.1 hC.2.1 dX6_count_12 rfl (lv_at hl 0 rfl) ?_
      refine lv_iload_n hC.1 hC.2.1 dX6_count_13 rfl (lv_at hl 1 rfl) ?_
      obtain ⟨r4, h3, hF⟩ := ob1S hF
      refine k_Vi (As := [.int x1]) (rest := []) hC hw (c_X6_countOf (M := M) h3) RC_S yv_X6_countOf q3_102 ⟨rfl, rfl⟩ ⟨Nat.le_of_ble_eq_true rfl, Nat.le_of_ble_eq_true rfl⟩ ⟨Nat.zero_le _, Nat.zero_le _⟩ rfl rfl (Nat.le_of_ble_eq_true rfl) hl dX6_count_14 (fun H locs hw => ?_)
      exact r_iretP hC hw hF dX6_count_17
    · have hF := ifN hF b2
      refine lv_iconst (v := (-1 : Int32)) hC.1 hC.2.1 dX6_count_10 (by decide) ?_
      exact r_iretP hC hw hF dX6_count_11
abbrev rm_L_cell : Room := { frames := 0, cells := 0, slots := 0, locals := 0 }
theorem ys_L_cell : YS yL_cell cL_cell 2 (some .int) 2 := ⟨⟨q3_134, q1_0, q3_135⟩, by decide +kernel⟩
theorem dL_cell_0 : decode cL_cell 0 = .ok (.iload_n 1, 1) := by decide +kernel
theorem dL_cell_1 : decode cL_cell 1 = .ok (.aload_n 0, 1) := by decide +kernel
theorem dL_cell_2 : decode cL_cell 2 = .ok (.arraylength, 1) := by decide +kernel
theorem dL_cell_3 : decode cL_cell 3 = .ok (.if_icmp .ge 9, 3) := by decide +kernel
theorem dL_cell_6 : decode cL_cell 6 = .ok (.aload_n 0, 1) := by decide +kernel
theorem dL_cell_7 : decode cL_cell 7 = .ok (.iload_n 1, 1) := by decide +kernel
theorem dL_cell_8 : decode cL_cell 8 = .ok (.iaload, 1) := by decide +kernel
theorem dL_cell_9 : decode cL_cell 9 = .ok (.goto 11, 3) := by decide +kernel
theorem dL_cell_12 : decode cL_cell 12 = .ok (.ldc 7, 2) := by decide +kernel
theorem dL_cell_14 : decode cL_cell 14 = .ok (.iload_n 1, 1) := by decide +kernel
theorem dL_cell_15 : decode cL_cell 15 = .ok (.sipush 263, 3) := by decide +kernel
theorem dL_cell_18 : decode cL_cell 18 = .ok (.iadd, 1) := by decide +kernel
theorem dL_cell_19 : decode cL_cell 19 = .ok (.imul, 1) := by decide +kernel
theorem dL_cell_20 : decode cL_cell 20 = .ok (.ireturn, 1) := by decide +kernel
def F_L_cell (L : Nat) (xs : Nat → Int32) (fu : Nat) (M : Mm) (x1 : Int32) : Option Int32 :=
  if (Int32.ofNat L) ≤ x1 then
    some ((320440878 : Int32) * (x1 + (263 : Int32)))
  else
    if x1 < 0 ∨ L ≤ x1.toNatClampNeg then none else (
    some (xs x1.toNatClampNeg))
set_option maxRecDepth 100000 in
set_option maxHeartbeats 4000000 in
theorem c_L_cell {l : Launch} {G : Gv} {fu : Nat} {b L : Nat} {xs : Nat → Int32} {M : Mm} {x1 : Int32} {r : Int32} (hF : F_L_cell L xs fu M x1 = some r) : Met l yL_cell (.code yL_cell cL_cell 2 (some .int) :: zU) rm_L_cell (va_Pc [.ref b, .int x1] (WdX G M b L xs)) (QI G r M) 0 0 (zA G) := by
  refine zMetX (by decide) rfl (Nat.le_of_ble_eq_true rfl) ?_
  intro p e s m below meth c hC hX hbl hbA hw ls hl
  have hl : lv_has ls 2 [(0, .ref b), (1, .int x1)] := hl
  unfold F_L_cell at hF
  refine lv_iload_n hC.1 hC.2.1 dL_cell_0 rfl (lv_at hl 1 rfl) ?_
  refine lv_aload_n hC.1 hC.2.1 dL_cell_1 rfl (lv_at hl 0 rfl) ?_
  refine va_slen hC.1 hC.2.1 hX hbl hbA hw.2.2.2.2 dL_cell_2 ?_
  refine lv_icmp_ge (tgt := 12) hC.1 hC.2.1 dL_cell_3 (by decide) (fun b1 => ?_) (fun b1 => ?_)
  · have hF := ifP hF b1
    refine lv_ldc (v := (320440878 : Int32)) hC.1 hC.2.1 hC.2.2.2.1 (hC.2.2.2.2.1 _ q3_136) dL_cell_12 ?_
    refine lv_iload_n hC.1 hC.2.1 dL_cell_14 rfl (lv_at hl 1 rfl) ?_
    refine lv_sipush (v := (263 : Int32)) hC.1 hC.2.1 dL_cell_15 (by decide) ?_
    refine lv_iadd hC.1 hC.2.1 dL_cell_18 ?_
    refine lv_imul hC.1 hC.2.1 dL_cell_19 ?_
    exact r_iretP hC hw hF dL_cell_20
  · have hF := ifN hF b1
    refine lv_aload_n hC.1 hC.2.1 dL_cell_6 rfl (lv_at hl 0 rfl) ?_
    refine lv_iload_n hC.1 hC.2.1 dL_cell_7 rfl (lv_at hl 1 rfl) ?_
    obtain ⟨n2, hF⟩ := ifO hF
    refine va_sld hC.1 hC.2.1 hX hbl hbA hw.2.2.2.2 n2 dL_cell_8 ?_
    refine lv_goto (tgt := 20) hC.1 hC.2.1 dL_cell_9 (by decide) ?_
    exact r_iretP hC hw hF dL_cell_20
abbrev rm_L_up : Room := { frames := 0, cells := 0, slots := 0, locals := 0 }
theorem ys_L_up : YS yL_up cL_up 2 (some .int) 2 := ⟨⟨q3_138, q1_0, q3_139⟩, by decide +kernel⟩
theorem dL_up_0 : decode cL_up 0 = .ok (.iload_n 0, 1) := by decide +kernel
theorem dL_up_1 : decode cL_up 1 = .ok (.ldc 8, 2) := by decide +kernel
theorem dL_up_3 : decode cL_up 3 = .ok (.iand, 1) := by decide +kernel
theorem dL_up_4 : decode cL_up 4 = .ok (.iload_n 1, 1) := by decide +kernel
theorem dL_up_5 : decode cL_up 5 = .ok (.irem, 1) := by decide +kernel
theorem dL_up_6 : decode cL_up 6 = .ok (.ireturn, 1) := by decide +kernel
def F_L_up (fu : Nat) (M : Mm) (x0 : Int32) (x1 : Int32) : Option Int32 :=
  if x1 = 0 then none else (
  some ((x0 &&& (2147483647 : Int32)) - (x0 &&& (2147483647 : Int32)) / x1 * x1))
set_option maxRecDepth 100000 in
set_option maxHeartbeats 4000000 in
theorem c_L_up {l : Launch} {G : Gv} {fu : Nat} {M : Mm} {x0 : Int32} {x1 : Int32} {r : Int32} (hF : F_L_up fu M x0 x1 = some r) : Met l yL_up (.code yL_up cL_up 2 (some .int) :: zU) rm_L_up (va_Pc [.int x0, .int x1] (Wd G M)) (QI G r M) 0 0 (zA G) := by
  refine zMet (by decide) rfl (Nat.le_of_ble_eq_true rfl) ?_
  intro p e s m below meth c hC hw ls hl
  have hl : lv_has ls 2 [(0, .int x0), (1, .int x1)] := hl
  unfold F_L_up at hF
  refine lv_iload_n hC.1 hC.2.1 dL_up_0 rfl (lv_at hl 0 rfl) ?_
  refine lv_ldc (v := (2147483647 : Int32)) hC.1 hC.2.1 hC.2.2.2.1 (hC.2.2.2.2.1 _ q3_140) dL_up_1 ?_
  refine lv_iand hC.1 hC.2.1 dL_up_3 ?_
  refine lv_iload_n hC.1 hC.2.1 dL_up_4 rfl (lv_at hl 1 rfl) ?_
  obtain ⟨n1, hF⟩ := ifO hF
  refine lv_irem hC.1 hC.2.1 dL_up_5 n1 ?_
  exact r_iretP hC hw hF dL_up_6
abbrev rm_L_bits : Room := { frames := 0, cells := 0, slots := 0, locals := 0 }
theorem ys_L_bits : YS yL_bits cL_bits 3 (some .int) 1 := ⟨⟨q3_142, q1_0, q3_143⟩, by decide +kernel⟩
theorem dL_bits_0 : decode cL_bits 0 = .ok (.iconst 0, 1) := by decide +kernel
theorem dL_bits_1 : decode cL_bits 1 = .ok (.istore_n 1, 1) := by decide +kernel
theorem dL_bits_2 : decode cL_bits 2 = .ok (.iload_n 0, 1) := by decide +kernel
theorem dL_bits_3 : decode cL_bits 3 = .ok (.istore_n 2, 1) := by decide +kernel
theorem dL_bits_4 : decode cL_bits 4 = .ok (.iload_n 2, 1) := by decide +kernel
theorem dL_bits_5 : decode cL_bits 5 = .ok (.ifCond .le 16, 3) := by decide +kernel
theorem dL_bits_8 : decode cL_bits 8 = .ok (.iload_n 1, 1) := by decide +kernel
theorem dL_bits_9 : decode cL_bits 9 = .ok (.iload_n 2, 1) := by decide +kernel
theorem dL_bits_10 : decode cL_bits 10 = .ok (.iconst 1, 1) := by decide +kernel
theorem dL_bits_11 : decode cL_bits 11 = .ok (.iand, 1) := by decide +kernel
theorem dL_bits_12 : decode cL_bits 12 = .ok (.iadd, 1) := by decide +kernel
theorem dL_bits_13 : decode cL_bits 13 = .ok (.istore_n 1, 1) := by decide +kernel
theorem dL_bits_14 : decode cL_bits 14 = .ok (.iload_n 2, 1) := by decide +kernel
theorem dL_bits_15 : decode cL_bits 15 = .ok (.iconst 1, 1) := by decide +kernel
theorem dL_bits_16 : decode cL_bits 16 = .ok (.ishr, 1) := by decide +kernel
theorem dL_bits_17 : decode cL_bits 17 = .ok (.istore_n 2, 1) := by decide +kernel
theorem dL_bits_18 : decode cL_bits 18 = .ok (.goto (-14), 3) := by decide +kernel
theorem dL_bits_21 : decode cL_bits 21 = .ok (.iload_n 1, 1) := by decide +kernel
theorem dL_bits_22 : decode cL_bits 22 = .ok (.ireturn, 1) := by decide +kernel
def F_L_bits_4 (fu : Nat) (M : Mm) : Nat → Int32 → Int32 → Option Int32
  | 0, _, _ => none
  | n + 1, x1, x2 =>
    if x2 ≤ 0 then
      some x1
    else
      F_L_bits_4 fu M n (x1 + (x2 &&& (1 : Int32))) (x2 >>> ((1 : Int32) &&& 31))
set_option maxRecDepth 100000 in
set_option maxHeartbeats 4000000 in
theorem w_L_bits_4 {p : Program} {l : Launch} {e : Env} {s : State} {m : MethodId} {args : Array Value} {below : List Frame} {meth : Method} {c : Code} {G : Gv} (hC : Cx p s m args meth c cL_bits 3 (some .int) RL) {fu : Nat} {r : Int32} {M : Mm} : ∀ (n : Nat) {x1 : Int32} {x2 : Int32} {H : Heap} {locs : List Loc} {ls : Array Slot}, F_L_bits_4 fu M n x1 x2 = some r → St G s H locs M → lv_has ls 3 [(1, .int x1), (2, .int x2)] → W p l e rm_L_bits s m args below meth c H locs 0 0 (MQ below (QI G r M) args s 0 0 (zA G)) (F0 m 4 ls []) := by
  intro n
  induction n with
  | zero =>
    intro x1 x2 H locs ls hF hw hl
    cases hF
  | succ n ih =>
    intro x1 x2 H locs ls hF hw hl
    unfold F_L_bits_4 at hF
    refine lv_iload_n hC.1 hC.2.1 dL_bits_4 rfl (lv_at hl 1 rfl) ?_
    refine lv_if_le (tgt := 21) hC.1 hC.2.1 dL_bits_5 (by decide) (fun b1 => ?_) (fun b1 => ?_)
    · have hF := ifP hF b1
      refine lv_iload_n hC.1 hC.2.1 dL_bits_21 rfl (lv_at hl 0 rfl) ?_
      exact r_iretP hC hw hF dL_bits_22
    · have hF := ifN hF b1
      refine lv_iload_n hC.1 hC.2.1 dL_bits_8 rfl (lv_at hl 0 rfl) ?_
      refine lv_iload_n hC.1 hC.2.1 dL_bits_9 rfl (lv_at hl 1 rfl) ?_
      refine lv_iconst (v := (1 : Int32)) hC.1 hC.2.1 dL_bits_10 (by decide) ?_
      refine lv_iand hC.1 hC.2.1 dL_bits_11 ?_
      refine lv_iadd hC.1 hC.2.1 dL_bits_12 ?_
      refine lv_istore_n (lv' := [(1, .int (x1 + (x2 &&& (1 : Int32)))), (2, .int x2)]) hC.1 hC.2.1 dL_bits_13 rfl hl (by decide) rfl (fun ls hl => ?_)
      refine lv_iload_n hC.1 hC.2.1 dL_bits_14 rfl (lv_at hl 1 rfl) ?_
      refine lv_iconst (v := (1 : Int32)) hC.1 hC.2.1 dL_bits_15 (by decide) ?_
      refine lv_ishr hC.1 hC.2.1 dL_bits_16 ?_
      refine lv_istore_n (lv' := [(2, .int (x2 >>> ((1 : Int32) &&& 31))), (1, .int (x1 + (x2 &&& (1 : Int32))))]) hC.1 hC.2.1 dL_bits_17 rfl hl (by decide) rfl (fun ls hl => ?_)
      refine lv_goto (tgt := 4) hC.1 hC.2.1 dL_bits_18 (by decide) ?_
      exact ih hF hw (lv_sub hl [1, 0] rfl)
def F_L_bits (fu : Nat) (M : Mm) (x0 : Int32) : Option Int32 :=
  F_L_bits_4 fu M fu (0 : Int32) x0
set_option maxRecDepth 100000 in
set_option maxHeartbeats 4000000 in
theorem c_L_bits {l : Launch} {G : Gv} {fu : Nat} {M : Mm} {x0 : Int32} {r : Int32} (hF : F_L_bits fu M x0 = some r) : Met l yL_bits (.code yL_bits cL_bits 3 (some .int) :: zU) rm_L_bits (va_Pc [.int x0] (Wd G M)) (QI G r M) 0 0 (zA G) := by
  refine zMet (by decide) rfl (Nat.le_of_ble_eq_true rfl) ?_
  intro p e s m below meth c hC hw ls hl
  have hl : lv_has ls 3 [(0, .int x0)] := hl
  unfold F_L_bits at hF
  refine lv_iconst (v := (0 : Int32)) hC.1 hC.2.1 dL_bits_0 (by decide) ?_
  refine lv_istore_n (lv' := [(1, .int (0 : Int32)), (0, .int x0)]) hC.1 hC.2.1 dL_bits_1 rfl hl (by decide) rfl (fun ls hl => ?_)
  refine lv_iload_n hC.1 hC.2.1 dL_bits_2 rfl (lv_at hl 1 rfl) ?_
  refine lv_istore_n (lv' := [(2, .int x0), (1, .int (0 : Int32)), (0, .int x0)]) hC.1 hC.2.1 dL_bits_3 rfl hl (by decide) rfl (fun ls hl => ?_)
  exact w_L_bits_4 hC _ hF hw (lv_sub hl [1, 0] rfl)
abbrev rm_L_letter : Room := { frames := 0, cells := 0, slots := 0, locals := 0 }
theorem ys_L_letter : YS yL_letter cL_letter 1 (some .int) 1 := ⟨⟨q3_171, q1_0, q3_172⟩, by decide +kernel⟩
theorem dL_letter_0 : decode cL_letter 0 = .ok (.iload_n 0, 1) := by decide +kernel
theorem dL_letter_1 : decode cL_letter 1 = .ok (.ifCond .ne 8, 3) := by decide +kernel
theorem dL_letter_4 : decode cL_letter 4 = .ok (.bipush 109, 2) := by decide +kernel
theorem dL_letter_6 : decode cL_letter 6 = .ok (.goto 45, 3) := by decide +kernel
theorem dL_letter_9 : decode cL_letter 9 = .ok (.iload_n 0, 1) := by decide +kernel
theorem dL_letter_10 : decode cL_letter 10 = .ok (.iconst 1, 1) := by decide +kernel
theorem dL_letter_11 : decode cL_letter 11 = .ok (.if_icmp .ne 8, 3) := by decide +kernel
theorem dL_letter_14 : decode cL_letter 14 = .ok (.bipush 104, 2) := by decide +kernel
theorem dL_letter_16 : decode cL_letter 16 = .ok (.goto 35, 3) := by decide +kernel
theorem dL_letter_19 : decode cL_letter 19 = .ok (.iload_n 0, 1) := by decide +kernel
theorem dL_letter_20 : decode cL_letter 20 = .ok (.iconst 2, 1) := by decide +kernel
theorem dL_letter_21 : decode cL_letter 21 = .ok (.if_icmp .ne 8, 3) := by decide +kernel
theorem dL_letter_24 : decode cL_letter 24 = .ok (.bipush 119, 2) := by decide +kernel
theorem dL_letter_26 : decode cL_letter 26 = .ok (.goto 25, 3) := by decide +kernel
theorem dL_letter_29 : decode cL_letter 29 = .ok (.iload_n 0, 1) := by decide +kernel
theorem dL_letter_30 : decode cL_letter 30 = .ok (.iconst 3, 1) := by decide +kernel
theorem dL_letter_31 : decode cL_letter 31 = .ok (.if_icmp .ne 8, 3) := by decide +kernel
theorem dL_letter_34 : decode cL_letter 34 = .ok (.bipush 115, 2) := by decide +kernel
theorem dL_letter_36 : decode cL_letter 36 = .ok (.goto 15, 3) := by decide +kernel
theorem dL_letter_39 : decode cL_letter 39 = .ok (.iload_n 0, 1) := by decide +kernel
theorem dL_letter_40 : decode cL_letter 40 = .ok (.iconst 4, 1) := by decide +kernel
theorem dL_letter_41 : decode cL_letter 41 = .ok (.if_icmp .ne 8, 3) := by decide +kernel
theorem dL_letter_44 : decode cL_letter 44 = .ok (.bipush 108, 2) := by decide +kernel
theorem dL_letter_46 : decode cL_letter 46 = .ok (.goto 5, 3) := by decide +kernel
theorem dL_letter_49 : decode cL_letter 49 = .ok (.bipush 105, 2) := by decide +kernel
theorem dL_letter_51 : decode cL_letter 51 = .ok (.ireturn, 1) := by decide +kernel
def F_L_letter (fu : Nat) (M : Mm) (x0 : Int32) : Option Int32 :=
  if x0 = 0 then
    some (109 : Int32)
  else
    if x0 = (1 : Int32) then
      some (104 : Int32)
    else
      if x0 = (2 : Int32) then
        some (119 : Int32)
      else
        if x0 = (3 : Int32) then
          some (115 : Int32)
        else
          if x0 = (4 : Int32) then
            some (108 : Int32)
          else
            some (105 : Int32)
set_option maxRecDepth 100000 in
set_option maxHeartbeats 4000000 in
theorem c_L_letter {l : Launch} {G : Gv} {fu : Nat} {M : Mm} {x0 : Int32} {r : Int32} (hF : F_L_letter fu M x0 = some r) : Met l yL_letter (.code yL_letter cL_letter 1 (some .int) :: zU) rm_L_letter (va_Pc [.int x0] (Wd G M)) (QI G r M) 0 0 (zA G) := by
  refine zMet (by decide) rfl (Nat.le_of_ble_eq_true rfl) ?_
  intro p e s m below meth c hC hw ls hl
  have hl : lv_has ls 1 [(0, .int x0)] := hl
  unfold F_L_letter at hF
  refine lv_iload_n hC.1 hC.2.1 dL_letter_0 rfl (lv_at hl 0 rfl) ?_
  refine lv_if_ne (tgt := 9) hC.1 hC.2.1 dL_letter_1 (by decide) (fun b1 => ?_) (fun b1 => ?_)
  · have hF := ifN hF b1
    refine lv_iload_n hC.1 hC.2.1 dL_letter_9 rfl (lv_at hl 0 rfl) ?_
    refine lv_iconst (v := (1 : Int32)) hC.1 hC.2.1 dL_letter_10 (by decide) ?_
    refine lv_icmp_ne (tgt := 19) hC.1 hC.2.1 dL_letter_11 (by decide) (fun b2 => ?_) (fun b2 => ?_)
    · have hF := ifN hF b2
      refine lv_iload_n hC.1 hC.2.1 dL_letter_19 rfl (lv_at hl 0 rfl) ?_
      refine lv_iconst (v := (2 : Int32)) hC.1 hC.2.1 dL_letter_20 (by decide) ?_
      refine lv_icmp_ne (tgt := 29) hC.1 hC.2.1 dL_letter_21 (by decide) (fun b3 => ?_) (fun b3 => ?_)
      · have hF := ifN hF b3
        refine lv_iload_n hC.1 hC.2.1 dL_letter_29 rfl (lv_at hl 0 rfl) ?_
        refine lv_iconst (v := (3 : Int32)) hC.1 hC.2.1 dL_letter_30 (by decide) ?_
        refine lv_icmp_ne (tgt := 39) hC.1 hC.2.1 dL_letter_31 (by decide) (fun b4 => ?_) (fun b4 => ?_)
        · have hF := ifN hF b4
          refine lv_iload_n hC.1 hC.2.1 dL_letter_39 rfl (lv_at hl 0 rfl) ?_
          refine lv_iconst (v := (4 : Int32)) hC.1 hC.2.1 dL_letter_40 (by decide) ?_
          refine lv_icmp_ne (tgt := 49) hC.1 hC.2.1 dL_letter_41 (by decide) (fun b5 => ?_) (fun b5 => ?_)
          · have hF := ifN hF b5
            refine lv_bipush (v := (105 : Int32)) hC.1 hC.2.1 dL_letter_49 (by decide) ?_
            exact r_iretP hC hw hF dL_letter_51
          · have hF := ifP hF b5
            refine lv_bipush (v := (108 : Int32)) hC.1 hC.2.1 dL_letter_44 (by decide) ?_
            refine lv_goto (tgt := 51) hC.1 hC.2.1 dL_letter_46 (by decide) ?_
            exact r_iretP hC hw hF dL_letter_51
        · have hF := ifP hF b4
          refine lv_bipush (v := (115 : Int32)) hC.1 hC.2.1 dL_letter_34 (by decide) ?_
          refine lv_goto (tgt := 51) hC.1 hC.2.1 dL_letter_36 (by decide) ?_
          exact r_iretP hC hw hF dL_letter_51
      · have hF := ifP hF b3
        refine lv_bipush (v := (119 : Int32)) hC.1 hC.2.1 dL_letter_24 (by decide) ?_
        refine lv_goto (tgt := 51) hC.1 hC.2.1 dL_letter_26 (by decide) ?_
        exact r_iretP hC hw hF dL_letter_51
    · have hF := ifP hF b2
      refine lv_bipush (v := (104 : Int32)) hC.1 hC.2.1 dL_letter_14 (by decide) ?_
      refine lv_goto (tgt := 51) hC.1 hC.2.1 dL_letter_16 (by decide) ?_
      exact r_iretP hC hw hF dL_letter_51
  · have hF := ifP hF b1
    refine lv_bipush (v := (109 : Int32)) hC.1 hC.2.1 dL_letter_4 (by decide) ?_
    refine lv_goto (tgt := 51) hC.1 hC.2.1 dL_letter_6 (by decide) ?_
    exact r_iretP hC hw hF dL_letter_51
