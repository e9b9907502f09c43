abbrev rm_X6_kinds : Room := { frames := 3, cells := 0, slots := 0, locals := 79 }
theorem yv_X6_kinds : YV yX6_kinds cX6_kinds 7 (some .int) 2 RX6 := ⟨⟨q3_200, q3_201, q1_1, q3_202⟩, by decide +kernel⟩
theorem dX6_kinds_0 : decode cX6_kinds 0 = .ok (.aload_n 0, 1) := by decide +kernel
theorem dX6_kinds_1 : decode cX6_kinds 1 = .ok (.iload_n 1, 1) := by decide +kernel
theorem dX6_kinds_2 : decode cX6_kinds 2 = .ok (.iload_n 2, 1) := by decide +kernel
theorem dX6_kinds_3 : decode cX6_kinds 3 = .ok (.invokevirtual 293, 3) := by decide +kernel
theorem dX6_kinds_6 : decode cX6_kinds 6 = .ok (.istore_n 3, 1) := by decide +kernel
theorem dX6_kinds_7 : decode cX6_kinds 7 = .ok (.aload_n 0, 1) := by decide +kernel
theorem dX6_kinds_8 : decode cX6_kinds 8 = .ok (.iload_n 2, 1) := by decide +kernel
theorem dX6_kinds_9 : decode cX6_kinds 9 = .ok (.invokevirtual 78, 3) := by decide +kernel
theorem dX6_kinds_12 : decode cX6_kinds 12 = .ok (.astore 4, 2) := by decide +kernel
theorem dX6_kinds_14 : decode cX6_kinds 14 = .ok (.iload_n 3, 1) := by decide +kernel
theorem dX6_kinds_15 : decode cX6_kinds 15 = .ok (.ifCond .ne 8, 3) := by decide +kernel
theorem dX6_kinds_18 : decode cX6_kinds 18 = .ok (.aload 4, 2) := by decide +kernel
theorem dX6_kinds_20 : decode cX6_kinds 20 = .ok (.ifnonnull 5, 3) := by decide +kernel
theorem dX6_kinds_23 : decode cX6_kinds 23 = .ok (.iload_n 3, 1) := by decide +kernel
theorem dX6_kinds_24 : decode cX6_kinds 24 = .ok (.ireturn, 1) := by decide +kernel
theorem dX6_kinds_25 : decode cX6_kinds 25 = .ok (.iconst 0, 1) := by decide +kernel
theorem dX6_kinds_26 : decode cX6_kinds 26 = .ok (.istore 5, 2) := by decide +kernel
theorem dX6_kinds_28 : decode cX6_kinds 28 = .ok (.iconst 0, 1) := by decide +kernel
theorem dX6_kinds_29 : decode cX6_kinds 29 = .ok (.istore 6, 2) := by decide +kernel
theorem dX6_kinds_31 : decode cX6_kinds 31 = .ok (.iload 6, 2) := by decide +kernel
theorem dX6_kinds_33 : decode cX6_kinds 33 = .ok (.bipush 6, 2) := by decide +kernel
theorem dX6_kinds_35 : decode cX6_kinds 35 = .ok (.if_icmp .ge 62, 3) := by decide +kernel
theorem dX6_kinds_38 : decode cX6_kinds 38 = .ok (.aload_n 0, 1) := by decide +kernel
theorem dX6_kinds_39 : decode cX6_kinds 39 = .ok (.getfield 24, 3) := by decide +kernel
theorem dX6_kinds_42 : decode cX6_kinds 42 = .ok (.iload 6, 2) := by decide +kernel
theorem dX6_kinds_44 : decode cX6_kinds 44 = .ok (.aload_n 0, 1) := by decide +kernel
theorem dX6_kinds_45 : decode cX6_kinds 45 = .ok (.getfield 24, 3) := by decide +kernel
theorem dX6_kinds_48 : decode cX6_kinds 48 = .ok (.getfield 214, 3) := by decide +kernel
theorem dX6_kinds_51 : decode cX6_kinds 51 = .ok (.iload_n 1, 1) := by decide +kernel
theorem dX6_kinds_52 : decode cX6_kinds 52 = .ok (.invokestatic 101, 3) := by decide +kernel
theorem dX6_kinds_55 : decode cX6_kinds 55 = .ok (.aload_n 0, 1) := by decide +kernel
theorem dX6_kinds_56 : decode cX6_kinds 56 = .ok (.getfield 61, 3) := by decide +kernel
theorem dX6_kinds_59 : decode cX6_kinds 59 = .ok (.invokevirtual 296, 3) := by decide +kernel
theorem dX6_kinds_62 : decode cX6_kinds 62 = .ok (.aload_n 0, 1) := by decide +kernel
theorem dX6_kinds_63 : decode cX6_kinds 63 = .ok (.aload 4, 2) := by decide +kernel
theorem dX6_kinds_65 : decode cX6_kinds 65 = .ok (.aload_n 0, 1) := by decide +kernel
theorem dX6_kinds_66 : decode cX6_kinds 66 = .ok (.getfield 24, 3) := by decide +kernel
theorem dX6_kinds_69 : decode cX6_kinds 69 = .ok (.getfield 169, 3) := by decide +kernel
theorem dX6_kinds_72 : decode cX6_kinds 72 = .ok (.iload_n 1, 1) := by decide +kernel
theorem dX6_kinds_73 : decode cX6_kinds 73 = .ok (.invokestatic 101, 3) := by decide +kernel
theorem dX6_kinds_76 : decode cX6_kinds 76 = .ok (.invokevirtual 300, 3) := by decide +kernel
theorem dX6_kinds_79 : decode cX6_kinds 79 = .ok (.ifCond .eq 12, 3) := by decide +kernel
theorem dX6_kinds_82 : decode cX6_kinds 82 = .ok (.iload 5, 2) := by decide +kernel
theorem dX6_kinds_84 : decode cX6_kinds 84 = .ok (.iconst 1, 1) := by decide +kernel
theorem dX6_kinds_85 : decode cX6_kinds 85 = .ok (.iload 6, 2) := by decide +kernel
theorem dX6_kinds_87 : decode cX6_kinds 87 = .ok (.ishl, 1) := by decide +kernel
theorem dX6_kinds_88 : decode cX6_kinds 88 = .ok (.ior, 1) := by decide +kernel
theorem dX6_kinds_89 : decode cX6_kinds 89 = .ok (.istore 5, 2) := by decide +kernel
theorem dX6_kinds_91 : decode cX6_kinds 91 = .ok (.iinc 6 1, 3) := by decide +kernel
theorem dX6_kinds_94 : decode cX6_kinds 94 = .ok (.goto (-63), 3) := by decide +kernel
theorem dX6_kinds_97 : decode cX6_kinds 97 = .ok (.iload 5, 2) := by decide +kernel
theorem dX6_kinds_99 : decode cX6_kinds 99 = .ok (.ireturn, 1) := by decide +kernel
def F_X6_kinds_31 (fu : Nat) : Nat → Mm → Int32 → Nat → Int32 → Int32 → Option (Int32 × Mm)
  | 0, _, _, _, _, _ => none
  | n + 1, M, x1, c4, x5, x6 =>
    if (6 : Int32) ≤ x6 then
      some (x5, M)
    else
      ob1 (F_X6_read fu M 29 x1) (fun r3 =>
      ob1 (F_X2_foreseeMelted fu M 24 x6 r3 81) (fun M5 =>
      ob1 (F_X6_read fu M5 28 x1) (fun r7 =>
      ob1 (F_X6_isAsSeen fu M5 c4 r7) (fun r9 =>
      if r9 = 0 then
        F_X6_kinds_31 fu n M5 x1 c4 x5 (x6 + (1 : Int32))
      else
        F_X6_kinds_31 fu n M5 x1 c4 (x5 ||| ((1 : Int32) <<< (x6 &&& 31))) (x6 + (1 : Int32))))))
set_option maxRecDepth 100000 in
set_option maxHeartbeats 4000000 in
theorem w_X6_kinds_31 {p : Program} {l : Launch} {e : Env} {s : State} {m : MethodId} {args : Array Value} {below : List Frame} {meth : Method} {c : Code} {G : Gv} (hC : Cx p s m args meth c cX6_kinds 7 (some .int) RX6) {fu : Nat} {r : Int32} {M' : Mm} : ∀ (n : Nat) {x1 : Int32} {c4 : Nat} {x5 : Int32} {x6 : Int32} {M : Mm} {H : Heap} {locs : List Loc} {ls : Array Slot} (hk4 : kd c4 = 12), F_X6_kinds_31 fu n M x1 c4 x5 x6 = some (r, M') → St G s H locs M → lv_has ls 7 [(0, .ref (ad G 0)), (1, .int x1), (4, .ref (ad G c4)), (5, .int x5), (6, .int x6)] → W p l e rm_X6_kinds s m args below meth c H locs 0 0 (MQ below (QI G r M') args s 0 0 (zA G)) (F0 m 31 ls []) := by
  intro n
  induction n with
  | zero =>
    intro x1 c4 x5 x6 M H locs ls hk4 hF hw hl
    cases hF
  | succ n ih =>
    intro x1 c4 x5 x6 M H locs ls hk4 hF hw hl
    unfold F_X6_kinds_31 at hF
    refine lv_iload hC.1 hC.2.1 dX6_kinds_31 (lv_at hl 4 rfl) ?_
    refine lv_bipush (v := (6 : Int32)) hC.1 hC.2.1 dX6_kinds_33 (by decide) ?_
    refine lv_icmp_ge (tgt := 97) hC.1 hC.2.1 dX6_kinds_35 (by decide) (fun b1 => ?_) (fun b1 => ?_)
    · have hF := ifP hF b1
      refine lv_iload hC.1 hC.2.1 dX6_kinds_97 (lv_at hl 3 rfl) ?_
      exact r_iretE hC hw hF dX6_kinds_99
    · have hF := ifN hF b1
      refine lv_aload_n hC.1 hC.2.1 dX6_kinds_38 rfl (lv_at hl 0 rfl) ?_
      refine g6_north hC hw q1_202 dX6_kinds_39 ?_
      refine lv_iload hC.1 hC.2.1 dX6_kinds_42 (lv_at hl 4 rfl) ?_
      refine lv_aload_n hC.1 hC.2.1 dX6_kinds_44 rfl (lv_at hl 0 rfl) ?_
      refine g6_north hC hw q1_202 dX6_kinds_45 ?_
      refine g2_shadeOf hC hw (rfl : kd 24 = 11) q1_48 dX6_kinds_48 ?_
      refine lv_iload_n hC.1 hC.2.1 dX6_kinds_51 rfl (lv_at hl 1 rfl) ?_
      obtain ⟨r3, h2, hF⟩ := ob1S hF
      refine k_Si (As := [.ref (ad G 29), .int x1]) (rest := [.int x6, .ref (ad G 24)]) hC hw (c_X6_read (M := M) (rfl : kd 29 = 1) h2) ys_X6_read q2_24 ⟨rfl, rfl⟩ ⟨Nat.le_of_ble_eq_true rfl, Nat.le_of_ble_eq_true rfl⟩ ⟨Nat.zero_le _, Nat.zero_le _⟩ rfl rfl (Nat.le_of_ble_eq_true rfl) hl dX6_kinds_52 (fun H locs hw => ?_)
      refine lv_aload_n hC.1 hC.2.1 dX6_kinds_55 rfl (lv_at hl 0 rfl) ?_
      refine g6_ahead hC hw q1_212 dX6_kinds_56 ?_
      obtain ⟨M5, h4, hF⟩ := ob1S hF
      refine k_Vv (As := [.int x6, .int r3, .ref (ad G 81)]) (rest := []) hC hw (c_X2_foreseeMelted (M := M) (rfl : kd 24 = 11) (rfl : kd 81 = 1) h4) (RC_N (rfl : kd 24 = 11)) yv_X2_foreseeMelted q3_191 ⟨rfl, rfl⟩ ⟨Nat.le_of_ble_eq_true rfl, Nat.le_of_ble_eq_true rfl⟩ ⟨Nat.zero_le _, Nat.zero_le _⟩ rfl rfl (Nat.le_of_ble_eq_true rfl) hl dX6_kinds_59 (fun H locs hw => ?_)
      refine lv_aload_n hC.1 hC.2.1 dX6_kinds_62 rfl (lv_at hl 0 rfl) ?_
      refine lv_aload hC.1 hC.2.1 dX6_kinds_63 (lv_at hl 2 rfl) ?_
      refine lv_aload_n hC.1 hC.2.1 dX6_kinds_65 rfl (lv_at hl 0 rfl) ?_
      refine g6_north hC hw q1_202 dX6_kinds_66 ?_
      refine g2_bulkOf hC hw (rfl : kd 24 = 11) q1_45 dX6_kinds_69 ?_
      refine lv_iload_n hC.1 hC.2.1 dX6_kinds_72 rfl (lv_at hl 1 rfl) ?_
      obtain ⟨r7, h6, hF⟩ := ob1S hF
      refine k_Si (As := [.ref (ad G 28), .int x1]) (rest := [.ref (ad G c4), .ref (ad G 0)]) hC hw (c_X6_read (M := M5) (rfl : kd 28 = 1) h6) ys_X6_read q2_24 ⟨rfl, rfl⟩ ⟨Nat.le_of_ble_eq_true rfl, Nat.le_of_ble_eq_true rfl⟩ ⟨Nat.zero_le _, Nat.zero_le _⟩ rfl rfl (Nat.le_of_ble_eq_true rfl) hl dX6_kinds_73 (fun H locs hw => ?_)
      obtain ⟨r9, h8, hF⟩ := ob1S hF
      refine k_Vi (As := [.ref (ad G c4), .int r7]) (rest := []) hC hw (c_X6_isAsSeen (M := M5) hk4 h8) RC_S yv_X6_isAsSeen q3_195 ⟨rfl, rfl⟩ ⟨Nat.le_of_ble_eq_true rfl, Nat.le_of_ble_eq_true rfl⟩ ⟨Nat.zero_le _, Nat.zero_le _⟩ rfl rfl (Nat.le_of_ble_eq_true rfl) hl dX6_kinds_76 (fun H locs hw => ?_)
      refine lv_if_eq (tgt := 91) hC.1 hC.2.1 dX6_kinds_79 (by decide) (fun b10 => ?_) (fun b10 => ?_)
      · have hF := ifP hF b10
        refine lv_iinc (v := (x6 + (1 : Int32))) (lv' := [(6, .int (x6 + (1 : Int32))), (0, .ref (ad G 0)), (1, .int x1), (4, .ref (ad G c4)), (5, .int x5)]) hC.1 hC.2.1 dX6_kinds_91 hl (k := 4) rfl rfl (by decide) rfl (fun ls hl => ?_)
        refine lv_goto (tgt := 31) hC.1 hC.2.1 dX6_kinds_94 (by decide) ?_
        exact ih hk4 hF hw (lv_sub hl [1, 2, 3, 4, 0] rfl)
      · have hF := ifN hF b10
        refine lv_iload hC.1 hC.2.1 dX6_kinds_82 (lv_at hl 3 rfl) ?_
        refine lv_iconst (v := (1 : Int32)) hC.1 hC.2.1 dX6_kinds_84 (by decide) ?_
        refine lv_iload hC.1 hC.2.1 dX6_kinds_85 (lv_at hl 4 rfl) ?_
        refine lv_ishl hC.1 hC.2.1 dX6_kinds_87 ?_
        refine lv_ior hC.1 hC.2.1 dX6_kinds_88 ?_
        refine lv_istore (lv' := [(5, .int (x5 ||| ((1 : Int32) <<< (x6 &&& 31)))), (0, .ref (ad G 0)), (1, .int x1), (4, .ref (ad G c4)), (6, .int x6)]) hC.1 hC.2.1 dX6_kinds_89 hl (by decide) rfl (fun ls hl => ?_)
        refine lv_iinc (v := (x6 + (1 : Int32))) (lv' := [(6, .int (x6 + (1 : Int32))), (5, .int (x5 ||| ((1 : Int32) <<< (x6 &&& 31)))), (0, .ref (ad G 0)), (1, .int x1), (4, .ref (ad G c4))]) hC.1 hC.2.1 dX6_kinds_91 hl (k := 4) rfl rfl (by decide) rfl (fun ls hl => ?_)
        refine lv_goto (tgt := 31) hC.1 hC.2.1 dX6_kinds_94 (by decide) ?_
        exact ih hk4 hF hw (lv_sub hl [2, 3, 4, 1, 0] rfl)
def F_X6_kinds (fu : Nat) (M : Mm) (x1 : Int32) (x2 : Int32) : Option (Int32 × Mm) :=
  ob2 (F_X6_refusalOfSeen fu M x1 x2) (fun r2 M3 =>
  ob1 (F_X6_rowOf fu M3 x2) (fun r5 =>
  op1 r5 (
    if r2 = 0 then
      some (r2, M3)
    else
      some (r2, M3)) (fun c6 =>
    if ¬ kd c6 = 12 then none else (
    if r2 = 0 then
      F_X6_kinds_31 fu fu M3 x1 c6 (0 : Int32) (0 : Int32)
    else
      some (r2, M3)))))
set_option maxRecDepth 100000 in
set_option maxHeartbeats 4000000 in
theorem c_X6_kinds {l : Launch} {G : Gv} {fu : Nat} {M : Mm} {x1 : Int32} {x2 : Int32} {r : Int32} {M' : Mm} (hF : F_X6_kinds fu M x1 x2 = some (r, M')) : Met l yX6_kinds (.code yX6_kinds cX6_kinds 7 (some .int) :: zU) rm_X6_kinds (va_Pc [.ref (ad G 0), .int x1, .int x2] (Wd G M)) (QI G r M') 0 0 (zA G) := by
  refine zMet (by decide) rfl (Nat.le_of_ble_eq_true rfl) ?_
  intro p e s m below meth c hC hw ls hl
  have hl : lv_has ls 7 [(0, .ref (ad G 0)), (1, .int x1), (2, .int x2)] := hl
  unfold F_X6_kinds at hF
  refine lv_aload_n hC.1 hC.2.1 dX6_kinds_0 rfl (lv_at hl 0 rfl) ?_
  refine lv_iload_n hC.1 hC.2.1 dX6_kinds_1 rfl (lv_at hl 1 rfl) ?_
  refine lv_iload_n hC.1 hC.2.1 dX6_kinds_2 rfl (lv_at hl 2 rfl) ?_
  obtain ⟨r2, M3, h1, hF⟩ := ob2S hF
  refine k_Vi (As := [.int x1, .int x2]) (rest := []) hC hw (c_X6_refusalOfSeen (M := M) h1) RC_S yv_X6_refusalOfSeen q3_187 ⟨rfl, rfl⟩ ⟨Nat.le_of_ble_eq_true rfl, Nat.le_of_ble_eq_true rfl⟩ ⟨Nat.zero_le _, Nat.zero_le _⟩ rfl rfl (Nat.le_of_ble_eq_true rfl) hl dX6_kinds_3 (fun H locs hw => ?_)
  refine lv_istore_n (lv' := [(3, .int r2), (0, .ref (ad G 0)), (1, .int x1), (2, .int x2)]) hC.1 hC.2.1 dX6_kinds_6 rfl hl (by decide) rfl (fun ls hl => ?_)
  refine lv_aload_n hC.1 hC.2.1 dX6_kinds_7 rfl (lv_at hl 1 rfl) ?_
  refine lv_iload_n hC.1 hC.2.1 dX6_kinds_8 rfl (lv_at hl 3 rfl) ?_
  obtain ⟨r5, h4, hF⟩ := ob1S hF
  refine k_Vq (As := [.int x2]) (rest := []) hC hw (c_X6_rowOf (M := M3) h4) RC_S yv_X6_rowOf q2_16 ⟨rfl, rfl⟩ ⟨Nat.le_of_ble_eq_true rfl, Nat.le_of_ble_eq_true rfl⟩ ⟨Nat.zero_le _, Nat.zero_le _⟩ rfl rfl (Nat.le_of_ble_eq_true rfl) hl dX6_kinds_9 (fun H locs hw => ?_)
  cases r5 with
  | none =>
    have hF := op1N hF
    refine topN ?_
    refine lv_astoreN (lv' := [(4, .null), (3, .int r2), (0, .ref (ad G 0)), (1, .int x1), (2, .int x2)]) hC.1 hC.2.1 dX6_kinds_12 hl (by decide) rfl (fun ls hl => ?_)
    refine lv_iload_n hC.1 hC.2.1 dX6_kinds_14 rfl (lv_at hl 1 rfl) ?_
    refine lv_if_ne (tgt := 23) hC.1 hC.2.1 dX6_kinds_15 (by decide) (fun b8 => ?_) (fun b8 => ?_)
    · have hF := ifN hF b8
      refine lv_iload_n hC.1 hC.2.1 dX6_kinds_23 rfl (lv_at hl 1 rfl) ?_
      exact r_iretE hC hw hF dX6_kinds_24
    · have hF := ifP hF b8
      refine lv_aloadN hC.1 hC.2.1 dX6_kinds_18 (lv_at hl 0 rfl) ?_
      refine lv_ifnonnullN hC.1 hC.2.1 dX6_kinds_20 ?_
      refine lv_iload_n hC.1 hC.2.1 dX6_kinds_23 rfl (lv_at hl 1 rfl) ?_
      exact r_iretE hC hw hF dX6_kinds_24
  | some c6 =>
    obtain ⟨g7, hF⟩ := ifO (op1C hF)
    have g7 := Decidable.not_not.mp g7
    refine topC ?_
    refine lv_astore (lv' := [(4, .ref (ad G c6)), (3, .int r2), (0, .ref (ad G 0)), (1, .int x1), (2, .int x2)]) hC.1 hC.2.1 dX6_kinds_12 hl (by decide) rfl (fun ls hl => ?_)
    refine lv_iload_n hC.1 hC.2.1 dX6_kinds_14 rfl (lv_at hl 1 rfl) ?_
    refine lv_if_ne (tgt := 23) hC.1 hC.2.1 dX6_kinds_15 (by decide) (fun b9 => ?_) (fun b9 => ?_)
    · have hF := ifN hF b9
      refine lv_iload_n hC.1 hC.2.1 dX6_kinds_23 rfl (lv_at hl 1 rfl) ?_
      exact r_iretE hC hw hF dX6_kinds_24
    · have hF := ifP hF b9
      refine lv_aload hC.1 hC.2.1 dX6_kinds_18 (lv_at hl 0 rfl) ?_
      refine lv_ifnonnull (tgt := 25) hC.1 hC.2.1 dX6_kinds_20 (by decide) ?_
      refine lv_iconst (v := (0 : Int32)) hC.1 hC.2.1 dX6_kinds_25 (by decide) ?_
      refine lv_istore (lv' := [(5, .int (0 : Int32)), (4, .ref (ad G c6)), (3, .int r2), (0, .ref (ad G 0)), (1, .int x1), (2, .int x2)]) hC.1 hC.2.1 dX6_kinds_26 hl (by decide) rfl (fun ls hl => ?_)
      refine lv_iconst (v := (0 : Int32)) hC.1 hC.2.1 dX6_kinds_28 (by decide) ?_
      refine lv_istore (lv' := [(6, .int (0 : Int32)), (5, .int (0 : Int32)), (4, .ref (ad G c6)), (3, .int r2), (0, .ref (ad G 0)), (1, .int x1), (2, .int x2)]) hC.1 hC.2.1 dX6_kinds_29 hl (by decide) rfl (fun ls hl => ?_)
      exact w_X6_kinds_31 hC _ g7 hF hw (lv_sub hl [4, 5, 2, 1, 0] rfl)
abbrev rm_X6_rights : Room := { frames := 3, cells := 0, slots := 0, locals := 67 }
theorem yv_X6_rights : YV yX6_rights cX6_rights 4 (some .int) 1 RX6 := ⟨⟨q3_204, q3_205, q1_1, q3_206⟩, by decide +kernel⟩
theorem dX6_rights_0 : decode cX6_rights 0 = .ok (.aload_n 0, 1) := by decide +kernel
theorem dX6_rights_1 : decode cX6_rights 1 = .ok (.getfield 24, 3) := by decide +kernel
theorem dX6_rights_4 : decode cX6_rights 4 = .ok (.iload_n 1, 1) := by decide +kernel
theorem dX6_rights_5 : decode cX6_rights 5 = .ok (.invokevirtual 249, 3) := by decide +kernel
theorem dX6_rights_8 : decode cX6_rights 8 = .ok (.ifCond .ne 5, 3) := by decide +kernel
theorem dX6_rights_11 : decode cX6_rights 11 = .ok (.iconst (-1), 1) := by decide +kernel
theorem dX6_rights_12 : decode cX6_rights 12 = .ok (.ireturn, 1) := by decide +kernel
theorem dX6_rights_13 : decode cX6_rights 13 = .ok (.iconst 0, 1) := by decide +kernel
theorem dX6_rights_14 : decode cX6_rights 14 = .ok (.istore_n 2, 1) := by decide +kernel
theorem dX6_rights_15 : decode cX6_rights 15 = .ok (.iconst 1, 1) := by decide +kernel
theorem dX6_rights_16 : decode cX6_rights 16 = .ok (.istore_n 3, 1) := by decide +kernel
theorem dX6_rights_17 : decode cX6_rights 17 = .ok (.iload_n 3, 1) := by decide +kernel
theorem dX6_rights_18 : decode cX6_rights 18 = .ok (.bipush 9, 2) := by decide +kernel
theorem dX6_rights_20 : decode cX6_rights 20 = .ok (.if_icmp .gt 27, 3) := by decide +kernel
theorem dX6_rights_23 : decode cX6_rights 23 = .ok (.aload_n 0, 1) := by decide +kernel
theorem dX6_rights_24 : decode cX6_rights 24 = .ok (.getfield 24, 3) := by decide +kernel
theorem dX6_rights_27 : decode cX6_rights 27 = .ok (.iload_n 3, 1) := by decide +kernel
theorem dX6_rights_28 : decode cX6_rights 28 = .ok (.invokevirtual 304, 3) := by decide +kernel
theorem dX6_rights_31 : decode cX6_rights 31 = .ok (.iload_n 1, 1) := by decide +kernel
theorem dX6_rights_32 : decode cX6_rights 32 = .ok (.if_icmp .ne 9, 3) := by decide +kernel
theorem dX6_rights_35 : decode cX6_rights 35 = .ok (.iload_n 2, 1) := by decide +kernel
theorem dX6_rights_36 : decode cX6_rights 36 = .ok (.iconst 1, 1) := by decide +kernel
theorem dX6_rights_37 : decode cX6_rights 37 = .ok (.iload_n 3, 1) := by decide +kernel
theorem dX6_rights_38 : decode cX6_rights 38 = .ok (.ishl, 1) := by decide +kernel
theorem dX6_rights_39 : decode cX6_rights 39 = .ok (.ior, 1) := by decide +kernel
theorem dX6_rights_40 : decode cX6_rights 40 = .ok (.istore_n 2, 1) := by decide +kernel
theorem dX6_rights_41 : decode cX6_rights 41 = .ok (.iinc 3 1, 3) := by decide +kernel
theorem dX6_rights_44 : decode cX6_rights 44 = .ok (.goto (-27), 3) := by decide +kernel
theorem dX6_rights_47 : decode cX6_rights 47 = .ok (.iload_n 2, 1) := by decide +kernel
theorem dX6_rights_48 : decode cX6_rights 48 = .ok (.ireturn, 1) := by decide +kernel
def F_X6_rights_17 (fu : Nat) (M : Mm) : Nat → Int32 → Int32 → Int32 → Option Int32
  | 0, _, _, _ => none
  | n + 1, x1, x2, x3 =>
    if (9 : Int32) < x3 then
      some x2
    else
      ob1 (F_X2_votersBy fu M 24 x3) (fun r3 =>
      if r3 = x1 then
        F_X6_rights_17 fu M n x1 (x2 ||| ((1 : Int32) <<< (x3 &&& 31))) (x3 + (1 : Int32))
      else
        F_X6_rights_17 fu M n x1 x2 (x3 + (1 : Int32)))
set_option maxRecDepth 100000 in
set_option maxHeartbeats 4000000 in
theorem w_X6_rights_17 {p : Program} {l : Launch} {e : Env} {s : State} {m : MethodId} {args : Array Value} {below : List Frame} {meth : Method} {c : Code} {G : Gv} (hC : Cx p s m args meth c cX6_rights 4 (some .int) RX6) {fu : Nat} {r : Int32} {M : Mm} : ∀ (n : Nat) {x1 : Int32} {x2 : Int32} {x3 : Int32} {H : Heap} {locs : List Loc} {ls : Array Slot}, F_X6_rights_17 fu M n x1 x2 x3 = some r → St G s H locs M → lv_has ls 4 [(0, .ref (ad G 0)), (1, .int x1), (2, .int x2), (3, .int x3)] → W p l e rm_X6_rights s m args below meth c H locs 0 0 (MQ below (QI G r M) args s 0 0 (zA G)) (F0 m 17 ls []) := by
  intro n
  induction n with
  | zero =>
    intro x1 x2 x3 H locs ls hF hw hl
    cases hF
  | succ n ih =>
    intro x1 x2 x3 H locs ls hF hw hl
    unfold F_X6_rights_17 at hF
    refine lv_iload_n hC.1 hC.2.1 dX6_rights_17 rfl (lv_at hl 3 rfl) ?_
    refine lv_bipush (v := (9 : Int32)) hC.1 hC.2.1 dX6_rights_18 (by decide) ?_
    refine lv_icmp_gt (tgt := 47) hC.1 hC.2.1 dX6_rights_20 (by decide) (fun b1 => ?_) (fun b1 => ?_)
    · have hF := ifP hF b1
      refine lv_iload_n hC.1 hC.2.1 dX6_rights_47 rfl (lv_at hl 2 rfl) ?_
      exact r_iretP hC hw hF dX6_rights_48
    · have hF := ifN hF b1
      refine lv_aload_n hC.1 hC.2.1 dX6_rights_23 rfl (lv_at hl 0 rfl) ?_
      refine g6_north hC hw q1_202 dX6_rights_24 ?_
      refine lv_iload_n hC.1 hC.2.1 dX6_rights_27 rfl (lv_at hl 3 rfl) ?_
      obtain ⟨r3, h2, hF⟩ := ob1S hF
      refine k_Vi (As := [.int x3]) (rest := []) hC hw (c_X2_votersBy (M := M) (rfl : kd 24 = 11) h2) (RC_N (rfl : kd 24 = 11)) yv_X2_votersBy q3_207 ⟨rfl, rfl⟩ ⟨Nat.le_of_ble_eq_true rfl, Nat.le_of_ble_eq_true rfl⟩ ⟨Nat.zero_le _, Nat.zero_le _⟩ rfl rfl (Nat.le_of_ble_eq_true rfl) hl dX6_rights_28 (fun H locs hw => ?_)
      refine lv_iload_n hC.1 hC.2.1 dX6_rights_31 rfl (lv_at hl 1 rfl) ?_
      refine lv_icmp_ne (tgt := 41) hC.1 hC.2.1 dX6_rights_32 (by decide) (fun b4 => ?_) (fun b4 => ?_)
      · have hF := ifN hF b4
        refine lv_iinc (v := (x3 + (1 : Int32))) (lv' := [(3, .int (x3 + (1 : Int32))), (0, .ref (ad G 0)), (1, .int x1), (2, .int x2)]) hC.1 hC.2.1 dX6_rights_41 hl (k := 3) rfl rfl (by decide) rfl (fun ls hl => ?_)
        refine lv_goto (tgt := 17) hC.1 hC.2.1 dX6_rights_44 (by decide) ?_
        exact ih hF hw (lv_sub hl [1, 2, 3, 0] rfl)
      · have hF := ifP hF b4
        refine lv_iload_n hC.1 hC.2.1 dX6_rights_35 rfl (lv_at hl 2 rfl) ?_
        refine lv_iconst (v := (1 : Int32)) hC.1 hC.2.1 dX6_rights_36 (by decide) ?_
        refine lv_iload_n hC.1 hC.2.1 dX6_rights_37 rfl (lv_at hl 3 rfl) ?_
        refine lv_ishl hC.1 hC.2.1 dX6_rights_38 ?_
        refine lv_ior hC.1 hC.2.1 dX6_rights_39 ?_
        refine lv_istore_n (lv' := [(2, .int (x2 ||| ((1 : Int32) <<< (x3 &&& 31)))), (0, .ref (ad G 0)), (1, .int x1), (3, .int x3)]) hC.1 hC.2.1 dX6_rights_40 rfl hl (by decide) rfl (fun ls hl => ?_)
        refine lv_iinc (v := (x3 + (1 : Int32))) (lv' := [(3, .int (x3 + (1 : Int32))), (2, .int (x2 ||| ((1 : Int32) <<< (x3 &&& 31)))), (0, .ref (ad G 0)), (1, .int x1)]) hC.1 hC.2.1 dX6_rights_41 hl (k := 3) rfl rfl (by decide) rfl (fun ls hl => ?_)
        refine lv_goto (tgt := 17) hC.1 hC.2.1 dX6_rights_44 (by decide) ?_
        exact ih hF hw (lv_sub hl [2, 3, 1, 0] rfl)
def F_X6_rights (fu : Nat) (M : Mm) (x1 : Int32) : Option Int32 :=
  ob1 (F_X2_isSet fu M 24 x1) (fun r2 =>
  if r2 = 0 then
    some (-1 : Int32)
  else
    F_X6_rights_17 fu M fu x1 (0 : Int32) (1 : Int32))
set_option maxRecDepth 100000 in
set_option maxHeartbeats 4000000 in
theorem c_X6_rights {l : Launch} {G : Gv} {fu : Nat} {M : Mm} {x1 : Int32} {r : Int32} (hF : F_X6_rights fu M x1 = some r) : Met l yX6_rights (.code yX6_rights cX6_rights 4 (some .int) :: zU) rm_X6_rights (va_Pc [.ref (ad G 0), .int x1] (Wd G M)) (QI G r M) 0 0 (zA G) := by
  refine zMet (by decide) rfl (Nat.le_of_ble_eq_true rfl) ?_
  intro p e s m below meth c hC hw ls hl
  have hl : lv_has ls 4 [(0, .ref (ad G 0)), (1, .int x1)] := hl
  unfold F_X6_rights at hF
  refine lv_aload_n hC.1 hC.2.1 dX6_rights_0 rfl (lv_at hl 0 rfl) ?_
  refine g6_north hC hw q1_202 dX6_rights_1 ?_
  refine lv_iload_n hC.1 hC.2.1 dX6_rights_4 rfl (lv_at hl 1 rfl) ?_
  obtain ⟨r2, h1, hF⟩ := ob1S hF
  refine k_Vi (As := [.int x1]) (rest := []) hC hw (c_X2_isSet (M := M) (rfl : kd 24 = 11) h1) (RC_N (rfl : kd 24 = 11)) yv_X2_isSet q3_114 ⟨rfl, rfl⟩ ⟨Nat.le_of_ble_eq_true rfl, Nat.le_of_ble_eq_true rfl⟩ ⟨Nat.zero_le _, Nat.zero_le _⟩ rfl rfl (Nat.le_of_ble_eq_true rfl) hl dX6_rights_5 (fun H locs hw => ?_)
  refine lv_if_ne (tgt := 13) hC.1 hC.2.1 dX6_rights_8 (by decide) (fun b3 => ?_) (fun b3 => ?_)
  · have hF := ifN hF b3
    refine lv_iconst (v := (0 : Int32)) hC.1 hC.2.1 dX6_rights_13 (by decide) ?_
    refine lv_istore_n (lv' := [(2, .int (0 : Int32)), (0, .ref (ad G 0)), (1, .int x1)]) hC.1 hC.2.1 dX6_rights_14 rfl hl (by decide) rfl (fun ls hl => ?_)
    refine lv_iconst (v := (1 : Int32)) hC.1 hC.2.1 dX6_rights_15 (by decide) ?_
    refine lv_istore_n (lv' := [(3, .int (1 : Int32)), (2, .int (0 : Int32)), (0, .ref (ad G 0)), (1, .int x1)]) hC.1 hC.2.1 dX6_rights_16 rfl hl (by decide) rfl (fun ls hl => ?_)
    exact w_X6_rights_17 hC _ hF hw (lv_sub hl [2, 3, 1, 0] rfl)
  · have hF := ifP hF b3
    refine lv_iconst (v := (-1 : Int32)) hC.1 hC.2.1 dX6_rights_11 (by decide) ?_
    exact r_iretP hC hw hF dX6_rights_12
abbrev rm_X6_game : Room := { frames := 10, cells := 0, slots := 0, locals := 235 }
theorem yv_X6_game : YV yX6_game cX6_game 2 (some .int) 1 RX6 := ⟨⟨q3_209, q3_210, q1_1, q3_211⟩, by decide +kernel⟩
theorem dX6_game_0 : decode cX6_game 0 = .ok (.iload_n 1, 1) := by decide +kernel
theorem dX6_game_1 : decode cX6_game 1 = .ok (.ifCond .lt 8, 3) := by decide +kernel
theorem dX6_game_4 : decode cX6_game 4 = .ok (.iload_n 1, 1) := by decide +kernel
theorem dX6_game_5 : decode cX6_game 5 = .ok (.iconst 2, 1) := by decide +kernel
theorem dX6_game_6 : decode cX6_game 6 = .ok (.if_icmp .le 5, 3) := by decide +kernel
theorem dX6_game_9 : decode cX6_game 9 = .ok (.iconst (-1), 1) := by decide +kernel
theorem dX6_game_10 : decode cX6_game 10 = .ok (.ireturn, 1) := by decide +kernel
theorem dX6_game_11 : decode cX6_game 11 = .ok (.aload_n 0, 1) := by decide +kernel
theorem dX6_game_12 : decode cX6_game 12 = .ok (.getfield 24, 3) := by decide +kernel
theorem dX6_game_15 : decode cX6_game 15 = .ok (.getfield 152, 3) := by decide +kernel
theorem dX6_game_18 : decode cX6_game 18 = .ok (.ifCond .ne 6, 3) := by decide +kernel
theorem dX6_game_21 : decode cX6_game 21 = .ok (.bipush (-4), 2) := by decide +kernel
theorem dX6_game_23 : decode cX6_game 23 = .ok (.ireturn, 1) := by decide +kernel
theorem dX6_game_24 : decode cX6_game 24 = .ok (.aload_n 0, 1) := by decide +kernel
theorem dX6_game_25 : decode cX6_game 25 = .ok (.getfield 42, 3) := by decide +kernel
theorem dX6_game_28 : decode cX6_game 28 = .ok (.aload_n 0, 1) := by decide +kernel
theorem dX6_game_29 : decode cX6_game 29 = .ok (.getfield 24, 3) := by decide +kernel
theorem dX6_game_32 : decode cX6_game 32 = .ok (.invokevirtual 307, 3) := by decide +kernel
theorem dX6_game_35 : decode cX6_game 35 = .ok (.aload_n 0, 1) := by decide +kernel
theorem dX6_game_36 : decode cX6_game 36 = .ok (.getfield 42, 3) := by decide +kernel
theorem dX6_game_39 : decode cX6_game 39 = .ok (.iconst 2, 1) := by decide +kernel
theorem dX6_game_40 : decode cX6_game 40 = .ok (.iload_n 1, 1) := by decide +kernel
theorem dX6_game_41 : decode cX6_game 41 = .ok (.imul, 1) := by decide +kernel
theorem dX6_game_42 : decode cX6_game 42 = .ok (.invokestatic 310, 3) := by decide +kernel
theorem dX6_game_45 : decode cX6_game 45 = .ok (.ifCond .eq 7, 3) := by decide +kernel
theorem dX6_game_48 : decode cX6_game 48 = .ok (.iconst 1, 1) := by decide +kernel
theorem dX6_game_49 : decode cX6_game 49 = .ok (.goto 4, 3) := by decide +kernel
theorem dX6_game_52 : decode cX6_game 52 = .ok (.iconst 0, 1) := by decide +kernel
theorem dX6_game_53 : decode cX6_game 53 = .ok (.ireturn, 1) := by decide +kernel
def F_X6_game (fu : Nat) (M : Mm) (x1 : Int32) : Option (Int32 × Mm) :=
  if x1 < 0 then
    some ((-1 : Int32), M)
  else
    if x1 ≤ (2 : Int32) then
      if (M.1 24 0) = 0 then
        some ((-4 : Int32), M)
      else
        ob1 (F_X1_prepare fu M 24) (fun M5 =>
        ob2 (F_X1_endsCarried fu M5 ((2 : Int32) * x1)) (fun r7 M8 =>
        if r7 = 0 then
          some ((0 : Int32), M8)
        else
          some ((1 : Int32), M8)))
    else
      some ((-1 : Int32), M)
set_option maxRecDepth 100000 in
set_option maxHeartbeats 4000000 in
theorem c_X6_game {l : Launch} {G : Gv} {fu : Nat} {M : Mm} {x1 : Int32} {r : Int32} {M' : Mm} (hF : F_X6_game fu M x1 = some (r, M')) : Met l yX6_game (.code yX6_game cX6_game 2 (some .int) :: zU) rm_X6_game (va_Pc [.ref (ad G 0), .int x1] (Wd G M)) (QI G r M') 0 0 (zA G) := by
  refine zMet (by decide) rfl (Nat.le_of_ble_eq_true rfl) ?_
  intro p e s m below meth c hC hw ls hl
  have hl : lv_has ls 2 [(0, .ref (ad G 0)), (1, .int x1)] := hl
  unfold F_X6_game at hF
  refine lv_iload_n hC.1 hC.2.1 dX6_game_0 rfl (lv_at hl 1 rfl) ?_
  refine lv_if_lt (tgt := 9) hC.1 hC.2.1 dX6_game_1 (by decide) (fun b1 => ?_) (fun b1 => ?_)
  · have hF := ifP hF b1
    refine lv_iconst (v := (-1 : Int32)) hC.1 hC.2.1 dX6_game_9 (by decide) ?_
    exact r_iretE hC hw hF dX6_game_10
  · have hF := ifN hF b1
    refine lv_iload_n hC.1 hC.2.1 dX6_game_4 rfl (lv_at hl 1 rfl) ?_
    refine lv_iconst (v := (2 : Int32)) hC.1 hC.2.1 dX6_game_5 (by decide) ?_
    refine lv_icmp_le (tgt := 11) hC.1 hC.2.1 dX6_game_6 (by decide) (fun b2 => ?_) (fun b2 => ?_)
    · have hF := ifP hF b2
      refine lv_aload_n hC.1 hC.2.1 dX6_game_11 rfl (lv_at hl 0 rfl) ?_
      refine g6_north hC hw q1_202 dX6_game_12 ?_
      refine g2_men hC hw (rfl : kd 24 = 11) q1_32 dX6_game_15 ?_
      refine lv_if_ne (tgt := 24) hC.1 hC.2.1 dX6_game_18 (by decide) (fun b3 => ?_) (fun b3 => ?_)
      · have hF := ifN hF b3
        refine lv_aload_n hC.1 hC.2.1 dX6_game_24 rfl (lv_at hl 0 rfl) ?_
        refine g6_game hC hw q1_205 dX6_game_25 ?_
        refine lv_aload_n hC.1 hC.2.1 dX6_game_28 rfl (lv_at hl 0 rfl) ?_
        refine g6_north hC hw q1_202 dX6_game_29 ?_
        obtain ⟨M5, h4, hF⟩ := ob1S hF
        refine k_Vv (As := [.ref (ad G 24)]) (rest := []) hC hw (c_X1_prepare (M := M) (rfl : kd 24 = 11) h4) RC_G yv_X1_prepare q3_212 ⟨rfl, rfl⟩ ⟨Nat.le_of_ble_eq_true rfl, Nat.le_of_ble_eq_true rfl⟩ ⟨Nat.zero_le _, Nat.zero_le _⟩ rfl rfl (Nat.le_of_ble_eq_true rfl) hl dX6_game_32 (fun H locs hw => ?_)
        refine lv_aload_n hC.1 hC.2.1 dX6_game_35 rfl (lv_at hl 0 rfl) ?_
        refine g6_game hC hw q1_205 dX6_game_36 ?_
        refine lv_iconst (v := (2 : Int32)) hC.1 hC.2.1 dX6_game_39 (by decide) ?_
        refine lv_iload_n hC.1 hC.2.1 dX6_game_40 rfl (lv_at hl 1 rfl) ?_
        refine lv_imul hC.1 hC.2.1 dX6_game_41 ?_
        obtain ⟨r7, M8, h6, hF⟩ := ob2S hF
        refine k_Ni (As := [.ref (ad G 74), .int ((2 : Int32) * x1)]) (rest := []) hC hw (c_X1_endsCarried (M := M5) h6) ys_X1_endsCarried (k := 17) rfl ⟨rfl, rfl⟩ ⟨Nat.le_of_ble_eq_true rfl, Nat.le_of_ble_eq_true rfl⟩ ⟨Nat.zero_le _, Nat.zero_le _⟩ rfl rfl (Nat.le_of_ble_eq_true rfl) hl dX6_game_42 (fun H locs hw => ?_)
        refine lv_if_eq (tgt := 52) hC.1 hC.2.1 dX6_game_45 (by decide) (fun b9 => ?_) (fun b9 => ?_)
        · have hF := ifP hF b9
          refine lv_iconst (v := (0 : Int32)) hC.1 hC.2.1 dX6_game_52 (by decide) ?_
          exact r_iretE hC hw hF dX6_game_53
        · have hF := ifN hF b9
          refine lv_iconst (v := (1 : Int32)) hC.1 hC.2.1 dX6_game_48 (by decide) ?_
          refine lv_goto (tgt := 53) hC.1 hC.2.1 dX6_game_49 (by decide) ?_
          exact r_iretE hC hw hF dX6_game_53
      · have hF := ifP hF b3
        refine lv_bipush (v := (-4 : Int32)) hC.1 hC.2.1 dX6_game_21 (by decide) ?_
        exact r_iretE hC hw hF dX6_game_23
    · have hF := ifN hF b2
      refine lv_iconst (v := (-1 : Int32)) hC.1 hC.2.1 dX6_game_9 (by decide) ?_
      exact r_iretE hC hw hF dX6_game_10
abbrev rm_X6_first : Room := { frames := 11, cells := 0, slots := 0, locals := 258 }
theorem yv_X6_first : YV yX6_first cX6_first 2 (some .int) 1 RX6 := ⟨⟨q3_234, q3_235, q1_1, q3_236⟩, by decide +kernel⟩
theorem dX6_first_0 : decode cX6_first 0 = .ok (.iload_n 1, 1) := by decide +kernel
theorem dX6_first_1 : decode cX6_first 1 = .ok (.iconst 1, 1) := by decide +kernel
theorem dX6_first_2 : decode cX6_first 2 = .ok (.if_icmp .lt 8, 3) := by decide +kernel
theorem dX6_first_5 : decode cX6_first 5 = .ok (.iload_n 1, 1) := by decide +kernel
theorem dX6_first_6 : decode cX6_first 6 = .ok (.iconst 2, 1) := by decide +kernel
theorem dX6_first_7 : decode cX6_first 7 = .ok (.if_icmp .le 5, 3) := by decide +kernel
theorem dX6_first_10 : decode cX6_first 10 = .ok (.iconst (-1), 1) := by decide +kernel
theorem dX6_first_11 : decode cX6_first 11 = .ok (.ireturn, 1) := by decide +kernel
theorem dX6_first_12 : decode cX6_first 12 = .ok (.aload_n 0, 1) := by decide +kernel
theorem dX6_first_13 : decode cX6_first 13 = .ok (.getfield 24, 3) := by decide +kernel
theorem dX6_first_16 : decode cX6_first 16 = .ok (.getfield 152, 3) := by decide +kernel
theorem dX6_first_19 : decode cX6_first 19 = .ok (.ifCond .ne 6, 3) := by decide +kernel
theorem dX6_first_22 : decode cX6_first 22 = .ok (.bipush (-4), 2) := by decide +kernel
theorem dX6_first_24 : decode cX6_first 24 = .ok (.ireturn, 1) := by decide +kernel
theorem dX6_first_25 : decode cX6_first 25 = .ok (.aload_n 0, 1) := by decide +kernel
theorem dX6_first_26 : decode cX6_first 26 = .ok (.getfield 42, 3) := by decide +kernel
theorem dX6_first_29 : decode cX6_first 29 = .ok (.aload_n 0, 1) := by decide +kernel
theorem dX6_first_30 : decode cX6_first 30 = .ok (.getfield 24, 3) := by decide +kernel
theorem dX6_first_33 : decode cX6_first 33 = .ok (.invokevirtual 307, 3) := by decide +kernel
theorem dX6_first_36 : decode cX6_first 36 = .ok (.aload_n 0, 1) := by decide +kernel
theorem dX6_first_37 : decode cX6_first 37 = .ok (.getfield 42, 3) := by decide +kernel
theorem dX6_first_40 : decode cX6_first 40 = .ok (.iconst 2, 1) := by decide +kernel
theorem dX6_first_41 : decode cX6_first 41 = .ok (.iload_n 1, 1) := by decide +kernel
theorem dX6_first_42 : decode cX6_first 42 = .ok (.imul, 1) := by decide +kernel
theorem dX6_first_43 : decode cX6_first 43 = .ok (.invokevirtual 314, 3) := by decide +kernel
theorem dX6_first_46 : decode cX6_first 46 = .ok (.ireturn, 1) := by decide +kernel
def F_X6_first (fu : Nat) (M : Mm) (x1 : Int32) : Option (Int32 × Mm) :=
  if x1 < (1 : Int32) then
    some ((-1 : Int32), M)
  else
    if x1 ≤ (2 : Int32) then
      if (M.1 24 0) = 0 then
        some ((-4 : Int32), M)
      else
        ob1 (F_X1_prepare fu M 24) (fun M5 =>
        ob2 (F_X1_winningMove fu M5 ((2 : Int32) * x1)) (fun r7 M8 =>
        some (r7, M8)))
    else
      some ((-1 : Int32), M)
set_option maxRecDepth 100000 in
set_option maxHeartbeats 4000000 in
theorem c_X6_first {l : Launch} {G : Gv} {fu : Nat} {M : Mm} {x1 : Int32} {r : Int32} {M' : Mm} (hF : F_X6_first fu M x1 = some (r, M')) : Met l yX6_first (.code yX6_first cX6_first 2 (some .int) :: zU) rm_X6_first (va_Pc [.ref (ad G 0), .int x1] (Wd G M)) (QI G r M') 0 0 (zA G) := by
  refine zMet (by decide) rfl (Nat.le_of_ble_eq_true rfl) ?_
  intro p e s m below meth c hC hw ls hl
  have hl : lv_has ls 2 [(0, .ref (ad G 0)), (1, .int x1)] := hl
  unfold F_X6_first at hF
  refine lv_iload_n hC.1 hC.2.1 dX6_first_0 rfl (lv_at hl 1 rfl) ?_
  refine lv_iconst (v := (1 : Int32)) hC.1 hC.2.1 dX6_first_1 (by decide) ?_
  refine lv_icmp_lt (tgt := 10) hC.1 hC.2.1 dX6_first_2 (by decide) (fun b1 => ?_) (fun b1 => ?_)
  · have hF := ifP hF b1
    refine lv_iconst (v := (-1 : Int32)) hC.1 hC.2.1 dX6_first_10 (by decide) ?_
    exact r_iretE hC hw hF dX6_first_11
  · have hF := ifN hF b1
    refine lv_iload_n hC.1 hC.2.1 dX6_first_5 rfl (lv_at hl 1 rfl) ?_
    refine lv_iconst (v := (2 : Int32)) hC.1 hC.2.1 dX6_first_6 (by decide) ?_
    refine lv_icmp_le (tgt := 12) hC.1 hC.2.1 dX6_first_7 (by decide) (fun b2 => ?_) (fun b2 => ?_)
    · have hF := ifP hF b2
      refine lv_aload_n hC.1 hC.2.1 dX6_first_12 rfl (lv_at hl 0 rfl) ?_
      refine g6_north hC hw q1_202 dX6_first_13 ?_
      refine g2_men hC hw (rfl : kd 24 = 11) q1_32 dX6_first_16 ?_
      refine lv_if_ne (tgt := 25) hC.1 hC.2.1 dX6_first_19 (by decide) (fun b3 => ?_) (fun b3 => ?_)
      · have hF := ifN hF b3
        refine lv_aload_n hC.1 hC.2.1 dX6_first_25 rfl (lv_at hl 0 rfl) ?_
        refine g6_game hC hw q1_205 dX6_first_26 ?_
        refine lv_aload_n hC.1 hC.2.1 dX6_first_29 rfl (lv_at hl 0 rfl) ?_
        refine g6_north hC hw q1_202 dX6_first_30 ?_
        obtain ⟨M5, h4, hF⟩ := ob1S hF
        refine k_Vv (As := [.ref (ad G 24)]) (rest := []) hC hw (c_X1_prepare (M := M) (rfl : kd 24 = 11) h4) RC_G yv_X1_prepare q3_212 ⟨rfl, rfl⟩ ⟨Nat.le_of_ble_eq_true rfl, Nat.le_of_ble_eq_true rfl⟩ ⟨Nat.zero_le _, Nat.zero_le _⟩ rfl rfl (Nat.le_of_ble_eq_true rfl) hl dX6_first_33 (fun H locs hw => ?_)
        refine lv_aload_n hC.1 hC.2.1 dX6_first_36 rfl (lv_at hl 0 rfl) ?_
        refine g6_game hC hw q1_205 dX6_first_37 ?_
        refine lv_iconst (v := (2 : Int32)) hC.1 hC.2.1 dX6_first_40 (by decide) ?_
        refine lv_iload_n hC.1 hC.2.1 dX6_first_41 rfl (lv_at hl 1 rfl) ?_
        refine lv_imul hC.1 hC.2.1 dX6_first_42 ?_
        obtain ⟨r7, M8, h6, hF⟩ := ob2S hF
        refine k_Vi (As := [.int ((2 : Int32) * x1)]) (rest := []) hC hw (c_X1_winningMove (M := M5) h6) RC_G yv_X1_winningMove q3_237 ⟨rfl, rfl⟩ ⟨Nat.le_of_ble_eq_true rfl, Nat.le_of_ble_eq_true rfl⟩ ⟨Nat.zero_le _, Nat.zero_le _⟩ rfl rfl (Nat.le_of_ble_eq_true rfl) hl dX6_first_43 (fun H locs hw => ?_)
        exact r_iretE hC hw hF dX6_first_46
      · have hF := ifP hF b3
        refine lv_bipush (v := (-4 : Int32)) hC.1 hC.2.1 dX6_first_22 (by decide) ?_
        exact r_iretE hC hw hF dX6_first_24
    · have hF := ifN hF b2
      refine lv_iconst (v := (-1 : Int32)) hC.1 hC.2.1 dX6_first_10 (by decide) ?_
      exact r_iretE hC hw hF dX6_first_11
abbrev rm_X6_commonDivisor : Room := { frames := 0, cells := 0, slots := 0, locals := 0 }
theorem ys_X6_commonDivisor : YS yX6_commonDivisor cX6_commonDivisor 7 (some .long) 2 := ⟨⟨q4_32, q1_1, q4_33⟩, by decide +kernel⟩
theorem dX6_commonDivisor_0 : decode cX6_commonDivisor 0 = .ok (.iconst 0, 1) := by decide +kernel
theorem dX6_commonDivisor_1 : decode cX6_commonDivisor 1 = .ok (.istore 4, 2) := by decide +kernel
theorem dX6_commonDivisor_3 : decode cX6_commonDivisor 3 = .ok (.iload 4, 2) := by decide +kernel
theorem dX6_commonDivisor_5 : decode cX6_commonDivisor 5 = .ok (.bipush 100, 2) := by decide +kernel
theorem dX6_commonDivisor_7 : decode cX6_commonDivisor 7 = .ok (.if_icmp .ge 25, 3) := by decide +kernel
theorem dX6_commonDivisor_10 : decode cX6_commonDivisor 10 = .ok (.lload_n 2, 1) := by decide +kernel
theorem dX6_commonDivisor_11 : decode cX6_commonDivisor 11 = .ok (.lconst 0, 1) := by decide +kernel
theorem dX6_commonDivisor_12 : decode cX6_commonDivisor 12 = .ok (.lcmp, 1) := by decide +kernel
theorem dX6_commonDivisor_13 : decode cX6_commonDivisor 13 = .ok (.ifCond .eq 19, 3) := by decide +kernel
theorem dX6_commonDivisor_16 : decode cX6_commonDivisor 16 = .ok (.lload_n 0, 1) := by decide +kernel
theorem dX6_commonDivisor_17 : decode cX6_commonDivisor 17 = .ok (.lload_n 2, 1) := by decide +kernel
theorem dX6_commonDivisor_18 : decode cX6_commonDivisor 18 = .ok (.lrem, 1) := by decide +kernel
theorem dX6_commonDivisor_19 : decode cX6_commonDivisor 19 = .ok (.lstore 5, 2) := by decide +kernel
theorem dX6_commonDivisor_21 : decode cX6_commonDivisor 21 = .ok (.lload_n 2, 1) := by decide +kernel
theorem dX6_commonDivisor_22 : decode cX6_commonDivisor 22 = .ok (.lstore_n 0, 1) := by decide +kernel
theorem dX6_commonDivisor_23 : decode cX6_commonDivisor 23 = .ok (.lload 5, 2) := by decide +kernel
theorem dX6_commonDivisor_25 : decode cX6_commonDivisor 25 = .ok (.lstore_n 2, 1) := by decide +kernel
theorem dX6_commonDivisor_26 : decode cX6_commonDivisor 26 = .ok (.iinc 4 1, 3) := by decide +kernel
theorem dX6_commonDivisor_29 : decode cX6_commonDivisor 29 = .ok (.goto (-26), 3) := by decide +kernel
theorem dX6_commonDivisor_32 : decode cX6_commonDivisor 32 = .ok (.lload_n 0, 1) := by decide +kernel
theorem dX6_commonDivisor_33 : decode cX6_commonDivisor 33 = .ok (.lreturn, 1) := by decide +kernel
def F_X6_commonDivisor_3 (fu : Nat) (M : Mm) : Nat → Int64 → Int64 → Int32 → Option Int64
  | 0, _, _, _ => none
  | n + 1, x0, x2, x4 =>
    if (100 : Int32) ≤ x4 then
      some x0
    else
      if (lg_cmp x2 (0 : Int64)) = 0 then
        some x0
      else
        if x2 = 0 then none else (
        F_X6_commonDivisor_3 fu M n x2 (x0 - x0 / x2 * x2) (x4 + (1 : Int32)))
set_option maxRecDepth 100000 in
set_option maxHeartbeats 4000000 in
theorem w_X6_commonDivisor_3 {p : Program} {l : Launch} {e : Env} {s : State} {m : MethodId} {args : Array Value} {below : List Frame} {meth : Method} {c : Code} {G : Gv} (hC : Cx p s m args meth c cX6_commonDivisor 7 (some .long) RX6) {fu : Nat} {r : Int64} {M : Mm} : ∀ (n : Nat) {x0 : Int64} {x2 : Int64} {x4 : Int32} {H : Heap} {locs : List Loc} {ls : Array Slot}, F_X6_commonDivisor_3 fu M n x0 x2 x4 = some r → St G s H locs M → lv_has ls 7 [(0, .long x0), (2, .long x2), (4, .int x4)] → W p l e rm_X6_commonDivisor s m args below meth c H locs 0 0 (MQ below (QL G r M) args s 0 0 (zA G)) (F0 m 3 ls []) := by
  intro n
  induction n with
  | zero =>
    intro x0 x2 x4 H locs ls hF hw hl
    cases hF
  | succ n ih =>
    intro x0 x2 x4 H locs ls hF hw hl
    unfold F_X6_commonDivisor_3 at hF
    refine lv_iload hC.1 hC.2.1 dX6_commonDivisor_3 (lv_at hl 2 rfl) ?_
    refine lv_bipush (v := (100 : Int32)) hC.1 hC.2.1 dX6_commonDivisor_5 (by decide) ?_
    refine lv_icmp_ge (tgt := 32) hC.1 hC.2.1 dX6_commonDivisor_7 (by decide) (fun b1 => ?_) (fun b1 => ?_)
    · have hF := ifP hF b1
      refine lv_lload_n hC.1 hC.2.1 dX6_commonDivisor_32 rfl (lv_at hl 0 rfl) ?_
      exact r_lretP hC hw hF dX6_commonDivisor_33
    · have hF := ifN hF b1
      refine lv_lload_n hC.1 hC.2.1 dX6_commonDivisor_10 rfl (lv_at hl 1 rfl) ?_
      refine lv_lconst (v := (0 : Int64)) hC.1 hC.2.1 dX6_commonDivisor_11 (by decide) ?_
      refine W.lcmp hC.1 hC.2.1 dX6_commonDivisor_12 ?_
      refine lv_if_eq (tgt := 32) hC.1 hC.2.1 dX6_commonDivisor_13 (by decide) (fun b2 => ?_) (fun b2 => ?_)
      · have hF := ifP hF b2
        refine lv_lload_n hC.1 hC.2.1 dX6_commonDivisor_32 rfl (lv_at hl 0 rfl) ?_
        exact r_lretP hC hw hF dX6_commonDivisor_33
      · have hF := ifN hF b2
        refine lv_lload_n hC.1 hC.2.1 dX6_commonDivisor_16 rfl (lv_at hl 0 rfl) ?_
        refine lv_lload_n hC.1 hC.2.1 dX6_commonDivisor_17 rfl (lv_at hl 1 rfl) ?_
        obtain ⟨n3, hF⟩ := ifO hF
        refine lv_lrem hC.1 hC.2.1 dX6_commonDivisor_18 n3 ?_
        refine lv_lstore (lv' := [(5, .long (x0 - x0 / x2 * x2)), (0, .long x0), (2, .long x2), (4, .int x4)]) hC.1 hC.2.1 dX6_commonDivisor_19 hl (by decide) rfl (fun ls hl => ?_)
        refine lv_lload_n hC.1 hC.2.1 dX6_commonDivisor_21 rfl (lv_at hl 2 rfl) ?_
        refine lv_lstore_n (lv' := [(0, .long x2), (5, .long (x0 - x0 / x2 * x2)), (2, .long x2), (4, .int x4)]) hC.1 hC.2.1 dX6_commonDivisor_22 rfl hl (by decide) rfl (fun ls hl => ?_)
        refine lv_lload hC.1 hC.2.1 dX6_commonDivisor_23 (lv_at hl 1 rfl) ?_
        refine lv_lstore_n (lv' := [(2, .long (x0 - x0 / x2 * x2)), (0, .long x2), (5, .long (x0 - x0 / x2 * x2)), (4, .int x4)]) hC.1 hC.2.1 dX6_commonDivisor_25 rfl hl (by decide) rfl (fun ls hl => ?_)
        refine lv_iinc (v := (x4 + (1 : Int32))) (lv' := [(4, .int (x4 + (1 : Int32))), (2, .long (x0 - x0 / x2 * x2)), (0, .long x2), (5, .long (x0 - x0 / x2 * x2))]) hC.1 hC.2.1 dX6_commonDivisor_26 hl (k := 3) rfl rfl (by decide) rfl (fun ls hl => ?_)
        refine lv_goto (tgt := 3) hC.1 hC.2.1 dX6_commonDivisor_29 (by decide) ?_
        exact ih hF hw (lv_sub hl [2, 1, 0] rfl)
def F_X6_commonDivisor (fu : Nat) (M : Mm) (x0 : Int64) (x2 : Int64) : Option Int64 :=
  F_X6_commonDivisor_3 fu M fu x0 x2 (0 : Int32)
set_option maxRecDepth 100000 in
set_option maxHeartbeats 4000000 in
theorem c_X6_commonDivisor {l : Launch} {G : Gv} {fu : Nat} {M : Mm} {x0 : Int64} {x2 : Int64} {r : Int64} (hF : F_X6_commonDivisor fu M x0 x2 = some r) : Met l yX6_commonDivisor (.code yX6_commonDivisor cX6_commonDivisor 7 (some .long) :: zU) rm_X6_commonDivisor (va_Pc [.long x0, .long x2] (Wd G M)) (QL G r M) 0 0 (zA G) := by
  refine zMet (by decide) rfl (Nat.le_of_ble_eq_true rfl) ?_
  intro p e s m below meth c hC hw ls hl
  have hl : lv_has ls 7 [(0, .long x0), (2, .long x2)] := hl
  unfold F_X6_commonDivisor at hF
  refine lv_iconst (v := (0 : Int32)) hC.1 hC.2.1 dX6_commonDivisor_0 (by decide) ?_
  refine lv_istore (lv' := [(4, .int (0 : Int32)), (0, .long x0), (2, .long x2)]) hC.1 hC.2.1 dX6_commonDivisor_1 hl (by decide) rfl (fun ls hl => ?_)
  exact w_X6_commonDivisor_3 hC _ hF hw (lv_sub hl [1, 2, 0] rfl)
abbrev rm_X6_tellChance : Room := { frames := 1, cells := 0, slots := 0, locals := 26 }
theorem yv_X6_tellChance : YV yX6_tellChance cX6_tellChance 7 none 2 RX6 := ⟨⟨q4_29, qs_27, q1_1, q4_30⟩, by decide +kernel⟩
theorem dX6_tellChance_0 : decode cX6_tellChance 0 = .ok (.lload_n 1, 1) := by decide +kernel
theorem dX6_tellChance_1 : decode cX6_tellChance 1 = .ok (.lload_n 3, 1) := by decide +kernel
theorem dX6_tellChance_2 : decode cX6_tellChance 2 = .ok (.invokestatic 359, 3) := by decide +kernel
theorem dX6_tellChance_5 : decode cX6_tellChance 5 = .ok (.lstore 5, 2) := by decide +kernel
theorem dX6_tellChance_7 : decode cX6_tellChance 7 = .ok (.lload 5, 2) := by decide +kernel
theorem dX6_tellChance_9 : decode cX6_tellChance 9 = .ok (.lconst 0, 1) := by decide +kernel
theorem dX6_tellChance_10 : decode cX6_tellChance 10 = .ok (.lcmp, 1) := by decide +kernel
theorem dX6_tellChance_11 : decode cX6_tellChance 11 = .ok (.ifCond .le 19, 3) := by decide +kernel
theorem dX6_tellChance_14 : decode cX6_tellChance 14 = .ok (.aload_n 0, 1) := by decide +kernel
theorem dX6_tellChance_15 : decode cX6_tellChance 15 = .ok (.lload_n 1, 1) := by decide +kernel
theorem dX6_tellChance_16 : decode cX6_tellChance 16 = .ok (.lload 5, 2) := by decide +kernel
theorem dX6_tellChance_18 : decode cX6_tellChance 18 = .ok (.ldiv, 1) := by decide +kernel
theorem dX6_tellChance_19 : decode cX6_tellChance 19 = .ok (.putfield 341, 3) := by decide +kernel
theorem dX6_tellChance_22 : decode cX6_tellChance 22 = .ok (.aload_n 0, 1) := by decide +kernel
theorem dX6_tellChance_23 : decode cX6_tellChance 23 = .ok (.lload_n 3, 1) := by decide +kernel
theorem dX6_tellChance_24 : decode cX6_tellChance 24 = .ok (.lload 5, 2) := by decide +kernel
theorem dX6_tellChance_26 : decode cX6_tellChance 26 = .ok (.ldiv, 1) := by decide +kernel
theorem dX6_tellChance_27 : decode cX6_tellChance 27 = .ok (.putfield 57, 3) := by decide +kernel
theorem dX6_tellChance_30 : decode cX6_tellChance 30 = .ok (.return_, 1) := by decide +kernel
def F_X6_tellChance (fu : Nat) (M : Mm) (x1 : Int64) (x3 : Int64) : Option Mm :=
  ob1 (F_X6_commonDivisor fu M x1 x3) (fun r2 =>
  if (lg_cmp r2 (0 : Int64)) ≤ 0 then
    some M
  else
    if r2 = 0 then none else (
    lt1 (pL M 0 10 (x1 / r2)) (fun M5 =>
    if r2 = 0 then none else (
    lt1 (pL M5 0 11 (x3 / r2)) (fun M7 =>
    some M7)))))
set_option maxRecDepth 100000 in
set_option maxHeartbeats 4000000 in
theorem c_X6_tellChance {l : Launch} {G : Gv} {fu : Nat} {M : Mm} {x1 : Int64} {x3 : Int64} {M' : Mm} (hF : F_X6_tellChance fu M x1 x3 = some M') : Met l yX6_tellChance (.code yX6_tellChance cX6_tellChance 7 none :: zU) rm_X6_tellChance (va_Pc [.ref (ad G 0), .long x1, .long x3] (Wd G M)) (QV G M') 0 0 (zA G) := by
  refine zMet (by decide) rfl (Nat.le_of_ble_eq_true rfl) ?_
  intro p e s m below meth c hC hw ls hl
  have hl : lv_has ls 7 [(0, .ref (ad G 0)), (1, .long x1), (3, .long x3)] := hl
  unfold F_X6_tellChance at hF
  refine lv_lload_n hC.1 hC.2.1 dX6_tellChance_0 rfl (lv_at hl 1 rfl) ?_
  refine lv_lload_n hC.1 hC.2.1 dX6_tellChance_1 rfl (lv_at hl 2 rfl) ?_
  obtain ⟨r2, h1, hF⟩ := ob1S hF
  refine k_Sl (As := [.long x1, .long x3]) (rest := []) hC hw (c_X6_commonDivisor (M := M) h1) ys_X6_commonDivisor q4_31 ⟨rfl, rfl⟩ ⟨Nat.le_of_ble_eq_true rfl, Nat.le_of_ble_eq_true rfl⟩ ⟨Nat.zero_le _, Nat.zero_le _⟩ rfl rfl (Nat.le_of_ble_eq_true rfl) hl dX6_tellChance_2 (fun H locs hw => ?_)
  refine lv_lstore (lv' := [(5, .long r2), (0, .ref (ad G 0)), (1, .long x1), (3, .long x3)]) hC.1 hC.2.1 dX6_tellChance_5 hl (by decide) rfl (fun ls hl => ?_)
  refine lv_lload hC.1 hC.2.1 dX6_tellChance_7 (lv_at hl 0 rfl) ?_
  refine lv_lconst (v := (0 : Int64)) hC.1 hC.2.1 dX6_tellChance_9 (by decide) ?_
  refine W.lcmp hC.1 hC.2.1 dX6_tellChance_10 ?_
  refine lv_if_le (tgt := 30) hC.1 hC.2.1 dX6_tellChance_11 (by decide) (fun b3 => ?_) (fun b3 => ?_)
  · have hF := ifP hF b3
    exact r_vretE hC hw hF dX6_tellChance_30
  · have hF := ifN hF b3
    refine lv_aload_n hC.1 hC.2.1 dX6_tellChance_14 rfl (lv_at hl 1 rfl) ?_
    refine lv_lload_n hC.1 hC.2.1 dX6_tellChance_15 rfl (lv_at hl 2 rfl) ?_
    refine lv_lload hC.1 hC.2.1 dX6_tellChance_16 (lv_at hl 0 rfl) ?_
    obtain ⟨n4, hF⟩ := ifO hF
    refine lv_ldiv hC.1 hC.2.1 dX6_tellChance_18 n4 ?_
    refine u6_upperNumber hC hw q1_210 dX6_tellChance_19 (fun H locs hw => ?_)
    obtain ⟨M5, hw, hF⟩ := lt1W hF hw
    refine lv_aload_n hC.1 hC.2.1 dX6_tellChance_22 rfl (lv_at hl 1 rfl) ?_
    refine lv_lload_n hC.1 hC.2.1 dX6_tellChance_23 rfl (lv_at hl 3 rfl) ?_
    refine lv_lload hC.1 hC.2.1 dX6_tellChance_24 (lv_at hl 0 rfl) ?_
    obtain ⟨n6, hF⟩ := ifO hF
    refine lv_ldiv hC.1 hC.2.1 dX6_tellChance_26 n6 ?_
    refine u6_lowerNumber hC hw q1_211 dX6_tellChance_27 (fun H locs hw => ?_)
    obtain ⟨M7, hw, hF⟩ := lt1W hF hw
    exact r_vretE hC hw hF dX6_tellChance_30
abbrev rm_X6_odds : Room := { frames := 4, cells := 0, slots := 0, locals := 101 }
theorem yv_X6_odds : YV yX6_odds cX6_odds 4 (some .int) 3 RX6 := ⟨⟨q4_2, q4_3, q1_1, q4_4⟩, by decide +kernel⟩
theorem dX6_odds_0 : decode cX6_odds 0 = .ok (.aload_n 0, 1) := by decide +kernel
theorem dX6_odds_1 : decode cX6_odds 1 = .ok (.getfield 24, 3) := by decide +kernel
theorem dX6_odds_4 : decode cX6_odds 4 = .ok (.iload_n 1, 1) := by decide +kernel
theorem dX6_odds_5 : decode cX6_odds 5 = .ok (.invokevirtual 155, 3) := by decide +kernel
theorem dX6_odds_8 : decode cX6_odds 8 = .ok (.ifCond .eq 23, 3) := by decide +kernel
theorem dX6_odds_11 : decode cX6_odds 11 = .ok (.iload_n 2, 1) := by decide +kernel
theorem dX6_odds_12 : decode cX6_odds 12 = .ok (.ifCond .lt 19, 3) := by decide +kernel
theorem dX6_odds_15 : decode cX6_odds 15 = .ok (.iload_n 2, 1) := by decide +kernel
theorem dX6_odds_16 : decode cX6_odds 16 = .ok (.bipush 8, 2) := by decide +kernel
theorem dX6_odds_18 : decode cX6_odds 18 = .ok (.if_icmp .gt 13, 3) := by decide +kernel
theorem dX6_odds_21 : decode cX6_odds 21 = .ok (.iload_n 3, 1) := by decide +kernel
theorem dX6_odds_22 : decode cX6_odds 22 = .ok (.ifCond .lt 9, 3) := by decide +kernel
theorem dX6_odds_25 : decode cX6_odds 25 = .ok (.iload_n 3, 1) := by decide +kernel
theorem dX6_odds_26 : decode cX6_odds 26 = .ok (.bipush 12, 2) := by decide +kernel
theorem dX6_odds_28 : decode cX6_odds 28 = .ok (.if_icmp .le 5, 3) := by decide +kernel
theorem dX6_odds_31 : decode cX6_odds 31 = .ok (.iconst (-1), 1) := by decide +kernel
theorem dX6_odds_32 : decode cX6_odds 32 = .ok (.ireturn, 1) := by decide +kernel
theorem dX6_odds_33 : decode cX6_odds 33 = .ok (.aload_n 0, 1) := by decide +kernel
theorem dX6_odds_34 : decode cX6_odds 34 = .ok (.getfield 49, 3) := by decide +kernel
theorem dX6_odds_37 : decode cX6_odds 37 = .ok (.aload_n 0, 1) := by decide +kernel
theorem dX6_odds_38 : decode cX6_odds 38 = .ok (.getfield 24, 3) := by decide +kernel
theorem dX6_odds_41 : decode cX6_odds 41 = .ok (.iload_n 1, 1) := by decide +kernel
theorem dX6_odds_42 : decode cX6_odds 42 = .ok (.iload_n 2, 1) := by decide +kernel
theorem dX6_odds_43 : decode cX6_odds 43 = .ok (.iload_n 3, 1) := by decide +kernel
theorem dX6_odds_44 : decode cX6_odds 44 = .ok (.invokevirtual 317, 3) := by decide +kernel
theorem dX6_odds_47 : decode cX6_odds 47 = .ok (.aload_n 0, 1) := by decide +kernel
theorem dX6_odds_48 : decode cX6_odds 48 = .ok (.aload_n 0, 1) := by decide +kernel
theorem dX6_odds_49 : decode cX6_odds 49 = .ok (.getfield 49, 3) := by decide +kernel
theorem dX6_odds_52 : decode cX6_odds 52 = .ok (.invokevirtual 321, 3) := by decide +kernel
theorem dX6_odds_55 : decode cX6_odds 55 = .ok (.aload_n 0, 1) := by decide +kernel
theorem dX6_odds_56 : decode cX6_odds 56 = .ok (.getfield 49, 3) := by decide +kernel
theorem dX6_odds_59 : decode cX6_odds 59 = .ok (.getfield 324, 3) := by decide +kernel
theorem dX6_odds_62 : decode cX6_odds 62 = .ok (.invokevirtual 327, 3) := by decide +kernel
theorem dX6_odds_65 : decode cX6_odds 65 = .ok (.iconst 1, 1) := by decide +kernel
theorem dX6_odds_66 : decode cX6_odds 66 = .ok (.ireturn, 1) := by decide +kernel
def F_X6_odds (fu : Nat) (M : Mm) (x1 : Int32) (x2 : Int32) (x3 : Int32) : Option (Int32 × Mm) :=
  ob1 (F_X2_isMan fu M 24 x1) (fun r2 =>
  if r2 = 0 then
    some ((-1 : Int32), M)
  else
    if x2 < 0 then
      some ((-1 : Int32), M)
    else
      if (8 : Int32) < x2 then
        some ((-1 : Int32), M)
      else
        if x3 < 0 then
          some ((-1 : Int32), M)
        else
          if x3 ≤ (12 : Int32) then
            ob1 (F_X0_weigh fu M 24 x1 x2 x3) (fun M9 =>
            ob1 (F_X0_waysToLast fu M9) (fun r11 =>
            ob1 (F_X6_tellChance fu M9 r11 (M9.2 77 2)) (fun M13 =>
            some ((1 : Int32), M13))))
          else
            some ((-1 : Int32), M))
set_option maxRecDepth 100000 in
set_option maxHeartbeats 4000000 in
theorem c_X6_odds {l : Launch} {G : Gv} {fu : Nat} {M : Mm} {x1 : Int32} {x2 : Int32} {x3 : Int32} {r : Int32} {M' : Mm} (hF : F_X6_odds fu M x1 x2 x3 = some (r, M')) : Met l yX6_odds (.code yX6_odds cX6_odds 4 (some .int) :: zU) rm_X6_odds (va_Pc [.ref (ad G 0), .int x1, .int x2, .int x3] (Wd G M)) (QI G r M') 0 0 (zA G) := by
  refine zMet (by decide) rfl (Nat.le_of_ble_eq_true rfl) ?_
  intro p e s m below meth c hC hw ls hl
  have hl : lv_has ls 4 [(0, .ref (ad G 0)), (1, .int x1), (2, .int x2), (3, .int x3)] := hl
  unfold F_X6_odds at hF
  refine lv_aload_n hC.1 hC.2.1 dX6_odds_0 rfl (lv_at hl 0 rfl) ?_
  refine g6_north hC hw q1_202 dX6_odds_1 ?_
  refine lv_iload_n hC.1 hC.2.1 dX6_odds_4 rfl (lv_at hl 1 rfl) ?_
  obtain ⟨r2, h1, hF⟩ := ob1S hF
  refine k_Vi (As := [.int x1]) (rest := []) hC hw (c_X2_isMan (M := M) (rfl : kd 24 = 11) h1) (RC_N (rfl : kd 24 = 11)) yv_X2_isMan q2_147 ⟨rfl, rfl⟩ ⟨Nat.le_of_ble_eq_true rfl, Nat.le_of_ble_eq_true rfl⟩ ⟨Nat.zero_le _, Nat.zero_le _⟩ rfl rfl (Nat.le_of_ble_eq_true rfl) hl dX6_odds_5 (fun H locs hw => ?_)
  refine lv_if_eq (tgt := 31) hC.1 hC.2.1 dX6_odds_8 (by decide) (fun b3 => ?_) (fun b3 => ?_)
  · have hF := ifP hF b3
    refine lv_iconst (v := (-1 : Int32)) hC.1 hC.2.1 dX6_odds_31 (by decide) ?_
    exact r_iretE hC hw hF dX6_odds_32
  · have hF := ifN hF b3
    refine lv_iload_n hC.1 hC.2.1 dX6_odds_11 rfl (lv_at hl 2 rfl) ?_
    refine lv_if_lt (tgt := 31) hC.1 hC.2.1 dX6_odds_12 (by decide) (fun b4 => ?_) (fun b4 => ?_)
    · have hF := ifP hF b4
      refine lv_iconst (v := (-1 : Int32)) hC.1 hC.2.1 dX6_odds_31 (by decide) ?_
      exact r_iretE hC hw hF dX6_odds_32
    · have hF := ifN hF b4
      refine lv_iload_n hC.1 hC.2.1 dX6_odds_15 rfl (lv_at hl 2 rfl) ?_
      refine lv_bipush (v := (8 : Int32)) hC.1 hC.2.1 dX6_odds_16 (by decide) ?_
      refine lv_icmp_gt (tgt := 31) hC.1 hC.2.1 dX6_odds_18 (by decide) (fun b5 => ?_) (fun b5 => ?_)
      · have hF := ifP hF b5
        refine lv_iconst (v := (-1 : Int32)) hC.1 hC.2.1 dX6_odds_31 (by decide) ?_
        exact r_iretE hC hw hF dX6_odds_32
      · have hF := ifN hF b5
        refine lv_iload_n hC.1 hC.2.1 dX6_odds_21 rfl (lv_at hl 3 rfl) ?_
        refine lv_if_lt (tgt := 31) hC.1 hC.2.1 dX6_odds_22 (by decide) (fun b6 => ?_) (fun b6 => ?_)
        · have hF := ifP hF b6
          refine lv_iconst (v := (-1 : Int32)) hC.1 hC.2.1 dX6_odds_31 (by decide) ?_
          exact r_iretE hC hw hF dX6_odds_32
        · have hF := ifN hF b6
          refine lv_iload_n hC.1 hC.2.1 dX6_odds_25 rfl (lv_at hl 3 rfl) ?_
          refine lv_bipush (v := (12 : Int32)) hC.1 hC.2.1 dX6_odds_26 (by decide) ?_
          refine lv_icmp_le (tgt := 33) hC.1 hC.2.1 dX6_odds_28 (by decide) (fun b7 => ?_) (fun b7 => ?_)
          · have hF := ifP hF b7
            refine lv_aload_n hC.1 hC.2.1 dX6_odds_33 rfl (lv_at hl 0 rfl) ?_
            refine g6_clouds hC hw q1_206 dX6_odds_34 ?_
            refine lv_aload_n hC.1 hC.2.1 dX6_odds_37 rfl (lv_at hl 0 rfl) ?_
            refine g6_north hC hw q1_202 dX6_odds_38 ?_
            refine lv_iload_n hC.1 hC.2.1 dX6_odds_41 rfl (lv_at hl 1 rfl) ?_
            refine lv_iload_n hC.1 hC.2.1 dX6_odds_42 rfl (lv_at hl 2 rfl) ?_
            refine lv_iload_n hC.1 hC.2.1 dX6_odds_43 rfl (lv_at hl 3 rfl) ?_
            obtain ⟨M9, h8, hF⟩ := ob1S hF
            refine k_Vv (As := [.ref (ad G 24), .int x1, .int x2, .int x3]) (rest := []) hC hw (c_X0_weigh (M := M) (rfl : kd 24 = 11) h8) RC_C yv_X0_weigh q4_5 ⟨rfl, rfl⟩ ⟨Nat.le_of_ble_eq_true rfl, Nat.le_of_ble_eq_true rfl⟩ ⟨Nat.zero_le _, Nat.zero_le _⟩ rfl rfl (Nat.le_of_ble_eq_true rfl) hl dX6_odds_44 (fun H locs hw => ?_)
            refine lv_aload_n hC.1 hC.2.1 dX6_odds_47 rfl (lv_at hl 0 rfl) ?_
            refine lv_aload_n hC.1 hC.2.1 dX6_odds_48 rfl (lv_at hl 0 rfl) ?_
            refine g6_clouds hC hw q1_206 dX6_odds_49 ?_
            obtain ⟨r11, h10, hF⟩ := ob1S hF
            refine k_Vl (As := []) (rest := [.ref (ad G 0)]) hC hw (c_X0_waysToLast (M := M9) h10) RC_C yv_X0_waysToLast q4_23 ⟨rfl, rfl⟩ ⟨Nat.le_of_ble_eq_true rfl, Nat.le_of_ble_eq_true rfl⟩ ⟨Nat.zero_le _, Nat.zero_le _⟩ rfl rfl (Nat.le_of_ble_eq_true rfl) hl dX6_odds_52 (fun H locs hw => ?_)
            refine lv_aload_n hC.1 hC.2.1 dX6_odds_55 rfl (lv_at hl 0 rfl) ?_
            refine g6_clouds hC hw q1_206 dX6_odds_56 ?_
            refine g0_allWays hC hw q1_154 dX6_odds_59 ?_
            obtain ⟨M13, h12, hF⟩ := ob1S hF
            refine k_Vv (As := [.long r11, .long (M9.2 77 2)]) (rest := []) hC hw (c_X6_tellChance (M := M9) h12) RC_S yv_X6_tellChance q4_27 ⟨rfl, rfl⟩ ⟨Nat.le_of_ble_eq_true rfl, Nat.le_of_ble_eq_true rfl⟩ ⟨Nat.zero_le _, Nat.zero_le _⟩ rfl rfl (Nat.le_of_ble_eq_true rfl) hl dX6_odds_62 (fun H locs hw => ?_)
            refine lv_iconst (v := (1 : Int32)) hC.1 hC.2.1 dX6_odds_65 (by decide) ?_
            exact r_iretE hC hw hF dX6_odds_66
          · have hF := ifN hF b7
            refine lv_iconst (v := (-1 : Int32)) hC.1 hC.2.1 dX6_odds_31 (by decide) ?_
            exact r_iretE hC hw hF dX6_odds_32
abbrev rm_X6_mid : Room := { frames := 4, cells := 0, slots := 0, locals := 101 }
theorem yv_X6_mid : YV yX6_mid cX6_mid 4 (some .int) 3 RX6 := ⟨⟨q4_35, q4_36, q1_1, q4_37⟩, by decide +kernel⟩
theorem dX6_mid_0 : decode cX6_mid 0 = .ok (.aload_n 0, 1) := by decide +kernel
theorem dX6_mid_1 : decode cX6_mid 1 = .ok (.getfield 24, 3) := by decide +kernel
theorem dX6_mid_4 : decode cX6_mid 4 = .ok (.iload_n 1, 1) := by decide +kernel
theorem dX6_mid_5 : decode cX6_mid 5 = .ok (.invokevirtual 155, 3) := by decide +kernel
theorem dX6_mid_8 : decode cX6_mid 8 = .ok (.ifCond .eq 23, 3) := by decide +kernel
theorem dX6_mid_11 : decode cX6_mid 11 = .ok (.iload_n 2, 1) := by decide +kernel
theorem dX6_mid_12 : decode cX6_mid 12 = .ok (.ifCond .lt 19, 3) := by decide +kernel
theorem dX6_mid_15 : decode cX6_mid 15 = .ok (.iload_n 2, 1) := by decide +kernel
theorem dX6_mid_16 : decode cX6_mid 16 = .ok (.bipush 8, 2) := by decide +kernel
theorem dX6_mid_18 : decode cX6_mid 18 = .ok (.if_icmp .gt 13, 3) := by decide +kernel
theorem dX6_mid_21 : decode cX6_mid 21 = .ok (.iload_n 3, 1) := by decide +kernel
theorem dX6_mid_22 : decode cX6_mid 22 = .ok (.ifCond .lt 9, 3) := by decide +kernel
theorem dX6_mid_25 : decode cX6_mid 25 = .ok (.iload_n 3, 1) := by decide +kernel
theorem dX6_mid_26 : decode cX6_mid 26 = .ok (.bipush 12, 2) := by decide +kernel
theorem dX6_mid_28 : decode cX6_mid 28 = .ok (.if_icmp .le 5, 3) := by decide +kernel
theorem dX6_mid_31 : decode cX6_mid 31 = .ok (.iconst (-1), 1) := by decide +kernel
theorem dX6_mid_32 : decode cX6_mid 32 = .ok (.ireturn, 1) := by decide +kernel
theorem dX6_mid_33 : decode cX6_mid 33 = .ok (.aload_n 0, 1) := by decide +kernel
theorem dX6_mid_34 : decode cX6_mid 34 = .ok (.getfield 49, 3) := by decide +kernel
theorem dX6_mid_37 : decode cX6_mid 37 = .ok (.aload_n 0, 1) := by decide +kernel
theorem dX6_mid_38 : decode cX6_mid 38 = .ok (.getfield 24, 3) := by decide +kernel
theorem dX6_mid_41 : decode cX6_mid 41 = .ok (.iload_n 1, 1) := by decide +kernel
theorem dX6_mid_42 : decode cX6_mid 42 = .ok (.iload_n 2, 1) := by decide +kernel
theorem dX6_mid_43 : decode cX6_mid 43 = .ok (.iload_n 3, 1) := by decide +kernel
theorem dX6_mid_44 : decode cX6_mid 44 = .ok (.invokevirtual 317, 3) := by decide +kernel
theorem dX6_mid_47 : decode cX6_mid 47 = .ok (.aload_n 0, 1) := by decide +kernel
theorem dX6_mid_48 : decode cX6_mid 48 = .ok (.aload_n 0, 1) := by decide +kernel
theorem dX6_mid_49 : decode cX6_mid 49 = .ok (.getfield 49, 3) := by decide +kernel
theorem dX6_mid_52 : decode cX6_mid 52 = .ok (.invokevirtual 331, 3) := by decide +kernel
theorem dX6_mid_55 : decode cX6_mid 55 = .ok (.aload_n 0, 1) := by decide +kernel
theorem dX6_mid_56 : decode cX6_mid 56 = .ok (.getfield 49, 3) := by decide +kernel
theorem dX6_mid_59 : decode cX6_mid 59 = .ok (.getfield 324, 3) := by decide +kernel
theorem dX6_mid_62 : decode cX6_mid 62 = .ok (.invokevirtual 327, 3) := by decide +kernel
theorem dX6_mid_65 : decode cX6_mid 65 = .ok (.iconst 1, 1) := by decide +kernel
theorem dX6_mid_66 : decode cX6_mid 66 = .ok (.ireturn, 1) := by decide +kernel
def F_X6_mid (fu : Nat) (M : Mm) (x1 : Int32) (x2 : Int32) (x3 : Int32) : Option (Int32 × Mm) :=
  ob1 (F_X2_isMan fu M 24 x1) (fun r2 =>
  if r2 = 0 then
    some ((-1 : Int32), M)
  else
    if x2 < 0 then
      some ((-1 : Int32), M)
    else
      if (8 : Int32) < x2 then
        some ((-1 : Int32), M)
      else
        if x3 < 0 then
          some ((-1 : Int32), M)
        else
          if x3 ≤ (12 : Int32) then
            ob1 (F_X0_weigh fu M 24 x1 x2 x3) (fun M9 =>
            ob1 (F_X0_bulkOfWays fu M9) (fun r11 =>
            ob1 (F_X6_tellChance fu M9 r11 (M9.2 77 2)) (fun M13 =>
            some ((1 : Int32), M13))))
          else
            some ((-1 : Int32), M))
set_option maxRecDepth 100000 in
set_option maxHeartbeats 4000000 in
theorem c_X6_mid {l : Launch} {G : Gv} {fu : Nat} {M : Mm} {x1 : Int32} {x2 : Int32} {x3 : Int32} {r : Int32} {M' : Mm} (hF : F_X6_mid fu M x1 x2 x3 = some (r, M')) : Met l yX6_mid (.code yX6_mid cX6_mid 4 (some .int) :: zU) rm_X6_mid (va_Pc [.ref (ad G 0), .int x1, .int x2, .int x3] (Wd G M)) (QI G r M') 0 0 (zA G) := by
  refine zMet (by decide) rfl (Nat.le_of_ble_eq_true rfl) ?_
  intro p e s m below meth c hC hw ls hl
  have hl : lv_has ls 4 [(0, .ref (ad G 0)), (1, .int x1), (2, .int x2), (3, .int x3)] := hl
  unfold F_X6_mid at hF
  refine lv_aload_n hC.1 hC.2.1 dX6_mid_0 rfl (lv_at hl 0 rfl) ?_
  refine g6_north hC hw q1_202 dX6_mid_1 ?_
  refine lv_iload_n hC.1 hC.2.1 dX6_mid_4 rfl (lv_at hl 1 rfl) ?_
  obtain ⟨r2, h1, hF⟩ := ob1S hF
  refine k_Vi (As := [.int x1]) (rest := []) hC hw (c_X2_isMan (M := M) (rfl : kd 24 = 11) h1) (RC_N (rfl : kd 24 = 11)) yv_X2_isMan q2_147 ⟨rfl, rfl⟩ ⟨Nat.le_of_ble_eq_true rfl, Nat.le_of_ble_eq_true rfl⟩ ⟨Nat.zero_le _, Nat.zero_le _⟩ rfl rfl (Nat.le_of_ble_eq_true rfl) hl dX6_mid_5 (fun H locs hw => ?_)
  refine lv_if_eq (tgt := 31) hC.1 hC.2.1 dX6_mid_8 (by decide) (fun b3 => ?_) (fun b3 => ?_)
  · have hF := ifP hF b3
    refine lv_iconst (v := (-1 : Int32)) hC.1 hC.2.1 dX6_mid_31 (by decide) ?_
    exact r_iretE hC hw hF dX6_mid_32
  · have hF := ifN hF b3
    refine lv_iload_n hC.1 hC.2.1 dX6_mid_11 rfl (lv_at hl 2 rfl) ?_
    refine lv_if_lt (tgt := 31) hC.1 hC.2.1 dX6_mid_12 (by decide) (fun b4 => ?_) (fun b4 => ?_)
    · have hF := ifP hF b4
      refine lv_iconst (v := (-1 : Int32)) hC.1 hC.2.1 dX6_mid_31 (by decide) ?_
      exact r_iretE hC hw hF dX6_mid_32
    · have hF := ifN hF b4
      refine lv_iload_n hC.1 hC.2.1 dX6_mid_15 rfl (lv_at hl 2 rfl) ?_
      refine lv_bipush (v := (8 : Int32)) hC.1 hC.2.1 dX6_mid_16 (by decide) ?_
      refine lv_icmp_gt (tgt := 31) hC.1 hC.2.1 dX6_mid_18 (by decide) (fun b5 => ?_) (fun b5 => ?_)
      · have hF := ifP hF b5
        refine lv_iconst (v := (-1 : Int32)) hC.1 hC.2.1 dX6_mid_31 (by decide) ?_
        exact r_iretE hC hw hF dX6_mid_32
      · have hF := ifN hF b5
        refine lv_iload_n hC.1 hC.2.1 dX6_mid_21 rfl (lv_at hl 3 rfl) ?_
        refine lv_if_lt (tgt := 31) hC.1 hC.2.1 dX6_mid_22 (by decide) (fun b6 => ?_) (fun b6 => ?_)
        · have hF := ifP hF b6
          refine lv_iconst (v := (-1 : Int32)) hC.1 hC.2.1 dX6_mid_31 (by decide) ?_
          exact r_iretE hC hw hF dX6_mid_32
        · have hF := ifN hF b6
          refine lv_iload_n hC.1 hC.2.1 dX6_mid_25 rfl (lv_at hl 3 rfl) ?_
          refine lv_bipush (v := (12 : Int32)) hC.1 hC.2.1 dX6_mid_26 (by decide) ?_
          refine lv_icmp_le (tgt := 33) hC.1 hC.2.1 dX6_mid_28 (by decide) (fun b7 => ?_) (fun b7 => ?_)
          · have hF := ifP hF b7
            refine lv_aload_n hC.1 hC.2.1 dX6_mid_33 rfl (lv_at hl 0 rfl) ?_
            refine g6_clouds hC hw q1_206 dX6_mid_34 ?_
            refine lv_aload_n hC.1 hC.2.1 dX6_mid_37 rfl (lv_at hl 0 rfl) ?_
            refine g6_north hC hw q1_202 dX6_mid_38 ?_
            refine lv_iload_n hC.1 hC.2.1 dX6_mid_41 rfl (lv_at hl 1 rfl) ?_
            refine lv_iload_n hC.1 hC.2.1 dX6_mid_42 rfl (lv_at hl 2 rfl) ?_
            refine lv_iload_n hC.1 hC.2.1 dX6_mid_43 rfl (lv_at hl 3 rfl) ?_
            obtain ⟨M9, h8, hF⟩ := ob1S hF
            refine k_Vv (As := [.ref (ad G 24), .int x1, .int x2, .int x3]) (rest := []) hC hw (c_X0_weigh (M := M) (rfl : kd 24 = 11) h8) RC_C yv_X0_weigh q4_5 ⟨rfl, rfl⟩ ⟨Nat.le_of_ble_eq_true rfl, Nat.le_of_ble_eq_true rfl⟩ ⟨Nat.zero_le _, Nat.zero_le _⟩ rfl rfl (Nat.le_of_ble_eq_true rfl) hl dX6_mid_44 (fun H locs hw => ?_)
            refine lv_aload_n hC.1 hC.2.1 dX6_mid_47 rfl (lv_at hl 0 rfl) ?_
            refine lv_aload_n hC.1 hC.2.1 dX6_mid_48 rfl (lv_at hl 0 rfl) ?_
            refine g6_clouds hC hw q1_206 dX6_mid_49 ?_
            obtain ⟨r11, h10, hF⟩ := ob1S hF
            refine k_Vl (As := []) (rest := [.ref (ad G 0)]) hC hw (c_X0_bulkOfWays (M := M9) h10) RC_C yv_X0_bulkOfWays q4_38 ⟨rfl, rfl⟩ ⟨Nat.le_of_ble_eq_true rfl, Nat.le_of_ble_eq_true rfl⟩ ⟨Nat.zero_le _, Nat.zero_le _⟩ rfl rfl (Nat.le_of_ble_eq_true rfl) hl dX6_mid_52 (fun H locs hw => ?_)
            refine lv_aload_n hC.1 hC.2.1 dX6_mid_55 rfl (lv_at hl 0 rfl) ?_
            refine g6_clouds hC hw q1_206 dX6_mid_56 ?_
            refine g0_allWays hC hw q1_154 dX6_mid_59 ?_
            obtain ⟨M13, h12, hF⟩ := ob1S hF
            refine k_Vv (As := [.long r11, .long (M9.2 77 2)]) (rest := []) hC hw (c_X6_tellChance (M := M9) h12) RC_S yv_X6_tellChance q4_27 ⟨rfl, rfl⟩ ⟨Nat.le_of_ble_eq_true rfl, Nat.le_of_ble_eq_true rfl⟩ ⟨Nat.zero_le _, Nat.zero_le _⟩ rfl rfl (Nat.le_of_ble_eq_true rfl) hl dX6_mid_62 (fun H locs hw => ?_)
            refine lv_iconst (v := (1 : Int32)) hC.1 hC.2.1 dX6_mid_65 (by decide) ?_
            exact r_iretE hC hw hF dX6_mid_66
          · have hF := ifN hF b7
            refine lv_iconst (v := (-1 : Int32)) hC.1 hC.2.1 dX6_mid_31 (by decide) ?_
            exact r_iretE hC hw hF dX6_mid_32
abbrev rm_X6_lots : Room := { frames := 6, cells := 0, slots := 0, locals := 143 }
theorem yv_X6_lots : YV yX6_lots cX6_lots 7 (some .int) 3 RX6 := ⟨⟨q4_43, q4_44, q1_1, q4_45⟩, by decide +kernel⟩
theorem dX6_lots_0 : decode cX6_lots 0 = .ok (.iload_n 1, 1) := by decide +kernel
theorem dX6_lots_1 : decode cX6_lots 1 = .ok (.iconst 1, 1) := by decide +kernel
theorem dX6_lots_2 : decode cX6_lots 2 = .ok (.if_icmp .lt 31, 3) := by decide +kernel
theorem dX6_lots_5 : decode cX6_lots 5 = .ok (.iload_n 1, 1) := by decide +kernel
theorem dX6_lots_6 : decode cX6_lots 6 = .ok (.bipush 20, 2) := by decide +kernel
theorem dX6_lots_8 : decode cX6_lots 8 = .ok (.if_icmp .gt 25, 3) := by decide +kernel
theorem dX6_lots_11 : decode cX6_lots 11 = .ok (.iload_n 2, 1) := by decide +kernel
theorem dX6_lots_12 : decode cX6_lots 12 = .ok (.ifCond .lt 21, 3) := by decide +kernel
theorem dX6_lots_15 : decode cX6_lots 15 = .ok (.iload_n 2, 1) := by decide +kernel
theorem dX6_lots_16 : decode cX6_lots 16 = .ok (.bipush 12, 2) := by decide +kernel
theorem dX6_lots_18 : decode cX6_lots 18 = .ok (.if_icmp .gt 15, 3) := by decide +kernel
theorem dX6_lots_21 : decode cX6_lots 21 = .ok (.iload_n 3, 1) := by decide +kernel
theorem dX6_lots_22 : decode cX6_lots 22 = .ok (.iconst 1, 1) := by decide +kernel
theorem dX6_lots_23 : decode cX6_lots 23 = .ok (.if_icmp .lt 10, 3) := by decide +kernel
theorem dX6_lots_26 : decode cX6_lots 26 = .ok (.iload_n 3, 1) := by decide +kernel
theorem dX6_lots_27 : decode cX6_lots 27 = .ok (.ldc_w 334, 3) := by decide +kernel
theorem dX6_lots_30 : decode cX6_lots 30 = .ok (.if_icmp .le 5, 3) := by decide +kernel
theorem dX6_lots_33 : decode cX6_lots 33 = .ok (.iconst (-1), 1) := by decide +kernel
theorem dX6_lots_34 : decode cX6_lots 34 = .ok (.ireturn, 1) := by decide +kernel
theorem dX6_lots_35 : decode cX6_lots 35 = .ok (.aload_n 0, 1) := by decide +kernel
theorem dX6_lots_36 : decode cX6_lots 36 = .ok (.getfield 24, 3) := by decide +kernel
theorem dX6_lots_39 : decode cX6_lots 39 = .ok (.getfield 152, 3) := by decide +kernel
theorem dX6_lots_42 : decode cX6_lots 42 = .ok (.ifCond .ne 6, 3) := by decide +kernel
theorem dX6_lots_45 : decode cX6_lots 45 = .ok (.bipush (-4), 2) := by decide +kernel
theorem dX6_lots_47 : decode cX6_lots 47 = .ok (.ireturn, 1) := by decide +kernel
theorem dX6_lots_48 : decode cX6_lots 48 = .ok (.aload_n 0, 1) := by decide +kernel
theorem dX6_lots_49 : decode cX6_lots 49 = .ok (.getfield 24, 3) := by decide +kernel
theorem dX6_lots_52 : decode cX6_lots 52 = .ok (.getfield 198, 3) := by decide +kernel
theorem dX6_lots_55 : decode cX6_lots 55 = .ok (.iload_n 1, 1) := by decide +kernel
theorem dX6_lots_56 : decode cX6_lots 56 = .ok (.iadd, 1) := by decide +kernel
theorem dX6_lots_57 : decode cX6_lots 57 = .ok (.bipush 60, 2) := by decide +kernel
theorem dX6_lots_59 : decode cX6_lots 59 = .ok (.if_icmp .le 6, 3) := by decide +kernel
theorem dX6_lots_62 : decode cX6_lots 62 = .ok (.bipush (-2), 2) := by decide +kernel
theorem dX6_lots_64 : decode cX6_lots 64 = .ok (.ireturn, 1) := by decide +kernel
theorem dX6_lots_65 : decode cX6_lots 65 = .ok (.iload_n 3, 1) := by decide +kernel
theorem dX6_lots_66 : decode cX6_lots 66 = .ok (.i2l, 1) := by decide +kernel
theorem dX6_lots_67 : decode cX6_lots 67 = .ok (.lstore 4, 2) := by decide +kernel
theorem dX6_lots_69 : decode cX6_lots 69 = .ok (.iconst 0, 1) := by decide +kernel
theorem dX6_lots_70 : decode cX6_lots 70 = .ok (.istore 6, 2) := by decide +kernel
theorem dX6_lots_72 : decode cX6_lots 72 = .ok (.iload 6, 2) := by decide +kernel
theorem dX6_lots_74 : decode cX6_lots 74 = .ok (.iload_n 1, 1) := by decide +kernel
theorem dX6_lots_75 : decode cX6_lots 75 = .ok (.if_icmp .ge 47, 3) := by decide +kernel
theorem dX6_lots_78 : decode cX6_lots 78 = .ok (.lload 4, 2) := by decide +kernel
theorem dX6_lots_80 : decode cX6_lots 80 = .ok (.ldc2_w 335, 3) := by decide +kernel
theorem dX6_lots_83 : decode cX6_lots 83 = .ok (.lmul, 1) := by decide +kernel
theorem dX6_lots_84 : decode cX6_lots 84 = .ok (.ldc2_w 337, 3) := by decide +kernel
theorem dX6_lots_87 : decode cX6_lots 87 = .ok (.lrem, 1) := by decide +kernel
theorem dX6_lots_88 : decode cX6_lots 88 = .ok (.lstore 4, 2) := by decide +kernel
theorem dX6_lots_90 : decode cX6_lots 90 = .ok (.aload_n 0, 1) := by decide +kernel
theorem dX6_lots_91 : decode cX6_lots 91 = .ok (.getfield 24, 3) := by decide +kernel
theorem dX6_lots_94 : decode cX6_lots 94 = .ok (.lload 4, 2) := by decide +kernel
theorem dX6_lots_96 : decode cX6_lots 96 = .ok (.ldc2_w 339, 3) := by decide +kernel
theorem dX6_lots_99 : decode cX6_lots 99 = .ok (.lrem, 1) := by decide +kernel
theorem dX6_lots_100 : decode cX6_lots 100 = .ok (.iload_n 2, 1) := by decide +kernel
theorem dX6_lots_101 : decode cX6_lots 101 = .ok (.i2l, 1) := by decide +kernel
theorem dX6_lots_102 : decode cX6_lots 102 = .ok (.lcmp, 1) := by decide +kernel
theorem dX6_lots_103 : decode cX6_lots 103 = .ok (.ifCond .ge 7, 3) := by decide +kernel
theorem dX6_lots_106 : decode cX6_lots 106 = .ok (.iconst 1, 1) := by decide +kernel
theorem dX6_lots_107 : decode cX6_lots 107 = .ok (.goto 4, 3) := by decide +kernel
theorem dX6_lots_110 : decode cX6_lots 110 = .ok (.iconst 0, 1) := by decide +kernel
theorem dX6_lots_111 : decode cX6_lots 111 = .ok (.iconst 0, 1) := by decide +kernel
theorem dX6_lots_112 : decode cX6_lots 112 = .ok (.iconst 0, 1) := by decide +kernel
theorem dX6_lots_113 : decode cX6_lots 113 = .ok (.invokevirtual 201, 3) := by decide +kernel
theorem dX6_lots_116 : decode cX6_lots 116 = .ok (.iinc 6 1, 3) := by decide +kernel
theorem dX6_lots_119 : decode cX6_lots 119 = .ok (.goto (-47), 3) := by decide +kernel
theorem dX6_lots_122 : decode cX6_lots 122 = .ok (.aload_n 0, 1) := by decide +kernel
theorem dX6_lots_123 : decode cX6_lots 123 = .ok (.getfield 24, 3) := by decide +kernel
theorem dX6_lots_126 : decode cX6_lots 126 = .ok (.invokevirtual 205, 3) := by decide +kernel
theorem dX6_lots_129 : decode cX6_lots 129 = .ok (.invokestatic 209, 3) := by decide +kernel
theorem dX6_lots_132 : decode cX6_lots 132 = .ok (.ireturn, 1) := by decide +kernel
def F_X6_lots_111 (fu : Nat) (k72 : Mm → Int32 → Int32 → Int64 → Int32 → Option (Int32 × Mm)) (M : Mm) (x1 : Int32) (x2 : Int32) (x4 : Int64) (x6 : Int32) (t1 : Int32) : Option (Int32 × Mm) :=
  ob1 (F_X2_act fu M 24 t1 (0 : Int32) (0 : Int32)) (fun M2 =>
  k72 M2 x1 x2 x4 (x6 + (1 : Int32)))
set_option maxRecDepth 100000 in
set_option maxHeartbeats 4000000 in
theorem w_X6_lots_111 {p : Program} {l : Launch} {e : Env} {s : State} {m : MethodId} {args : Array Value} {below : List Frame} {meth : Method} {c : Code} {G : Gv} (hC : Cx p s m args meth c cX6_lots 7 (some .int) RX6) {fu : Nat} {r : Int32} {M' : Mm} {k72 : Mm → Int32 → Int32 → Int64 → Int32 → Option (Int32 × Mm)} (hk_72 : ∀ {x1 : Int32} {x2 : Int32} {x4 : Int64} {x6 : Int32} {M : Mm} {H : Heap} {locs : List Loc} {ls : Array Slot}, k72 M x1 x2 x4 x6 = some (r, M') → St G s H locs M → lv_has ls 7 [(0, .ref (ad G 0)), (1, .int x1), (2, .int x2), (4, .long x4), (6, .int x6)] → W p l e rm_X6_lots s m args below meth c H locs 0 0 (MQ below (QI G r M') args s 0 0 (zA G)) (F0 m 72 ls [])) {x1 : Int32} {x2 : Int32} {x4 : Int64} {x6 : Int32} {t1 : Int32} {M : Mm} {H : Heap} {locs : List Loc} {ls : Array Slot} (hF : F_X6_lots_111 fu k72 M x1 x2 x4 x6 t1 = some (r, M')) (hw : St G s H locs M) (hl : lv_has ls 7 [(0, .ref (ad G 0)), (1, .int x1), (2, .int x2), (4, .long x4), (6, .int x6)]) : W p l e rm_X6_lots s m args below meth c H locs 0 0 (MQ below (QI G r M') args s 0 0 (zA G)) (F0 m 111 ls [.int t1, .ref (ad G 24)]) := by
  unfold F_X6_lots_111 at hF
  refine lv_iconst (v := (0 : Int32)) hC.1 hC.2.1 dX6_lots_111 (by decide) ?_
  refine lv_iconst (v := (0 : Int32)) hC.1 hC.2.1 dX6_lots_112 (by decide) ?_
  obtain ⟨M2, h1, hF⟩ := ob1S hF
  refine k_Vv (As := [.int t1, .int (0 : Int32), .int (0 : Int32)]) (rest := []) hC hw (c_X2_act (M := M) (rfl : kd 24 = 11) h1) (RC_N (rfl : kd 24 = 11)) yv_X2_act q2_233 ⟨rfl, rfl⟩ ⟨Nat.le_of_ble_eq_true rfl, Nat.le_of_ble_eq_true rfl⟩ ⟨Nat.zero_le _, Nat.zero_le _⟩ rfl rfl (Nat.le_of_ble_eq_true rfl) hl dX6_lots_113 (fun H locs hw => ?_)
  refine lv_iinc (v := (x6 + (1 : Int32))) (lv' := [(6, .int (x6 + (1 : Int32))), (0, .ref (ad G 0)), (1, .int x1), (2, .int x2), (4, .long x4)]) hC.1 hC.2.1 dX6_lots_116 hl (k := 4) rfl rfl (by decide) rfl (fun ls hl => ?_)
  refine lv_goto (tgt := 72) hC.1 hC.2.1 dX6_lots_119 (by decide) ?_
  exact hk_72 hF hw (lv_sub hl [1, 2, 3, 4, 0] rfl)
def F_X6_lots_72 (fu : Nat) : Nat → Mm → Int32 → Int32 → Int64 → Int32 → Option (Int32 × Mm)
  | 0, _, _, _, _, _ => none
  | n + 1, M, x1, x2, x4, x6 =>
    if x1 ≤ x6 then
      ob1 (F_X2_living fu M 24) (fun r3 =>
      ob1 (F_J6_bitCount_0f7a4 fu M r3) (fun r5 =>
      some (r5, M)))
    else
      lt1 ((x4 * (48271 : Int64)) - (x4 * (48271 : Int64)) / (2147483647 : Int64) * (2147483647 : Int64)) (fun y6 =>
      if 0 ≤ (lg_cmp (y6 - y6 / (12 : Int64) * (12 : Int64)) x2.toInt64) then
        F_X6_lots_111 fu (F_X6_lots_72 fu n) M x1 x2 y6 x6 (0 : Int32)
      else
        F_X6_lots_111 fu (F_X6_lots_72 fu n) M x1 x2 y6 x6 (1 : Int32))
set_option maxRecDepth 100000 in
set_option maxHeartbeats 4000000 in
theorem w_X6_lots_72 {p : Program} {l : Launch} {e : Env} {s : State} {m : MethodId} {args : Array Value} {below : List Frame} {meth : Method} {c : Code} {G : Gv} (hC : Cx p s m args meth c cX6_lots 7 (some .int) RX6) {fu : Nat} {r : Int32} {M' : Mm} : ∀ (n : Nat) {x1 : Int32} {x2 : Int32} {x4 : Int64} {x6 : Int32} {M : Mm} {H : Heap} {locs : List Loc} {ls : Array Slot}, F_X6_lots_72 fu n M x1 x2 x4 x6 = some (r, M') → St G s H locs M → lv_has ls 7 [(0, .ref (ad G 0)), (1, .int x1), (2, .int x2), (4, .long x4), (6, .int x6)] → W p l e rm_X6_lots s m args below meth c H locs 0 0 (MQ below (QI G r M') args s 0 0 (zA G)) (F0 m 72 ls []) := by
  intro n
  induction n with
  | zero =>
    intro x1 x2 x4 x6 M H locs ls hF hw hl
    cases hF
  | succ n ih =>
    intro x1 x2 x4 x6 M H locs ls hF hw hl
    unfold F_X6_lots_72 at hF
    refine lv_iload hC.1 hC.2.1 dX6_lots_72 (lv_at hl 4 rfl) ?_
    refine lv_iload_n hC.1 hC.2.1 dX6_lots_74 rfl (lv_at hl 1 rfl) ?_
    refine lv_icmp_ge (tgt := 122) hC.1 hC.2.1 dX6_lots_75 (by decide) (fun b1 => ?_) (fun b1 => ?_)
    · have hF := ifP hF b1
      refine lv_aload_n hC.1 hC.2.1 dX6_lots_122 rfl (lv_at hl 0 rfl) ?_
      refine g6_north hC hw q1_202 dX6_lots_123 ?_
      obtain ⟨r3, h2, hF⟩ := ob1S hF
      refine k_Vi (As := []) (rest := []) hC hw (c_X2_living (M := M) (rfl : kd 24 = 11) h2) (RC_N (rfl : kd 24 = 11)) yv_X2_living q3_7 ⟨rfl, rfl⟩ ⟨Nat.le_of_ble_eq_true rfl, Nat.le_of_ble_eq_true rfl⟩ ⟨Nat.zero_le _, Nat.zero_le _⟩ rfl rfl (Nat.le_of_ble_eq_true rfl) hl dX6_lots_126 (fun H locs hw => ?_)
      obtain ⟨r5, h4, hF⟩ := ob1S hF
      refine k_Si (As := [.int r3]) (rest := []) hC hw (c_J6_bitCount_0f7a4 (M := M) h4) ys_J6_bitCount_0f7a4 q3_11 ⟨rfl, rfl⟩ ⟨Nat.le_of_ble_eq_true rfl, Nat.le_of_ble_eq_true rfl⟩ ⟨Nat.zero_le _, Nat.zero_le _⟩ rfl rfl (Nat.le_of_ble_eq_true rfl) hl dX6_lots_129 (fun H locs hw => ?_)
      exact r_iretE hC hw hF dX6_lots_132
    · have hF := ifN hF b1
      refine lv_lload hC.1 hC.2.1 dX6_lots_78 (lv_at hl 3 rfl) ?_
      refine lv_ldc2 (v := (48271 : Int64)) hC.1 hC.2.1 hC.2.2.2.1 (hC.2.2.2.2.1 _ q4_47) dX6_lots_80 ?_
      refine lv_lmul hC.1 hC.2.1 dX6_lots_83 ?_
      refine lv_ldc2 (v := (2147483647 : Int64)) hC.1 hC.2.1 hC.2.2.2.1 (hC.2.2.2.2.1 _ q4_48) dX6_lots_84 ?_
      refine lv_lrem hC.1 hC.2.1 dX6_lots_87 (by decide) ?_
      refine lv_topl (fun y6 ey6 => ?_)
      have hF := lt1G hF ey6
      refine lv_lstore (lv' := [(4, .long y6), (0, .ref (ad G 0)), (1, .int x1), (2, .int x2), (6, .int x6)]) hC.1 hC.2.1 dX6_lots_88 hl (by decide) rfl (fun ls hl => ?_)
      refine lv_aload_n hC.1 hC.2.1 dX6_lots_90 rfl (lv_at hl 1 rfl) ?_
      refine g6_north hC hw q1_202 dX6_lots_91 ?_
      refine lv_lload hC.1 hC.2.1 dX6_lots_94 (lv_at hl 0 rfl) ?_
      refine lv_ldc2 (v := (12 : Int64)) hC.1 hC.2.1 hC.2.2.2.1 (hC.2.2.2.2.1 _ q4_49) dX6_lots_96 ?_
      refine lv_lrem hC.1 hC.2.1 dX6_lots_99 (by decide) ?_
      refine lv_iload_n hC.1 hC.2.1 dX6_lots_100 rfl (lv_at hl 3 rfl) ?_
      refine lv_i2l hC.1 hC.2.1 dX6_lots_101 rfl ?_
      refine W.lcmp hC.1 hC.2.1 dX6_lots_102 ?_
      refine lv_if_ge (tgt := 110) hC.1 hC.2.1 dX6_lots_103 (by decide) (fun b7 => ?_) (fun b7 => ?_)
      · have hF := ifP hF b7
        refine lv_iconst (v := (0 : Int32)) hC.1 hC.2.1 dX6_lots_110 (by decide) ?_
        exact w_X6_lots_111 hC (hk_72 := ih) hF hw (lv_sub hl [1, 2, 3, 0, 4] rfl)
      · have hF := ifN hF b7
        refine lv_iconst (v := (1 : Int32)) hC.1 hC.2.1 dX6_lots_106 (by decide) ?_
        refine lv_goto (tgt := 111) hC.1 hC.2.1 dX6_lots_107 (by decide) ?_
        exact w_X6_lots_111 hC (hk_72 := ih) hF hw (lv_sub hl [1, 2, 3, 0, 4] rfl)
def F_X6_lots (fu : Nat) (M : Mm) (x1 : Int32) (x2 : Int32) (x3 : Int32) : Option (Int32 × Mm) :=
  if x1 < (1 : Int32) then
    some ((-1 : Int32), M)
  else
    if (20 : Int32) < x1 then
      some ((-1 : Int32), M)
    else
      if x2 < 0 then
        some ((-1 : Int32), M)
      else
        if (12 : Int32) < x2 then
          some ((-1 : Int32), M)
        else
          if x3 < (1 : Int32) then
            some ((-1 : Int32), M)
          else
            if x3 ≤ (2147483646 : Int32) then
              if (M.1 24 0) = 0 then
                some ((-4 : Int32), M)
              else
                if ((M.1 24 3) + x1) ≤ (60 : Int32) then
                  F_X6_lots_72 fu fu M x1 x2 x3.toInt64 (0 : Int32)
                else
                  some ((-2 : Int32), M)
            else
              some ((-1 : Int32), M)
set_option maxRecDepth 100000 in
set_option maxHeartbeats 4000000 in
theorem c_X6_lots {l : Launch} {G : Gv} {fu : Nat} {M : Mm} {x1 : Int32} {x2 : Int32} {x3 : Int32} {r : Int32} {M' : Mm} (hF : F_X6_lots fu M x1 x2 x3 = some (r, M')) : Met l yX6_lots (.code yX6_lots cX6_lots 7 (some .int) :: zU) rm_X6_lots (va_Pc [.ref (ad G 0), .int x1, .int x2, .int x3] (Wd G M)) (QI G r M') 0 0 (zA G) := by
  refine zMet (by decide) rfl (Nat.le_of_ble_eq_true rfl) ?_
  intro p e s m below meth c hC hw ls hl
  have hl : lv_has ls 7 [(0, .ref (ad G 0)), (1, .int x1), (2, .int x2), (3, .int x3)] := hl
  unfold F_X6_lots at hF
  refine lv_iload_n hC.1 hC.2.1 dX6_lots_0 rfl (lv_at hl 1 rfl) ?_
  refine lv_iconst (v := (1 : Int32)) hC.1 hC.2.1 dX6_lots_1 (by decide) ?_
  refine lv_icmp_lt (tgt := 33) hC.1 hC.2.1 dX6_lots_2 (by decide) (fun b1 => ?_) (fun b1 => ?_)
  · have hF := ifP hF b1
    refine lv_iconst (v := (-1 : Int32)) hC.1 hC.2.1 dX6_lots_33 (by decide) ?_
    exact r_iretE hC hw hF dX6_lots_34
  · have hF := ifN hF b1
    refine lv_iload_n hC.1 hC.2.1 dX6_lots_5 rfl (lv_at hl 1 rfl) ?_
    refine lv_bipush (v := (20 : Int32)) hC.1 hC.2.1 dX6_lots_6 (by decide) ?_
    refine lv_icmp_gt (tgt := 33) hC.1 hC.2.1 dX6_lots_8 (by decide) (fun b2 => ?_) (fun b2 => ?_)
    · have hF := ifP hF b2
      refine lv_iconst (v := (-1 : Int32)) hC.1 hC.2.1 dX6_lots_33 (by decide) ?_
      exact r_iretE hC hw hF dX6_lots_34
    · have hF := ifN hF b2
      refine lv_iload_n hC.1 hC.2.1 dX6_lots_11 rfl (lv_at hl 2 rfl) ?_
      refine lv_if_lt (tgt := 33) hC.1 hC.2.1 dX6_lots_12 (by decide) (fun b3 => ?_) (fun b3 => ?_)
      · have hF := ifP hF b3
        refine lv_iconst (v := (-1 : Int32)) hC.1 hC.2.1 dX6_lots_33 (by decide) ?_
        exact r_iretE hC hw hF dX6_lots_34
      · have hF := ifN hF b3
        refine lv_iload_n hC.1 hC.2.1 dX6_lots_15 rfl (lv_at hl 2 rfl) ?_
        refine lv_bipush (v := (12 : Int32)) hC.1 hC.2.1 dX6_lots_16 (by decide) ?_
        refine lv_icmp_gt (tgt := 33) hC.1 hC.2.1 dX6_lots_18 (by decide) (fun b4 => ?_) (fun b4 => ?_)
        · have hF := ifP hF b4
          refine lv_iconst (v := (-1 : Int32)) hC.1 hC.2.1 dX6_lots_33 (by decide) ?_
          exact r_iretE hC hw hF dX6_lots_34
        · have hF := ifN hF b4
          refine lv_iload_n hC.1 hC.2.1 dX6_lots_21 rfl (lv_at hl 3 rfl) ?_
          refine lv_iconst (v := (1 : Int32)) hC.1 hC.2.1 dX6_lots_22 (by decide) ?_
          refine lv_icmp_lt (tgt := 33) hC.1 hC.2.1 dX6_lots_23 (by decide) (fun b5 => ?_) (fun b5 => ?_)
          · have hF := ifP hF b5
            refine lv_iconst (v := (-1 : Int32)) hC.1 hC.2.1 dX6_lots_33 (by decide) ?_
            exact r_iretE hC hw hF dX6_lots_34
          · have hF := ifN hF b5
            refine lv_iload_n hC.1 hC.2.1 dX6_lots_26 rfl (lv_at hl 3 rfl) ?_
            refine lv_ldcw (v := (2147483646 : Int32)) hC.1 hC.2.1 hC.2.2.2.1 (hC.2.2.2.2.1 _ q4_46) dX6_lots_27 ?_
            refine lv_icmp_le (tgt := 35) hC.1 hC.2.1 dX6_lots_30 (by decide) (fun b6 => ?_) (fun b6 => ?_)
            · have hF := ifP hF b6
              refine lv_aload_n hC.1 hC.2.1 dX6_lots_35 rfl (lv_at hl 0 rfl) ?_
              refine g6_north hC hw q1_202 dX6_lots_36 ?_
              refine g2_men hC hw (rfl : kd 24 = 11) q1_32 dX6_lots_39 ?_
              refine lv_if_ne (tgt := 48) hC.1 hC.2.1 dX6_lots_42 (by decide) (fun b7 => ?_) (fun b7 => ?_)
              · have hF := ifN hF b7
                refine lv_aload_n hC.1 hC.2.1 dX6_lots_48 rfl (lv_at hl 0 rfl) ?_
                refine g6_north hC hw q1_202 dX6_lots_49 ?_
                refine g2_deeds hC hw (rfl : kd 24 = 11) q1_38 dX6_lots_52 ?_
                refine lv_iload_n hC.1 hC.2.1 dX6_lots_55 rfl (lv_at hl 1 rfl) ?_
                refine lv_iadd hC.1 hC.2.1 dX6_lots_56 ?_
                refine lv_bipush (v := (60 : Int32)) hC.1 hC.2.1 dX6_lots_57 (by decide) ?_
                refine lv_icmp_le (tgt := 65) hC.1 hC.2.1 dX6_lots_59 (by decide) (fun b8 => ?_) (fun b8 => ?_)
                · have hF := ifP hF b8
                  refine lv_iload_n hC.1 hC.2.1 dX6_lots_65 rfl (lv_at hl 3 rfl) ?_
                  refine lv_i2l hC.1 hC.2.1 dX6_lots_66 rfl ?_
                  refine lv_lstore (lv' := [(4, .long x3.toInt64), (0, .ref (ad G 0)), (1, .int x1), (2, .int x2), (3, .int x3)]) hC.1 hC.2.1 dX6_lots_67 hl (by decide) rfl (fun ls hl => ?_)
                  refine lv_iconst (v := (0 : Int32)) hC.1 hC.2.1 dX6_lots_69 (by decide) ?_
                  refine lv_istore (lv' := [(6, .int (0 : Int32)), (4, .long x3.toInt64), (0, .ref (ad G 0)), (1, .int x1), (2, .int x2), (3, .int x3)]) hC.1 hC.2.1 dX6_lots_70 hl (by decide) rfl (fun ls hl => ?_)
                  exact w_X6_lots_72 hC _ hF hw (lv_sub hl [2, 3, 4, 1, 0] rfl)
                · have hF := ifN hF b8
                  refine lv_bipush (v := (-2 : Int32)) hC.1 hC.2.1 dX6_lots_62 (by decide) ?_
                  exact r_iretE hC hw hF dX6_lots_64
              · have hF := ifP hF b7
                refine lv_bipush (v := (-4 : Int32)) hC.1 hC.2.1 dX6_lots_45 (by decide) ?_
                exact r_iretE hC hw hF dX6_lots_47
            · have hF := ifN hF b6
              refine lv_iconst (v := (-1 : Int32)) hC.1 hC.2.1 dX6_lots_33 (by decide) ?_
              exact r_iretE hC hw hF dX6_lots_34
abbrev rm_X6_asked : Room := { frames := 0, cells := 0, slots := 0, locals := 0 }
theorem yv_X6_asked : YV yX6_asked cX6_asked 1 (some .int) 0 RX6 := ⟨⟨q4_51, q4_52, q1_1, q4_53⟩, by decide +kernel⟩
theorem dX6_asked_0 : decode cX6_asked 0 = .ok (.aload_n 0, 1) := by decide +kernel
theorem dX6_asked_1 : decode cX6_asked 1 = .ok (.getfield 220, 3) := by decide +kernel
theorem dX6_asked_4 : decode cX6_asked 4 = .ok (.ireturn, 1) := by decide +kernel
def F_X6_asked (fu : Nat) (M : Mm) : Option Int32 :=
  some (M.1 0 9)
set_option maxRecDepth 100000 in
set_option maxHeartbeats 4000000 in
theorem c_X6_asked {l : Launch} {G : Gv} {fu : Nat} {M : Mm} {r : Int32} (hF : F_X6_asked fu M = some r) : Met l yX6_asked (.code yX6_asked cX6_asked 1 (some .int) :: zU) rm_X6_asked (va_Pc [.ref (ad G 0)] (Wd G M)) (QI G r M) 0 0 (zA G) := by
  refine zMet (by decide) rfl (Nat.le_of_ble_eq_true rfl) ?_
  intro p e s m below meth c hC hw ls hl
  have hl : lv_has ls 1 [(0, .ref (ad G 0))] := hl
  unfold F_X6_asked at hF
  refine lv_aload_n hC.1 hC.2.1 dX6_asked_0 rfl (lv_at hl 0 rfl) ?_
  refine g6_told hC hw q1_209 dX6_asked_1 ?_
  exact r_iretP hC hw hF dX6_asked_4
abbrev rm_X6_upper : Room := { frames := 0, cells := 0, slots := 0, locals := 0 }
theorem yv_X6_upper : YV yX6_upper cX6_upper 1 (some .long) 0 RX6 := ⟨⟨q4_55, q4_56, q1_1, q4_57⟩, by decide +kernel⟩
theorem dX6_upper_0 : decode cX6_upper 0 = .ok (.aload_n 0, 1) := by decide +kernel
theorem dX6_upper_1 : decode cX6_upper 1 = .ok (.getfield 341, 3) := by decide +kernel
theorem dX6_upper_4 : decode cX6_upper 4 = .ok (.lreturn, 1) := by decide +kernel
def F_X6_upper (fu : Nat) (M : Mm) : Option Int64 :=
  some (M.2 0 10)
set_option maxRecDepth 100000 in
set_option maxHeartbeats 4000000 in
theorem c_X6_upper {l : Launch} {G : Gv} {fu : Nat} {M : Mm} {r : Int64} (hF : F_X6_upper fu M = some r) : Met l yX6_upper (.code yX6_upper cX6_upper 1 (some .long) :: zU) rm_X6_upper (va_Pc [.ref (ad G 0)] (Wd G M)) (QL G r M) 0 0 (zA G) := by
  refine zMet (by decide) rfl (Nat.le_of_ble_eq_true rfl) ?_
  intro p e s m below meth c hC hw ls hl
  have hl : lv_has ls 1 [(0, .ref (ad G 0))] := hl
  unfold F_X6_upper at hF
  refine lv_aload_n hC.1 hC.2.1 dX6_upper_0 rfl (lv_at hl 0 rfl) ?_
  refine g6_upperNumber hC hw q1_210 dX6_upper_1 ?_
  exact r_lretP hC hw hF dX6_upper_4
abbrev rm_X6_lower : Room := { frames := 0, cells := 0, slots := 0, locals := 0 }
theorem yv_X6_lower : YV yX6_lower cX6_lower 1 (some .long) 0 RX6 := ⟨⟨q4_59, q4_60, q1_1, q4_61⟩, by decide +kernel⟩
theorem dX6_lower_0 : decode cX6_lower 0 = .ok (.aload_n 0, 1) := by decide +kernel
theorem dX6_lower_1 : decode cX6_lower 1 = .ok (.getfield 57, 3) := by decide +kernel
theorem dX6_lower_4 : decode cX6_lower 4 = .ok (.lreturn, 1) := by decide +kernel
def F_X6_lower (fu : Nat) (M : Mm) : Option Int64 :=
  some (M.2 0 11)
set_option maxRecDepth 100000 in
set_option maxHeartbeats 4000000 in
theorem c_X6_lower {l : Launch} {G : Gv} {fu : Nat} {M : Mm} {r : Int64} (hF : F_X6_lower fu M = some r) : Met l yX6_lower (.code yX6_lower cX6_lower 1 (some .long) :: zU) rm_X6_lower (va_Pc [.ref (ad G 0)] (Wd G M)) (QL G r M) 0 0 (zA G) := by
  refine zMet (by decide) rfl (Nat.le_of_ble_eq_true rfl) ?_
  intro p e s m below meth c hC hw ls hl
  have hl : lv_has ls 1 [(0, .ref (ad G 0))] := hl
  unfold F_X6_lower at hF
  refine lv_aload_n hC.1 hC.2.1 dX6_lower_0 rfl (lv_at hl 0 rfl) ?_
  refine g6_lowerNumber hC hw q1_211 dX6_lower_1 ?_
  exact r_lretP hC hw hF dX6_lower_4
abbrev rm_X6_rowsThere : Room := { frames := 1, cells := 0, slots := 0, locals := 21 }
theorem yv_X6_rowsThere : YV yX6_rowsThere cX6_rowsThere 4 (some .int) 0 RX6 := ⟨⟨q4_81, qs_29, q1_1, q4_82⟩, by decide +kernel⟩
theorem dX6_rowsThere_0 : decode cX6_rowsThere 0 = .ok (.iconst 0, 1) := by decide +kernel
theorem dX6_rowsThere_1 : decode cX6_rowsThere 1 = .ok (.istore_n 1, 1) := by decide +kernel
theorem dX6_rowsThere_2 : decode cX6_rowsThere 2 = .ok (.iconst 0, 1) := by decide +kernel
theorem dX6_rowsThere_3 : decode cX6_rowsThere 3 = .ok (.istore_n 2, 1) := by decide +kernel
theorem dX6_rowsThere_4 : decode cX6_rowsThere 4 = .ok (.iload_n 2, 1) := by decide +kernel
theorem dX6_rowsThere_5 : decode cX6_rowsThere 5 = .ok (.bipush 6, 2) := by decide +kernel
theorem dX6_rowsThere_7 : decode cX6_rowsThere 7 = .ok (.if_icmp .ge 29, 3) := by decide +kernel
theorem dX6_rowsThere_10 : decode cX6_rowsThere 10 = .ok (.aload_n 0, 1) := by decide +kernel
theorem dX6_rowsThere_11 : decode cX6_rowsThere 11 = .ok (.iload_n 2, 1) := by decide +kernel
theorem dX6_rowsThere_12 : decode cX6_rowsThere 12 = .ok (.invokevirtual 78, 3) := by decide +kernel
theorem dX6_rowsThere_15 : decode cX6_rowsThere 15 = .ok (.astore_n 3, 1) := by decide +kernel
theorem dX6_rowsThere_16 : decode cX6_rowsThere 16 = .ok (.aload_n 3, 1) := by decide +kernel
theorem dX6_rowsThere_17 : decode cX6_rowsThere 17 = .ok (.ifnull 13, 3) := by decide +kernel
theorem dX6_rowsThere_20 : decode cX6_rowsThere 20 = .ok (.aload_n 3, 1) := by decide +kernel
theorem dX6_rowsThere_21 : decode cX6_rowsThere 21 = .ok (.getfield 90, 3) := by decide +kernel
theorem dX6_rowsThere_24 : decode cX6_rowsThere 24 = .ok (.ifCond .eq 6, 3) := by decide +kernel
theorem dX6_rowsThere_27 : decode cX6_rowsThere 27 = .ok (.iinc 1 1, 3) := by decide +kernel
theorem dX6_rowsThere_30 : decode cX6_rowsThere 30 = .ok (.iinc 2 1, 3) := by decide +kernel
theorem dX6_rowsThere_33 : decode cX6_rowsThere 33 = .ok (.goto (-29), 3) := by decide +kernel
theorem dX6_rowsThere_36 : decode cX6_rowsThere 36 = .ok (.iload_n 1, 1) := by decide +kernel
theorem dX6_rowsThere_37 : decode cX6_rowsThere 37 = .ok (.ireturn, 1) := by decide +kernel
def F_X6_rowsThere_4 (fu : Nat) (M : Mm) : Nat → Int32 → Int32 → Option Int32
  | 0, _, _ => none
  | n + 1, x1, x2 =>
    if (6 : Int32) ≤ x2 then
      some x1
    else
      ob1 (F_X6_rowOf fu M x2) (fun r3 =>
      op1 r3 (
        F_X6_rowsThere_4 fu M n x1 (x2 + (1 : Int32))) (fun c4 =>
        if ¬ kd c4 = 12 then none else (
        if (M.1 c4 0) = 0 then
          F_X6_rowsThere_4 fu M n x1 (x2 + (1 : Int32))
        else
          F_X6_rowsThere_4 fu M n (x1 + (1 : Int32)) (x2 + (1 : Int32)))))
set_option maxRecDepth 100000 in
set_option maxHeartbeats 4000000 in
theorem w_X6_rowsThere_4 {p : Program} {l : Launch} {e : Env} {s : State} {m : MethodId} {args : Array Value} {below : List Frame} {meth : Method} {c : Code} {G : Gv} (hC : Cx p s m args meth c cX6_rowsThere 4 (some .int) RX6) {fu : Nat} {r : Int32} {M : Mm} : ∀ (n : Nat) {x1 : Int32} {x2 : Int32} {H : Heap} {locs : List Loc} {ls : Array Slot}, F_X6_rowsThere_4 fu M n x1 x2 = some r → St G s H locs M → lv_has ls 4 [(0, .ref (ad G 0)), (1, .int x1), (2, .int x2)] → W p l e rm_X6_rowsThere s m args below meth c H locs 0 0 (MQ below (QI G r M) args s 0 0 (zA G)) (F0 m 4 ls []) := by
  intro n
  induction n with
  | zero =>
    intro x1 x2 H locs ls hF hw hl
    cases hF
  | succ n ih =>
    intro x1 x2 H locs ls hF hw hl
    unfold F_X6_rowsThere_4 at hF
    refine lv_iload_n hC.1 hC.2.1 dX6_rowsThere_4 rfl (lv_at hl 2 rfl) ?_
    refine lv_bipush (v := (6 : Int32)) hC.1 hC.2.1 dX6_rowsThere_5 (by decide) ?_
    refine lv_icmp_ge (tgt := 36) hC.1 hC.2.1 dX6_rowsThere_7 (by decide) (fun b1 => ?_) (fun b1 => ?_)
    · have hF := ifP hF b1
      refine lv_iload_n hC.1 hC.2.1 dX6_rowsThere_36 rfl (lv_at hl 1 rfl) ?_
      exact r_iretP hC hw hF dX6_rowsThere_37
    · have hF := ifN hF b1
      refine lv_aload_n hC.1 hC.2.1 dX6_rowsThere_10 rfl (lv_at hl 0 rfl) ?_
      refine lv_iload_n hC.1 hC.2.1 dX6_rowsThere_11 rfl (lv_at hl 2 rfl) ?_
      obtain ⟨r3, h2, hF⟩ := ob1S hF
      refine k_Vq (As := [.int x2]) (rest := []) hC hw (c_X6_rowOf (M := M) h2) RC_S yv_X6_rowOf q2_16 ⟨rfl, rfl⟩ ⟨Nat.le_of_ble_eq_true rfl, Nat.le_of_ble_eq_true rfl⟩ ⟨Nat.zero_le _, Nat.zero_le _⟩ rfl rfl (Nat.le_of_ble_eq_true rfl) hl dX6_rowsThere_12 (fun H locs hw => ?_)
      cases r3 with
      | none =>
        have hF := op1N hF
        refine topN ?_
        refine lv_astore_nN (lv' := [(3, .null), (0, .ref (ad G 0)), (1, .int x1), (2, .int x2)]) hC.1 hC.2.1 dX6_rowsThere_15 rfl hl (by decide) rfl (fun ls hl => ?_)
        refine lv_aload_nN hC.1 hC.2.1 dX6_rowsThere_16 rfl (lv_at hl 0 rfl) ?_
        refine lv_ifnullN (tgt := 30) hC.1 hC.2.1 dX6_rowsThere_17 (by decide) ?_
        refine lv_iinc (v := (x2 + (1 : Int32))) (lv' := [(2, .int (x2 + (1 : Int32))), (3, .null), (0, .ref (ad G 0)), (1, .int x1)]) hC.1 hC.2.1 dX6_rowsThere_30 hl (k := 3) rfl rfl (by decide) rfl (fun ls hl => ?_)
        refine lv_goto (tgt := 4) hC.1 hC.2.1 dX6_rowsThere_33 (by decide) ?_
        exact ih hF hw (lv_sub hl [2, 3, 0] rfl)
      | some c4 =>
        obtain ⟨g5, hF⟩ := ifO (op1C hF)
        have g5 := Decidable.not_not.mp g5
        refine topC ?_
        refine lv_astore_n (lv' := [(3, .ref (ad G c4)), (0, .ref (ad G 0)), (1, .int x1), (2, .int x2)]) hC.1 hC.2.1 dX6_rowsThere_15 rfl hl (by decide) rfl (fun ls hl => ?_)
        refine lv_aload_n hC.1 hC.2.1 dX6_rowsThere_16 rfl (lv_at hl 0 rfl) ?_
        refine lv_ifnull hC.1 hC.2.1 dX6_rowsThere_17 ?_
        refine lv_aload_n hC.1 hC.2.1 dX6_rowsThere_20 rfl (lv_at hl 0 rfl) ?_
        refine g4_there hC hw g5 q1_169 dX6_rowsThere_21 ?_
        refine lv_if_eq (tgt := 30) hC.1 hC.2.1 dX6_rowsThere_24 (by decide) (fun b6 => ?_) (fun b6 => ?_)
        · have hF := ifP hF b6
          refine lv_iinc (v := (x2 + (1 : Int32))) (lv' := [(2, .int (x2 + (1 : Int32))), (3, .ref (ad G c4)), (0, .ref (ad G 0)), (1, .int x1)]) hC.1 hC.2.1 dX6_rowsThere_30 hl (k := 3) rfl rfl (by decide) rfl (fun ls hl => ?_)
          refine lv_goto (tgt := 4) hC.1 hC.2.1 dX6_rowsThere_33 (by decide) ?_
          exact ih hF hw (lv_sub hl [2, 3, 0] rfl)
        · have hF := ifN hF b6
          refine lv_iinc (v := (x1 + (1 : Int32))) (lv' := [(1, .int (x1 + (1 : Int32))), (3, .ref (ad G c4)), (0, .ref (ad G 0)), (2, .int x2)]) hC.1 hC.2.1 dX6_rowsThere_27 hl (k := 2) rfl rfl (by decide) rfl (fun ls hl => ?_)
          refine lv_iinc (v := (x2 + (1 : Int32))) (lv' := [(2, .int (x2 + (1 : Int32))), (1, .int (x1 + (1 : Int32))), (3, .ref (ad G c4)), (0, .ref (ad G 0))]) hC.1 hC.2.1 dX6_rowsThere_30 hl (k := 3) rfl rfl (by decide) rfl (fun ls hl => ?_)
          refine lv_goto (tgt := 4) hC.1 hC.2.1 dX6_rowsThere_33 (by decide) ?_
          exact ih hF hw (lv_sub hl [3, 1, 0] rfl)
def F_X6_rowsThere (fu : Nat) (M : Mm) : Option Int32 :=
  F_X6_rowsThere_4 fu M fu (0 : Int32) (0 : Int32)
set_option maxRecDepth 100000 in
set_option maxHeartbeats 4000000 in
theorem c_X6_rowsThere {l : Launch} {G : Gv} {fu : Nat} {M : Mm} {r : Int32} (hF : F_X6_rowsThere fu M = some r) : Met l yX6_rowsThere (.code yX6_rowsThere cX6_rowsThere 4 (some .int) :: zU) rm_X6_rowsThere (va_Pc [.ref (ad G 0)] (Wd G M)) (QI G r M) 0 0 (zA G) := by
  refine zMet (by decide) rfl (Nat.le_of_ble_eq_true rfl) ?_
  intro p e s m below meth c hC hw ls hl
  have hl : lv_has ls 4 [(0, .ref (ad G 0))] := hl
  unfold F_X6_rowsThere at hF
  refine lv_iconst (v := (0 : Int32)) hC.1 hC.2.1 dX6_rowsThere_0 (by decide) ?_
  refine lv_istore_n (lv' := [(1, .int (0 : Int32)), (0, .ref (ad G 0))]) hC.1 hC.2.1 dX6_rowsThere_1 rfl hl (by decide) rfl (fun ls hl => ?_)
  refine lv_iconst (v := (0 : Int32)) hC.1 hC.2.1 dX6_rowsThere_2 (by decide) ?_
  refine lv_istore_n (lv' := [(2, .int (0 : Int32)), (1, .int (0 : Int32)), (0, .ref (ad G 0))]) hC.1 hC.2.1 dX6_rowsThere_3 rfl hl (by decide) rfl (fun ls hl => ?_)
  exact w_X6_rowsThere_4 hC _ hF hw (lv_sub hl [2, 1, 0] rfl)
abbrev rm_X6_textsThere : Room := { frames := 1, cells := 0, slots := 0, locals := 21 }
theorem yv_X6_textsThere : YV yX6_textsThere cX6_textsThere 4 (some .int) 0 RX6 := ⟨⟨q4_85, qs_30, q1_1, q4_86⟩, by decide +kernel⟩
theorem dX6_textsThere_0 : decode cX6_textsThere 0 = .ok (.iconst 0, 1) := by decide +kernel
theorem dX6_textsThere_1 : decode cX6_textsThere 1 = .ok (.istore_n 1, 1) := by decide +kernel
theorem dX6_textsThere_2 : decode cX6_textsThere 2 = .ok (.iconst 0, 1) := by decide +kernel
theorem dX6_textsThere_3 : decode cX6_textsThere 3 = .ok (.istore_n 2, 1) := by decide +kernel
theorem dX6_textsThere_4 : decode cX6_textsThere 4 = .ok (.iload_n 2, 1) := by decide +kernel
theorem dX6_textsThere_5 : decode cX6_textsThere 5 = .ok (.iconst 4, 1) := by decide +kernel
theorem dX6_textsThere_6 : decode cX6_textsThere 6 = .ok (.if_icmp .ge 29, 3) := by decide +kernel
theorem dX6_textsThere_9 : decode cX6_textsThere 9 = .ok (.aload_n 0, 1) := by decide +kernel
theorem dX6_textsThere_10 : decode cX6_textsThere 10 = .ok (.iload_n 2, 1) := by decide +kernel
theorem dX6_textsThere_11 : decode cX6_textsThere 11 = .ok (.invokevirtual 126, 3) := by decide +kernel
theorem dX6_textsThere_14 : decode cX6_textsThere 14 = .ok (.astore_n 3, 1) := by decide +kernel
theorem dX6_textsThere_15 : decode cX6_textsThere 15 = .ok (.aload_n 3, 1) := by decide +kernel
theorem dX6_textsThere_16 : decode cX6_textsThere 16 = .ok (.ifnull 13, 3) := by decide +kernel
theorem dX6_textsThere_19 : decode cX6_textsThere 19 = .ok (.aload_n 3, 1) := by decide +kernel
theorem dX6_textsThere_20 : decode cX6_textsThere 20 = .ok (.getfield 131, 3) := by decide +kernel
theorem dX6_textsThere_23 : decode cX6_textsThere 23 = .ok (.ifCond .eq 6, 3) := by decide +kernel
theorem dX6_textsThere_26 : decode cX6_textsThere 26 = .ok (.iinc 1 1, 3) := by decide +kernel
theorem dX6_textsThere_29 : decode cX6_textsThere 29 = .ok (.iinc 2 1, 3) := by decide +kernel
theorem dX6_textsThere_32 : decode cX6_textsThere 32 = .ok (.goto (-28), 3) := by decide +kernel
theorem dX6_textsThere_35 : decode cX6_textsThere 35 = .ok (.iload_n 1, 1) := by decide +kernel
theorem dX6_textsThere_36 : decode cX6_textsThere 36 = .ok (.ireturn, 1) := by decide +kernel
def F_X6_textsThere_4 (fu : Nat) (M : Mm) : Nat → Int32 → Int32 → Option Int32
  | 0, _, _ => none
  | n + 1, x1, x2 =>
    if (4 : Int32) ≤ x2 then
      some x1
    else
      ob1 (F_X6_textOf fu M x2) (fun r3 =>
      op1 r3 (
        F_X6_textsThere_4 fu M n x1 (x2 + (1 : Int32))) (fun c4 =>
        if ¬ kd c4 = 13 then none else (
        if (M.1 c4 0) = 0 then
          F_X6_textsThere_4 fu M n x1 (x2 + (1 : Int32))
        else
          F_X6_textsThere_4 fu M n (x1 + (1 : Int32)) (x2 + (1 : Int32)))))
set_option maxRecDepth 100000 in
set_option maxHeartbeats 4000000 in
theorem w_X6_textsThere_4 {p : Program} {l : Launch} {e : Env} {s : State} {m : MethodId} {args : Array Value} {below : List Frame} {meth : Method} {c : Code} {G : Gv} (hC : Cx p s m args meth c cX6_textsThere 4 (some .int) RX6) {fu : Nat} {r : Int32} {M : Mm} : ∀ (n : Nat) {x1 : Int32} {x2 : Int32} {H : Heap} {locs : List Loc} {ls : Array Slot}, F_X6_textsThere_4 fu M n x1 x2 = some r → St G s H locs M → lv_has ls 4 [(0, .ref (ad G 0)), (1, .int x1), (2, .int x2)] → W p l e rm_X6_textsThere s m args below meth c H locs 0 0 (MQ below (QI G r M) args s 0 0 (zA G)) (F0 m 4 ls []) := by
  intro n
  induction n with
  | zero =>
    intro x1 x2 H locs ls hF hw hl
    cases hF
  | succ n ih =>
    intro x1 x2 H locs ls hF hw hl
    unfold F_X6_textsThere_4 at hF
    refine lv_iload_n hC.1 hC.2.1 dX6_textsThere_4 rfl (lv_at hl 2 rfl) ?_
    refine lv_iconst (v := (4 : Int32)) hC.1 hC.2.1 dX6_textsThere_5 (by decide) ?_
    refine lv_icmp_ge (tgt := 35) hC.1 hC.2.1 dX6_textsThere_6 (by decide) (fun b1 => ?_) (fun b1 => ?_)
    · have hF := ifP hF b1
      refine lv_iload_n hC.1 hC.2.1 dX6_textsThere_35 rfl (lv_at hl 1 rfl) ?_
      exact r_iretP hC hw hF dX6_textsThere_36
    · have hF := ifN hF b1
      refine lv_aload_n hC.1 hC.2.1 dX6_textsThere_9 rfl (lv_at hl 0 rfl) ?_
      refine lv_iload_n hC.1 hC.2.1 dX6_textsThere_10 rfl (lv_at hl 2 rfl) ?_
      obtain ⟨r3, h2, hF⟩ := ob1S hF
      refine k_Vq (As := [.int x2]) (rest := []) hC hw (c_X6_textOf (M := M) h2) RC_S yv_X6_textOf q2_74 ⟨rfl, rfl⟩ ⟨Nat.le_of_ble_eq_true rfl, Nat.le_of_ble_eq_true rfl⟩ ⟨Nat.zero_le _, Nat.zero_le _⟩ rfl rfl (Nat.le_of_ble_eq_true rfl) hl dX6_textsThere_11 (fun H locs hw => ?_)
      cases r3 with
      | none =>
        have hF := op1N hF
        refine topN ?_
        refine lv_astore_nN (lv' := [(3, .null), (0, .ref (ad G 0)), (1, .int x1), (2, .int x2)]) hC.1 hC.2.1 dX6_textsThere_14 rfl hl (by decide) rfl (fun ls hl => ?_)
        refine lv_aload_nN hC.1 hC.2.1 dX6_textsThere_15 rfl (lv_at hl 0 rfl) ?_
        refine lv_ifnullN (tgt := 29) hC.1 hC.2.1 dX6_textsThere_16 (by decide) ?_
        refine lv_iinc (v := (x2 + (1 : Int32))) (lv' := [(2, .int (x2 + (1 : Int32))), (3, .null), (0, .ref (ad G 0)), (1, .int x1)]) hC.1 hC.2.1 dX6_textsThere_29 hl (k := 3) rfl rfl (by decide) rfl (fun ls hl => ?_)
        refine lv_goto (tgt := 4) hC.1 hC.2.1 dX6_textsThere_32 (by decide) ?_
        exact ih hF hw (lv_sub hl [2, 3, 0] rfl)
      | some c4 =>
        obtain ⟨g5, hF⟩ := ifO (op1C hF)
        have g5 := Decidable.not_not.mp g5
        refine topC ?_
        refine lv_astore_n (lv' := [(3, .ref (ad G c4)), (0, .ref (ad G 0)), (1, .int x1), (2, .int x2)]) hC.1 hC.2.1 dX6_textsThere_14 rfl hl (by decide) rfl (fun ls hl => ?_)
        refine lv_aload_n hC.1 hC.2.1 dX6_textsThere_15 rfl (lv_at hl 0 rfl) ?_
        refine lv_ifnull hC.1 hC.2.1 dX6_textsThere_16 ?_
        refine lv_aload_n hC.1 hC.2.1 dX6_textsThere_19 rfl (lv_at hl 0 rfl) ?_
        refine g5_there hC hw g5 q1_187 dX6_textsThere_20 ?_
        refine lv_if_eq (tgt := 29) hC.1 hC.2.1 dX6_textsThere_23 (by decide) (fun b6 => ?_) (fun b6 => ?_)
        · have hF := ifP hF b6
          refine lv_iinc (v := (x2 + (1 : Int32))) (lv' := [(2, .int (x2 + (1 : Int32))), (3, .ref (ad G c4)), (0, .ref (ad G 0)), (1, .int x1)]) hC.1 hC.2.1 dX6_textsThere_29 hl (k := 3) rfl rfl (by decide) rfl (fun ls hl => ?_)
          refine lv_goto (tgt := 4) hC.1 hC.2.1 dX6_textsThere_32 (by decide) ?_
          exact ih hF hw (lv_sub hl [2, 3, 0] rfl)
        · have hF := ifN hF b6
          refine lv_iinc (v := (x1 + (1 : Int32))) (lv' := [(1, .int (x1 + (1 : Int32))), (3, .ref (ad G c4)), (0, .ref (ad G 0)), (2, .int x2)]) hC.1 hC.2.1 dX6_textsThere_26 hl (k := 2) rfl rfl (by decide) rfl (fun ls hl => ?_)
          refine lv_iinc (v := (x2 + (1 : Int32))) (lv' := [(2, .int (x2 + (1 : Int32))), (1, .int (x1 + (1 : Int32))), (3, .ref (ad G c4)), (0, .ref (ad G 0))]) hC.1 hC.2.1 dX6_textsThere_29 hl (k := 3) rfl rfl (by decide) rfl (fun ls hl => ?_)
          refine lv_goto (tgt := 4) hC.1 hC.2.1 dX6_textsThere_32 (by decide) ?_
          exact ih hF hw (lv_sub hl [3, 1, 0] rfl)
def F_X6_textsThere (fu : Nat) (M : Mm) : Option Int32 :=
  F_X6_textsThere_4 fu M fu (0 : Int32) (0 : Int32)
set_option maxRecDepth 100000 in
set_option maxHeartbeats 4000000 in
theorem c_X6_textsThere {l : Launch} {G : Gv} {fu : Nat} {M : Mm} {r : Int32} (hF : F_X6_textsThere fu M = some r) : Met l yX6_textsThere (.code yX6_textsThere cX6_textsThere 4 (some .int) :: zU) rm_X6_textsThere (va_Pc [.ref (ad G 0)] (Wd G M)) (QI G r M) 0 0 (zA G) := by
  refine zMet (by decide) rfl (Nat.le_of_ble_eq_true rfl) ?_
  intro p e s m below meth c hC hw ls hl
  have hl : lv_has ls 4 [(0, .ref (ad G 0))] := hl
  unfold F_X6_textsThere at hF
  refine lv_iconst (v := (0 : Int32)) hC.1 hC.2.1 dX6_textsThere_0 (by decide) ?_
  refine lv_istore_n (lv' := [(1, .int (0 : Int32)), (0, .ref (ad G 0))]) hC.1 hC.2.1 dX6_textsThere_1 rfl hl (by decide) rfl (fun ls hl => ?_)
  refine lv_iconst (v := (0 : Int32)) hC.1 hC.2.1 dX6_textsThere_2 (by decide) ?_
  refine lv_istore_n (lv' := [(2, .int (0 : Int32)), (1, .int (0 : Int32)), (0, .ref (ad G 0))]) hC.1 hC.2.1 dX6_textsThere_3 rfl hl (by decide) rfl (fun ls hl => ?_)
  exact w_X6_textsThere_4 hC _ hF hw (lv_sub hl [2, 1, 0] rfl)
abbrev rm_X6_keptThere : Room := { frames := 1, cells := 0, slots := 0, locals := 21 }
theorem yv_X6_keptThere : YV yX6_keptThere cX6_keptThere 4 (some .int) 0 RX6 := ⟨⟨q4_89, qs_31, q1_1, q4_90⟩, by decide +kernel⟩
theorem dX6_keptThere_0 : decode cX6_keptThere 0 = .ok (.iconst 0, 1) := by decide +kernel
theorem dX6_keptThere_1 : decode cX6_keptThere 1 = .ok (.istore_n 1, 1) := by decide +kernel
theorem dX6_keptThere_2 : decode cX6_keptThere 2 = .ok (.iconst 0, 1) := by decide +kernel
theorem dX6_keptThere_3 : decode cX6_keptThere 3 = .ok (.istore_n 2, 1) := by decide +kernel
theorem dX6_keptThere_4 : decode cX6_keptThere 4 = .ok (.iload_n 2, 1) := by decide +kernel
theorem dX6_keptThere_5 : decode cX6_keptThere 5 = .ok (.iconst 3, 1) := by decide +kernel
theorem dX6_keptThere_6 : decode cX6_keptThere 6 = .ok (.if_icmp .ge 29, 3) := by decide +kernel
theorem dX6_keptThere_9 : decode cX6_keptThere 9 = .ok (.aload_n 0, 1) := by decide +kernel
theorem dX6_keptThere_10 : decode cX6_keptThere 10 = .ok (.iload_n 2, 1) := by decide +kernel
theorem dX6_keptThere_11 : decode cX6_keptThere 11 = .ok (.invokevirtual 148, 3) := by decide +kernel
theorem dX6_keptThere_14 : decode cX6_keptThere 14 = .ok (.astore_n 3, 1) := by decide +kernel
theorem dX6_keptThere_15 : decode cX6_keptThere 15 = .ok (.aload_n 3, 1) := by decide +kernel
theorem dX6_keptThere_16 : decode cX6_keptThere 16 = .ok (.ifnull 13, 3) := by decide +kernel
theorem dX6_keptThere_19 : decode cX6_keptThere 19 = .ok (.aload_n 3, 1) := by decide +kernel
theorem dX6_keptThere_20 : decode cX6_keptThere 20 = .ok (.getfield 152, 3) := by decide +kernel
theorem dX6_keptThere_23 : decode cX6_keptThere 23 = .ok (.ifCond .le 6, 3) := by decide +kernel
theorem dX6_keptThere_26 : decode cX6_keptThere 26 = .ok (.iinc 1 1, 3) := by decide +kernel
theorem dX6_keptThere_29 : decode cX6_keptThere 29 = .ok (.iinc 2 1, 3) := by decide +kernel
theorem dX6_keptThere_32 : decode cX6_keptThere 32 = .ok (.goto (-28), 3) := by decide +kernel
theorem dX6_keptThere_35 : decode cX6_keptThere 35 = .ok (.iload_n 1, 1) := by decide +kernel
theorem dX6_keptThere_36 : decode cX6_keptThere 36 = .ok (.ireturn, 1) := by decide +kernel
def F_X6_keptThere_4 (fu : Nat) (M : Mm) : Nat → Int32 → Int32 → Option Int32
  | 0, _, _ => none
  | n + 1, x1, x2 =>
    if (3 : Int32) ≤ x2 then
      some x1
    else
      ob1 (F_X6_keptOf fu M x2) (fun r3 =>
      op1 r3 (
        F_X6_keptThere_4 fu M n x1 (x2 + (1 : Int32))) (fun c4 =>
        if ¬ kd c4 = 11 then none else (
        if (M.1 c4 0) ≤ 0 then
          F_X6_keptThere_4 fu M n x1 (x2 + (1 : Int32))
        else
          F_X6_keptThere_4 fu M n (x1 + (1 : Int32)) (x2 + (1 : Int32)))))
set_option maxRecDepth 100000 in
set_option maxHeartbeats 4000000 in
theorem w_X6_keptThere_4 {p : Program} {l : Launch} {e : Env} {s : State} {m : MethodId} {args : Array Value} {below : List Frame} {meth : Method} {c : Code} {G : Gv} (hC : Cx p s m args meth c cX6_keptThere 4 (some .int) RX6) {fu : Nat} {r : Int32} {M : Mm} : ∀ (n : Nat) {x1 : Int32} {x2 : Int32} {H : Heap} {locs : List Loc} {ls : Array Slot}, F_X6_keptThere_4 fu M n x1 x2 = some r → St G s H locs M → lv_has ls 4 [(0, .ref (ad G 0)), (1, .int x1), (2, .int x2)] → W p l e rm_X6_keptThere s m args below meth c H locs 0 0 (MQ below (QI G r M) args s 0 0 (zA G)) (F0 m 4 ls []) := by
  intro n
  induction n with
  | zero =>
    intro x1 x2 H locs ls hF hw hl
    cases hF
  | succ n ih =>
    intro x1 x2 H locs ls hF hw hl
    unfold F_X6_keptThere_4 at hF
    refine lv_iload_n hC.1 hC.2.1 dX6_keptThere_4 rfl (lv_at hl 2 rfl) ?_
    refine lv_iconst (v := (3 : Int32)) hC.1 hC.2.1 dX6_keptThere_5 (by decide) ?_
    refine lv_icmp_ge (tgt := 35) hC.1 hC.2.1 dX6_keptThere_6 (by decide) (fun b1 => ?_) (fun b1 => ?_)
    · have hF := ifP hF b1
      refine lv_iload_n hC.1 hC.2.1 dX6_keptThere_35 rfl (lv_at hl 1 rfl) ?_
      exact r_iretP hC hw hF dX6_keptThere_36
    · have hF := ifN hF b1
      refine lv_aload_n hC.1 hC.2.1 dX6_keptThere_9 rfl (lv_at hl 0 rfl) ?_
      refine lv_iload_n hC.1 hC.2.1 dX6_keptThere_10 rfl (lv_at hl 2 rfl) ?_
      obtain ⟨r3, h2, hF⟩ := ob1S hF
      refine k_Vq (As := [.int x2]) (rest := []) hC hw (c_X6_keptOf (M := M) h2) RC_S yv_X6_keptOf q2_139 ⟨rfl, rfl⟩ ⟨Nat.le_of_ble_eq_true rfl, Nat.le_of_ble_eq_true rfl⟩ ⟨Nat.zero_le _, Nat.zero_le _⟩ rfl rfl (Nat.le_of_ble_eq_true rfl) hl dX6_keptThere_11 (fun H locs hw => ?_)
      cases r3 with
      | none =>
        have hF := op1N hF
        refine topN ?_
        refine lv_astore_nN (lv' := [(3, .null), (0, .ref (ad G 0)), (1, .int x1), (2, .int x2)]) hC.1 hC.2.1 dX6_keptThere_14 rfl hl (by decide) rfl (fun ls hl => ?_)
        refine lv_aload_nN hC.1 hC.2.1 dX6_keptThere_15 rfl (lv_at hl 0 rfl) ?_
        refine lv_ifnullN (tgt := 29) hC.1 hC.2.1 dX6_keptThere_16 (by decide) ?_
        refine lv_iinc (v := (x2 + (1 : Int32))) (lv' := [(2, .int (x2 + (1 : Int32))), (3, .null), (0, .ref (ad G 0)), (1, .int x1)]) hC.1 hC.2.1 dX6_keptThere_29 hl (k := 3) rfl rfl (by decide) rfl (fun ls hl => ?_)
        refine lv_goto (tgt := 4) hC.1 hC.2.1 dX6_keptThere_32 (by decide) ?_
        exact ih hF hw (lv_sub hl [2, 3, 0] rfl)
      | some c4 =>
        obtain ⟨g5, hF⟩ := ifO (op1C hF)
        have g5 := Decidable.not_not.mp g5
        refine topC ?_
        refine lv_astore_n (lv' := [(3, .ref (ad G c4)), (0, .ref (ad G 0)), (1, .int x1), (2, .int x2)]) hC.1 hC.2.1 dX6_keptThere_14 rfl hl (by decide) rfl (fun ls hl => ?_)
        refine lv_aload_n hC.1 hC.2.1 dX6_keptThere_15 rfl (lv_at hl 0 rfl) ?_
        refine lv_ifnull hC.1 hC.2.1 dX6_keptThere_16 ?_
        refine lv_aload_n hC.1 hC.2.1 dX6_keptThere_19 rfl (lv_at hl 0 rfl) ?_
        refine g2_men hC hw g5 q1_32 dX6_keptThere_20 ?_
        refine lv_if_le (tgt := 29) hC.1 hC.2.1 dX6_keptThere_23 (by decide) (fun b6 => ?_) (fun b6 => ?_)
        · have hF := ifP hF b6
          refine lv_iinc (v := (x2 + (1 : Int32))) (lv' := [(2, .int (x2 + (1 : Int32))), (3, .ref (ad G c4)), (0, .ref (ad G 0)), (1, .int x1)]) hC.1 hC.2.1 dX6_keptThere_29 hl (k := 3) rfl rfl (by decide) rfl (fun ls hl => ?_)
          refine lv_goto (tgt := 4) hC.1 hC.2.1 dX6_keptThere_32 (by decide) ?_
          exact ih hF hw (lv_sub hl [2, 3, 0] rfl)
        · have hF := ifN hF b6
          refine lv_iinc (v := (x1 + (1 : Int32))) (lv' := [(1, .int (x1 + (1 : Int32))), (3, .ref (ad G c4)), (0, .ref (ad G 0)), (2, .int x2)]) hC.1 hC.2.1 dX6_keptThere_26 hl (k := 2) rfl rfl (by decide) rfl (fun ls hl => ?_)
          refine lv_iinc (v := (x2 + (1 : Int32))) (lv' := [(2, .int (x2 + (1 : Int32))), (1, .int (x1 + (1 : Int32))), (3, .ref (ad G c4)), (0, .ref (ad G 0))]) hC.1 hC.2.1 dX6_keptThere_29 hl (k := 3) rfl rfl (by decide) rfl (fun ls hl => ?_)
          refine lv_goto (tgt := 4) hC.1 hC.2.1 dX6_keptThere_32 (by decide) ?_
          exact ih hF hw (lv_sub hl [3, 1, 0] rfl)
def F_X6_keptThere (fu : Nat) (M : Mm) : Option Int32 :=
  F_X6_keptThere_4 fu M fu (0 : Int32) (0 : Int32)
set_option maxRecDepth 100000 in
set_option maxHeartbeats 4000000 in
theorem c_X6_keptThere {l : Launch} {G : Gv} {fu : Nat} {M : Mm} {r : Int32} (hF : F_X6_keptThere fu M = some r) : Met l yX6_keptThere (.code yX6_keptThere cX6_keptThere 4 (some .int) :: zU) rm_X6_keptThere (va_Pc [.ref (ad G 0)] (Wd G M)) (QI G r M) 0 0 (zA G) := by
  refine zMet (by decide) rfl (Nat.le_of_ble_eq_true rfl) ?_
  intro p e s m below meth c hC hw ls hl
  have hl : lv_has ls 4 [(0, .ref (ad G 0))] := hl
  unfold F_X6_keptThere at hF
  refine lv_iconst (v := (0 : Int32)) hC.1 hC.2.1 dX6_keptThere_0 (by decide) ?_
  refine lv_istore_n (lv' := [(1, .int (0 : Int32)), (0, .ref (ad G 0))]) hC.1 hC.2.1 dX6_keptThere_1 rfl hl (by decide) rfl (fun ls hl => ?_)
  refine lv_iconst (v := (0 : Int32)) hC.1 hC.2.1 dX6_keptThere_2 (by decide) ?_
  refine lv_istore_n (lv' := [(2, .int (0 : Int32)), (1, .int (0 : Int32)), (0, .ref (ad G 0))]) hC.1 hC.2.1 dX6_keptThere_3 rfl hl (by decide) rfl (fun ls hl => ?_)
  exact w_X6_keptThere_4 hC _ hF hw (lv_sub hl [2, 1, 0] rfl)
abbrev rm_X6_countOf : Room := { frames := 2, cells := 0, slots := 0, locals := 44 }
theorem yv_X6_countOf : YV yX6_countOf cX6_countOf 2 (some .int) 1 RX6 := ⟨⟨q4_68, qs_28, q1_1, q4_69⟩, by decide +kernel⟩
theorem dX6_countOf_0 : decode cX6_countOf 0 = .ok (.iload_n 1, 1) := by decide +kernel
theorem dX6_countOf_1 : decode cX6_countOf 1 = .ok (.tableswitch 105 0 7 #[47, 55, 63, 71, 79, 87, 95, 100], 47) := by decide +kernel
theorem dX6_countOf_48 : decode cX6_countOf 48 = .ok (.aload_n 0, 1) := by decide +kernel
theorem dX6_countOf_49 : decode cX6_countOf 49 = .ok (.getfield 24, 3) := by decide +kernel
theorem dX6_countOf_52 : decode cX6_countOf 52 = .ok (.getfield 152, 3) := by decide +kernel
theorem dX6_countOf_55 : decode cX6_countOf 55 = .ok (.ireturn, 1) := by decide +kernel
theorem dX6_countOf_56 : decode cX6_countOf 56 = .ok (.aload_n 0, 1) := by decide +kernel
theorem dX6_countOf_57 : decode cX6_countOf 57 = .ok (.getfield 24, 3) := by decide +kernel
theorem dX6_countOf_60 : decode cX6_countOf 60 = .ok (.getfield 223, 3) := by decide +kernel
theorem dX6_countOf_63 : decode cX6_countOf 63 = .ok (.ireturn, 1) := by decide +kernel
theorem dX6_countOf_64 : decode cX6_countOf 64 = .ok (.aload_n 0, 1) := by decide +kernel
theorem dX6_countOf_65 : decode cX6_countOf 65 = .ok (.getfield 24, 3) := by decide +kernel
theorem dX6_countOf_68 : decode cX6_countOf 68 = .ok (.getfield 195, 3) := by decide +kernel
theorem dX6_countOf_71 : decode cX6_countOf 71 = .ok (.ireturn, 1) := by decide +kernel
theorem dX6_countOf_72 : decode cX6_countOf 72 = .ok (.aload_n 0, 1) := by decide +kernel
theorem dX6_countOf_73 : decode cX6_countOf 73 = .ok (.getfield 24, 3) := by decide +kernel
theorem dX6_countOf_76 : decode cX6_countOf 76 = .ok (.getfield 198, 3) := by decide +kernel
theorem dX6_countOf_79 : decode cX6_countOf 79 = .ok (.ireturn, 1) := by decide +kernel
theorem dX6_countOf_80 : decode cX6_countOf 80 = .ok (.aload_n 0, 1) := by decide +kernel
theorem dX6_countOf_81 : decode cX6_countOf 81 = .ok (.getfield 24, 3) := by decide +kernel
theorem dX6_countOf_84 : decode cX6_countOf 84 = .ok (.invokevirtual 363, 3) := by decide +kernel
theorem dX6_countOf_87 : decode cX6_countOf 87 = .ok (.ireturn, 1) := by decide +kernel
theorem dX6_countOf_88 : decode cX6_countOf 88 = .ok (.aload_n 0, 1) := by decide +kernel
theorem dX6_countOf_89 : decode cX6_countOf 89 = .ok (.getfield 24, 3) := by decide +kernel
theorem dX6_countOf_92 : decode cX6_countOf 92 = .ok (.invokevirtual 366, 3) := by decide +kernel
theorem dX6_countOf_95 : decode cX6_countOf 95 = .ok (.ireturn, 1) := by decide +kernel
theorem dX6_countOf_96 : decode cX6_countOf 96 = .ok (.aload_n 0, 1) := by decide +kernel
theorem dX6_countOf_97 : decode cX6_countOf 97 = .ok (.invokevirtual 369, 3) := by decide +kernel
theorem dX6_countOf_100 : decode cX6_countOf 100 = .ok (.ireturn, 1) := by decide +kernel
theorem dX6_countOf_101 : decode cX6_countOf 101 = .ok (.aload_n 0, 1) := by decide +kernel
theorem dX6_countOf_102 : decode cX6_countOf 102 = .ok (.invokevirtual 372, 3) := by decide +kernel
theorem dX6_countOf_105 : decode cX6_countOf 105 = .ok (.ireturn, 1) := by decide +kernel
theorem dX6_countOf_106 : decode cX6_countOf 106 = .ok (.aload_n 0, 1) := by decide +kernel
theorem dX6_countOf_107 : decode cX6_countOf 107 = .ok (.invokevirtual 375, 3) := by decide +kernel
theorem dX6_countOf_110 : decode cX6_countOf 110 = .ok (.ireturn, 1) := by decide +kernel
def F_X6_countOf (fu : Nat) (M : Mm) (x1 : Int32) : Option Int32 :=
  if x1 = (0 : Int32) then
    some (M.1 24 0)
  else
  if x1 = (1 : Int32) then
    some (M.1 24 2)
  else
  if x1 = (2 : Int32) then
    some (M.1 24 1)
  else
  if x1 = (3 : Int32) then
    some (M.1 24 3)
  else
  if x1 = (4 : Int32) then
    ob1 (F_X2_bulkOfAll fu M 24) (fun r7 =>
    some r7)
  else
  if x1 = (5 : Int32) then
    ob1 (F_X2_hattedOnes fu M 24) (fun r10 =>
    some r10)
  else
  if x1 = (6 : Int32) then
    ob1 (F_X6_rowsThere fu M) (fun r13 =>
    some r13)
  else
  if x1 = (7 : Int32) then
    ob1 (F_X6_textsThere fu M) (fun r16 =>
    some r16)
  else
  ob1 (F_X6_keptThere fu M) (fun r18 =>
  some r18)
set_option maxRecDepth 100000 in
set_option maxHeartbeats 4000000 in
theorem c_X6_countOf {l : Launch} {G : Gv} {fu : Nat} {M : Mm} {x1 : Int32} {r : Int32} (hF : F_X6_countOf fu M x1 = some r) : Met l yX6_countOf (.code yX6_countOf cX6_countOf 2 (some .int) :: zU) rm_X6_countOf (va_Pc [.ref (ad G 0), .int x1] (Wd G M)) (QI G r M) 0 0 (zA G) := by
  refine zMet (by decide) rfl (Nat.le_of_ble_eq_true rfl) ?_
  intro p e s m below meth c hC hw ls hl
  have hl : lv_has ls 2 [(0, .ref (ad G 0)), (1, .int x1)] := hl
  unfold F_X6_countOf at hF
  refine lv_iload_n hC.1 hC.2.1 dX6_countOf_0 rfl (lv_at hl 1 rfl) ?_
  rcases Classical.em (x1 = (0 : Int32)) with w1 | w1
  · have hF := ifP hF w1
    refine r_swI (v := (0 : Int32)) (off := 47) (tgt := 48) hC.1 hC.2.1 w1 dX6_countOf_1 (by decide) (by decide) rfl (by decide) ?_
    refine lv_aload_n hC.1 hC.2.1 dX6_countOf_48 rfl (lv_at hl 0 rfl) ?_
    refine g6_north hC hw q1_202 dX6_countOf_49 ?_
    refine g2_men hC hw (rfl : kd 24 = 11) q1_32 dX6_countOf_52 ?_
    exact r_iretP hC hw hF dX6_countOf_55
  have hF := ifN hF w1
  rcases Classical.em (x1 = (1 : Int32)) with w2 | w2
  · have hF := ifP hF w2
    refine r_swI (v := (1 : Int32)) (off := 55) (tgt := 56) hC.1 hC.2.1 w2 dX6_countOf_1 (by decide) (by decide) rfl (by decide) ?_
    refine lv_aload_n hC.1 hC.2.1 dX6_countOf_56 rfl (lv_at hl 0 rfl) ?_
    refine g6_north hC hw q1_202 dX6_countOf_57 ?_
    refine g2_today hC hw (rfl : kd 24 = 11) q1_36 dX6_countOf_60 ?_
    exact r_iretP hC hw hF dX6_countOf_63
  have hF := ifN hF w2
  rcases Classical.em (x1 = (2 : Int32)) with w3 | w3
  · have hF := ifP hF w3
    refine r_swI (v := (2 : Int32)) (off := 63) (tgt := 64) hC.1 hC.2.1 w3 dX6_countOf_1 (by decide) (by decide) rfl (by decide) ?_
    refine lv_aload_n hC.1 hC.2.1 dX6_countOf_64 rfl (lv_at hl 0 rfl) ?_
    refine g6_north hC hw q1_202 dX6_countOf_65 ?_
    refine g2_rightNow hC hw (rfl : kd 24 = 11) q1_34 dX6_countOf_68 ?_
    exact r_iretP hC hw hF dX6_countOf_71
  have hF := ifN hF w3
  rcases Classical.em (x1 = (3 : Int32)) with w4 | w4
  · have hF := ifP hF w4
    refine r_swI (v := (3 : Int32)) (off := 71) (tgt := 72) hC.1 hC.2.1 w4 dX6_countOf_1 (by decide) (by decide) rfl (by decide) ?_
    refine lv_aload_n hC.1 hC.2.1 dX6_countOf_72 rfl (lv_at hl 0 rfl) ?_
    refine g6_north hC hw q1_202 dX6_countOf_73 ?_
    refine g2_deeds hC hw (rfl : kd 24 = 11) q1_38 dX6_countOf_76 ?_
    exact r_iretP hC hw hF dX6_countOf_79
  have hF := ifN hF w4
  rcases Classical.em (x1 = (4 : Int32)) with w5 | w5
  · have hF := ifP hF w5
    refine r_swI (v := (4 : Int32)) (off := 79) (tgt := 80) hC.1 hC.2.1 w5 dX6_countOf_1 (by decide) (by decide) rfl (by decide) ?_
    refine lv_aload_n hC.1 hC.2.1 dX6_countOf_80 rfl (lv_at hl 0 rfl) ?_
    refine g6_north hC hw q1_202 dX6_countOf_81 ?_
    obtain ⟨r7, h6, hF⟩ := ob1S hF
    refine k_Vi (As := []) (rest := []) hC hw (c_X2_bulkOfAll (M := M) (rfl : kd 24 = 11) h6) (RC_N (rfl : kd 24 = 11)) yv_X2_bulkOfAll q4_70 ⟨rfl, rfl⟩ ⟨Nat.le_of_ble_eq_true rfl, Nat.le_of_ble_eq_true rfl⟩ ⟨Nat.zero_le _, Nat.zero_le _⟩ rfl rfl (Nat.le_of_ble_eq_true rfl) hl dX6_countOf_84 (fun H locs hw => ?_)
    exact r_iretP hC hw hF dX6_countOf_87
  have hF := ifN hF w5
  rcases Classical.em (x1 = (5 : Int32)) with w8 | w8
  · have hF := ifP hF w8
    refine r_swI (v := (5 : Int32)) (off := 87) (tgt := 88) hC.1 hC.2.1 w8 dX6_countOf_1 (by decide) (by decide) rfl (by decide) ?_
    refine lv_aload_n hC.1 hC.2.1 dX6_countOf_88 rfl (lv_at hl 0 rfl) ?_
    refine g6_north hC hw q1_202 dX6_countOf_89 ?_
    obtain ⟨r10, h9, hF⟩ := ob1S hF
    refine k_Vi (As := []) (rest := []) hC hw (c_X2_hattedOnes (M := M) (rfl : kd 24 = 11) h9) (RC_N (rfl : kd 24 = 11)) yv_X2_hattedOnes q4_74 ⟨rfl, rfl⟩ ⟨Nat.le_of_ble_eq_true rfl, Nat.le_of_ble_eq_true rfl⟩ ⟨Nat.zero_le _, Nat.zero_le _⟩ rfl rfl (Nat.le_of_ble_eq_true rfl) hl dX6_countOf_92 (fun H locs hw => ?_)
    exact r_iretP hC hw hF dX6_countOf_95
  have hF := ifN hF w8
  rcases Classical.em (x1 = (6 : Int32)) with w11 | w11
  · have hF := ifP hF w11
    refine r_swI (v := (6 : Int32)) (off := 95) (tgt := 96) hC.1 hC.2.1 w11 dX6_countOf_1 (by decide) (by decide) rfl (by decide) ?_
    refine lv_aload_n hC.1 hC.2.1 dX6_countOf_96 rfl (lv_at hl 0 rfl) ?_
    obtain ⟨r13, h12, hF⟩ := ob1S hF
    refine k_Vi (As := []) (rest := []) hC hw (c_X6_rowsThere (M := M) h12) RC_S yv_X6_rowsThere q4_79 ⟨rfl, rfl⟩ ⟨Nat.le_of_ble_eq_true rfl, Nat.le_of_ble_eq_true rfl⟩ ⟨Nat.zero_le _, Nat.zero_le _⟩ rfl rfl (Nat.le_of_ble_eq_true rfl) hl dX6_countOf_97 (fun H locs hw => ?_)
    exact r_iretP hC hw hF dX6_countOf_100
  have hF := ifN hF w11
  rcases Classical.em (x1 = (7 : Int32)) with w14 | w14
  · have hF := ifP hF w14
    refine r_swI (v := (7 : Int32)) (off := 100) (tgt := 101) hC.1 hC.2.1 w14 dX6_countOf_1 (by decide) (by decide) rfl (by decide) ?_
    refine lv_aload_n hC.1 hC.2.1 dX6_countOf_101 rfl (lv_at hl 0 rfl) ?_
    obtain ⟨r16, h15, hF⟩ := ob1S hF
    refine k_Vi (As := []) (rest := []) hC hw (c_X6_textsThere (M := M) h15) RC_S yv_X6_textsThere q4_83 ⟨rfl, rfl⟩ ⟨Nat.le_of_ble_eq_true rfl, Nat.le_of_ble_eq_true rfl⟩ ⟨Nat.zero_le _, Nat.zero_le _⟩ rfl rfl (Nat.le_of_ble_eq_true rfl) hl dX6_countOf_102 (fun H locs hw => ?_)
    exact r_iretP hC hw hF dX6_countOf_105
  have hF := ifN hF w14
  refine r_swD (tgt := 106) (vs := [(0 : Int32), (1 : Int32), (2 : Int32), (3 : Int32), (4 : Int32), (5 : Int32), (6 : Int32), (7 : Int32)]) hC.1 hC.2.1 (List.forall_mem_cons.mpr ⟨w1, List.forall_mem_cons.mpr ⟨w2, List.forall_mem_cons.mpr ⟨w3, List.forall_mem_cons.mpr ⟨w4, List.forall_mem_cons.mpr ⟨w5, List.forall_mem_cons.mpr ⟨w8, List.forall_mem_cons.mpr ⟨w11, List.forall_mem_cons.mpr ⟨w14, fun v hv => absurd hv List.not_mem_nil⟩⟩⟩⟩⟩⟩⟩⟩) dX6_countOf_1 (by decide) rfl (by decide) ?_
  refine lv_aload_n hC.1 hC.2.1 dX6_countOf_106 rfl (lv_at hl 0 rfl) ?_
  obtain ⟨r18, h17, hF⟩ := ob1S hF
  refine k_Vi (As := []) (rest := []) hC hw (c_X6_keptThere (M := M) h17) RC_S yv_X6_keptThere q4_87 ⟨rfl, rfl⟩ ⟨Nat.le_of_ble_eq_true rfl, Nat.le_of_ble_eq_true rfl⟩ ⟨Nat.zero_le _, Nat.zero_le _⟩ rfl rfl (Nat.le_of_ble_eq_true rfl) hl dX6_countOf_107 (fun H locs hw => ?_)
  exact r_iretP hC hw hF dX6_countOf_110
abbrev rm_X6_count : Room := { frames := 3, cells := 0, slots := 0, locals := 65 }
theorem yv_X6_count : YV yX6_count cX6_count 2 (some .int) 1 RX6 := ⟨⟨q4_63, q4_64, q1_1, q4_65⟩, by decide +kernel⟩
theorem dX6_count_0 : decode cX6_count 0 = .ok (.iload_n 1, 1) := by decide +kernel
theorem dX6_count_1 : decode cX6_count 1 = .ok (.ifCond .lt 9, 3) := by decide +kernel
theorem dX6_count_4 : decode cX6_count 4 = .ok (.iload_n 1, 1) := by decide +kernel
theorem dX6_count_5 : decode cX6_count 5 = .ok (.bipush 9, 2) := by decide +kernel
theorem dX6_count_7 : decode cX6_count 7 = .ok (.if_icmp .lt 5, 3) := by decide +kernel
theorem dX6_count_10 : decode cX6_count 10 = .ok (.iconst (-1), 1) := by decide +kernel
theorem dX6_count_11 : decode cX6_count 11 = .ok (.ireturn, 1) := by decide +kernel
theorem dX6_count_12 : decode cX6_count 12 = .ok (.aload_n 0, 1) := by decide +kernel
theorem dX6_count_13 : decode cX6_count 13 = .ok (.iload_n 1, 1) := by decide +kernel
theorem dX6_count_14 : decode cX6_count 14 = .ok (.invokevirtual 344, 3) := by decide +kernel
theorem dX6_count_17 : decode cX6_count 17 = .ok (.ireturn, 1) := by decide +kernel
def F_X6_count (fu : Nat) (M : Mm) (x1 : Int32) : Option Int32 :=
  if x1 < 0 then
    some (-1 : Int32)
  else
    if x1 < (9 : Int32) then
      ob1 (F_X6_countOf fu M x1) (fun r4 =>
      some r4)
    else
      some (-1 : Int32)
set_option maxRecDepth 100000 in
set_option maxHeartbeats 4000000 in
theorem c_X6_count {l : Launch} {G : Gv} {fu : Nat} {M : Mm} {x1 : Int32} {r : Int32} (hF : F_X6_count fu M x1 = some r) : Met l yX6_count (.code yX6_count cX6_count 2 (some .int) :: zU) rm_X6_count (va_Pc [.ref (ad G 0), .int x1] (Wd G M)) (QI G r M) 0 0 (zA G) := by
  refine zMet (by decide) rfl (Nat.le_of_ble_eq_true rfl) ?_
  intro p e s m below meth c hC hw ls hl
  have hl : lv_has ls 2 [(0, .ref (ad G 0)), (1, .int x1)] := hl
  unfold F_X6_count at hF
  refine lv_iload_n hC.1 hC.2.1 dX6_count_0 rfl (lv_at hl 1 rfl) ?_
  refine lv_if_lt (tgt := 10) hC.1 hC.2.1 dX6_count_1 (by decide) (fun b1 => ?_) (fun b1 => ?_)
  · have hF := ifP hF b1
    refine lv_iconst (v := (-1 : Int32)) hC.1 hC.2.1 dX6_count_10 (by decide) ?_
    exact r_iretP hC hw hF dX6_count_11
  · have hF := ifN hF b1
    refine lv_iload_n hC.1 hC.2.1 dX6_count_4 rfl (lv_at hl 1 rfl) ?_
    refine lv_bipush (v := (9 : Int32)) hC.1 hC.2.1 dX6_count_5 (by decide) ?_
    refine lv_icmp_lt (tgt := 12) hC.1 hC.2.1 dX6_count_7 (by decide) (fun b2 => ?_) (fun b2 => ?_)
    · have hF := ifP hF b2
      refine lv_aload_n hC.1 hC.2.1 dX6_count_12 rfl (lv_at hl 0 rfl) ?_
      refine lv_iload_n hC.1 hC.2.1 dX6_count_13 rfl (lv_at hl 1 rfl) ?_
      obtain ⟨r4, h3, hF⟩ := ob1S hF
      refine k_Vi (As := [.int x1]) (rest := []) hC hw (c_X6_countOf (M := M) h3) RC_S yv_X6_countOf q4_66 ⟨rfl, rfl⟩ ⟨Nat.le_of_ble_eq_true rfl, Nat.le_of_ble_eq_true rfl⟩ ⟨Nat.zero_le _, Nat.zero_le _⟩ rfl rfl (Nat.le_of_ble_eq_true rfl) hl dX6_count_14 (fun H locs hw => ?_)
      exact r_iretP hC hw hF dX6_count_17
    · have hF := ifN hF b2
      refine lv_iconst (v := (-1 : Int32)) hC.1 hC.2.1 dX6_count_10 (by decide) ?_
      exact r_iretP hC hw hF dX6_count_11
abbrev rm_X6_finding : Room := { frames := 0, cells := 0, slots := 0, locals := 0 }
theorem yv_X6_finding : YV yX6_finding cX6_finding 1 (some .int) 0 RX6 := ⟨⟨q4_92, q4_93, q1_1, q4_94⟩, by decide +kernel⟩
theorem dX6_finding_0 : decode cX6_finding 0 = .ok (.aload_n 0, 1) := by decide +kernel
theorem dX6_finding_1 : decode cX6_finding 1 = .ok (.getfield 347, 3) := by decide +kernel
theorem dX6_finding_4 : decode cX6_finding 4 = .ok (.ireturn, 1) := by decide +kernel
def F_X6_finding (fu : Nat) (M : Mm) : Option Int32 :=
  some (M.1 0 8)
set_option maxRecDepth 100000 in
set_option maxHeartbeats 4000000 in
theorem c_X6_finding {l : Launch} {G : Gv} {fu : Nat} {M : Mm} {r : Int32} (hF : F_X6_finding fu M = some r) : Met l yX6_finding (.code yX6_finding cX6_finding 1 (some .int) :: zU) rm_X6_finding (va_Pc [.ref (ad G 0)] (Wd G M)) (QI G r M) 0 0 (zA G) := by
  refine zMet (by decide) rfl (Nat.le_of_ble_eq_true rfl) ?_
  intro p e s m below meth c hC hw ls hl
  have hl : lv_has ls 1 [(0, .ref (ad G 0))] := hl
  unfold F_X6_finding at hF
  refine lv_aload_n hC.1 hC.2.1 dX6_finding_0 rfl (lv_at hl 0 rfl) ?_
  refine g6_latestFinding hC hw q1_208 dX6_finding_1 ?_
  exact r_iretP hC hw hF dX6_finding_4
abbrev rm_X6_findings : Room := { frames := 1, cells := 0, slots := 0, locals := 21 }
theorem yv_X6_findings : YV yX6_findings cX6_findings 2 (some .int) 1 RX6 := ⟨⟨q4_96, q4_97, q1_1, q4_98⟩, by decide +kernel⟩
theorem dX6_findings_0 : decode cX6_findings 0 = .ok (.iload_n 1, 1) := by decide +kernel
theorem dX6_findings_1 : decode cX6_findings 1 = .ok (.iconst 1, 1) := by decide +kernel
theorem dX6_findings_2 : decode cX6_findings 2 = .ok (.if_icmp .lt 8, 3) := by decide +kernel
theorem dX6_findings_5 : decode cX6_findings 5 = .ok (.iload_n 1, 1) := by decide +kernel
theorem dX6_findings_6 : decode cX6_findings 6 = .ok (.iconst 5, 1) := by decide +kernel
theorem dX6_findings_7 : decode cX6_findings 7 = .ok (.if_icmp .le 5, 3) := by decide +kernel
theorem dX6_findings_10 : decode cX6_findings 10 = .ok (.iconst (-1), 1) := by decide +kernel
theorem dX6_findings_11 : decode cX6_findings 11 = .ok (.ireturn, 1) := by decide +kernel
theorem dX6_findings_12 : decode cX6_findings 12 = .ok (.aload_n 0, 1) := by decide +kernel
theorem dX6_findings_13 : decode cX6_findings 13 = .ok (.getfield 53, 3) := by decide +kernel
theorem dX6_findings_16 : decode cX6_findings 16 = .ok (.iload_n 1, 1) := by decide +kernel
theorem dX6_findings_17 : decode cX6_findings 17 = .ok (.invokestatic 101, 3) := by decide +kernel
theorem dX6_findings_20 : decode cX6_findings 20 = .ok (.ireturn, 1) := by decide +kernel
def F_X6_findings (fu : Nat) (M : Mm) (x1 : Int32) : Option Int32 :=
  if x1 < (1 : Int32) then
    some (-1 : Int32)
  else
    if x1 ≤ (5 : Int32) then
      ob1 (F_X6_read fu M 80 x1) (fun r4 =>
      some r4)
    else
      some (-1 : Int32)
set_option maxRecDepth 100000 in
set_option maxHeartbeats 4000000 in
theorem c_X6_findings {l : Launch} {G : Gv} {fu : Nat} {M : Mm} {x1 : Int32} {r : Int32} (hF : F_X6_findings fu M x1 = some r) : Met l yX6_findings (.code yX6_findings cX6_findings 2 (some .int) :: zU) rm_X6_findings (va_Pc [.ref (ad G 0), .int x1] (Wd G M)) (QI G r M) 0 0 (zA G) := by
  refine zMet (by decide) rfl (Nat.le_of_ble_eq_true rfl) ?_
  intro p e s m below meth c hC hw ls hl
  have hl : lv_has ls 2 [(0, .ref (ad G 0)), (1, .int x1)] := hl
  unfold F_X6_findings at hF
  refine lv_iload_n hC.1 hC.2.1 dX6_findings_0 rfl (lv_at hl 1 rfl) ?_
  refine lv_iconst (v := (1 : Int32)) hC.1 hC.2.1 dX6_findings_1 (by decide) ?_
  refine lv_icmp_lt (tgt := 10) hC.1 hC.2.1 dX6_findings_2 (by decide) (fun b1 => ?_) (fun b1 => ?_)
  · have hF := ifP hF b1
    refine lv_iconst (v := (-1 : Int32)) hC.1 hC.2.1 dX6_findings_10 (by decide) ?_
    exact r_iretP hC hw hF dX6_findings_11
  · have hF := ifN hF b1
    refine lv_iload_n hC.1 hC.2.1 dX6_findings_5 rfl (lv_at hl 1 rfl) ?_
    refine lv_iconst (v := (5 : Int32)) hC.1 hC.2.1 dX6_findings_6 (by decide) ?_
    refine lv_icmp_le (tgt := 12) hC.1 hC.2.1 dX6_findings_7 (by decide) (fun b2 => ?_) (fun b2 => ?_)
    · have hF := ifP hF b2
      refine lv_aload_n hC.1 hC.2.1 dX6_findings_12 rfl (lv_at hl 0 rfl) ?_
      refine g6_findingCounts hC hw q1_207 dX6_findings_13 ?_
      refine lv_iload_n hC.1 hC.2.1 dX6_findings_16 rfl (lv_at hl 1 rfl) ?_
      obtain ⟨r4, h3, hF⟩ := ob1S hF
      refine k_Si (As := [.ref (ad G 80), .int x1]) (rest := []) hC hw (c_X6_read (M := M) (rfl : kd 80 = 1) h3) ys_X6_read q2_24 ⟨rfl, rfl⟩ ⟨Nat.le_of_ble_eq_true rfl, Nat.le_of_ble_eq_true rfl⟩ ⟨Nat.zero_le _, Nat.zero_le _⟩ rfl rfl (Nat.le_of_ble_eq_true rfl) hl dX6_findings_17 (fun H locs hw => ?_)
      exact r_iretP hC hw hF dX6_findings_20
    · have hF := ifN hF b2
      refine lv_iconst (v := (-1 : Int32)) hC.1 hC.2.1 dX6_findings_10 (by decide) ?_
      exact r_iretP hC hw hF dX6_findings_11
abbrev rm_X6_digest : Room := { frames := 5, cells := 0, slots := 0, locals := 112 }
theorem yv_X6_digest : YV yX6_digest cX6_digest 5 (some .long) 0 RX6 := ⟨⟨q4_100, q4_101, q1_1, q4_102⟩, by decide +kernel⟩
theorem dX6_digest_0 : decode cX6_digest 0 = .ok (.ldc2_w 350, 3) := by decide +kernel
theorem dX6_digest_3 : decode cX6_digest 3 = .ok (.lstore_n 1, 1) := by decide +kernel
theorem dX6_digest_4 : decode cX6_digest 4 = .ok (.iconst 0, 1) := by decide +kernel
theorem dX6_digest_5 : decode cX6_digest 5 = .ok (.istore_n 3, 1) := by decide +kernel
theorem dX6_digest_6 : decode cX6_digest 6 = .ok (.iload_n 3, 1) := by decide +kernel
theorem dX6_digest_7 : decode cX6_digest 7 = .ok (.bipush 9, 2) := by decide +kernel
theorem dX6_digest_9 : decode cX6_digest 9 = .ok (.if_icmp .ge 22, 3) := by decide +kernel
theorem dX6_digest_12 : decode cX6_digest 12 = .ok (.ldc2_w 352, 3) := by decide +kernel
theorem dX6_digest_15 : decode cX6_digest 15 = .ok (.lload_n 1, 1) := by decide +kernel
theorem dX6_digest_16 : decode cX6_digest 16 = .ok (.lmul, 1) := by decide +kernel
theorem dX6_digest_17 : decode cX6_digest 17 = .ok (.aload_n 0, 1) := by decide +kernel
theorem dX6_digest_18 : decode cX6_digest 18 = .ok (.iload_n 3, 1) := by decide +kernel
theorem dX6_digest_19 : decode cX6_digest 19 = .ok (.invokevirtual 344, 3) := by decide +kernel
theorem dX6_digest_22 : decode cX6_digest 22 = .ok (.i2l, 1) := by decide +kernel
theorem dX6_digest_23 : decode cX6_digest 23 = .ok (.ladd, 1) := by decide +kernel
theorem dX6_digest_24 : decode cX6_digest 24 = .ok (.lstore_n 1, 1) := by decide +kernel
theorem dX6_digest_25 : decode cX6_digest 25 = .ok (.iinc 3 1, 3) := by decide +kernel
theorem dX6_digest_28 : decode cX6_digest 28 = .ok (.goto (-22), 3) := by decide +kernel
theorem dX6_digest_31 : decode cX6_digest 31 = .ok (.iconst 0, 1) := by decide +kernel
theorem dX6_digest_32 : decode cX6_digest 32 = .ok (.istore_n 3, 1) := by decide +kernel
theorem dX6_digest_33 : decode cX6_digest 33 = .ok (.iload_n 3, 1) := by decide +kernel
theorem dX6_digest_34 : decode cX6_digest 34 = .ok (.aload_n 0, 1) := by decide +kernel
theorem dX6_digest_35 : decode cX6_digest 35 = .ok (.getfield 24, 3) := by decide +kernel
theorem dX6_digest_38 : decode cX6_digest 38 = .ok (.getfield 152, 3) := by decide +kernel
theorem dX6_digest_41 : decode cX6_digest 41 = .ok (.if_icmp .ge 43, 3) := by decide +kernel
theorem dX6_digest_44 : decode cX6_digest 44 = .ok (.iconst 0, 1) := by decide +kernel
theorem dX6_digest_45 : decode cX6_digest 45 = .ok (.istore 4, 2) := by decide +kernel
theorem dX6_digest_47 : decode cX6_digest 47 = .ok (.iload 4, 2) := by decide +kernel
theorem dX6_digest_49 : decode cX6_digest 49 = .ok (.bipush 6, 2) := by decide +kernel
theorem dX6_digest_51 : decode cX6_digest 51 = .ok (.if_icmp .ge 27, 3) := by decide +kernel
theorem dX6_digest_54 : decode cX6_digest 54 = .ok (.ldc2_w 352, 3) := by decide +kernel
theorem dX6_digest_57 : decode cX6_digest 57 = .ok (.lload_n 1, 1) := by decide +kernel
theorem dX6_digest_58 : decode cX6_digest 58 = .ok (.lmul, 1) := by decide +kernel
theorem dX6_digest_59 : decode cX6_digest 59 = .ok (.aload_n 0, 1) := by decide +kernel
theorem dX6_digest_60 : decode cX6_digest 60 = .ok (.getfield 24, 3) := by decide +kernel
theorem dX6_digest_63 : decode cX6_digest 63 = .ok (.iload_n 3, 1) := by decide +kernel
theorem dX6_digest_64 : decode cX6_digest 64 = .ok (.iload 4, 2) := by decide +kernel
theorem dX6_digest_66 : decode cX6_digest 66 = .ok (.invokevirtual 159, 3) := by decide +kernel
theorem dX6_digest_69 : decode cX6_digest 69 = .ok (.i2l, 1) := by decide +kernel
theorem dX6_digest_70 : decode cX6_digest 70 = .ok (.ladd, 1) := by decide +kernel
theorem dX6_digest_71 : decode cX6_digest 71 = .ok (.lstore_n 1, 1) := by decide +kernel
theorem dX6_digest_72 : decode cX6_digest 72 = .ok (.iinc 4 1, 3) := by decide +kernel
theorem dX6_digest_75 : decode cX6_digest 75 = .ok (.goto (-28), 3) := by decide +kernel
theorem dX6_digest_78 : decode cX6_digest 78 = .ok (.iinc 3 1, 3) := by decide +kernel
theorem dX6_digest_81 : decode cX6_digest 81 = .ok (.goto (-48), 3) := by decide +kernel
theorem dX6_digest_84 : decode cX6_digest 84 = .ok (.iconst 0, 1) := by decide +kernel
theorem dX6_digest_85 : decode cX6_digest 85 = .ok (.istore_n 3, 1) := by decide +kernel
theorem dX6_digest_86 : decode cX6_digest 86 = .ok (.iload_n 3, 1) := by decide +kernel
theorem dX6_digest_87 : decode cX6_digest 87 = .ok (.iconst 3, 1) := by decide +kernel
theorem dX6_digest_88 : decode cX6_digest 88 = .ok (.if_icmp .ge 46, 3) := by decide +kernel
theorem dX6_digest_91 : decode cX6_digest 91 = .ok (.aload_n 0, 1) := by decide +kernel
theorem dX6_digest_92 : decode cX6_digest 92 = .ok (.iload_n 3, 1) := by decide +kernel
theorem dX6_digest_93 : decode cX6_digest 93 = .ok (.invokevirtual 148, 3) := by decide +kernel
theorem dX6_digest_96 : decode cX6_digest 96 = .ok (.astore 4, 2) := by decide +kernel
theorem dX6_digest_98 : decode cX6_digest 98 = .ok (.ldc2_w 352, 3) := by decide +kernel
theorem dX6_digest_101 : decode cX6_digest 101 = .ok (.lload_n 1, 1) := by decide +kernel
theorem dX6_digest_102 : decode cX6_digest 102 = .ok (.lmul, 1) := by decide +kernel
theorem dX6_digest_103 : decode cX6_digest 103 = .ok (.aload 4, 2) := by decide +kernel
theorem dX6_digest_105 : decode cX6_digest 105 = .ok (.ifnull 11, 3) := by decide +kernel
theorem dX6_digest_108 : decode cX6_digest 108 = .ok (.aload 4, 2) := by decide +kernel
theorem dX6_digest_110 : decode cX6_digest 110 = .ok (.getfield 152, 3) := by decide +kernel
theorem dX6_digest_113 : decode cX6_digest 113 = .ok (.ifCond .ne 7, 3) := by decide +kernel
theorem dX6_digest_116 : decode cX6_digest 116 = .ok (.iconst (-1), 1) := by decide +kernel
theorem dX6_digest_117 : decode cX6_digest 117 = .ok (.goto 8, 3) := by decide +kernel
theorem dX6_digest_120 : decode cX6_digest 120 = .ok (.aload 4, 2) := by decide +kernel
theorem dX6_digest_122 : decode cX6_digest 122 = .ok (.getfield 198, 3) := by decide +kernel
theorem dX6_digest_125 : decode cX6_digest 125 = .ok (.i2l, 1) := by decide +kernel
theorem dX6_digest_126 : decode cX6_digest 126 = .ok (.ladd, 1) := by decide +kernel
theorem dX6_digest_127 : decode cX6_digest 127 = .ok (.lstore_n 1, 1) := by decide +kernel
theorem dX6_digest_128 : decode cX6_digest 128 = .ok (.iinc 3 1, 3) := by decide +kernel
theorem dX6_digest_131 : decode cX6_digest 131 = .ok (.goto (-45), 3) := by decide +kernel
theorem dX6_digest_134 : decode cX6_digest 134 = .ok (.iconst 0, 1) := by decide +kernel
theorem dX6_digest_135 : decode cX6_digest 135 = .ok (.istore_n 3, 1) := by decide +kernel
theorem dX6_digest_136 : decode cX6_digest 136 = .ok (.iload_n 3, 1) := by decide +kernel
theorem dX6_digest_137 : decode cX6_digest 137 = .ok (.bipush 6, 2) := by decide +kernel
theorem dX6_digest_139 : decode cX6_digest 139 = .ok (.if_icmp .ge 32, 3) := by decide +kernel
theorem dX6_digest_142 : decode cX6_digest 142 = .ok (.aload_n 0, 1) := by decide +kernel
theorem dX6_digest_143 : decode cX6_digest 143 = .ok (.iload_n 3, 1) := by decide +kernel
theorem dX6_digest_144 : decode cX6_digest 144 = .ok (.invokevirtual 78, 3) := by decide +kernel
theorem dX6_digest_147 : decode cX6_digest 147 = .ok (.astore 4, 2) := by decide +kernel
theorem dX6_digest_149 : decode cX6_digest 149 = .ok (.aload 4, 2) := by decide +kernel
theorem dX6_digest_151 : decode cX6_digest 151 = .ok (.ifnonnull 7, 3) := by decide +kernel
theorem dX6_digest_154 : decode cX6_digest 154 = .ok (.lload_n 1, 1) := by decide +kernel
theorem dX6_digest_155 : decode cX6_digest 155 = .ok (.goto 9, 3) := by decide +kernel
theorem dX6_digest_158 : decode cX6_digest 158 = .ok (.aload 4, 2) := by decide +kernel
theorem dX6_digest_160 : decode cX6_digest 160 = .ok (.lload_n 1, 1) := by decide +kernel
theorem dX6_digest_161 : decode cX6_digest 161 = .ok (.invokevirtual 354, 3) := by decide +kernel
theorem dX6_digest_164 : decode cX6_digest 164 = .ok (.lstore_n 1, 1) := by decide +kernel
theorem dX6_digest_165 : decode cX6_digest 165 = .ok (.iinc 3 1, 3) := by decide +kernel
theorem dX6_digest_168 : decode cX6_digest 168 = .ok (.goto (-32), 3) := by decide +kernel
theorem dX6_digest_171 : decode cX6_digest 171 = .ok (.iconst 0, 1) := by decide +kernel
theorem dX6_digest_172 : decode cX6_digest 172 = .ok (.istore_n 3, 1) := by decide +kernel
theorem dX6_digest_173 : decode cX6_digest 173 = .ok (.iload_n 3, 1) := by decide +kernel
theorem dX6_digest_174 : decode cX6_digest 174 = .ok (.iconst 4, 1) := by decide +kernel
theorem dX6_digest_175 : decode cX6_digest 175 = .ok (.if_icmp .ge 32, 3) := by decide +kernel
theorem dX6_digest_178 : decode cX6_digest 178 = .ok (.aload_n 0, 1) := by decide +kernel
theorem dX6_digest_179 : decode cX6_digest 179 = .ok (.iload_n 3, 1) := by decide +kernel
theorem dX6_digest_180 : decode cX6_digest 180 = .ok (.invokevirtual 126, 3) := by decide +kernel
theorem dX6_digest_183 : decode cX6_digest 183 = .ok (.astore 4, 2) := by decide +kernel
theorem dX6_digest_185 : decode cX6_digest 185 = .ok (.aload 4, 2) := by decide +kernel
theorem dX6_digest_187 : decode cX6_digest 187 = .ok (.ifnonnull 7, 3) := by decide +kernel
theorem dX6_digest_190 : decode cX6_digest 190 = .ok (.lload_n 1, 1) := by decide +kernel
theorem dX6_digest_191 : decode cX6_digest 191 = .ok (.goto 9, 3) := by decide +kernel
theorem dX6_digest_194 : decode cX6_digest 194 = .ok (.aload 4, 2) := by decide +kernel
theorem dX6_digest_196 : decode cX6_digest 196 = .ok (.lload_n 1, 1) := by decide +kernel
theorem dX6_digest_197 : decode cX6_digest 197 = .ok (.invokevirtual 358, 3) := by decide +kernel
theorem dX6_digest_200 : decode cX6_digest 200 = .ok (.lstore_n 1, 1) := by decide +kernel
theorem dX6_digest_201 : decode cX6_digest 201 = .ok (.iinc 3 1, 3) := by decide +kernel
theorem dX6_digest_204 : decode cX6_digest 204 = .ok (.goto (-31), 3) := by decide +kernel
theorem dX6_digest_207 : decode cX6_digest 207 = .ok (.lload_n 1, 1) := by decide +kernel
theorem dX6_digest_208 : decode cX6_digest 208 = .ok (.lreturn, 1) := by decide +kernel
def F_X6_digest_47 (fu : Nat) (M : Mm) (k33 : Int64 → Int32 → Option Int64) : Nat → Int64 → Int32 → Int32 → Option Int64
  | 0, _, _, _ => none
  | n + 1, x1, x3, x4 =>
    if (6 : Int32) ≤ x4 then
      k33 x1 (x3 + (1 : Int32))
    else
      ob1 (F_X2_tellsOf fu M 24 x3 x4) (fun r3 =>
      F_X6_digest_47 fu M k33 n (((31 : Int64) * x1) + r3.toInt64) x3 (x4 + (1 : Int32)))
set_option maxRecDepth 100000 in
set_option maxHeartbeats 4000000 in
theorem w_X6_digest_47 {p : Program} {l : Launch} {e : Env} {s : State} {m : MethodId} {args : Array Value} {below : List Frame} {meth : Method} {c : Code} {G : Gv} (hC : Cx p s m args meth c cX6_digest 5 (some .long) RX6) {fu : Nat} {r : Int64} {M : Mm} {k33 : Int64 → Int32 → Option Int64} (hk_33 : ∀ {x1 : Int64} {x3 : Int32} {H : Heap} {locs : List Loc} {ls : Array Slot}, k33 x1 x3 = some r → St G s H locs M → lv_has ls 5 [(0, .ref (ad G 0)), (1, .long x1), (3, .int x3)] → W p l e rm_X6_digest s m args below meth c H locs 0 0 (MQ below (QL G r M) args s 0 0 (zA G)) (F0 m 33 ls [])) : ∀ (n : Nat) {x1 : Int64} {x3 : Int32} {x4 : Int32} {H : Heap} {locs : List Loc} {ls : Array Slot}, F_X6_digest_47 fu M k33 n x1 x3 x4 = some r → St G s H locs M → lv_has ls 5 [(0, .ref (ad G 0)), (1, .long x1), (3, .int x3), (4, .int x4)] → W p l e rm_X6_digest s m args below meth c H locs 0 0 (MQ below (QL G r M) args s 0 0 (zA G)) (F0 m 47 ls []) := by
  intro n
  induction n with
  | zero =>
    intro x1 x3 x4 H locs ls hF hw hl
    cases hF
  | succ n ih =>
    intro x1 x3 x4 H locs ls hF hw hl
    unfold F_X6_digest_47 at hF
    refine lv_iload hC.1 hC.2.1 dX6_digest_47 (lv_at hl 3 rfl) ?_
    refine lv_bipush (v := (6 : Int32)) hC.1 hC.2.1 dX6_digest_49 (by decide) ?_
    refine lv_icmp_ge (tgt := 78) hC.1 hC.2.1 dX6_digest_51 (by decide) (fun b1 => ?_) (fun b1 => ?_)
    · have hF := ifP hF b1
      refine lv_iinc (v := (x3 + (1 : Int32))) (lv' := [(3, .int (x3 + (1 : Int32))), (0, .ref (ad G 0)), (1, .long x1), (4, .int x4)]) hC.1 hC.2.1 dX6_digest_78 hl (k := 2) rfl rfl (by decide) rfl (fun ls hl => ?_)
      refine lv_goto (tgt := 33) hC.1 hC.2.1 dX6_digest_81 (by decide) ?_
      exact hk_33 hF hw (lv_sub hl [1, 2, 0] rfl)
    · have hF := ifN hF b1
      refine lv_ldc2 (v := (31 : Int64)) hC.1 hC.2.1 hC.2.2.2.1 (hC.2.2.2.2.1 _ q4_104) dX6_digest_54 ?_
      refine lv_lload_n hC.1 hC.2.1 dX6_digest_57 rfl (lv_at hl 1 rfl) ?_
      refine lv_lmul hC.1 hC.2.1 dX6_digest_58 ?_
      refine lv_aload_n hC.1 hC.2.1 dX6_digest_59 rfl (lv_at hl 0 rfl) ?_
      refine g6_north hC hw q1_202 dX6_digest_60 ?_
      refine lv_iload_n hC.1 hC.2.1 dX6_digest_63 rfl (lv_at hl 2 rfl) ?_
      refine lv_iload hC.1 hC.2.1 dX6_digest_64 (lv_at hl 3 rfl) ?_
      obtain ⟨r3, h2, hF⟩ := ob1S hF
      refine k_Vi (As := [.int x3, .int x4]) (rest := [.long ((31 : Int64) * x1)]) hC hw (c_X2_tellsOf (M := M) (rfl : kd 24 = 11) h2) (RC_N (rfl : kd 24 = 11)) yv_X2_tellsOf q2_151 ⟨rfl, rfl⟩ ⟨Nat.le_of_ble_eq_true rfl, Nat.le_of_ble_eq_true rfl⟩ ⟨Nat.zero_le _, Nat.zero_le _⟩ rfl rfl (Nat.le_of_ble_eq_true rfl) hl dX6_digest_66 (fun H locs hw => ?_)
      refine lv_i2l hC.1 hC.2.1 dX6_digest_69 rfl ?_
      refine lv_ladd hC.1 hC.2.1 dX6_digest_70 ?_
      refine lv_lstore_n (lv' := [(1, .long (((31 : Int64) * x1) + r3.toInt64)), (0, .ref (ad G 0)), (3, .int x3), (4, .int x4)]) hC.1 hC.2.1 dX6_digest_71 rfl hl (by decide) rfl (fun ls hl => ?_)
      refine lv_iinc (v := (x4 + (1 : Int32))) (lv' := [(4, .int (x4 + (1 : Int32))), (1, .long (((31 : Int64) * x1) + r3.toInt64)), (0, .ref (ad G 0)), (3, .int x3)]) hC.1 hC.2.1 dX6_digest_72 hl (k := 3) rfl rfl (by decide) rfl (fun ls hl => ?_)
      refine lv_goto (tgt := 47) hC.1 hC.2.1 dX6_digest_75 (by decide) ?_
      exact ih hF hw (lv_sub hl [2, 1, 3, 0] rfl)
def F_X6_digest_173 (fu : Nat) (M : Mm) : Nat → Int64 → Int32 → Option Int64
  | 0, _, _ => none
  | n + 1, x1, x3 =>
    if (4 : Int32) ≤ x3 then
      some x1
    else
      ob1 (F_X6_textOf fu M x3) (fun r3 =>
      op1 r3 (
        F_X6_digest_173 fu M n x1 (x3 + (1 : Int32))) (fun c4 =>
        if ¬ kd c4 = 13 then none else (
        ob1 (F_X5_digestedOnto fu M c4 x1) (fun r7 =>
        F_X6_digest_173 fu M n r7 (x3 + (1 : Int32))))))
set_option maxRecDepth 100000 in
set_option maxHeartbeats 4000000 in
theorem w_X6_digest_173 {p : Program} {l : Launch} {e : Env} {s : State} {m : MethodId} {args : Array Value} {below : List Frame} {meth : Method} {c : Code} {G : Gv} (hC : Cx p s m args meth c cX6_digest 5 (some .long) RX6) {fu : Nat} {r : Int64} {M : Mm} : ∀ (n : Nat) {x1 : Int64} {x3 : Int32} {H : Heap} {locs : List Loc} {ls : Array Slot}, F_X6_digest_173 fu M n x1 x3 = some r → St G s H locs M → lv_has ls 5 [(0, .ref (ad G 0)), (1, .long x1), (3, .int x3)] → W p l e rm_X6_digest s m args below meth c H locs 0 0 (MQ below (QL G r M) args s 0 0 (zA G)) (F0 m 173 ls []) := by
  intro n
  induction n with
  | zero =>
    intro x1 x3 H locs ls hF hw hl
    cases hF
  | succ n ih =>
    intro x1 x3 H locs ls hF hw hl
    unfold F_X6_digest_173 at hF
    refine lv_iload_n hC.1 hC.2.1 dX6_digest_173 rfl (lv_at hl 2 rfl) ?_
    refine lv_iconst (v := (4 : Int32)) hC.1 hC.2.1 dX6_digest_174 (by decide) ?_
    refine lv_icmp_ge (tgt := 207) hC.1 hC.2.1 dX6_digest_175 (by decide) (fun b1 => ?_) (fun b1 => ?_)
    · have hF := ifP hF b1
      refine lv_lload_n hC.1 hC.2.1 dX6_digest_207 rfl (lv_at hl 1 rfl) ?_
      exact r_lretP hC hw hF dX6_digest_208
    · have hF := ifN hF b1
      refine lv_aload_n hC.1 hC.2.1 dX6_digest_178 rfl (lv_at hl 0 rfl) ?_
      refine lv_iload_n hC.1 hC.2.1 dX6_digest_179 rfl (lv_at hl 2 rfl) ?_
      obtain ⟨r3, h2, hF⟩ := ob1S hF
      refine k_Vq (As := [.int x3]) (rest := []) hC hw (c_X6_textOf (M := M) h2) RC_S yv_X6_textOf q2_74 ⟨rfl, rfl⟩ ⟨Nat.le_of_ble_eq_true rfl, Nat.le_of_ble_eq_true rfl⟩ ⟨Nat.zero_le _, Nat.zero_le _⟩ rfl rfl (Nat.le_of_ble_eq_true rfl) hl dX6_digest_180 (fun H locs hw => ?_)
      cases r3 with
      | none =>
        have hF := op1N hF
        refine topN ?_
        refine lv_astoreN (lv' := [(4, .null), (0, .ref (ad G 0)), (1, .long x1), (3, .int x3)]) hC.1 hC.2.1 dX6_digest_183 hl (by decide) rfl (fun ls hl => ?_)
        refine lv_aloadN hC.1 hC.2.1 dX6_digest_185 (lv_at hl 0 rfl) ?_
        refine lv_ifnonnullN hC.1 hC.2.1 dX6_digest_187 ?_
        refine lv_lload_n hC.1 hC.2.1 dX6_digest_190 rfl (lv_at hl 2 rfl) ?_
        refine lv_goto (tgt := 200) hC.1 hC.2.1 dX6_digest_191 (by decide) ?_
        refine lv_lstore_n (lv' := [(1, .long x1), (4, .null), (0, .ref (ad G 0)), (3, .int x3)]) hC.1 hC.2.1 dX6_digest_200 rfl hl (by decide) rfl (fun ls hl => ?_)
        refine lv_iinc (v := (x3 + (1 : Int32))) (lv' := [(3, .int (x3 + (1 : Int32))), (1, .long x1), (4, .null), (0, .ref (ad G 0))]) hC.1 hC.2.1 dX6_digest_201 hl (k := 3) rfl rfl (by decide) rfl (fun ls hl => ?_)
        refine lv_goto (tgt := 173) hC.1 hC.2.1 dX6_digest_204 (by decide) ?_
        exact ih hF hw (lv_sub hl [3, 1, 0] rfl)
      | some c4 =>
        obtain ⟨g5, hF⟩ := ifO (op1C hF)
        have g5 := Decidable.not_not.mp g5
        refine topC ?_
        refine lv_astore (lv' := [(4, .ref (ad G c4)), (0, .ref (ad G 0)), (1, .long x1), (3, .int x3)]) hC.1 hC.2.1 dX6_digest_183 hl (by decide) rfl (fun ls hl => ?_)
        refine lv_aload hC.1 hC.2.1 dX6_digest_185 (lv_at hl 0 rfl) ?_
        refine lv_ifnonnull (tgt := 194) hC.1 hC.2.1 dX6_digest_187 (by decide) ?_
        refine lv_aload hC.1 hC.2.1 dX6_digest_194 (lv_at hl 0 rfl) ?_
        refine lv_lload_n hC.1 hC.2.1 dX6_digest_196 rfl (lv_at hl 2 rfl) ?_
        obtain ⟨r7, h6, hF⟩ := ob1S hF
        refine k_Vl (As := [.long x1]) (rest := []) hC hw (c_X5_digestedOnto (M := M) g5 h6) (RC_T g5) yv_X5_digestedOnto q4_110 ⟨rfl, rfl⟩ ⟨Nat.le_of_ble_eq_true rfl, Nat.le_of_ble_eq_true rfl⟩ ⟨Nat.zero_le _, Nat.zero_le _⟩ rfl rfl (Nat.le_of_ble_eq_true rfl) hl dX6_digest_197 (fun H locs hw => ?_)
        refine lv_lstore_n (lv' := [(1, .long r7), (4, .ref (ad G c4)), (0, .ref (ad G 0)), (3, .int x3)]) hC.1 hC.2.1 dX6_digest_200 rfl hl (by decide) rfl (fun ls hl => ?_)
        refine lv_iinc (v := (x3 + (1 : Int32))) (lv' := [(3, .int (x3 + (1 : Int32))), (1, .long r7), (4, .ref (ad G c4)), (0, .ref (ad G 0))]) hC.1 hC.2.1 dX6_digest_201 hl (k := 3) rfl rfl (by decide) rfl (fun ls hl => ?_)
        refine lv_goto (tgt := 173) hC.1 hC.2.1 dX6_digest_204 (by decide) ?_
        exact ih hF hw (lv_sub hl [3, 1, 0] rfl)
def F_X6_digest_136 (fu : Nat) (M : Mm) : Nat → Int64 → Int32 → Option Int64
  | 0, _, _ => none
  | n + 1, x1, x3 =>
    if (6 : Int32) ≤ x3 then
      F_X6_digest_173 fu M fu x1 (0 : Int32)
    else
      ob1 (F_X6_rowOf fu M x3) (fun r3 =>
      op1 r3 (
        F_X6_digest_136 fu M n x1 (x3 + (1 : Int32))) (fun c4 =>
        if ¬ kd c4 = 12 then none else (
        ob1 (F_X4_digestedOnto fu M c4 x1) (fun r7 =>
        F_X6_digest_136 fu M n r7 (x3 + (1 : Int32))))))
set_option maxRecDepth 100000 in
set_option maxHeartbeats 4000000 in
theorem w_X6_digest_136 {p : Program} {l : Launch} {e : Env} {s : State} {m : MethodId} {args : Array Value} {below : List Frame} {meth : Method} {c : Code} {G : Gv} (hC : Cx p s m args meth c cX6_digest 5 (some .long) RX6) {fu : Nat} {r : Int64} {M : Mm} : ∀ (n : Nat) {x1 : Int64} {x3 : Int32} {H : Heap} {locs : List Loc} {ls : Array Slot}, F_X6_digest_136 fu M n x1 x3 = some r → St G s H locs M → lv_has ls 5 [(0, .ref (ad G 0)), (1, .long x1), (3, .int x3)] → W p l e rm_X6_digest s m args below meth c H locs 0 0 (MQ below (QL G r M) args s 0 0 (zA G)) (F0 m 136 ls []) := by
  intro n
  induction n with
  | zero =>
    intro x1 x3 H locs ls hF hw hl
    cases hF
  | succ n ih =>
    intro x1 x3 H locs ls hF hw hl
    unfold F_X6_digest_136 at hF
    refine lv_iload_n hC.1 hC.2.1 dX6_digest_136 rfl (lv_at hl 2 rfl) ?_
    refine lv_bipush (v := (6 : Int32)) hC.1 hC.2.1 dX6_digest_137 (by decide) ?_
    refine lv_icmp_ge (tgt := 171) hC.1 hC.2.1 dX6_digest_139 (by decide) (fun b1 => ?_) (fun b1 => ?_)
    · have hF := ifP hF b1
      refine lv_iconst (v := (0 : Int32)) hC.1 hC.2.1 dX6_digest_171 (by decide) ?_
      refine lv_istore_n (lv' := [(3, .int (0 : Int32)), (0, .ref (ad G 0)), (1, .long x1)]) hC.1 hC.2.1 dX6_digest_172 rfl hl (by decide) rfl (fun ls hl => ?_)
      exact w_X6_digest_173 hC _ hF hw (lv_sub hl [1, 2, 0] rfl)
    · have hF := ifN hF b1
      refine lv_aload_n hC.1 hC.2.1 dX6_digest_142 rfl (lv_at hl 0 rfl) ?_
      refine lv_iload_n hC.1 hC.2.1 dX6_digest_143 rfl (lv_at hl 2 rfl) ?_
      obtain ⟨r3, h2, hF⟩ := ob1S hF
      refine k_Vq (As := [.int x3]) (rest := []) hC hw (c_X6_rowOf (M := M) h2) RC_S yv_X6_rowOf q2_16 ⟨rfl, rfl⟩ ⟨Nat.le_of_ble_eq_true rfl, Nat.le_of_ble_eq_true rfl⟩ ⟨Nat.zero_le _, Nat.zero_le _⟩ rfl rfl (Nat.le_of_ble_eq_true rfl) hl dX6_digest_144 (fun H locs hw => ?_)
      cases r3 with
      | none =>
        have hF := op1N hF
        refine topN ?_
        refine lv_astoreN (lv' := [(4, .null), (0, .ref (ad G 0)), (1, .long x1), (3, .int x3)]) hC.1 hC.2.1 dX6_digest_147 hl (by decide) rfl (fun ls hl => ?_)
        refine lv_aloadN hC.1 hC.2.1 dX6_digest_149 (lv_at hl 0 rfl) ?_
        refine lv_ifnonnullN hC.1 hC.2.1 dX6_digest_151 ?_
        refine lv_lload_n hC.1 hC.2.1 dX6_digest_154 rfl (lv_at hl 2 rfl) ?_
        refine lv_goto (tgt := 164) hC.1 hC.2.1 dX6_digest_155 (by decide) ?_
        refine lv_lstore_n (lv' := [(1, .long x1), (4, .null), (0, .ref (ad G 0)), (3, .int x3)]) hC.1 hC.2.1 dX6_digest_164 rfl hl (by decide) rfl (fun ls hl => ?_)
        refine lv_iinc (v := (x3 + (1 : Int32))) (lv' := [(3, .int (x3 + (1 : Int32))), (1, .long x1), (4, .null), (0, .ref (ad G 0))]) hC.1 hC.2.1 dX6_digest_165 hl (k := 3) rfl rfl (by decide) rfl (fun ls hl => ?_)
        refine lv_goto (tgt := 136) hC.1 hC.2.1 dX6_digest_168 (by decide) ?_
        exact ih hF hw (lv_sub hl [3, 1, 0] rfl)
      | some c4 =>
        obtain ⟨g5, hF⟩ := ifO (op1C hF)
        have g5 := Decidable.not_not.mp g5
        refine topC ?_
        refine lv_astore (lv' := [(4, .ref (ad G c4)), (0, .ref (ad G 0)), (1, .long x1), (3, .int x3)]) hC.1 hC.2.1 dX6_digest_147 hl (by decide) rfl (fun ls hl => ?_)
        refine lv_aload hC.1 hC.2.1 dX6_digest_149 (lv_at hl 0 rfl) ?_
        refine lv_ifnonnull (tgt := 158) hC.1 hC.2.1 dX6_digest_151 (by decide) ?_
        refine lv_aload hC.1 hC.2.1 dX6_digest_158 (lv_at hl 0 rfl) ?_
        refine lv_lload_n hC.1 hC.2.1 dX6_digest_160 rfl (lv_at hl 2 rfl) ?_
        obtain ⟨r7, h6, hF⟩ := ob1S hF
        refine k_Vl (As := [.long x1]) (rest := []) hC hw (c_X4_digestedOnto (M := M) g5 h6) (RC_R g5) yv_X4_digestedOnto q4_105 ⟨rfl, rfl⟩ ⟨Nat.le_of_ble_eq_true rfl, Nat.le_of_ble_eq_true rfl⟩ ⟨Nat.zero_le _, Nat.zero_le _⟩ rfl rfl (Nat.le_of_ble_eq_true rfl) hl dX6_digest_161 (fun H locs hw => ?_)
        refine lv_lstore_n (lv' := [(1, .long r7), (4, .ref (ad G c4)), (0, .ref (ad G 0)), (3, .int x3)]) hC.1 hC.2.1 dX6_digest_164 rfl hl (by decide) rfl (fun ls hl => ?_)
        refine lv_iinc (v := (x3 + (1 : Int32))) (lv' := [(3, .int (x3 + (1 : Int32))), (1, .long r7), (4, .ref (ad G c4)), (0, .ref (ad G 0))]) hC.1 hC.2.1 dX6_digest_165 hl (k := 3) rfl rfl (by decide) rfl (fun ls hl => ?_)
        refine lv_goto (tgt := 136) hC.1 hC.2.1 dX6_digest_168 (by decide) ?_
        exact ih hF hw (lv_sub hl [3, 1, 0] rfl)
def F_X6_digest_86 (fu : Nat) (M : Mm) : Nat → Int64 → Int32 → Option Int64
  | 0, _, _ => none
  | n + 1, x1, x3 =>
    if (3 : Int32) ≤ x3 then
      F_X6_digest_136 fu M fu x1 (0 : Int32)
    else
      ob1 (F_X6_keptOf fu M x3) (fun r3 =>
      op1 r3 (
        lt1 (((31 : Int64) * x1) + (-1 : Int32).toInt64) (fun y6 =>
        F_X6_digest_86 fu M n y6 (x3 + (1 : Int32)))) (fun c4 =>
        if ¬ kd c4 = 11 then none else (
        if (M.1 c4 0) = 0 then
          lt1 (((31 : Int64) * x1) + (-1 : Int32).toInt64) (fun y9 =>
          F_X6_digest_86 fu M n y9 (x3 + (1 : Int32)))
        else
          lt1 (((31 : Int64) * x1) + (M.1 c4 3).toInt64) (fun y8 =>
          F_X6_digest_86 fu M n y8 (x3 + (1 : Int32))))))
set_option maxRecDepth 100000 in
set_option maxHeartbeats 4000000 in
theorem w_X6_digest_86 {p : Program} {l : Launch} {e : Env} {s : State} {m : MethodId} {args : Array Value} {below : List Frame} {meth : Method} {c : Code} {G : Gv} (hC : Cx p s m args meth c cX6_digest 5 (some .long) RX6) {fu : Nat} {r : Int64} {M : Mm} : ∀ (n : Nat) {x1 : Int64} {x3 : Int32} {H : Heap} {locs : List Loc} {ls : Array Slot}, F_X6_digest_86 fu M n x1 x3 = some r → St G s H locs M → lv_has ls 5 [(0, .ref (ad G 0)), (1, .long x1), (3, .int x3)] → W p l e rm_X6_digest s m args below meth c H locs 0 0 (MQ below (QL G r M) args s 0 0 (zA G)) (F0 m 86 ls []) := by
  intro n
  induction n with
  | zero =>
    intro x1 x3 H locs ls hF hw hl
    cases hF
  | succ n ih =>
    intro x1 x3 H locs ls hF hw hl
    unfold F_X6_digest_86 at hF
    refine lv_iload_n hC.1 hC.2.1 dX6_digest_86 rfl (lv_at hl 2 rfl) ?_
    refine lv_iconst (v := (3 : Int32)) hC.1 hC.2.1 dX6_digest_87 (by decide) ?_
    refine lv_icmp_ge (tgt := 134) hC.1 hC.2.1 dX6_digest_88 (by decide) (fun b1 => ?_) (fun b1 => ?_)
    · have hF := ifP hF b1
      refine lv_iconst (v := (0 : Int32)) hC.1 hC.2.1 dX6_digest_134 (by decide) ?_
      refine lv_istore_n (lv' := [(3, .int (0 : Int32)), (0, .ref (ad G 0)), (1, .long x1)]) hC.1 hC.2.1 dX6_digest_135 rfl hl (by decide) rfl (fun ls hl => ?_)
      exact w_X6_digest_136 hC _ hF hw (lv_sub hl [1, 2, 0] rfl)
    · have hF := ifN hF b1
      refine lv_aload_n hC.1 hC.2.1 dX6_digest_91 rfl (lv_at hl 0 rfl) ?_
      refine lv_iload_n hC.1 hC.2.1 dX6_digest_92 rfl (lv_at hl 2 rfl) ?_
      obtain ⟨r3, h2, hF⟩ := ob1S hF
      refine k_Vq (As := [.int x3]) (rest := []) hC hw (c_X6_keptOf (M := M) h2) RC_S yv_X6_keptOf q2_139 ⟨rfl, rfl⟩ ⟨Nat.le_of_ble_eq_true rfl, Nat.le_of_ble_eq_true rfl⟩ ⟨Nat.zero_le _, Nat.zero_le _⟩ rfl rfl (Nat.le_of_ble_eq_true rfl) hl dX6_digest_93 (fun H locs hw => ?_)
      cases r3 with
      | none =>
        have hF := op1N hF
        refine topN ?_
        refine lv_astoreN (lv' := [(4, .null), (0, .ref (ad G 0)), (1, .long x1), (3, .int x3)]) hC.1 hC.2.1 dX6_digest_96 hl (by decide) rfl (fun ls hl => ?_)
        refine lv_ldc2 (v := (31 : Int64)) hC.1 hC.2.1 hC.2.2.2.1 (hC.2.2.2.2.1 _ q4_104) dX6_digest_98 ?_
        refine lv_lload_n hC.1 hC.2.1 dX6_digest_101 rfl (lv_at hl 2 rfl) ?_
        refine lv_lmul hC.1 hC.2.1 dX6_digest_102 ?_
        refine lv_aloadN hC.1 hC.2.1 dX6_digest_103 (lv_at hl 0 rfl) ?_
        refine lv_ifnullN (tgt := 116) hC.1 hC.2.1 dX6_digest_105 (by decide) ?_
        refine lv_iconst (v := (-1 : Int32)) hC.1 hC.2.1 dX6_digest_116 (by decide) ?_
        refine lv_goto (tgt := 125) hC.1 hC.2.1 dX6_digest_117 (by decide) ?_
        refine lv_i2l hC.1 hC.2.1 dX6_digest_125 rfl ?_
        refine lv_ladd hC.1 hC.2.1 dX6_digest_126 ?_
        refine lv_topl (fun y6 ey6 => ?_)
        have hF := lt1G hF ey6
        refine lv_lstore_n (lv' := [(1, .long y6), (4, .null), (0, .ref (ad G 0)), (3, .int x3)]) hC.1 hC.2.1 dX6_digest_127 rfl hl (by decide) rfl (fun ls hl => ?_)
        refine lv_iinc (v := (x3 + (1 : Int32))) (lv' := [(3, .int (x3 + (1 : Int32))), (1, .long y6), (4, .null), (0, .ref (ad G 0))]) hC.1 hC.2.1 dX6_digest_128 hl (k := 3) rfl rfl (by decide) rfl (fun ls hl => ?_)
        refine lv_goto (tgt := 86) hC.1 hC.2.1 dX6_digest_131 (by decide) ?_
        exact ih hF hw (lv_sub hl [3, 1, 0] rfl)
      | some c4 =>
        obtain ⟨g5, hF⟩ := ifO (op1C hF)
        have g5 := Decidable.not_not.mp g5
        refine topC ?_
        refine lv_astore (lv' := [(4, .ref (ad G c4)), (0, .ref (ad G 0)), (1, .long x1), (3, .int x3)]) hC.1 hC.2.1 dX6_digest_96 hl (by decide) rfl (fun ls hl => ?_)
        refine lv_ldc2 (v := (31 : Int64)) hC.1 hC.2.1 hC.2.2.2.1 (hC.2.2.2.2.1 _ q4_104) dX6_digest_98 ?_
        refine lv_lload_n hC.1 hC.2.1 dX6_digest_101 rfl (lv_at hl 2 rfl) ?_
        refine lv_lmul hC.1 hC.2.1 dX6_digest_102 ?_
        refine lv_aload hC.1 hC.2.1 dX6_digest_103 (lv_at hl 0 rfl) ?_
        refine lv_ifnull hC.1 hC.2.1 dX6_digest_105 ?_
        refine lv_aload hC.1 hC.2.1 dX6_digest_108 (lv_at hl 0 rfl) ?_
        refine g2_men hC hw g5 q1_32 dX6_digest_110 ?_
        refine lv_if_ne (tgt := 120) hC.1 hC.2.1 dX6_digest_113 (by decide) (fun b7 => ?_) (fun b7 => ?_)
        · have hF := ifN hF b7
          refine lv_aload hC.1 hC.2.1 dX6_digest_120 (lv_at hl 0 rfl) ?_
          refine g2_deeds hC hw g5 q1_38 dX6_digest_122 ?_
          refine lv_i2l hC.1 hC.2.1 dX6_digest_125 rfl ?_
          refine lv_ladd hC.1 hC.2.1 dX6_digest_126 ?_
          refine lv_topl (fun y8 ey8 => ?_)
          have hF := lt1G hF ey8
          refine lv_lstore_n (lv' := [(1, .long y8), (4, .ref (ad G c4)), (0, .ref (ad G 0)), (3, .int x3)]) hC.1 hC.2.1 dX6_digest_127 rfl hl (by decide) rfl (fun ls hl => ?_)
          refine lv_iinc (v := (x3 + (1 : Int32))) (lv' := [(3, .int (x3 + (1 : Int32))), (1, .long y8), (4, .ref (ad G c4)), (0, .ref (ad G 0))]) hC.1 hC.2.1 dX6_digest_128 hl (k := 3) rfl rfl (by decide) rfl (fun ls hl => ?_)
          refine lv_goto (tgt := 86) hC.1 hC.2.1 dX6_digest_131 (by decide) ?_
          exact ih hF hw (lv_sub hl [3, 1, 0] rfl)
        · have hF := ifP hF b7
          refine lv_iconst (v := (-1 : Int32)) hC.1 hC.2.1 dX6_digest_116 (by decide) ?_
          refine lv_goto (tgt := 125) hC.1 hC.2.1 dX6_digest_117 (by decide) ?_
          refine lv_i2l hC.1 hC.2.1 dX6_digest_125 rfl ?_
          refine lv_ladd hC.1 hC.2.1 dX6_digest_126 ?_
          refine lv_topl (fun y9 ey9 => ?_)
          have hF := lt1G hF ey9
          refine lv_lstore_n (lv' := [(1, .long y9), (4, .ref (ad G c4)), (0, .ref (ad G 0)), (3, .int x3)]) hC.1 hC.2.1 dX6_digest_127 rfl hl (by decide) rfl (fun ls hl => ?_)
          refine lv_iinc (v := (x3 + (1 : Int32))) (lv' := [(3, .int (x3 + (1 : Int32))), (1, .long y9), (4, .ref (ad G c4)), (0, .ref (ad G 0))]) hC.1 hC.2.1 dX6_digest_128 hl (k := 3) rfl rfl (by decide) rfl (fun ls hl => ?_)
          refine lv_goto (tgt := 86) hC.1 hC.2.1 dX6_digest_131 (by decide) ?_
          exact ih hF hw (lv_sub hl [3, 1, 0] rfl)
def F_X6_digest_33 (fu : Nat) (M : Mm) : Nat → Int64 → Int32 → Option Int64
  | 0, _, _ => none
  | n + 1, x1, x3 =>
    if (M.1 24 0) ≤ x3 then
      F_X6_digest_86 fu M fu x1 (0 : Int32)
    else
      F_X6_digest_47 fu M (F_X6_digest_33 fu M n) fu x1 x3 (0 : Int32)
set_option maxRecDepth 100000 in
set_option maxHeartbeats 4000000 in
theorem w_X6_digest_33 {p : Program} {l : Launch} {e : Env} {s : State} {m : MethodId} {args : Array Value} {below : List Frame} {meth : Method} {c : Code} {G : Gv} (hC : Cx p s m args meth c cX6_digest 5 (some .long) RX6) {fu : Nat} {r : Int64} {M : Mm} : ∀ (n : Nat) {x1 : Int64} {x3 : Int32} {H : Heap} {locs : List Loc} {ls : Array Slot}, F_X6_digest_33 fu M n x1 x3 = some r → St G s H locs M → lv_has ls 5 [(0, .ref (ad G 0)), (1, .long x1), (3, .int x3)] → W p l e rm_X6_digest s m args below meth c H locs 0 0 (MQ below (QL G r M) args s 0 0 (zA G)) (F0 m 33 ls []) := by
  intro n
  induction n with
  | zero =>
    intro x1 x3 H locs ls hF hw hl
    cases hF
  | succ n ih =>
    intro x1 x3 H locs ls hF hw hl
    unfold F_X6_digest_33 at hF
    refine lv_iload_n hC.1 hC.2.1 dX6_digest_33 rfl (lv_at hl 2 rfl) ?_
    refine lv_aload_n hC.1 hC.2.1 dX6_digest_34 rfl (lv_at hl 0 rfl) ?_
    refine g6_north hC hw q1_202 dX6_digest_35 ?_
    refine g2_men hC hw (rfl : kd 24 = 11) q1_32 dX6_digest_38 ?_
    refine lv_icmp_ge (tgt := 84) hC.1 hC.2.1 dX6_digest_41 (by decide) (fun b1 => ?_) (fun b1 => ?_)
    · have hF := ifP hF b1
      refine lv_iconst (v := (0 : Int32)) hC.1 hC.2.1 dX6_digest_84 (by decide) ?_
      refine lv_istore_n (lv' := [(3, .int (0 : Int32)), (0, .ref (ad G 0)), (1, .long x1)]) hC.1 hC.2.1 dX6_digest_85 rfl hl (by decide) rfl (fun ls hl => ?_)
      exact w_X6_digest_86 hC _ hF hw (lv_sub hl [1, 2, 0] rfl)
    · have hF := ifN hF b1
      refine lv_iconst (v := (0 : Int32)) hC.1 hC.2.1 dX6_digest_44 (by decide) ?_
      refine lv_istore (lv' := [(4, .int (0 : Int32)), (0, .ref (ad G 0)), (1, .long x1), (3, .int x3)]) hC.1 hC.2.1 dX6_digest_45 hl (by decide) rfl (fun ls hl => ?_)
      exact w_X6_digest_47 hC (hk_33 := ih) _ hF hw (lv_sub hl [1, 2, 3, 0] rfl)
def F_X6_digest_6 (fu : Nat) (M : Mm) : Nat → Int64 → Int32 → Option Int64
  | 0, _, _ => none
  | n + 1, x1, x3 =>
    if (9 : Int32) ≤ x3 then
      F_X6_digest_33 fu M fu x1 (0 : Int32)
    else
      ob1 (F_X6_countOf fu M x3) (fun r3 =>
      F_X6_digest_6 fu M n (((31 : Int64) * x1) + r3.toInt64) (x3 + (1 : Int32)))
set_option maxRecDepth 100000 in
set_option maxHeartbeats 4000000 in
theorem w_X6_digest_6 {p : Program} {l : Launch} {e : Env} {s : State} {m : MethodId} {args : Array Value} {below : List Frame} {meth : Method} {c : Code} {G : Gv} (hC : Cx p s m args meth c cX6_digest 5 (some .long) RX6) {fu : Nat} {r : Int64} {M : Mm} : ∀ (n : Nat) {x1 : Int64} {x3 : Int32} {H : Heap} {locs : List Loc} {ls : Array Slot}, F_X6_digest_6 fu M n x1 x3 = some r → St G s H locs M → lv_has ls 5 [(0, .ref (ad G 0)), (1, .long x1), (3, .int x3)] → W p l e rm_X6_digest s m args below meth c H locs 0 0 (MQ below (QL G r M) args s 0 0 (zA G)) (F0 m 6 ls []) := by
  intro n
  induction n with
  | zero =>
    intro x1 x3 H locs ls hF hw hl
    cases hF
  | succ n ih =>
    intro x1 x3 H locs ls hF hw hl
    unfold F_X6_digest_6 at hF
    refine lv_iload_n hC.1 hC.2.1 dX6_digest_6 rfl (lv_at hl 2 rfl) ?_
    refine lv_bipush (v := (9 : Int32)) hC.1 hC.2.1 dX6_digest_7 (by decide) ?_
    refine lv_icmp_ge (tgt := 31) hC.1 hC.2.1 dX6_digest_9 (by decide) (fun b1 => ?_) (fun b1 => ?_)
    · have hF := ifP hF b1
      refine lv_iconst (v := (0 : Int32)) hC.1 hC.2.1 dX6_digest_31 (by decide) ?_
      refine lv_istore_n (lv' := [(3, .int (0 : Int32)), (0, .ref (ad G 0)), (1, .long x1)]) hC.1 hC.2.1 dX6_digest_32 rfl hl (by decide) rfl (fun ls hl => ?_)
      exact w_X6_digest_33 hC _ hF hw (lv_sub hl [1, 2, 0] rfl)
    · have hF := ifN hF b1
      refine lv_ldc2 (v := (31 : Int64)) hC.1 hC.2.1 hC.2.2.2.1 (hC.2.2.2.2.1 _ q4_104) dX6_digest_12 ?_
      refine lv_lload_n hC.1 hC.2.1 dX6_digest_15 rfl (lv_at hl 1 rfl) ?_
      refine lv_lmul hC.1 hC.2.1 dX6_digest_16 ?_
      refine lv_aload_n hC.1 hC.2.1 dX6_digest_17 rfl (lv_at hl 0 rfl) ?_
      refine lv_iload_n hC.1 hC.2.1 dX6_digest_18 rfl (lv_at hl 2 rfl) ?_
      obtain ⟨r3, h2, hF⟩ := ob1S hF
      refine k_Vi (As := [.int x3]) (rest := [.long ((31 : Int64) * x1)]) hC hw (c_X6_countOf (M := M) h2) RC_S yv_X6_countOf q4_66 ⟨rfl, rfl⟩ ⟨Nat.le_of_ble_eq_true rfl, Nat.le_of_ble_eq_true rfl⟩ ⟨Nat.zero_le _, Nat.zero_le _⟩ rfl rfl (Nat.le_of_ble_eq_true rfl) hl dX6_digest_19 (fun H locs hw => ?_)
      refine lv_i2l hC.1 hC.2.1 dX6_digest_22 rfl ?_
      refine lv_ladd hC.1 hC.2.1 dX6_digest_23 ?_
      refine lv_lstore_n (lv' := [(1, .long (((31 : Int64) * x1) + r3.toInt64)), (0, .ref (ad G 0)), (3, .int x3)]) hC.1 hC.2.1 dX6_digest_24 rfl hl (by decide) rfl (fun ls hl => ?_)
      refine lv_iinc (v := (x3 + (1 : Int32))) (lv' := [(3, .int (x3 + (1 : Int32))), (1, .long (((31 : Int64) * x1) + r3.toInt64)), (0, .ref (ad G 0))]) hC.1 hC.2.1 dX6_digest_25 hl (k := 2) rfl rfl (by decide) rfl (fun ls hl => ?_)
      refine lv_goto (tgt := 6) hC.1 hC.2.1 dX6_digest_28 (by decide) ?_
      exact ih hF hw (lv_sub hl [2, 1, 0] rfl)
def F_X6_digest (fu : Nat) (M : Mm) : Option Int64 :=
  F_X6_digest_6 fu M fu (17 : Int64) (0 : Int32)
set_option maxRecDepth 100000 in
set_option maxHeartbeats 4000000 in
theorem c_X6_digest {l : Launch} {G : Gv} {fu : Nat} {M : Mm} {r : Int64} (hF : F_X6_digest fu M = some r) : Met l yX6_digest (.code yX6_digest cX6_digest 5 (some .long) :: zU) rm_X6_digest (va_Pc [.ref (ad G 0)] (Wd G M)) (QL G r M) 0 0 (zA G) := by
  refine zMet (by decide) rfl (Nat.le_of_ble_eq_true rfl) ?_
  intro p e s m below meth c hC hw ls hl
  have hl : lv_has ls 5 [(0, .ref (ad G 0))] := hl
  unfold F_X6_digest at hF
  refine lv_ldc2 (v := (17 : Int64)) hC.1 hC.2.1 hC.2.2.2.1 (hC.2.2.2.2.1 _ q4_103) dX6_digest_0 ?_
  refine lv_lstore_n (lv' := [(1, .long (17 : Int64)), (0, .ref (ad G 0))]) hC.1 hC.2.1 dX6_digest_3 rfl hl (by decide) rfl (fun ls hl => ?_)
  refine lv_iconst (v := (0 : Int32)) hC.1 hC.2.1 dX6_digest_4 (by decide) ?_
  refine lv_istore_n (lv' := [(3, .int (0 : Int32)), (1, .long (17 : Int64)), (0, .ref (ad G 0))]) hC.1 hC.2.1 dX6_digest_5 rfl hl (by decide) rfl (fun ls hl => ?_)
  exact w_X6_digest_6 hC _ hF hw (lv_sub hl [2, 1, 0] rfl)
