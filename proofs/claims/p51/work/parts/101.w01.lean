abbrev rm_X2_votersBy : Room := { frames := 2, cells := 0, slots := 0, locals := 44 }
theorem yv_X2_votersBy : YV yX2_votersBy cX2_votersBy 4 (some .int) 1 RX2 := ⟨⟨q2_41, q2_42, q1_2, q2_43⟩, by decide +kernel⟩
theorem dX2_votersBy_0 : decode cX2_votersBy 0 = .ok (.iconst 0, 1) := by decide +kernel
theorem dX2_votersBy_1 : decode cX2_votersBy 1 = .ok (.istore_n 2, 1) := by decide +kernel
theorem dX2_votersBy_2 : decode cX2_votersBy 2 = .ok (.iconst 0, 1) := by decide +kernel
theorem dX2_votersBy_3 : decode cX2_votersBy 3 = .ok (.istore_n 3, 1) := by decide +kernel
theorem dX2_votersBy_4 : decode cX2_votersBy 4 = .ok (.iload_n 3, 1) := by decide +kernel
theorem dX2_votersBy_5 : decode cX2_votersBy 5 = .ok (.aload_n 0, 1) := by decide +kernel
theorem dX2_votersBy_6 : decode cX2_votersBy 6 = .ok (.getfield 48, 3) := by decide +kernel
theorem dX2_votersBy_9 : decode cX2_votersBy 9 = .ok (.if_icmp .ge 32, 3) := by decide +kernel
theorem dX2_votersBy_12 : decode cX2_votersBy 12 = .ok (.aload_n 0, 1) := by decide +kernel
theorem dX2_votersBy_13 : decode cX2_votersBy 13 = .ok (.iload_n 3, 1) := by decide +kernel
theorem dX2_votersBy_14 : decode cX2_votersBy 14 = .ok (.aload_n 0, 1) := by decide +kernel
theorem dX2_votersBy_15 : decode cX2_votersBy 15 = .ok (.getfield 21, 3) := by decide +kernel
theorem dX2_votersBy_18 : decode cX2_votersBy 18 = .ok (.iload_n 3, 1) := by decide +kernel
theorem dX2_votersBy_19 : decode cX2_votersBy 19 = .ok (.invokestatic 81, 3) := by decide +kernel
theorem dX2_votersBy_22 : decode cX2_votersBy 22 = .ok (.iload_n 1, 1) := by decide +kernel
theorem dX2_votersBy_23 : decode cX2_votersBy 23 = .ok (.invokevirtual 114, 3) := by decide +kernel
theorem dX2_votersBy_26 : decode cX2_votersBy 26 = .ok (.ifCond .eq 9, 3) := by decide +kernel
theorem dX2_votersBy_29 : decode cX2_votersBy 29 = .ok (.iload_n 2, 1) := by decide +kernel
theorem dX2_votersBy_30 : decode cX2_votersBy 30 = .ok (.iconst 1, 1) := by decide +kernel
theorem dX2_votersBy_31 : decode cX2_votersBy 31 = .ok (.iload_n 3, 1) := by decide +kernel
theorem dX2_votersBy_32 : decode cX2_votersBy 32 = .ok (.ishl, 1) := by decide +kernel
theorem dX2_votersBy_33 : decode cX2_votersBy 33 = .ok (.ior, 1) := by decide +kernel
theorem dX2_votersBy_34 : decode cX2_votersBy 34 = .ok (.istore_n 2, 1) := by decide +kernel
theorem dX2_votersBy_35 : decode cX2_votersBy 35 = .ok (.iinc 3 1, 3) := by decide +kernel
theorem dX2_votersBy_38 : decode cX2_votersBy 38 = .ok (.goto (-34), 3) := by decide +kernel
theorem dX2_votersBy_41 : decode cX2_votersBy 41 = .ok (.iload_n 2, 1) := by decide +kernel
theorem dX2_votersBy_42 : decode cX2_votersBy 42 = .ok (.ireturn, 1) := by decide +kernel
def F_X2_votersBy_4 (fu : Nat) (M : Mm) : Nat → Nat → Int32 → Int32 → Int32 → Option Int32
  | 0, _, _, _, _ => none
  | n + 1, c0, x1, x2, x3 =>
    if (M.1 c0 0) ≤ x3 then
      some x2
    else
      ob1 (F_X6_read fu M (c0 + 4) x3) (fun r3 =>
      ob1 (F_X2_hasRight fu M c0 x3 r3 x1) (fun r5 =>
      if r5 = 0 then
        F_X2_votersBy_4 fu M n c0 x1 x2 (x3 + (1 : Int32))
      else
        F_X2_votersBy_4 fu M n c0 x1 (x2 ||| ((1 : Int32) <<< (x3 &&& 31))) (x3 + (1 : Int32))))
set_option maxRecDepth 100000 in
set_option maxHeartbeats 4000000 in
theorem w_X2_votersBy_4 {p : Program} {l : Launch} {e : Env} {s : State} {m : MethodId} {args : Array Value} {below : List Frame} {meth : Method} {c : Code} {G : Gv} (hC : Cx p s m args meth c cX2_votersBy 4 (some .int) RX2) {fu : Nat} {r : Int32} {M : Mm} : ∀ (n : Nat) {c0 : Nat} {x1 : Int32} {x2 : Int32} {x3 : Int32} {H : Heap} {locs : List Loc} {ls : Array Slot} (hk0 : kd c0 = 11), F_X2_votersBy_4 fu M n c0 x1 x2 x3 = some r → St G s H locs M → lv_has ls 4 [(0, .ref (ad G c0)), (1, .int x1), (2, .int x2), (3, .int x3)] → W p l e rm_X2_votersBy s m args below meth c H locs 0 0 (MQ below (QI G r M) args s 0 0 (zA G)) (F0 m 4 ls []) := by
  intro n
  induction n with
  | zero =>
    intro c0 x1 x2 x3 H locs ls hk0 hF hw hl
    cases hF
  | succ n ih =>
    intro c0 x1 x2 x3 H locs ls hk0 hF hw hl
    unfold F_X2_votersBy_4 at hF
    refine lv_iload_n hC.1 hC.2.1 dX2_votersBy_4 rfl (lv_at hl 3 rfl) ?_
    refine lv_aload_n hC.1 hC.2.1 dX2_votersBy_5 rfl (lv_at hl 0 rfl) ?_
    refine g2_men hC hw hk0 q1_28 dX2_votersBy_6 ?_
    refine lv_icmp_ge (tgt := 41) hC.1 hC.2.1 dX2_votersBy_9 (by decide) (fun b1 => ?_) (fun b1 => ?_)
    · have hF := ifP hF b1
      refine lv_iload_n hC.1 hC.2.1 dX2_votersBy_41 rfl (lv_at hl 2 rfl) ?_
      exact r_iretP hC hw hF dX2_votersBy_42
    · have hF := ifN hF b1
      refine lv_aload_n hC.1 hC.2.1 dX2_votersBy_12 rfl (lv_at hl 0 rfl) ?_
      refine lv_iload_n hC.1 hC.2.1 dX2_votersBy_13 rfl (lv_at hl 3 rfl) ?_
      refine lv_aload_n hC.1 hC.2.1 dX2_votersBy_14 rfl (lv_at hl 0 rfl) ?_
      refine g2_bulkOf hC hw hk0 q1_40 dX2_votersBy_15 ?_
      refine lv_iload_n hC.1 hC.2.1 dX2_votersBy_18 rfl (lv_at hl 3 rfl) ?_
      obtain ⟨r3, h2, hF⟩ := ob1S hF
      refine k_Ni (As := [.ref (ad G (c0 + 4)), .int x3]) (rest := [.int x3, .ref (ad G c0)]) hC hw (c_X6_read (M := M) (kdN4 hk0) h2) ys_X6_read (k := 6) rfl ⟨rfl, rfl⟩ ⟨Nat.le_of_ble_eq_true rfl, Nat.le_of_ble_eq_true rfl⟩ ⟨Nat.zero_le _, Nat.zero_le _⟩ rfl rfl (Nat.le_of_ble_eq_true rfl) hl dX2_votersBy_19 (fun H locs hw => ?_)
      refine lv_iload_n hC.1 hC.2.1 dX2_votersBy_22 rfl (lv_at hl 1 rfl) ?_
      obtain ⟨r5, h4, hF⟩ := ob1S hF
      refine k_Vi (As := [.int x3, .int r3, .int x1]) (rest := []) hC hw (c_X2_hasRight (M := M) hk0 h4) (RC_N hk0) yv_X2_hasRight q2_44 ⟨rfl, rfl⟩ ⟨Nat.le_of_ble_eq_true rfl, Nat.le_of_ble_eq_true rfl⟩ ⟨Nat.zero_le _, Nat.zero_le _⟩ rfl rfl (Nat.le_of_ble_eq_true rfl) hl dX2_votersBy_23 (fun H locs hw => ?_)
      refine lv_if_eq (tgt := 35) hC.1 hC.2.1 dX2_votersBy_26 (by decide) (fun b6 => ?_) (fun b6 => ?_)
      · have hF := ifP hF b6
        refine lv_iinc (v := (x3 + (1 : Int32))) (lv' := [(3, .int (x3 + (1 : Int32))), (0, .ref (ad G c0)), (1, .int x1), (2, .int x2)]) hC.1 hC.2.1 dX2_votersBy_35 hl (k := 3) rfl rfl (by decide) rfl (fun ls hl => ?_)
        refine lv_goto (tgt := 4) hC.1 hC.2.1 dX2_votersBy_38 (by decide) ?_
        exact ih hk0 hF hw (lv_sub hl [1, 2, 3, 0] rfl)
      · have hF := ifN hF b6
        refine lv_iload_n hC.1 hC.2.1 dX2_votersBy_29 rfl (lv_at hl 2 rfl) ?_
        refine lv_iconst (v := (1 : Int32)) hC.1 hC.2.1 dX2_votersBy_30 (by decide) ?_
        refine lv_iload_n hC.1 hC.2.1 dX2_votersBy_31 rfl (lv_at hl 3 rfl) ?_
        refine lv_ishl hC.1 hC.2.1 dX2_votersBy_32 ?_
        refine lv_ior hC.1 hC.2.1 dX2_votersBy_33 ?_
        refine lv_istore_n (lv' := [(2, .int (x2 ||| ((1 : Int32) <<< (x3 &&& 31)))), (0, .ref (ad G c0)), (1, .int x1), (3, .int x3)]) hC.1 hC.2.1 dX2_votersBy_34 rfl hl (by decide) rfl (fun ls hl => ?_)
        refine lv_iinc (v := (x3 + (1 : Int32))) (lv' := [(3, .int (x3 + (1 : Int32))), (2, .int (x2 ||| ((1 : Int32) <<< (x3 &&& 31)))), (0, .ref (ad G c0)), (1, .int x1)]) hC.1 hC.2.1 dX2_votersBy_35 hl (k := 3) rfl rfl (by decide) rfl (fun ls hl => ?_)
        refine lv_goto (tgt := 4) hC.1 hC.2.1 dX2_votersBy_38 (by decide) ?_
        exact ih hk0 hF hw (lv_sub hl [2, 3, 1, 0] rfl)
def F_X2_votersBy (fu : Nat) (M : Mm) (c0 : Nat) (x1 : Int32) : Option Int32 :=
  F_X2_votersBy_4 fu M fu c0 x1 (0 : Int32) (0 : Int32)
set_option maxRecDepth 100000 in
set_option maxHeartbeats 4000000 in
theorem c_X2_votersBy {l : Launch} {G : Gv} {fu : Nat} {M : Mm} {c0 : Nat} {x1 : Int32} (hk0 : kd c0 = 11) {r : Int32} (hF : F_X2_votersBy fu M c0 x1 = some r) : Met l yX2_votersBy (.code yX2_votersBy cX2_votersBy 4 (some .int) :: zU) rm_X2_votersBy (va_Pc [.ref (ad G c0), .int x1] (Wd G M)) (QI G r M) 0 0 (zA G) := by
  refine zMet (by decide) rfl (Nat.le_of_ble_eq_true rfl) ?_
  intro p e s m below meth c hC hw ls hl
  have hl : lv_has ls 4 [(0, .ref (ad G c0)), (1, .int x1)] := hl
  unfold F_X2_votersBy at hF
  refine lv_iconst (v := (0 : Int32)) hC.1 hC.2.1 dX2_votersBy_0 (by decide) ?_
  refine lv_istore_n (lv' := [(2, .int (0 : Int32)), (0, .ref (ad G c0)), (1, .int x1)]) hC.1 hC.2.1 dX2_votersBy_1 rfl hl (by decide) rfl (fun ls hl => ?_)
  refine lv_iconst (v := (0 : Int32)) hC.1 hC.2.1 dX2_votersBy_2 (by decide) ?_
  refine lv_istore_n (lv' := [(3, .int (0 : Int32)), (2, .int (0 : Int32)), (0, .ref (ad G c0)), (1, .int x1)]) hC.1 hC.2.1 dX2_votersBy_3 rfl hl (by decide) rfl (fun ls hl => ?_)
  exact w_X2_votersBy_4 hC _ hk0 hF hw (lv_sub hl [2, 3, 1, 0] rfl)
abbrev rm_X2_living : Room := { frames := 3, cells := 0, slots := 0, locals := 67 }
theorem yv_X2_living : YV yX2_living cX2_living 1 (some .int) 0 RX2 := ⟨⟨q2_95, q2_96, q1_2, q2_97⟩, by decide +kernel⟩
theorem dX2_living_0 : decode cX2_living 0 = .ok (.aload_n 0, 1) := by decide +kernel
theorem dX2_living_1 : decode cX2_living 1 = .ok (.iconst 1, 1) := by decide +kernel
theorem dX2_living_2 : decode cX2_living 2 = .ok (.invokevirtual 110, 3) := by decide +kernel
theorem dX2_living_5 : decode cX2_living 5 = .ok (.ireturn, 1) := by decide +kernel
def F_X2_living (fu : Nat) (M : Mm) (c0 : Nat) : Option Int32 :=
  ob1 (F_X2_votersBy fu M c0 (1 : Int32)) (fun r2 =>
  some r2)
set_option maxRecDepth 100000 in
set_option maxHeartbeats 4000000 in
theorem c_X2_living {l : Launch} {G : Gv} {fu : Nat} {M : Mm} {c0 : Nat} (hk0 : kd c0 = 11) {r : Int32} (hF : F_X2_living fu M c0 = some r) : Met l yX2_living (.code yX2_living cX2_living 1 (some .int) :: zU) rm_X2_living (va_Pc [.ref (ad G c0)] (Wd G M)) (QI G r M) 0 0 (zA G) := by
  refine zMet (by decide) rfl (Nat.le_of_ble_eq_true rfl) ?_
  intro p e s m below meth c hC hw ls hl
  have hl : lv_has ls 1 [(0, .ref (ad G c0))] := hl
  unfold F_X2_living at hF
  refine lv_aload_n hC.1 hC.2.1 dX2_living_0 rfl (lv_at hl 0 rfl) ?_
  refine lv_iconst (v := (1 : Int32)) hC.1 hC.2.1 dX2_living_1 (by decide) ?_
  obtain ⟨r2, h1, hF⟩ := ob1S hF
  refine k_Vi (As := [.int (1 : Int32)]) (rest := []) hC hw (c_X2_votersBy (M := M) hk0 h1) (RC_N hk0) yv_X2_votersBy q2_40 ⟨rfl, rfl⟩ ⟨Nat.le_of_ble_eq_true rfl, Nat.le_of_ble_eq_true rfl⟩ ⟨Nat.zero_le _, Nat.zero_le _⟩ rfl rfl (Nat.le_of_ble_eq_true rfl) hl dX2_living_2 (fun H locs hw => ?_)
  exact r_iretP hC hw hF dX2_living_5
abbrev rm_X2_hasRightBy : Room := { frames := 4, cells := 0, slots := 0, locals := 102 }
theorem yv_X2_hasRightBy : YV yX2_hasRightBy cX2_hasRightBy 4 (some .boolean) 3 RX2 := ⟨⟨q2_179, q2_180, q1_2, q2_181⟩, by decide +kernel⟩
theorem dX2_hasRightBy_0 : decode cX2_hasRightBy 0 = .ok (.aload_n 0, 1) := by decide +kernel
theorem dX2_hasRightBy_1 : decode cX2_hasRightBy 1 = .ok (.iload_n 1, 1) := by decide +kernel
theorem dX2_hasRightBy_2 : decode cX2_hasRightBy 2 = .ok (.aload_n 0, 1) := by decide +kernel
theorem dX2_hasRightBy_3 : decode cX2_hasRightBy 3 = .ok (.iload_n 1, 1) := by decide +kernel
theorem dX2_hasRightBy_4 : decode cX2_hasRightBy 4 = .ok (.iload_n 2, 1) := by decide +kernel
theorem dX2_hasRightBy_5 : decode cX2_hasRightBy 5 = .ok (.iload_n 3, 1) := by decide +kernel
theorem dX2_hasRightBy_6 : decode cX2_hasRightBy 6 = .ok (.invokevirtual 104, 3) := by decide +kernel
theorem dX2_hasRightBy_9 : decode cX2_hasRightBy 9 = .ok (.aload_n 0, 1) := by decide +kernel
theorem dX2_hasRightBy_10 : decode cX2_hasRightBy 10 = .ok (.getfield 52, 3) := by decide +kernel
theorem dX2_hasRightBy_13 : decode cX2_hasRightBy 13 = .ok (.invokevirtual 114, 3) := by decide +kernel
theorem dX2_hasRightBy_16 : decode cX2_hasRightBy 16 = .ok (.ireturn, 1) := by decide +kernel
def F_X2_hasRightBy (fu : Nat) (M : Mm) (c0 : Nat) (x1 : Int32) (x2 : Int32) (x3 : Int32) : Option Int32 :=
  ob1 (F_X2_bulkBy fu M c0 x1 x2 x3) (fun r2 =>
  ob1 (F_X2_hasRight fu M c0 x1 r2 (M.1 c0 1)) (fun r4 =>
  if ¬ (r4 = 0 ∨ r4 = 1) then none else (
  some r4)))
set_option maxRecDepth 100000 in
set_option maxHeartbeats 4000000 in
theorem c_X2_hasRightBy {l : Launch} {G : Gv} {fu : Nat} {M : Mm} {c0 : Nat} {x1 : Int32} {x2 : Int32} {x3 : Int32} (hk0 : kd c0 = 11) {r : Int32} (hF : F_X2_hasRightBy fu M c0 x1 x2 x3 = some r) : Met l yX2_hasRightBy (.code yX2_hasRightBy cX2_hasRightBy 4 (some .boolean) :: zU) rm_X2_hasRightBy (va_Pc [.ref (ad G c0), .int x1, .int x2, .int x3] (Wd G M)) (QI G r M) 0 0 (zA G) := by
  refine zMet (by decide) rfl (Nat.le_of_ble_eq_true rfl) ?_
  intro p e s m below meth c hC hw ls hl
  have hl : lv_has ls 4 [(0, .ref (ad G c0)), (1, .int x1), (2, .int x2), (3, .int x3)] := hl
  unfold F_X2_hasRightBy at hF
  refine lv_aload_n hC.1 hC.2.1 dX2_hasRightBy_0 rfl (lv_at hl 0 rfl) ?_
  refine lv_iload_n hC.1 hC.2.1 dX2_hasRightBy_1 rfl (lv_at hl 1 rfl) ?_
  refine lv_aload_n hC.1 hC.2.1 dX2_hasRightBy_2 rfl (lv_at hl 0 rfl) ?_
  refine lv_iload_n hC.1 hC.2.1 dX2_hasRightBy_3 rfl (lv_at hl 1 rfl) ?_
  refine lv_iload_n hC.1 hC.2.1 dX2_hasRightBy_4 rfl (lv_at hl 2 rfl) ?_
  refine lv_iload_n hC.1 hC.2.1 dX2_hasRightBy_5 rfl (lv_at hl 3 rfl) ?_
  obtain ⟨r2, h1, hF⟩ := ob1S hF
  refine k_Vi (As := [.int x1, .int x2, .int x3]) (rest := [.int x1, .ref (ad G c0)]) hC hw (c_X2_bulkBy (M := M) hk0 h1) (RC_N hk0) yv_X2_bulkBy q2_154 ⟨rfl, rfl⟩ ⟨Nat.le_of_ble_eq_true rfl, Nat.le_of_ble_eq_true rfl⟩ ⟨Nat.zero_le _, Nat.zero_le _⟩ rfl rfl (Nat.le_of_ble_eq_true rfl) hl dX2_hasRightBy_6 (fun H locs hw => ?_)
  refine lv_aload_n hC.1 hC.2.1 dX2_hasRightBy_9 rfl (lv_at hl 0 rfl) ?_
  refine g2_rightNow hC hw hk0 q1_30 dX2_hasRightBy_10 ?_
  obtain ⟨r4, h3, hF⟩ := ob1S hF
  refine k_Vi (As := [.int x1, .int r2, .int (M.1 c0 1)]) (rest := []) hC hw (c_X2_hasRight (M := M) hk0 h3) (RC_N hk0) yv_X2_hasRight q2_44 ⟨rfl, rfl⟩ ⟨Nat.le_of_ble_eq_true rfl, Nat.le_of_ble_eq_true rfl⟩ ⟨Nat.zero_le _, Nat.zero_le _⟩ rfl rfl (Nat.le_of_ble_eq_true rfl) hl dX2_hasRightBy_13 (fun H locs hw => ?_)
  obtain ⟨z5, hF⟩ := ifO hF
  exact r_zretP hC hw (Decidable.not_not.mp z5) hF dX2_hasRightBy_16
abbrev rm_X2_votersIn : Room := { frames := 5, cells := 0, slots := 0, locals := 125 }
theorem yv_X2_votersIn : YV yX2_votersIn cX2_votersIn 4 (some .int) 1 RX2 := ⟨⟨q2_175, q2_176, q1_2, q2_177⟩, by decide +kernel⟩
theorem dX2_votersIn_0 : decode cX2_votersIn 0 = .ok (.iconst 0, 1) := by decide +kernel
theorem dX2_votersIn_1 : decode cX2_votersIn 1 = .ok (.istore_n 2, 1) := by decide +kernel
theorem dX2_votersIn_2 : decode cX2_votersIn 2 = .ok (.iconst 0, 1) := by decide +kernel
theorem dX2_votersIn_3 : decode cX2_votersIn 3 = .ok (.istore_n 3, 1) := by decide +kernel
theorem dX2_votersIn_4 : decode cX2_votersIn 4 = .ok (.iload_n 3, 1) := by decide +kernel
theorem dX2_votersIn_5 : decode cX2_votersIn 5 = .ok (.aload_n 0, 1) := by decide +kernel
theorem dX2_votersIn_6 : decode cX2_votersIn 6 = .ok (.getfield 48, 3) := by decide +kernel
theorem dX2_votersIn_9 : decode cX2_votersIn 9 = .ok (.if_icmp .ge 32, 3) := by decide +kernel
theorem dX2_votersIn_12 : decode cX2_votersIn 12 = .ok (.aload_n 0, 1) := by decide +kernel
theorem dX2_votersIn_13 : decode cX2_votersIn 13 = .ok (.iload_n 3, 1) := by decide +kernel
theorem dX2_votersIn_14 : decode cX2_votersIn 14 = .ok (.aload_n 0, 1) := by decide +kernel
theorem dX2_votersIn_15 : decode cX2_votersIn 15 = .ok (.getfield 24, 3) := by decide +kernel
theorem dX2_votersIn_18 : decode cX2_votersIn 18 = .ok (.iload_n 3, 1) := by decide +kernel
theorem dX2_votersIn_19 : decode cX2_votersIn 19 = .ok (.invokestatic 81, 3) := by decide +kernel
theorem dX2_votersIn_22 : decode cX2_votersIn 22 = .ok (.iload_n 1, 1) := by decide +kernel
theorem dX2_votersIn_23 : decode cX2_votersIn 23 = .ok (.invokevirtual 118, 3) := by decide +kernel
theorem dX2_votersIn_26 : decode cX2_votersIn 26 = .ok (.ifCond .eq 9, 3) := by decide +kernel
theorem dX2_votersIn_29 : decode cX2_votersIn 29 = .ok (.iload_n 2, 1) := by decide +kernel
theorem dX2_votersIn_30 : decode cX2_votersIn 30 = .ok (.iconst 1, 1) := by decide +kernel
theorem dX2_votersIn_31 : decode cX2_votersIn 31 = .ok (.iload_n 3, 1) := by decide +kernel
theorem dX2_votersIn_32 : decode cX2_votersIn 32 = .ok (.ishl, 1) := by decide +kernel
theorem dX2_votersIn_33 : decode cX2_votersIn 33 = .ok (.ior, 1) := by decide +kernel
theorem dX2_votersIn_34 : decode cX2_votersIn 34 = .ok (.istore_n 2, 1) := by decide +kernel
theorem dX2_votersIn_35 : decode cX2_votersIn 35 = .ok (.iinc 3 1, 3) := by decide +kernel
theorem dX2_votersIn_38 : decode cX2_votersIn 38 = .ok (.goto (-34), 3) := by decide +kernel
theorem dX2_votersIn_41 : decode cX2_votersIn 41 = .ok (.iload_n 2, 1) := by decide +kernel
theorem dX2_votersIn_42 : decode cX2_votersIn 42 = .ok (.ireturn, 1) := by decide +kernel
def F_X2_votersIn_4 (fu : Nat) (M : Mm) : Nat → Nat → Int32 → Int32 → Int32 → Option Int32
  | 0, _, _, _, _ => none
  | n + 1, c0, x1, x2, x3 =>
    if (M.1 c0 0) ≤ x3 then
      some x2
    else
      ob1 (F_X6_read fu M (c0 + 5) x3) (fun r3 =>
      ob1 (F_X2_hasRightBy fu M c0 x3 r3 x1) (fun r5 =>
      if r5 = 0 then
        F_X2_votersIn_4 fu M n c0 x1 x2 (x3 + (1 : Int32))
      else
        F_X2_votersIn_4 fu M n c0 x1 (x2 ||| ((1 : Int32) <<< (x3 &&& 31))) (x3 + (1 : Int32))))
set_option maxRecDepth 100000 in
set_option maxHeartbeats 4000000 in
theorem w_X2_votersIn_4 {p : Program} {l : Launch} {e : Env} {s : State} {m : MethodId} {args : Array Value} {below : List Frame} {meth : Method} {c : Code} {G : Gv} (hC : Cx p s m args meth c cX2_votersIn 4 (some .int) RX2) {fu : Nat} {r : Int32} {M : Mm} : ∀ (n : Nat) {c0 : Nat} {x1 : Int32} {x2 : Int32} {x3 : Int32} {H : Heap} {locs : List Loc} {ls : Array Slot} (hk0 : kd c0 = 11), F_X2_votersIn_4 fu M n c0 x1 x2 x3 = some r → St G s H locs M → lv_has ls 4 [(0, .ref (ad G c0)), (1, .int x1), (2, .int x2), (3, .int x3)] → W p l e rm_X2_votersIn s m args below meth c H locs 0 0 (MQ below (QI G r M) args s 0 0 (zA G)) (F0 m 4 ls []) := by
  intro n
  induction n with
  | zero =>
    intro c0 x1 x2 x3 H locs ls hk0 hF hw hl
    cases hF
  | succ n ih =>
    intro c0 x1 x2 x3 H locs ls hk0 hF hw hl
    unfold F_X2_votersIn_4 at hF
    refine lv_iload_n hC.1 hC.2.1 dX2_votersIn_4 rfl (lv_at hl 3 rfl) ?_
    refine lv_aload_n hC.1 hC.2.1 dX2_votersIn_5 rfl (lv_at hl 0 rfl) ?_
    refine g2_men hC hw hk0 q1_28 dX2_votersIn_6 ?_
    refine lv_icmp_ge (tgt := 41) hC.1 hC.2.1 dX2_votersIn_9 (by decide) (fun b1 => ?_) (fun b1 => ?_)
    · have hF := ifP hF b1
      refine lv_iload_n hC.1 hC.2.1 dX2_votersIn_41 rfl (lv_at hl 2 rfl) ?_
      exact r_iretP hC hw hF dX2_votersIn_42
    · have hF := ifN hF b1
      refine lv_aload_n hC.1 hC.2.1 dX2_votersIn_12 rfl (lv_at hl 0 rfl) ?_
      refine lv_iload_n hC.1 hC.2.1 dX2_votersIn_13 rfl (lv_at hl 3 rfl) ?_
      refine lv_aload_n hC.1 hC.2.1 dX2_votersIn_14 rfl (lv_at hl 0 rfl) ?_
      refine g2_shadeOf hC hw hk0 q1_43 dX2_votersIn_15 ?_
      refine lv_iload_n hC.1 hC.2.1 dX2_votersIn_18 rfl (lv_at hl 3 rfl) ?_
      obtain ⟨r3, h2, hF⟩ := ob1S hF
      refine k_Ni (As := [.ref (ad G (c0 + 5)), .int x3]) (rest := [.int x3, .ref (ad G c0)]) hC hw (c_X6_read (M := M) (kdN5 hk0) h2) ys_X6_read (k := 6) rfl ⟨rfl, rfl⟩ ⟨Nat.le_of_ble_eq_true rfl, Nat.le_of_ble_eq_true rfl⟩ ⟨Nat.zero_le _, Nat.zero_le _⟩ rfl rfl (Nat.le_of_ble_eq_true rfl) hl dX2_votersIn_19 (fun H locs hw => ?_)
      refine lv_iload_n hC.1 hC.2.1 dX2_votersIn_22 rfl (lv_at hl 1 rfl) ?_
      obtain ⟨r5, h4, hF⟩ := ob1S hF
      refine k_Vi (As := [.int x3, .int r3, .int x1]) (rest := []) hC hw (c_X2_hasRightBy (M := M) hk0 h4) (RC_N hk0) yv_X2_hasRightBy q2_178 ⟨rfl, rfl⟩ ⟨Nat.le_of_ble_eq_true rfl, Nat.le_of_ble_eq_true rfl⟩ ⟨Nat.zero_le _, Nat.zero_le _⟩ rfl rfl (Nat.le_of_ble_eq_true rfl) hl dX2_votersIn_23 (fun H locs hw => ?_)
      refine lv_if_eq (tgt := 35) hC.1 hC.2.1 dX2_votersIn_26 (by decide) (fun b6 => ?_) (fun b6 => ?_)
      · have hF := ifP hF b6
        refine lv_iinc (v := (x3 + (1 : Int32))) (lv' := [(3, .int (x3 + (1 : Int32))), (0, .ref (ad G c0)), (1, .int x1), (2, .int x2)]) hC.1 hC.2.1 dX2_votersIn_35 hl (k := 3) rfl rfl (by decide) rfl (fun ls hl => ?_)
        refine lv_goto (tgt := 4) hC.1 hC.2.1 dX2_votersIn_38 (by decide) ?_
        exact ih hk0 hF hw (lv_sub hl [1, 2, 3, 0] rfl)
      · have hF := ifN hF b6
        refine lv_iload_n hC.1 hC.2.1 dX2_votersIn_29 rfl (lv_at hl 2 rfl) ?_
        refine lv_iconst (v := (1 : Int32)) hC.1 hC.2.1 dX2_votersIn_30 (by decide) ?_
        refine lv_iload_n hC.1 hC.2.1 dX2_votersIn_31 rfl (lv_at hl 3 rfl) ?_
        refine lv_ishl hC.1 hC.2.1 dX2_votersIn_32 ?_
        refine lv_ior hC.1 hC.2.1 dX2_votersIn_33 ?_
        refine lv_istore_n (lv' := [(2, .int (x2 ||| ((1 : Int32) <<< (x3 &&& 31)))), (0, .ref (ad G c0)), (1, .int x1), (3, .int x3)]) hC.1 hC.2.1 dX2_votersIn_34 rfl hl (by decide) rfl (fun ls hl => ?_)
        refine lv_iinc (v := (x3 + (1 : Int32))) (lv' := [(3, .int (x3 + (1 : Int32))), (2, .int (x2 ||| ((1 : Int32) <<< (x3 &&& 31)))), (0, .ref (ad G c0)), (1, .int x1)]) hC.1 hC.2.1 dX2_votersIn_35 hl (k := 3) rfl rfl (by decide) rfl (fun ls hl => ?_)
        refine lv_goto (tgt := 4) hC.1 hC.2.1 dX2_votersIn_38 (by decide) ?_
        exact ih hk0 hF hw (lv_sub hl [2, 3, 1, 0] rfl)
def F_X2_votersIn (fu : Nat) (M : Mm) (c0 : Nat) (x1 : Int32) : Option Int32 :=
  F_X2_votersIn_4 fu M fu c0 x1 (0 : Int32) (0 : Int32)
set_option maxRecDepth 100000 in
set_option maxHeartbeats 4000000 in
theorem c_X2_votersIn {l : Launch} {G : Gv} {fu : Nat} {M : Mm} {c0 : Nat} {x1 : Int32} (hk0 : kd c0 = 11) {r : Int32} (hF : F_X2_votersIn fu M c0 x1 = some r) : Met l yX2_votersIn (.code yX2_votersIn cX2_votersIn 4 (some .int) :: zU) rm_X2_votersIn (va_Pc [.ref (ad G c0), .int x1] (Wd G M)) (QI G r M) 0 0 (zA G) := by
  refine zMet (by decide) rfl (Nat.le_of_ble_eq_true rfl) ?_
  intro p e s m below meth c hC hw ls hl
  have hl : lv_has ls 4 [(0, .ref (ad G c0)), (1, .int x1)] := hl
  unfold F_X2_votersIn at hF
  refine lv_iconst (v := (0 : Int32)) hC.1 hC.2.1 dX2_votersIn_0 (by decide) ?_
  refine lv_istore_n (lv' := [(2, .int (0 : Int32)), (0, .ref (ad G c0)), (1, .int x1)]) hC.1 hC.2.1 dX2_votersIn_1 rfl hl (by decide) rfl (fun ls hl => ?_)
  refine lv_iconst (v := (0 : Int32)) hC.1 hC.2.1 dX2_votersIn_2 (by decide) ?_
  refine lv_istore_n (lv' := [(3, .int (0 : Int32)), (2, .int (0 : Int32)), (0, .ref (ad G c0)), (1, .int x1)]) hC.1 hC.2.1 dX2_votersIn_3 rfl hl (by decide) rfl (fun ls hl => ?_)
  exact w_X2_votersIn_4 hC _ hk0 hF hw (lv_sub hl [2, 3, 1, 0] rfl)
abbrev rm_X2_foreseeVoters : Room := { frames := 3, cells := 0, slots := 0, locals := 76 }
theorem yv_X2_foreseeVoters : YV yX2_foreseeVoters cX2_foreseeVoters 6 none 2 RX2 := ⟨⟨q3_8, q3_9, q1_2, q3_10⟩, by decide +kernel⟩
theorem dX2_foreseeVoters_0 : decode cX2_foreseeVoters 0 = .ok (.iconst 0, 1) := by decide +kernel
theorem dX2_foreseeVoters_1 : decode cX2_foreseeVoters 1 = .ok (.istore_n 3, 1) := by decide +kernel
theorem dX2_foreseeVoters_2 : decode cX2_foreseeVoters 2 = .ok (.iload_n 3, 1) := by decide +kernel
theorem dX2_foreseeVoters_3 : decode cX2_foreseeVoters 3 = .ok (.bipush 60, 2) := by decide +kernel
theorem dX2_foreseeVoters_5 : decode cX2_foreseeVoters 5 = .ok (.if_icmp .gt 15, 3) := by decide +kernel
theorem dX2_foreseeVoters_8 : decode cX2_foreseeVoters 8 = .ok (.aload_n 2, 1) := by decide +kernel
theorem dX2_foreseeVoters_9 : decode cX2_foreseeVoters 9 = .ok (.iload_n 3, 1) := by decide +kernel
theorem dX2_foreseeVoters_10 : decode cX2_foreseeVoters 10 = .ok (.iconst 0, 1) := by decide +kernel
theorem dX2_foreseeVoters_11 : decode cX2_foreseeVoters 11 = .ok (.invokestatic 73, 3) := by decide +kernel
theorem dX2_foreseeVoters_14 : decode cX2_foreseeVoters 14 = .ok (.iinc 3 1, 3) := by decide +kernel
theorem dX2_foreseeVoters_17 : decode cX2_foreseeVoters 17 = .ok (.goto (-15), 3) := by decide +kernel
theorem dX2_foreseeVoters_20 : decode cX2_foreseeVoters 20 = .ok (.iconst 0, 1) := by decide +kernel
theorem dX2_foreseeVoters_21 : decode cX2_foreseeVoters 21 = .ok (.istore_n 3, 1) := by decide +kernel
theorem dX2_foreseeVoters_22 : decode cX2_foreseeVoters 22 = .ok (.iload_n 3, 1) := by decide +kernel
theorem dX2_foreseeVoters_23 : decode cX2_foreseeVoters 23 = .ok (.aload_n 0, 1) := by decide +kernel
theorem dX2_foreseeVoters_24 : decode cX2_foreseeVoters 24 = .ok (.getfield 48, 3) := by decide +kernel
theorem dX2_foreseeVoters_27 : decode cX2_foreseeVoters 27 = .ok (.if_icmp .ge 74, 3) := by decide +kernel
theorem dX2_foreseeVoters_30 : decode cX2_foreseeVoters 30 = .ok (.aload_n 0, 1) := by decide +kernel
theorem dX2_foreseeVoters_31 : decode cX2_foreseeVoters 31 = .ok (.getfield 21, 3) := by decide +kernel
theorem dX2_foreseeVoters_34 : decode cX2_foreseeVoters 34 = .ok (.iload_n 3, 1) := by decide +kernel
theorem dX2_foreseeVoters_35 : decode cX2_foreseeVoters 35 = .ok (.invokestatic 81, 3) := by decide +kernel
theorem dX2_foreseeVoters_38 : decode cX2_foreseeVoters 38 = .ok (.istore 4, 2) := by decide +kernel
theorem dX2_foreseeVoters_40 : decode cX2_foreseeVoters 40 = .ok (.iconst 0, 1) := by decide +kernel
theorem dX2_foreseeVoters_41 : decode cX2_foreseeVoters 41 = .ok (.istore 5, 2) := by decide +kernel
theorem dX2_foreseeVoters_43 : decode cX2_foreseeVoters 43 = .ok (.iload 5, 2) := by decide +kernel
theorem dX2_foreseeVoters_45 : decode cX2_foreseeVoters 45 = .ok (.bipush 60, 2) := by decide +kernel
theorem dX2_foreseeVoters_47 : decode cX2_foreseeVoters 47 = .ok (.if_icmp .gt 48, 3) := by decide +kernel
theorem dX2_foreseeVoters_50 : decode cX2_foreseeVoters 50 = .ok (.aload_n 0, 1) := by decide +kernel
theorem dX2_foreseeVoters_51 : decode cX2_foreseeVoters 51 = .ok (.iload_n 3, 1) := by decide +kernel
theorem dX2_foreseeVoters_52 : decode cX2_foreseeVoters 52 = .ok (.iload 4, 2) := by decide +kernel
theorem dX2_foreseeVoters_54 : decode cX2_foreseeVoters 54 = .ok (.iload_n 1, 1) := by decide +kernel
theorem dX2_foreseeVoters_55 : decode cX2_foreseeVoters 55 = .ok (.invokevirtual 114, 3) := by decide +kernel
theorem dX2_foreseeVoters_58 : decode cX2_foreseeVoters 58 = .ok (.ifCond .eq 19, 3) := by decide +kernel
theorem dX2_foreseeVoters_61 : decode cX2_foreseeVoters 61 = .ok (.aload_n 2, 1) := by decide +kernel
theorem dX2_foreseeVoters_62 : decode cX2_foreseeVoters 62 = .ok (.iload 5, 2) := by decide +kernel
theorem dX2_foreseeVoters_64 : decode cX2_foreseeVoters 64 = .ok (.aload_n 2, 1) := by decide +kernel
theorem dX2_foreseeVoters_65 : decode cX2_foreseeVoters 65 = .ok (.iload 5, 2) := by decide +kernel
theorem dX2_foreseeVoters_67 : decode cX2_foreseeVoters 67 = .ok (.invokestatic 81, 3) := by decide +kernel
theorem dX2_foreseeVoters_70 : decode cX2_foreseeVoters 70 = .ok (.iconst 1, 1) := by decide +kernel
theorem dX2_foreseeVoters_71 : decode cX2_foreseeVoters 71 = .ok (.iload_n 3, 1) := by decide +kernel
theorem dX2_foreseeVoters_72 : decode cX2_foreseeVoters 72 = .ok (.ishl, 1) := by decide +kernel
theorem dX2_foreseeVoters_73 : decode cX2_foreseeVoters 73 = .ok (.ior, 1) := by decide +kernel
theorem dX2_foreseeVoters_74 : decode cX2_foreseeVoters 74 = .ok (.invokestatic 73, 3) := by decide +kernel
theorem dX2_foreseeVoters_77 : decode cX2_foreseeVoters 77 = .ok (.iload 4, 2) := by decide +kernel
theorem dX2_foreseeVoters_79 : decode cX2_foreseeVoters 79 = .ok (.aload_n 0, 1) := by decide +kernel
theorem dX2_foreseeVoters_80 : decode cX2_foreseeVoters 80 = .ok (.iload_n 3, 1) := by decide +kernel
theorem dX2_foreseeVoters_81 : decode cX2_foreseeVoters 81 = .ok (.iload 5, 2) := by decide +kernel
theorem dX2_foreseeVoters_83 : decode cX2_foreseeVoters 83 = .ok (.invokevirtual 94, 3) := by decide +kernel
theorem dX2_foreseeVoters_86 : decode cX2_foreseeVoters 86 = .ok (.isub, 1) := by decide +kernel
theorem dX2_foreseeVoters_87 : decode cX2_foreseeVoters 87 = .ok (.istore 4, 2) := by decide +kernel
theorem dX2_foreseeVoters_89 : decode cX2_foreseeVoters 89 = .ok (.iinc 5 1, 3) := by decide +kernel
theorem dX2_foreseeVoters_92 : decode cX2_foreseeVoters 92 = .ok (.goto (-49), 3) := by decide +kernel
theorem dX2_foreseeVoters_95 : decode cX2_foreseeVoters 95 = .ok (.iinc 3 1, 3) := by decide +kernel
theorem dX2_foreseeVoters_98 : decode cX2_foreseeVoters 98 = .ok (.goto (-76), 3) := by decide +kernel
theorem dX2_foreseeVoters_101 : decode cX2_foreseeVoters 101 = .ok (.return_, 1) := by decide +kernel
def F_X2_foreseeVoters_77 (fu : Nat) (k22 : Mm → Nat → Int32 → Nat → Int32 → Option Mm) (k43 : Mm → Nat → Int32 → Nat → Int32 → Int32 → Int32 → Option Mm) (M : Mm) (c0 : Nat) (x1 : Int32) (c2 : Nat) (x3 : Int32) (x4 : Int32) (x5 : Int32) : Option Mm :=
  ob1 (F_X2_meltingIn fu M c0 x3 x5) (fun r2 =>
  k43 M c0 x1 c2 x3 (x4 - r2) (x5 + (1 : Int32)))
set_option maxRecDepth 100000 in
set_option maxHeartbeats 4000000 in
theorem w_X2_foreseeVoters_77 {p : Program} {l : Launch} {e : Env} {s : State} {m : MethodId} {args : Array Value} {below : List Frame} {meth : Method} {c : Code} {G : Gv} (hC : Cx p s m args meth c cX2_foreseeVoters 6 none RX2) {fu : Nat} {M' : Mm} {k22 : Mm → Nat → Int32 → Nat → Int32 → Option Mm} (hk_22 : ∀ {c0 : Nat} {x1 : Int32} {c2 : Nat} {x3 : Int32} {M : Mm} {H : Heap} {locs : List Loc} {ls : Array Slot} (hk0 : kd c0 = 11) (hk2 : kd c2 = 1), k22 M c0 x1 c2 x3 = some M' → St G s H locs M → lv_has ls 6 [(0, .ref (ad G c0)), (1, .int x1), (2, .ref (ad G c2)), (3, .int x3)] → W p l e rm_X2_foreseeVoters s m args below meth c H locs 0 0 (MQ below (QV G M') args s 0 0 (zA G)) (F0 m 22 ls [])) {k43 : Mm → Nat → Int32 → Nat → Int32 → Int32 → Int32 → Option Mm} (hk_43 : ∀ {c0 : Nat} {x1 : Int32} {c2 : Nat} {x3 : Int32} {x4 : Int32} {x5 : Int32} {M : Mm} {H : Heap} {locs : List Loc} {ls : Array Slot} (hk0 : kd c0 = 11) (hk2 : kd c2 = 1), k43 M c0 x1 c2 x3 x4 x5 = some M' → St G s H locs M → lv_has ls 6 [(0, .ref (ad G c0)), (1, .int x1), (2, .ref (ad G c2)), (3, .int x3), (4, .int x4), (5, .int x5)] → W p l e rm_X2_foreseeVoters s m args below meth c H locs 0 0 (MQ below (QV G M') args s 0 0 (zA G)) (F0 m 43 ls [])) {c0 : Nat} {x1 : Int32} {c2 : Nat} {x3 : Int32} {x4 : Int32} {x5 : Int32} {M : Mm} {H : Heap} {locs : List Loc} {ls : Array Slot} (hk0 : kd c0 = 11) (hk2 : kd c2 = 1) (hF : F_X2_foreseeVoters_77 fu k22 k43 M c0 x1 c2 x3 x4 x5 = some M') (hw : St G s H locs M) (hl : lv_has ls 6 [(0, .ref (ad G c0)), (1, .int x1), (2, .ref (ad G c2)), (3, .int x3), (4, .int x4), (5, .int x5)]) : W p l e rm_X2_foreseeVoters s m args below meth c H locs 0 0 (MQ below (QV G M') args s 0 0 (zA G)) (F0 m 77 ls []) := by
  unfold F_X2_foreseeVoters_77 at hF
  refine lv_iload hC.1 hC.2.1 dX2_foreseeVoters_77 (lv_at hl 4 rfl) ?_
  refine lv_aload_n hC.1 hC.2.1 dX2_foreseeVoters_79 rfl (lv_at hl 0 rfl) ?_
  refine lv_iload_n hC.1 hC.2.1 dX2_foreseeVoters_80 rfl (lv_at hl 3 rfl) ?_
  refine lv_iload hC.1 hC.2.1 dX2_foreseeVoters_81 (lv_at hl 5 rfl) ?_
  obtain ⟨r2, h1, hF⟩ := ob1S hF
  refine k_Vi (As := [.int x3, .int x5]) (rest := [.int x4]) hC hw (c_X2_meltingIn (M := M) hk0 h1) (RC_N hk0) yv_X2_meltingIn q2_83 ⟨rfl, rfl⟩ ⟨Nat.le_of_ble_eq_true rfl, Nat.le_of_ble_eq_true rfl⟩ ⟨Nat.zero_le _, Nat.zero_le _⟩ rfl rfl (Nat.le_of_ble_eq_true rfl) hl dX2_foreseeVoters_83 (fun H locs hw => ?_)
  refine lv_isub hC.1 hC.2.1 dX2_foreseeVoters_86 ?_
  refine lv_istore (lv' := [(4, .int (x4 - r2)), (0, .ref (ad G c0)), (1, .int x1), (2, .ref (ad G c2)), (3, .int x3), (5, .int x5)]) hC.1 hC.2.1 dX2_foreseeVoters_87 hl (by decide) rfl (fun ls hl => ?_)
  refine lv_iinc (v := (x5 + (1 : Int32))) (lv' := [(5, .int (x5 + (1 : Int32))), (4, .int (x4 - r2)), (0, .ref (ad G c0)), (1, .int x1), (2, .ref (ad G c2)), (3, .int x3)]) hC.1 hC.2.1 dX2_foreseeVoters_89 hl (k := 5) rfl rfl (by decide) rfl (fun ls hl => ?_)
  refine lv_goto (tgt := 43) hC.1 hC.2.1 dX2_foreseeVoters_92 (by decide) ?_
  exact hk_43 hk0 hk2 hF hw (lv_sub hl [2, 3, 4, 5, 1, 0] rfl)
def F_X2_foreseeVoters_43 (fu : Nat) (k22 : Mm → Nat → Int32 → Nat → Int32 → Option Mm) : Nat → Mm → Nat → Int32 → Nat → Int32 → Int32 → Int32 → Option Mm
  | 0, _, _, _, _, _, _, _ => none
  | n + 1, M, c0, x1, c2, x3, x4, x5 =>
    if (60 : Int32) < x5 then
      k22 M c0 x1 c2 (x3 + (1 : Int32))
    else
      ob1 (F_X2_hasRight fu M c0 x3 x4 x1) (fun r3 =>
      if r3 = 0 then
        F_X2_foreseeVoters_77 fu k22 (F_X2_foreseeVoters_43 fu k22 n) M c0 x1 c2 x3 x4 x5
      else
        ob1 (F_X6_read fu M c2 x5) (fun r6 =>
        ob1 (F_X6_write fu M c2 x5 (r6 ||| ((1 : Int32) <<< (x3 &&& 31)))) (fun M8 =>
        F_X2_foreseeVoters_77 fu k22 (F_X2_foreseeVoters_43 fu k22 n) M8 c0 x1 c2 x3 x4 x5)))
set_option maxRecDepth 100000 in
set_option maxHeartbeats 4000000 in
theorem w_X2_foreseeVoters_43 {p : Program} {l : Launch} {e : Env} {s : State} {m : MethodId} {args : Array Value} {below : List Frame} {meth : Method} {c : Code} {G : Gv} (hC : Cx p s m args meth c cX2_foreseeVoters 6 none RX2) {fu : Nat} {M' : Mm} {k22 : Mm → Nat → Int32 → Nat → Int32 → Option Mm} (hk_22 : ∀ {c0 : Nat} {x1 : Int32} {c2 : Nat} {x3 : Int32} {M : Mm} {H : Heap} {locs : List Loc} {ls : Array Slot} (hk0 : kd c0 = 11) (hk2 : kd c2 = 1), k22 M c0 x1 c2 x3 = some M' → St G s H locs M → lv_has ls 6 [(0, .ref (ad G c0)), (1, .int x1), (2, .ref (ad G c2)), (3, .int x3)] → W p l e rm_X2_foreseeVoters s m args below meth c H locs 0 0 (MQ below (QV G M') args s 0 0 (zA G)) (F0 m 22 ls [])) : ∀ (n : Nat) {c0 : Nat} {x1 : Int32} {c2 : Nat} {x3 : Int32} {x4 : Int32} {x5 : Int32} {M : Mm} {H : Heap} {locs : List Loc} {ls : Array Slot} (hk0 : kd c0 = 11) (hk2 : kd c2 = 1), F_X2_foreseeVoters_43 fu k22 n M c0 x1 c2 x3 x4 x5 = some M' → St G s H locs M → lv_has ls 6 [(0, .ref (ad G c0)), (1, .int x1), (2, .ref (ad G c2)), (3, .int x3), (4, .int x4), (5, .int x5)] → W p l e rm_X2_foreseeVoters s m args below meth c H locs 0 0 (MQ below (QV G M') args s 0 0 (zA G)) (F0 m 43 ls []) := by
  intro n
  induction n with
  | zero =>
    intro c0 x1 c2 x3 x4 x5 M H locs ls hk0 hk2 hF hw hl
    cases hF
  | succ n ih =>
    intro c0 x1 c2 x3 x4 x5 M H locs ls hk0 hk2 hF hw hl
    unfold F_X2_foreseeVoters_43 at hF
    refine lv_iload hC.1 hC.2.1 dX2_foreseeVoters_43 (lv_at hl 5 rfl) ?_
    refine lv_bipush (v := (60 : Int32)) hC.1 hC.2.1 dX2_foreseeVoters_45 (by decide) ?_
    refine lv_icmp_gt (tgt := 95) hC.1 hC.2.1 dX2_foreseeVoters_47 (by decide) (fun b1 => ?_) (fun b1 => ?_)
    · have hF := ifP hF b1
      refine lv_iinc (v := (x3 + (1 : Int32))) (lv' := [(3, .int (x3 + (1 : Int32))), (0, .ref (ad G c0)), (1, .int x1), (2, .ref (ad G c2)), (4, .int x4), (5, .int x5)]) hC.1 hC.2.1 dX2_foreseeVoters_95 hl (k := 3) rfl rfl (by decide) rfl (fun ls hl => ?_)
      refine lv_goto (tgt := 22) hC.1 hC.2.1 dX2_foreseeVoters_98 (by decide) ?_
      exact hk_22 hk0 hk2 hF hw (lv_sub hl [1, 2, 3, 0] rfl)
    · have hF := ifN hF b1
      refine lv_aload_n hC.1 hC.2.1 dX2_foreseeVoters_50 rfl (lv_at hl 0 rfl) ?_
      refine lv_iload_n hC.1 hC.2.1 dX2_foreseeVoters_51 rfl (lv_at hl 3 rfl) ?_
      refine lv_iload hC.1 hC.2.1 dX2_foreseeVoters_52 (lv_at hl 4 rfl) ?_
      refine lv_iload_n hC.1 hC.2.1 dX2_foreseeVoters_54 rfl (lv_at hl 1 rfl) ?_
      obtain ⟨r3, h2, hF⟩ := ob1S hF
      refine k_Vi (As := [.int x3, .int x4, .int x1]) (rest := []) hC hw (c_X2_hasRight (M := M) hk0 h2) (RC_N hk0) yv_X2_hasRight q2_44 ⟨rfl, rfl⟩ ⟨Nat.le_of_ble_eq_true rfl, Nat.le_of_ble_eq_true rfl⟩ ⟨Nat.zero_le _, Nat.zero_le _⟩ rfl rfl (Nat.le_of_ble_eq_true rfl) hl dX2_foreseeVoters_55 (fun H locs hw => ?_)
      refine lv_if_eq (tgt := 77) hC.1 hC.2.1 dX2_foreseeVoters_58 (by decide) (fun b4 => ?_) (fun b4 => ?_)
      · have hF := ifP hF b4
        exact w_X2_foreseeVoters_77 hC (hk_22 := hk_22) (hk_43 := ih) hk0 hk2 hF hw (lv_sub hl [0, 1, 2, 3, 4, 5] rfl)
      · have hF := ifN hF b4
        refine lv_aload_n hC.1 hC.2.1 dX2_foreseeVoters_61 rfl (lv_at hl 2 rfl) ?_
        refine lv_iload hC.1 hC.2.1 dX2_foreseeVoters_62 (lv_at hl 5 rfl) ?_
        refine lv_aload_n hC.1 hC.2.1 dX2_foreseeVoters_64 rfl (lv_at hl 2 rfl) ?_
        refine lv_iload hC.1 hC.2.1 dX2_foreseeVoters_65 (lv_at hl 5 rfl) ?_
        obtain ⟨r6, h5, hF⟩ := ob1S hF
        refine k_Ni (As := [.ref (ad G c2), .int x5]) (rest := [.int x5, .ref (ad G c2)]) hC hw (c_X6_read (M := M) hk2 h5) ys_X6_read (k := 6) rfl ⟨rfl, rfl⟩ ⟨Nat.le_of_ble_eq_true rfl, Nat.le_of_ble_eq_true rfl⟩ ⟨Nat.zero_le _, Nat.zero_le _⟩ rfl rfl (Nat.le_of_ble_eq_true rfl) hl dX2_foreseeVoters_67 (fun H locs hw => ?_)
        refine lv_iconst (v := (1 : Int32)) hC.1 hC.2.1 dX2_foreseeVoters_70 (by decide) ?_
        refine lv_iload_n hC.1 hC.2.1 dX2_foreseeVoters_71 rfl (lv_at hl 3 rfl) ?_
        refine lv_ishl hC.1 hC.2.1 dX2_foreseeVoters_72 ?_
        refine lv_ior hC.1 hC.2.1 dX2_foreseeVoters_73 ?_
        obtain ⟨M8, h7, hF⟩ := ob1S hF
        refine k_Nv (As := [.ref (ad G c2), .int x5, .int (r6 ||| ((1 : Int32) <<< (x3 &&& 31)))]) (rest := []) hC hw (c_X6_write (M := M) hk2 h7) ys_X6_write (k := 8) rfl ⟨rfl, rfl⟩ ⟨Nat.le_of_ble_eq_true rfl, Nat.le_of_ble_eq_true rfl⟩ ⟨Nat.zero_le _, Nat.zero_le _⟩ rfl rfl (Nat.le_of_ble_eq_true rfl) hl dX2_foreseeVoters_74 (fun H locs hw => ?_)
        exact w_X2_foreseeVoters_77 hC (hk_22 := hk_22) (hk_43 := ih) hk0 hk2 hF hw (lv_sub hl [0, 1, 2, 3, 4, 5] rfl)
def F_X2_foreseeVoters_22 (fu : Nat) : Nat → Mm → Nat → Int32 → Nat → Int32 → Option Mm
  | 0, _, _, _, _, _ => none
  | n + 1, M, c0, x1, c2, x3 =>
    if (M.1 c0 0) ≤ x3 then
      some M
    else
      ob1 (F_X6_read fu M (c0 + 4) x3) (fun r3 =>
      F_X2_foreseeVoters_43 fu (F_X2_foreseeVoters_22 fu n) fu M c0 x1 c2 x3 r3 (0 : Int32))
set_option maxRecDepth 100000 in
set_option maxHeartbeats 4000000 in
theorem w_X2_foreseeVoters_22 {p : Program} {l : Launch} {e : Env} {s : State} {m : MethodId} {args : Array Value} {below : List Frame} {meth : Method} {c : Code} {G : Gv} (hC : Cx p s m args meth c cX2_foreseeVoters 6 none RX2) {fu : Nat} {M' : Mm} : ∀ (n : Nat) {c0 : Nat} {x1 : Int32} {c2 : Nat} {x3 : Int32} {M : Mm} {H : Heap} {locs : List Loc} {ls : Array Slot} (hk0 : kd c0 = 11) (hk2 : kd c2 = 1), F_X2_foreseeVoters_22 fu n M c0 x1 c2 x3 = some M' → St G s H locs M → lv_has ls 6 [(0, .ref (ad G c0)), (1, .int x1), (2, .ref (ad G c2)), (3, .int x3)] → W p l e rm_X2_foreseeVoters s m args below meth c H locs 0 0 (MQ below (QV G M') args s 0 0 (zA G)) (F0 m 22 ls []) := by
  intro n
  induction n with
  | zero =>
    intro c0 x1 c2 x3 M H locs ls hk0 hk2 hF hw hl
    cases hF
  | succ n ih =>
    intro c0 x1 c2 x3 M H locs ls hk0 hk2 hF hw hl
    unfold F_X2_foreseeVoters_22 at hF
    refine lv_iload_n hC.1 hC.2.1 dX2_foreseeVoters_22 rfl (lv_at hl 3 rfl) ?_
    refine lv_aload_n hC.1 hC.2.1 dX2_foreseeVoters_23 rfl (lv_at hl 0 rfl) ?_
    refine g2_men hC hw hk0 q1_28 dX2_foreseeVoters_24 ?_
    refine lv_icmp_ge (tgt := 101) hC.1 hC.2.1 dX2_foreseeVoters_27 (by decide) (fun b1 => ?_) (fun b1 => ?_)
    · have hF := ifP hF b1
      exact r_vretE hC hw hF dX2_foreseeVoters_101
    · have hF := ifN hF b1
      refine lv_aload_n hC.1 hC.2.1 dX2_foreseeVoters_30 rfl (lv_at hl 0 rfl) ?_
      refine g2_bulkOf hC hw hk0 q1_40 dX2_foreseeVoters_31 ?_
      refine lv_iload_n hC.1 hC.2.1 dX2_foreseeVoters_34 rfl (lv_at hl 3 rfl) ?_
      obtain ⟨r3, h2, hF⟩ := ob1S hF
      refine k_Ni (As := [.ref (ad G (c0 + 4)), .int x3]) (rest := []) hC hw (c_X6_read (M := M) (kdN4 hk0) h2) ys_X6_read (k := 6) rfl ⟨rfl, rfl⟩ ⟨Nat.le_of_ble_eq_true rfl, Nat.le_of_ble_eq_true rfl⟩ ⟨Nat.zero_le _, Nat.zero_le _⟩ rfl rfl (Nat.le_of_ble_eq_true rfl) hl dX2_foreseeVoters_35 (fun H locs hw => ?_)
      refine lv_istore (lv' := [(4, .int r3), (0, .ref (ad G c0)), (1, .int x1), (2, .ref (ad G c2)), (3, .int x3)]) hC.1 hC.2.1 dX2_foreseeVoters_38 hl (by decide) rfl (fun ls hl => ?_)
      refine lv_iconst (v := (0 : Int32)) hC.1 hC.2.1 dX2_foreseeVoters_40 (by decide) ?_
      refine lv_istore (lv' := [(5, .int (0 : Int32)), (4, .int r3), (0, .ref (ad G c0)), (1, .int x1), (2, .ref (ad G c2)), (3, .int x3)]) hC.1 hC.2.1 dX2_foreseeVoters_41 hl (by decide) rfl (fun ls hl => ?_)
      exact w_X2_foreseeVoters_43 hC (hk_22 := ih) _ hk0 hk2 hF hw (lv_sub hl [2, 3, 4, 5, 1, 0] rfl)
def F_X2_foreseeVoters_2 (fu : Nat) : Nat → Mm → Nat → Int32 → Nat → Int32 → Option Mm
  | 0, _, _, _, _, _ => none
  | n + 1, M, c0, x1, c2, x3 =>
    if (60 : Int32) < x3 then
      F_X2_foreseeVoters_22 fu fu M c0 x1 c2 (0 : Int32)
    else
      ob1 (F_X6_write fu M c2 x3 (0 : Int32)) (fun M3 =>
      F_X2_foreseeVoters_2 fu n M3 c0 x1 c2 (x3 + (1 : Int32)))
set_option maxRecDepth 100000 in
set_option maxHeartbeats 4000000 in
theorem w_X2_foreseeVoters_2 {p : Program} {l : Launch} {e : Env} {s : State} {m : MethodId} {args : Array Value} {below : List Frame} {meth : Method} {c : Code} {G : Gv} (hC : Cx p s m args meth c cX2_foreseeVoters 6 none RX2) {fu : Nat} {M' : Mm} : ∀ (n : Nat) {c0 : Nat} {x1 : Int32} {c2 : Nat} {x3 : Int32} {M : Mm} {H : Heap} {locs : List Loc} {ls : Array Slot} (hk0 : kd c0 = 11) (hk2 : kd c2 = 1), F_X2_foreseeVoters_2 fu n M c0 x1 c2 x3 = some M' → St G s H locs M → lv_has ls 6 [(0, .ref (ad G c0)), (1, .int x1), (2, .ref (ad G c2)), (3, .int x3)] → W p l e rm_X2_foreseeVoters s m args below meth c H locs 0 0 (MQ below (QV G M') args s 0 0 (zA G)) (F0 m 2 ls []) := by
  intro n
  induction n with
  | zero =>
    intro c0 x1 c2 x3 M H locs ls hk0 hk2 hF hw hl
    cases hF
  | succ n ih =>
    intro c0 x1 c2 x3 M H locs ls hk0 hk2 hF hw hl
    unfold F_X2_foreseeVoters_2 at hF
    refine lv_iload_n hC.1 hC.2.1 dX2_foreseeVoters_2 rfl (lv_at hl 3 rfl) ?_
    refine lv_bipush (v := (60 : Int32)) hC.1 hC.2.1 dX2_foreseeVoters_3 (by decide) ?_
    refine lv_icmp_gt (tgt := 20) hC.1 hC.2.1 dX2_foreseeVoters_5 (by decide) (fun b1 => ?_) (fun b1 => ?_)
    · have hF := ifP hF b1
      refine lv_iconst (v := (0 : Int32)) hC.1 hC.2.1 dX2_foreseeVoters_20 (by decide) ?_
      refine lv_istore_n (lv' := [(3, .int (0 : Int32)), (0, .ref (ad G c0)), (1, .int x1), (2, .ref (ad G c2))]) hC.1 hC.2.1 dX2_foreseeVoters_21 rfl hl (by decide) rfl (fun ls hl => ?_)
      exact w_X2_foreseeVoters_22 hC _ hk0 hk2 hF hw (lv_sub hl [1, 2, 3, 0] rfl)
    · have hF := ifN hF b1
      refine lv_aload_n hC.1 hC.2.1 dX2_foreseeVoters_8 rfl (lv_at hl 2 rfl) ?_
      refine lv_iload_n hC.1 hC.2.1 dX2_foreseeVoters_9 rfl (lv_at hl 3 rfl) ?_
      refine lv_iconst (v := (0 : Int32)) hC.1 hC.2.1 dX2_foreseeVoters_10 (by decide) ?_
      obtain ⟨M3, h2, hF⟩ := ob1S hF
      refine k_Nv (As := [.ref (ad G c2), .int x3, .int (0 : Int32)]) (rest := []) hC hw (c_X6_write (M := M) hk2 h2) ys_X6_write (k := 8) rfl ⟨rfl, rfl⟩ ⟨Nat.le_of_ble_eq_true rfl, Nat.le_of_ble_eq_true rfl⟩ ⟨Nat.zero_le _, Nat.zero_le _⟩ rfl rfl (Nat.le_of_ble_eq_true rfl) hl dX2_foreseeVoters_11 (fun H locs hw => ?_)
      refine lv_iinc (v := (x3 + (1 : Int32))) (lv' := [(3, .int (x3 + (1 : Int32))), (0, .ref (ad G c0)), (1, .int x1), (2, .ref (ad G c2))]) hC.1 hC.2.1 dX2_foreseeVoters_14 hl (k := 3) rfl rfl (by decide) rfl (fun ls hl => ?_)
      refine lv_goto (tgt := 2) hC.1 hC.2.1 dX2_foreseeVoters_17 (by decide) ?_
      exact ih hk0 hk2 hF hw (lv_sub hl [1, 2, 3, 0] rfl)
def F_X2_foreseeVoters (fu : Nat) (M : Mm) (c0 : Nat) (x1 : Int32) (c2 : Nat) : Option Mm :=
  F_X2_foreseeVoters_2 fu fu M c0 x1 c2 (0 : Int32)
set_option maxRecDepth 100000 in
set_option maxHeartbeats 4000000 in
theorem c_X2_foreseeVoters {l : Launch} {G : Gv} {fu : Nat} {M : Mm} {c0 : Nat} {x1 : Int32} {c2 : Nat} (hk0 : kd c0 = 11) (hk2 : kd c2 = 1) {M' : Mm} (hF : F_X2_foreseeVoters fu M c0 x1 c2 = some M') : Met l yX2_foreseeVoters (.code yX2_foreseeVoters cX2_foreseeVoters 6 none :: zU) rm_X2_foreseeVoters (va_Pc [.ref (ad G c0), .int x1, .ref (ad G c2)] (Wd G M)) (QV G M') 0 0 (zA G) := by
  refine zMet (by decide) rfl (Nat.le_of_ble_eq_true rfl) ?_
  intro p e s m below meth c hC hw ls hl
  have hl : lv_has ls 6 [(0, .ref (ad G c0)), (1, .int x1), (2, .ref (ad G c2))] := hl
  unfold F_X2_foreseeVoters at hF
  refine lv_iconst (v := (0 : Int32)) hC.1 hC.2.1 dX2_foreseeVoters_0 (by decide) ?_
  refine lv_istore_n (lv' := [(3, .int (0 : Int32)), (0, .ref (ad G c0)), (1, .int x1), (2, .ref (ad G c2))]) hC.1 hC.2.1 dX2_foreseeVoters_1 rfl hl (by decide) rfl (fun ls hl => ?_)
  exact w_X2_foreseeVoters_2 hC _ hk0 hk2 hF hw (lv_sub hl [1, 2, 3, 0] rfl)
abbrev rm_X2_foreseeLiving : Room := { frames := 4, cells := 0, slots := 0, locals := 101 }
theorem yv_X2_foreseeLiving : YV yX2_foreseeLiving cX2_foreseeLiving 2 none 1 RX2 := ⟨⟨q3_4, q3_5, q1_2, q3_6⟩, by decide +kernel⟩
theorem dX2_foreseeLiving_0 : decode cX2_foreseeLiving 0 = .ok (.aload_n 0, 1) := by decide +kernel
theorem dX2_foreseeLiving_1 : decode cX2_foreseeLiving 1 = .ok (.iconst 1, 1) := by decide +kernel
theorem dX2_foreseeLiving_2 : decode cX2_foreseeLiving 2 = .ok (.aload_n 1, 1) := by decide +kernel
theorem dX2_foreseeLiving_3 : decode cX2_foreseeLiving 3 = .ok (.invokevirtual 121, 3) := by decide +kernel
theorem dX2_foreseeLiving_6 : decode cX2_foreseeLiving 6 = .ok (.return_, 1) := by decide +kernel
def F_X2_foreseeLiving (fu : Nat) (M : Mm) (c0 : Nat) (c1 : Nat) : Option Mm :=
  ob1 (F_X2_foreseeVoters fu M c0 (1 : Int32) c1) (fun M2 =>
  some M2)
set_option maxRecDepth 100000 in
set_option maxHeartbeats 4000000 in
theorem c_X2_foreseeLiving {l : Launch} {G : Gv} {fu : Nat} {M : Mm} {c0 : Nat} {c1 : Nat} (hk0 : kd c0 = 11) (hk1 : kd c1 = 1) {M' : Mm} (hF : F_X2_foreseeLiving fu M c0 c1 = some M') : Met l yX2_foreseeLiving (.code yX2_foreseeLiving cX2_foreseeLiving 2 none :: zU) rm_X2_foreseeLiving (va_Pc [.ref (ad G c0), .ref (ad G c1)] (Wd G M)) (QV G M') 0 0 (zA G) := by
  refine zMet (by decide) rfl (Nat.le_of_ble_eq_true rfl) ?_
  intro p e s m below meth c hC hw ls hl
  have hl : lv_has ls 2 [(0, .ref (ad G c0)), (1, .ref (ad G c1))] := hl
  unfold F_X2_foreseeLiving at hF
  refine lv_aload_n hC.1 hC.2.1 dX2_foreseeLiving_0 rfl (lv_at hl 0 rfl) ?_
  refine lv_iconst (v := (1 : Int32)) hC.1 hC.2.1 dX2_foreseeLiving_1 (by decide) ?_
  refine lv_aload_n hC.1 hC.2.1 dX2_foreseeLiving_2 rfl (lv_at hl 1 rfl) ?_
  obtain ⟨M2, h1, hF⟩ := ob1S hF
  refine k_Vv (As := [.int (1 : Int32), .ref (ad G c1)]) (rest := []) hC hw (c_X2_foreseeVoters (M := M) hk0 hk1 h1) (RC_N hk0) yv_X2_foreseeVoters q3_7 ⟨rfl, rfl⟩ ⟨Nat.le_of_ble_eq_true rfl, Nat.le_of_ble_eq_true rfl⟩ ⟨Nat.zero_le _, Nat.zero_le _⟩ rfl rfl (Nat.le_of_ble_eq_true rfl) hl dX2_foreseeLiving_3 (fun H locs hw => ?_)
  exact r_vretE hC hw hF dX2_foreseeLiving_6
abbrev rm_X6_isIn : Room := { frames := 0, cells := 0, slots := 0, locals := 0 }
theorem ys_X6_isIn : YS yX6_isIn cX6_isIn 2 (some .boolean) 2 := ⟨⟨q2_49, q1_1, q2_50⟩, by decide +kernel⟩
theorem dX6_isIn_0 : decode cX6_isIn 0 = .ok (.iload_n 0, 1) := by decide +kernel
theorem dX6_isIn_1 : decode cX6_isIn 1 = .ok (.iload_n 1, 1) := by decide +kernel
theorem dX6_isIn_2 : decode cX6_isIn 2 = .ok (.ishr, 1) := by decide +kernel
theorem dX6_isIn_3 : decode cX6_isIn 3 = .ok (.iconst 1, 1) := by decide +kernel
theorem dX6_isIn_4 : decode cX6_isIn 4 = .ok (.iand, 1) := by decide +kernel
theorem dX6_isIn_5 : decode cX6_isIn 5 = .ok (.iconst 1, 1) := by decide +kernel
theorem dX6_isIn_6 : decode cX6_isIn 6 = .ok (.if_icmp .ne 7, 3) := by decide +kernel
theorem dX6_isIn_9 : decode cX6_isIn 9 = .ok (.iconst 1, 1) := by decide +kernel
theorem dX6_isIn_10 : decode cX6_isIn 10 = .ok (.goto 4, 3) := by decide +kernel
theorem dX6_isIn_13 : decode cX6_isIn 13 = .ok (.iconst 0, 1) := by decide +kernel
theorem dX6_isIn_14 : decode cX6_isIn 14 = .ok (.ireturn, 1) := by decide +kernel
def F_X6_isIn (fu : Nat) (M : Mm) (x0 : Int32) (x1 : Int32) : Option Int32 :=
  if ((x0 >>> (x1 &&& 31)) &&& (1 : Int32)) = (1 : Int32) then
    some (1 : Int32)
  else
    some (0 : Int32)
set_option maxRecDepth 100000 in
set_option maxHeartbeats 4000000 in
theorem c_X6_isIn {l : Launch} {G : Gv} {fu : Nat} {M : Mm} {x0 : Int32} {x1 : Int32} {r : Int32} (hF : F_X6_isIn fu M x0 x1 = some r) : Met l yX6_isIn (.code yX6_isIn cX6_isIn 2 (some .boolean) :: zU) rm_X6_isIn (va_Pc [.int x0, .int x1] (Wd G M)) (QI G r M) 0 0 (zA G) := by
  refine zMet (by decide) rfl (Nat.le_of_ble_eq_true rfl) ?_
  intro p e s m below meth c hC hw ls hl
  have hl : lv_has ls 2 [(0, .int x0), (1, .int x1)] := hl
  unfold F_X6_isIn at hF
  refine lv_iload_n hC.1 hC.2.1 dX6_isIn_0 rfl (lv_at hl 0 rfl) ?_
  refine lv_iload_n hC.1 hC.2.1 dX6_isIn_1 rfl (lv_at hl 1 rfl) ?_
  refine lv_ishr hC.1 hC.2.1 dX6_isIn_2 ?_
  refine lv_iconst (v := (1 : Int32)) hC.1 hC.2.1 dX6_isIn_3 (by decide) ?_
  refine lv_iand hC.1 hC.2.1 dX6_isIn_4 ?_
  refine lv_iconst (v := (1 : Int32)) hC.1 hC.2.1 dX6_isIn_5 (by decide) ?_
  refine lv_icmp_ne (tgt := 13) hC.1 hC.2.1 dX6_isIn_6 (by decide) (fun b1 => ?_) (fun b1 => ?_)
  · have hF := ifN hF b1
    refine lv_iconst (v := (0 : Int32)) hC.1 hC.2.1 dX6_isIn_13 (by decide) ?_
    exact r_zretP hC hw (by decide) hF dX6_isIn_14
  · have hF := ifP hF b1
    refine lv_iconst (v := (1 : Int32)) hC.1 hC.2.1 dX6_isIn_9 (by decide) ?_
    refine lv_goto (tgt := 14) hC.1 hC.2.1 dX6_isIn_10 (by decide) ?_
    exact r_zretP hC hw (by decide) hF dX6_isIn_14
abbrev rm_X2_votesOne : Room := { frames := 1, cells := 0, slots := 0, locals := 21 }
theorem yv_X2_votesOne : YV yX2_votesOne cX2_votesOne 5 (some .boolean) 3 RX2 := ⟨⟨q2_61, qs_4, q1_2, q2_62⟩, by decide +kernel⟩
theorem dX2_votesOne_0 : decode cX2_votesOne 0 = .ok (.aload_n 0, 1) := by decide +kernel
theorem dX2_votesOne_1 : decode cX2_votesOne 1 = .ok (.getfield 15, 3) := by decide +kernel
theorem dX2_votesOne_4 : decode cX2_votesOne 4 = .ok (.iload_n 1, 1) := by decide +kernel
theorem dX2_votesOne_5 : decode cX2_votesOne 5 = .ok (.invokestatic 81, 3) := by decide +kernel
theorem dX2_votesOne_8 : decode cX2_votesOne 8 = .ok (.istore 4, 2) := by decide +kernel
theorem dX2_votesOne_10 : decode cX2_votesOne 10 = .ok (.iload 4, 2) := by decide +kernel
theorem dX2_votesOne_12 : decode cX2_votesOne 12 = .ok (.iconst 3, 1) := by decide +kernel
theorem dX2_votesOne_13 : decode cX2_votesOne 13 = .ok (.if_icmp .ne 5, 3) := by decide +kernel
theorem dX2_votesOne_16 : decode cX2_votesOne 16 = .ok (.iconst 1, 1) := by decide +kernel
theorem dX2_votesOne_17 : decode cX2_votesOne 17 = .ok (.ireturn, 1) := by decide +kernel
theorem dX2_votesOne_18 : decode cX2_votesOne 18 = .ok (.iload 4, 2) := by decide +kernel
theorem dX2_votesOne_20 : decode cX2_votesOne 20 = .ok (.iconst 2, 1) := by decide +kernel
theorem dX2_votesOne_21 : decode cX2_votesOne 21 = .ok (.if_icmp .ne 25, 3) := by decide +kernel
theorem dX2_votesOne_24 : decode cX2_votesOne 24 = .ok (.iload_n 1, 1) := by decide +kernel
theorem dX2_votesOne_25 : decode cX2_votesOne 25 = .ok (.ifCond .le 21, 3) := by decide +kernel
theorem dX2_votesOne_28 : decode cX2_votesOne 28 = .ok (.iload_n 2, 1) := by decide +kernel
theorem dX2_votesOne_29 : decode cX2_votesOne 29 = .ok (.iload_n 1, 1) := by decide +kernel
theorem dX2_votesOne_30 : decode cX2_votesOne 30 = .ok (.iconst 1, 1) := by decide +kernel
theorem dX2_votesOne_31 : decode cX2_votesOne 31 = .ok (.isub, 1) := by decide +kernel
theorem dX2_votesOne_32 : decode cX2_votesOne 32 = .ok (.invokestatic 125, 3) := by decide +kernel
theorem dX2_votesOne_35 : decode cX2_votesOne 35 = .ok (.ifCond .eq 11, 3) := by decide +kernel
theorem dX2_votesOne_38 : decode cX2_votesOne 38 = .ok (.iload_n 3, 1) := by decide +kernel
theorem dX2_votesOne_39 : decode cX2_votesOne 39 = .ok (.iload_n 1, 1) := by decide +kernel
theorem dX2_votesOne_40 : decode cX2_votesOne 40 = .ok (.iconst 1, 1) := by decide +kernel
theorem dX2_votesOne_41 : decode cX2_votesOne 41 = .ok (.isub, 1) := by decide +kernel
theorem dX2_votesOne_42 : decode cX2_votesOne 42 = .ok (.invokestatic 125, 3) := by decide +kernel
theorem dX2_votesOne_45 : decode cX2_votesOne 45 = .ok (.ireturn, 1) := by decide +kernel
theorem dX2_votesOne_46 : decode cX2_votesOne 46 = .ok (.aload_n 0, 1) := by decide +kernel
theorem dX2_votesOne_47 : decode cX2_votesOne 47 = .ok (.getfield 18, 3) := by decide +kernel
theorem dX2_votesOne_50 : decode cX2_votesOne 50 = .ok (.iload_n 1, 1) := by decide +kernel
theorem dX2_votesOne_51 : decode cX2_votesOne 51 = .ok (.invokestatic 81, 3) := by decide +kernel
theorem dX2_votesOne_54 : decode cX2_votesOne 54 = .ok (.iconst 1, 1) := by decide +kernel
theorem dX2_votesOne_55 : decode cX2_votesOne 55 = .ok (.if_icmp .ne 7, 3) := by decide +kernel
theorem dX2_votesOne_58 : decode cX2_votesOne 58 = .ok (.iconst 1, 1) := by decide +kernel
theorem dX2_votesOne_59 : decode cX2_votesOne 59 = .ok (.goto 4, 3) := by decide +kernel
theorem dX2_votesOne_62 : decode cX2_votesOne 62 = .ok (.iconst 0, 1) := by decide +kernel
theorem dX2_votesOne_63 : decode cX2_votesOne 63 = .ok (.ireturn, 1) := by decide +kernel
def F_X2_votesOne_46 (fu : Nat) (M : Mm) (c0 : Nat) (x1 : Int32) : Option Int32 :=
  ob1 (F_X6_read fu M (c0 + 3) x1) (fun r2 =>
  if r2 = (1 : Int32) then
    some (1 : Int32)
  else
    some (0 : Int32))
set_option maxRecDepth 100000 in
set_option maxHeartbeats 4000000 in
theorem w_X2_votesOne_46 {p : Program} {l : Launch} {e : Env} {s : State} {m : MethodId} {args : Array Value} {below : List Frame} {meth : Method} {c : Code} {G : Gv} (hC : Cx p s m args meth c cX2_votesOne 5 (some .boolean) RX2) {fu : Nat} {r : Int32} {M : Mm} {c0 : Nat} {x1 : Int32} {H : Heap} {locs : List Loc} {ls : Array Slot} (hk0 : kd c0 = 11) (hF : F_X2_votesOne_46 fu M c0 x1 = some r) (hw : St G s H locs M) (hl : lv_has ls 5 [(0, .ref (ad G c0)), (1, .int x1)]) : W p l e rm_X2_votesOne s m args below meth c H locs 0 0 (MQ below (QI G r M) args s 0 0 (zA G)) (F0 m 46 ls []) := by
  unfold F_X2_votesOne_46 at hF
  refine lv_aload_n hC.1 hC.2.1 dX2_votesOne_46 rfl (lv_at hl 0 rfl) ?_
  refine g2_voteOf hC hw hk0 q1_39 dX2_votesOne_47 ?_
  refine lv_iload_n hC.1 hC.2.1 dX2_votesOne_50 rfl (lv_at hl 1 rfl) ?_
  obtain ⟨r2, h1, hF⟩ := ob1S hF
  refine k_Ni (As := [.ref (ad G (c0 + 3)), .int x1]) (rest := []) hC hw (c_X6_read (M := M) (kdN3 hk0) h1) ys_X6_read (k := 6) rfl ⟨rfl, rfl⟩ ⟨Nat.le_of_ble_eq_true rfl, Nat.le_of_ble_eq_true rfl⟩ ⟨Nat.zero_le _, Nat.zero_le _⟩ rfl rfl (Nat.le_of_ble_eq_true rfl) hl dX2_votesOne_51 (fun H locs hw => ?_)
  refine lv_iconst (v := (1 : Int32)) hC.1 hC.2.1 dX2_votesOne_54 (by decide) ?_
  refine lv_icmp_ne (tgt := 62) hC.1 hC.2.1 dX2_votesOne_55 (by decide) (fun b3 => ?_) (fun b3 => ?_)
  · have hF := ifN hF b3
    refine lv_iconst (v := (0 : Int32)) hC.1 hC.2.1 dX2_votesOne_62 (by decide) ?_
    exact r_zretP hC hw (by decide) hF dX2_votesOne_63
  · have hF := ifP hF b3
    refine lv_iconst (v := (1 : Int32)) hC.1 hC.2.1 dX2_votesOne_58 (by decide) ?_
    refine lv_goto (tgt := 63) hC.1 hC.2.1 dX2_votesOne_59 (by decide) ?_
    exact r_zretP hC hw (by decide) hF dX2_votesOne_63
def F_X2_votesOne (fu : Nat) (M : Mm) (c0 : Nat) (x1 : Int32) (x2 : Int32) (x3 : Int32) : Option Int32 :=
  ob1 (F_X6_read fu M (c0 + 2) x1) (fun r2 =>
  if r2 = (3 : Int32) then
    some (1 : Int32)
  else
    if r2 = (2 : Int32) then
      if x1 ≤ 0 then
        F_X2_votesOne_46 fu M c0 x1
      else
        ob1 (F_X6_isIn fu M x2 (x1 - (1 : Int32))) (fun r7 =>
        if r7 = 0 then
          F_X2_votesOne_46 fu M c0 x1
        else
          ob1 (F_X6_isIn fu M x3 (x1 - (1 : Int32))) (fun r10 =>
          if ¬ (r10 = 0 ∨ r10 = 1) then none else (
          some r10)))
    else
      F_X2_votesOne_46 fu M c0 x1)
set_option maxRecDepth 100000 in
set_option maxHeartbeats 4000000 in
theorem c_X2_votesOne {l : Launch} {G : Gv} {fu : Nat} {M : Mm} {c0 : Nat} {x1 : Int32} {x2 : Int32} {x3 : Int32} (hk0 : kd c0 = 11) {r : Int32} (hF : F_X2_votesOne fu M c0 x1 x2 x3 = some r) : Met l yX2_votesOne (.code yX2_votesOne cX2_votesOne 5 (some .boolean) :: zU) rm_X2_votesOne (va_Pc [.ref (ad G c0), .int x1, .int x2, .int x3] (Wd G M)) (QI G r M) 0 0 (zA G) := by
  refine zMet (by decide) rfl (Nat.le_of_ble_eq_true rfl) ?_
  intro p e s m below meth c hC hw ls hl
  have hl : lv_has ls 5 [(0, .ref (ad G c0)), (1, .int x1), (2, .int x2), (3, .int x3)] := hl
  unfold F_X2_votesOne at hF
  refine lv_aload_n hC.1 hC.2.1 dX2_votesOne_0 rfl (lv_at hl 0 rfl) ?_
  refine g2_kindOf hC hw hk0 q1_37 dX2_votesOne_1 ?_
  refine lv_iload_n hC.1 hC.2.1 dX2_votesOne_4 rfl (lv_at hl 1 rfl) ?_
  obtain ⟨r2, h1, hF⟩ := ob1S hF
  refine k_Ni (As := [.ref (ad G (c0 + 2)), .int x1]) (rest := []) hC hw (c_X6_read (M := M) (kdN2 hk0) h1) ys_X6_read (k := 6) rfl ⟨rfl, rfl⟩ ⟨Nat.le_of_ble_eq_true rfl, Nat.le_of_ble_eq_true rfl⟩ ⟨Nat.zero_le _, Nat.zero_le _⟩ rfl rfl (Nat.le_of_ble_eq_true rfl) hl dX2_votesOne_5 (fun H locs hw => ?_)
  refine lv_istore (lv' := [(4, .int r2), (0, .ref (ad G c0)), (1, .int x1), (2, .int x2), (3, .int x3)]) hC.1 hC.2.1 dX2_votesOne_8 hl (by decide) rfl (fun ls hl => ?_)
  refine lv_iload hC.1 hC.2.1 dX2_votesOne_10 (lv_at hl 0 rfl) ?_
  refine lv_iconst (v := (3 : Int32)) hC.1 hC.2.1 dX2_votesOne_12 (by decide) ?_
  refine lv_icmp_ne (tgt := 18) hC.1 hC.2.1 dX2_votesOne_13 (by decide) (fun b3 => ?_) (fun b3 => ?_)
  · have hF := ifN hF b3
    refine lv_iload hC.1 hC.2.1 dX2_votesOne_18 (lv_at hl 0 rfl) ?_
    refine lv_iconst (v := (2 : Int32)) hC.1 hC.2.1 dX2_votesOne_20 (by decide) ?_
    refine lv_icmp_ne (tgt := 46) hC.1 hC.2.1 dX2_votesOne_21 (by decide) (fun b4 => ?_) (fun b4 => ?_)
    · have hF := ifN hF b4
      exact w_X2_votesOne_46 hC hk0 hF hw (lv_sub hl [1, 2] rfl)
    · have hF := ifP hF b4
      refine lv_iload_n hC.1 hC.2.1 dX2_votesOne_24 rfl (lv_at hl 2 rfl) ?_
      refine lv_if_le (tgt := 46) hC.1 hC.2.1 dX2_votesOne_25 (by decide) (fun b5 => ?_) (fun b5 => ?_)
      · have hF := ifP hF b5
        exact w_X2_votesOne_46 hC hk0 hF hw (lv_sub hl [1, 2] rfl)
      · have hF := ifN hF b5
        refine lv_iload_n hC.1 hC.2.1 dX2_votesOne_28 rfl (lv_at hl 3 rfl) ?_
        refine lv_iload_n hC.1 hC.2.1 dX2_votesOne_29 rfl (lv_at hl 2 rfl) ?_
        refine lv_iconst (v := (1 : Int32)) hC.1 hC.2.1 dX2_votesOne_30 (by decide) ?_
        refine lv_isub hC.1 hC.2.1 dX2_votesOne_31 ?_
        obtain ⟨r7, h6, hF⟩ := ob1S hF
        refine k_Ni (As := [.int x2, .int (x1 - (1 : Int32))]) (rest := []) hC hw (c_X6_isIn (M := M) h6) ys_X6_isIn (k := 7) rfl ⟨rfl, rfl⟩ ⟨Nat.le_of_ble_eq_true rfl, Nat.le_of_ble_eq_true rfl⟩ ⟨Nat.zero_le _, Nat.zero_le _⟩ rfl rfl (Nat.le_of_ble_eq_true rfl) hl dX2_votesOne_32 (fun H locs hw => ?_)
        refine lv_if_eq (tgt := 46) hC.1 hC.2.1 dX2_votesOne_35 (by decide) (fun b8 => ?_) (fun b8 => ?_)
        · have hF := ifP hF b8
          exact w_X2_votesOne_46 hC hk0 hF hw (lv_sub hl [1, 2] rfl)
        · have hF := ifN hF b8
          refine lv_iload_n hC.1 hC.2.1 dX2_votesOne_38 rfl (lv_at hl 4 rfl) ?_
          refine lv_iload_n hC.1 hC.2.1 dX2_votesOne_39 rfl (lv_at hl 2 rfl) ?_
          refine lv_iconst (v := (1 : Int32)) hC.1 hC.2.1 dX2_votesOne_40 (by decide) ?_
          refine lv_isub hC.1 hC.2.1 dX2_votesOne_41 ?_
          obtain ⟨r10, h9, hF⟩ := ob1S hF
          refine k_Ni (As := [.int x3, .int (x1 - (1 : Int32))]) (rest := []) hC hw (c_X6_isIn (M := M) h9) ys_X6_isIn (k := 7) rfl ⟨rfl, rfl⟩ ⟨Nat.le_of_ble_eq_true rfl, Nat.le_of_ble_eq_true rfl⟩ ⟨Nat.zero_le _, Nat.zero_le _⟩ rfl rfl (Nat.le_of_ble_eq_true rfl) hl dX2_votesOne_42 (fun H locs hw => ?_)
          obtain ⟨z11, hF⟩ := ifO hF
          exact r_zretP hC hw (Decidable.not_not.mp z11) hF dX2_votesOne_45
  · have hF := ifP hF b3
    refine lv_iconst (v := (1 : Int32)) hC.1 hC.2.1 dX2_votesOne_16 (by decide) ?_
    exact r_zretP hC hw (by decide) hF dX2_votesOne_17
abbrev rm_X2_onesAmong : Room := { frames := 2, cells := 0, slots := 0, locals := 45 }
theorem yv_X2_onesAmong : YV yX2_onesAmong cX2_onesAmong 4 (some .int) 1 RX2 := ⟨⟨q2_56, q2_57, q1_2, q2_58⟩, by decide +kernel⟩
theorem dX2_onesAmong_0 : decode cX2_onesAmong 0 = .ok (.iconst 0, 1) := by decide +kernel
theorem dX2_onesAmong_1 : decode cX2_onesAmong 1 = .ok (.istore_n 2, 1) := by decide +kernel
theorem dX2_onesAmong_2 : decode cX2_onesAmong 2 = .ok (.iconst 0, 1) := by decide +kernel
theorem dX2_onesAmong_3 : decode cX2_onesAmong 3 = .ok (.istore_n 3, 1) := by decide +kernel
theorem dX2_onesAmong_4 : decode cX2_onesAmong 4 = .ok (.iload_n 3, 1) := by decide +kernel
theorem dX2_onesAmong_5 : decode cX2_onesAmong 5 = .ok (.aload_n 0, 1) := by decide +kernel
theorem dX2_onesAmong_6 : decode cX2_onesAmong 6 = .ok (.getfield 48, 3) := by decide +kernel
theorem dX2_onesAmong_9 : decode cX2_onesAmong 9 = .ok (.if_icmp .ge 33, 3) := by decide +kernel
theorem dX2_onesAmong_12 : decode cX2_onesAmong 12 = .ok (.iload_n 1, 1) := by decide +kernel
theorem dX2_onesAmong_13 : decode cX2_onesAmong 13 = .ok (.iload_n 3, 1) := by decide +kernel
theorem dX2_onesAmong_14 : decode cX2_onesAmong 14 = .ok (.invokestatic 125, 3) := by decide +kernel
theorem dX2_onesAmong_17 : decode cX2_onesAmong 17 = .ok (.ifCond .eq 19, 3) := by decide +kernel
theorem dX2_onesAmong_20 : decode cX2_onesAmong 20 = .ok (.aload_n 0, 1) := by decide +kernel
theorem dX2_onesAmong_21 : decode cX2_onesAmong 21 = .ok (.iload_n 3, 1) := by decide +kernel
theorem dX2_onesAmong_22 : decode cX2_onesAmong 22 = .ok (.iload_n 1, 1) := by decide +kernel
theorem dX2_onesAmong_23 : decode cX2_onesAmong 23 = .ok (.iload_n 2, 1) := by decide +kernel
theorem dX2_onesAmong_24 : decode cX2_onesAmong 24 = .ok (.invokevirtual 129, 3) := by decide +kernel
theorem dX2_onesAmong_27 : decode cX2_onesAmong 27 = .ok (.ifCond .eq 9, 3) := by decide +kernel
theorem dX2_onesAmong_30 : decode cX2_onesAmong 30 = .ok (.iload_n 2, 1) := by decide +kernel
theorem dX2_onesAmong_31 : decode cX2_onesAmong 31 = .ok (.iconst 1, 1) := by decide +kernel
theorem dX2_onesAmong_32 : decode cX2_onesAmong 32 = .ok (.iload_n 3, 1) := by decide +kernel
theorem dX2_onesAmong_33 : decode cX2_onesAmong 33 = .ok (.ishl, 1) := by decide +kernel
theorem dX2_onesAmong_34 : decode cX2_onesAmong 34 = .ok (.ior, 1) := by decide +kernel
theorem dX2_onesAmong_35 : decode cX2_onesAmong 35 = .ok (.istore_n 2, 1) := by decide +kernel
theorem dX2_onesAmong_36 : decode cX2_onesAmong 36 = .ok (.iinc 3 1, 3) := by decide +kernel
theorem dX2_onesAmong_39 : decode cX2_onesAmong 39 = .ok (.goto (-35), 3) := by decide +kernel
theorem dX2_onesAmong_42 : decode cX2_onesAmong 42 = .ok (.iload_n 2, 1) := by decide +kernel
theorem dX2_onesAmong_43 : decode cX2_onesAmong 43 = .ok (.ireturn, 1) := by decide +kernel
def F_X2_onesAmong_4 (fu : Nat) (M : Mm) : Nat → Nat → Int32 → Int32 → Int32 → Option Int32
  | 0, _, _, _, _ => none
  | n + 1, c0, x1, x2, x3 =>
    if (M.1 c0 0) ≤ x3 then
      some x2
    else
      ob1 (F_X6_isIn fu M x1 x3) (fun r3 =>
      if r3 = 0 then
        F_X2_onesAmong_4 fu M n c0 x1 x2 (x3 + (1 : Int32))
      else
        ob1 (F_X2_votesOne fu M c0 x3 x1 x2) (fun r6 =>
        if r6 = 0 then
          F_X2_onesAmong_4 fu M n c0 x1 x2 (x3 + (1 : Int32))
        else
          F_X2_onesAmong_4 fu M n c0 x1 (x2 ||| ((1 : Int32) <<< (x3 &&& 31))) (x3 + (1 : Int32))))
set_option maxRecDepth 100000 in
set_option maxHeartbeats 4000000 in
theorem w_X2_onesAmong_4 {p : Program} {l : Launch} {e : Env} {s : State} {m : MethodId} {args : Array Value} {below : List Frame} {meth : Method} {c : Code} {G : Gv} (hC : Cx p s m args meth c cX2_onesAmong 4 (some .int) RX2) {fu : Nat} {r : Int32} {M : Mm} : ∀ (n : Nat) {c0 : Nat} {x1 : Int32} {x2 : Int32} {x3 : Int32} {H : Heap} {locs : List Loc} {ls : Array Slot} (hk0 : kd c0 = 11), F_X2_onesAmong_4 fu M n c0 x1 x2 x3 = some r → St G s H locs M → lv_has ls 4 [(0, .ref (ad G c0)), (1, .int x1), (2, .int x2), (3, .int x3)] → W p l e rm_X2_onesAmong s m args below meth c H locs 0 0 (MQ below (QI G r M) args s 0 0 (zA G)) (F0 m 4 ls []) := by
  intro n
  induction n with
  | zero =>
    intro c0 x1 x2 x3 H locs ls hk0 hF hw hl
    cases hF
  | succ n ih =>
    intro c0 x1 x2 x3 H locs ls hk0 hF hw hl
    unfold F_X2_onesAmong_4 at hF
    refine lv_iload_n hC.1 hC.2.1 dX2_onesAmong_4 rfl (lv_at hl 3 rfl) ?_
    refine lv_aload_n hC.1 hC.2.1 dX2_onesAmong_5 rfl (lv_at hl 0 rfl) ?_
    refine g2_men hC hw hk0 q1_28 dX2_onesAmong_6 ?_
    refine lv_icmp_ge (tgt := 42) hC.1 hC.2.1 dX2_onesAmong_9 (by decide) (fun b1 => ?_) (fun b1 => ?_)
    · have hF := ifP hF b1
      refine lv_iload_n hC.1 hC.2.1 dX2_onesAmong_42 rfl (lv_at hl 2 rfl) ?_
      exact r_iretP hC hw hF dX2_onesAmong_43
    · have hF := ifN hF b1
      refine lv_iload_n hC.1 hC.2.1 dX2_onesAmong_12 rfl (lv_at hl 1 rfl) ?_
      refine lv_iload_n hC.1 hC.2.1 dX2_onesAmong_13 rfl (lv_at hl 3 rfl) ?_
      obtain ⟨r3, h2, hF⟩ := ob1S hF
      refine k_Ni (As := [.int x1, .int x3]) (rest := []) hC hw (c_X6_isIn (M := M) h2) ys_X6_isIn (k := 7) rfl ⟨rfl, rfl⟩ ⟨Nat.le_of_ble_eq_true rfl, Nat.le_of_ble_eq_true rfl⟩ ⟨Nat.zero_le _, Nat.zero_le _⟩ rfl rfl (Nat.le_of_ble_eq_true rfl) hl dX2_onesAmong_14 (fun H locs hw => ?_)
      refine lv_if_eq (tgt := 36) hC.1 hC.2.1 dX2_onesAmong_17 (by decide) (fun b4 => ?_) (fun b4 => ?_)
      · have hF := ifP hF b4
        refine lv_iinc (v := (x3 + (1 : Int32))) (lv' := [(3, .int (x3 + (1 : Int32))), (0, .ref (ad G c0)), (1, .int x1), (2, .int x2)]) hC.1 hC.2.1 dX2_onesAmong_36 hl (k := 3) rfl rfl (by decide) rfl (fun ls hl => ?_)
        refine lv_goto (tgt := 4) hC.1 hC.2.1 dX2_onesAmong_39 (by decide) ?_
        exact ih hk0 hF hw (lv_sub hl [1, 2, 3, 0] rfl)
      · have hF := ifN hF b4
        refine lv_aload_n hC.1 hC.2.1 dX2_onesAmong_20 rfl (lv_at hl 0 rfl) ?_
        refine lv_iload_n hC.1 hC.2.1 dX2_onesAmong_21 rfl (lv_at hl 3 rfl) ?_
        refine lv_iload_n hC.1 hC.2.1 dX2_onesAmong_22 rfl (lv_at hl 1 rfl) ?_
        refine lv_iload_n hC.1 hC.2.1 dX2_onesAmong_23 rfl (lv_at hl 2 rfl) ?_
        obtain ⟨r6, h5, hF⟩ := ob1S hF
        refine k_Vi (As := [.int x3, .int x1, .int x2]) (rest := []) hC hw (c_X2_votesOne (M := M) hk0 h5) (RC_N hk0) yv_X2_votesOne q2_59 ⟨rfl, rfl⟩ ⟨Nat.le_of_ble_eq_true rfl, Nat.le_of_ble_eq_true rfl⟩ ⟨Nat.zero_le _, Nat.zero_le _⟩ rfl rfl (Nat.le_of_ble_eq_true rfl) hl dX2_onesAmong_24 (fun H locs hw => ?_)
        refine lv_if_eq (tgt := 36) hC.1 hC.2.1 dX2_onesAmong_27 (by decide) (fun b7 => ?_) (fun b7 => ?_)
        · have hF := ifP hF b7
          refine lv_iinc (v := (x3 + (1 : Int32))) (lv' := [(3, .int (x3 + (1 : Int32))), (0, .ref (ad G c0)), (1, .int x1), (2, .int x2)]) hC.1 hC.2.1 dX2_onesAmong_36 hl (k := 3) rfl rfl (by decide) rfl (fun ls hl => ?_)
          refine lv_goto (tgt := 4) hC.1 hC.2.1 dX2_onesAmong_39 (by decide) ?_
          exact ih hk0 hF hw (lv_sub hl [1, 2, 3, 0] rfl)
        · have hF := ifN hF b7
          refine lv_iload_n hC.1 hC.2.1 dX2_onesAmong_30 rfl (lv_at hl 2 rfl) ?_
          refine lv_iconst (v := (1 : Int32)) hC.1 hC.2.1 dX2_onesAmong_31 (by decide) ?_
          refine lv_iload_n hC.1 hC.2.1 dX2_onesAmong_32 rfl (lv_at hl 3 rfl) ?_
          refine lv_ishl hC.1 hC.2.1 dX2_onesAmong_33 ?_
          refine lv_ior hC.1 hC.2.1 dX2_onesAmong_34 ?_
          refine lv_istore_n (lv' := [(2, .int (x2 ||| ((1 : Int32) <<< (x3 &&& 31)))), (0, .ref (ad G c0)), (1, .int x1), (3, .int x3)]) hC.1 hC.2.1 dX2_onesAmong_35 rfl hl (by decide) rfl (fun ls hl => ?_)
          refine lv_iinc (v := (x3 + (1 : Int32))) (lv' := [(3, .int (x3 + (1 : Int32))), (2, .int (x2 ||| ((1 : Int32) <<< (x3 &&& 31)))), (0, .ref (ad G c0)), (1, .int x1)]) hC.1 hC.2.1 dX2_onesAmong_36 hl (k := 3) rfl rfl (by decide) rfl (fun ls hl => ?_)
          refine lv_goto (tgt := 4) hC.1 hC.2.1 dX2_onesAmong_39 (by decide) ?_
          exact ih hk0 hF hw (lv_sub hl [2, 3, 1, 0] rfl)
def F_X2_onesAmong (fu : Nat) (M : Mm) (c0 : Nat) (x1 : Int32) : Option Int32 :=
  F_X2_onesAmong_4 fu M fu c0 x1 (0 : Int32) (0 : Int32)
set_option maxRecDepth 100000 in
set_option maxHeartbeats 4000000 in
theorem c_X2_onesAmong {l : Launch} {G : Gv} {fu : Nat} {M : Mm} {c0 : Nat} {x1 : Int32} (hk0 : kd c0 = 11) {r : Int32} (hF : F_X2_onesAmong fu M c0 x1 = some r) : Met l yX2_onesAmong (.code yX2_onesAmong cX2_onesAmong 4 (some .int) :: zU) rm_X2_onesAmong (va_Pc [.ref (ad G c0), .int x1] (Wd G M)) (QI G r M) 0 0 (zA G) := by
  refine zMet (by decide) rfl (Nat.le_of_ble_eq_true rfl) ?_
  intro p e s m below meth c hC hw ls hl
  have hl : lv_has ls 4 [(0, .ref (ad G c0)), (1, .int x1)] := hl
  unfold F_X2_onesAmong at hF
  refine lv_iconst (v := (0 : Int32)) hC.1 hC.2.1 dX2_onesAmong_0 (by decide) ?_
  refine lv_istore_n (lv' := [(2, .int (0 : Int32)), (0, .ref (ad G c0)), (1, .int x1)]) hC.1 hC.2.1 dX2_onesAmong_1 rfl hl (by decide) rfl (fun ls hl => ?_)
  refine lv_iconst (v := (0 : Int32)) hC.1 hC.2.1 dX2_onesAmong_2 (by decide) ?_
  refine lv_istore_n (lv' := [(3, .int (0 : Int32)), (2, .int (0 : Int32)), (0, .ref (ad G c0)), (1, .int x1)]) hC.1 hC.2.1 dX2_onesAmong_3 rfl hl (by decide) rfl (fun ls hl => ?_)
  exact w_X2_onesAmong_4 hC _ hk0 hF hw (lv_sub hl [2, 3, 1, 0] rfl)
abbrev rm_J6_bitCount_0f7a4 : Room := { frames := 0, cells := 0, slots := 0, locals := 0 }
theorem ys_J6_bitCount_0f7a4 : YS yJ6_bitCount_0f7a4 cJ6_bitCount_0f7a4 1 (some .int) 1 := ⟨⟨q2_99, q1_9, q2_100⟩, by decide +kernel⟩
theorem dJ6_bitCount_0f7a4_0 : decode cJ6_bitCount_0f7a4 0 = .ok (.iload_n 0, 1) := by decide +kernel
theorem dJ6_bitCount_0f7a4_1 : decode cJ6_bitCount_0f7a4 1 = .ok (.iload_n 0, 1) := by decide +kernel
theorem dJ6_bitCount_0f7a4_2 : decode cJ6_bitCount_0f7a4 2 = .ok (.iconst 1, 1) := by decide +kernel
theorem dJ6_bitCount_0f7a4_3 : decode cJ6_bitCount_0f7a4 3 = .ok (.iushr, 1) := by decide +kernel
theorem dJ6_bitCount_0f7a4_4 : decode cJ6_bitCount_0f7a4 4 = .ok (.ldc_w 265, 3) := by decide +kernel
theorem dJ6_bitCount_0f7a4_7 : decode cJ6_bitCount_0f7a4 7 = .ok (.iand, 1) := by decide +kernel
theorem dJ6_bitCount_0f7a4_8 : decode cJ6_bitCount_0f7a4 8 = .ok (.isub, 1) := by decide +kernel
theorem dJ6_bitCount_0f7a4_9 : decode cJ6_bitCount_0f7a4 9 = .ok (.istore_n 0, 1) := by decide +kernel
theorem dJ6_bitCount_0f7a4_10 : decode cJ6_bitCount_0f7a4 10 = .ok (.iload_n 0, 1) := by decide +kernel
theorem dJ6_bitCount_0f7a4_11 : decode cJ6_bitCount_0f7a4 11 = .ok (.ldc_w 266, 3) := by decide +kernel
theorem dJ6_bitCount_0f7a4_14 : decode cJ6_bitCount_0f7a4 14 = .ok (.iand, 1) := by decide +kernel
theorem dJ6_bitCount_0f7a4_15 : decode cJ6_bitCount_0f7a4 15 = .ok (.iload_n 0, 1) := by decide +kernel
theorem dJ6_bitCount_0f7a4_16 : decode cJ6_bitCount_0f7a4 16 = .ok (.iconst 2, 1) := by decide +kernel
theorem dJ6_bitCount_0f7a4_17 : decode cJ6_bitCount_0f7a4 17 = .ok (.iushr, 1) := by decide +kernel
theorem dJ6_bitCount_0f7a4_18 : decode cJ6_bitCount_0f7a4 18 = .ok (.ldc_w 266, 3) := by decide +kernel
theorem dJ6_bitCount_0f7a4_21 : decode cJ6_bitCount_0f7a4 21 = .ok (.iand, 1) := by decide +kernel
theorem dJ6_bitCount_0f7a4_22 : decode cJ6_bitCount_0f7a4 22 = .ok (.iadd, 1) := by decide +kernel
theorem dJ6_bitCount_0f7a4_23 : decode cJ6_bitCount_0f7a4 23 = .ok (.istore_n 0, 1) := by decide +kernel
theorem dJ6_bitCount_0f7a4_24 : decode cJ6_bitCount_0f7a4 24 = .ok (.iload_n 0, 1) := by decide +kernel
theorem dJ6_bitCount_0f7a4_25 : decode cJ6_bitCount_0f7a4 25 = .ok (.iload_n 0, 1) := by decide +kernel
theorem dJ6_bitCount_0f7a4_26 : decode cJ6_bitCount_0f7a4 26 = .ok (.iconst 4, 1) := by decide +kernel
theorem dJ6_bitCount_0f7a4_27 : decode cJ6_bitCount_0f7a4 27 = .ok (.iushr, 1) := by decide +kernel
theorem dJ6_bitCount_0f7a4_28 : decode cJ6_bitCount_0f7a4 28 = .ok (.iadd, 1) := by decide +kernel
theorem dJ6_bitCount_0f7a4_29 : decode cJ6_bitCount_0f7a4 29 = .ok (.ldc_w 267, 3) := by decide +kernel
theorem dJ6_bitCount_0f7a4_32 : decode cJ6_bitCount_0f7a4 32 = .ok (.iand, 1) := by decide +kernel
theorem dJ6_bitCount_0f7a4_33 : decode cJ6_bitCount_0f7a4 33 = .ok (.istore_n 0, 1) := by decide +kernel
theorem dJ6_bitCount_0f7a4_34 : decode cJ6_bitCount_0f7a4 34 = .ok (.iload_n 0, 1) := by decide +kernel
theorem dJ6_bitCount_0f7a4_35 : decode cJ6_bitCount_0f7a4 35 = .ok (.iload_n 0, 1) := by decide +kernel
theorem dJ6_bitCount_0f7a4_36 : decode cJ6_bitCount_0f7a4 36 = .ok (.bipush 8, 2) := by decide +kernel
theorem dJ6_bitCount_0f7a4_38 : decode cJ6_bitCount_0f7a4 38 = .ok (.iushr, 1) := by decide +kernel
theorem dJ6_bitCount_0f7a4_39 : decode cJ6_bitCount_0f7a4 39 = .ok (.iadd, 1) := by decide +kernel
theorem dJ6_bitCount_0f7a4_40 : decode cJ6_bitCount_0f7a4 40 = .ok (.istore_n 0, 1) := by decide +kernel
theorem dJ6_bitCount_0f7a4_41 : decode cJ6_bitCount_0f7a4 41 = .ok (.iload_n 0, 1) := by decide +kernel
theorem dJ6_bitCount_0f7a4_42 : decode cJ6_bitCount_0f7a4 42 = .ok (.iload_n 0, 1) := by decide +kernel
theorem dJ6_bitCount_0f7a4_43 : decode cJ6_bitCount_0f7a4 43 = .ok (.bipush 16, 2) := by decide +kernel
theorem dJ6_bitCount_0f7a4_45 : decode cJ6_bitCount_0f7a4 45 = .ok (.iushr, 1) := by decide +kernel
theorem dJ6_bitCount_0f7a4_46 : decode cJ6_bitCount_0f7a4 46 = .ok (.iadd, 1) := by decide +kernel
theorem dJ6_bitCount_0f7a4_47 : decode cJ6_bitCount_0f7a4 47 = .ok (.istore_n 0, 1) := by decide +kernel
theorem dJ6_bitCount_0f7a4_48 : decode cJ6_bitCount_0f7a4 48 = .ok (.iload_n 0, 1) := by decide +kernel
theorem dJ6_bitCount_0f7a4_49 : decode cJ6_bitCount_0f7a4 49 = .ok (.bipush 63, 2) := by decide +kernel
theorem dJ6_bitCount_0f7a4_51 : decode cJ6_bitCount_0f7a4 51 = .ok (.iand, 1) := by decide +kernel
theorem dJ6_bitCount_0f7a4_52 : decode cJ6_bitCount_0f7a4 52 = .ok (.ireturn, 1) := by decide +kernel
def F_J6_bitCount_0f7a4 (fu : Nat) (M : Mm) (x0 : Int32) : Option Int32 :=
  lt1 (x0 - ((x0.toUInt32 >>> ((1 : Int32).toUInt32 &&& Int32.toUInt32 31)).toInt32 &&& (1431655765 : Int32))) (fun y1 =>
  lt1 ((y1 &&& (858993459 : Int32)) + ((y1.toUInt32 >>> ((2 : Int32).toUInt32 &&& Int32.toUInt32 31)).toInt32 &&& (858993459 : Int32))) (fun y2 =>
  lt1 ((y2 + (y2.toUInt32 >>> ((4 : Int32).toUInt32 &&& Int32.toUInt32 31)).toInt32) &&& (252645135 : Int32)) (fun y3 =>
  lt1 (y3 + (y3.toUInt32 >>> ((8 : Int32).toUInt32 &&& Int32.toUInt32 31)).toInt32) (fun y4 =>
  lt1 (y4 + (y4.toUInt32 >>> ((16 : Int32).toUInt32 &&& Int32.toUInt32 31)).toInt32) (fun y5 =>
  some (y5 &&& (63 : Int32)))))))
set_option maxRecDepth 100000 in
set_option maxHeartbeats 4000000 in
theorem c_J6_bitCount_0f7a4 {l : Launch} {G : Gv} {fu : Nat} {M : Mm} {x0 : Int32} {r : Int32} (hF : F_J6_bitCount_0f7a4 fu M x0 = some r) : Met l yJ6_bitCount_0f7a4 (.code yJ6_bitCount_0f7a4 cJ6_bitCount_0f7a4 1 (some .int) :: zU) rm_J6_bitCount_0f7a4 (va_Pc [.int x0] (Wd G M)) (QI G r M) 0 0 (zA G) := by
  refine zMet (by decide) rfl (Nat.le_of_ble_eq_true rfl) ?_
  intro p e s m below meth c hC hw ls hl
  have hl : lv_has ls 1 [(0, .int x0)] := hl
  unfold F_J6_bitCount_0f7a4 at hF
  refine lv_iload_n hC.1 hC.2.1 dJ6_bitCount_0f7a4_0 rfl (lv_at hl 0 rfl) ?_
  refine lv_iload_n hC.1 hC.2.1 dJ6_bitCount_0f7a4_1 rfl (lv_at hl 0 rfl) ?_
  refine lv_iconst (v := (1 : Int32)) hC.1 hC.2.1 dJ6_bitCount_0f7a4_2 (by decide) ?_
  refine lv_iushr hC.1 hC.2.1 dJ6_bitCount_0f7a4_3 rfl ?_
  refine lv_ldcw (v := (1431655765 : Int32)) hC.1 hC.2.1 hC.2.2.2.1 (hC.2.2.2.2.1 _ q2_101) dJ6_bitCount_0f7a4_4 ?_
  refine lv_iand hC.1 hC.2.1 dJ6_bitCount_0f7a4_7 ?_
  refine lv_isub hC.1 hC.2.1 dJ6_bitCount_0f7a4_8 ?_
  refine lv_topi (fun y1 ey1 => ?_)
  have hF := lt1G hF ey1
  refine lv_istore_n (lv' := [(0, .int y1)]) hC.1 hC.2.1 dJ6_bitCount_0f7a4_9 rfl hl (by decide) rfl (fun ls hl => ?_)
  refine lv_iload_n hC.1 hC.2.1 dJ6_bitCount_0f7a4_10 rfl (lv_at hl 0 rfl) ?_
  refine lv_ldcw (v := (858993459 : Int32)) hC.1 hC.2.1 hC.2.2.2.1 (hC.2.2.2.2.1 _ q2_102) dJ6_bitCount_0f7a4_11 ?_
  refine lv_iand hC.1 hC.2.1 dJ6_bitCount_0f7a4_14 ?_
  refine lv_iload_n hC.1 hC.2.1 dJ6_bitCount_0f7a4_15 rfl (lv_at hl 0 rfl) ?_
  refine lv_iconst (v := (2 : Int32)) hC.1 hC.2.1 dJ6_bitCount_0f7a4_16 (by decide) ?_
  refine lv_iushr hC.1 hC.2.1 dJ6_bitCount_0f7a4_17 rfl ?_
  refine lv_ldcw (v := (858993459 : Int32)) hC.1 hC.2.1 hC.2.2.2.1 (hC.2.2.2.2.1 _ q2_102) dJ6_bitCount_0f7a4_18 ?_
  refine lv_iand hC.1 hC.2.1 dJ6_bitCount_0f7a4_21 ?_
  refine lv_iadd hC.1 hC.2.1 dJ6_bitCount_0f7a4_22 ?_
  refine lv_topi (fun y2 ey2 => ?_)
  have hF := lt1G hF ey2
  refine lv_istore_n (lv' := [(0, .int y2)]) hC.1 hC.2.1 dJ6_bitCount_0f7a4_23 rfl hl (by decide) rfl (fun ls hl => ?_)
  refine lv_iload_n hC.1 hC.2.1 dJ6_bitCount_0f7a4_24 rfl (lv_at hl 0 rfl) ?_
  refine lv_iload_n hC.1 hC.2.1 dJ6_bitCount_0f7a4_25 rfl (lv_at hl 0 rfl) ?_
  refine lv_iconst (v := (4 : Int32)) hC.1 hC.2.1 dJ6_bitCount_0f7a4_26 (by decide) ?_
  refine lv_iushr hC.1 hC.2.1 dJ6_bitCount_0f7a4_27 rfl ?_
  refine lv_iadd hC.1 hC.2.1 dJ6_bitCount_0f7a4_28 ?_
  refine lv_ldcw (v := (252645135 : Int32)) hC.1 hC.2.1 hC.2.2.2.1 (hC.2.2.2.2.1 _ q2_103) dJ6_bitCount_0f7a4_29 ?_
  refine lv_iand hC.1 hC.2.1 dJ6_bitCount_0f7a4_32 ?_
  refine lv_topi (fun y3 ey3 => ?_)
  have hF := lt1G hF ey3
  refine lv_istore_n (lv' := [(0, .int y3)]) hC.1 hC.2.1 dJ6_bitCount_0f7a4_33 rfl hl (by decide) rfl (fun ls hl => ?_)
  refine lv_iload_n hC.1 hC.2.1 dJ6_bitCount_0f7a4_34 rfl (lv_at hl 0 rfl) ?_
  refine lv_iload_n hC.1 hC.2.1 dJ6_bitCount_0f7a4_35 rfl (lv_at hl 0 rfl) ?_
  refine lv_bipush (v := (8 : Int32)) hC.1 hC.2.1 dJ6_bitCount_0f7a4_36 (by decide) ?_
  refine lv_iushr hC.1 hC.2.1 dJ6_bitCount_0f7a4_38 rfl ?_
  refine lv_iadd hC.1 hC.2.1 dJ6_bitCount_0f7a4_39 ?_
  refine lv_topi (fun y4 ey4 => ?_)
  have hF := lt1G hF ey4
  refine lv_istore_n (lv' := [(0, .int y4)]) hC.1 hC.2.1 dJ6_bitCount_0f7a4_40 rfl hl (by decide) rfl (fun ls hl => ?_)
  refine lv_iload_n hC.1 hC.2.1 dJ6_bitCount_0f7a4_41 rfl (lv_at hl 0 rfl) ?_
  refine lv_iload_n hC.1 hC.2.1 dJ6_bitCount_0f7a4_42 rfl (lv_at hl 0 rfl) ?_
  refine lv_bipush (v := (16 : Int32)) hC.1 hC.2.1 dJ6_bitCount_0f7a4_43 (by decide) ?_
  refine lv_iushr hC.1 hC.2.1 dJ6_bitCount_0f7a4_45 rfl ?_
  refine lv_iadd hC.1 hC.2.1 dJ6_bitCount_0f7a4_46 ?_
  refine lv_topi (fun y5 ey5 => ?_)
  have hF := lt1G hF ey5
  refine lv_istore_n (lv' := [(0, .int y5)]) hC.1 hC.2.1 dJ6_bitCount_0f7a4_47 rfl hl (by decide) rfl (fun ls hl => ?_)
  refine lv_iload_n hC.1 hC.2.1 dJ6_bitCount_0f7a4_48 rfl (lv_at hl 0 rfl) ?_
  refine lv_bipush (v := (63 : Int32)) hC.1 hC.2.1 dJ6_bitCount_0f7a4_49 (by decide) ?_
  refine lv_iand hC.1 hC.2.1 dJ6_bitCount_0f7a4_51 ?_
  exact r_iretP hC hw hF dJ6_bitCount_0f7a4_52
abbrev rm_X2_isCarriedBy : Room := { frames := 3, cells := 0, slots := 0, locals := 68 }
theorem yv_X2_isCarriedBy : YV yX2_isCarriedBy cX2_isCarriedBy 2 (some .boolean) 1 RX2 := ⟨⟨q2_229, q2_230, q1_2, q2_231⟩, by decide +kernel⟩
theorem dX2_isCarriedBy_0 : decode cX2_isCarriedBy 0 = .ok (.iconst 2, 1) := by decide +kernel
theorem dX2_isCarriedBy_1 : decode cX2_isCarriedBy 1 = .ok (.aload_n 0, 1) := by decide +kernel
theorem dX2_isCarriedBy_2 : decode cX2_isCarriedBy 2 = .ok (.iload_n 1, 1) := by decide +kernel
theorem dX2_isCarriedBy_3 : decode cX2_isCarriedBy 3 = .ok (.invokevirtual 132, 3) := by decide +kernel
theorem dX2_isCarriedBy_6 : decode cX2_isCarriedBy 6 = .ok (.invokestatic 135, 3) := by decide +kernel
theorem dX2_isCarriedBy_9 : decode cX2_isCarriedBy 9 = .ok (.imul, 1) := by decide +kernel
theorem dX2_isCarriedBy_10 : decode cX2_isCarriedBy 10 = .ok (.iload_n 1, 1) := by decide +kernel
theorem dX2_isCarriedBy_11 : decode cX2_isCarriedBy 11 = .ok (.invokestatic 135, 3) := by decide +kernel
theorem dX2_isCarriedBy_14 : decode cX2_isCarriedBy 14 = .ok (.if_icmp .le 7, 3) := by decide +kernel
theorem dX2_isCarriedBy_17 : decode cX2_isCarriedBy 17 = .ok (.iconst 1, 1) := by decide +kernel
theorem dX2_isCarriedBy_18 : decode cX2_isCarriedBy 18 = .ok (.goto 4, 3) := by decide +kernel
theorem dX2_isCarriedBy_21 : decode cX2_isCarriedBy 21 = .ok (.iconst 0, 1) := by decide +kernel
theorem dX2_isCarriedBy_22 : decode cX2_isCarriedBy 22 = .ok (.ireturn, 1) := by decide +kernel
def F_X2_isCarriedBy (fu : Nat) (M : Mm) (c0 : Nat) (x1 : Int32) : Option Int32 :=
  ob1 (F_X2_onesAmong fu M c0 x1) (fun r2 =>
  ob1 (F_J6_bitCount_0f7a4 fu M r2) (fun r4 =>
  ob1 (F_J6_bitCount_0f7a4 fu M x1) (fun r6 =>
  if ((2 : Int32) * r4) ≤ r6 then
    some (0 : Int32)
  else
    some (1 : Int32))))
set_option maxRecDepth 100000 in
set_option maxHeartbeats 4000000 in
theorem c_X2_isCarriedBy {l : Launch} {G : Gv} {fu : Nat} {M : Mm} {c0 : Nat} {x1 : Int32} (hk0 : kd c0 = 11) {r : Int32} (hF : F_X2_isCarriedBy fu M c0 x1 = some r) : Met l yX2_isCarriedBy (.code yX2_isCarriedBy cX2_isCarriedBy 2 (some .boolean) :: zU) rm_X2_isCarriedBy (va_Pc [.ref (ad G c0), .int x1] (Wd G M)) (QI G r M) 0 0 (zA G) := by
  refine zMet (by decide) rfl (Nat.le_of_ble_eq_true rfl) ?_
  intro p e s m below meth c hC hw ls hl
  have hl : lv_has ls 2 [(0, .ref (ad G c0)), (1, .int x1)] := hl
  unfold F_X2_isCarriedBy at hF
  refine lv_iconst (v := (2 : Int32)) hC.1 hC.2.1 dX2_isCarriedBy_0 (by decide) ?_
  refine lv_aload_n hC.1 hC.2.1 dX2_isCarriedBy_1 rfl (lv_at hl 0 rfl) ?_
  refine lv_iload_n hC.1 hC.2.1 dX2_isCarriedBy_2 rfl (lv_at hl 1 rfl) ?_
  obtain ⟨r2, h1, hF⟩ := ob1S hF
  refine k_Vi (As := [.int x1]) (rest := [.int (2 : Int32)]) hC hw (c_X2_onesAmong (M := M) hk0 h1) (RC_N hk0) yv_X2_onesAmong q2_55 ⟨rfl, rfl⟩ ⟨Nat.le_of_ble_eq_true rfl, Nat.le_of_ble_eq_true rfl⟩ ⟨Nat.zero_le _, Nat.zero_le _⟩ rfl rfl (Nat.le_of_ble_eq_true rfl) hl dX2_isCarriedBy_3 (fun H locs hw => ?_)
  obtain ⟨r4, h3, hF⟩ := ob1S hF
  refine k_Si (As := [.int r2]) (rest := [.int (2 : Int32)]) hC hw (c_J6_bitCount_0f7a4 (M := M) h3) ys_J6_bitCount_0f7a4 q2_232 ⟨rfl, rfl⟩ ⟨Nat.le_of_ble_eq_true rfl, Nat.le_of_ble_eq_true rfl⟩ ⟨Nat.zero_le _, Nat.zero_le _⟩ rfl rfl (Nat.le_of_ble_eq_true rfl) hl dX2_isCarriedBy_6 (fun H locs hw => ?_)
  refine lv_imul hC.1 hC.2.1 dX2_isCarriedBy_9 ?_
  refine lv_iload_n hC.1 hC.2.1 dX2_isCarriedBy_10 rfl (lv_at hl 1 rfl) ?_
  obtain ⟨r6, h5, hF⟩ := ob1S hF
  refine k_Si (As := [.int x1]) (rest := [.int ((2 : Int32) * r4)]) hC hw (c_J6_bitCount_0f7a4 (M := M) h5) ys_J6_bitCount_0f7a4 q2_232 ⟨rfl, rfl⟩ ⟨Nat.le_of_ble_eq_true rfl, Nat.le_of_ble_eq_true rfl⟩ ⟨Nat.zero_le _, Nat.zero_le _⟩ rfl rfl (Nat.le_of_ble_eq_true rfl) hl dX2_isCarriedBy_11 (fun H locs hw => ?_)
  refine lv_icmp_le (tgt := 21) hC.1 hC.2.1 dX2_isCarriedBy_14 (by decide) (fun b7 => ?_) (fun b7 => ?_)
  · have hF := ifP hF b7
    refine lv_iconst (v := (0 : Int32)) hC.1 hC.2.1 dX2_isCarriedBy_21 (by decide) ?_
    exact r_zretP hC hw (by decide) hF dX2_isCarriedBy_22
  · have hF := ifN hF b7
    refine lv_iconst (v := (1 : Int32)) hC.1 hC.2.1 dX2_isCarriedBy_17 (by decide) ?_
    refine lv_goto (tgt := 22) hC.1 hC.2.1 dX2_isCarriedBy_18 (by decide) ?_
    exact r_zretP hC hw (by decide) hF dX2_isCarriedBy_22
abbrev rm_X2_voteNow : Room := { frames := 3, cells := 0, slots := 0, locals := 68 }
theorem yv_X2_voteNow : YV yX2_voteNow cX2_voteNow 3 (some .int) 1 RX2 := ⟨⟨q2_53, qs_3, q1_2, q2_54⟩, by decide +kernel⟩
theorem dX2_voteNow_0 : decode cX2_voteNow 0 = .ok (.aload_n 0, 1) := by decide +kernel
theorem dX2_voteNow_1 : decode cX2_voteNow 1 = .ok (.aload_n 0, 1) := by decide +kernel
theorem dX2_voteNow_2 : decode cX2_voteNow 2 = .ok (.getfield 52, 3) := by decide +kernel
theorem dX2_voteNow_5 : decode cX2_voteNow 5 = .ok (.invokevirtual 110, 3) := by decide +kernel
theorem dX2_voteNow_8 : decode cX2_voteNow 8 = .ok (.istore_n 2, 1) := by decide +kernel
theorem dX2_voteNow_9 : decode cX2_voteNow 9 = .ok (.iload_n 2, 1) := by decide +kernel
theorem dX2_voteNow_10 : decode cX2_voteNow 10 = .ok (.iload_n 1, 1) := by decide +kernel
theorem dX2_voteNow_11 : decode cX2_voteNow 11 = .ok (.invokestatic 125, 3) := by decide +kernel
theorem dX2_voteNow_14 : decode cX2_voteNow 14 = .ok (.ifCond .ne 6, 3) := by decide +kernel
theorem dX2_voteNow_17 : decode cX2_voteNow 17 = .ok (.bipush (-9), 2) := by decide +kernel
theorem dX2_voteNow_19 : decode cX2_voteNow 19 = .ok (.ireturn, 1) := by decide +kernel
theorem dX2_voteNow_20 : decode cX2_voteNow 20 = .ok (.aload_n 0, 1) := by decide +kernel
theorem dX2_voteNow_21 : decode cX2_voteNow 21 = .ok (.iload_n 2, 1) := by decide +kernel
theorem dX2_voteNow_22 : decode cX2_voteNow 22 = .ok (.invokevirtual 132, 3) := by decide +kernel
theorem dX2_voteNow_25 : decode cX2_voteNow 25 = .ok (.iload_n 1, 1) := by decide +kernel
theorem dX2_voteNow_26 : decode cX2_voteNow 26 = .ok (.invokestatic 125, 3) := by decide +kernel
theorem dX2_voteNow_29 : decode cX2_voteNow 29 = .ok (.ifCond .eq 7, 3) := by decide +kernel
theorem dX2_voteNow_32 : decode cX2_voteNow 32 = .ok (.iconst 1, 1) := by decide +kernel
theorem dX2_voteNow_33 : decode cX2_voteNow 33 = .ok (.goto 4, 3) := by decide +kernel
theorem dX2_voteNow_36 : decode cX2_voteNow 36 = .ok (.iconst 0, 1) := by decide +kernel
theorem dX2_voteNow_37 : decode cX2_voteNow 37 = .ok (.ireturn, 1) := by decide +kernel
def F_X2_voteNow (fu : Nat) (M : Mm) (c0 : Nat) (x1 : Int32) : Option Int32 :=
  ob1 (F_X2_votersBy fu M c0 (M.1 c0 1)) (fun r2 =>
  ob1 (F_X6_isIn fu M r2 x1) (fun r4 =>
  if r4 = 0 then
    some (-9 : Int32)
  else
    ob1 (F_X2_onesAmong fu M c0 r2) (fun r7 =>
    ob1 (F_X6_isIn fu M r7 x1) (fun r9 =>
    if r9 = 0 then
      some (0 : Int32)
    else
      some (1 : Int32)))))
set_option maxRecDepth 100000 in
set_option maxHeartbeats 4000000 in
theorem c_X2_voteNow {l : Launch} {G : Gv} {fu : Nat} {M : Mm} {c0 : Nat} {x1 : Int32} (hk0 : kd c0 = 11) {r : Int32} (hF : F_X2_voteNow fu M c0 x1 = some r) : Met l yX2_voteNow (.code yX2_voteNow cX2_voteNow 3 (some .int) :: zU) rm_X2_voteNow (va_Pc [.ref (ad G c0), .int x1] (Wd G M)) (QI G r M) 0 0 (zA G) := by
  refine zMet (by decide) rfl (Nat.le_of_ble_eq_true rfl) ?_
  intro p e s m below meth c hC hw ls hl
  have hl : lv_has ls 3 [(0, .ref (ad G c0)), (1, .int x1)] := hl
  unfold F_X2_voteNow at hF
  refine lv_aload_n hC.1 hC.2.1 dX2_voteNow_0 rfl (lv_at hl 0 rfl) ?_
  refine lv_aload_n hC.1 hC.2.1 dX2_voteNow_1 rfl (lv_at hl 0 rfl) ?_
  refine g2_rightNow hC hw hk0 q1_30 dX2_voteNow_2 ?_
  obtain ⟨r2, h1, hF⟩ := ob1S hF
  refine k_Vi (As := [.int (M.1 c0 1)]) (rest := []) hC hw (c_X2_votersBy (M := M) hk0 h1) (RC_N hk0) yv_X2_votersBy q2_40 ⟨rfl, rfl⟩ ⟨Nat.le_of_ble_eq_true rfl, Nat.le_of_ble_eq_true rfl⟩ ⟨Nat.zero_le _, Nat.zero_le _⟩ rfl rfl (Nat.le_of_ble_eq_true rfl) hl dX2_voteNow_5 (fun H locs hw => ?_)
  refine lv_istore_n (lv' := [(2, .int r2), (0, .ref (ad G c0)), (1, .int x1)]) hC.1 hC.2.1 dX2_voteNow_8 rfl hl (by decide) rfl (fun ls hl => ?_)
  refine lv_iload_n hC.1 hC.2.1 dX2_voteNow_9 rfl (lv_at hl 0 rfl) ?_
  refine lv_iload_n hC.1 hC.2.1 dX2_voteNow_10 rfl (lv_at hl 2 rfl) ?_
  obtain ⟨r4, h3, hF⟩ := ob1S hF
  refine k_Ni (As := [.int r2, .int x1]) (rest := []) hC hw (c_X6_isIn (M := M) h3) ys_X6_isIn (k := 7) rfl ⟨rfl, rfl⟩ ⟨Nat.le_of_ble_eq_true rfl, Nat.le_of_ble_eq_true rfl⟩ ⟨Nat.zero_le _, Nat.zero_le _⟩ rfl rfl (Nat.le_of_ble_eq_true rfl) hl dX2_voteNow_11 (fun H locs hw => ?_)
  refine lv_if_ne (tgt := 20) hC.1 hC.2.1 dX2_voteNow_14 (by decide) (fun b5 => ?_) (fun b5 => ?_)
  · have hF := ifN hF b5
    refine lv_aload_n hC.1 hC.2.1 dX2_voteNow_20 rfl (lv_at hl 1 rfl) ?_
    refine lv_iload_n hC.1 hC.2.1 dX2_voteNow_21 rfl (lv_at hl 0 rfl) ?_
    obtain ⟨r7, h6, hF⟩ := ob1S hF
    refine k_Vi (As := [.int r2]) (rest := []) hC hw (c_X2_onesAmong (M := M) hk0 h6) (RC_N hk0) yv_X2_onesAmong q2_55 ⟨rfl, rfl⟩ ⟨Nat.le_of_ble_eq_true rfl, Nat.le_of_ble_eq_true rfl⟩ ⟨Nat.zero_le _, Nat.zero_le _⟩ rfl rfl (Nat.le_of_ble_eq_true rfl) hl dX2_voteNow_22 (fun H locs hw => ?_)
    refine lv_iload_n hC.1 hC.2.1 dX2_voteNow_25 rfl (lv_at hl 2 rfl) ?_
    obtain ⟨r9, h8, hF⟩ := ob1S hF
    refine k_Ni (As := [.int r7, .int x1]) (rest := []) hC hw (c_X6_isIn (M := M) h8) ys_X6_isIn (k := 7) rfl ⟨rfl, rfl⟩ ⟨Nat.le_of_ble_eq_true rfl, Nat.le_of_ble_eq_true rfl⟩ ⟨Nat.zero_le _, Nat.zero_le _⟩ rfl rfl (Nat.le_of_ble_eq_true rfl) hl dX2_voteNow_26 (fun H locs hw => ?_)
    refine lv_if_eq (tgt := 36) hC.1 hC.2.1 dX2_voteNow_29 (by decide) (fun b10 => ?_) (fun b10 => ?_)
    · have hF := ifP hF b10
      refine lv_iconst (v := (0 : Int32)) hC.1 hC.2.1 dX2_voteNow_36 (by decide) ?_
      exact r_iretP hC hw hF dX2_voteNow_37
    · have hF := ifN hF b10
      refine lv_iconst (v := (1 : Int32)) hC.1 hC.2.1 dX2_voteNow_32 (by decide) ?_
      refine lv_goto (tgt := 37) hC.1 hC.2.1 dX2_voteNow_33 (by decide) ?_
      exact r_iretP hC hw hF dX2_voteNow_37
  · have hF := ifP hF b5
    refine lv_bipush (v := (-9 : Int32)) hC.1 hC.2.1 dX2_voteNow_17 (by decide) ?_
    exact r_iretP hC hw hF dX2_voteNow_19
abbrev rm_X2_tellsOf : Room := { frames := 4, cells := 0, slots := 0, locals := 90 }
theorem yv_X2_tellsOf : YV yX2_tellsOf cX2_tellsOf 3 (some .int) 2 RX2 := ⟨⟨q2_36, q2_37, q1_2, q2_38⟩, by decide +kernel⟩
theorem dX2_tellsOf_0 : decode cX2_tellsOf 0 = .ok (.iload_n 2, 1) := by decide +kernel
theorem dX2_tellsOf_1 : decode cX2_tellsOf 1 = .ok (.tableswitch 92 0 4 #[35, 44, 53, 62, 71], 35) := by decide +kernel
theorem dX2_tellsOf_36 : decode cX2_tellsOf 36 = .ok (.aload_n 0, 1) := by decide +kernel
theorem dX2_tellsOf_37 : decode cX2_tellsOf 37 = .ok (.getfield 15, 3) := by decide +kernel
theorem dX2_tellsOf_40 : decode cX2_tellsOf 40 = .ok (.iload_n 1, 1) := by decide +kernel
theorem dX2_tellsOf_41 : decode cX2_tellsOf 41 = .ok (.invokestatic 81, 3) := by decide +kernel
theorem dX2_tellsOf_44 : decode cX2_tellsOf 44 = .ok (.ireturn, 1) := by decide +kernel
theorem dX2_tellsOf_45 : decode cX2_tellsOf 45 = .ok (.aload_n 0, 1) := by decide +kernel
theorem dX2_tellsOf_46 : decode cX2_tellsOf 46 = .ok (.getfield 21, 3) := by decide +kernel
theorem dX2_tellsOf_49 : decode cX2_tellsOf 49 = .ok (.iload_n 1, 1) := by decide +kernel
theorem dX2_tellsOf_50 : decode cX2_tellsOf 50 = .ok (.invokestatic 81, 3) := by decide +kernel
theorem dX2_tellsOf_53 : decode cX2_tellsOf 53 = .ok (.ireturn, 1) := by decide +kernel
theorem dX2_tellsOf_54 : decode cX2_tellsOf 54 = .ok (.aload_n 0, 1) := by decide +kernel
theorem dX2_tellsOf_55 : decode cX2_tellsOf 55 = .ok (.getfield 24, 3) := by decide +kernel
theorem dX2_tellsOf_58 : decode cX2_tellsOf 58 = .ok (.iload_n 1, 1) := by decide +kernel
theorem dX2_tellsOf_59 : decode cX2_tellsOf 59 = .ok (.invokestatic 81, 3) := by decide +kernel
theorem dX2_tellsOf_62 : decode cX2_tellsOf 62 = .ok (.ireturn, 1) := by decide +kernel
theorem dX2_tellsOf_63 : decode cX2_tellsOf 63 = .ok (.aload_n 0, 1) := by decide +kernel
theorem dX2_tellsOf_64 : decode cX2_tellsOf 64 = .ok (.getfield 18, 3) := by decide +kernel
theorem dX2_tellsOf_67 : decode cX2_tellsOf 67 = .ok (.iload_n 1, 1) := by decide +kernel
theorem dX2_tellsOf_68 : decode cX2_tellsOf 68 = .ok (.invokestatic 81, 3) := by decide +kernel
theorem dX2_tellsOf_71 : decode cX2_tellsOf 71 = .ok (.ireturn, 1) := by decide +kernel
theorem dX2_tellsOf_72 : decode cX2_tellsOf 72 = .ok (.aload_n 0, 1) := by decide +kernel
theorem dX2_tellsOf_73 : decode cX2_tellsOf 73 = .ok (.aload_n 0, 1) := by decide +kernel
theorem dX2_tellsOf_74 : decode cX2_tellsOf 74 = .ok (.getfield 52, 3) := by decide +kernel
theorem dX2_tellsOf_77 : decode cX2_tellsOf 77 = .ok (.invokevirtual 110, 3) := by decide +kernel
theorem dX2_tellsOf_80 : decode cX2_tellsOf 80 = .ok (.iload_n 1, 1) := by decide +kernel
theorem dX2_tellsOf_81 : decode cX2_tellsOf 81 = .ok (.invokestatic 125, 3) := by decide +kernel
theorem dX2_tellsOf_84 : decode cX2_tellsOf 84 = .ok (.ifCond .eq 7, 3) := by decide +kernel
theorem dX2_tellsOf_87 : decode cX2_tellsOf 87 = .ok (.iconst 1, 1) := by decide +kernel
theorem dX2_tellsOf_88 : decode cX2_tellsOf 88 = .ok (.goto 4, 3) := by decide +kernel
theorem dX2_tellsOf_91 : decode cX2_tellsOf 91 = .ok (.iconst 0, 1) := by decide +kernel
theorem dX2_tellsOf_92 : decode cX2_tellsOf 92 = .ok (.ireturn, 1) := by decide +kernel
theorem dX2_tellsOf_93 : decode cX2_tellsOf 93 = .ok (.aload_n 0, 1) := by decide +kernel
theorem dX2_tellsOf_94 : decode cX2_tellsOf 94 = .ok (.iload_n 1, 1) := by decide +kernel
theorem dX2_tellsOf_95 : decode cX2_tellsOf 95 = .ok (.invokevirtual 140, 3) := by decide +kernel
theorem dX2_tellsOf_98 : decode cX2_tellsOf 98 = .ok (.ireturn, 1) := by decide +kernel
def F_X2_tellsOf (fu : Nat) (M : Mm) (c0 : Nat) (x1 : Int32) (x2 : Int32) : Option Int32 :=
  if x2 = (0 : Int32) then
    ob1 (F_X6_read fu M (c0 + 2) x1) (fun r3 =>
    some r3)
  else
  if x2 = (1 : Int32) then
    ob1 (F_X6_read fu M (c0 + 4) x1) (fun r6 =>
    some r6)
  else
  if x2 = (2 : Int32) then
    ob1 (F_X6_read fu M (c0 + 5) x1) (fun r9 =>
    some r9)
  else
  if x2 = (3 : Int32) then
    ob1 (F_X6_read fu M (c0 + 3) x1) (fun r12 =>
    some r12)
  else
  if x2 = (4 : Int32) then
    ob1 (F_X2_votersBy fu M c0 (M.1 c0 1)) (fun r15 =>
    ob1 (F_X6_isIn fu M r15 x1) (fun r17 =>
    if r17 = 0 then
      some (0 : Int32)
    else
      some (1 : Int32)))
  else
  ob1 (F_X2_voteNow fu M c0 x1) (fun r20 =>
  some r20)
set_option maxRecDepth 100000 in
set_option maxHeartbeats 4000000 in
theorem c_X2_tellsOf {l : Launch} {G : Gv} {fu : Nat} {M : Mm} {c0 : Nat} {x1 : Int32} {x2 : Int32} (hk0 : kd c0 = 11) {r : Int32} (hF : F_X2_tellsOf fu M c0 x1 x2 = some r) : Met l yX2_tellsOf (.code yX2_tellsOf cX2_tellsOf 3 (some .int) :: zU) rm_X2_tellsOf (va_Pc [.ref (ad G c0), .int x1, .int x2] (Wd G M)) (QI G r M) 0 0 (zA G) := by
  refine zMet (by decide) rfl (Nat.le_of_ble_eq_true rfl) ?_
  intro p e s m below meth c hC hw ls hl
  have hl : lv_has ls 3 [(0, .ref (ad G c0)), (1, .int x1), (2, .int x2)] := hl
  unfold F_X2_tellsOf at hF
  refine lv_iload_n hC.1 hC.2.1 dX2_tellsOf_0 rfl (lv_at hl 2 rfl) ?_
  rcases Classical.em (x2 = (0 : Int32)) with w1 | w1
  · have hF := ifP hF w1
    refine r_swI (v := (0 : Int32)) (off := 35) (tgt := 36) hC.1 hC.2.1 w1 dX2_tellsOf_1 (by decide) (by decide) rfl (by decide) ?_
    refine lv_aload_n hC.1 hC.2.1 dX2_tellsOf_36 rfl (lv_at hl 0 rfl) ?_
    refine g2_kindOf hC hw hk0 q1_37 dX2_tellsOf_37 ?_
    refine lv_iload_n hC.1 hC.2.1 dX2_tellsOf_40 rfl (lv_at hl 1 rfl) ?_
    obtain ⟨r3, h2, hF⟩ := ob1S hF
    refine k_Ni (As := [.ref (ad G (c0 + 2)), .int x1]) (rest := []) hC hw (c_X6_read (M := M) (kdN2 hk0) h2) ys_X6_read (k := 6) rfl ⟨rfl, rfl⟩ ⟨Nat.le_of_ble_eq_true rfl, Nat.le_of_ble_eq_true rfl⟩ ⟨Nat.zero_le _, Nat.zero_le _⟩ rfl rfl (Nat.le_of_ble_eq_true rfl) hl dX2_tellsOf_41 (fun H locs hw => ?_)
    exact r_iretP hC hw hF dX2_tellsOf_44
  have hF := ifN hF w1
  rcases Classical.em (x2 = (1 : Int32)) with w4 | w4
  · have hF := ifP hF w4
    refine r_swI (v := (1 : Int32)) (off := 44) (tgt := 45) hC.1 hC.2.1 w4 dX2_tellsOf_1 (by decide) (by decide) rfl (by decide) ?_
    refine lv_aload_n hC.1 hC.2.1 dX2_tellsOf_45 rfl (lv_at hl 0 rfl) ?_
    refine g2_bulkOf hC hw hk0 q1_40 dX2_tellsOf_46 ?_
    refine lv_iload_n hC.1 hC.2.1 dX2_tellsOf_49 rfl (lv_at hl 1 rfl) ?_
    obtain ⟨r6, h5, hF⟩ := ob1S hF
    refine k_Ni (As := [.ref (ad G (c0 + 4)), .int x1]) (rest := []) hC hw (c_X6_read (M := M) (kdN4 hk0) h5) ys_X6_read (k := 6) rfl ⟨rfl, rfl⟩ ⟨Nat.le_of_ble_eq_true rfl, Nat.le_of_ble_eq_true rfl⟩ ⟨Nat.zero_le _, Nat.zero_le _⟩ rfl rfl (Nat.le_of_ble_eq_true rfl) hl dX2_tellsOf_50 (fun H locs hw => ?_)
    exact r_iretP hC hw hF dX2_tellsOf_53
  have hF := ifN hF w4
  rcases Classical.em (x2 = (2 : Int32)) with w7 | w7
  · have hF := ifP hF w7
    refine r_swI (v := (2 : Int32)) (off := 53) (tgt := 54) hC.1 hC.2.1 w7 dX2_tellsOf_1 (by decide) (by decide) rfl (by decide) ?_
    refine lv_aload_n hC.1 hC.2.1 dX2_tellsOf_54 rfl (lv_at hl 0 rfl) ?_
    refine g2_shadeOf hC hw hk0 q1_43 dX2_tellsOf_55 ?_
    refine lv_iload_n hC.1 hC.2.1 dX2_tellsOf_58 rfl (lv_at hl 1 rfl) ?_
    obtain ⟨r9, h8, hF⟩ := ob1S hF
    refine k_Ni (As := [.ref (ad G (c0 + 5)), .int x1]) (rest := []) hC hw (c_X6_read (M := M) (kdN5 hk0) h8) ys_X6_read (k := 6) rfl ⟨rfl, rfl⟩ ⟨Nat.le_of_ble_eq_true rfl, Nat.le_of_ble_eq_true rfl⟩ ⟨Nat.zero_le _, Nat.zero_le _⟩ rfl rfl (Nat.le_of_ble_eq_true rfl) hl dX2_tellsOf_59 (fun H locs hw => ?_)
    exact r_iretP hC hw hF dX2_tellsOf_62
  have hF := ifN hF w7
  rcases Classical.em (x2 = (3 : Int32)) with w10 | w10
  · have hF := ifP hF w10
    refine r_swI (v := (3 : Int32)) (off := 62) (tgt := 63) hC.1 hC.2.1 w10 dX2_tellsOf_1 (by decide) (by decide) rfl (by decide) ?_
    refine lv_aload_n hC.1 hC.2.1 dX2_tellsOf_63 rfl (lv_at hl 0 rfl) ?_
    refine g2_voteOf hC hw hk0 q1_39 dX2_tellsOf_64 ?_
    refine lv_iload_n hC.1 hC.2.1 dX2_tellsOf_67 rfl (lv_at hl 1 rfl) ?_
    obtain ⟨r12, h11, hF⟩ := ob1S hF
    refine k_Ni (As := [.ref (ad G (c0 + 3)), .int x1]) (rest := []) hC hw (c_X6_read (M := M) (kdN3 hk0) h11) ys_X6_read (k := 6) rfl ⟨rfl, rfl⟩ ⟨Nat.le_of_ble_eq_true rfl, Nat.le_of_ble_eq_true rfl⟩ ⟨Nat.zero_le _, Nat.zero_le _⟩ rfl rfl (Nat.le_of_ble_eq_true rfl) hl dX2_tellsOf_68 (fun H locs hw => ?_)
    exact r_iretP hC hw hF dX2_tellsOf_71
  have hF := ifN hF w10
  rcases Classical.em (x2 = (4 : Int32)) with w13 | w13
  · have hF := ifP hF w13
    refine r_swI (v := (4 : Int32)) (off := 71) (tgt := 72) hC.1 hC.2.1 w13 dX2_tellsOf_1 (by decide) (by decide) rfl (by decide) ?_
    refine lv_aload_n hC.1 hC.2.1 dX2_tellsOf_72 rfl (lv_at hl 0 rfl) ?_
    refine lv_aload_n hC.1 hC.2.1 dX2_tellsOf_73 rfl (lv_at hl 0 rfl) ?_
    refine g2_rightNow hC hw hk0 q1_30 dX2_tellsOf_74 ?_
    obtain ⟨r15, h14, hF⟩ := ob1S hF
    refine k_Vi (As := [.int (M.1 c0 1)]) (rest := []) hC hw (c_X2_votersBy (M := M) hk0 h14) (RC_N hk0) yv_X2_votersBy q2_40 ⟨rfl, rfl⟩ ⟨Nat.le_of_ble_eq_true rfl, Nat.le_of_ble_eq_true rfl⟩ ⟨Nat.zero_le _, Nat.zero_le _⟩ rfl rfl (Nat.le_of_ble_eq_true rfl) hl dX2_tellsOf_77 (fun H locs hw => ?_)
    refine lv_iload_n hC.1 hC.2.1 dX2_tellsOf_80 rfl (lv_at hl 1 rfl) ?_
    obtain ⟨r17, h16, hF⟩ := ob1S hF
    refine k_Ni (As := [.int r15, .int x1]) (rest := []) hC hw (c_X6_isIn (M := M) h16) ys_X6_isIn (k := 7) rfl ⟨rfl, rfl⟩ ⟨Nat.le_of_ble_eq_true rfl, Nat.le_of_ble_eq_true rfl⟩ ⟨Nat.zero_le _, Nat.zero_le _⟩ rfl rfl (Nat.le_of_ble_eq_true rfl) hl dX2_tellsOf_81 (fun H locs hw => ?_)
    refine lv_if_eq (tgt := 91) hC.1 hC.2.1 dX2_tellsOf_84 (by decide) (fun b18 => ?_) (fun b18 => ?_)
    · have hF := ifP hF b18
      refine lv_iconst (v := (0 : Int32)) hC.1 hC.2.1 dX2_tellsOf_91 (by decide) ?_
      exact r_iretP hC hw hF dX2_tellsOf_92
    · have hF := ifN hF b18
      refine lv_iconst (v := (1 : Int32)) hC.1 hC.2.1 dX2_tellsOf_87 (by decide) ?_
      refine lv_goto (tgt := 92) hC.1 hC.2.1 dX2_tellsOf_88 (by decide) ?_
      exact r_iretP hC hw hF dX2_tellsOf_92
  have hF := ifN hF w13
  refine r_swD (tgt := 93) (vs := [(0 : Int32), (1 : Int32), (2 : Int32), (3 : Int32), (4 : Int32)]) hC.1 hC.2.1 (List.forall_mem_cons.mpr ⟨w1, List.forall_mem_cons.mpr ⟨w4, List.forall_mem_cons.mpr ⟨w7, List.forall_mem_cons.mpr ⟨w10, List.forall_mem_cons.mpr ⟨w13, fun v hv => absurd hv List.not_mem_nil⟩⟩⟩⟩⟩) dX2_tellsOf_1 (by decide) rfl (by decide) ?_
  refine lv_aload_n hC.1 hC.2.1 dX2_tellsOf_93 rfl (lv_at hl 0 rfl) ?_
  refine lv_iload_n hC.1 hC.2.1 dX2_tellsOf_94 rfl (lv_at hl 1 rfl) ?_
  obtain ⟨r20, h19, hF⟩ := ob1S hF
  refine k_Vi (As := [.int x1]) (rest := []) hC hw (c_X2_voteNow (M := M) hk0 h19) (RC_N hk0) yv_X2_voteNow q2_51 ⟨rfl, rfl⟩ ⟨Nat.le_of_ble_eq_true rfl, Nat.le_of_ble_eq_true rfl⟩ ⟨Nat.zero_le _, Nat.zero_le _⟩ rfl rfl (Nat.le_of_ble_eq_true rfl) hl dX2_tellsOf_95 (fun H locs hw => ?_)
  exact r_iretP hC hw hF dX2_tellsOf_98
abbrev rm_X2_leastGuard : Room := { frames := 4, cells := 0, slots := 0, locals := 102 }
theorem yv_X2_leastGuard : YV yX2_leastGuard cX2_leastGuard 4 (some .int) 2 RX2 := ⟨⟨q2_201, q2_202, q1_2, q2_203⟩, by decide +kernel⟩
theorem dX2_leastGuard_0 : decode cX2_leastGuard 0 = .ok (.aload_n 0, 1) := by decide +kernel
theorem dX2_leastGuard_1 : decode cX2_leastGuard 1 = .ok (.getfield 24, 3) := by decide +kernel
theorem dX2_leastGuard_4 : decode cX2_leastGuard 4 = .ok (.iload_n 1, 1) := by decide +kernel
theorem dX2_leastGuard_5 : decode cX2_leastGuard 5 = .ok (.invokestatic 81, 3) := by decide +kernel
theorem dX2_leastGuard_8 : decode cX2_leastGuard 8 = .ok (.istore_n 3, 1) := by decide +kernel
theorem dX2_leastGuard_9 : decode cX2_leastGuard 9 = .ok (.iload_n 3, 1) := by decide +kernel
theorem dX2_leastGuard_10 : decode cX2_leastGuard 10 = .ok (.bipush 9, 2) := by decide +kernel
theorem dX2_leastGuard_12 : decode cX2_leastGuard 12 = .ok (.if_icmp .gt 21, 3) := by decide +kernel
theorem dX2_leastGuard_15 : decode cX2_leastGuard 15 = .ok (.aload_n 0, 1) := by decide +kernel
theorem dX2_leastGuard_16 : decode cX2_leastGuard 16 = .ok (.iload_n 1, 1) := by decide +kernel
theorem dX2_leastGuard_17 : decode cX2_leastGuard 17 = .ok (.iload_n 3, 1) := by decide +kernel
theorem dX2_leastGuard_18 : decode cX2_leastGuard 18 = .ok (.iload_n 2, 1) := by decide +kernel
theorem dX2_leastGuard_19 : decode cX2_leastGuard 19 = .ok (.invokevirtual 104, 3) := by decide +kernel
theorem dX2_leastGuard_22 : decode cX2_leastGuard 22 = .ok (.ifCond .le 5, 3) := by decide +kernel
theorem dX2_leastGuard_25 : decode cX2_leastGuard 25 = .ok (.iload_n 3, 1) := by decide +kernel
theorem dX2_leastGuard_26 : decode cX2_leastGuard 26 = .ok (.ireturn, 1) := by decide +kernel
theorem dX2_leastGuard_27 : decode cX2_leastGuard 27 = .ok (.iinc 3 1, 3) := by decide +kernel
theorem dX2_leastGuard_30 : decode cX2_leastGuard 30 = .ok (.goto (-21), 3) := by decide +kernel
theorem dX2_leastGuard_33 : decode cX2_leastGuard 33 = .ok (.bipush (-9), 2) := by decide +kernel
theorem dX2_leastGuard_35 : decode cX2_leastGuard 35 = .ok (.ireturn, 1) := by decide +kernel
def F_X2_leastGuard_9 (fu : Nat) (M : Mm) : Nat → Nat → Int32 → Int32 → Int32 → Option Int32
  | 0, _, _, _, _ => none
  | n + 1, c0, x1, x2, x3 =>
    if (9 : Int32) < x3 then
      some (-9 : Int32)
    else
      ob1 (F_X2_bulkBy fu M c0 x1 x3 x2) (fun r3 =>
      if r3 ≤ 0 then
        F_X2_leastGuard_9 fu M n c0 x1 x2 (x3 + (1 : Int32))
      else
        some x3)
set_option maxRecDepth 100000 in
set_option maxHeartbeats 4000000 in
theorem w_X2_leastGuard_9 {p : Program} {l : Launch} {e : Env} {s : State} {m : MethodId} {args : Array Value} {below : List Frame} {meth : Method} {c : Code} {G : Gv} (hC : Cx p s m args meth c cX2_leastGuard 4 (some .int) RX2) {fu : Nat} {r : Int32} {M : Mm} : ∀ (n : Nat) {c0 : Nat} {x1 : Int32} {x2 : Int32} {x3 : Int32} {H : Heap} {locs : List Loc} {ls : Array Slot} (hk0 : kd c0 = 11), F_X2_leastGuard_9 fu M n c0 x1 x2 x3 = some r → St G s H locs M → lv_has ls 4 [(0, .ref (ad G c0)), (1, .int x1), (2, .int x2), (3, .int x3)] → W p l e rm_X2_leastGuard s m args below meth c H locs 0 0 (MQ below (QI G r M) args s 0 0 (zA G)) (F0 m 9 ls []) := by
  intro n
  induction n with
  | zero =>
    intro c0 x1 x2 x3 H locs ls hk0 hF hw hl
    cases hF
  | succ n ih =>
    intro c0 x1 x2 x3 H locs ls hk0 hF hw hl
    unfold F_X2_leastGuard_9 at hF
    refine lv_iload_n hC.1 hC.2.1 dX2_leastGuard_9 rfl (lv_at hl 3 rfl) ?_
    refine lv_bipush (v := (9 : Int32)) hC.1 hC.2.1 dX2_leastGuard_10 (by decide) ?_
    refine lv_icmp_gt (tgt := 33) hC.1 hC.2.1 dX2_leastGuard_12 (by decide) (fun b1 => ?_) (fun b1 => ?_)
    · have hF := ifP hF b1
      refine lv_bipush (v := (-9 : Int32)) hC.1 hC.2.1 dX2_leastGuard_33 (by decide) ?_
      exact r_iretP hC hw hF dX2_leastGuard_35
    · have hF := ifN hF b1
      refine lv_aload_n hC.1 hC.2.1 dX2_leastGuard_15 rfl (lv_at hl 0 rfl) ?_
      refine lv_iload_n hC.1 hC.2.1 dX2_leastGuard_16 rfl (lv_at hl 1 rfl) ?_
      refine lv_iload_n hC.1 hC.2.1 dX2_leastGuard_17 rfl (lv_at hl 3 rfl) ?_
      refine lv_iload_n hC.1 hC.2.1 dX2_leastGuard_18 rfl (lv_at hl 2 rfl) ?_
      obtain ⟨r3, h2, hF⟩ := ob1S hF
      refine k_Vi (As := [.int x1, .int x3, .int x2]) (rest := []) hC hw (c_X2_bulkBy (M := M) hk0 h2) (RC_N hk0) yv_X2_bulkBy q2_154 ⟨rfl, rfl⟩ ⟨Nat.le_of_ble_eq_true rfl, Nat.le_of_ble_eq_true rfl⟩ ⟨Nat.zero_le _, Nat.zero_le _⟩ rfl rfl (Nat.le_of_ble_eq_true rfl) hl dX2_leastGuard_19 (fun H locs hw => ?_)
      refine lv_if_le (tgt := 27) hC.1 hC.2.1 dX2_leastGuard_22 (by decide) (fun b4 => ?_) (fun b4 => ?_)
      · have hF := ifP hF b4
        refine lv_iinc (v := (x3 + (1 : Int32))) (lv' := [(3, .int (x3 + (1 : Int32))), (0, .ref (ad G c0)), (1, .int x1), (2, .int x2)]) hC.1 hC.2.1 dX2_leastGuard_27 hl (k := 3) rfl rfl (by decide) rfl (fun ls hl => ?_)
        refine lv_goto (tgt := 9) hC.1 hC.2.1 dX2_leastGuard_30 (by decide) ?_
        exact ih hk0 hF hw (lv_sub hl [1, 2, 3, 0] rfl)
      · have hF := ifN hF b4
        refine lv_iload_n hC.1 hC.2.1 dX2_leastGuard_25 rfl (lv_at hl 3 rfl) ?_
        exact r_iretP hC hw hF dX2_leastGuard_26
def F_X2_leastGuard (fu : Nat) (M : Mm) (c0 : Nat) (x1 : Int32) (x2 : Int32) : Option Int32 :=
  ob1 (F_X6_read fu M (c0 + 5) x1) (fun r2 =>
  F_X2_leastGuard_9 fu M fu c0 x1 x2 r2)
set_option maxRecDepth 100000 in
set_option maxHeartbeats 4000000 in
theorem c_X2_leastGuard {l : Launch} {G : Gv} {fu : Nat} {M : Mm} {c0 : Nat} {x1 : Int32} {x2 : Int32} (hk0 : kd c0 = 11) {r : Int32} (hF : F_X2_leastGuard fu M c0 x1 x2 = some r) : Met l yX2_leastGuard (.code yX2_leastGuard cX2_leastGuard 4 (some .int) :: zU) rm_X2_leastGuard (va_Pc [.ref (ad G c0), .int x1, .int x2] (Wd G M)) (QI G r M) 0 0 (zA G) := by
  refine zMet (by decide) rfl (Nat.le_of_ble_eq_true rfl) ?_
  intro p e s m below meth c hC hw ls hl
  have hl : lv_has ls 4 [(0, .ref (ad G c0)), (1, .int x1), (2, .int x2)] := hl
  unfold F_X2_leastGuard at hF
  refine lv_aload_n hC.1 hC.2.1 dX2_leastGuard_0 rfl (lv_at hl 0 rfl) ?_
  refine g2_shadeOf hC hw hk0 q1_43 dX2_leastGuard_1 ?_
  refine lv_iload_n hC.1 hC.2.1 dX2_leastGuard_4 rfl (lv_at hl 1 rfl) ?_
  obtain ⟨r2, h1, hF⟩ := ob1S hF
  refine k_Ni (As := [.ref (ad G (c0 + 5)), .int x1]) (rest := []) hC hw (c_X6_read (M := M) (kdN5 hk0) h1) ys_X6_read (k := 6) rfl ⟨rfl, rfl⟩ ⟨Nat.le_of_ble_eq_true rfl, Nat.le_of_ble_eq_true rfl⟩ ⟨Nat.zero_le _, Nat.zero_le _⟩ rfl rfl (Nat.le_of_ble_eq_true rfl) hl dX2_leastGuard_5 (fun H locs hw => ?_)
  refine lv_istore_n (lv' := [(3, .int r2), (0, .ref (ad G c0)), (1, .int x1), (2, .int x2)]) hC.1 hC.2.1 dX2_leastGuard_8 rfl hl (by decide) rfl (fun ls hl => ?_)
  exact w_X2_leastGuard_9 hC _ hk0 hF hw (lv_sub hl [1, 2, 3, 0] rfl)
abbrev rm_X2_nearestShade : Room := { frames := 5, cells := 0, slots := 0, locals := 125 }
theorem yv_X2_nearestShade : YV yX2_nearestShade cX2_nearestShade 6 (some .int) 3 RX2 := ⟨⟨q2_214, q2_215, q1_2, q2_216⟩, by decide +kernel⟩
theorem dX2_nearestShade_0 : decode cX2_nearestShade 0 = .ok (.aload_n 0, 1) := by decide +kernel
theorem dX2_nearestShade_1 : decode cX2_nearestShade 1 = .ok (.getfield 24, 3) := by decide +kernel
theorem dX2_nearestShade_4 : decode cX2_nearestShade 4 = .ok (.iload_n 1, 1) := by decide +kernel
theorem dX2_nearestShade_5 : decode cX2_nearestShade 5 = .ok (.invokestatic 81, 3) := by decide +kernel
theorem dX2_nearestShade_8 : decode cX2_nearestShade 8 = .ok (.istore 4, 2) := by decide +kernel
theorem dX2_nearestShade_10 : decode cX2_nearestShade 10 = .ok (.iconst 0, 1) := by decide +kernel
theorem dX2_nearestShade_11 : decode cX2_nearestShade 11 = .ok (.istore 5, 2) := by decide +kernel
theorem dX2_nearestShade_13 : decode cX2_nearestShade 13 = .ok (.iload 5, 2) := by decide +kernel
theorem dX2_nearestShade_15 : decode cX2_nearestShade 15 = .ok (.bipush 9, 2) := by decide +kernel
theorem dX2_nearestShade_17 : decode cX2_nearestShade 17 = .ok (.if_icmp .gt 69, 3) := by decide +kernel
theorem dX2_nearestShade_20 : decode cX2_nearestShade 20 = .ok (.iload 4, 2) := by decide +kernel
theorem dX2_nearestShade_22 : decode cX2_nearestShade 22 = .ok (.iload 5, 2) := by decide +kernel
theorem dX2_nearestShade_24 : decode cX2_nearestShade 24 = .ok (.isub, 1) := by decide +kernel
theorem dX2_nearestShade_25 : decode cX2_nearestShade 25 = .ok (.ifCond .lt 24, 3) := by decide +kernel
theorem dX2_nearestShade_28 : decode cX2_nearestShade 28 = .ok (.aload_n 0, 1) := by decide +kernel
theorem dX2_nearestShade_29 : decode cX2_nearestShade 29 = .ok (.iload_n 1, 1) := by decide +kernel
theorem dX2_nearestShade_30 : decode cX2_nearestShade 30 = .ok (.iload 4, 2) := by decide +kernel
theorem dX2_nearestShade_32 : decode cX2_nearestShade 32 = .ok (.iload 5, 2) := by decide +kernel
theorem dX2_nearestShade_34 : decode cX2_nearestShade 34 = .ok (.isub, 1) := by decide +kernel
theorem dX2_nearestShade_35 : decode cX2_nearestShade 35 = .ok (.iload_n 2, 1) := by decide +kernel
theorem dX2_nearestShade_36 : decode cX2_nearestShade 36 = .ok (.invokevirtual 118, 3) := by decide +kernel
theorem dX2_nearestShade_39 : decode cX2_nearestShade 39 = .ok (.iload_n 3, 1) := by decide +kernel
theorem dX2_nearestShade_40 : decode cX2_nearestShade 40 = .ok (.if_icmp .ne 9, 3) := by decide +kernel
theorem dX2_nearestShade_43 : decode cX2_nearestShade 43 = .ok (.iload 4, 2) := by decide +kernel
theorem dX2_nearestShade_45 : decode cX2_nearestShade 45 = .ok (.iload 5, 2) := by decide +kernel
theorem dX2_nearestShade_47 : decode cX2_nearestShade 47 = .ok (.isub, 1) := by decide +kernel
theorem dX2_nearestShade_48 : decode cX2_nearestShade 48 = .ok (.ireturn, 1) := by decide +kernel
theorem dX2_nearestShade_49 : decode cX2_nearestShade 49 = .ok (.iload 4, 2) := by decide +kernel
theorem dX2_nearestShade_51 : decode cX2_nearestShade 51 = .ok (.iload 5, 2) := by decide +kernel
theorem dX2_nearestShade_53 : decode cX2_nearestShade 53 = .ok (.iadd, 1) := by decide +kernel
theorem dX2_nearestShade_54 : decode cX2_nearestShade 54 = .ok (.bipush 9, 2) := by decide +kernel
theorem dX2_nearestShade_56 : decode cX2_nearestShade 56 = .ok (.if_icmp .gt 24, 3) := by decide +kernel
theorem dX2_nearestShade_59 : decode cX2_nearestShade 59 = .ok (.aload_n 0, 1) := by decide +kernel
theorem dX2_nearestShade_60 : decode cX2_nearestShade 60 = .ok (.iload_n 1, 1) := by decide +kernel
theorem dX2_nearestShade_61 : decode cX2_nearestShade 61 = .ok (.iload 4, 2) := by decide +kernel
theorem dX2_nearestShade_63 : decode cX2_nearestShade 63 = .ok (.iload 5, 2) := by decide +kernel
theorem dX2_nearestShade_65 : decode cX2_nearestShade 65 = .ok (.iadd, 1) := by decide +kernel
theorem dX2_nearestShade_66 : decode cX2_nearestShade 66 = .ok (.iload_n 2, 1) := by decide +kernel
theorem dX2_nearestShade_67 : decode cX2_nearestShade 67 = .ok (.invokevirtual 118, 3) := by decide +kernel
theorem dX2_nearestShade_70 : decode cX2_nearestShade 70 = .ok (.iload_n 3, 1) := by decide +kernel
theorem dX2_nearestShade_71 : decode cX2_nearestShade 71 = .ok (.if_icmp .ne 9, 3) := by decide +kernel
theorem dX2_nearestShade_74 : decode cX2_nearestShade 74 = .ok (.iload 4, 2) := by decide +kernel
theorem dX2_nearestShade_76 : decode cX2_nearestShade 76 = .ok (.iload 5, 2) := by decide +kernel
theorem dX2_nearestShade_78 : decode cX2_nearestShade 78 = .ok (.iadd, 1) := by decide +kernel
theorem dX2_nearestShade_79 : decode cX2_nearestShade 79 = .ok (.ireturn, 1) := by decide +kernel
theorem dX2_nearestShade_80 : decode cX2_nearestShade 80 = .ok (.iinc 5 1, 3) := by decide +kernel
theorem dX2_nearestShade_83 : decode cX2_nearestShade 83 = .ok (.goto (-70), 3) := by decide +kernel
theorem dX2_nearestShade_86 : decode cX2_nearestShade 86 = .ok (.bipush (-9), 2) := by decide +kernel
theorem dX2_nearestShade_88 : decode cX2_nearestShade 88 = .ok (.ireturn, 1) := by decide +kernel
def F_X2_nearestShade_49 (fu : Nat) (M : Mm) (k13 : Nat → Int32 → Int32 → Int32 → Int32 → Int32 → Option Int32) (c0 : Nat) (x1 : Int32) (x2 : Int32) (x3 : Int32) (x4 : Int32) (x5 : Int32) : Option Int32 :=
  if (9 : Int32) < (x4 + x5) then
    k13 c0 x1 x2 x3 x4 (x5 + (1 : Int32))
  else
    ob1 (F_X2_hasRightBy fu M c0 x1 (x4 + x5) x2) (fun r3 =>
    if r3 = x3 then
      some (x4 + x5)
    else
      k13 c0 x1 x2 x3 x4 (x5 + (1 : Int32)))
set_option maxRecDepth 100000 in
set_option maxHeartbeats 4000000 in
theorem w_X2_nearestShade_49 {p : Program} {l : Launch} {e : Env} {s : State} {m : MethodId} {args : Array Value} {below : List Frame} {meth : Method} {c : Code} {G : Gv} (hC : Cx p s m args meth c cX2_nearestShade 6 (some .int) RX2) {fu : Nat} {r : Int32} {M : Mm} {k13 : Nat → Int32 → Int32 → Int32 → Int32 → Int32 → Option Int32} (hk_13 : ∀ {c0 : Nat} {x1 : Int32} {x2 : Int32} {x3 : Int32} {x4 : Int32} {x5 : Int32} {H : Heap} {locs : List Loc} {ls : Array Slot} (hk0 : kd c0 = 11), k13 c0 x1 x2 x3 x4 x5 = some r → St G s H locs M → lv_has ls 6 [(0, .ref (ad G c0)), (1, .int x1), (2, .int x2), (3, .int x3), (4, .int x4), (5, .int x5)] → W p l e rm_X2_nearestShade s m args below meth c H locs 0 0 (MQ below (QI G r M) args s 0 0 (zA G)) (F0 m 13 ls [])) {c0 : Nat} {x1 : Int32} {x2 : Int32} {x3 : Int32} {x4 : Int32} {x5 : Int32} {H : Heap} {locs : List Loc} {ls : Array Slot} (hk0 : kd c0 = 11) (hF : F_X2_nearestShade_49 fu M k13 c0 x1 x2 x3 x4 x5 = some r) (hw : St G s H locs M) (hl : lv_has ls 6 [(0, .ref (ad G c0)), (1, .int x1), (2, .int x2), (3, .int x3), (4, .int x4), (5, .int x5)]) : W p l e rm_X2_nearestShade s m args below meth c H locs 0 0 (MQ below (QI G r M) args s 0 0 (zA G)) (F0 m 49 ls []) := by
  unfold F_X2_nearestShade_49 at hF
  refine lv_iload hC.1 hC.2.1 dX2_nearestShade_49 (lv_at hl 4 rfl) ?_
  refine lv_iload hC.1 hC.2.1 dX2_nearestShade_51 (lv_at hl 5 rfl) ?_
  refine lv_iadd hC.1 hC.2.1 dX2_nearestShade_53 ?_
  refine lv_bipush (v := (9 : Int32)) hC.1 hC.2.1 dX2_nearestShade_54 (by decide) ?_
  refine lv_icmp_gt (tgt := 80) hC.1 hC.2.1 dX2_nearestShade_56 (by decide) (fun b1 => ?_) (fun b1 => ?_)
  · have hF := ifP hF b1
    refine lv_iinc (v := (x5 + (1 : Int32))) (lv' := [(5, .int (x5 + (1 : Int32))), (0, .ref (ad G c0)), (1, .int x1), (2, .int x2), (3, .int x3), (4, .int x4)]) hC.1 hC.2.1 dX2_nearestShade_80 hl (k := 5) rfl rfl (by decide) rfl (fun ls hl => ?_)
    refine lv_goto (tgt := 13) hC.1 hC.2.1 dX2_nearestShade_83 (by decide) ?_
    exact hk_13 hk0 hF hw (lv_sub hl [1, 2, 3, 4, 5, 0] rfl)
  · have hF := ifN hF b1
    refine lv_aload_n hC.1 hC.2.1 dX2_nearestShade_59 rfl (lv_at hl 0 rfl) ?_
    refine lv_iload_n hC.1 hC.2.1 dX2_nearestShade_60 rfl (lv_at hl 1 rfl) ?_
    refine lv_iload hC.1 hC.2.1 dX2_nearestShade_61 (lv_at hl 4 rfl) ?_
    refine lv_iload hC.1 hC.2.1 dX2_nearestShade_63 (lv_at hl 5 rfl) ?_
    refine lv_iadd hC.1 hC.2.1 dX2_nearestShade_65 ?_
    refine lv_iload_n hC.1 hC.2.1 dX2_nearestShade_66 rfl (lv_at hl 2 rfl) ?_
    obtain ⟨r3, h2, hF⟩ := ob1S hF
    refine k_Vi (As := [.int x1, .int (x4 + x5), .int x2]) (rest := []) hC hw (c_X2_hasRightBy (M := M) hk0 h2) (RC_N hk0) yv_X2_hasRightBy q2_178 ⟨rfl, rfl⟩ ⟨Nat.le_of_ble_eq_true rfl, Nat.le_of_ble_eq_true rfl⟩ ⟨Nat.zero_le _, Nat.zero_le _⟩ rfl rfl (Nat.le_of_ble_eq_true rfl) hl dX2_nearestShade_67 (fun H locs hw => ?_)
    refine lv_iload_n hC.1 hC.2.1 dX2_nearestShade_70 rfl (lv_at hl 3 rfl) ?_
    refine lv_icmp_ne (tgt := 80) hC.1 hC.2.1 dX2_nearestShade_71 (by decide) (fun b4 => ?_) (fun b4 => ?_)
    · have hF := ifN hF b4
      refine lv_iinc (v := (x5 + (1 : Int32))) (lv' := [(5, .int (x5 + (1 : Int32))), (0, .ref (ad G c0)), (1, .int x1), (2, .int x2), (3, .int x3), (4, .int x4)]) hC.1 hC.2.1 dX2_nearestShade_80 hl (k := 5) rfl rfl (by decide) rfl (fun ls hl => ?_)
      refine lv_goto (tgt := 13) hC.1 hC.2.1 dX2_nearestShade_83 (by decide) ?_
      exact hk_13 hk0 hF hw (lv_sub hl [1, 2, 3, 4, 5, 0] rfl)
    · have hF := ifP hF b4
      refine lv_iload hC.1 hC.2.1 dX2_nearestShade_74 (lv_at hl 4 rfl) ?_
      refine lv_iload hC.1 hC.2.1 dX2_nearestShade_76 (lv_at hl 5 rfl) ?_
      refine lv_iadd hC.1 hC.2.1 dX2_nearestShade_78 ?_
      exact r_iretP hC hw hF dX2_nearestShade_79
def F_X2_nearestShade_13 (fu : Nat) (M : Mm) : Nat → Nat → Int32 → Int32 → Int32 → Int32 → Int32 → Option Int32
  | 0, _, _, _, _, _, _ => none
  | n + 1, c0, x1, x2, x3, x4, x5 =>
    if (9 : Int32) < x5 then
      some (-9 : Int32)
    else
      if (x4 - x5) < 0 then
        F_X2_nearestShade_49 fu M (F_X2_nearestShade_13 fu M n) c0 x1 x2 x3 x4 x5
      else
        ob1 (F_X2_hasRightBy fu M c0 x1 (x4 - x5) x2) (fun r4 =>
        if r4 = x3 then
          some (x4 - x5)
        else
          F_X2_nearestShade_49 fu M (F_X2_nearestShade_13 fu M n) c0 x1 x2 x3 x4 x5)
set_option maxRecDepth 100000 in
set_option maxHeartbeats 4000000 in
theorem w_X2_nearestShade_13 {p : Program} {l : Launch} {e : Env} {s : State} {m : MethodId} {args : Array Value} {below : List Frame} {meth : Method} {c : Code} {G : Gv} (hC : Cx p s m args meth c cX2_nearestShade 6 (some .int) RX2) {fu : Nat} {r : Int32} {M : Mm} : ∀ (n : Nat) {c0 : Nat} {x1 : Int32} {x2 : Int32} {x3 : Int32} {x4 : Int32} {x5 : Int32} {H : Heap} {locs : List Loc} {ls : Array Slot} (hk0 : kd c0 = 11), F_X2_nearestShade_13 fu M n c0 x1 x2 x3 x4 x5 = some r → St G s H locs M → lv_has ls 6 [(0, .ref (ad G c0)), (1, .int x1), (2, .int x2), (3, .int x3), (4, .int x4), (5, .int x5)] → W p l e rm_X2_nearestShade s m args below meth c H locs 0 0 (MQ below (QI G r M) args s 0 0 (zA G)) (F0 m 13 ls []) := by
  intro n
  induction n with
  | zero =>
    intro c0 x1 x2 x3 x4 x5 H locs ls hk0 hF hw hl
    cases hF
  | succ n ih =>
    intro c0 x1 x2 x3 x4 x5 H locs ls hk0 hF hw hl
    unfold F_X2_nearestShade_13 at hF
    refine lv_iload hC.1 hC.2.1 dX2_nearestShade_13 (lv_at hl 5 rfl) ?_
    refine lv_bipush (v := (9 : Int32)) hC.1 hC.2.1 dX2_nearestShade_15 (by decide) ?_
    refine lv_icmp_gt (tgt := 86) hC.1 hC.2.1 dX2_nearestShade_17 (by decide) (fun b1 => ?_) (fun b1 => ?_)
    · have hF := ifP hF b1
      refine lv_bipush (v := (-9 : Int32)) hC.1 hC.2.1 dX2_nearestShade_86 (by decide) ?_
      exact r_iretP hC hw hF dX2_nearestShade_88
    · have hF := ifN hF b1
      refine lv_iload hC.1 hC.2.1 dX2_nearestShade_20 (lv_at hl 4 rfl) ?_
      refine lv_iload hC.1 hC.2.1 dX2_nearestShade_22 (lv_at hl 5 rfl) ?_
      refine lv_isub hC.1 hC.2.1 dX2_nearestShade_24 ?_
      refine lv_if_lt (tgt := 49) hC.1 hC.2.1 dX2_nearestShade_25 (by decide) (fun b2 => ?_) (fun b2 => ?_)
      · have hF := ifP hF b2
        exact w_X2_nearestShade_49 hC (hk_13 := ih) hk0 hF hw (lv_sub hl [0, 1, 2, 3, 4, 5] rfl)
      · have hF := ifN hF b2
        refine lv_aload_n hC.1 hC.2.1 dX2_nearestShade_28 rfl (lv_at hl 0 rfl) ?_
        refine lv_iload_n hC.1 hC.2.1 dX2_nearestShade_29 rfl (lv_at hl 1 rfl) ?_
        refine lv_iload hC.1 hC.2.1 dX2_nearestShade_30 (lv_at hl 4 rfl) ?_
        refine lv_iload hC.1 hC.2.1 dX2_nearestShade_32 (lv_at hl 5 rfl) ?_
        refine lv_isub hC.1 hC.2.1 dX2_nearestShade_34 ?_
        refine lv_iload_n hC.1 hC.2.1 dX2_nearestShade_35 rfl (lv_at hl 2 rfl) ?_
        obtain ⟨r4, h3, hF⟩ := ob1S hF
        refine k_Vi (As := [.int x1, .int (x4 - x5), .int x2]) (rest := []) hC hw (c_X2_hasRightBy (M := M) hk0 h3) (RC_N hk0) yv_X2_hasRightBy q2_178 ⟨rfl, rfl⟩ ⟨Nat.le_of_ble_eq_true rfl, Nat.le_of_ble_eq_true rfl⟩ ⟨Nat.zero_le _, Nat.zero_le _⟩ rfl rfl (Nat.le_of_ble_eq_true rfl) hl dX2_nearestShade_36 (fun H locs hw => ?_)
        refine lv_iload_n hC.1 hC.2.1 dX2_nearestShade_39 rfl (lv_at hl 3 rfl) ?_
        refine lv_icmp_ne (tgt := 49) hC.1 hC.2.1 dX2_nearestShade_40 (by decide) (fun b5 => ?_) (fun b5 => ?_)
        · have hF := ifN hF b5
          exact w_X2_nearestShade_49 hC (hk_13 := ih) hk0 hF hw (lv_sub hl [0, 1, 2, 3, 4, 5] rfl)
        · have hF := ifP hF b5
          refine lv_iload hC.1 hC.2.1 dX2_nearestShade_43 (lv_at hl 4 rfl) ?_
          refine lv_iload hC.1 hC.2.1 dX2_nearestShade_45 (lv_at hl 5 rfl) ?_
          refine lv_isub hC.1 hC.2.1 dX2_nearestShade_47 ?_
          exact r_iretP hC hw hF dX2_nearestShade_48
def F_X2_nearestShade (fu : Nat) (M : Mm) (c0 : Nat) (x1 : Int32) (x2 : Int32) (x3 : Int32) : Option Int32 :=
  ob1 (F_X6_read fu M (c0 + 5) x1) (fun r2 =>
  F_X2_nearestShade_13 fu M fu c0 x1 x2 x3 r2 (0 : Int32))
set_option maxRecDepth 100000 in
set_option maxHeartbeats 4000000 in
theorem c_X2_nearestShade {l : Launch} {G : Gv} {fu : Nat} {M : Mm} {c0 : Nat} {x1 : Int32} {x2 : Int32} {x3 : Int32} (hk0 : kd c0 = 11) {r : Int32} (hF : F_X2_nearestShade fu M c0 x1 x2 x3 = some r) : Met l yX2_nearestShade (.code yX2_nearestShade cX2_nearestShade 6 (some .int) :: zU) rm_X2_nearestShade (va_Pc [.ref (ad G c0), .int x1, .int x2, .int x3] (Wd G M)) (QI G r M) 0 0 (zA G) := by
  refine zMet (by decide) rfl (Nat.le_of_ble_eq_true rfl) ?_
  intro p e s m below meth c hC hw ls hl
  have hl : lv_has ls 6 [(0, .ref (ad G c0)), (1, .int x1), (2, .int x2), (3, .int x3)] := hl
  unfold F_X2_nearestShade at hF
  refine lv_aload_n hC.1 hC.2.1 dX2_nearestShade_0 rfl (lv_at hl 0 rfl) ?_
  refine g2_shadeOf hC hw hk0 q1_43 dX2_nearestShade_1 ?_
  refine lv_iload_n hC.1 hC.2.1 dX2_nearestShade_4 rfl (lv_at hl 1 rfl) ?_
  obtain ⟨r2, h1, hF⟩ := ob1S hF
  refine k_Ni (As := [.ref (ad G (c0 + 5)), .int x1]) (rest := []) hC hw (c_X6_read (M := M) (kdN5 hk0) h1) ys_X6_read (k := 6) rfl ⟨rfl, rfl⟩ ⟨Nat.le_of_ble_eq_true rfl, Nat.le_of_ble_eq_true rfl⟩ ⟨Nat.zero_le _, Nat.zero_le _⟩ rfl rfl (Nat.le_of_ble_eq_true rfl) hl dX2_nearestShade_5 (fun H locs hw => ?_)
  refine lv_istore (lv' := [(4, .int r2), (0, .ref (ad G c0)), (1, .int x1), (2, .int x2), (3, .int x3)]) hC.1 hC.2.1 dX2_nearestShade_8 hl (by decide) rfl (fun ls hl => ?_)
  refine lv_iconst (v := (0 : Int32)) hC.1 hC.2.1 dX2_nearestShade_10 (by decide) ?_
  refine lv_istore (lv' := [(5, .int (0 : Int32)), (4, .int r2), (0, .ref (ad G c0)), (1, .int x1), (2, .int x2), (3, .int x3)]) hC.1 hC.2.1 dX2_nearestShade_11 hl (by decide) rfl (fun ls hl => ?_)
  exact w_X2_nearestShade_13 hC _ hk0 hF hw (lv_sub hl [2, 3, 4, 5, 1, 0] rfl)
abbrev rm_X2_bulkOfAll : Room := { frames := 1, cells := 0, slots := 0, locals := 21 }
theorem yv_X2_bulkOfAll : YV yX2_bulkOfAll cX2_bulkOfAll 3 (some .int) 0 RX2 := ⟨⟨q3_107, q3_108, q1_2, q3_109⟩, by decide +kernel⟩
theorem dX2_bulkOfAll_0 : decode cX2_bulkOfAll 0 = .ok (.iconst 0, 1) := by decide +kernel
theorem dX2_bulkOfAll_1 : decode cX2_bulkOfAll 1 = .ok (.istore_n 1, 1) := by decide +kernel
theorem dX2_bulkOfAll_2 : decode cX2_bulkOfAll 2 = .ok (.iconst 0, 1) := by decide +kernel
theorem dX2_bulkOfAll_3 : decode cX2_bulkOfAll 3 = .ok (.istore_n 2, 1) := by decide +kernel
theorem dX2_bulkOfAll_4 : decode cX2_bulkOfAll 4 = .ok (.iload_n 2, 1) := by decide +kernel
theorem dX2_bulkOfAll_5 : decode cX2_bulkOfAll 5 = .ok (.aload_n 0, 1) := by decide +kernel
theorem dX2_bulkOfAll_6 : decode cX2_bulkOfAll 6 = .ok (.getfield 48, 3) := by decide +kernel
theorem dX2_bulkOfAll_9 : decode cX2_bulkOfAll 9 = .ok (.if_icmp .ge 20, 3) := by decide +kernel
theorem dX2_bulkOfAll_12 : decode cX2_bulkOfAll 12 = .ok (.iload_n 1, 1) := by decide +kernel
theorem dX2_bulkOfAll_13 : decode cX2_bulkOfAll 13 = .ok (.aload_n 0, 1) := by decide +kernel
theorem dX2_bulkOfAll_14 : decode cX2_bulkOfAll 14 = .ok (.getfield 21, 3) := by decide +kernel
theorem dX2_bulkOfAll_17 : decode cX2_bulkOfAll 17 = .ok (.iload_n 2, 1) := by decide +kernel
theorem dX2_bulkOfAll_18 : decode cX2_bulkOfAll 18 = .ok (.invokestatic 81, 3) := by decide +kernel
theorem dX2_bulkOfAll_21 : decode cX2_bulkOfAll 21 = .ok (.iadd, 1) := by decide +kernel
theorem dX2_bulkOfAll_22 : decode cX2_bulkOfAll 22 = .ok (.istore_n 1, 1) := by decide +kernel
theorem dX2_bulkOfAll_23 : decode cX2_bulkOfAll 23 = .ok (.iinc 2 1, 3) := by decide +kernel
theorem dX2_bulkOfAll_26 : decode cX2_bulkOfAll 26 = .ok (.goto (-22), 3) := by decide +kernel
theorem dX2_bulkOfAll_29 : decode cX2_bulkOfAll 29 = .ok (.iload_n 1, 1) := by decide +kernel
theorem dX2_bulkOfAll_30 : decode cX2_bulkOfAll 30 = .ok (.ireturn, 1) := by decide +kernel
def F_X2_bulkOfAll_4 (fu : Nat) (M : Mm) : Nat → Nat → Int32 → Int32 → Option Int32
  | 0, _, _, _ => none
  | n + 1, c0, x1, x2 =>
    if (M.1 c0 0) ≤ x2 then
      some x1
    else
      ob1 (F_X6_read fu M (c0 + 4) x2) (fun r3 =>
      F_X2_bulkOfAll_4 fu M n c0 (x1 + r3) (x2 + (1 : Int32)))
set_option maxRecDepth 100000 in
set_option maxHeartbeats 4000000 in
theorem w_X2_bulkOfAll_4 {p : Program} {l : Launch} {e : Env} {s : State} {m : MethodId} {args : Array Value} {below : List Frame} {meth : Method} {c : Code} {G : Gv} (hC : Cx p s m args meth c cX2_bulkOfAll 3 (some .int) RX2) {fu : Nat} {r : Int32} {M : Mm} : ∀ (n : Nat) {c0 : Nat} {x1 : Int32} {x2 : Int32} {H : Heap} {locs : List Loc} {ls : Array Slot} (hk0 : kd c0 = 11), F_X2_bulkOfAll_4 fu M n c0 x1 x2 = some r → St G s H locs M → lv_has ls 3 [(0, .ref (ad G c0)), (1, .int x1), (2, .int x2)] → W p l e rm_X2_bulkOfAll s m args below meth c H locs 0 0 (MQ below (QI G r M) args s 0 0 (zA G)) (F0 m 4 ls []) := by
  intro n
  induction n with
  | zero =>
    intro c0 x1 x2 H locs ls hk0 hF hw hl
    cases hF
  | succ n ih =>
    intro c0 x1 x2 H locs ls hk0 hF hw hl
    unfold F_X2_bulkOfAll_4 at hF
    refine lv_iload_n hC.1 hC.2.1 dX2_bulkOfAll_4 rfl (lv_at hl 2 rfl) ?_
    refine lv_aload_n hC.1 hC.2.1 dX2_bulkOfAll_5 rfl (lv_at hl 0 rfl) ?_
    refine g2_men hC hw hk0 q1_28 dX2_bulkOfAll_6 ?_
    refine lv_icmp_ge (tgt := 29) hC.1 hC.2.1 dX2_bulkOfAll_9 (by decide) (fun b1 => ?_) (fun b1 => ?_)
    · have hF := ifP hF b1
      refine lv_iload_n hC.1 hC.2.1 dX2_bulkOfAll_29 rfl (lv_at hl 1 rfl) ?_
      exact r_iretP hC hw hF dX2_bulkOfAll_30
    · have hF := ifN hF b1
      refine lv_iload_n hC.1 hC.2.1 dX2_bulkOfAll_12 rfl (lv_at hl 1 rfl) ?_
      refine lv_aload_n hC.1 hC.2.1 dX2_bulkOfAll_13 rfl (lv_at hl 0 rfl) ?_
      refine g2_bulkOf hC hw hk0 q1_40 dX2_bulkOfAll_14 ?_
      refine lv_iload_n hC.1 hC.2.1 dX2_bulkOfAll_17 rfl (lv_at hl 2 rfl) ?_
      obtain ⟨r3, h2, hF⟩ := ob1S hF
      refine k_Ni (As := [.ref (ad G (c0 + 4)), .int x2]) (rest := [.int x1]) hC hw (c_X6_read (M := M) (kdN4 hk0) h2) ys_X6_read (k := 6) rfl ⟨rfl, rfl⟩ ⟨Nat.le_of_ble_eq_true rfl, Nat.le_of_ble_eq_true rfl⟩ ⟨Nat.zero_le _, Nat.zero_le _⟩ rfl rfl (Nat.le_of_ble_eq_true rfl) hl dX2_bulkOfAll_18 (fun H locs hw => ?_)
      refine lv_iadd hC.1 hC.2.1 dX2_bulkOfAll_21 ?_
      refine lv_istore_n (lv' := [(1, .int (x1 + r3)), (0, .ref (ad G c0)), (2, .int x2)]) hC.1 hC.2.1 dX2_bulkOfAll_22 rfl hl (by decide) rfl (fun ls hl => ?_)
      refine lv_iinc (v := (x2 + (1 : Int32))) (lv' := [(2, .int (x2 + (1 : Int32))), (1, .int (x1 + r3)), (0, .ref (ad G c0))]) hC.1 hC.2.1 dX2_bulkOfAll_23 hl (k := 2) rfl rfl (by decide) rfl (fun ls hl => ?_)
      refine lv_goto (tgt := 4) hC.1 hC.2.1 dX2_bulkOfAll_26 (by decide) ?_
      exact ih hk0 hF hw (lv_sub hl [2, 1, 0] rfl)
def F_X2_bulkOfAll (fu : Nat) (M : Mm) (c0 : Nat) : Option Int32 :=
  F_X2_bulkOfAll_4 fu M fu c0 (0 : Int32) (0 : Int32)
set_option maxRecDepth 100000 in
set_option maxHeartbeats 4000000 in
theorem c_X2_bulkOfAll {l : Launch} {G : Gv} {fu : Nat} {M : Mm} {c0 : Nat} (hk0 : kd c0 = 11) {r : Int32} (hF : F_X2_bulkOfAll fu M c0 = some r) : Met l yX2_bulkOfAll (.code yX2_bulkOfAll cX2_bulkOfAll 3 (some .int) :: zU) rm_X2_bulkOfAll (va_Pc [.ref (ad G c0)] (Wd G M)) (QI G r M) 0 0 (zA G) := by
  refine zMet (by decide) rfl (Nat.le_of_ble_eq_true rfl) ?_
  intro p e s m below meth c hC hw ls hl
  have hl : lv_has ls 3 [(0, .ref (ad G c0))] := hl
  unfold F_X2_bulkOfAll at hF
  refine lv_iconst (v := (0 : Int32)) hC.1 hC.2.1 dX2_bulkOfAll_0 (by decide) ?_
  refine lv_istore_n (lv' := [(1, .int (0 : Int32)), (0, .ref (ad G c0))]) hC.1 hC.2.1 dX2_bulkOfAll_1 rfl hl (by decide) rfl (fun ls hl => ?_)
  refine lv_iconst (v := (0 : Int32)) hC.1 hC.2.1 dX2_bulkOfAll_2 (by decide) ?_
  refine lv_istore_n (lv' := [(2, .int (0 : Int32)), (1, .int (0 : Int32)), (0, .ref (ad G c0))]) hC.1 hC.2.1 dX2_bulkOfAll_3 rfl hl (by decide) rfl (fun ls hl => ?_)
  exact w_X2_bulkOfAll_4 hC _ hk0 hF hw (lv_sub hl [2, 1, 0] rfl)
abbrev rm_X6_isOfKind : Room := { frames := 0, cells := 0, slots := 0, locals := 0 }
theorem ys_X6_isOfKind : YS yX6_isOfKind cX6_isOfKind 2 (some .boolean) 2 := ⟨⟨q3_115, q1_1, q3_116⟩, by decide +kernel⟩
theorem dX6_isOfKind_0 : decode cX6_isOfKind 0 = .ok (.iload_n 0, 1) := by decide +kernel
theorem dX6_isOfKind_1 : decode cX6_isOfKind 1 = .ok (.iload_n 1, 1) := by decide +kernel
theorem dX6_isOfKind_2 : decode cX6_isOfKind 2 = .ok (.if_icmp .eq 18, 3) := by decide +kernel
theorem dX6_isOfKind_5 : decode cX6_isOfKind 5 = .ok (.iload_n 1, 1) := by decide +kernel
theorem dX6_isOfKind_6 : decode cX6_isOfKind 6 = .ok (.iconst 1, 1) := by decide +kernel
theorem dX6_isOfKind_7 : decode cX6_isOfKind 7 = .ok (.if_icmp .ne 17, 3) := by decide +kernel
theorem dX6_isOfKind_10 : decode cX6_isOfKind 10 = .ok (.iload_n 0, 1) := by decide +kernel
theorem dX6_isOfKind_11 : decode cX6_isOfKind 11 = .ok (.iconst 4, 1) := by decide +kernel
theorem dX6_isOfKind_12 : decode cX6_isOfKind 12 = .ok (.if_icmp .eq 8, 3) := by decide +kernel
theorem dX6_isOfKind_15 : decode cX6_isOfKind 15 = .ok (.iload_n 0, 1) := by decide +kernel
theorem dX6_isOfKind_16 : decode cX6_isOfKind 16 = .ok (.iconst 5, 1) := by decide +kernel
theorem dX6_isOfKind_17 : decode cX6_isOfKind 17 = .ok (.if_icmp .ne 7, 3) := by decide +kernel
theorem dX6_isOfKind_20 : decode cX6_isOfKind 20 = .ok (.iconst 1, 1) := by decide +kernel
theorem dX6_isOfKind_21 : decode cX6_isOfKind 21 = .ok (.goto 4, 3) := by decide +kernel
theorem dX6_isOfKind_24 : decode cX6_isOfKind 24 = .ok (.iconst 0, 1) := by decide +kernel
theorem dX6_isOfKind_25 : decode cX6_isOfKind 25 = .ok (.ireturn, 1) := by decide +kernel
def F_X6_isOfKind (fu : Nat) (M : Mm) (x0 : Int32) (x1 : Int32) : Option Int32 :=
  if x0 = x1 then
    some (1 : Int32)
  else
    if x1 = (1 : Int32) then
      if x0 = (4 : Int32) then
        some (1 : Int32)
      else
        if x0 = (5 : Int32) then
          some (1 : Int32)
        else
          some (0 : Int32)
    else
      some (0 : Int32)
set_option maxRecDepth 100000 in
set_option maxHeartbeats 4000000 in
theorem c_X6_isOfKind {l : Launch} {G : Gv} {fu : Nat} {M : Mm} {x0 : Int32} {x1 : Int32} {r : Int32} (hF : F_X6_isOfKind fu M x0 x1 = some r) : Met l yX6_isOfKind (.code yX6_isOfKind cX6_isOfKind 2 (some .boolean) :: zU) rm_X6_isOfKind (va_Pc [.int x0, .int x1] (Wd G M)) (QI G r M) 0 0 (zA G) := by
  refine zMet (by decide) rfl (Nat.le_of_ble_eq_true rfl) ?_
  intro p e s m below meth c hC hw ls hl
  have hl : lv_has ls 2 [(0, .int x0), (1, .int x1)] := hl
  unfold F_X6_isOfKind at hF
  refine lv_iload_n hC.1 hC.2.1 dX6_isOfKind_0 rfl (lv_at hl 0 rfl) ?_
  refine lv_iload_n hC.1 hC.2.1 dX6_isOfKind_1 rfl (lv_at hl 1 rfl) ?_
  refine lv_icmp_eq (tgt := 20) hC.1 hC.2.1 dX6_isOfKind_2 (by decide) (fun b1 => ?_) (fun b1 => ?_)
  · have hF := ifP hF b1
    refine lv_iconst (v := (1 : Int32)) hC.1 hC.2.1 dX6_isOfKind_20 (by decide) ?_
    refine lv_goto (tgt := 25) hC.1 hC.2.1 dX6_isOfKind_21 (by decide) ?_
    exact r_zretP hC hw (by decide) hF dX6_isOfKind_25
  · have hF := ifN hF b1
    refine lv_iload_n hC.1 hC.2.1 dX6_isOfKind_5 rfl (lv_at hl 1 rfl) ?_
    refine lv_iconst (v := (1 : Int32)) hC.1 hC.2.1 dX6_isOfKind_6 (by decide) ?_
    refine lv_icmp_ne (tgt := 24) hC.1 hC.2.1 dX6_isOfKind_7 (by decide) (fun b2 => ?_) (fun b2 => ?_)
    · have hF := ifN hF b2
      refine lv_iconst (v := (0 : Int32)) hC.1 hC.2.1 dX6_isOfKind_24 (by decide) ?_
      exact r_zretP hC hw (by decide) hF dX6_isOfKind_25
    · have hF := ifP hF b2
      refine lv_iload_n hC.1 hC.2.1 dX6_isOfKind_10 rfl (lv_at hl 0 rfl) ?_
      refine lv_iconst (v := (4 : Int32)) hC.1 hC.2.1 dX6_isOfKind_11 (by decide) ?_
      refine lv_icmp_eq (tgt := 20) hC.1 hC.2.1 dX6_isOfKind_12 (by decide) (fun b3 => ?_) (fun b3 => ?_)
      · have hF := ifP hF b3
        refine lv_iconst (v := (1 : Int32)) hC.1 hC.2.1 dX6_isOfKind_20 (by decide) ?_
        refine lv_goto (tgt := 25) hC.1 hC.2.1 dX6_isOfKind_21 (by decide) ?_
        exact r_zretP hC hw (by decide) hF dX6_isOfKind_25
      · have hF := ifN hF b3
        refine lv_iload_n hC.1 hC.2.1 dX6_isOfKind_15 rfl (lv_at hl 0 rfl) ?_
        refine lv_iconst (v := (5 : Int32)) hC.1 hC.2.1 dX6_isOfKind_16 (by decide) ?_
        refine lv_icmp_ne (tgt := 24) hC.1 hC.2.1 dX6_isOfKind_17 (by decide) (fun b4 => ?_) (fun b4 => ?_)
        · have hF := ifN hF b4
          refine lv_iconst (v := (0 : Int32)) hC.1 hC.2.1 dX6_isOfKind_24 (by decide) ?_
          exact r_zretP hC hw (by decide) hF dX6_isOfKind_25
        · have hF := ifP hF b4
          refine lv_iconst (v := (1 : Int32)) hC.1 hC.2.1 dX6_isOfKind_20 (by decide) ?_
          refine lv_goto (tgt := 25) hC.1 hC.2.1 dX6_isOfKind_21 (by decide) ?_
          exact r_zretP hC hw (by decide) hF dX6_isOfKind_25
abbrev rm_X2_hattedOnes : Room := { frames := 1, cells := 0, slots := 0, locals := 21 }
theorem yv_X2_hattedOnes : YV yX2_hattedOnes cX2_hattedOnes 3 (some .int) 0 RX2 := ⟨⟨q3_111, q3_112, q1_2, q3_113⟩, by decide +kernel⟩
theorem dX2_hattedOnes_0 : decode cX2_hattedOnes 0 = .ok (.iconst 0, 1) := by decide +kernel
theorem dX2_hattedOnes_1 : decode cX2_hattedOnes 1 = .ok (.istore_n 1, 1) := by decide +kernel
theorem dX2_hattedOnes_2 : decode cX2_hattedOnes 2 = .ok (.iconst 0, 1) := by decide +kernel
theorem dX2_hattedOnes_3 : decode cX2_hattedOnes 3 = .ok (.istore_n 2, 1) := by decide +kernel
theorem dX2_hattedOnes_4 : decode cX2_hattedOnes 4 = .ok (.iload_n 2, 1) := by decide +kernel
theorem dX2_hattedOnes_5 : decode cX2_hattedOnes 5 = .ok (.aload_n 0, 1) := by decide +kernel
theorem dX2_hattedOnes_6 : decode cX2_hattedOnes 6 = .ok (.getfield 48, 3) := by decide +kernel
theorem dX2_hattedOnes_9 : decode cX2_hattedOnes 9 = .ok (.if_icmp .ge 27, 3) := by decide +kernel
theorem dX2_hattedOnes_12 : decode cX2_hattedOnes 12 = .ok (.aload_n 0, 1) := by decide +kernel
theorem dX2_hattedOnes_13 : decode cX2_hattedOnes 13 = .ok (.getfield 15, 3) := by decide +kernel
theorem dX2_hattedOnes_16 : decode cX2_hattedOnes 16 = .ok (.iload_n 2, 1) := by decide +kernel
theorem dX2_hattedOnes_17 : decode cX2_hattedOnes 17 = .ok (.invokestatic 81, 3) := by decide +kernel
theorem dX2_hattedOnes_20 : decode cX2_hattedOnes 20 = .ok (.iconst 1, 1) := by decide +kernel
theorem dX2_hattedOnes_21 : decode cX2_hattedOnes 21 = .ok (.invokestatic 143, 3) := by decide +kernel
theorem dX2_hattedOnes_24 : decode cX2_hattedOnes 24 = .ok (.ifCond .eq 6, 3) := by decide +kernel
theorem dX2_hattedOnes_27 : decode cX2_hattedOnes 27 = .ok (.iinc 1 1, 3) := by decide +kernel
theorem dX2_hattedOnes_30 : decode cX2_hattedOnes 30 = .ok (.iinc 2 1, 3) := by decide +kernel
theorem dX2_hattedOnes_33 : decode cX2_hattedOnes 33 = .ok (.goto (-29), 3) := by decide +kernel
theorem dX2_hattedOnes_36 : decode cX2_hattedOnes 36 = .ok (.iload_n 1, 1) := by decide +kernel
theorem dX2_hattedOnes_37 : decode cX2_hattedOnes 37 = .ok (.ireturn, 1) := by decide +kernel
def F_X2_hattedOnes_4 (fu : Nat) (M : Mm) : Nat → Nat → Int32 → Int32 → Option Int32
  | 0, _, _, _ => none
  | n + 1, c0, x1, x2 =>
    if (M.1 c0 0) ≤ x2 then
      some x1
    else
      ob1 (F_X6_read fu M (c0 + 2) x2) (fun r3 =>
      ob1 (F_X6_isOfKind fu M r3 (1 : Int32)) (fun r5 =>
      if r5 = 0 then
        F_X2_hattedOnes_4 fu M n c0 x1 (x2 + (1 : Int32))
      else
        F_X2_hattedOnes_4 fu M n c0 (x1 + (1 : Int32)) (x2 + (1 : Int32))))
set_option maxRecDepth 100000 in
set_option maxHeartbeats 4000000 in
theorem w_X2_hattedOnes_4 {p : Program} {l : Launch} {e : Env} {s : State} {m : MethodId} {args : Array Value} {below : List Frame} {meth : Method} {c : Code} {G : Gv} (hC : Cx p s m args meth c cX2_hattedOnes 3 (some .int) RX2) {fu : Nat} {r : Int32} {M : Mm} : ∀ (n : Nat) {c0 : Nat} {x1 : Int32} {x2 : Int32} {H : Heap} {locs : List Loc} {ls : Array Slot} (hk0 : kd c0 = 11), F_X2_hattedOnes_4 fu M n c0 x1 x2 = some r → St G s H locs M → lv_has ls 3 [(0, .ref (ad G c0)), (1, .int x1), (2, .int x2)] → W p l e rm_X2_hattedOnes s m args below meth c H locs 0 0 (MQ below (QI G r M) args s 0 0 (zA G)) (F0 m 4 ls []) := by
  intro n
  induction n with
  | zero =>
    intro c0 x1 x2 H locs ls hk0 hF hw hl
    cases hF
  | succ n ih =>
    intro c0 x1 x2 H locs ls hk0 hF hw hl
    unfold F_X2_hattedOnes_4 at hF
    refine lv_iload_n hC.1 hC.2.1 dX2_hattedOnes_4 rfl (lv_at hl 2 rfl) ?_
    refine lv_aload_n hC.1 hC.2.1 dX2_hattedOnes_5 rfl (lv_at hl 0 rfl) ?_
    refine g2_men hC hw hk0 q1_28 dX2_hattedOnes_6 ?_
    refine lv_icmp_ge (tgt := 36) hC.1 hC.2.1 dX2_hattedOnes_9 (by decide) (fun b1 => ?_) (fun b1 => ?_)
    · have hF := ifP hF b1
      refine lv_iload_n hC.1 hC.2.1 dX2_hattedOnes_36 rfl (lv_at hl 1 rfl) ?_
      exact r_iretP hC hw hF dX2_hattedOnes_37
    · have hF := ifN hF b1
      refine lv_aload_n hC.1 hC.2.1 dX2_hattedOnes_12 rfl (lv_at hl 0 rfl) ?_
      refine g2_kindOf hC hw hk0 q1_37 dX2_hattedOnes_13 ?_
      refine lv_iload_n hC.1 hC.2.1 dX2_hattedOnes_16 rfl (lv_at hl 2 rfl) ?_
      obtain ⟨r3, h2, hF⟩ := ob1S hF
      refine k_Ni (As := [.ref (ad G (c0 + 2)), .int x2]) (rest := []) hC hw (c_X6_read (M := M) (kdN2 hk0) h2) ys_X6_read (k := 6) rfl ⟨rfl, rfl⟩ ⟨Nat.le_of_ble_eq_true rfl, Nat.le_of_ble_eq_true rfl⟩ ⟨Nat.zero_le _, Nat.zero_le _⟩ rfl rfl (Nat.le_of_ble_eq_true rfl) hl dX2_hattedOnes_17 (fun H locs hw => ?_)
      refine lv_iconst (v := (1 : Int32)) hC.1 hC.2.1 dX2_hattedOnes_20 (by decide) ?_
      obtain ⟨r5, h4, hF⟩ := ob1S hF
      refine k_Ni (As := [.int r3, .int (1 : Int32)]) (rest := []) hC hw (c_X6_isOfKind (M := M) h4) ys_X6_isOfKind (k := 12) rfl ⟨rfl, rfl⟩ ⟨Nat.le_of_ble_eq_true rfl, Nat.le_of_ble_eq_true rfl⟩ ⟨Nat.zero_le _, Nat.zero_le _⟩ rfl rfl (Nat.le_of_ble_eq_true rfl) hl dX2_hattedOnes_21 (fun H locs hw => ?_)
      refine lv_if_eq (tgt := 30) hC.1 hC.2.1 dX2_hattedOnes_24 (by decide) (fun b6 => ?_) (fun b6 => ?_)
      · have hF := ifP hF b6
        refine lv_iinc (v := (x2 + (1 : Int32))) (lv' := [(2, .int (x2 + (1 : Int32))), (0, .ref (ad G c0)), (1, .int x1)]) hC.1 hC.2.1 dX2_hattedOnes_30 hl (k := 2) rfl rfl (by decide) rfl (fun ls hl => ?_)
        refine lv_goto (tgt := 4) hC.1 hC.2.1 dX2_hattedOnes_33 (by decide) ?_
        exact ih hk0 hF hw (lv_sub hl [1, 2, 0] rfl)
      · have hF := ifN hF b6
        refine lv_iinc (v := (x1 + (1 : Int32))) (lv' := [(1, .int (x1 + (1 : Int32))), (0, .ref (ad G c0)), (2, .int x2)]) hC.1 hC.2.1 dX2_hattedOnes_27 hl (k := 1) rfl rfl (by decide) rfl (fun ls hl => ?_)
        refine lv_iinc (v := (x2 + (1 : Int32))) (lv' := [(2, .int (x2 + (1 : Int32))), (1, .int (x1 + (1 : Int32))), (0, .ref (ad G c0))]) hC.1 hC.2.1 dX2_hattedOnes_30 hl (k := 2) rfl rfl (by decide) rfl (fun ls hl => ?_)
        refine lv_goto (tgt := 4) hC.1 hC.2.1 dX2_hattedOnes_33 (by decide) ?_
        exact ih hk0 hF hw (lv_sub hl [2, 1, 0] rfl)
def F_X2_hattedOnes (fu : Nat) (M : Mm) (c0 : Nat) : Option Int32 :=
  F_X2_hattedOnes_4 fu M fu c0 (0 : Int32) (0 : Int32)
set_option maxRecDepth 100000 in
set_option maxHeartbeats 4000000 in
theorem c_X2_hattedOnes {l : Launch} {G : Gv} {fu : Nat} {M : Mm} {c0 : Nat} (hk0 : kd c0 = 11) {r : Int32} (hF : F_X2_hattedOnes fu M c0 = some r) : Met l yX2_hattedOnes (.code yX2_hattedOnes cX2_hattedOnes 3 (some .int) :: zU) rm_X2_hattedOnes (va_Pc [.ref (ad G c0)] (Wd G M)) (QI G r M) 0 0 (zA G) := by
  refine zMet (by decide) rfl (Nat.le_of_ble_eq_true rfl) ?_
  intro p e s m below meth c hC hw ls hl
  have hl : lv_has ls 3 [(0, .ref (ad G c0))] := hl
  unfold F_X2_hattedOnes at hF
  refine lv_iconst (v := (0 : Int32)) hC.1 hC.2.1 dX2_hattedOnes_0 (by decide) ?_
  refine lv_istore_n (lv' := [(1, .int (0 : Int32)), (0, .ref (ad G c0))]) hC.1 hC.2.1 dX2_hattedOnes_1 rfl hl (by decide) rfl (fun ls hl => ?_)
  refine lv_iconst (v := (0 : Int32)) hC.1 hC.2.1 dX2_hattedOnes_2 (by decide) ?_
  refine lv_istore_n (lv' := [(2, .int (0 : Int32)), (1, .int (0 : Int32)), (0, .ref (ad G c0))]) hC.1 hC.2.1 dX2_hattedOnes_3 rfl hl (by decide) rfl (fun ls hl => ?_)
  exact w_X2_hattedOnes_4 hC _ hk0 hF hw (lv_sub hl [2, 1, 0] rfl)
abbrev rm_X5_sign : Room := { frames := 0, cells := 0, slots := 0, locals := 0 }
theorem yv_X5_sign : YV yX5_sign cX5_sign 2 (some .int) 1 RX5 := ⟨⟨q3_163, q3_164, q1_7, q3_165⟩, by decide +kernel⟩
theorem dX5_sign_0 : decode cX5_sign 0 = .ok (.iload_n 1, 1) := by decide +kernel
theorem dX5_sign_1 : decode cX5_sign 1 = .ok (.ifCond .lt 21, 3) := by decide +kernel
theorem dX5_sign_4 : decode cX5_sign 4 = .ok (.iload_n 1, 1) := by decide +kernel
theorem dX5_sign_5 : decode cX5_sign 5 = .ok (.aload_n 0, 1) := by decide +kernel
theorem dX5_sign_6 : decode cX5_sign 6 = .ok (.getfield 9, 3) := by decide +kernel
theorem dX5_sign_9 : decode cX5_sign 9 = .ok (.arraylength, 1) := by decide +kernel
theorem dX5_sign_10 : decode cX5_sign 10 = .ok (.if_icmp .ge 12, 3) := by decide +kernel
theorem dX5_sign_13 : decode cX5_sign 13 = .ok (.aload_n 0, 1) := by decide +kernel
theorem dX5_sign_14 : decode cX5_sign 14 = .ok (.getfield 9, 3) := by decide +kernel
theorem dX5_sign_17 : decode cX5_sign 17 = .ok (.iload_n 1, 1) := by decide +kernel
theorem dX5_sign_18 : decode cX5_sign 18 = .ok (.baload, 1) := by decide +kernel
theorem dX5_sign_19 : decode cX5_sign 19 = .ok (.goto 4, 3) := by decide +kernel
theorem dX5_sign_22 : decode cX5_sign 22 = .ok (.iconst 0, 1) := by decide +kernel
theorem dX5_sign_23 : decode cX5_sign 23 = .ok (.ireturn, 1) := by decide +kernel
def F_X5_sign (fu : Nat) (M : Mm) (c0 : Nat) (x1 : Int32) : Option Int32 :=
  if x1 < 0 then
    some (0 : Int32)
  else
    if (nI (ln (c0 + 4))) ≤ x1 then
      some (0 : Int32)
    else
      if x1 < 0 ∨ ln (c0 + 4) ≤ x1.toNatClampNeg then none else (
      some (M.1 (c0 + 4) x1.toNatClampNeg))
set_option maxRecDepth 100000 in
set_option maxHeartbeats 4000000 in
theorem c_X5_sign {l : Launch} {G : Gv} {fu : Nat} {M : Mm} {c0 : Nat} {x1 : Int32} (hk0 : kd c0 = 13) {r : Int32} (hF : F_X5_sign fu M c0 x1 = some r) : Met l yX5_sign (.code yX5_sign cX5_sign 2 (some .int) :: zU) rm_X5_sign (va_Pc [.ref (ad G c0), .int x1] (Wd G M)) (QI G r M) 0 0 (zA G) := by
  refine zMet (by decide) rfl (Nat.le_of_ble_eq_true rfl) ?_
  intro p e s m below meth c hC hw ls hl
  have hl : lv_has ls 2 [(0, .ref (ad G c0)), (1, .int x1)] := hl
  unfold F_X5_sign at hF
  refine lv_iload_n hC.1 hC.2.1 dX5_sign_0 rfl (lv_at hl 1 rfl) ?_
  refine lv_if_lt (tgt := 22) hC.1 hC.2.1 dX5_sign_1 (by decide) (fun b1 => ?_) (fun b1 => ?_)
  · have hF := ifP hF b1
    refine lv_iconst (v := (0 : Int32)) hC.1 hC.2.1 dX5_sign_22 (by decide) ?_
    exact r_iretP hC hw hF dX5_sign_23
  · have hF := ifN hF b1
    refine lv_iload_n hC.1 hC.2.1 dX5_sign_4 rfl (lv_at hl 1 rfl) ?_
    refine lv_aload_n hC.1 hC.2.1 dX5_sign_5 rfl (lv_at hl 0 rfl) ?_
    refine g5_signs hC hw hk0 q1_184 dX5_sign_6 ?_
    refine r_alenB hC.1 hC.2.1 hw (kdTc hk0) dX5_sign_9 ?_
    refine lv_icmp_ge (tgt := 22) hC.1 hC.2.1 dX5_sign_10 (by decide) (fun b2 => ?_) (fun b2 => ?_)
    · have hF := ifP hF b2
      refine lv_iconst (v := (0 : Int32)) hC.1 hC.2.1 dX5_sign_22 (by decide) ?_
      exact r_iretP hC hw hF dX5_sign_23
    · have hF := ifN hF b2
      refine lv_aload_n hC.1 hC.2.1 dX5_sign_13 rfl (lv_at hl 0 rfl) ?_
      refine g5_signs hC hw hk0 q1_184 dX5_sign_14 ?_
      refine lv_iload_n hC.1 hC.2.1 dX5_sign_17 rfl (lv_at hl 1 rfl) ?_
      obtain ⟨n3, hF⟩ := ifO hF
      refine r_bald hC.1 hC.2.1 hw (kdTc hk0) n3 dX5_sign_18 ?_
      refine lv_goto (tgt := 23) hC.1 hC.2.1 dX5_sign_19 (by decide) ?_
      exact r_iretP hC hw hF dX5_sign_23
abbrev rm_X3_takesSun : Room := { frames := 0, cells := 0, slots := 0, locals := 0 }
theorem yv_X3_takesSun : YV yX3_takesSun cX3_takesSun 2 (some .boolean) 1 RX3 := ⟨⟨q3_188, qs_25, q1_3, q3_189⟩, by decide +kernel⟩
theorem dX3_takesSun_0 : decode cX3_takesSun 0 = .ok (.iload_n 1, 1) := by decide +kernel
theorem dX3_takesSun_1 : decode cX3_takesSun 1 = .ok (.bipush 122, 2) := by decide +kernel
theorem dX3_takesSun_3 : decode cX3_takesSun 3 = .ok (.if_icmp .eq 5, 3) := by decide +kernel
theorem dX3_takesSun_6 : decode cX3_takesSun 6 = .ok (.iconst 0, 1) := by decide +kernel
theorem dX3_takesSun_7 : decode cX3_takesSun 7 = .ok (.ireturn, 1) := by decide +kernel
theorem dX3_takesSun_8 : decode cX3_takesSun 8 = .ok (.aload_n 0, 1) := by decide +kernel
theorem dX3_takesSun_9 : decode cX3_takesSun 9 = .ok (.iconst 1, 1) := by decide +kernel
theorem dX3_takesSun_10 : decode cX3_takesSun 10 = .ok (.putfield 27, 3) := by decide +kernel
theorem dX3_takesSun_13 : decode cX3_takesSun 13 = .ok (.iconst 1, 1) := by decide +kernel
theorem dX3_takesSun_14 : decode cX3_takesSun 14 = .ok (.ireturn, 1) := by decide +kernel
def F_X3_takesSun (fu : Nat) (M : Mm) (x1 : Int32) : Option (Int32 × Mm) :=
  if x1 = (122 : Int32) then
    lt1 (pI M 68 0 (1 : Int32)) (fun M2 =>
    some ((1 : Int32), M2))
  else
    some ((0 : Int32), M)
set_option maxRecDepth 100000 in
set_option maxHeartbeats 4000000 in
theorem c_X3_takesSun {l : Launch} {G : Gv} {fu : Nat} {M : Mm} {x1 : Int32} {r : Int32} {M' : Mm} (hF : F_X3_takesSun fu M x1 = some (r, M')) : Met l yX3_takesSun (.code yX3_takesSun cX3_takesSun 2 (some .boolean) :: zU) rm_X3_takesSun (va_Pc [.ref (ad G 68), .int x1] (Wd G M)) (QI G r M') 0 0 (zA G) := by
  refine zMet (by decide) rfl (Nat.le_of_ble_eq_true rfl) ?_
  intro p e s m below meth c hC hw ls hl
  have hl : lv_has ls 2 [(0, .ref (ad G 68)), (1, .int x1)] := hl
  unfold F_X3_takesSun at hF
  refine lv_iload_n hC.1 hC.2.1 dX3_takesSun_0 rfl (lv_at hl 1 rfl) ?_
  refine lv_bipush (v := (122 : Int32)) hC.1 hC.2.1 dX3_takesSun_1 (by decide) ?_
  refine lv_icmp_eq (tgt := 8) hC.1 hC.2.1 dX3_takesSun_3 (by decide) (fun b1 => ?_) (fun b1 => ?_)
  · have hF := ifP hF b1
    refine lv_aload_n hC.1 hC.2.1 dX3_takesSun_8 rfl (lv_at hl 0 rfl) ?_
    refine lv_iconst (v := (1 : Int32)) hC.1 hC.2.1 dX3_takesSun_9 (by decide) ?_
    refine u3_stage hC hw q1_87 dX3_takesSun_10 (fun H locs hw => ?_)
    obtain ⟨M2, hw, hF⟩ := lt1W hF hw
    refine lv_iconst (v := (1 : Int32)) hC.1 hC.2.1 dX3_takesSun_13 (by decide) ?_
    exact r_zretE hC hw (by decide) hF dX3_takesSun_14
  · have hF := ifN hF b1
    refine lv_iconst (v := (0 : Int32)) hC.1 hC.2.1 dX3_takesSun_6 (by decide) ?_
    exact r_zretE hC hw (by decide) hF dX3_takesSun_7
abbrev rm_X3_kindBy : Room := { frames := 0, cells := 0, slots := 0, locals := 0 }
theorem ys_X3_kindBy : YS yX3_kindBy cX3_kindBy 1 (some .int) 1 := ⟨⟨q3_195, q1_3, q3_196⟩, by decide +kernel⟩
theorem dX3_kindBy_0 : decode cX3_kindBy 0 = .ok (.iload_n 0, 1) := by decide +kernel
theorem dX3_kindBy_1 : decode cX3_kindBy 1 = .ok (.tableswitch 91 104 119 #[81, 89, 91, 91, 87, 79, 91, 91, 91, 91, 91, 85, 91, 91, 91, 83], 79) := by decide +kernel
theorem dX3_kindBy_80 : decode cX3_kindBy 80 = .ok (.iconst 0, 1) := by decide +kernel
theorem dX3_kindBy_81 : decode cX3_kindBy 81 = .ok (.ireturn, 1) := by decide +kernel
theorem dX3_kindBy_82 : decode cX3_kindBy 82 = .ok (.iconst 1, 1) := by decide +kernel
theorem dX3_kindBy_83 : decode cX3_kindBy 83 = .ok (.ireturn, 1) := by decide +kernel
theorem dX3_kindBy_84 : decode cX3_kindBy 84 = .ok (.iconst 2, 1) := by decide +kernel
theorem dX3_kindBy_85 : decode cX3_kindBy 85 = .ok (.ireturn, 1) := by decide +kernel
theorem dX3_kindBy_86 : decode cX3_kindBy 86 = .ok (.iconst 3, 1) := by decide +kernel
theorem dX3_kindBy_87 : decode cX3_kindBy 87 = .ok (.ireturn, 1) := by decide +kernel
theorem dX3_kindBy_88 : decode cX3_kindBy 88 = .ok (.iconst 4, 1) := by decide +kernel
theorem dX3_kindBy_89 : decode cX3_kindBy 89 = .ok (.ireturn, 1) := by decide +kernel
theorem dX3_kindBy_90 : decode cX3_kindBy 90 = .ok (.iconst 5, 1) := by decide +kernel
theorem dX3_kindBy_91 : decode cX3_kindBy 91 = .ok (.ireturn, 1) := by decide +kernel
theorem dX3_kindBy_92 : decode cX3_kindBy 92 = .ok (.bipush (-9), 2) := by decide +kernel
theorem dX3_kindBy_94 : decode cX3_kindBy 94 = .ok (.ireturn, 1) := by decide +kernel
def F_X3_kindBy (fu : Nat) (M : Mm) (x0 : Int32) : Option Int32 :=
  if x0 = (104 : Int32) then
    some (1 : Int32)
  else
  if x0 = (105 : Int32) then
    some (5 : Int32)
  else
  if x0 = (108 : Int32) then
    some (4 : Int32)
  else
  if x0 = (109 : Int32) then
    some (0 : Int32)
  else
  if x0 = (115 : Int32) then
    some (3 : Int32)
  else
  if x0 = (119 : Int32) then
    some (2 : Int32)
  else
  some (-9 : Int32)
set_option maxRecDepth 100000 in
set_option maxHeartbeats 4000000 in
theorem c_X3_kindBy {l : Launch} {G : Gv} {fu : Nat} {M : Mm} {x0 : Int32} {r : Int32} (hF : F_X3_kindBy fu M x0 = some r) : Met l yX3_kindBy (.code yX3_kindBy cX3_kindBy 1 (some .int) :: zU) rm_X3_kindBy (va_Pc [.int x0] (Wd G M)) (QI G r M) 0 0 (zA G) := by
  refine zMet (by decide) rfl (Nat.le_of_ble_eq_true rfl) ?_
  intro p e s m below meth c hC hw ls hl
  have hl : lv_has ls 1 [(0, .int x0)] := hl
  unfold F_X3_kindBy at hF
  refine lv_iload_n hC.1 hC.2.1 dX3_kindBy_0 rfl (lv_at hl 0 rfl) ?_
  rcases Classical.em (x0 = (104 : Int32)) with w1 | w1
  · have hF := ifP hF w1
    refine r_swI (v := (104 : Int32)) (off := 81) (tgt := 82) hC.1 hC.2.1 w1 dX3_kindBy_1 (by decide) (by decide) rfl (by decide) ?_
    refine lv_iconst (v := (1 : Int32)) hC.1 hC.2.1 dX3_kindBy_82 (by decide) ?_
    exact r_iretP hC hw hF dX3_kindBy_83
  have hF := ifN hF w1
  rcases Classical.em (x0 = (105 : Int32)) with w2 | w2
  · have hF := ifP hF w2
    refine r_swI (v := (105 : Int32)) (off := 89) (tgt := 90) hC.1 hC.2.1 w2 dX3_kindBy_1 (by decide) (by decide) rfl (by decide) ?_
    refine lv_iconst (v := (5 : Int32)) hC.1 hC.2.1 dX3_kindBy_90 (by decide) ?_
    exact r_iretP hC hw hF dX3_kindBy_91
  have hF := ifN hF w2
  rcases Classical.em (x0 = (108 : Int32)) with w3 | w3
  · have hF := ifP hF w3
    refine r_swI (v := (108 : Int32)) (off := 87) (tgt := 88) hC.1 hC.2.1 w3 dX3_kindBy_1 (by decide) (by decide) rfl (by decide) ?_
    refine lv_iconst (v := (4 : Int32)) hC.1 hC.2.1 dX3_kindBy_88 (by decide) ?_
    exact r_iretP hC hw hF dX3_kindBy_89
  have hF := ifN hF w3
  rcases Classical.em (x0 = (109 : Int32)) with w4 | w4
  · have hF := ifP hF w4
    refine r_swI (v := (109 : Int32)) (off := 79) (tgt := 80) hC.1 hC.2.1 w4 dX3_kindBy_1 (by decide) (by decide) rfl (by decide) ?_
    refine lv_iconst (v := (0 : Int32)) hC.1 hC.2.1 dX3_kindBy_80 (by decide) ?_
    exact r_iretP hC hw hF dX3_kindBy_81
  have hF := ifN hF w4
  rcases Classical.em (x0 = (115 : Int32)) with w5 | w5
  · have hF := ifP hF w5
    refine r_swI (v := (115 : Int32)) (off := 85) (tgt := 86) hC.1 hC.2.1 w5 dX3_kindBy_1 (by decide) (by decide) rfl (by decide) ?_
    refine lv_iconst (v := (3 : Int32)) hC.1 hC.2.1 dX3_kindBy_86 (by decide) ?_
    exact r_iretP hC hw hF dX3_kindBy_87
  have hF := ifN hF w5
  rcases Classical.em (x0 = (119 : Int32)) with w6 | w6
  · have hF := ifP hF w6
    refine r_swI (v := (119 : Int32)) (off := 83) (tgt := 84) hC.1 hC.2.1 w6 dX3_kindBy_1 (by decide) (by decide) rfl (by decide) ?_
    refine lv_iconst (v := (2 : Int32)) hC.1 hC.2.1 dX3_kindBy_84 (by decide) ?_
    exact r_iretP hC hw hF dX3_kindBy_85
  have hF := ifN hF w6
  refine r_swD (tgt := 92) (vs := [(104 : Int32), (105 : Int32), (108 : Int32), (109 : Int32), (115 : Int32), (119 : Int32)]) hC.1 hC.2.1 (List.forall_mem_cons.mpr ⟨w1, List.forall_mem_cons.mpr ⟨w2, List.forall_mem_cons.mpr ⟨w3, List.forall_mem_cons.mpr ⟨w4, List.forall_mem_cons.mpr ⟨w5, List.forall_mem_cons.mpr ⟨w6, fun v hv => absurd hv List.not_mem_nil⟩⟩⟩⟩⟩⟩) dX3_kindBy_1 (by decide) rfl (by decide) ?_
  refine lv_bipush (v := (-9 : Int32)) hC.1 hC.2.1 dX3_kindBy_92 (by decide) ?_
  exact r_iretP hC hw hF dX3_kindBy_94
abbrev rm_X3_takesLetter : Room := { frames := 1, cells := 0, slots := 0, locals := 22 }
theorem yv_X3_takesLetter : YV yX3_takesLetter cX3_takesLetter 3 (some .boolean) 1 RX3 := ⟨⟨q3_192, qs_26, q1_3, q3_193⟩, by decide +kernel⟩
theorem dX3_takesLetter_0 : decode cX3_takesLetter 0 = .ok (.iload_n 1, 1) := by decide +kernel
theorem dX3_takesLetter_1 : decode cX3_takesLetter 1 = .ok (.invokestatic 56, 3) := by decide +kernel
theorem dX3_takesLetter_4 : decode cX3_takesLetter 4 = .ok (.istore_n 2, 1) := by decide +kernel
theorem dX3_takesLetter_5 : decode cX3_takesLetter 5 = .ok (.iload_n 2, 1) := by decide +kernel
theorem dX3_takesLetter_6 : decode cX3_takesLetter 6 = .ok (.bipush (-9), 2) := by decide +kernel
theorem dX3_takesLetter_8 : decode cX3_takesLetter 8 = .ok (.if_icmp .eq 12, 3) := by decide +kernel
theorem dX3_takesLetter_11 : decode cX3_takesLetter 11 = .ok (.aload_n 0, 1) := by decide +kernel
theorem dX3_takesLetter_12 : decode cX3_takesLetter 12 = .ok (.getfield 31, 3) := by decide +kernel
theorem dX3_takesLetter_15 : decode cX3_takesLetter 15 = .ok (.bipush 6, 2) := by decide +kernel
theorem dX3_takesLetter_17 : decode cX3_takesLetter 17 = .ok (.if_icmp .lt 5, 3) := by decide +kernel
theorem dX3_takesLetter_20 : decode cX3_takesLetter 20 = .ok (.iconst 0, 1) := by decide +kernel
theorem dX3_takesLetter_21 : decode cX3_takesLetter 21 = .ok (.ireturn, 1) := by decide +kernel
theorem dX3_takesLetter_22 : decode cX3_takesLetter 22 = .ok (.aload_n 0, 1) := by decide +kernel
theorem dX3_takesLetter_23 : decode cX3_takesLetter 23 = .ok (.getfield 15, 3) := by decide +kernel
theorem dX3_takesLetter_26 : decode cX3_takesLetter 26 = .ok (.aload_n 0, 1) := by decide +kernel
theorem dX3_takesLetter_27 : decode cX3_takesLetter 27 = .ok (.getfield 31, 3) := by decide +kernel
theorem dX3_takesLetter_30 : decode cX3_takesLetter 30 = .ok (.iload_n 2, 1) := by decide +kernel
theorem dX3_takesLetter_31 : decode cX3_takesLetter 31 = .ok (.invokestatic 59, 3) := by decide +kernel
theorem dX3_takesLetter_34 : decode cX3_takesLetter 34 = .ok (.aload_n 0, 1) := by decide +kernel
theorem dX3_takesLetter_35 : decode cX3_takesLetter 35 = .ok (.bipush 11, 2) := by decide +kernel
theorem dX3_takesLetter_37 : decode cX3_takesLetter 37 = .ok (.putfield 27, 3) := by decide +kernel
theorem dX3_takesLetter_40 : decode cX3_takesLetter 40 = .ok (.iconst 1, 1) := by decide +kernel
theorem dX3_takesLetter_41 : decode cX3_takesLetter 41 = .ok (.ireturn, 1) := by decide +kernel
def F_X3_takesLetter (fu : Nat) (M : Mm) (x1 : Int32) : Option (Int32 × Mm) :=
  ob1 (F_X3_kindBy fu M x1) (fun r2 =>
  if r2 = (-9 : Int32) then
    some ((0 : Int32), M)
  else
    if (M.1 68 1) < (6 : Int32) then
      ob1 (F_X6_write fu M 70 (M.1 68 1) r2) (fun M6 =>
      lt1 (pI M6 68 0 (11 : Int32)) (fun M7 =>
      some ((1 : Int32), M7)))
    else
      some ((0 : Int32), M))
set_option maxRecDepth 100000 in
set_option maxHeartbeats 4000000 in
theorem c_X3_takesLetter {l : Launch} {G : Gv} {fu : Nat} {M : Mm} {x1 : Int32} {r : Int32} {M' : Mm} (hF : F_X3_takesLetter fu M x1 = some (r, M')) : Met l yX3_takesLetter (.code yX3_takesLetter cX3_takesLetter 3 (some .boolean) :: zU) rm_X3_takesLetter (va_Pc [.ref (ad G 68), .int x1] (Wd G M)) (QI G r M') 0 0 (zA G) := by
  refine zMet (by decide) rfl (Nat.le_of_ble_eq_true rfl) ?_
  intro p e s m below meth c hC hw ls hl
  have hl : lv_has ls 3 [(0, .ref (ad G 68)), (1, .int x1)] := hl
  unfold F_X3_takesLetter at hF
  refine lv_iload_n hC.1 hC.2.1 dX3_takesLetter_0 rfl (lv_at hl 1 rfl) ?_
  obtain ⟨r2, h1, hF⟩ := ob1S hF
  refine k_Si (As := [.int x1]) (rest := []) hC hw (c_X3_kindBy (M := M) h1) ys_X3_kindBy q3_194 ⟨rfl, rfl⟩ ⟨Nat.le_of_ble_eq_true rfl, Nat.le_of_ble_eq_true rfl⟩ ⟨Nat.zero_le _, Nat.zero_le _⟩ rfl rfl (Nat.le_of_ble_eq_true rfl) hl dX3_takesLetter_1 (fun H locs hw => ?_)
  refine lv_istore_n (lv' := [(2, .int r2), (0, .ref (ad G 68)), (1, .int x1)]) hC.1 hC.2.1 dX3_takesLetter_4 rfl hl (by decide) rfl (fun ls hl => ?_)
  refine lv_iload_n hC.1 hC.2.1 dX3_takesLetter_5 rfl (lv_at hl 0 rfl) ?_
  refine lv_bipush (v := (-9 : Int32)) hC.1 hC.2.1 dX3_takesLetter_6 (by decide) ?_
  refine lv_icmp_eq (tgt := 20) hC.1 hC.2.1 dX3_takesLetter_8 (by decide) (fun b3 => ?_) (fun b3 => ?_)
  · have hF := ifP hF b3
    refine lv_iconst (v := (0 : Int32)) hC.1 hC.2.1 dX3_takesLetter_20 (by decide) ?_
    exact r_zretE hC hw (by decide) hF dX3_takesLetter_21
  · have hF := ifN hF b3
    refine lv_aload_n hC.1 hC.2.1 dX3_takesLetter_11 rfl (lv_at hl 1 rfl) ?_
    refine g3_men hC hw q1_89 dX3_takesLetter_12 ?_
    refine lv_bipush (v := (6 : Int32)) hC.1 hC.2.1 dX3_takesLetter_15 (by decide) ?_
    refine lv_icmp_lt (tgt := 22) hC.1 hC.2.1 dX3_takesLetter_17 (by decide) (fun b4 => ?_) (fun b4 => ?_)
    · have hF := ifP hF b4
      refine lv_aload_n hC.1 hC.2.1 dX3_takesLetter_22 rfl (lv_at hl 1 rfl) ?_
      refine g3_kindOf hC hw q1_94 dX3_takesLetter_23 ?_
      refine lv_aload_n hC.1 hC.2.1 dX3_takesLetter_26 rfl (lv_at hl 1 rfl) ?_
      refine g3_men hC hw q1_89 dX3_takesLetter_27 ?_
      refine lv_iload_n hC.1 hC.2.1 dX3_takesLetter_30 rfl (lv_at hl 0 rfl) ?_
      obtain ⟨M6, h5, hF⟩ := ob1S hF
      refine k_Nv (As := [.ref (ad G 70), .int (M.1 68 1), .int r2]) (rest := []) hC hw (c_X6_write (M := M) (rfl : kd 70 = 1) h5) ys_X6_write (k := 13) rfl ⟨rfl, rfl⟩ ⟨Nat.le_of_ble_eq_true rfl, Nat.le_of_ble_eq_true rfl⟩ ⟨Nat.zero_le _, Nat.zero_le _⟩ rfl rfl (Nat.le_of_ble_eq_true rfl) hl dX3_takesLetter_31 (fun H locs hw => ?_)
      refine lv_aload_n hC.1 hC.2.1 dX3_takesLetter_34 rfl (lv_at hl 1 rfl) ?_
      refine lv_bipush (v := (11 : Int32)) hC.1 hC.2.1 dX3_takesLetter_35 (by decide) ?_
      refine u3_stage hC hw q1_87 dX3_takesLetter_37 (fun H locs hw => ?_)
      obtain ⟨M7, hw, hF⟩ := lt1W hF hw
      refine lv_iconst (v := (1 : Int32)) hC.1 hC.2.1 dX3_takesLetter_40 (by decide) ?_
      exact r_zretE hC hw (by decide) hF dX3_takesLetter_41
    · have hF := ifN hF b4
      refine lv_iconst (v := (0 : Int32)) hC.1 hC.2.1 dX3_takesLetter_20 (by decide) ?_
      exact r_zretE hC hw (by decide) hF dX3_takesLetter_21
