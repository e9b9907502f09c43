abbrev rm_X7_votesAs : Room := { frames := 5, cells := 0, slots := 0, locals := 116 }
theorem yv_X7_votesAs : YV yX7_votesAs cX7_votesAs 3 (some .int) 1 RX7 := ⟨⟨q5_129, qs_48, q1_8, q5_130⟩, by decide +kernel⟩
theorem dX7_votesAs_0 : decode cX7_votesAs 0 = .ok (.aload_n 0, 1) := by decide +kernel
theorem dX7_votesAs_1 : decode cX7_votesAs 1 = .ok (.iconst 0, 1) := by decide +kernel
theorem dX7_votesAs_2 : decode cX7_votesAs 2 = .ok (.invokevirtual 200, 3) := by decide +kernel
theorem dX7_votesAs_5 : decode cX7_votesAs 5 = .ok (.istore_n 2, 1) := by decide +kernel
theorem dX7_votesAs_6 : decode cX7_votesAs 6 = .ok (.iload_n 2, 1) := by decide +kernel
theorem dX7_votesAs_7 : decode cX7_votesAs 7 = .ok (.iload_n 1, 1) := by decide +kernel
theorem dX7_votesAs_8 : decode cX7_votesAs 8 = .ok (.ishr, 1) := by decide +kernel
theorem dX7_votesAs_9 : decode cX7_votesAs 9 = .ok (.iconst 1, 1) := by decide +kernel
theorem dX7_votesAs_10 : decode cX7_votesAs 10 = .ok (.iand, 1) := by decide +kernel
theorem dX7_votesAs_11 : decode cX7_votesAs 11 = .ok (.ifCond .ne 6, 3) := by decide +kernel
theorem dX7_votesAs_14 : decode cX7_votesAs 14 = .ok (.bipush (-9), 2) := by decide +kernel
theorem dX7_votesAs_16 : decode cX7_votesAs 16 = .ok (.ireturn, 1) := by decide +kernel
theorem dX7_votesAs_17 : decode cX7_votesAs 17 = .ok (.iload_n 1, 1) := by decide +kernel
theorem dX7_votesAs_18 : decode cX7_votesAs 18 = .ok (.ifCond .le 20, 3) := by decide +kernel
theorem dX7_votesAs_21 : decode cX7_votesAs 21 = .ok (.iload_n 2, 1) := by decide +kernel
theorem dX7_votesAs_22 : decode cX7_votesAs 22 = .ok (.iload_n 1, 1) := by decide +kernel
theorem dX7_votesAs_23 : decode cX7_votesAs 23 = .ok (.iconst 1, 1) := by decide +kernel
theorem dX7_votesAs_24 : decode cX7_votesAs 24 = .ok (.isub, 1) := by decide +kernel
theorem dX7_votesAs_25 : decode cX7_votesAs 25 = .ok (.ishr, 1) := by decide +kernel
theorem dX7_votesAs_26 : decode cX7_votesAs 26 = .ok (.iconst 1, 1) := by decide +kernel
theorem dX7_votesAs_27 : decode cX7_votesAs 27 = .ok (.iand, 1) := by decide +kernel
theorem dX7_votesAs_28 : decode cX7_votesAs 28 = .ok (.iconst 1, 1) := by decide +kernel
theorem dX7_votesAs_29 : decode cX7_votesAs 29 = .ok (.if_icmp .ne 9, 3) := by decide +kernel
theorem dX7_votesAs_32 : decode cX7_votesAs 32 = .ok (.iload_n 1, 1) := by decide +kernel
theorem dX7_votesAs_33 : decode cX7_votesAs 33 = .ok (.iconst 1, 1) := by decide +kernel
theorem dX7_votesAs_34 : decode cX7_votesAs 34 = .ok (.isub, 1) := by decide +kernel
theorem dX7_votesAs_35 : decode cX7_votesAs 35 = .ok (.goto 4, 3) := by decide +kernel
theorem dX7_votesAs_38 : decode cX7_votesAs 38 = .ok (.iload_n 1, 1) := by decide +kernel
theorem dX7_votesAs_39 : decode cX7_votesAs 39 = .ok (.ireturn, 1) := by decide +kernel
def F_X7_votesAs (fu : Nat) (M : Mm) (x1 : Int32) : Option Int32 :=
  ob1 (F_X7_whoThen fu M (0 : Int32)) (fun r2 =>
  if ((r2 >>> (x1 &&& 31)) &&& (1 : Int32)) = 0 then
    some (-9 : Int32)
  else
    if x1 ≤ 0 then
      some x1
    else
      if ((r2 >>> ((x1 - (1 : Int32)) &&& 31)) &&& (1 : Int32)) = (1 : Int32) then
        some (x1 - (1 : Int32))
      else
        some x1)
set_option maxRecDepth 100000 in
set_option maxHeartbeats 4000000 in
theorem c_X7_votesAs {l : Launch} {G : Gv} {fu : Nat} {M : Mm} {x1 : Int32} {r : Int32} (hF : F_X7_votesAs fu M x1 = some r) : Met l yX7_votesAs (.code yX7_votesAs cX7_votesAs 3 (some .int) :: zU) rm_X7_votesAs (va_Pc [.ref (ad G 86), .int x1] (Wd G M)) (QI G r M) 0 0 (zA G) := by
  refine zMet (by decide) rfl (Nat.le_of_ble_eq_true rfl) ?_
  intro p e s m below meth c hC hw ls hl
  have hl : lv_has ls 3 [(0, .ref (ad G 86)), (1, .int x1)] := hl
  unfold F_X7_votesAs at hF
  refine lv_aload_n hC.1 hC.2.1 dX7_votesAs_0 rfl (lv_at hl 0 rfl) ?_
  refine lv_iconst (v := (0 : Int32)) hC.1 hC.2.1 dX7_votesAs_1 (by decide) ?_
  obtain ⟨r2, h1, hF⟩ := ob1S hF
  refine k_Vi (As := [.int (0 : Int32)]) (rest := []) hC hw (c_X7_whoThen (M := M) h1) RC_X yv_X7_whoThen q5_97 ⟨rfl, rfl⟩ ⟨Nat.le_of_ble_eq_true rfl, Nat.le_of_ble_eq_true rfl⟩ ⟨Nat.zero_le _, Nat.zero_le _⟩ rfl rfl (Nat.le_of_ble_eq_true rfl) hl dX7_votesAs_2 (fun H locs hw => ?_)
  refine lv_istore_n (lv' := [(2, .int r2), (0, .ref (ad G 86)), (1, .int x1)]) hC.1 hC.2.1 dX7_votesAs_5 rfl hl (by decide) rfl (fun ls hl => ?_)
  refine lv_iload_n hC.1 hC.2.1 dX7_votesAs_6 rfl (lv_at hl 0 rfl) ?_
  refine lv_iload_n hC.1 hC.2.1 dX7_votesAs_7 rfl (lv_at hl 2 rfl) ?_
  refine lv_ishr hC.1 hC.2.1 dX7_votesAs_8 ?_
  refine lv_iconst (v := (1 : Int32)) hC.1 hC.2.1 dX7_votesAs_9 (by decide) ?_
  refine lv_iand hC.1 hC.2.1 dX7_votesAs_10 ?_
  refine lv_if_ne (tgt := 17) hC.1 hC.2.1 dX7_votesAs_11 (by decide) (fun b3 => ?_) (fun b3 => ?_)
  · have hF := ifN hF b3
    refine lv_iload_n hC.1 hC.2.1 dX7_votesAs_17 rfl (lv_at hl 2 rfl) ?_
    refine lv_if_le (tgt := 38) hC.1 hC.2.1 dX7_votesAs_18 (by decide) (fun b4 => ?_) (fun b4 => ?_)
    · have hF := ifP hF b4
      refine lv_iload_n hC.1 hC.2.1 dX7_votesAs_38 rfl (lv_at hl 2 rfl) ?_
      exact r_iretP hC hw hF dX7_votesAs_39
    · have hF := ifN hF b4
      refine lv_iload_n hC.1 hC.2.1 dX7_votesAs_21 rfl (lv_at hl 0 rfl) ?_
      refine lv_iload_n hC.1 hC.2.1 dX7_votesAs_22 rfl (lv_at hl 2 rfl) ?_
      refine lv_iconst (v := (1 : Int32)) hC.1 hC.2.1 dX7_votesAs_23 (by decide) ?_
      refine lv_isub hC.1 hC.2.1 dX7_votesAs_24 ?_
      refine lv_ishr hC.1 hC.2.1 dX7_votesAs_25 ?_
      refine lv_iconst (v := (1 : Int32)) hC.1 hC.2.1 dX7_votesAs_26 (by decide) ?_
      refine lv_iand hC.1 hC.2.1 dX7_votesAs_27 ?_
      refine lv_iconst (v := (1 : Int32)) hC.1 hC.2.1 dX7_votesAs_28 (by decide) ?_
      refine lv_icmp_ne (tgt := 38) hC.1 hC.2.1 dX7_votesAs_29 (by decide) (fun b5 => ?_) (fun b5 => ?_)
      · have hF := ifN hF b5
        refine lv_iload_n hC.1 hC.2.1 dX7_votesAs_38 rfl (lv_at hl 2 rfl) ?_
        exact r_iretP hC hw hF dX7_votesAs_39
      · have hF := ifP hF b5
        refine lv_iload_n hC.1 hC.2.1 dX7_votesAs_32 rfl (lv_at hl 2 rfl) ?_
        refine lv_iconst (v := (1 : Int32)) hC.1 hC.2.1 dX7_votesAs_33 (by decide) ?_
        refine lv_isub hC.1 hC.2.1 dX7_votesAs_34 ?_
        refine lv_goto (tgt := 39) hC.1 hC.2.1 dX7_votesAs_35 (by decide) ?_
        exact r_iretP hC hw hF dX7_votesAs_39
  · have hF := ifP hF b3
    refine lv_bipush (v := (-9 : Int32)) hC.1 hC.2.1 dX7_votesAs_14 (by decide) ?_
    exact r_iretP hC hw hF dX7_votesAs_16
abbrev rm_X7_smallDays : Room := { frames := 4, cells := 0, slots := 0, locals := 93 }
theorem yv_X7_smallDays : YV yX7_smallDays cX7_smallDays 5 (some .int) 1 RX7 := ⟨⟨q5_137, qs_50, q1_8, q5_138⟩, by decide +kernel⟩
theorem dX7_smallDays_0 : decode cX7_smallDays 0 = .ok (.iconst 0, 1) := by decide +kernel
theorem dX7_smallDays_1 : decode cX7_smallDays 1 = .ok (.istore_n 2, 1) := by decide +kernel
theorem dX7_smallDays_2 : decode cX7_smallDays 2 = .ok (.iconst 0, 1) := by decide +kernel
theorem dX7_smallDays_3 : decode cX7_smallDays 3 = .ok (.istore_n 3, 1) := by decide +kernel
theorem dX7_smallDays_4 : decode cX7_smallDays 4 = .ok (.iload_n 3, 1) := by decide +kernel
theorem dX7_smallDays_5 : decode cX7_smallDays 5 = .ok (.bipush 60, 2) := by decide +kernel
theorem dX7_smallDays_7 : decode cX7_smallDays 7 = .ok (.if_icmp .ge 39, 3) := by decide +kernel
theorem dX7_smallDays_10 : decode cX7_smallDays 10 = .ok (.aload_n 0, 1) := by decide +kernel
theorem dX7_smallDays_11 : decode cX7_smallDays 11 = .ok (.iload_n 1, 1) := by decide +kernel
theorem dX7_smallDays_12 : decode cX7_smallDays 12 = .ok (.iload_n 3, 1) := by decide +kernel
theorem dX7_smallDays_13 : decode cX7_smallDays 13 = .ok (.invokevirtual 184, 3) := by decide +kernel
theorem dX7_smallDays_16 : decode cX7_smallDays 16 = .ok (.istore 4, 2) := by decide +kernel
theorem dX7_smallDays_18 : decode cX7_smallDays 18 = .ok (.iload_n 2, 1) := by decide +kernel
theorem dX7_smallDays_19 : decode cX7_smallDays 19 = .ok (.iload 4, 2) := by decide +kernel
theorem dX7_smallDays_21 : decode cX7_smallDays 21 = .ok (.ifCond .le 16, 3) := by decide +kernel
theorem dX7_smallDays_24 : decode cX7_smallDays 24 = .ok (.iload 4, 2) := by decide +kernel
theorem dX7_smallDays_26 : decode cX7_smallDays 26 = .ok (.aload_n 0, 1) := by decide +kernel
theorem dX7_smallDays_27 : decode cX7_smallDays 27 = .ok (.getfield 164, 3) := by decide +kernel
theorem dX7_smallDays_30 : decode cX7_smallDays 30 = .ok (.if_icmp .ge 7, 3) := by decide +kernel
theorem dX7_smallDays_33 : decode cX7_smallDays 33 = .ok (.iconst 1, 1) := by decide +kernel
theorem dX7_smallDays_34 : decode cX7_smallDays 34 = .ok (.goto 4, 3) := by decide +kernel
theorem dX7_smallDays_37 : decode cX7_smallDays 37 = .ok (.iconst 0, 1) := by decide +kernel
theorem dX7_smallDays_38 : decode cX7_smallDays 38 = .ok (.iadd, 1) := by decide +kernel
theorem dX7_smallDays_39 : decode cX7_smallDays 39 = .ok (.istore_n 2, 1) := by decide +kernel
theorem dX7_smallDays_40 : decode cX7_smallDays 40 = .ok (.iinc 3 1, 3) := by decide +kernel
theorem dX7_smallDays_43 : decode cX7_smallDays 43 = .ok (.goto (-39), 3) := by decide +kernel
theorem dX7_smallDays_46 : decode cX7_smallDays 46 = .ok (.iload_n 2, 1) := by decide +kernel
theorem dX7_smallDays_47 : decode cX7_smallDays 47 = .ok (.ireturn, 1) := by decide +kernel
def F_X7_smallDays_4 (fu : Nat) (M : Mm) : Nat → Int32 → Int32 → Int32 → Option Int32
  | 0, _, _, _ => none
  | n + 1, x1, x2, x3 =>
    if (60 : Int32) ≤ x3 then
      some x2
    else
      ob1 (F_X7_bulkThen fu M x1 x3) (fun r3 =>
      if r3 ≤ 0 then
        F_X7_smallDays_4 fu M n x1 (x2 + (0 : Int32)) (x3 + (1 : Int32))
      else
        if (M.1 86 10) ≤ r3 then
          F_X7_smallDays_4 fu M n x1 (x2 + (0 : Int32)) (x3 + (1 : Int32))
        else
          F_X7_smallDays_4 fu M n x1 (x2 + (1 : Int32)) (x3 + (1 : Int32)))
set_option maxRecDepth 100000 in
set_option maxHeartbeats 4000000 in
theorem w_X7_smallDays_4 {p : Program} {l : Launch} {e : Env} {s : State} {m : MethodId} {args : Array Value} {below : List Frame} {meth : Method} {c : Code} {G : Gv} (hC : Cx p s m args meth c cX7_smallDays 5 (some .int) RX7) {fu : Nat} {r : Int32} {M : Mm} : ∀ (n : Nat) {x1 : Int32} {x2 : Int32} {x3 : Int32} {H : Heap} {locs : List Loc} {ls : Array Slot}, F_X7_smallDays_4 fu M n x1 x2 x3 = some r → St G s H locs M → lv_has ls 5 [(0, .ref (ad G 86)), (1, .int x1), (2, .int x2), (3, .int x3)] → W p l e rm_X7_smallDays s m args below meth c H locs 0 0 (MQ below (QI G r M) args s 0 0 (zA G)) (F0 m 4 ls []) := by
  intro n
  induction n with
  | zero =>
    intro x1 x2 x3 H locs ls hF hw hl
    cases hF
  | succ n ih =>
    intro x1 x2 x3 H locs ls hF hw hl
    unfold F_X7_smallDays_4 at hF
    refine lv_iload_n hC.1 hC.2.1 dX7_smallDays_4 rfl (lv_at hl 3 rfl) ?_
    refine lv_bipush (v := (60 : Int32)) hC.1 hC.2.1 dX7_smallDays_5 (by decide) ?_
    refine lv_icmp_ge (tgt := 46) hC.1 hC.2.1 dX7_smallDays_7 (by decide) (fun b1 => ?_) (fun b1 => ?_)
    · have hF := ifP hF b1
      refine lv_iload_n hC.1 hC.2.1 dX7_smallDays_46 rfl (lv_at hl 2 rfl) ?_
      exact r_iretP hC hw hF dX7_smallDays_47
    · have hF := ifN hF b1
      refine lv_aload_n hC.1 hC.2.1 dX7_smallDays_10 rfl (lv_at hl 0 rfl) ?_
      refine lv_iload_n hC.1 hC.2.1 dX7_smallDays_11 rfl (lv_at hl 1 rfl) ?_
      refine lv_iload_n hC.1 hC.2.1 dX7_smallDays_12 rfl (lv_at hl 3 rfl) ?_
      obtain ⟨r3, h2, hF⟩ := ob1S hF
      refine k_Vi (As := [.int x1, .int x3]) (rest := []) hC hw (c_X7_bulkThen (M := M) h2) RC_X yv_X7_bulkThen q5_101 ⟨rfl, rfl⟩ ⟨Nat.le_of_ble_eq_true rfl, Nat.le_of_ble_eq_true rfl⟩ ⟨Nat.zero_le _, Nat.zero_le _⟩ rfl rfl (Nat.le_of_ble_eq_true rfl) hl dX7_smallDays_13 (fun H locs hw => ?_)
      refine lv_istore (lv' := [(4, .int r3), (0, .ref (ad G 86)), (1, .int x1), (2, .int x2), (3, .int x3)]) hC.1 hC.2.1 dX7_smallDays_16 hl (by decide) rfl (fun ls hl => ?_)
      refine lv_iload_n hC.1 hC.2.1 dX7_smallDays_18 rfl (lv_at hl 3 rfl) ?_
      refine lv_iload hC.1 hC.2.1 dX7_smallDays_19 (lv_at hl 0 rfl) ?_
      refine lv_if_le (tgt := 37) hC.1 hC.2.1 dX7_smallDays_21 (by decide) (fun b4 => ?_) (fun b4 => ?_)
      · have hF := ifP hF b4
        refine lv_iconst (v := (0 : Int32)) hC.1 hC.2.1 dX7_smallDays_37 (by decide) ?_
        refine lv_iadd hC.1 hC.2.1 dX7_smallDays_38 ?_
        refine lv_istore_n (lv' := [(2, .int (x2 + (0 : Int32))), (4, .int r3), (0, .ref (ad G 86)), (1, .int x1), (3, .int x3)]) hC.1 hC.2.1 dX7_smallDays_39 rfl hl (by decide) rfl (fun ls hl => ?_)
        refine lv_iinc (v := (x3 + (1 : Int32))) (lv' := [(3, .int (x3 + (1 : Int32))), (2, .int (x2 + (0 : Int32))), (4, .int r3), (0, .ref (ad G 86)), (1, .int x1)]) hC.1 hC.2.1 dX7_smallDays_40 hl (k := 4) rfl rfl (by decide) rfl (fun ls hl => ?_)
        refine lv_goto (tgt := 4) hC.1 hC.2.1 dX7_smallDays_43 (by decide) ?_
        exact ih hF hw (lv_sub hl [3, 4, 1, 0] rfl)
      · have hF := ifN hF b4
        refine lv_iload hC.1 hC.2.1 dX7_smallDays_24 (lv_at hl 0 rfl) ?_
        refine lv_aload_n hC.1 hC.2.1 dX7_smallDays_26 rfl (lv_at hl 1 rfl) ?_
        refine g7_rightIs hC hw q4_132 dX7_smallDays_27 ?_
        refine lv_icmp_ge (tgt := 37) hC.1 hC.2.1 dX7_smallDays_30 (by decide) (fun b5 => ?_) (fun b5 => ?_)
        · have hF := ifP hF b5
          refine lv_iconst (v := (0 : Int32)) hC.1 hC.2.1 dX7_smallDays_37 (by decide) ?_
          refine lv_iadd hC.1 hC.2.1 dX7_smallDays_38 ?_
          refine lv_istore_n (lv' := [(2, .int (x2 + (0 : Int32))), (4, .int r3), (0, .ref (ad G 86)), (1, .int x1), (3, .int x3)]) hC.1 hC.2.1 dX7_smallDays_39 rfl hl (by decide) rfl (fun ls hl => ?_)
          refine lv_iinc (v := (x3 + (1 : Int32))) (lv' := [(3, .int (x3 + (1 : Int32))), (2, .int (x2 + (0 : Int32))), (4, .int r3), (0, .ref (ad G 86)), (1, .int x1)]) hC.1 hC.2.1 dX7_smallDays_40 hl (k := 4) rfl rfl (by decide) rfl (fun ls hl => ?_)
          refine lv_goto (tgt := 4) hC.1 hC.2.1 dX7_smallDays_43 (by decide) ?_
          exact ih hF hw (lv_sub hl [3, 4, 1, 0] rfl)
        · have hF := ifN hF b5
          refine lv_iconst (v := (1 : Int32)) hC.1 hC.2.1 dX7_smallDays_33 (by decide) ?_
          refine lv_goto (tgt := 38) hC.1 hC.2.1 dX7_smallDays_34 (by decide) ?_
          refine lv_iadd hC.1 hC.2.1 dX7_smallDays_38 ?_
          refine lv_istore_n (lv' := [(2, .int (x2 + (1 : Int32))), (4, .int r3), (0, .ref (ad G 86)), (1, .int x1), (3, .int x3)]) hC.1 hC.2.1 dX7_smallDays_39 rfl hl (by decide) rfl (fun ls hl => ?_)
          refine lv_iinc (v := (x3 + (1 : Int32))) (lv' := [(3, .int (x3 + (1 : Int32))), (2, .int (x2 + (1 : Int32))), (4, .int r3), (0, .ref (ad G 86)), (1, .int x1)]) hC.1 hC.2.1 dX7_smallDays_40 hl (k := 4) rfl rfl (by decide) rfl (fun ls hl => ?_)
          refine lv_goto (tgt := 4) hC.1 hC.2.1 dX7_smallDays_43 (by decide) ?_
          exact ih hF hw (lv_sub hl [3, 4, 1, 0] rfl)
def F_X7_smallDays (fu : Nat) (M : Mm) (x1 : Int32) : Option Int32 :=
  F_X7_smallDays_4 fu M fu x1 (0 : Int32) (0 : Int32)
set_option maxRecDepth 100000 in
set_option maxHeartbeats 4000000 in
theorem c_X7_smallDays {l : Launch} {G : Gv} {fu : Nat} {M : Mm} {x1 : Int32} {r : Int32} (hF : F_X7_smallDays fu M x1 = some r) : Met l yX7_smallDays (.code yX7_smallDays cX7_smallDays 5 (some .int) :: zU) rm_X7_smallDays (va_Pc [.ref (ad G 86), .int x1] (Wd G M)) (QI G r M) 0 0 (zA G) := by
  refine zMet (by decide) rfl (Nat.le_of_ble_eq_true rfl) ?_
  intro p e s m below meth c hC hw ls hl
  have hl : lv_has ls 5 [(0, .ref (ad G 86)), (1, .int x1)] := hl
  unfold F_X7_smallDays at hF
  refine lv_iconst (v := (0 : Int32)) hC.1 hC.2.1 dX7_smallDays_0 (by decide) ?_
  refine lv_istore_n (lv' := [(2, .int (0 : Int32)), (0, .ref (ad G 86)), (1, .int x1)]) hC.1 hC.2.1 dX7_smallDays_1 rfl hl (by decide) rfl (fun ls hl => ?_)
  refine lv_iconst (v := (0 : Int32)) hC.1 hC.2.1 dX7_smallDays_2 (by decide) ?_
  refine lv_istore_n (lv' := [(3, .int (0 : Int32)), (2, .int (0 : Int32)), (0, .ref (ad G 86)), (1, .int x1)]) hC.1 hC.2.1 dX7_smallDays_3 rfl hl (by decide) rfl (fun ls hl => ?_)
  exact w_X7_smallDays_4 hC _ hF hw (lv_sub hl [2, 3, 1, 0] rfl)
abbrev rm_X7_meltDays : Room := { frames := 2, cells := 0, slots := 0, locals := 45 }
theorem yv_X7_meltDays : YV yX7_meltDays cX7_meltDays 4 (some .int) 1 RX7 := ⟨⟨q5_141, qs_51, q1_8, q5_142⟩, by decide +kernel⟩
theorem dX7_meltDays_0 : decode cX7_meltDays 0 = .ok (.iconst 0, 1) := by decide +kernel
theorem dX7_meltDays_1 : decode cX7_meltDays 1 = .ok (.istore_n 2, 1) := by decide +kernel
theorem dX7_meltDays_2 : decode cX7_meltDays 2 = .ok (.iconst 0, 1) := by decide +kernel
theorem dX7_meltDays_3 : decode cX7_meltDays 3 = .ok (.istore_n 3, 1) := by decide +kernel
theorem dX7_meltDays_4 : decode cX7_meltDays 4 = .ok (.iload_n 3, 1) := by decide +kernel
theorem dX7_meltDays_5 : decode cX7_meltDays 5 = .ok (.bipush 8, 2) := by decide +kernel
theorem dX7_meltDays_7 : decode cX7_meltDays 7 = .ok (.if_icmp .ge 42, 3) := by decide +kernel
theorem dX7_meltDays_10 : decode cX7_meltDays 10 = .ok (.iload_n 2, 1) := by decide +kernel
theorem dX7_meltDays_11 : decode cX7_meltDays 11 = .ok (.aload_n 0, 1) := by decide +kernel
theorem dX7_meltDays_12 : decode cX7_meltDays 12 = .ok (.aload_n 0, 1) := by decide +kernel
theorem dX7_meltDays_13 : decode cX7_meltDays 13 = .ok (.getfield 22, 3) := by decide +kernel
theorem dX7_meltDays_16 : decode cX7_meltDays 16 = .ok (.iload_n 1, 1) := by decide +kernel
theorem dX7_meltDays_17 : decode cX7_meltDays 17 = .ok (.iaload, 1) := by decide +kernel
theorem dX7_meltDays_18 : decode cX7_meltDays 18 = .ok (.aload_n 0, 1) := by decide +kernel
theorem dX7_meltDays_19 : decode cX7_meltDays 19 = .ok (.getfield 34, 3) := by decide +kernel
theorem dX7_meltDays_22 : decode cX7_meltDays 22 = .ok (.iload_n 1, 1) := by decide +kernel
theorem dX7_meltDays_23 : decode cX7_meltDays 23 = .ok (.iaload, 1) := by decide +kernel
theorem dX7_meltDays_24 : decode cX7_meltDays 24 = .ok (.aload_n 0, 1) := by decide +kernel
theorem dX7_meltDays_25 : decode cX7_meltDays 25 = .ok (.getfield 167, 3) := by decide +kernel
theorem dX7_meltDays_28 : decode cX7_meltDays 28 = .ok (.iload_n 3, 1) := by decide +kernel
theorem dX7_meltDays_29 : decode cX7_meltDays 29 = .ok (.iadd, 1) := by decide +kernel
theorem dX7_meltDays_30 : decode cX7_meltDays 30 = .ok (.invokevirtual 177, 3) := by decide +kernel
theorem dX7_meltDays_33 : decode cX7_meltDays 33 = .ok (.ifCond .le 7, 3) := by decide +kernel
theorem dX7_meltDays_36 : decode cX7_meltDays 36 = .ok (.iconst 1, 1) := by decide +kernel
theorem dX7_meltDays_37 : decode cX7_meltDays 37 = .ok (.goto 4, 3) := by decide +kernel
theorem dX7_meltDays_40 : decode cX7_meltDays 40 = .ok (.iconst 0, 1) := by decide +kernel
theorem dX7_meltDays_41 : decode cX7_meltDays 41 = .ok (.iadd, 1) := by decide +kernel
theorem dX7_meltDays_42 : decode cX7_meltDays 42 = .ok (.istore_n 2, 1) := by decide +kernel
theorem dX7_meltDays_43 : decode cX7_meltDays 43 = .ok (.iinc 3 1, 3) := by decide +kernel
theorem dX7_meltDays_46 : decode cX7_meltDays 46 = .ok (.goto (-42), 3) := by decide +kernel
theorem dX7_meltDays_49 : decode cX7_meltDays 49 = .ok (.iload_n 2, 1) := by decide +kernel
theorem dX7_meltDays_50 : decode cX7_meltDays 50 = .ok (.ireturn, 1) := by decide +kernel
def F_X7_meltDays_4 (fu : Nat) (M : Mm) : Nat → Int32 → Int32 → Int32 → Option Int32
  | 0, _, _, _ => none
  | n + 1, x1, x2, x3 =>
    if (8 : Int32) ≤ x3 then
      some x2
    else
      if x1 < 0 ∨ ln 91 ≤ x1.toNatClampNeg then none else (
      if x1 < 0 ∨ ln 95 ≤ x1.toNatClampNeg then none else (
      ob1 (F_X7_melts fu M (M.1 91 x1.toNatClampNeg) (M.1 95 x1.toNatClampNeg) ((M.1 86 11) + x3)) (fun r5 =>
      if r5 ≤ 0 then
        F_X7_meltDays_4 fu M n x1 (x2 + (0 : Int32)) (x3 + (1 : Int32))
      else
        F_X7_meltDays_4 fu M n x1 (x2 + (1 : Int32)) (x3 + (1 : Int32)))))
set_option maxRecDepth 100000 in
set_option maxHeartbeats 4000000 in
theorem w_X7_meltDays_4 {p : Program} {l : Launch} {e : Env} {s : State} {m : MethodId} {args : Array Value} {below : List Frame} {meth : Method} {c : Code} {G : Gv} (hC : Cx p s m args meth c cX7_meltDays 4 (some .int) RX7) {fu : Nat} {r : Int32} {M : Mm} : ∀ (n : Nat) {x1 : Int32} {x2 : Int32} {x3 : Int32} {H : Heap} {locs : List Loc} {ls : Array Slot}, F_X7_meltDays_4 fu M n x1 x2 x3 = some r → St G s H locs M → lv_has ls 4 [(0, .ref (ad G 86)), (1, .int x1), (2, .int x2), (3, .int x3)] → W p l e rm_X7_meltDays s m args below meth c H locs 0 0 (MQ below (QI G r M) args s 0 0 (zA G)) (F0 m 4 ls []) := by
  intro n
  induction n with
  | zero =>
    intro x1 x2 x3 H locs ls hF hw hl
    cases hF
  | succ n ih =>
    intro x1 x2 x3 H locs ls hF hw hl
    unfold F_X7_meltDays_4 at hF
    refine lv_iload_n hC.1 hC.2.1 dX7_meltDays_4 rfl (lv_at hl 3 rfl) ?_
    refine lv_bipush (v := (8 : Int32)) hC.1 hC.2.1 dX7_meltDays_5 (by decide) ?_
    refine lv_icmp_ge (tgt := 49) hC.1 hC.2.1 dX7_meltDays_7 (by decide) (fun b1 => ?_) (fun b1 => ?_)
    · have hF := ifP hF b1
      refine lv_iload_n hC.1 hC.2.1 dX7_meltDays_49 rfl (lv_at hl 2 rfl) ?_
      exact r_iretP hC hw hF dX7_meltDays_50
    · have hF := ifN hF b1
      refine lv_iload_n hC.1 hC.2.1 dX7_meltDays_10 rfl (lv_at hl 2 rfl) ?_
      refine lv_aload_n hC.1 hC.2.1 dX7_meltDays_11 rfl (lv_at hl 0 rfl) ?_
      refine lv_aload_n hC.1 hC.2.1 dX7_meltDays_12 rfl (lv_at hl 0 rfl) ?_
      refine g7_kindIs hC hw q4_127 dX7_meltDays_13 ?_
      refine lv_iload_n hC.1 hC.2.1 dX7_meltDays_16 rfl (lv_at hl 1 rfl) ?_
      obtain ⟨n2, hF⟩ := ifO hF
      refine r_iald hC.1 hC.2.1 hw (rfl : kd 91 = 1) n2 dX7_meltDays_17 ?_
      refine lv_aload_n hC.1 hC.2.1 dX7_meltDays_18 rfl (lv_at hl 0 rfl) ?_
      refine g7_shades hC hw q4_131 dX7_meltDays_19 ?_
      refine lv_iload_n hC.1 hC.2.1 dX7_meltDays_22 rfl (lv_at hl 1 rfl) ?_
      obtain ⟨n3, hF⟩ := ifO hF
      refine r_iald hC.1 hC.2.1 hw (rfl : kd 95 = 1) n3 dX7_meltDays_23 ?_
      refine lv_aload_n hC.1 hC.2.1 dX7_meltDays_24 rfl (lv_at hl 0 rfl) ?_
      refine g7_dayIs hC hw q4_133 dX7_meltDays_25 ?_
      refine lv_iload_n hC.1 hC.2.1 dX7_meltDays_28 rfl (lv_at hl 3 rfl) ?_
      refine lv_iadd hC.1 hC.2.1 dX7_meltDays_29 ?_
      obtain ⟨r5, h4, hF⟩ := ob1S hF
      refine k_Vi (As := [.int (M.1 91 x1.toNatClampNeg), .int (M.1 95 x1.toNatClampNeg), .int ((M.1 86 11) + x3)]) (rest := [.int x2]) hC hw (c_X7_melts (M := M) h4) RC_X yv_X7_melts q5_109 ⟨rfl, rfl⟩ ⟨Nat.le_of_ble_eq_true rfl, Nat.le_of_ble_eq_true rfl⟩ ⟨Nat.zero_le _, Nat.zero_le _⟩ rfl rfl (Nat.le_of_ble_eq_true rfl) hl dX7_meltDays_30 (fun H locs hw => ?_)
      refine lv_if_le (tgt := 40) hC.1 hC.2.1 dX7_meltDays_33 (by decide) (fun b6 => ?_) (fun b6 => ?_)
      · have hF := ifP hF b6
        refine lv_iconst (v := (0 : Int32)) hC.1 hC.2.1 dX7_meltDays_40 (by decide) ?_
        refine lv_iadd hC.1 hC.2.1 dX7_meltDays_41 ?_
        refine lv_istore_n (lv' := [(2, .int (x2 + (0 : Int32))), (0, .ref (ad G 86)), (1, .int x1), (3, .int x3)]) hC.1 hC.2.1 dX7_meltDays_42 rfl hl (by decide) rfl (fun ls hl => ?_)
        refine lv_iinc (v := (x3 + (1 : Int32))) (lv' := [(3, .int (x3 + (1 : Int32))), (2, .int (x2 + (0 : Int32))), (0, .ref (ad G 86)), (1, .int x1)]) hC.1 hC.2.1 dX7_meltDays_43 hl (k := 3) rfl rfl (by decide) rfl (fun ls hl => ?_)
        refine lv_goto (tgt := 4) hC.1 hC.2.1 dX7_meltDays_46 (by decide) ?_
        exact ih hF hw (lv_sub hl [2, 3, 1, 0] rfl)
      · have hF := ifN hF b6
        refine lv_iconst (v := (1 : Int32)) hC.1 hC.2.1 dX7_meltDays_36 (by decide) ?_
        refine lv_goto (tgt := 41) hC.1 hC.2.1 dX7_meltDays_37 (by decide) ?_
        refine lv_iadd hC.1 hC.2.1 dX7_meltDays_41 ?_
        refine lv_istore_n (lv' := [(2, .int (x2 + (1 : Int32))), (0, .ref (ad G 86)), (1, .int x1), (3, .int x3)]) hC.1 hC.2.1 dX7_meltDays_42 rfl hl (by decide) rfl (fun ls hl => ?_)
        refine lv_iinc (v := (x3 + (1 : Int32))) (lv' := [(3, .int (x3 + (1 : Int32))), (2, .int (x2 + (1 : Int32))), (0, .ref (ad G 86)), (1, .int x1)]) hC.1 hC.2.1 dX7_meltDays_43 hl (k := 3) rfl rfl (by decide) rfl (fun ls hl => ?_)
        refine lv_goto (tgt := 4) hC.1 hC.2.1 dX7_meltDays_46 (by decide) ?_
        exact ih hF hw (lv_sub hl [2, 3, 1, 0] rfl)
def F_X7_meltDays (fu : Nat) (M : Mm) (x1 : Int32) : Option Int32 :=
  F_X7_meltDays_4 fu M fu x1 (0 : Int32) (0 : Int32)
set_option maxRecDepth 100000 in
set_option maxHeartbeats 4000000 in
theorem c_X7_meltDays {l : Launch} {G : Gv} {fu : Nat} {M : Mm} {x1 : Int32} {r : Int32} (hF : F_X7_meltDays fu M x1 = some r) : Met l yX7_meltDays (.code yX7_meltDays cX7_meltDays 4 (some .int) :: zU) rm_X7_meltDays (va_Pc [.ref (ad G 86), .int x1] (Wd G M)) (QI G r M) 0 0 (zA G) := by
  refine zMet (by decide) rfl (Nat.le_of_ble_eq_true rfl) ?_
  intro p e s m below meth c hC hw ls hl
  have hl : lv_has ls 4 [(0, .ref (ad G 86)), (1, .int x1)] := hl
  unfold F_X7_meltDays at hF
  refine lv_iconst (v := (0 : Int32)) hC.1 hC.2.1 dX7_meltDays_0 (by decide) ?_
  refine lv_istore_n (lv' := [(2, .int (0 : Int32)), (0, .ref (ad G 86)), (1, .int x1)]) hC.1 hC.2.1 dX7_meltDays_1 rfl hl (by decide) rfl (fun ls hl => ?_)
  refine lv_iconst (v := (0 : Int32)) hC.1 hC.2.1 dX7_meltDays_2 (by decide) ?_
  refine lv_istore_n (lv' := [(3, .int (0 : Int32)), (2, .int (0 : Int32)), (0, .ref (ad G 86)), (1, .int x1)]) hC.1 hC.2.1 dX7_meltDays_3 rfl hl (by decide) rfl (fun ls hl => ?_)
  exact w_X7_meltDays_4 hC _ hF hw (lv_sub hl [2, 3, 1, 0] rfl)
abbrev rm_X7_mark : Room := { frames := 6, cells := 0, slots := 0, locals := 138 }
theorem yv_X7_mark : YV yX7_mark cX7_mark 3 (some .int) 2 RX7 := ⟨⟨q5_121, q5_122, q1_8, q5_123⟩, by decide +kernel⟩
theorem dX7_mark_0 : decode cX7_mark 0 = .ok (.aload_n 0, 1) := by decide +kernel
theorem dX7_mark_1 : decode cX7_mark 1 = .ok (.iload_n 1, 1) := by decide +kernel
theorem dX7_mark_2 : decode cX7_mark 2 = .ok (.invokevirtual 197, 3) := by decide +kernel
theorem dX7_mark_5 : decode cX7_mark 5 = .ok (.ifCond .eq 15, 3) := by decide +kernel
theorem dX7_mark_8 : decode cX7_mark 8 = .ok (.iload_n 2, 1) := by decide +kernel
theorem dX7_mark_9 : decode cX7_mark 9 = .ok (.i2l, 1) := by decide +kernel
theorem dX7_mark_10 : decode cX7_mark 10 = .ok (.lconst 1, 1) := by decide +kernel
theorem dX7_mark_11 : decode cX7_mark 11 = .ok (.ldc2_w 108, 3) := by decide +kernel
theorem dX7_mark_14 : decode cX7_mark 14 = .ok (.invokestatic 104, 3) := by decide +kernel
theorem dX7_mark_17 : decode cX7_mark 17 = .ok (.ifCond .ne 5, 3) := by decide +kernel
theorem dX7_mark_20 : decode cX7_mark 20 = .ok (.iconst (-1), 1) := by decide +kernel
theorem dX7_mark_21 : decode cX7_mark 21 = .ok (.ireturn, 1) := by decide +kernel
theorem dX7_mark_22 : decode cX7_mark 22 = .ok (.aload_n 0, 1) := by decide +kernel
theorem dX7_mark_23 : decode cX7_mark 23 = .ok (.getfield 22, 3) := by decide +kernel
theorem dX7_mark_26 : decode cX7_mark 26 = .ok (.iload_n 1, 1) := by decide +kernel
theorem dX7_mark_27 : decode cX7_mark 27 = .ok (.iaload, 1) := by decide +kernel
theorem dX7_mark_28 : decode cX7_mark 28 = .ok (.iload_n 2, 1) := by decide +kernel
theorem dX7_mark_29 : decode cX7_mark 29 = .ok (.if_icmp .eq 26, 3) := by decide +kernel
theorem dX7_mark_32 : decode cX7_mark 32 = .ok (.iload_n 2, 1) := by decide +kernel
theorem dX7_mark_33 : decode cX7_mark 33 = .ok (.iconst 1, 1) := by decide +kernel
theorem dX7_mark_34 : decode cX7_mark 34 = .ok (.if_icmp .ne 15, 3) := by decide +kernel
theorem dX7_mark_37 : decode cX7_mark 37 = .ok (.aload_n 0, 1) := by decide +kernel
theorem dX7_mark_38 : decode cX7_mark 38 = .ok (.getfield 22, 3) := by decide +kernel
theorem dX7_mark_41 : decode cX7_mark 41 = .ok (.iload_n 1, 1) := by decide +kernel
theorem dX7_mark_42 : decode cX7_mark 42 = .ok (.iaload, 1) := by decide +kernel
theorem dX7_mark_43 : decode cX7_mark 43 = .ok (.invokestatic 203, 3) := by decide +kernel
theorem dX7_mark_46 : decode cX7_mark 46 = .ok (.ifCond .ne 9, 3) := by decide +kernel
theorem dX7_mark_49 : decode cX7_mark 49 = .ok (.aload_n 0, 1) := by decide +kernel
theorem dX7_mark_50 : decode cX7_mark 50 = .ok (.iconst 3, 1) := by decide +kernel
theorem dX7_mark_51 : decode cX7_mark 51 = .ok (.invokevirtual 118, 3) := by decide +kernel
theorem dX7_mark_54 : decode cX7_mark 54 = .ok (.ireturn, 1) := by decide +kernel
theorem dX7_mark_55 : decode cX7_mark 55 = .ok (.iload_n 2, 1) := by decide +kernel
theorem dX7_mark_56 : decode cX7_mark 56 = .ok (.tableswitch 64 1 4 #[32, 46, 52, 58], 32) := by decide +kernel
theorem dX7_mark_88 : decode cX7_mark 88 = .ok (.aload_n 0, 1) := by decide +kernel
theorem dX7_mark_89 : decode cX7_mark 89 = .ok (.getfield 31, 3) := by decide +kernel
theorem dX7_mark_92 : decode cX7_mark 92 = .ok (.iload_n 1, 1) := by decide +kernel
theorem dX7_mark_93 : decode cX7_mark 93 = .ok (.iaload, 1) := by decide +kernel
theorem dX7_mark_94 : decode cX7_mark 94 = .ok (.aload_n 0, 1) := by decide +kernel
theorem dX7_mark_95 : decode cX7_mark 95 = .ok (.iload_n 1, 1) := by decide +kernel
theorem dX7_mark_96 : decode cX7_mark 96 = .ok (.iconst 1, 1) := by decide +kernel
theorem dX7_mark_97 : decode cX7_mark 97 = .ok (.invokevirtual 184, 3) := by decide +kernel
theorem dX7_mark_100 : decode cX7_mark 100 = .ok (.isub, 1) := by decide +kernel
theorem dX7_mark_101 : decode cX7_mark 101 = .ok (.ireturn, 1) := by decide +kernel
theorem dX7_mark_102 : decode cX7_mark 102 = .ok (.aload_n 0, 1) := by decide +kernel
theorem dX7_mark_103 : decode cX7_mark 103 = .ok (.iload_n 1, 1) := by decide +kernel
theorem dX7_mark_104 : decode cX7_mark 104 = .ok (.invokevirtual 206, 3) := by decide +kernel
theorem dX7_mark_107 : decode cX7_mark 107 = .ok (.ireturn, 1) := by decide +kernel
theorem dX7_mark_108 : decode cX7_mark 108 = .ok (.aload_n 0, 1) := by decide +kernel
theorem dX7_mark_109 : decode cX7_mark 109 = .ok (.iload_n 1, 1) := by decide +kernel
theorem dX7_mark_110 : decode cX7_mark 110 = .ok (.invokevirtual 209, 3) := by decide +kernel
theorem dX7_mark_113 : decode cX7_mark 113 = .ok (.ireturn, 1) := by decide +kernel
theorem dX7_mark_114 : decode cX7_mark 114 = .ok (.aload_n 0, 1) := by decide +kernel
theorem dX7_mark_115 : decode cX7_mark 115 = .ok (.iload_n 1, 1) := by decide +kernel
theorem dX7_mark_116 : decode cX7_mark 116 = .ok (.invokevirtual 212, 3) := by decide +kernel
theorem dX7_mark_119 : decode cX7_mark 119 = .ok (.ireturn, 1) := by decide +kernel
theorem dX7_mark_120 : decode cX7_mark 120 = .ok (.aload_n 0, 1) := by decide +kernel
theorem dX7_mark_121 : decode cX7_mark 121 = .ok (.iload_n 1, 1) := by decide +kernel
theorem dX7_mark_122 : decode cX7_mark 122 = .ok (.invokevirtual 215, 3) := by decide +kernel
theorem dX7_mark_125 : decode cX7_mark 125 = .ok (.ireturn, 1) := by decide +kernel
def F_X7_mark_49 (fu : Nat) (M : Mm) : Option (Int32 × Mm) :=
  ob2 (F_X7_finds fu M (3 : Int32)) (fun r2 M3 =>
  some (r2, M3))
set_option maxRecDepth 100000 in
set_option maxHeartbeats 4000000 in
theorem w_X7_mark_49 {p : Program} {l : Launch} {e : Env} {s : State} {m : MethodId} {args : Array Value} {below : List Frame} {meth : Method} {c : Code} {G : Gv} (hC : Cx p s m args meth c cX7_mark 3 (some .int) RX7) {fu : Nat} {r : Int32} {M' : Mm} {M : Mm} {H : Heap} {locs : List Loc} {ls : Array Slot} (hF : F_X7_mark_49 fu M = some (r, M')) (hw : St G s H locs M) (hl : lv_has ls 3 [(0, .ref (ad G 86))]) : W p l e rm_X7_mark s m args below meth c H locs 0 0 (MQ below (QI G r M') args s 0 0 (zA G)) (F0 m 49 ls []) := by
  unfold F_X7_mark_49 at hF
  refine lv_aload_n hC.1 hC.2.1 dX7_mark_49 rfl (lv_at hl 0 rfl) ?_
  refine lv_iconst (v := (3 : Int32)) hC.1 hC.2.1 dX7_mark_50 (by decide) ?_
  obtain ⟨r2, M3, h1, hF⟩ := ob2S hF
  refine k_Vi (As := [.int (3 : Int32)]) (rest := []) hC hw (c_X7_finds (M := M) h1) RC_X yv_X7_finds q5_6 ⟨rfl, rfl⟩ ⟨Nat.le_of_ble_eq_true rfl, Nat.le_of_ble_eq_true rfl⟩ ⟨Nat.zero_le _, Nat.zero_le _⟩ rfl rfl (Nat.le_of_ble_eq_true rfl) hl dX7_mark_51 (fun H locs hw => ?_)
  exact r_iretE hC hw hF dX7_mark_54
def F_X7_mark_55 (fu : Nat) (M : Mm) (x1 : Int32) (x2 : Int32) : Option (Int32 × Mm) :=
  if x2 = (1 : Int32) then
    if x1 < 0 ∨ ln 94 ≤ x1.toNatClampNeg then none else (
    ob1 (F_X7_bulkThen fu M x1 (1 : Int32)) (fun r4 =>
    some (((M.1 94 x1.toNatClampNeg) - r4), M)))
  else
  if x2 = (2 : Int32) then
    ob1 (F_X7_votesAs fu M x1) (fun r7 =>
    some (r7, M))
  else
  if x2 = (3 : Int32) then
    ob1 (F_X7_goneIn fu M x1) (fun r10 =>
    some (r10, M))
  else
  if x2 = (4 : Int32) then
    ob1 (F_X7_smallDays fu M x1) (fun r13 =>
    some (r13, M))
  else
  ob1 (F_X7_meltDays fu M x1) (fun r15 =>
  some (r15, M))
set_option maxRecDepth 100000 in
set_option maxHeartbeats 4000000 in
theorem w_X7_mark_55 {p : Program} {l : Launch} {e : Env} {s : State} {m : MethodId} {args : Array Value} {below : List Frame} {meth : Method} {c : Code} {G : Gv} (hC : Cx p s m args meth c cX7_mark 3 (some .int) RX7) {fu : Nat} {r : Int32} {M' : Mm} {x1 : Int32} {x2 : Int32} {M : Mm} {H : Heap} {locs : List Loc} {ls : Array Slot} (hF : F_X7_mark_55 fu M x1 x2 = some (r, M')) (hw : St G s H locs M) (hl : lv_has ls 3 [(0, .ref (ad G 86)), (1, .int x1), (2, .int x2)]) : W p l e rm_X7_mark s m args below meth c H locs 0 0 (MQ below (QI G r M') args s 0 0 (zA G)) (F0 m 55 ls []) := by
  unfold F_X7_mark_55 at hF
  refine lv_iload_n hC.1 hC.2.1 dX7_mark_55 rfl (lv_at hl 2 rfl) ?_
  rcases Classical.em (x2 = (1 : Int32)) with w1 | w1
  · have hF := ifP hF w1
    refine r_swI (v := (1 : Int32)) (off := 32) (tgt := 88) hC.1 hC.2.1 w1 dX7_mark_56 (by decide) (by decide) rfl (by decide) ?_
    refine lv_aload_n hC.1 hC.2.1 dX7_mark_88 rfl (lv_at hl 0 rfl) ?_
    refine g7_bulks hC hw q4_130 dX7_mark_89 ?_
    refine lv_iload_n hC.1 hC.2.1 dX7_mark_92 rfl (lv_at hl 1 rfl) ?_
    obtain ⟨n2, hF⟩ := ifO hF
    refine r_iald hC.1 hC.2.1 hw (rfl : kd 94 = 1) n2 dX7_mark_93 ?_
    refine lv_aload_n hC.1 hC.2.1 dX7_mark_94 rfl (lv_at hl 0 rfl) ?_
    refine lv_iload_n hC.1 hC.2.1 dX7_mark_95 rfl (lv_at hl 1 rfl) ?_
    refine lv_iconst (v := (1 : Int32)) hC.1 hC.2.1 dX7_mark_96 (by decide) ?_
    obtain ⟨r4, h3, hF⟩ := ob1S hF
    refine k_Vi (As := [.int x1, .int (1 : Int32)]) (rest := [.int (M.1 94 x1.toNatClampNeg)]) hC hw (c_X7_bulkThen (M := M) h3) RC_X yv_X7_bulkThen q5_101 ⟨rfl, rfl⟩ ⟨Nat.le_of_ble_eq_true rfl, Nat.le_of_ble_eq_true rfl⟩ ⟨Nat.zero_le _, Nat.zero_le _⟩ rfl rfl (Nat.le_of_ble_eq_true rfl) hl dX7_mark_97 (fun H locs hw => ?_)
    refine lv_isub hC.1 hC.2.1 dX7_mark_100 ?_
    exact r_iretE hC hw hF dX7_mark_101
  have hF := ifN hF w1
  rcases Classical.em (x2 = (2 : Int32)) with w5 | w5
  · have hF := ifP hF w5
    refine r_swI (v := (2 : Int32)) (off := 46) (tgt := 102) hC.1 hC.2.1 w5 dX7_mark_56 (by decide) (by decide) rfl (by decide) ?_
    refine lv_aload_n hC.1 hC.2.1 dX7_mark_102 rfl (lv_at hl 0 rfl) ?_
    refine lv_iload_n hC.1 hC.2.1 dX7_mark_103 rfl (lv_at hl 1 rfl) ?_
    obtain ⟨r7, h6, hF⟩ := ob1S hF
    refine k_Vi (As := [.int x1]) (rest := []) hC hw (c_X7_votesAs (M := M) h6) RC_X yv_X7_votesAs q5_127 ⟨rfl, rfl⟩ ⟨Nat.le_of_ble_eq_true rfl, Nat.le_of_ble_eq_true rfl⟩ ⟨Nat.zero_le _, Nat.zero_le _⟩ rfl rfl (Nat.le_of_ble_eq_true rfl) hl dX7_mark_104 (fun H locs hw => ?_)
    exact r_iretE hC hw hF dX7_mark_107
  have hF := ifN hF w5
  rcases Classical.em (x2 = (3 : Int32)) with w8 | w8
  · have hF := ifP hF w8
    refine r_swI (v := (3 : Int32)) (off := 52) (tgt := 108) hC.1 hC.2.1 w8 dX7_mark_56 (by decide) (by decide) rfl (by decide) ?_
    refine lv_aload_n hC.1 hC.2.1 dX7_mark_108 rfl (lv_at hl 0 rfl) ?_
    refine lv_iload_n hC.1 hC.2.1 dX7_mark_109 rfl (lv_at hl 1 rfl) ?_
    obtain ⟨r10, h9, hF⟩ := ob1S hF
    refine k_Vi (As := [.int x1]) (rest := []) hC hw (c_X7_goneIn (M := M) h9) RC_X yv_X7_goneIn q5_131 ⟨rfl, rfl⟩ ⟨Nat.le_of_ble_eq_true rfl, Nat.le_of_ble_eq_true rfl⟩ ⟨Nat.zero_le _, Nat.zero_le _⟩ rfl rfl (Nat.le_of_ble_eq_true rfl) hl dX7_mark_110 (fun H locs hw => ?_)
    exact r_iretE hC hw hF dX7_mark_113
  have hF := ifN hF w8
  rcases Classical.em (x2 = (4 : Int32)) with w11 | w11
  · have hF := ifP hF w11
    refine r_swI (v := (4 : Int32)) (off := 58) (tgt := 114) hC.1 hC.2.1 w11 dX7_mark_56 (by decide) (by decide) rfl (by decide) ?_
    refine lv_aload_n hC.1 hC.2.1 dX7_mark_114 rfl (lv_at hl 0 rfl) ?_
    refine lv_iload_n hC.1 hC.2.1 dX7_mark_115 rfl (lv_at hl 1 rfl) ?_
    obtain ⟨r13, h12, hF⟩ := ob1S hF
    refine k_Vi (As := [.int x1]) (rest := []) hC hw (c_X7_smallDays (M := M) h12) RC_X yv_X7_smallDays q5_135 ⟨rfl, rfl⟩ ⟨Nat.le_of_ble_eq_true rfl, Nat.le_of_ble_eq_true rfl⟩ ⟨Nat.zero_le _, Nat.zero_le _⟩ rfl rfl (Nat.le_of_ble_eq_true rfl) hl dX7_mark_116 (fun H locs hw => ?_)
    exact r_iretE hC hw hF dX7_mark_119
  have hF := ifN hF w11
  refine r_swD (tgt := 120) (vs := [(1 : Int32), (2 : Int32), (3 : Int32), (4 : Int32)]) hC.1 hC.2.1 (List.forall_mem_cons.mpr ⟨w1, List.forall_mem_cons.mpr ⟨w5, List.forall_mem_cons.mpr ⟨w8, List.forall_mem_cons.mpr ⟨w11, fun v hv => absurd hv List.not_mem_nil⟩⟩⟩⟩) dX7_mark_56 (by decide) rfl (by decide) ?_
  refine lv_aload_n hC.1 hC.2.1 dX7_mark_120 rfl (lv_at hl 0 rfl) ?_
  refine lv_iload_n hC.1 hC.2.1 dX7_mark_121 rfl (lv_at hl 1 rfl) ?_
  obtain ⟨r15, h14, hF⟩ := ob1S hF
  refine k_Vi (As := [.int x1]) (rest := []) hC hw (c_X7_meltDays (M := M) h14) RC_X yv_X7_meltDays q5_139 ⟨rfl, rfl⟩ ⟨Nat.le_of_ble_eq_true rfl, Nat.le_of_ble_eq_true rfl⟩ ⟨Nat.zero_le _, Nat.zero_le _⟩ rfl rfl (Nat.le_of_ble_eq_true rfl) hl dX7_mark_122 (fun H locs hw => ?_)
  exact r_iretE hC hw hF dX7_mark_125
def F_X7_mark (fu : Nat) (M : Mm) (x1 : Int32) (x2 : Int32) : Option (Int32 × Mm) :=
  ob1 (F_X7_isMan fu M x1) (fun r2 =>
  if r2 = 0 then
    some ((-1 : Int32), M)
  else
    ob1 (F_X7_in fu M x2.toInt64 (1 : Int64) (5 : Int64)) (fun r5 =>
    if r5 = 0 then
      some ((-1 : Int32), M)
    else
      if x1 < 0 ∨ ln 91 ≤ x1.toNatClampNeg then none else (
      if (M.1 91 x1.toNatClampNeg) = x2 then
        F_X7_mark_55 fu M x1 x2
      else
        if x2 = (1 : Int32) then
          if x1 < 0 ∨ ln 91 ≤ x1.toNatClampNeg then none else (
          ob1 (F_X7_isHatted fu M (M.1 91 x1.toNatClampNeg)) (fun r12 =>
          if r12 = 0 then
            F_X7_mark_49 fu M
          else
            F_X7_mark_55 fu M x1 x2))
        else
          F_X7_mark_49 fu M)))
set_option maxRecDepth 100000 in
set_option maxHeartbeats 4000000 in
theorem c_X7_mark {l : Launch} {G : Gv} {fu : Nat} {M : Mm} {x1 : Int32} {x2 : Int32} {r : Int32} {M' : Mm} (hF : F_X7_mark fu M x1 x2 = some (r, M')) : Met l yX7_mark (.code yX7_mark cX7_mark 3 (some .int) :: zU) rm_X7_mark (va_Pc [.ref (ad G 86), .int x1, .int x2] (Wd G M)) (QI G r M') 0 0 (zA G) := by
  refine zMet (by decide) rfl (Nat.le_of_ble_eq_true rfl) ?_
  intro p e s m below meth c hC hw ls hl
  have hl : lv_has ls 3 [(0, .ref (ad G 86)), (1, .int x1), (2, .int x2)] := hl
  unfold F_X7_mark at hF
  refine lv_aload_n hC.1 hC.2.1 dX7_mark_0 rfl (lv_at hl 0 rfl) ?_
  refine lv_iload_n hC.1 hC.2.1 dX7_mark_1 rfl (lv_at hl 1 rfl) ?_
  obtain ⟨r2, h1, hF⟩ := ob1S hF
  refine k_Vi (As := [.int x1]) (rest := []) hC hw (c_X7_isMan (M := M) h1) RC_X yv_X7_isMan q5_89 ⟨rfl, rfl⟩ ⟨Nat.le_of_ble_eq_true rfl, Nat.le_of_ble_eq_true rfl⟩ ⟨Nat.zero_le _, Nat.zero_le _⟩ rfl rfl (Nat.le_of_ble_eq_true rfl) hl dX7_mark_2 (fun H locs hw => ?_)
  refine lv_if_eq (tgt := 20) hC.1 hC.2.1 dX7_mark_5 (by decide) (fun b3 => ?_) (fun b3 => ?_)
  · have hF := ifP hF b3
    refine lv_iconst (v := (-1 : Int32)) hC.1 hC.2.1 dX7_mark_20 (by decide) ?_
    exact r_iretE hC hw hF dX7_mark_21
  · have hF := ifN hF b3
    refine lv_iload_n hC.1 hC.2.1 dX7_mark_8 rfl (lv_at hl 2 rfl) ?_
    refine lv_i2l hC.1 hC.2.1 dX7_mark_9 rfl ?_
    refine lv_lconst (v := (1 : Int64)) hC.1 hC.2.1 dX7_mark_10 (by decide) ?_
    refine lv_ldc2 (v := (5 : Int64)) hC.1 hC.2.1 hC.2.2.2.1 (hC.2.2.2.2.1 _ q5_2) dX7_mark_11 ?_
    obtain ⟨r5, h4, hF⟩ := ob1S hF
    refine k_Si (As := [.long x2.toInt64, .long (1 : Int64), .long (5 : Int64)]) (rest := []) hC hw (c_X7_in (M := M) h4) ys_X7_in q5_3 ⟨rfl, rfl⟩ ⟨Nat.le_of_ble_eq_true rfl, Nat.le_of_ble_eq_true rfl⟩ ⟨Nat.zero_le _, Nat.zero_le _⟩ rfl rfl (Nat.le_of_ble_eq_true rfl) hl dX7_mark_14 (fun H locs hw => ?_)
    refine lv_if_ne (tgt := 22) hC.1 hC.2.1 dX7_mark_17 (by decide) (fun b6 => ?_) (fun b6 => ?_)
    · have hF := ifN hF b6
      refine lv_aload_n hC.1 hC.2.1 dX7_mark_22 rfl (lv_at hl 0 rfl) ?_
      refine g7_kindIs hC hw q4_127 dX7_mark_23 ?_
      refine lv_iload_n hC.1 hC.2.1 dX7_mark_26 rfl (lv_at hl 1 rfl) ?_
      obtain ⟨n7, hF⟩ := ifO hF
      refine r_iald hC.1 hC.2.1 hw (rfl : kd 91 = 1) n7 dX7_mark_27 ?_
      refine lv_iload_n hC.1 hC.2.1 dX7_mark_28 rfl (lv_at hl 2 rfl) ?_
      refine lv_icmp_eq (tgt := 55) hC.1 hC.2.1 dX7_mark_29 (by decide) (fun b8 => ?_) (fun b8 => ?_)
      · have hF := ifP hF b8
        exact w_X7_mark_55 hC hF hw (lv_sub hl [0, 1, 2] rfl)
      · have hF := ifN hF b8
        refine lv_iload_n hC.1 hC.2.1 dX7_mark_32 rfl (lv_at hl 2 rfl) ?_
        refine lv_iconst (v := (1 : Int32)) hC.1 hC.2.1 dX7_mark_33 (by decide) ?_
        refine lv_icmp_ne (tgt := 49) hC.1 hC.2.1 dX7_mark_34 (by decide) (fun b9 => ?_) (fun b9 => ?_)
        · have hF := ifN hF b9
          exact w_X7_mark_49 hC hF hw (lv_sub hl [0] rfl)
        · have hF := ifP hF b9
          refine lv_aload_n hC.1 hC.2.1 dX7_mark_37 rfl (lv_at hl 0 rfl) ?_
          refine g7_kindIs hC hw q4_127 dX7_mark_38 ?_
          refine lv_iload_n hC.1 hC.2.1 dX7_mark_41 rfl (lv_at hl 1 rfl) ?_
          obtain ⟨n10, hF⟩ := ifO hF
          refine r_iald hC.1 hC.2.1 hw (rfl : kd 91 = 1) n10 dX7_mark_42 ?_
          obtain ⟨r12, h11, hF⟩ := ob1S hF
          refine k_Si (As := [.int (M.1 91 x1.toNatClampNeg)]) (rest := []) hC hw (c_X7_isHatted (M := M) h11) ys_X7_isHatted q5_124 ⟨rfl, rfl⟩ ⟨Nat.le_of_ble_eq_true rfl, Nat.le_of_ble_eq_true rfl⟩ ⟨Nat.zero_le _, Nat.zero_le _⟩ rfl rfl (Nat.le_of_ble_eq_true rfl) hl dX7_mark_43 (fun H locs hw => ?_)
          refine lv_if_ne (tgt := 55) hC.1 hC.2.1 dX7_mark_46 (by decide) (fun b13 => ?_) (fun b13 => ?_)
          · have hF := ifN hF b13
            exact w_X7_mark_55 hC hF hw (lv_sub hl [0, 1, 2] rfl)
          · have hF := ifP hF b13
            exact w_X7_mark_49 hC hF hw (lv_sub hl [0] rfl)
    · have hF := ifP hF b6
      refine lv_iconst (v := (-1 : Int32)) hC.1 hC.2.1 dX7_mark_20 (by decide) ?_
      exact r_iretE hC hw hF dX7_mark_21
abbrev rm_X7_sun : Room := { frames := 1, cells := 0, slots := 0, locals := 25 }
theorem yv_X7_sun : YV yX7_sun cX7_sun 2 (some .int) 1 RX7 := ⟨⟨q5_144, q5_145, q1_8, q5_146⟩, by decide +kernel⟩
theorem dX7_sun_0 : decode cX7_sun 0 = .ok (.iload_n 1, 1) := by decide +kernel
theorem dX7_sun_1 : decode cX7_sun 1 = .ok (.i2l, 1) := by decide +kernel
theorem dX7_sun_2 : decode cX7_sun 2 = .ok (.lconst 0, 1) := by decide +kernel
theorem dX7_sun_3 : decode cX7_sun 3 = .ok (.ldc2_w 218, 3) := by decide +kernel
theorem dX7_sun_6 : decode cX7_sun 6 = .ok (.invokestatic 104, 3) := by decide +kernel
theorem dX7_sun_9 : decode cX7_sun 9 = .ok (.ifCond .ne 5, 3) := by decide +kernel
theorem dX7_sun_12 : decode cX7_sun 12 = .ok (.iconst (-1), 1) := by decide +kernel
theorem dX7_sun_13 : decode cX7_sun 13 = .ok (.ireturn, 1) := by decide +kernel
theorem dX7_sun_14 : decode cX7_sun 14 = .ok (.aload_n 0, 1) := by decide +kernel
theorem dX7_sun_15 : decode cX7_sun 15 = .ok (.getfield 101, 3) := by decide +kernel
theorem dX7_sun_18 : decode cX7_sun 18 = .ok (.ifCond .ne 8, 3) := by decide +kernel
theorem dX7_sun_21 : decode cX7_sun 21 = .ok (.bipush (-4), 2) := by decide +kernel
theorem dX7_sun_23 : decode cX7_sun 23 = .ok (.goto 12, 3) := by decide +kernel
theorem dX7_sun_26 : decode cX7_sun 26 = .ok (.aload_n 0, 1) := by decide +kernel
theorem dX7_sun_27 : decode cX7_sun 27 = .ok (.getfield 28, 3) := by decide +kernel
theorem dX7_sun_30 : decode cX7_sun 30 = .ok (.iload_n 1, 1) := by decide +kernel
theorem dX7_sun_31 : decode cX7_sun 31 = .ok (.bipush 8, 2) := by decide +kernel
theorem dX7_sun_33 : decode cX7_sun 33 = .ok (.irem, 1) := by decide +kernel
theorem dX7_sun_34 : decode cX7_sun 34 = .ok (.iaload, 1) := by decide +kernel
theorem dX7_sun_35 : decode cX7_sun 35 = .ok (.ireturn, 1) := by decide +kernel
def F_X7_sun (fu : Nat) (M : Mm) (x1 : Int32) : Option Int32 :=
  ob1 (F_X7_in fu M x1.toInt64 (0 : Int64) (99 : Int64)) (fun r2 =>
  if r2 = 0 then
    some (-1 : Int32)
  else
    if (M.1 86 4) = 0 then
      some (-4 : Int32)
    else
      if (x1 - x1 / (8 : Int32) * (8 : Int32)) < 0 ∨ ln 93 ≤ (x1 - x1 / (8 : Int32) * (8 : Int32)).toNatClampNeg then none else (
      some (M.1 93 (x1 - x1 / (8 : Int32) * (8 : Int32)).toNatClampNeg)))
set_option maxRecDepth 100000 in
set_option maxHeartbeats 4000000 in
theorem c_X7_sun {l : Launch} {G : Gv} {fu : Nat} {M : Mm} {x1 : Int32} {r : Int32} (hF : F_X7_sun fu M x1 = some r) : Met l yX7_sun (.code yX7_sun cX7_sun 2 (some .int) :: zU) rm_X7_sun (va_Pc [.ref (ad G 86), .int x1] (Wd G M)) (QI G r M) 0 0 (zA G) := by
  refine zMet (by decide) rfl (Nat.le_of_ble_eq_true rfl) ?_
  intro p e s m below meth c hC hw ls hl
  have hl : lv_has ls 2 [(0, .ref (ad G 86)), (1, .int x1)] := hl
  unfold F_X7_sun at hF
  refine lv_iload_n hC.1 hC.2.1 dX7_sun_0 rfl (lv_at hl 1 rfl) ?_
  refine lv_i2l hC.1 hC.2.1 dX7_sun_1 rfl ?_
  refine lv_lconst (v := (0 : Int64)) hC.1 hC.2.1 dX7_sun_2 (by decide) ?_
  refine lv_ldc2 (v := (99 : Int64)) hC.1 hC.2.1 hC.2.2.2.1 (hC.2.2.2.2.1 _ q5_147) dX7_sun_3 ?_
  obtain ⟨r2, h1, hF⟩ := ob1S hF
  refine k_Si (As := [.long x1.toInt64, .long (0 : Int64), .long (99 : Int64)]) (rest := []) hC hw (c_X7_in (M := M) h1) ys_X7_in q5_3 ⟨rfl, rfl⟩ ⟨Nat.le_of_ble_eq_true rfl, Nat.le_of_ble_eq_true rfl⟩ ⟨Nat.zero_le _, Nat.zero_le _⟩ rfl rfl (Nat.le_of_ble_eq_true rfl) hl dX7_sun_6 (fun H locs hw => ?_)
  refine lv_if_ne (tgt := 14) hC.1 hC.2.1 dX7_sun_9 (by decide) (fun b3 => ?_) (fun b3 => ?_)
  · have hF := ifN hF b3
    refine lv_aload_n hC.1 hC.2.1 dX7_sun_14 rfl (lv_at hl 0 rfl) ?_
    refine g7_men hC hw q4_126 dX7_sun_15 ?_
    refine lv_if_ne (tgt := 26) hC.1 hC.2.1 dX7_sun_18 (by decide) (fun b4 => ?_) (fun b4 => ?_)
    · have hF := ifN hF b4
      refine lv_aload_n hC.1 hC.2.1 dX7_sun_26 rfl (lv_at hl 0 rfl) ?_
      refine g7_suns hC hw q4_129 dX7_sun_27 ?_
      refine lv_iload_n hC.1 hC.2.1 dX7_sun_30 rfl (lv_at hl 1 rfl) ?_
      refine lv_bipush (v := (8 : Int32)) hC.1 hC.2.1 dX7_sun_31 (by decide) ?_
      refine lv_irem hC.1 hC.2.1 dX7_sun_33 (by decide) ?_
      obtain ⟨n5, hF⟩ := ifO hF
      refine r_iald hC.1 hC.2.1 hw (rfl : kd 93 = 1) n5 dX7_sun_34 ?_
      exact r_iretP hC hw hF dX7_sun_35
    · have hF := ifP hF b4
      refine lv_bipush (v := (-4 : Int32)) hC.1 hC.2.1 dX7_sun_21 (by decide) ?_
      refine lv_goto (tgt := 35) hC.1 hC.2.1 dX7_sun_23 (by decide) ?_
      exact r_iretP hC hw hF dX7_sun_35
  · have hF := ifP hF b3
    refine lv_iconst (v := (-1 : Int32)) hC.1 hC.2.1 dX7_sun_12 (by decide) ?_
    exact r_iretP hC hw hF dX7_sun_13
abbrev rm_X7_right : Room := { frames := 1, cells := 0, slots := 0, locals := 25 }
theorem yv_X7_right : YV yX7_right cX7_right 3 (some .int) 1 RX7 := ⟨⟨q5_149, q5_150, q1_8, q5_151⟩, by decide +kernel⟩
theorem dX7_right_0 : decode cX7_right 0 = .ok (.iload_n 1, 1) := by decide +kernel
theorem dX7_right_1 : decode cX7_right 1 = .ok (.i2l, 1) := by decide +kernel
theorem dX7_right_2 : decode cX7_right 2 = .ok (.lconst 1, 1) := by decide +kernel
theorem dX7_right_3 : decode cX7_right 3 = .ok (.ldc2_w 220, 3) := by decide +kernel
theorem dX7_right_6 : decode cX7_right 6 = .ok (.invokestatic 104, 3) := by decide +kernel
theorem dX7_right_9 : decode cX7_right 9 = .ok (.ifCond .ne 5, 3) := by decide +kernel
theorem dX7_right_12 : decode cX7_right 12 = .ok (.iconst (-1), 1) := by decide +kernel
theorem dX7_right_13 : decode cX7_right 13 = .ok (.ireturn, 1) := by decide +kernel
theorem dX7_right_14 : decode cX7_right 14 = .ok (.aload_n 0, 1) := by decide +kernel
theorem dX7_right_15 : decode cX7_right 15 = .ok (.getfield 101, 3) := by decide +kernel
theorem dX7_right_18 : decode cX7_right 18 = .ok (.ifCond .ne 6, 3) := by decide +kernel
theorem dX7_right_21 : decode cX7_right 21 = .ok (.bipush (-4), 2) := by decide +kernel
theorem dX7_right_23 : decode cX7_right 23 = .ok (.ireturn, 1) := by decide +kernel
theorem dX7_right_24 : decode cX7_right 24 = .ok (.aload_n 0, 1) := by decide +kernel
theorem dX7_right_25 : decode cX7_right 25 = .ok (.getfield 164, 3) := by decide +kernel
theorem dX7_right_28 : decode cX7_right 28 = .ok (.istore_n 2, 1) := by decide +kernel
theorem dX7_right_29 : decode cX7_right 29 = .ok (.aload_n 0, 1) := by decide +kernel
theorem dX7_right_30 : decode cX7_right 30 = .ok (.iload_n 1, 1) := by decide +kernel
theorem dX7_right_31 : decode cX7_right 31 = .ok (.putfield 164, 3) := by decide +kernel
theorem dX7_right_34 : decode cX7_right 34 = .ok (.iload_n 2, 1) := by decide +kernel
theorem dX7_right_35 : decode cX7_right 35 = .ok (.ireturn, 1) := by decide +kernel
def F_X7_right (fu : Nat) (M : Mm) (x1 : Int32) : Option (Int32 × Mm) :=
  ob1 (F_X7_in fu M x1.toInt64 (1 : Int64) (9 : Int64)) (fun r2 =>
  if r2 = 0 then
    some ((-1 : Int32), M)
  else
    if (M.1 86 4) = 0 then
      some ((-4 : Int32), M)
    else
      lt1 (pI M 86 10 x1) (fun M5 =>
      some ((M.1 86 10), M5)))
set_option maxRecDepth 100000 in
set_option maxHeartbeats 4000000 in
theorem c_X7_right {l : Launch} {G : Gv} {fu : Nat} {M : Mm} {x1 : Int32} {r : Int32} {M' : Mm} (hF : F_X7_right fu M x1 = some (r, M')) : Met l yX7_right (.code yX7_right cX7_right 3 (some .int) :: zU) rm_X7_right (va_Pc [.ref (ad G 86), .int x1] (Wd G M)) (QI G r M') 0 0 (zA G) := by
  refine zMet (by decide) rfl (Nat.le_of_ble_eq_true rfl) ?_
  intro p e s m below meth c hC hw ls hl
  have hl : lv_has ls 3 [(0, .ref (ad G 86)), (1, .int x1)] := hl
  unfold F_X7_right at hF
  refine lv_iload_n hC.1 hC.2.1 dX7_right_0 rfl (lv_at hl 1 rfl) ?_
  refine lv_i2l hC.1 hC.2.1 dX7_right_1 rfl ?_
  refine lv_lconst (v := (1 : Int64)) hC.1 hC.2.1 dX7_right_2 (by decide) ?_
  refine lv_ldc2 (v := (9 : Int64)) hC.1 hC.2.1 hC.2.2.2.1 (hC.2.2.2.2.1 _ q5_152) dX7_right_3 ?_
  obtain ⟨r2, h1, hF⟩ := ob1S hF
  refine k_Si (As := [.long x1.toInt64, .long (1 : Int64), .long (9 : Int64)]) (rest := []) hC hw (c_X7_in (M := M) h1) ys_X7_in q5_3 ⟨rfl, rfl⟩ ⟨Nat.le_of_ble_eq_true rfl, Nat.le_of_ble_eq_true rfl⟩ ⟨Nat.zero_le _, Nat.zero_le _⟩ rfl rfl (Nat.le_of_ble_eq_true rfl) hl dX7_right_6 (fun H locs hw => ?_)
  refine lv_if_ne (tgt := 14) hC.1 hC.2.1 dX7_right_9 (by decide) (fun b3 => ?_) (fun b3 => ?_)
  · have hF := ifN hF b3
    refine lv_aload_n hC.1 hC.2.1 dX7_right_14 rfl (lv_at hl 0 rfl) ?_
    refine g7_men hC hw q4_126 dX7_right_15 ?_
    refine lv_if_ne (tgt := 24) hC.1 hC.2.1 dX7_right_18 (by decide) (fun b4 => ?_) (fun b4 => ?_)
    · have hF := ifN hF b4
      refine lv_aload_n hC.1 hC.2.1 dX7_right_24 rfl (lv_at hl 0 rfl) ?_
      refine g7_rightIs hC hw q4_132 dX7_right_25 ?_
      refine lv_istore_n (lv' := [(2, .int (M.1 86 10)), (0, .ref (ad G 86)), (1, .int x1)]) hC.1 hC.2.1 dX7_right_28 rfl hl (by decide) rfl (fun ls hl => ?_)
      refine lv_aload_n hC.1 hC.2.1 dX7_right_29 rfl (lv_at hl 1 rfl) ?_
      refine lv_iload_n hC.1 hC.2.1 dX7_right_30 rfl (lv_at hl 2 rfl) ?_
      refine u7_rightIs hC hw q4_132 dX7_right_31 (fun H locs hw => ?_)
      obtain ⟨M5, hw, hF⟩ := lt1W hF hw
      refine lv_iload_n hC.1 hC.2.1 dX7_right_34 rfl (lv_at hl 0 rfl) ?_
      exact r_iretE hC hw hF dX7_right_35
    · have hF := ifP hF b4
      refine lv_bipush (v := (-4 : Int32)) hC.1 hC.2.1 dX7_right_21 (by decide) ?_
      exact r_iretE hC hw hF dX7_right_23
  · have hF := ifP hF b3
    refine lv_iconst (v := (-1 : Int32)) hC.1 hC.2.1 dX7_right_12 (by decide) ?_
    exact r_iretE hC hw hF dX7_right_13
abbrev rm_X7_remember : Room := { frames := 0, cells := 0, slots := 0, locals := 0 }
theorem yv_X7_remember : YV yX7_remember cX7_remember 3 none 0 RX7 := ⟨⟨q5_163, qs_53, q1_8, q5_164⟩, by decide +kernel⟩
theorem dX7_remember_0 : decode cX7_remember 0 = .ok (.bipush 13, 2) := by decide +kernel
theorem dX7_remember_2 : decode cX7_remember 2 = .ok (.aload_n 0, 1) := by decide +kernel
theorem dX7_remember_3 : decode cX7_remember 3 = .ok (.getfield 170, 3) := by decide +kernel
theorem dX7_remember_6 : decode cX7_remember 6 = .ok (.imul, 1) := by decide +kernel
theorem dX7_remember_7 : decode cX7_remember 7 = .ok (.istore_n 1, 1) := by decide +kernel
theorem dX7_remember_8 : decode cX7_remember 8 = .ok (.iconst 0, 1) := by decide +kernel
theorem dX7_remember_9 : decode cX7_remember 9 = .ok (.istore_n 2, 1) := by decide +kernel
theorem dX7_remember_10 : decode cX7_remember 10 = .ok (.iload_n 2, 1) := by decide +kernel
theorem dX7_remember_11 : decode cX7_remember 11 = .ok (.bipush 6, 2) := by decide +kernel
theorem dX7_remember_13 : decode cX7_remember 13 = .ok (.if_icmp .ge 40, 3) := by decide +kernel
theorem dX7_remember_16 : decode cX7_remember 16 = .ok (.aload_n 0, 1) := by decide +kernel
theorem dX7_remember_17 : decode cX7_remember 17 = .ok (.getfield 37, 3) := by decide +kernel
theorem dX7_remember_20 : decode cX7_remember 20 = .ok (.iload_n 1, 1) := by decide +kernel
theorem dX7_remember_21 : decode cX7_remember 21 = .ok (.iload_n 2, 1) := by decide +kernel
theorem dX7_remember_22 : decode cX7_remember 22 = .ok (.iadd, 1) := by decide +kernel
theorem dX7_remember_23 : decode cX7_remember 23 = .ok (.aload_n 0, 1) := by decide +kernel
theorem dX7_remember_24 : decode cX7_remember 24 = .ok (.getfield 31, 3) := by decide +kernel
theorem dX7_remember_27 : decode cX7_remember 27 = .ok (.iload_n 2, 1) := by decide +kernel
theorem dX7_remember_28 : decode cX7_remember 28 = .ok (.iaload, 1) := by decide +kernel
theorem dX7_remember_29 : decode cX7_remember 29 = .ok (.iastore, 1) := by decide +kernel
theorem dX7_remember_30 : decode cX7_remember 30 = .ok (.aload_n 0, 1) := by decide +kernel
theorem dX7_remember_31 : decode cX7_remember 31 = .ok (.getfield 37, 3) := by decide +kernel
theorem dX7_remember_34 : decode cX7_remember 34 = .ok (.iload_n 1, 1) := by decide +kernel
theorem dX7_remember_35 : decode cX7_remember 35 = .ok (.bipush 6, 2) := by decide +kernel
theorem dX7_remember_37 : decode cX7_remember 37 = .ok (.iadd, 1) := by decide +kernel
theorem dX7_remember_38 : decode cX7_remember 38 = .ok (.iload_n 2, 1) := by decide +kernel
theorem dX7_remember_39 : decode cX7_remember 39 = .ok (.iadd, 1) := by decide +kernel
theorem dX7_remember_40 : decode cX7_remember 40 = .ok (.aload_n 0, 1) := by decide +kernel
theorem dX7_remember_41 : decode cX7_remember 41 = .ok (.getfield 34, 3) := by decide +kernel
theorem dX7_remember_44 : decode cX7_remember 44 = .ok (.iload_n 2, 1) := by decide +kernel
theorem dX7_remember_45 : decode cX7_remember 45 = .ok (.iaload, 1) := by decide +kernel
theorem dX7_remember_46 : decode cX7_remember 46 = .ok (.iastore, 1) := by decide +kernel
theorem dX7_remember_47 : decode cX7_remember 47 = .ok (.iinc 2 1, 3) := by decide +kernel
theorem dX7_remember_50 : decode cX7_remember 50 = .ok (.goto (-40), 3) := by decide +kernel
theorem dX7_remember_53 : decode cX7_remember 53 = .ok (.aload_n 0, 1) := by decide +kernel
theorem dX7_remember_54 : decode cX7_remember 54 = .ok (.getfield 37, 3) := by decide +kernel
theorem dX7_remember_57 : decode cX7_remember 57 = .ok (.iload_n 1, 1) := by decide +kernel
theorem dX7_remember_58 : decode cX7_remember 58 = .ok (.bipush 12, 2) := by decide +kernel
theorem dX7_remember_60 : decode cX7_remember 60 = .ok (.iadd, 1) := by decide +kernel
theorem dX7_remember_61 : decode cX7_remember 61 = .ok (.aload_n 0, 1) := by decide +kernel
theorem dX7_remember_62 : decode cX7_remember 62 = .ok (.getfield 167, 3) := by decide +kernel
theorem dX7_remember_65 : decode cX7_remember 65 = .ok (.iastore, 1) := by decide +kernel
theorem dX7_remember_66 : decode cX7_remember 66 = .ok (.aload_n 0, 1) := by decide +kernel
theorem dX7_remember_67 : decode cX7_remember 67 = .ok (.dup, 1) := by decide +kernel
theorem dX7_remember_68 : decode cX7_remember 68 = .ok (.getfield 170, 3) := by decide +kernel
theorem dX7_remember_71 : decode cX7_remember 71 = .ok (.iconst 1, 1) := by decide +kernel
theorem dX7_remember_72 : decode cX7_remember 72 = .ok (.iadd, 1) := by decide +kernel
theorem dX7_remember_73 : decode cX7_remember 73 = .ok (.putfield 170, 3) := by decide +kernel
theorem dX7_remember_76 : decode cX7_remember 76 = .ok (.return_, 1) := by decide +kernel
def F_X7_remember_10 (fu : Nat) : Nat → Mm → Int32 → Int32 → Option Mm
  | 0, _, _, _ => none
  | n + 1, M, x1, x2 =>
    if (6 : Int32) ≤ x2 then
      if (x1 + (12 : Int32)) < 0 ∨ ln 96 ≤ (x1 + (12 : Int32)).toNatClampNeg then none else (
      lt1 (pI M 96 (x1 + (12 : Int32)).toNatClampNeg (M.1 86 11)) (fun M3 =>
      lt1 (pI M3 86 12 ((M3.1 86 12) + (1 : Int32))) (fun M4 =>
      some M4)))
    else
      if x2 < 0 ∨ ln 94 ≤ x2.toNatClampNeg then none else (
      if (x1 + x2) < 0 ∨ ln 96 ≤ (x1 + x2).toNatClampNeg then none else (
      lt1 (pI M 96 (x1 + x2).toNatClampNeg (M.1 94 x2.toNatClampNeg)) (fun M7 =>
      if x2 < 0 ∨ ln 95 ≤ x2.toNatClampNeg then none else (
      if ((x1 + (6 : Int32)) + x2) < 0 ∨ ln 96 ≤ ((x1 + (6 : Int32)) + x2).toNatClampNeg then none else (
      lt1 (pI M7 96 ((x1 + (6 : Int32)) + x2).toNatClampNeg (M7.1 95 x2.toNatClampNeg)) (fun M10 =>
      F_X7_remember_10 fu n M10 x1 (x2 + (1 : Int32))))))))
set_option maxRecDepth 100000 in
set_option maxHeartbeats 4000000 in
theorem w_X7_remember_10 {p : Program} {l : Launch} {e : Env} {s : State} {m : MethodId} {args : Array Value} {below : List Frame} {meth : Method} {c : Code} {G : Gv} (hC : Cx p s m args meth c cX7_remember 3 none RX7) {fu : Nat} {M' : Mm} : ∀ (n : Nat) {x1 : Int32} {x2 : Int32} {M : Mm} {H : Heap} {locs : List Loc} {ls : Array Slot}, F_X7_remember_10 fu n M x1 x2 = some M' → St G s H locs M → lv_has ls 3 [(0, .ref (ad G 86)), (1, .int x1), (2, .int x2)] → W p l e rm_X7_remember s m args below meth c H locs 0 0 (MQ below (QV G M') args s 0 0 (zA G)) (F0 m 10 ls []) := by
  intro n
  induction n with
  | zero =>
    intro x1 x2 M H locs ls hF hw hl
    cases hF
  | succ n ih =>
    intro x1 x2 M H locs ls hF hw hl
    unfold F_X7_remember_10 at hF
    refine lv_iload_n hC.1 hC.2.1 dX7_remember_10 rfl (lv_at hl 2 rfl) ?_
    refine lv_bipush (v := (6 : Int32)) hC.1 hC.2.1 dX7_remember_11 (by decide) ?_
    refine lv_icmp_ge (tgt := 53) hC.1 hC.2.1 dX7_remember_13 (by decide) (fun b1 => ?_) (fun b1 => ?_)
    · have hF := ifP hF b1
      refine lv_aload_n hC.1 hC.2.1 dX7_remember_53 rfl (lv_at hl 0 rfl) ?_
      refine g7_past hC hw q4_135 dX7_remember_54 ?_
      refine lv_iload_n hC.1 hC.2.1 dX7_remember_57 rfl (lv_at hl 1 rfl) ?_
      refine lv_bipush (v := (12 : Int32)) hC.1 hC.2.1 dX7_remember_58 (by decide) ?_
      refine lv_iadd hC.1 hC.2.1 dX7_remember_60 ?_
      refine lv_aload_n hC.1 hC.2.1 dX7_remember_61 rfl (lv_at hl 0 rfl) ?_
      refine g7_dayIs hC hw q4_133 dX7_remember_62 ?_
      obtain ⟨n2, hF⟩ := ifO hF
      refine r_iast hC.1 hC.2.1 hw (rfl : kd 96 = 1) n2 dX7_remember_65 (fun H locs hw => ?_)
      obtain ⟨M3, hw, hF⟩ := lt1W hF hw
      refine lv_aload_n hC.1 hC.2.1 dX7_remember_66 rfl (lv_at hl 0 rfl) ?_
      refine lv_dup hC.1 hC.2.1 dX7_remember_67 rfl ?_
      refine g7_deeds hC hw q4_134 dX7_remember_68 ?_
      refine lv_iconst (v := (1 : Int32)) hC.1 hC.2.1 dX7_remember_71 (by decide) ?_
      refine lv_iadd hC.1 hC.2.1 dX7_remember_72 ?_
      refine u7_deeds hC hw q4_134 dX7_remember_73 (fun H locs hw => ?_)
      obtain ⟨M4, hw, hF⟩ := lt1W hF hw
      exact r_vretE hC hw hF dX7_remember_76
    · have hF := ifN hF b1
      refine lv_aload_n hC.1 hC.2.1 dX7_remember_16 rfl (lv_at hl 0 rfl) ?_
      refine g7_past hC hw q4_135 dX7_remember_17 ?_
      refine lv_iload_n hC.1 hC.2.1 dX7_remember_20 rfl (lv_at hl 1 rfl) ?_
      refine lv_iload_n hC.1 hC.2.1 dX7_remember_21 rfl (lv_at hl 2 rfl) ?_
      refine lv_iadd hC.1 hC.2.1 dX7_remember_22 ?_
      refine lv_aload_n hC.1 hC.2.1 dX7_remember_23 rfl (lv_at hl 0 rfl) ?_
      refine g7_bulks hC hw q4_130 dX7_remember_24 ?_
      refine lv_iload_n hC.1 hC.2.1 dX7_remember_27 rfl (lv_at hl 2 rfl) ?_
      obtain ⟨n5, hF⟩ := ifO hF
      refine r_iald hC.1 hC.2.1 hw (rfl : kd 94 = 1) n5 dX7_remember_28 ?_
      obtain ⟨n6, hF⟩ := ifO hF
      refine r_iast hC.1 hC.2.1 hw (rfl : kd 96 = 1) n6 dX7_remember_29 (fun H locs hw => ?_)
      obtain ⟨M7, hw, hF⟩ := lt1W hF hw
      refine lv_aload_n hC.1 hC.2.1 dX7_remember_30 rfl (lv_at hl 0 rfl) ?_
      refine g7_past hC hw q4_135 dX7_remember_31 ?_
      refine lv_iload_n hC.1 hC.2.1 dX7_remember_34 rfl (lv_at hl 1 rfl) ?_
      refine lv_bipush (v := (6 : Int32)) hC.1 hC.2.1 dX7_remember_35 (by decide) ?_
      refine lv_iadd hC.1 hC.2.1 dX7_remember_37 ?_
      refine lv_iload_n hC.1 hC.2.1 dX7_remember_38 rfl (lv_at hl 2 rfl) ?_
      refine lv_iadd hC.1 hC.2.1 dX7_remember_39 ?_
      refine lv_aload_n hC.1 hC.2.1 dX7_remember_40 rfl (lv_at hl 0 rfl) ?_
      refine g7_shades hC hw q4_131 dX7_remember_41 ?_
      refine lv_iload_n hC.1 hC.2.1 dX7_remember_44 rfl (lv_at hl 2 rfl) ?_
      obtain ⟨n8, hF⟩ := ifO hF
      refine r_iald hC.1 hC.2.1 hw (rfl : kd 95 = 1) n8 dX7_remember_45 ?_
      obtain ⟨n9, hF⟩ := ifO hF
      refine r_iast hC.1 hC.2.1 hw (rfl : kd 96 = 1) n9 dX7_remember_46 (fun H locs hw => ?_)
      obtain ⟨M10, hw, hF⟩ := lt1W hF hw
      refine lv_iinc (v := (x2 + (1 : Int32))) (lv' := [(2, .int (x2 + (1 : Int32))), (0, .ref (ad G 86)), (1, .int x1)]) hC.1 hC.2.1 dX7_remember_47 hl (k := 2) rfl rfl (by decide) rfl (fun ls hl => ?_)
      refine lv_goto (tgt := 10) hC.1 hC.2.1 dX7_remember_50 (by decide) ?_
      exact ih hF hw (lv_sub hl [1, 2, 0] rfl)
def F_X7_remember (fu : Nat) (M : Mm) : Option Mm :=
  F_X7_remember_10 fu fu M ((13 : Int32) * (M.1 86 12)) (0 : Int32)
set_option maxRecDepth 100000 in
set_option maxHeartbeats 4000000 in
theorem c_X7_remember {l : Launch} {G : Gv} {fu : Nat} {M : Mm} {M' : Mm} (hF : F_X7_remember fu M = some M') : Met l yX7_remember (.code yX7_remember cX7_remember 3 none :: zU) rm_X7_remember (va_Pc [.ref (ad G 86)] (Wd G M)) (QV G M') 0 0 (zA G) := by
  refine zMet (by decide) rfl (Nat.le_of_ble_eq_true rfl) ?_
  intro p e s m below meth c hC hw ls hl
  have hl : lv_has ls 3 [(0, .ref (ad G 86))] := hl
  unfold F_X7_remember at hF
  refine lv_bipush (v := (13 : Int32)) hC.1 hC.2.1 dX7_remember_0 (by decide) ?_
  refine lv_aload_n hC.1 hC.2.1 dX7_remember_2 rfl (lv_at hl 0 rfl) ?_
  refine g7_deeds hC hw q4_134 dX7_remember_3 ?_
  refine lv_imul hC.1 hC.2.1 dX7_remember_6 ?_
  refine lv_istore_n (lv' := [(1, .int ((13 : Int32) * (M.1 86 12))), (0, .ref (ad G 86))]) hC.1 hC.2.1 dX7_remember_7 rfl hl (by decide) rfl (fun ls hl => ?_)
  refine lv_iconst (v := (0 : Int32)) hC.1 hC.2.1 dX7_remember_8 (by decide) ?_
  refine lv_istore_n (lv' := [(2, .int (0 : Int32)), (1, .int ((13 : Int32) * (M.1 86 12))), (0, .ref (ad G 86))]) hC.1 hC.2.1 dX7_remember_9 rfl hl (by decide) rfl (fun ls hl => ?_)
  exact w_X7_remember_10 hC _ hF hw (lv_sub hl [2, 1, 0] rfl)
abbrev rm_X7_pass : Room := { frames := 4, cells := 0, slots := 0, locals := 93 }
theorem yv_X7_pass : YV yX7_pass cX7_pass 3 none 1 RX7 := ⟨⟨q5_159, qs_52, q1_8, q5_160⟩, by decide +kernel⟩
theorem dX7_pass_0 : decode cX7_pass 0 = .ok (.aload_n 0, 1) := by decide +kernel
theorem dX7_pass_1 : decode cX7_pass 1 = .ok (.invokevirtual 222, 3) := by decide +kernel
theorem dX7_pass_4 : decode cX7_pass 4 = .ok (.iconst 0, 1) := by decide +kernel
theorem dX7_pass_5 : decode cX7_pass 5 = .ok (.istore_n 2, 1) := by decide +kernel
theorem dX7_pass_6 : decode cX7_pass 6 = .ok (.iload_n 2, 1) := by decide +kernel
theorem dX7_pass_7 : decode cX7_pass 7 = .ok (.aload_n 0, 1) := by decide +kernel
theorem dX7_pass_8 : decode cX7_pass 8 = .ok (.getfield 101, 3) := by decide +kernel
theorem dX7_pass_11 : decode cX7_pass 11 = .ok (.if_icmp .ge 25, 3) := by decide +kernel
theorem dX7_pass_14 : decode cX7_pass 14 = .ok (.iload_n 1, 1) := by decide +kernel
theorem dX7_pass_15 : decode cX7_pass 15 = .ok (.ifCond .eq 21, 3) := by decide +kernel
theorem dX7_pass_18 : decode cX7_pass 18 = .ok (.aload_n 0, 1) := by decide +kernel
theorem dX7_pass_19 : decode cX7_pass 19 = .ok (.getfield 31, 3) := by decide +kernel
theorem dX7_pass_22 : decode cX7_pass 22 = .ok (.iload_n 2, 1) := by decide +kernel
theorem dX7_pass_23 : decode cX7_pass 23 = .ok (.aload_n 0, 1) := by decide +kernel
theorem dX7_pass_24 : decode cX7_pass 24 = .ok (.iload_n 2, 1) := by decide +kernel
theorem dX7_pass_25 : decode cX7_pass 25 = .ok (.iconst 1, 1) := by decide +kernel
theorem dX7_pass_26 : decode cX7_pass 26 = .ok (.invokevirtual 184, 3) := by decide +kernel
theorem dX7_pass_29 : decode cX7_pass 29 = .ok (.iastore, 1) := by decide +kernel
theorem dX7_pass_30 : decode cX7_pass 30 = .ok (.iinc 2 1, 3) := by decide +kernel
theorem dX7_pass_33 : decode cX7_pass 33 = .ok (.goto (-27), 3) := by decide +kernel
theorem dX7_pass_36 : decode cX7_pass 36 = .ok (.aload_n 0, 1) := by decide +kernel
theorem dX7_pass_37 : decode cX7_pass 37 = .ok (.dup, 1) := by decide +kernel
theorem dX7_pass_38 : decode cX7_pass 38 = .ok (.getfield 167, 3) := by decide +kernel
theorem dX7_pass_41 : decode cX7_pass 41 = .ok (.iconst 1, 1) := by decide +kernel
theorem dX7_pass_42 : decode cX7_pass 42 = .ok (.iadd, 1) := by decide +kernel
theorem dX7_pass_43 : decode cX7_pass 43 = .ok (.putfield 167, 3) := by decide +kernel
theorem dX7_pass_46 : decode cX7_pass 46 = .ok (.return_, 1) := by decide +kernel
def F_X7_pass_6 (fu : Nat) : Nat → Mm → Int32 → Int32 → Option Mm
  | 0, _, _, _ => none
  | n + 1, M, x1, x2 =>
    if (M.1 86 4) ≤ x2 then
      lt1 (pI M 86 11 ((M.1 86 11) + (1 : Int32))) (fun M2 =>
      some M2)
    else
      if x1 = 0 then
        lt1 (pI M 86 11 ((M.1 86 11) + (1 : Int32))) (fun M4 =>
        some M4)
      else
        ob1 (F_X7_bulkThen fu M x2 (1 : Int32)) (fun r6 =>
        if x2 < 0 ∨ ln 94 ≤ x2.toNatClampNeg then none else (
        lt1 (pI M 94 x2.toNatClampNeg r6) (fun M8 =>
        F_X7_pass_6 fu n M8 x1 (x2 + (1 : Int32)))))
set_option maxRecDepth 100000 in
set_option maxHeartbeats 4000000 in
theorem w_X7_pass_6 {p : Program} {l : Launch} {e : Env} {s : State} {m : MethodId} {args : Array Value} {below : List Frame} {meth : Method} {c : Code} {G : Gv} (hC : Cx p s m args meth c cX7_pass 3 none RX7) {fu : Nat} {M' : Mm} : ∀ (n : Nat) {x1 : Int32} {x2 : Int32} {M : Mm} {H : Heap} {locs : List Loc} {ls : Array Slot}, F_X7_pass_6 fu n M x1 x2 = some M' → St G s H locs M → lv_has ls 3 [(0, .ref (ad G 86)), (1, .int x1), (2, .int x2)] → W p l e rm_X7_pass s m args below meth c H locs 0 0 (MQ below (QV G M') args s 0 0 (zA G)) (F0 m 6 ls []) := by
  intro n
  induction n with
  | zero =>
    intro x1 x2 M H locs ls hF hw hl
    cases hF
  | succ n ih =>
    intro x1 x2 M H locs ls hF hw hl
    unfold F_X7_pass_6 at hF
    refine lv_iload_n hC.1 hC.2.1 dX7_pass_6 rfl (lv_at hl 2 rfl) ?_
    refine lv_aload_n hC.1 hC.2.1 dX7_pass_7 rfl (lv_at hl 0 rfl) ?_
    refine g7_men hC hw q4_126 dX7_pass_8 ?_
    refine lv_icmp_ge (tgt := 36) hC.1 hC.2.1 dX7_pass_11 (by decide) (fun b1 => ?_) (fun b1 => ?_)
    · have hF := ifP hF b1
      refine lv_aload_n hC.1 hC.2.1 dX7_pass_36 rfl (lv_at hl 0 rfl) ?_
      refine lv_dup hC.1 hC.2.1 dX7_pass_37 rfl ?_
      refine g7_dayIs hC hw q4_133 dX7_pass_38 ?_
      refine lv_iconst (v := (1 : Int32)) hC.1 hC.2.1 dX7_pass_41 (by decide) ?_
      refine lv_iadd hC.1 hC.2.1 dX7_pass_42 ?_
      refine u7_dayIs hC hw q4_133 dX7_pass_43 (fun H locs hw => ?_)
      obtain ⟨M2, hw, hF⟩ := lt1W hF hw
      exact r_vretE hC hw hF dX7_pass_46
    · have hF := ifN hF b1
      refine lv_iload_n hC.1 hC.2.1 dX7_pass_14 rfl (lv_at hl 1 rfl) ?_
      refine lv_if_eq (tgt := 36) hC.1 hC.2.1 dX7_pass_15 (by decide) (fun b3 => ?_) (fun b3 => ?_)
      · have hF := ifP hF b3
        refine lv_aload_n hC.1 hC.2.1 dX7_pass_36 rfl (lv_at hl 0 rfl) ?_
        refine lv_dup hC.1 hC.2.1 dX7_pass_37 rfl ?_
        refine g7_dayIs hC hw q4_133 dX7_pass_38 ?_
        refine lv_iconst (v := (1 : Int32)) hC.1 hC.2.1 dX7_pass_41 (by decide) ?_
        refine lv_iadd hC.1 hC.2.1 dX7_pass_42 ?_
        refine u7_dayIs hC hw q4_133 dX7_pass_43 (fun H locs hw => ?_)
        obtain ⟨M4, hw, hF⟩ := lt1W hF hw
        exact r_vretE hC hw hF dX7_pass_46
      · have hF := ifN hF b3
        refine lv_aload_n hC.1 hC.2.1 dX7_pass_18 rfl (lv_at hl 0 rfl) ?_
        refine g7_bulks hC hw q4_130 dX7_pass_19 ?_
        refine lv_iload_n hC.1 hC.2.1 dX7_pass_22 rfl (lv_at hl 2 rfl) ?_
        refine lv_aload_n hC.1 hC.2.1 dX7_pass_23 rfl (lv_at hl 0 rfl) ?_
        refine lv_iload_n hC.1 hC.2.1 dX7_pass_24 rfl (lv_at hl 2 rfl) ?_
        refine lv_iconst (v := (1 : Int32)) hC.1 hC.2.1 dX7_pass_25 (by decide) ?_
        obtain ⟨r6, h5, hF⟩ := ob1S hF
        refine k_Vi (As := [.int x2, .int (1 : Int32)]) (rest := [.int x2, .ref (ad G 94)]) hC hw (c_X7_bulkThen (M := M) h5) RC_X yv_X7_bulkThen q5_101 ⟨rfl, rfl⟩ ⟨Nat.le_of_ble_eq_true rfl, Nat.le_of_ble_eq_true rfl⟩ ⟨Nat.zero_le _, Nat.zero_le _⟩ rfl rfl (Nat.le_of_ble_eq_true rfl) hl dX7_pass_26 (fun H locs hw => ?_)
        obtain ⟨n7, hF⟩ := ifO hF
        refine r_iast hC.1 hC.2.1 hw (rfl : kd 94 = 1) n7 dX7_pass_29 (fun H locs hw => ?_)
        obtain ⟨M8, hw, hF⟩ := lt1W hF hw
        refine lv_iinc (v := (x2 + (1 : Int32))) (lv' := [(2, .int (x2 + (1 : Int32))), (0, .ref (ad G 86)), (1, .int x1)]) hC.1 hC.2.1 dX7_pass_30 hl (k := 2) rfl rfl (by decide) rfl (fun ls hl => ?_)
        refine lv_goto (tgt := 6) hC.1 hC.2.1 dX7_pass_33 (by decide) ?_
        exact ih hF hw (lv_sub hl [1, 2, 0] rfl)
def F_X7_pass (fu : Nat) (M : Mm) (x1 : Int32) : Option Mm :=
  ob1 (F_X7_remember fu M) (fun M2 =>
  F_X7_pass_6 fu fu M2 x1 (0 : Int32))
set_option maxRecDepth 100000 in
set_option maxHeartbeats 4000000 in
theorem c_X7_pass {l : Launch} {G : Gv} {fu : Nat} {M : Mm} {x1 : Int32} {M' : Mm} (hF : F_X7_pass fu M x1 = some M') : Met l yX7_pass (.code yX7_pass cX7_pass 3 none :: zU) rm_X7_pass (va_Pc [.ref (ad G 86), .int x1] (Wd G M)) (QV G M') 0 0 (zA G) := by
  refine zMet (by decide) rfl (Nat.le_of_ble_eq_true rfl) ?_
  intro p e s m below meth c hC hw ls hl
  have hl : lv_has ls 3 [(0, .ref (ad G 86)), (1, .int x1)] := hl
  unfold F_X7_pass at hF
  refine lv_aload_n hC.1 hC.2.1 dX7_pass_0 rfl (lv_at hl 0 rfl) ?_
  obtain ⟨M2, h1, hF⟩ := ob1S hF
  refine k_Vv (As := []) (rest := []) hC hw (c_X7_remember (M := M) h1) RC_X yv_X7_remember q5_161 ⟨rfl, rfl⟩ ⟨Nat.le_of_ble_eq_true rfl, Nat.le_of_ble_eq_true rfl⟩ ⟨Nat.zero_le _, Nat.zero_le _⟩ rfl rfl (Nat.le_of_ble_eq_true rfl) hl dX7_pass_1 (fun H locs hw => ?_)
  refine lv_iconst (v := (0 : Int32)) hC.1 hC.2.1 dX7_pass_4 (by decide) ?_
  refine lv_istore_n (lv' := [(2, .int (0 : Int32)), (0, .ref (ad G 86)), (1, .int x1)]) hC.1 hC.2.1 dX7_pass_5 rfl hl (by decide) rfl (fun ls hl => ?_)
  exact w_X7_pass_6 hC _ hF hw (lv_sub hl [1, 2, 0] rfl)
abbrev rm_X7_day : Room := { frames := 5, cells := 0, slots := 0, locals := 115 }
theorem yv_X7_day : YV yX7_day cX7_day 1 (some .int) 0 RX7 := ⟨⟨q5_154, q5_155, q1_8, q5_156⟩, by decide +kernel⟩
theorem dX7_day_0 : decode cX7_day 0 = .ok (.aload_n 0, 1) := by decide +kernel
theorem dX7_day_1 : decode cX7_day 1 = .ok (.getfield 101, 3) := by decide +kernel
theorem dX7_day_4 : decode cX7_day 4 = .ok (.ifCond .ne 6, 3) := by decide +kernel
theorem dX7_day_7 : decode cX7_day 7 = .ok (.bipush (-4), 2) := by decide +kernel
theorem dX7_day_9 : decode cX7_day 9 = .ok (.ireturn, 1) := by decide +kernel
theorem dX7_day_10 : decode cX7_day 10 = .ok (.aload_n 0, 1) := by decide +kernel
theorem dX7_day_11 : decode cX7_day 11 = .ok (.getfield 170, 3) := by decide +kernel
theorem dX7_day_14 : decode cX7_day 14 = .ok (.bipush 60, 2) := by decide +kernel
theorem dX7_day_16 : decode cX7_day 16 = .ok (.if_icmp .ne 6, 3) := by decide +kernel
theorem dX7_day_19 : decode cX7_day 19 = .ok (.bipush (-2), 2) := by decide +kernel
theorem dX7_day_21 : decode cX7_day 21 = .ok (.ireturn, 1) := by decide +kernel
theorem dX7_day_22 : decode cX7_day 22 = .ok (.aload_n 0, 1) := by decide +kernel
theorem dX7_day_23 : decode cX7_day 23 = .ok (.iconst 1, 1) := by decide +kernel
theorem dX7_day_24 : decode cX7_day 24 = .ok (.invokevirtual 225, 3) := by decide +kernel
theorem dX7_day_27 : decode cX7_day 27 = .ok (.aload_n 0, 1) := by decide +kernel
theorem dX7_day_28 : decode cX7_day 28 = .ok (.invokevirtual 229, 3) := by decide +kernel
theorem dX7_day_31 : decode cX7_day 31 = .ok (.invokestatic 233, 3) := by decide +kernel
theorem dX7_day_34 : decode cX7_day 34 = .ok (.ireturn, 1) := by decide +kernel
def F_X7_day (fu : Nat) (M : Mm) : Option (Int32 × Mm) :=
  if (M.1 86 4) = 0 then
    some ((-4 : Int32), M)
  else
    if (M.1 86 12) = (60 : Int32) then
      some ((-2 : Int32), M)
    else
      ob1 (F_X7_pass fu M (1 : Int32)) (fun M4 =>
      ob1 (F_X7_here fu M4) (fun r6 =>
      ob1 (F_X7_bits fu M4 r6) (fun r8 =>
      some (r8, M4))))
set_option maxRecDepth 100000 in
set_option maxHeartbeats 4000000 in
theorem c_X7_day {l : Launch} {G : Gv} {fu : Nat} {M : Mm} {r : Int32} {M' : Mm} (hF : F_X7_day fu M = some (r, M')) : Met l yX7_day (.code yX7_day cX7_day 1 (some .int) :: zU) rm_X7_day (va_Pc [.ref (ad G 86)] (Wd G M)) (QI G r M') 0 0 (zA G) := by
  refine zMet (by decide) rfl (Nat.le_of_ble_eq_true rfl) ?_
  intro p e s m below meth c hC hw ls hl
  have hl : lv_has ls 1 [(0, .ref (ad G 86))] := hl
  unfold F_X7_day at hF
  refine lv_aload_n hC.1 hC.2.1 dX7_day_0 rfl (lv_at hl 0 rfl) ?_
  refine g7_men hC hw q4_126 dX7_day_1 ?_
  refine lv_if_ne (tgt := 10) hC.1 hC.2.1 dX7_day_4 (by decide) (fun b1 => ?_) (fun b1 => ?_)
  · have hF := ifN hF b1
    refine lv_aload_n hC.1 hC.2.1 dX7_day_10 rfl (lv_at hl 0 rfl) ?_
    refine g7_deeds hC hw q4_134 dX7_day_11 ?_
    refine lv_bipush (v := (60 : Int32)) hC.1 hC.2.1 dX7_day_14 (by decide) ?_
    refine lv_icmp_ne (tgt := 22) hC.1 hC.2.1 dX7_day_16 (by decide) (fun b2 => ?_) (fun b2 => ?_)
    · have hF := ifN hF b2
      refine lv_aload_n hC.1 hC.2.1 dX7_day_22 rfl (lv_at hl 0 rfl) ?_
      refine lv_iconst (v := (1 : Int32)) hC.1 hC.2.1 dX7_day_23 (by decide) ?_
      obtain ⟨M4, h3, hF⟩ := ob1S hF
      refine k_Vv (As := [.int (1 : Int32)]) (rest := []) hC hw (c_X7_pass (M := M) h3) RC_X yv_X7_pass q5_157 ⟨rfl, rfl⟩ ⟨Nat.le_of_ble_eq_true rfl, Nat.le_of_ble_eq_true rfl⟩ ⟨Nat.zero_le _, Nat.zero_le _⟩ rfl rfl (Nat.le_of_ble_eq_true rfl) hl dX7_day_24 (fun H locs hw => ?_)
      refine lv_aload_n hC.1 hC.2.1 dX7_day_27 rfl (lv_at hl 0 rfl) ?_
      obtain ⟨r6, h5, hF⟩ := ob1S hF
      refine k_Vi (As := []) (rest := []) hC hw (c_X7_here (M := M4) h5) RC_X yv_X7_here q5_165 ⟨rfl, rfl⟩ ⟨Nat.le_of_ble_eq_true rfl, Nat.le_of_ble_eq_true rfl⟩ ⟨Nat.zero_le _, Nat.zero_le _⟩ rfl rfl (Nat.le_of_ble_eq_true rfl) hl dX7_day_28 (fun H locs hw => ?_)
      obtain ⟨r8, h7, hF⟩ := ob1S hF
      refine k_Si (As := [.int r6]) (rest := []) hC hw (c_X7_bits (M := M4) h7) ys_X7_bits q5_169 ⟨rfl, rfl⟩ ⟨Nat.le_of_ble_eq_true rfl, Nat.le_of_ble_eq_true rfl⟩ ⟨Nat.zero_le _, Nat.zero_le _⟩ rfl rfl (Nat.le_of_ble_eq_true rfl) hl dX7_day_31 (fun H locs hw => ?_)
      exact r_iretE hC hw hF dX7_day_34
    · have hF := ifP hF b2
      refine lv_bipush (v := (-2 : Int32)) hC.1 hC.2.1 dX7_day_19 (by decide) ?_
      exact r_iretE hC hw hF dX7_day_21
  · have hF := ifP hF b1
    refine lv_bipush (v := (-4 : Int32)) hC.1 hC.2.1 dX7_day_7 (by decide) ?_
    exact r_iretE hC hw hF dX7_day_9
abbrev rm_X7_shade : Room := { frames := 2, cells := 0, slots := 0, locals := 46 }
theorem yv_X7_shade : YV yX7_shade cX7_shade 4 (some .int) 2 RX7 := ⟨⟨q5_173, q5_174, q1_8, q5_175⟩, by decide +kernel⟩
theorem dX7_shade_0 : decode cX7_shade 0 = .ok (.aload_n 0, 1) := by decide +kernel
theorem dX7_shade_1 : decode cX7_shade 1 = .ok (.iload_n 1, 1) := by decide +kernel
theorem dX7_shade_2 : decode cX7_shade 2 = .ok (.invokevirtual 197, 3) := by decide +kernel
theorem dX7_shade_5 : decode cX7_shade 5 = .ok (.ifCond .eq 15, 3) := by decide +kernel
theorem dX7_shade_8 : decode cX7_shade 8 = .ok (.iload_n 2, 1) := by decide +kernel
theorem dX7_shade_9 : decode cX7_shade 9 = .ok (.i2l, 1) := by decide +kernel
theorem dX7_shade_10 : decode cX7_shade 10 = .ok (.lconst 0, 1) := by decide +kernel
theorem dX7_shade_11 : decode cX7_shade 11 = .ok (.ldc2_w 220, 3) := by decide +kernel
theorem dX7_shade_14 : decode cX7_shade 14 = .ok (.invokestatic 104, 3) := by decide +kernel
theorem dX7_shade_17 : decode cX7_shade 17 = .ok (.ifCond .ne 5, 3) := by decide +kernel
theorem dX7_shade_20 : decode cX7_shade 20 = .ok (.iconst (-1), 1) := by decide +kernel
theorem dX7_shade_21 : decode cX7_shade 21 = .ok (.ireturn, 1) := by decide +kernel
theorem dX7_shade_22 : decode cX7_shade 22 = .ok (.aload_n 0, 1) := by decide +kernel
theorem dX7_shade_23 : decode cX7_shade 23 = .ok (.getfield 170, 3) := by decide +kernel
theorem dX7_shade_26 : decode cX7_shade 26 = .ok (.bipush 60, 2) := by decide +kernel
theorem dX7_shade_28 : decode cX7_shade 28 = .ok (.if_icmp .ne 6, 3) := by decide +kernel
theorem dX7_shade_31 : decode cX7_shade 31 = .ok (.bipush (-2), 2) := by decide +kernel
theorem dX7_shade_33 : decode cX7_shade 33 = .ok (.ireturn, 1) := by decide +kernel
theorem dX7_shade_34 : decode cX7_shade 34 = .ok (.aload_n 0, 1) := by decide +kernel
theorem dX7_shade_35 : decode cX7_shade 35 = .ok (.getfield 34, 3) := by decide +kernel
theorem dX7_shade_38 : decode cX7_shade 38 = .ok (.iload_n 1, 1) := by decide +kernel
theorem dX7_shade_39 : decode cX7_shade 39 = .ok (.iaload, 1) := by decide +kernel
theorem dX7_shade_40 : decode cX7_shade 40 = .ok (.istore_n 3, 1) := by decide +kernel
theorem dX7_shade_41 : decode cX7_shade 41 = .ok (.aload_n 0, 1) := by decide +kernel
theorem dX7_shade_42 : decode cX7_shade 42 = .ok (.invokevirtual 222, 3) := by decide +kernel
theorem dX7_shade_45 : decode cX7_shade 45 = .ok (.aload_n 0, 1) := by decide +kernel
theorem dX7_shade_46 : decode cX7_shade 46 = .ok (.getfield 34, 3) := by decide +kernel
theorem dX7_shade_49 : decode cX7_shade 49 = .ok (.iload_n 1, 1) := by decide +kernel
theorem dX7_shade_50 : decode cX7_shade 50 = .ok (.iload_n 2, 1) := by decide +kernel
theorem dX7_shade_51 : decode cX7_shade 51 = .ok (.iastore, 1) := by decide +kernel
theorem dX7_shade_52 : decode cX7_shade 52 = .ok (.iload_n 3, 1) := by decide +kernel
theorem dX7_shade_53 : decode cX7_shade 53 = .ok (.ireturn, 1) := by decide +kernel
def F_X7_shade (fu : Nat) (M : Mm) (x1 : Int32) (x2 : Int32) : Option (Int32 × Mm) :=
  ob1 (F_X7_isMan fu M x1) (fun r2 =>
  if r2 = 0 then
    some ((-1 : Int32), M)
  else
    ob1 (F_X7_in fu M x2.toInt64 (0 : Int64) (9 : Int64)) (fun r5 =>
    if r5 = 0 then
      some ((-1 : Int32), M)
    else
      if (M.1 86 12) = (60 : Int32) then
        some ((-2 : Int32), M)
      else
        if x1 < 0 ∨ ln 95 ≤ x1.toNatClampNeg then none else (
        ob1 (F_X7_remember fu M) (fun M10 =>
        if x1 < 0 ∨ ln 95 ≤ x1.toNatClampNeg then none else (
        lt1 (pI M10 95 x1.toNatClampNeg x2) (fun M12 =>
        some ((M.1 95 x1.toNatClampNeg), M12)))))))
set_option maxRecDepth 100000 in
set_option maxHeartbeats 4000000 in
theorem c_X7_shade {l : Launch} {G : Gv} {fu : Nat} {M : Mm} {x1 : Int32} {x2 : Int32} {r : Int32} {M' : Mm} (hF : F_X7_shade fu M x1 x2 = some (r, M')) : Met l yX7_shade (.code yX7_shade cX7_shade 4 (some .int) :: zU) rm_X7_shade (va_Pc [.ref (ad G 86), .int x1, .int x2] (Wd G M)) (QI G r M') 0 0 (zA G) := by
  refine zMet (by decide) rfl (Nat.le_of_ble_eq_true rfl) ?_
  intro p e s m below meth c hC hw ls hl
  have hl : lv_has ls 4 [(0, .ref (ad G 86)), (1, .int x1), (2, .int x2)] := hl
  unfold F_X7_shade at hF
  refine lv_aload_n hC.1 hC.2.1 dX7_shade_0 rfl (lv_at hl 0 rfl) ?_
  refine lv_iload_n hC.1 hC.2.1 dX7_shade_1 rfl (lv_at hl 1 rfl) ?_
  obtain ⟨r2, h1, hF⟩ := ob1S hF
  refine k_Vi (As := [.int x1]) (rest := []) hC hw (c_X7_isMan (M := M) h1) RC_X yv_X7_isMan q5_89 ⟨rfl, rfl⟩ ⟨Nat.le_of_ble_eq_true rfl, Nat.le_of_ble_eq_true rfl⟩ ⟨Nat.zero_le _, Nat.zero_le _⟩ rfl rfl (Nat.le_of_ble_eq_true rfl) hl dX7_shade_2 (fun H locs hw => ?_)
  refine lv_if_eq (tgt := 20) hC.1 hC.2.1 dX7_shade_5 (by decide) (fun b3 => ?_) (fun b3 => ?_)
  · have hF := ifP hF b3
    refine lv_iconst (v := (-1 : Int32)) hC.1 hC.2.1 dX7_shade_20 (by decide) ?_
    exact r_iretE hC hw hF dX7_shade_21
  · have hF := ifN hF b3
    refine lv_iload_n hC.1 hC.2.1 dX7_shade_8 rfl (lv_at hl 2 rfl) ?_
    refine lv_i2l hC.1 hC.2.1 dX7_shade_9 rfl ?_
    refine lv_lconst (v := (0 : Int64)) hC.1 hC.2.1 dX7_shade_10 (by decide) ?_
    refine lv_ldc2 (v := (9 : Int64)) hC.1 hC.2.1 hC.2.2.2.1 (hC.2.2.2.2.1 _ q5_152) dX7_shade_11 ?_
    obtain ⟨r5, h4, hF⟩ := ob1S hF
    refine k_Si (As := [.long x2.toInt64, .long (0 : Int64), .long (9 : Int64)]) (rest := []) hC hw (c_X7_in (M := M) h4) ys_X7_in q5_3 ⟨rfl, rfl⟩ ⟨Nat.le_of_ble_eq_true rfl, Nat.le_of_ble_eq_true rfl⟩ ⟨Nat.zero_le _, Nat.zero_le _⟩ rfl rfl (Nat.le_of_ble_eq_true rfl) hl dX7_shade_14 (fun H locs hw => ?_)
    refine lv_if_ne (tgt := 22) hC.1 hC.2.1 dX7_shade_17 (by decide) (fun b6 => ?_) (fun b6 => ?_)
    · have hF := ifN hF b6
      refine lv_aload_n hC.1 hC.2.1 dX7_shade_22 rfl (lv_at hl 0 rfl) ?_
      refine g7_deeds hC hw q4_134 dX7_shade_23 ?_
      refine lv_bipush (v := (60 : Int32)) hC.1 hC.2.1 dX7_shade_26 (by decide) ?_
      refine lv_icmp_ne (tgt := 34) hC.1 hC.2.1 dX7_shade_28 (by decide) (fun b7 => ?_) (fun b7 => ?_)
      · have hF := ifN hF b7
        refine lv_aload_n hC.1 hC.2.1 dX7_shade_34 rfl (lv_at hl 0 rfl) ?_
        refine g7_shades hC hw q4_131 dX7_shade_35 ?_
        refine lv_iload_n hC.1 hC.2.1 dX7_shade_38 rfl (lv_at hl 1 rfl) ?_
        obtain ⟨n8, hF⟩ := ifO hF
        refine r_iald hC.1 hC.2.1 hw (rfl : kd 95 = 1) n8 dX7_shade_39 ?_
        refine lv_istore_n (lv' := [(3, .int (M.1 95 x1.toNatClampNeg)), (0, .ref (ad G 86)), (1, .int x1), (2, .int x2)]) hC.1 hC.2.1 dX7_shade_40 rfl hl (by decide) rfl (fun ls hl => ?_)
        refine lv_aload_n hC.1 hC.2.1 dX7_shade_41 rfl (lv_at hl 1 rfl) ?_
        obtain ⟨M10, h9, hF⟩ := ob1S hF
        refine k_Vv (As := []) (rest := []) hC hw (c_X7_remember (M := M) h9) RC_X yv_X7_remember q5_161 ⟨rfl, rfl⟩ ⟨Nat.le_of_ble_eq_true rfl, Nat.le_of_ble_eq_true rfl⟩ ⟨Nat.zero_le _, Nat.zero_le _⟩ rfl rfl (Nat.le_of_ble_eq_true rfl) hl dX7_shade_42 (fun H locs hw => ?_)
        refine lv_aload_n hC.1 hC.2.1 dX7_shade_45 rfl (lv_at hl 1 rfl) ?_
        refine g7_shades hC hw q4_131 dX7_shade_46 ?_
        refine lv_iload_n hC.1 hC.2.1 dX7_shade_49 rfl (lv_at hl 2 rfl) ?_
        refine lv_iload_n hC.1 hC.2.1 dX7_shade_50 rfl (lv_at hl 3 rfl) ?_
        obtain ⟨n11, hF⟩ := ifO hF
        refine r_iast hC.1 hC.2.1 hw (rfl : kd 95 = 1) n11 dX7_shade_51 (fun H locs hw => ?_)
        obtain ⟨M12, hw, hF⟩ := lt1W hF hw
        refine lv_iload_n hC.1 hC.2.1 dX7_shade_52 rfl (lv_at hl 0 rfl) ?_
        exact r_iretE hC hw hF dX7_shade_53
      · have hF := ifP hF b7
        refine lv_bipush (v := (-2 : Int32)) hC.1 hC.2.1 dX7_shade_31 (by decide) ?_
        exact r_iretE hC hw hF dX7_shade_33
    · have hF := ifP hF b6
      refine lv_iconst (v := (-1 : Int32)) hC.1 hC.2.1 dX7_shade_20 (by decide) ?_
      exact r_iretE hC hw hF dX7_shade_21
abbrev rm_X7_snow : Room := { frames := 2, cells := 0, slots := 0, locals := 46 }
theorem yv_X7_snow : YV yX7_snow cX7_snow 3 (some .int) 2 RX7 := ⟨⟨q5_177, q5_178, q1_8, q5_179⟩, by decide +kernel⟩
theorem dX7_snow_0 : decode cX7_snow 0 = .ok (.aload_n 0, 1) := by decide +kernel
theorem dX7_snow_1 : decode cX7_snow 1 = .ok (.iload_n 1, 1) := by decide +kernel
theorem dX7_snow_2 : decode cX7_snow 2 = .ok (.invokevirtual 197, 3) := by decide +kernel
theorem dX7_snow_5 : decode cX7_snow 5 = .ok (.ifCond .eq 15, 3) := by decide +kernel
theorem dX7_snow_8 : decode cX7_snow 8 = .ok (.iload_n 2, 1) := by decide +kernel
theorem dX7_snow_9 : decode cX7_snow 9 = .ok (.i2l, 1) := by decide +kernel
theorem dX7_snow_10 : decode cX7_snow 10 = .ok (.lconst 1, 1) := by decide +kernel
theorem dX7_snow_11 : decode cX7_snow 11 = .ok (.ldc2_w 220, 3) := by decide +kernel
theorem dX7_snow_14 : decode cX7_snow 14 = .ok (.invokestatic 104, 3) := by decide +kernel
theorem dX7_snow_17 : decode cX7_snow 17 = .ok (.ifCond .ne 5, 3) := by decide +kernel
theorem dX7_snow_20 : decode cX7_snow 20 = .ok (.iconst (-1), 1) := by decide +kernel
theorem dX7_snow_21 : decode cX7_snow 21 = .ok (.ireturn, 1) := by decide +kernel
theorem dX7_snow_22 : decode cX7_snow 22 = .ok (.aload_n 0, 1) := by decide +kernel
theorem dX7_snow_23 : decode cX7_snow 23 = .ok (.getfield 31, 3) := by decide +kernel
theorem dX7_snow_26 : decode cX7_snow 26 = .ok (.iload_n 1, 1) := by decide +kernel
theorem dX7_snow_27 : decode cX7_snow 27 = .ok (.iaload, 1) := by decide +kernel
theorem dX7_snow_28 : decode cX7_snow 28 = .ok (.ifCond .ne 6, 3) := by decide +kernel
theorem dX7_snow_31 : decode cX7_snow 31 = .ok (.bipush (-4), 2) := by decide +kernel
theorem dX7_snow_33 : decode cX7_snow 33 = .ok (.ireturn, 1) := by decide +kernel
theorem dX7_snow_34 : decode cX7_snow 34 = .ok (.aload_n 0, 1) := by decide +kernel
theorem dX7_snow_35 : decode cX7_snow 35 = .ok (.getfield 170, 3) := by decide +kernel
theorem dX7_snow_38 : decode cX7_snow 38 = .ok (.bipush 60, 2) := by decide +kernel
theorem dX7_snow_40 : decode cX7_snow 40 = .ok (.if_icmp .ne 6, 3) := by decide +kernel
theorem dX7_snow_43 : decode cX7_snow 43 = .ok (.bipush (-2), 2) := by decide +kernel
theorem dX7_snow_45 : decode cX7_snow 45 = .ok (.ireturn, 1) := by decide +kernel
theorem dX7_snow_46 : decode cX7_snow 46 = .ok (.aload_n 0, 1) := by decide +kernel
theorem dX7_snow_47 : decode cX7_snow 47 = .ok (.invokevirtual 222, 3) := by decide +kernel
theorem dX7_snow_50 : decode cX7_snow 50 = .ok (.aload_n 0, 1) := by decide +kernel
theorem dX7_snow_51 : decode cX7_snow 51 = .ok (.getfield 31, 3) := by decide +kernel
theorem dX7_snow_54 : decode cX7_snow 54 = .ok (.iload_n 1, 1) := by decide +kernel
theorem dX7_snow_55 : decode cX7_snow 55 = .ok (.bipush 99, 2) := by decide +kernel
theorem dX7_snow_57 : decode cX7_snow 57 = .ok (.aload_n 0, 1) := by decide +kernel
theorem dX7_snow_58 : decode cX7_snow 58 = .ok (.getfield 31, 3) := by decide +kernel
theorem dX7_snow_61 : decode cX7_snow 61 = .ok (.iload_n 1, 1) := by decide +kernel
theorem dX7_snow_62 : decode cX7_snow 62 = .ok (.iaload, 1) := by decide +kernel
theorem dX7_snow_63 : decode cX7_snow 63 = .ok (.iload_n 2, 1) := by decide +kernel
theorem dX7_snow_64 : decode cX7_snow 64 = .ok (.iadd, 1) := by decide +kernel
theorem dX7_snow_65 : decode cX7_snow 65 = .ok (.invokestatic 236, 3) := by decide +kernel
theorem dX7_snow_68 : decode cX7_snow 68 = .ok (.iastore, 1) := by decide +kernel
theorem dX7_snow_69 : decode cX7_snow 69 = .ok (.aload_n 0, 1) := by decide +kernel
theorem dX7_snow_70 : decode cX7_snow 70 = .ok (.getfield 31, 3) := by decide +kernel
theorem dX7_snow_73 : decode cX7_snow 73 = .ok (.iload_n 1, 1) := by decide +kernel
theorem dX7_snow_74 : decode cX7_snow 74 = .ok (.iaload, 1) := by decide +kernel
theorem dX7_snow_75 : decode cX7_snow 75 = .ok (.ireturn, 1) := by decide +kernel
def F_X7_snow (fu : Nat) (M : Mm) (x1 : Int32) (x2 : Int32) : Option (Int32 × Mm) :=
  ob1 (F_X7_isMan fu M x1) (fun r2 =>
  if r2 = 0 then
    some ((-1 : Int32), M)
  else
    ob1 (F_X7_in fu M x2.toInt64 (1 : Int64) (9 : Int64)) (fun r5 =>
    if r5 = 0 then
      some ((-1 : Int32), M)
    else
      if x1 < 0 ∨ ln 94 ≤ x1.toNatClampNeg then none else (
      if (M.1 94 x1.toNatClampNeg) = 0 then
        some ((-4 : Int32), M)
      else
        if (M.1 86 12) = (60 : Int32) then
          some ((-2 : Int32), M)
        else
          ob1 (F_X7_remember fu M) (fun M11 =>
          if x1 < 0 ∨ ln 94 ≤ x1.toNatClampNeg then none else (
          ob1 (F_X7_least fu M11 (99 : Int32) ((M11.1 94 x1.toNatClampNeg) + x2)) (fun r14 =>
          if x1 < 0 ∨ ln 94 ≤ x1.toNatClampNeg then none else (
          lt1 (pI M11 94 x1.toNatClampNeg r14) (fun M16 =>
          if x1 < 0 ∨ ln 94 ≤ x1.toNatClampNeg then none else (
          some ((M16.1 94 x1.toNatClampNeg), M16))))))))))
set_option maxRecDepth 100000 in
set_option maxHeartbeats 4000000 in
theorem c_X7_snow {l : Launch} {G : Gv} {fu : Nat} {M : Mm} {x1 : Int32} {x2 : Int32} {r : Int32} {M' : Mm} (hF : F_X7_snow fu M x1 x2 = some (r, M')) : Met l yX7_snow (.code yX7_snow cX7_snow 3 (some .int) :: zU) rm_X7_snow (va_Pc [.ref (ad G 86), .int x1, .int x2] (Wd G M)) (QI G r M') 0 0 (zA G) := by
  refine zMet (by decide) rfl (Nat.le_of_ble_eq_true rfl) ?_
  intro p e s m below meth c hC hw ls hl
  have hl : lv_has ls 3 [(0, .ref (ad G 86)), (1, .int x1), (2, .int x2)] := hl
  unfold F_X7_snow at hF
  refine lv_aload_n hC.1 hC.2.1 dX7_snow_0 rfl (lv_at hl 0 rfl) ?_
  refine lv_iload_n hC.1 hC.2.1 dX7_snow_1 rfl (lv_at hl 1 rfl) ?_
  obtain ⟨r2, h1, hF⟩ := ob1S hF
  refine k_Vi (As := [.int x1]) (rest := []) hC hw (c_X7_isMan (M := M) h1) RC_X yv_X7_isMan q5_89 ⟨rfl, rfl⟩ ⟨Nat.le_of_ble_eq_true rfl, Nat.le_of_ble_eq_true rfl⟩ ⟨Nat.zero_le _, Nat.zero_le _⟩ rfl rfl (Nat.le_of_ble_eq_true rfl) hl dX7_snow_2 (fun H locs hw => ?_)
  refine lv_if_eq (tgt := 20) hC.1 hC.2.1 dX7_snow_5 (by decide) (fun b3 => ?_) (fun b3 => ?_)
  · have hF := ifP hF b3
    refine lv_iconst (v := (-1 : Int32)) hC.1 hC.2.1 dX7_snow_20 (by decide) ?_
    exact r_iretE hC hw hF dX7_snow_21
  · have hF := ifN hF b3
    refine lv_iload_n hC.1 hC.2.1 dX7_snow_8 rfl (lv_at hl 2 rfl) ?_
    refine lv_i2l hC.1 hC.2.1 dX7_snow_9 rfl ?_
    refine lv_lconst (v := (1 : Int64)) hC.1 hC.2.1 dX7_snow_10 (by decide) ?_
    refine lv_ldc2 (v := (9 : Int64)) hC.1 hC.2.1 hC.2.2.2.1 (hC.2.2.2.2.1 _ q5_152) dX7_snow_11 ?_
    obtain ⟨r5, h4, hF⟩ := ob1S hF
    refine k_Si (As := [.long x2.toInt64, .long (1 : Int64), .long (9 : Int64)]) (rest := []) hC hw (c_X7_in (M := M) h4) ys_X7_in q5_3 ⟨rfl, rfl⟩ ⟨Nat.le_of_ble_eq_true rfl, Nat.le_of_ble_eq_true rfl⟩ ⟨Nat.zero_le _, Nat.zero_le _⟩ rfl rfl (Nat.le_of_ble_eq_true rfl) hl dX7_snow_14 (fun H locs hw => ?_)
    refine lv_if_ne (tgt := 22) hC.1 hC.2.1 dX7_snow_17 (by decide) (fun b6 => ?_) (fun b6 => ?_)
    · have hF := ifN hF b6
      refine lv_aload_n hC.1 hC.2.1 dX7_snow_22 rfl (lv_at hl 0 rfl) ?_
      refine g7_bulks hC hw q4_130 dX7_snow_23 ?_
      refine lv_iload_n hC.1 hC.2.1 dX7_snow_26 rfl (lv_at hl 1 rfl) ?_
      obtain ⟨n7, hF⟩ := ifO hF
      refine r_iald hC.1 hC.2.1 hw (rfl : kd 94 = 1) n7 dX7_snow_27 ?_
      refine lv_if_ne (tgt := 34) hC.1 hC.2.1 dX7_snow_28 (by decide) (fun b8 => ?_) (fun b8 => ?_)
      · have hF := ifN hF b8
        refine lv_aload_n hC.1 hC.2.1 dX7_snow_34 rfl (lv_at hl 0 rfl) ?_
        refine g7_deeds hC hw q4_134 dX7_snow_35 ?_
        refine lv_bipush (v := (60 : Int32)) hC.1 hC.2.1 dX7_snow_38 (by decide) ?_
        refine lv_icmp_ne (tgt := 46) hC.1 hC.2.1 dX7_snow_40 (by decide) (fun b9 => ?_) (fun b9 => ?_)
        · have hF := ifN hF b9
          refine lv_aload_n hC.1 hC.2.1 dX7_snow_46 rfl (lv_at hl 0 rfl) ?_
          obtain ⟨M11, h10, hF⟩ := ob1S hF
          refine k_Vv (As := []) (rest := []) hC hw (c_X7_remember (M := M) h10) RC_X yv_X7_remember q5_161 ⟨rfl, rfl⟩ ⟨Nat.le_of_ble_eq_true rfl, Nat.le_of_ble_eq_true rfl⟩ ⟨Nat.zero_le _, Nat.zero_le _⟩ rfl rfl (Nat.le_of_ble_eq_true rfl) hl dX7_snow_47 (fun H locs hw => ?_)
          refine lv_aload_n hC.1 hC.2.1 dX7_snow_50 rfl (lv_at hl 0 rfl) ?_
          refine g7_bulks hC hw q4_130 dX7_snow_51 ?_
          refine lv_iload_n hC.1 hC.2.1 dX7_snow_54 rfl (lv_at hl 1 rfl) ?_
          refine lv_bipush (v := (99 : Int32)) hC.1 hC.2.1 dX7_snow_55 (by decide) ?_
          refine lv_aload_n hC.1 hC.2.1 dX7_snow_57 rfl (lv_at hl 0 rfl) ?_
          refine g7_bulks hC hw q4_130 dX7_snow_58 ?_
          refine lv_iload_n hC.1 hC.2.1 dX7_snow_61 rfl (lv_at hl 1 rfl) ?_
          obtain ⟨n12, hF⟩ := ifO hF
          refine r_iald hC.1 hC.2.1 hw (rfl : kd 94 = 1) n12 dX7_snow_62 ?_
          refine lv_iload_n hC.1 hC.2.1 dX7_snow_63 rfl (lv_at hl 2 rfl) ?_
          refine lv_iadd hC.1 hC.2.1 dX7_snow_64 ?_
          obtain ⟨r14, h13, hF⟩ := ob1S hF
          refine k_Si (As := [.int (99 : Int32), .int ((M11.1 94 x1.toNatClampNeg) + x2)]) (rest := [.int x1, .ref (ad G 94)]) hC hw (c_X7_least (M := M11) h13) ys_X7_least q5_180 ⟨rfl, rfl⟩ ⟨Nat.le_of_ble_eq_true rfl, Nat.le_of_ble_eq_true rfl⟩ ⟨Nat.zero_le _, Nat.zero_le _⟩ rfl rfl (Nat.le_of_ble_eq_true rfl) hl dX7_snow_65 (fun H locs hw => ?_)
          obtain ⟨n15, hF⟩ := ifO hF
          refine r_iast hC.1 hC.2.1 hw (rfl : kd 94 = 1) n15 dX7_snow_68 (fun H locs hw => ?_)
          obtain ⟨M16, hw, hF⟩ := lt1W hF hw
          refine lv_aload_n hC.1 hC.2.1 dX7_snow_69 rfl (lv_at hl 0 rfl) ?_
          refine g7_bulks hC hw q4_130 dX7_snow_70 ?_
          refine lv_iload_n hC.1 hC.2.1 dX7_snow_73 rfl (lv_at hl 1 rfl) ?_
          obtain ⟨n17, hF⟩ := ifO hF
          refine r_iald hC.1 hC.2.1 hw (rfl : kd 94 = 1) n17 dX7_snow_74 ?_
          exact r_iretE hC hw hF dX7_snow_75
        · have hF := ifP hF b9
          refine lv_bipush (v := (-2 : Int32)) hC.1 hC.2.1 dX7_snow_43 (by decide) ?_
          exact r_iretE hC hw hF dX7_snow_45
      · have hF := ifP hF b8
        refine lv_bipush (v := (-4 : Int32)) hC.1 hC.2.1 dX7_snow_31 (by decide) ?_
        exact r_iretE hC hw hF dX7_snow_33
    · have hF := ifP hF b6
      refine lv_iconst (v := (-1 : Int32)) hC.1 hC.2.1 dX7_snow_20 (by decide) ?_
      exact r_iretE hC hw hF dX7_snow_21
abbrev rm_X7_undo : Room := { frames := 1, cells := 0, slots := 0, locals := 25 }
theorem yv_X7_undo : YV yX7_undo cX7_undo 5 (some .int) 1 RX7 := ⟨⟨q5_184, q5_185, q1_8, q5_186⟩, by decide +kernel⟩
theorem dX7_undo_0 : decode cX7_undo 0 = .ok (.iload_n 1, 1) := by decide +kernel
theorem dX7_undo_1 : decode cX7_undo 1 = .ok (.i2l, 1) := by decide +kernel
theorem dX7_undo_2 : decode cX7_undo 2 = .ok (.lconst 0, 1) := by decide +kernel
theorem dX7_undo_3 : decode cX7_undo 3 = .ok (.aload_n 0, 1) := by decide +kernel
theorem dX7_undo_4 : decode cX7_undo 4 = .ok (.getfield 170, 3) := by decide +kernel
theorem dX7_undo_7 : decode cX7_undo 7 = .ok (.i2l, 1) := by decide +kernel
theorem dX7_undo_8 : decode cX7_undo 8 = .ok (.invokestatic 104, 3) := by decide +kernel
theorem dX7_undo_11 : decode cX7_undo 11 = .ok (.ifCond .ne 5, 3) := by decide +kernel
theorem dX7_undo_14 : decode cX7_undo 14 = .ok (.iconst (-1), 1) := by decide +kernel
theorem dX7_undo_15 : decode cX7_undo 15 = .ok (.ireturn, 1) := by decide +kernel
theorem dX7_undo_16 : decode cX7_undo 16 = .ok (.aload_n 0, 1) := by decide +kernel
theorem dX7_undo_17 : decode cX7_undo 17 = .ok (.getfield 170, 3) := by decide +kernel
theorem dX7_undo_20 : decode cX7_undo 20 = .ok (.iload_n 1, 1) := by decide +kernel
theorem dX7_undo_21 : decode cX7_undo 21 = .ok (.isub, 1) := by decide +kernel
theorem dX7_undo_22 : decode cX7_undo 22 = .ok (.istore_n 2, 1) := by decide +kernel
theorem dX7_undo_23 : decode cX7_undo 23 = .ok (.iload_n 2, 1) := by decide +kernel
theorem dX7_undo_24 : decode cX7_undo 24 = .ok (.ifCond .le 77, 3) := by decide +kernel
theorem dX7_undo_27 : decode cX7_undo 27 = .ok (.bipush 13, 2) := by decide +kernel
theorem dX7_undo_29 : decode cX7_undo 29 = .ok (.iload_n 1, 1) := by decide +kernel
theorem dX7_undo_30 : decode cX7_undo 30 = .ok (.imul, 1) := by decide +kernel
theorem dX7_undo_31 : decode cX7_undo 31 = .ok (.istore_n 3, 1) := by decide +kernel
theorem dX7_undo_32 : decode cX7_undo 32 = .ok (.iconst 0, 1) := by decide +kernel
theorem dX7_undo_33 : decode cX7_undo 33 = .ok (.istore 4, 2) := by decide +kernel
theorem dX7_undo_35 : decode cX7_undo 35 = .ok (.iload 4, 2) := by decide +kernel
theorem dX7_undo_37 : decode cX7_undo 37 = .ok (.bipush 6, 2) := by decide +kernel
theorem dX7_undo_39 : decode cX7_undo 39 = .ok (.if_icmp .ge 44, 3) := by decide +kernel
theorem dX7_undo_42 : decode cX7_undo 42 = .ok (.aload_n 0, 1) := by decide +kernel
theorem dX7_undo_43 : decode cX7_undo 43 = .ok (.getfield 31, 3) := by decide +kernel
theorem dX7_undo_46 : decode cX7_undo 46 = .ok (.iload 4, 2) := by decide +kernel
theorem dX7_undo_48 : decode cX7_undo 48 = .ok (.aload_n 0, 1) := by decide +kernel
theorem dX7_undo_49 : decode cX7_undo 49 = .ok (.getfield 37, 3) := by decide +kernel
theorem dX7_undo_52 : decode cX7_undo 52 = .ok (.iload_n 3, 1) := by decide +kernel
theorem dX7_undo_53 : decode cX7_undo 53 = .ok (.iload 4, 2) := by decide +kernel
theorem dX7_undo_55 : decode cX7_undo 55 = .ok (.iadd, 1) := by decide +kernel
theorem dX7_undo_56 : decode cX7_undo 56 = .ok (.iaload, 1) := by decide +kernel
theorem dX7_undo_57 : decode cX7_undo 57 = .ok (.iastore, 1) := by decide +kernel
theorem dX7_undo_58 : decode cX7_undo 58 = .ok (.aload_n 0, 1) := by decide +kernel
theorem dX7_undo_59 : decode cX7_undo 59 = .ok (.getfield 34, 3) := by decide +kernel
theorem dX7_undo_62 : decode cX7_undo 62 = .ok (.iload 4, 2) := by decide +kernel
theorem dX7_undo_64 : decode cX7_undo 64 = .ok (.aload_n 0, 1) := by decide +kernel
theorem dX7_undo_65 : decode cX7_undo 65 = .ok (.getfield 37, 3) := by decide +kernel
theorem dX7_undo_68 : decode cX7_undo 68 = .ok (.iload_n 3, 1) := by decide +kernel
theorem dX7_undo_69 : decode cX7_undo 69 = .ok (.bipush 6, 2) := by decide +kernel
theorem dX7_undo_71 : decode cX7_undo 71 = .ok (.iadd, 1) := by decide +kernel
theorem dX7_undo_72 : decode cX7_undo 72 = .ok (.iload 4, 2) := by decide +kernel
theorem dX7_undo_74 : decode cX7_undo 74 = .ok (.iadd, 1) := by decide +kernel
theorem dX7_undo_75 : decode cX7_undo 75 = .ok (.iaload, 1) := by decide +kernel
theorem dX7_undo_76 : decode cX7_undo 76 = .ok (.iastore, 1) := by decide +kernel
theorem dX7_undo_77 : decode cX7_undo 77 = .ok (.iinc 4 1, 3) := by decide +kernel
theorem dX7_undo_80 : decode cX7_undo 80 = .ok (.goto (-45), 3) := by decide +kernel
theorem dX7_undo_83 : decode cX7_undo 83 = .ok (.aload_n 0, 1) := by decide +kernel
theorem dX7_undo_84 : decode cX7_undo 84 = .ok (.aload_n 0, 1) := by decide +kernel
theorem dX7_undo_85 : decode cX7_undo 85 = .ok (.getfield 37, 3) := by decide +kernel
theorem dX7_undo_88 : decode cX7_undo 88 = .ok (.iload_n 3, 1) := by decide +kernel
theorem dX7_undo_89 : decode cX7_undo 89 = .ok (.bipush 12, 2) := by decide +kernel
theorem dX7_undo_91 : decode cX7_undo 91 = .ok (.iadd, 1) := by decide +kernel
theorem dX7_undo_92 : decode cX7_undo 92 = .ok (.iaload, 1) := by decide +kernel
theorem dX7_undo_93 : decode cX7_undo 93 = .ok (.putfield 167, 3) := by decide +kernel
theorem dX7_undo_96 : decode cX7_undo 96 = .ok (.aload_n 0, 1) := by decide +kernel
theorem dX7_undo_97 : decode cX7_undo 97 = .ok (.iload_n 1, 1) := by decide +kernel
theorem dX7_undo_98 : decode cX7_undo 98 = .ok (.putfield 170, 3) := by decide +kernel
theorem dX7_undo_101 : decode cX7_undo 101 = .ok (.iload_n 2, 1) := by decide +kernel
theorem dX7_undo_102 : decode cX7_undo 102 = .ok (.ireturn, 1) := by decide +kernel
def F_X7_undo_35 (fu : Nat) : Nat → Mm → Int32 → Int32 → Int32 → Int32 → Option (Int32 × Mm)
  | 0, _, _, _, _, _ => none
  | n + 1, M, x1, x2, x3, x4 =>
    if (6 : Int32) ≤ x4 then
      if (x3 + (12 : Int32)) < 0 ∨ ln 96 ≤ (x3 + (12 : Int32)).toNatClampNeg then none else (
      lt1 (pI M 86 11 (M.1 96 (x3 + (12 : Int32)).toNatClampNeg)) (fun M3 =>
      lt1 (pI M3 86 12 x1) (fun M4 =>
      some (x2, M4))))
    else
      if (x3 + x4) < 0 ∨ ln 96 ≤ (x3 + x4).toNatClampNeg then none else (
      if x4 < 0 ∨ ln 94 ≤ x4.toNatClampNeg then none else (
      lt1 (pI M 94 x4.toNatClampNeg (M.1 96 (x3 + x4).toNatClampNeg)) (fun M7 =>
      if ((x3 + (6 : Int32)) + x4) < 0 ∨ ln 96 ≤ ((x3 + (6 : Int32)) + x4).toNatClampNeg then none else (
      if x4 < 0 ∨ ln 95 ≤ x4.toNatClampNeg then none else (
      lt1 (pI M7 95 x4.toNatClampNeg (M7.1 96 ((x3 + (6 : Int32)) + x4).toNatClampNeg)) (fun M10 =>
      F_X7_undo_35 fu n M10 x1 x2 x3 (x4 + (1 : Int32))))))))
set_option maxRecDepth 100000 in
set_option maxHeartbeats 4000000 in
theorem w_X7_undo_35 {p : Program} {l : Launch} {e : Env} {s : State} {m : MethodId} {args : Array Value} {below : List Frame} {meth : Method} {c : Code} {G : Gv} (hC : Cx p s m args meth c cX7_undo 5 (some .int) RX7) {fu : Nat} {r : Int32} {M' : Mm} : ∀ (n : Nat) {x1 : Int32} {x2 : Int32} {x3 : Int32} {x4 : Int32} {M : Mm} {H : Heap} {locs : List Loc} {ls : Array Slot}, F_X7_undo_35 fu n M x1 x2 x3 x4 = some (r, M') → St G s H locs M → lv_has ls 5 [(0, .ref (ad G 86)), (1, .int x1), (2, .int x2), (3, .int x3), (4, .int x4)] → W p l e rm_X7_undo s m args below meth c H locs 0 0 (MQ below (QI G r M') args s 0 0 (zA G)) (F0 m 35 ls []) := by
  intro n
  induction n with
  | zero =>
    intro x1 x2 x3 x4 M H locs ls hF hw hl
    cases hF
  | succ n ih =>
    intro x1 x2 x3 x4 M H locs ls hF hw hl
    unfold F_X7_undo_35 at hF
    refine lv_iload hC.1 hC.2.1 dX7_undo_35 (lv_at hl 4 rfl) ?_
    refine lv_bipush (v := (6 : Int32)) hC.1 hC.2.1 dX7_undo_37 (by decide) ?_
    refine lv_icmp_ge (tgt := 83) hC.1 hC.2.1 dX7_undo_39 (by decide) (fun b1 => ?_) (fun b1 => ?_)
    · have hF := ifP hF b1
      refine lv_aload_n hC.1 hC.2.1 dX7_undo_83 rfl (lv_at hl 0 rfl) ?_
      refine lv_aload_n hC.1 hC.2.1 dX7_undo_84 rfl (lv_at hl 0 rfl) ?_
      refine g7_past hC hw q4_135 dX7_undo_85 ?_
      refine lv_iload_n hC.1 hC.2.1 dX7_undo_88 rfl (lv_at hl 3 rfl) ?_
      refine lv_bipush (v := (12 : Int32)) hC.1 hC.2.1 dX7_undo_89 (by decide) ?_
      refine lv_iadd hC.1 hC.2.1 dX7_undo_91 ?_
      obtain ⟨n2, hF⟩ := ifO hF
      refine r_iald hC.1 hC.2.1 hw (rfl : kd 96 = 1) n2 dX7_undo_92 ?_
      refine u7_dayIs hC hw q4_133 dX7_undo_93 (fun H locs hw => ?_)
      obtain ⟨M3, hw, hF⟩ := lt1W hF hw
      refine lv_aload_n hC.1 hC.2.1 dX7_undo_96 rfl (lv_at hl 0 rfl) ?_
      refine lv_iload_n hC.1 hC.2.1 dX7_undo_97 rfl (lv_at hl 1 rfl) ?_
      refine u7_deeds hC hw q4_134 dX7_undo_98 (fun H locs hw => ?_)
      obtain ⟨M4, hw, hF⟩ := lt1W hF hw
      refine lv_iload_n hC.1 hC.2.1 dX7_undo_101 rfl (lv_at hl 2 rfl) ?_
      exact r_iretE hC hw hF dX7_undo_102
    · have hF := ifN hF b1
      refine lv_aload_n hC.1 hC.2.1 dX7_undo_42 rfl (lv_at hl 0 rfl) ?_
      refine g7_bulks hC hw q4_130 dX7_undo_43 ?_
      refine lv_iload hC.1 hC.2.1 dX7_undo_46 (lv_at hl 4 rfl) ?_
      refine lv_aload_n hC.1 hC.2.1 dX7_undo_48 rfl (lv_at hl 0 rfl) ?_
      refine g7_past hC hw q4_135 dX7_undo_49 ?_
      refine lv_iload_n hC.1 hC.2.1 dX7_undo_52 rfl (lv_at hl 3 rfl) ?_
      refine lv_iload hC.1 hC.2.1 dX7_undo_53 (lv_at hl 4 rfl) ?_
      refine lv_iadd hC.1 hC.2.1 dX7_undo_55 ?_
      obtain ⟨n5, hF⟩ := ifO hF
      refine r_iald hC.1 hC.2.1 hw (rfl : kd 96 = 1) n5 dX7_undo_56 ?_
      obtain ⟨n6, hF⟩ := ifO hF
      refine r_iast hC.1 hC.2.1 hw (rfl : kd 94 = 1) n6 dX7_undo_57 (fun H locs hw => ?_)
      obtain ⟨M7, hw, hF⟩ := lt1W hF hw
      refine lv_aload_n hC.1 hC.2.1 dX7_undo_58 rfl (lv_at hl 0 rfl) ?_
      refine g7_shades hC hw q4_131 dX7_undo_59 ?_
      refine lv_iload hC.1 hC.2.1 dX7_undo_62 (lv_at hl 4 rfl) ?_
      refine lv_aload_n hC.1 hC.2.1 dX7_undo_64 rfl (lv_at hl 0 rfl) ?_
      refine g7_past hC hw q4_135 dX7_undo_65 ?_
      refine lv_iload_n hC.1 hC.2.1 dX7_undo_68 rfl (lv_at hl 3 rfl) ?_
      refine lv_bipush (v := (6 : Int32)) hC.1 hC.2.1 dX7_undo_69 (by decide) ?_
      refine lv_iadd hC.1 hC.2.1 dX7_undo_71 ?_
      refine lv_iload hC.1 hC.2.1 dX7_undo_72 (lv_at hl 4 rfl) ?_
      refine lv_iadd hC.1 hC.2.1 dX7_undo_74 ?_
      obtain ⟨n8, hF⟩ := ifO hF
      refine r_iald hC.1 hC.2.1 hw (rfl : kd 96 = 1) n8 dX7_undo_75 ?_
      obtain ⟨n9, hF⟩ := ifO hF
      refine r_iast hC.1 hC.2.1 hw (rfl : kd 95 = 1) n9 dX7_undo_76 (fun H locs hw => ?_)
      obtain ⟨M10, hw, hF⟩ := lt1W hF hw
      refine lv_iinc (v := (x4 + (1 : Int32))) (lv' := [(4, .int (x4 + (1 : Int32))), (0, .ref (ad G 86)), (1, .int x1), (2, .int x2), (3, .int x3)]) hC.1 hC.2.1 dX7_undo_77 hl (k := 4) rfl rfl (by decide) rfl (fun ls hl => ?_)
      refine lv_goto (tgt := 35) hC.1 hC.2.1 dX7_undo_80 (by decide) ?_
      exact ih hF hw (lv_sub hl [1, 2, 3, 4, 0] rfl)
def F_X7_undo (fu : Nat) (M : Mm) (x1 : Int32) : Option (Int32 × Mm) :=
  ob1 (F_X7_in fu M x1.toInt64 (0 : Int64) (M.1 86 12).toInt64) (fun r2 =>
  if r2 = 0 then
    some ((-1 : Int32), M)
  else
    if ((M.1 86 12) - x1) ≤ 0 then
      some (((M.1 86 12) - x1), M)
    else
      F_X7_undo_35 fu fu M x1 ((M.1 86 12) - x1) ((13 : Int32) * x1) (0 : Int32))
set_option maxRecDepth 100000 in
set_option maxHeartbeats 4000000 in
theorem c_X7_undo {l : Launch} {G : Gv} {fu : Nat} {M : Mm} {x1 : Int32} {r : Int32} {M' : Mm} (hF : F_X7_undo fu M x1 = some (r, M')) : Met l yX7_undo (.code yX7_undo cX7_undo 5 (some .int) :: zU) rm_X7_undo (va_Pc [.ref (ad G 86), .int x1] (Wd G M)) (QI G r M') 0 0 (zA G) := by
  refine zMet (by decide) rfl (Nat.le_of_ble_eq_true rfl) ?_
  intro p e s m below meth c hC hw ls hl
  have hl : lv_has ls 5 [(0, .ref (ad G 86)), (1, .int x1)] := hl
  unfold F_X7_undo at hF
  refine lv_iload_n hC.1 hC.2.1 dX7_undo_0 rfl (lv_at hl 1 rfl) ?_
  refine lv_i2l hC.1 hC.2.1 dX7_undo_1 rfl ?_
  refine lv_lconst (v := (0 : Int64)) hC.1 hC.2.1 dX7_undo_2 (by decide) ?_
  refine lv_aload_n hC.1 hC.2.1 dX7_undo_3 rfl (lv_at hl 0 rfl) ?_
  refine g7_deeds hC hw q4_134 dX7_undo_4 ?_
  refine lv_i2l hC.1 hC.2.1 dX7_undo_7 rfl ?_
  obtain ⟨r2, h1, hF⟩ := ob1S hF
  refine k_Si (As := [.long x1.toInt64, .long (0 : Int64), .long (M.1 86 12).toInt64]) (rest := []) hC hw (c_X7_in (M := M) h1) ys_X7_in q5_3 ⟨rfl, rfl⟩ ⟨Nat.le_of_ble_eq_true rfl, Nat.le_of_ble_eq_true rfl⟩ ⟨Nat.zero_le _, Nat.zero_le _⟩ rfl rfl (Nat.le_of_ble_eq_true rfl) hl dX7_undo_8 (fun H locs hw => ?_)
  refine lv_if_ne (tgt := 16) hC.1 hC.2.1 dX7_undo_11 (by decide) (fun b3 => ?_) (fun b3 => ?_)
  · have hF := ifN hF b3
    refine lv_aload_n hC.1 hC.2.1 dX7_undo_16 rfl (lv_at hl 0 rfl) ?_
    refine g7_deeds hC hw q4_134 dX7_undo_17 ?_
    refine lv_iload_n hC.1 hC.2.1 dX7_undo_20 rfl (lv_at hl 1 rfl) ?_
    refine lv_isub hC.1 hC.2.1 dX7_undo_21 ?_
    refine lv_istore_n (lv' := [(2, .int ((M.1 86 12) - x1)), (0, .ref (ad G 86)), (1, .int x1)]) hC.1 hC.2.1 dX7_undo_22 rfl hl (by decide) rfl (fun ls hl => ?_)
    refine lv_iload_n hC.1 hC.2.1 dX7_undo_23 rfl (lv_at hl 0 rfl) ?_
    refine lv_if_le (tgt := 101) hC.1 hC.2.1 dX7_undo_24 (by decide) (fun b4 => ?_) (fun b4 => ?_)
    · have hF := ifP hF b4
      refine lv_iload_n hC.1 hC.2.1 dX7_undo_101 rfl (lv_at hl 0 rfl) ?_
      exact r_iretE hC hw hF dX7_undo_102
    · have hF := ifN hF b4
      refine lv_bipush (v := (13 : Int32)) hC.1 hC.2.1 dX7_undo_27 (by decide) ?_
      refine lv_iload_n hC.1 hC.2.1 dX7_undo_29 rfl (lv_at hl 2 rfl) ?_
      refine lv_imul hC.1 hC.2.1 dX7_undo_30 ?_
      refine lv_istore_n (lv' := [(3, .int ((13 : Int32) * x1)), (2, .int ((M.1 86 12) - x1)), (0, .ref (ad G 86)), (1, .int x1)]) hC.1 hC.2.1 dX7_undo_31 rfl hl (by decide) rfl (fun ls hl => ?_)
      refine lv_iconst (v := (0 : Int32)) hC.1 hC.2.1 dX7_undo_32 (by decide) ?_
      refine lv_istore (lv' := [(4, .int (0 : Int32)), (3, .int ((13 : Int32) * x1)), (2, .int ((M.1 86 12) - x1)), (0, .ref (ad G 86)), (1, .int x1)]) hC.1 hC.2.1 dX7_undo_33 hl (by decide) rfl (fun ls hl => ?_)
      exact w_X7_undo_35 hC _ hF hw (lv_sub hl [3, 4, 2, 1, 0] rfl)
  · have hF := ifP hF b3
    refine lv_iconst (v := (-1 : Int32)) hC.1 hC.2.1 dX7_undo_14 (by decide) ?_
    exact r_iretE hC hw hF dX7_undo_15
abbrev rm_X7_now : Room := { frames := 1, cells := 0, slots := 0, locals := 22 }
theorem yv_X7_now : YV yX7_now cX7_now 1 (some .int) 0 RX7 := ⟨⟨q5_188, q5_189, q1_8, q5_190⟩, by decide +kernel⟩
theorem dX7_now_0 : decode cX7_now 0 = .ok (.aload_n 0, 1) := by decide +kernel
theorem dX7_now_1 : decode cX7_now 1 = .ok (.getfield 101, 3) := by decide +kernel
theorem dX7_now_4 : decode cX7_now 4 = .ok (.ifCond .ne 6, 3) := by decide +kernel
theorem dX7_now_7 : decode cX7_now 7 = .ok (.bipush (-4), 2) := by decide +kernel
theorem dX7_now_9 : decode cX7_now 9 = .ok (.ireturn, 1) := by decide +kernel
theorem dX7_now_10 : decode cX7_now 10 = .ok (.aload_n 0, 1) := by decide +kernel
theorem dX7_now_11 : decode cX7_now 11 = .ok (.aload_n 0, 1) := by decide +kernel
theorem dX7_now_12 : decode cX7_now 12 = .ok (.invokevirtual 229, 3) := by decide +kernel
theorem dX7_now_15 : decode cX7_now 15 = .ok (.putfield 98, 3) := by decide +kernel
theorem dX7_now_18 : decode cX7_now 18 = .ok (.aload_n 0, 1) := by decide +kernel
theorem dX7_now_19 : decode cX7_now 19 = .ok (.getfield 167, 3) := by decide +kernel
theorem dX7_now_22 : decode cX7_now 22 = .ok (.ireturn, 1) := by decide +kernel
def F_X7_now (fu : Nat) (M : Mm) : Option (Int32 × Mm) :=
  if (M.1 86 4) = 0 then
    some ((-4 : Int32), M)
  else
    ob1 (F_X7_here fu M) (fun r3 =>
    lt1 (pI M 86 16 r3) (fun M4 =>
    some ((M4.1 86 11), M4)))
set_option maxRecDepth 100000 in
set_option maxHeartbeats 4000000 in
theorem c_X7_now {l : Launch} {G : Gv} {fu : Nat} {M : Mm} {r : Int32} {M' : Mm} (hF : F_X7_now fu M = some (r, M')) : Met l yX7_now (.code yX7_now cX7_now 1 (some .int) :: zU) rm_X7_now (va_Pc [.ref (ad G 86)] (Wd G M)) (QI G r M') 0 0 (zA G) := by
  refine zMet (by decide) rfl (Nat.le_of_ble_eq_true rfl) ?_
  intro p e s m below meth c hC hw ls hl
  have hl : lv_has ls 1 [(0, .ref (ad G 86))] := hl
  unfold F_X7_now at hF
  refine lv_aload_n hC.1 hC.2.1 dX7_now_0 rfl (lv_at hl 0 rfl) ?_
  refine g7_men hC hw q4_126 dX7_now_1 ?_
  refine lv_if_ne (tgt := 10) hC.1 hC.2.1 dX7_now_4 (by decide) (fun b1 => ?_) (fun b1 => ?_)
  · have hF := ifN hF b1
    refine lv_aload_n hC.1 hC.2.1 dX7_now_10 rfl (lv_at hl 0 rfl) ?_
    refine lv_aload_n hC.1 hC.2.1 dX7_now_11 rfl (lv_at hl 0 rfl) ?_
    obtain ⟨r3, h2, hF⟩ := ob1S hF
    refine k_Vi (As := []) (rest := [.ref (ad G 86)]) hC hw (c_X7_here (M := M) h2) RC_X yv_X7_here q5_165 ⟨rfl, rfl⟩ ⟨Nat.le_of_ble_eq_true rfl, Nat.le_of_ble_eq_true rfl⟩ ⟨Nat.zero_le _, Nat.zero_le _⟩ rfl rfl (Nat.le_of_ble_eq_true rfl) hl dX7_now_12 (fun H locs hw => ?_)
    refine u7_asks hC hw q4_138 dX7_now_15 (fun H locs hw => ?_)
    obtain ⟨M4, hw, hF⟩ := lt1W hF hw
    refine lv_aload_n hC.1 hC.2.1 dX7_now_18 rfl (lv_at hl 0 rfl) ?_
    refine g7_dayIs hC hw q4_133 dX7_now_19 ?_
    exact r_iretE hC hw hF dX7_now_22
  · have hF := ifP hF b1
    refine lv_bipush (v := (-4 : Int32)) hC.1 hC.2.1 dX7_now_7 (by decide) ?_
    exact r_iretE hC hw hF dX7_now_9
abbrev rm_X7_keep : Room := { frames := 1, cells := 0, slots := 0, locals := 25 }
theorem yv_X7_keep : YV yX7_keep cX7_keep 4 (some .int) 1 RX7 := ⟨⟨q5_192, q5_193, q1_8, q5_194⟩, by decide +kernel⟩
theorem dX7_keep_0 : decode cX7_keep 0 = .ok (.iload_n 1, 1) := by decide +kernel
theorem dX7_keep_1 : decode cX7_keep 1 = .ok (.i2l, 1) := by decide +kernel
theorem dX7_keep_2 : decode cX7_keep 2 = .ok (.lconst 0, 1) := by decide +kernel
theorem dX7_keep_3 : decode cX7_keep 3 = .ok (.ldc2_w 239, 3) := by decide +kernel
theorem dX7_keep_6 : decode cX7_keep 6 = .ok (.invokestatic 104, 3) := by decide +kernel
theorem dX7_keep_9 : decode cX7_keep 9 = .ok (.ifCond .ne 5, 3) := by decide +kernel
theorem dX7_keep_12 : decode cX7_keep 12 = .ok (.iconst (-1), 1) := by decide +kernel
theorem dX7_keep_13 : decode cX7_keep 13 = .ok (.ireturn, 1) := by decide +kernel
theorem dX7_keep_14 : decode cX7_keep 14 = .ok (.aload_n 0, 1) := by decide +kernel
theorem dX7_keep_15 : decode cX7_keep 15 = .ok (.getfield 101, 3) := by decide +kernel
theorem dX7_keep_18 : decode cX7_keep 18 = .ok (.ifCond .ne 6, 3) := by decide +kernel
theorem dX7_keep_21 : decode cX7_keep 21 = .ok (.bipush (-4), 2) := by decide +kernel
theorem dX7_keep_23 : decode cX7_keep 23 = .ok (.ireturn, 1) := by decide +kernel
theorem dX7_keep_24 : decode cX7_keep 24 = .ok (.sipush 795, 3) := by decide +kernel
theorem dX7_keep_27 : decode cX7_keep 27 = .ok (.iload_n 1, 1) := by decide +kernel
theorem dX7_keep_28 : decode cX7_keep 28 = .ok (.imul, 1) := by decide +kernel
theorem dX7_keep_29 : decode cX7_keep 29 = .ok (.istore_n 2, 1) := by decide +kernel
theorem dX7_keep_30 : decode cX7_keep 30 = .ok (.aload_n 0, 1) := by decide +kernel
theorem dX7_keep_31 : decode cX7_keep 31 = .ok (.getfield 40, 3) := by decide +kernel
theorem dX7_keep_34 : decode cX7_keep 34 = .ok (.iload_n 2, 1) := by decide +kernel
theorem dX7_keep_35 : decode cX7_keep 35 = .ok (.aload_n 0, 1) := by decide +kernel
theorem dX7_keep_36 : decode cX7_keep 36 = .ok (.getfield 164, 3) := by decide +kernel
theorem dX7_keep_39 : decode cX7_keep 39 = .ok (.iastore, 1) := by decide +kernel
theorem dX7_keep_40 : decode cX7_keep 40 = .ok (.aload_n 0, 1) := by decide +kernel
theorem dX7_keep_41 : decode cX7_keep 41 = .ok (.getfield 40, 3) := by decide +kernel
theorem dX7_keep_44 : decode cX7_keep 44 = .ok (.iload_n 2, 1) := by decide +kernel
theorem dX7_keep_45 : decode cX7_keep 45 = .ok (.iconst 1, 1) := by decide +kernel
theorem dX7_keep_46 : decode cX7_keep 46 = .ok (.iadd, 1) := by decide +kernel
theorem dX7_keep_47 : decode cX7_keep 47 = .ok (.aload_n 0, 1) := by decide +kernel
theorem dX7_keep_48 : decode cX7_keep 48 = .ok (.getfield 167, 3) := by decide +kernel
theorem dX7_keep_51 : decode cX7_keep 51 = .ok (.iastore, 1) := by decide +kernel
theorem dX7_keep_52 : decode cX7_keep 52 = .ok (.aload_n 0, 1) := by decide +kernel
theorem dX7_keep_53 : decode cX7_keep 53 = .ok (.getfield 40, 3) := by decide +kernel
theorem dX7_keep_56 : decode cX7_keep 56 = .ok (.iload_n 2, 1) := by decide +kernel
theorem dX7_keep_57 : decode cX7_keep 57 = .ok (.iconst 2, 1) := by decide +kernel
theorem dX7_keep_58 : decode cX7_keep 58 = .ok (.iadd, 1) := by decide +kernel
theorem dX7_keep_59 : decode cX7_keep 59 = .ok (.aload_n 0, 1) := by decide +kernel
theorem dX7_keep_60 : decode cX7_keep 60 = .ok (.getfield 170, 3) := by decide +kernel
theorem dX7_keep_63 : decode cX7_keep 63 = .ok (.iastore, 1) := by decide +kernel
theorem dX7_keep_64 : decode cX7_keep 64 = .ok (.iconst 0, 1) := by decide +kernel
theorem dX7_keep_65 : decode cX7_keep 65 = .ok (.istore_n 3, 1) := by decide +kernel
theorem dX7_keep_66 : decode cX7_keep 66 = .ok (.iload_n 3, 1) := by decide +kernel
theorem dX7_keep_67 : decode cX7_keep 67 = .ok (.bipush 6, 2) := by decide +kernel
theorem dX7_keep_69 : decode cX7_keep 69 = .ok (.if_icmp .ge 42, 3) := by decide +kernel
theorem dX7_keep_72 : decode cX7_keep 72 = .ok (.aload_n 0, 1) := by decide +kernel
theorem dX7_keep_73 : decode cX7_keep 73 = .ok (.getfield 40, 3) := by decide +kernel
theorem dX7_keep_76 : decode cX7_keep 76 = .ok (.iload_n 2, 1) := by decide +kernel
theorem dX7_keep_77 : decode cX7_keep 77 = .ok (.iconst 3, 1) := by decide +kernel
theorem dX7_keep_78 : decode cX7_keep 78 = .ok (.iadd, 1) := by decide +kernel
theorem dX7_keep_79 : decode cX7_keep 79 = .ok (.iload_n 3, 1) := by decide +kernel
theorem dX7_keep_80 : decode cX7_keep 80 = .ok (.iadd, 1) := by decide +kernel
theorem dX7_keep_81 : decode cX7_keep 81 = .ok (.aload_n 0, 1) := by decide +kernel
theorem dX7_keep_82 : decode cX7_keep 82 = .ok (.getfield 31, 3) := by decide +kernel
theorem dX7_keep_85 : decode cX7_keep 85 = .ok (.iload_n 3, 1) := by decide +kernel
theorem dX7_keep_86 : decode cX7_keep 86 = .ok (.iaload, 1) := by decide +kernel
theorem dX7_keep_87 : decode cX7_keep 87 = .ok (.iastore, 1) := by decide +kernel
theorem dX7_keep_88 : decode cX7_keep 88 = .ok (.aload_n 0, 1) := by decide +kernel
theorem dX7_keep_89 : decode cX7_keep 89 = .ok (.getfield 40, 3) := by decide +kernel
theorem dX7_keep_92 : decode cX7_keep 92 = .ok (.iload_n 2, 1) := by decide +kernel
theorem dX7_keep_93 : decode cX7_keep 93 = .ok (.bipush 9, 2) := by decide +kernel
theorem dX7_keep_95 : decode cX7_keep 95 = .ok (.iadd, 1) := by decide +kernel
theorem dX7_keep_96 : decode cX7_keep 96 = .ok (.iload_n 3, 1) := by decide +kernel
theorem dX7_keep_97 : decode cX7_keep 97 = .ok (.iadd, 1) := by decide +kernel
theorem dX7_keep_98 : decode cX7_keep 98 = .ok (.aload_n 0, 1) := by decide +kernel
theorem dX7_keep_99 : decode cX7_keep 99 = .ok (.getfield 34, 3) := by decide +kernel
theorem dX7_keep_102 : decode cX7_keep 102 = .ok (.iload_n 3, 1) := by decide +kernel
theorem dX7_keep_103 : decode cX7_keep 103 = .ok (.iaload, 1) := by decide +kernel
theorem dX7_keep_104 : decode cX7_keep 104 = .ok (.iastore, 1) := by decide +kernel
theorem dX7_keep_105 : decode cX7_keep 105 = .ok (.iinc 3 1, 3) := by decide +kernel
theorem dX7_keep_108 : decode cX7_keep 108 = .ok (.goto (-42), 3) := by decide +kernel
theorem dX7_keep_111 : decode cX7_keep 111 = .ok (.iconst 0, 1) := by decide +kernel
theorem dX7_keep_112 : decode cX7_keep 112 = .ok (.istore_n 3, 1) := by decide +kernel
theorem dX7_keep_113 : decode cX7_keep 113 = .ok (.iload_n 3, 1) := by decide +kernel
theorem dX7_keep_114 : decode cX7_keep 114 = .ok (.sipush 780, 3) := by decide +kernel
theorem dX7_keep_117 : decode cX7_keep 117 = .ok (.if_icmp .ge 26, 3) := by decide +kernel
theorem dX7_keep_120 : decode cX7_keep 120 = .ok (.aload_n 0, 1) := by decide +kernel
theorem dX7_keep_121 : decode cX7_keep 121 = .ok (.getfield 40, 3) := by decide +kernel
theorem dX7_keep_124 : decode cX7_keep 124 = .ok (.iload_n 2, 1) := by decide +kernel
theorem dX7_keep_125 : decode cX7_keep 125 = .ok (.bipush 15, 2) := by decide +kernel
theorem dX7_keep_127 : decode cX7_keep 127 = .ok (.iadd, 1) := by decide +kernel
theorem dX7_keep_128 : decode cX7_keep 128 = .ok (.iload_n 3, 1) := by decide +kernel
theorem dX7_keep_129 : decode cX7_keep 129 = .ok (.iadd, 1) := by decide +kernel
theorem dX7_keep_130 : decode cX7_keep 130 = .ok (.aload_n 0, 1) := by decide +kernel
theorem dX7_keep_131 : decode cX7_keep 131 = .ok (.getfield 37, 3) := by decide +kernel
theorem dX7_keep_134 : decode cX7_keep 134 = .ok (.iload_n 3, 1) := by decide +kernel
theorem dX7_keep_135 : decode cX7_keep 135 = .ok (.iaload, 1) := by decide +kernel
theorem dX7_keep_136 : decode cX7_keep 136 = .ok (.iastore, 1) := by decide +kernel
theorem dX7_keep_137 : decode cX7_keep 137 = .ok (.iinc 3 1, 3) := by decide +kernel
theorem dX7_keep_140 : decode cX7_keep 140 = .ok (.goto (-27), 3) := by decide +kernel
theorem dX7_keep_143 : decode cX7_keep 143 = .ok (.aload_n 0, 1) := by decide +kernel
theorem dX7_keep_144 : decode cX7_keep 144 = .ok (.getfield 43, 3) := by decide +kernel
theorem dX7_keep_147 : decode cX7_keep 147 = .ok (.iload_n 1, 1) := by decide +kernel
theorem dX7_keep_148 : decode cX7_keep 148 = .ok (.iconst 1, 1) := by decide +kernel
theorem dX7_keep_149 : decode cX7_keep 149 = .ok (.bastore, 1) := by decide +kernel
theorem dX7_keep_150 : decode cX7_keep 150 = .ok (.aload_n 0, 1) := by decide +kernel
theorem dX7_keep_151 : decode cX7_keep 151 = .ok (.getfield 170, 3) := by decide +kernel
theorem dX7_keep_154 : decode cX7_keep 154 = .ok (.ireturn, 1) := by decide +kernel
def F_X7_keep_113 (fu : Nat) : Nat → Mm → Int32 → Int32 → Int32 → Option (Int32 × Mm)
  | 0, _, _, _, _ => none
  | n + 1, M, x1, x2, x3 =>
    if (780 : Int32) ≤ x3 then
      if x1 < 0 ∨ ln 98 ≤ x1.toNatClampNeg then none else (
      lt1 (pI M 98 x1.toNatClampNeg (vp_nar .boolean (1 : Int32))) (fun M3 =>
      some ((M3.1 86 12), M3)))
    else
      if x3 < 0 ∨ ln 96 ≤ x3.toNatClampNeg then none else (
      if ((x2 + (15 : Int32)) + x3) < 0 ∨ ln 97 ≤ ((x2 + (15 : Int32)) + x3).toNatClampNeg then none else (
      lt1 (pI M 97 ((x2 + (15 : Int32)) + x3).toNatClampNeg (M.1 96 x3.toNatClampNeg)) (fun M6 =>
      F_X7_keep_113 fu n M6 x1 x2 (x3 + (1 : Int32)))))
set_option maxRecDepth 100000 in
set_option maxHeartbeats 4000000 in
theorem w_X7_keep_113 {p : Program} {l : Launch} {e : Env} {s : State} {m : MethodId} {args : Array Value} {below : List Frame} {meth : Method} {c : Code} {G : Gv} (hC : Cx p s m args meth c cX7_keep 4 (some .int) RX7) {fu : Nat} {r : Int32} {M' : Mm} : ∀ (n : Nat) {x1 : Int32} {x2 : Int32} {x3 : Int32} {M : Mm} {H : Heap} {locs : List Loc} {ls : Array Slot}, F_X7_keep_113 fu n M x1 x2 x3 = some (r, M') → St G s H locs M → lv_has ls 4 [(0, .ref (ad G 86)), (1, .int x1), (2, .int x2), (3, .int x3)] → W p l e rm_X7_keep s m args below meth c H locs 0 0 (MQ below (QI G r M') args s 0 0 (zA G)) (F0 m 113 ls []) := by
  intro n
  induction n with
  | zero =>
    intro x1 x2 x3 M H locs ls hF hw hl
    cases hF
  | succ n ih =>
    intro x1 x2 x3 M H locs ls hF hw hl
    unfold F_X7_keep_113 at hF
    refine lv_iload_n hC.1 hC.2.1 dX7_keep_113 rfl (lv_at hl 3 rfl) ?_
    refine lv_sipush (v := (780 : Int32)) hC.1 hC.2.1 dX7_keep_114 (by decide) ?_
    refine lv_icmp_ge (tgt := 143) hC.1 hC.2.1 dX7_keep_117 (by decide) (fun b1 => ?_) (fun b1 => ?_)
    · have hF := ifP hF b1
      refine lv_aload_n hC.1 hC.2.1 dX7_keep_143 rfl (lv_at hl 0 rfl) ?_
      refine g7_isKept hC hw q4_137 dX7_keep_144 ?_
      refine lv_iload_n hC.1 hC.2.1 dX7_keep_147 rfl (lv_at hl 1 rfl) ?_
      refine lv_iconst (v := (1 : Int32)) hC.1 hC.2.1 dX7_keep_148 (by decide) ?_
      obtain ⟨n2, hF⟩ := ifO hF
      refine r_zast hC.1 hC.2.1 hw (rfl : kd 98 = 3) n2 dX7_keep_149 (fun H locs hw => ?_)
      obtain ⟨M3, hw, hF⟩ := lt1W hF hw
      refine lv_aload_n hC.1 hC.2.1 dX7_keep_150 rfl (lv_at hl 0 rfl) ?_
      refine g7_deeds hC hw q4_134 dX7_keep_151 ?_
      exact r_iretE hC hw hF dX7_keep_154
    · have hF := ifN hF b1
      refine lv_aload_n hC.1 hC.2.1 dX7_keep_120 rfl (lv_at hl 0 rfl) ?_
      refine g7_kept hC hw q4_136 dX7_keep_121 ?_
      refine lv_iload_n hC.1 hC.2.1 dX7_keep_124 rfl (lv_at hl 2 rfl) ?_
      refine lv_bipush (v := (15 : Int32)) hC.1 hC.2.1 dX7_keep_125 (by decide) ?_
      refine lv_iadd hC.1 hC.2.1 dX7_keep_127 ?_
      refine lv_iload_n hC.1 hC.2.1 dX7_keep_128 rfl (lv_at hl 3 rfl) ?_
      refine lv_iadd hC.1 hC.2.1 dX7_keep_129 ?_
      refine lv_aload_n hC.1 hC.2.1 dX7_keep_130 rfl (lv_at hl 0 rfl) ?_
      refine g7_past hC hw q4_135 dX7_keep_131 ?_
      refine lv_iload_n hC.1 hC.2.1 dX7_keep_134 rfl (lv_at hl 3 rfl) ?_
      obtain ⟨n4, hF⟩ := ifO hF
      refine r_iald hC.1 hC.2.1 hw (rfl : kd 96 = 1) n4 dX7_keep_135 ?_
      obtain ⟨n5, hF⟩ := ifO hF
      refine r_iast hC.1 hC.2.1 hw (rfl : kd 97 = 1) n5 dX7_keep_136 (fun H locs hw => ?_)
      obtain ⟨M6, hw, hF⟩ := lt1W hF hw
      refine lv_iinc (v := (x3 + (1 : Int32))) (lv' := [(3, .int (x3 + (1 : Int32))), (0, .ref (ad G 86)), (1, .int x1), (2, .int x2)]) hC.1 hC.2.1 dX7_keep_137 hl (k := 3) rfl rfl (by decide) rfl (fun ls hl => ?_)
      refine lv_goto (tgt := 113) hC.1 hC.2.1 dX7_keep_140 (by decide) ?_
      exact ih hF hw (lv_sub hl [1, 2, 3, 0] rfl)
def F_X7_keep_66 (fu : Nat) : Nat → Mm → Int32 → Int32 → Int32 → Option (Int32 × Mm)
  | 0, _, _, _, _ => none
  | n + 1, M, x1, x2, x3 =>
    if (6 : Int32) ≤ x3 then
      F_X7_keep_113 fu fu M x1 x2 (0 : Int32)
    else
      if x3 < 0 ∨ ln 94 ≤ x3.toNatClampNeg then none else (
      if ((x2 + (3 : Int32)) + x3) < 0 ∨ ln 97 ≤ ((x2 + (3 : Int32)) + x3).toNatClampNeg then none else (
      lt1 (pI M 97 ((x2 + (3 : Int32)) + x3).toNatClampNeg (M.1 94 x3.toNatClampNeg)) (fun M4 =>
      if x3 < 0 ∨ ln 95 ≤ x3.toNatClampNeg then none else (
      if ((x2 + (9 : Int32)) + x3) < 0 ∨ ln 97 ≤ ((x2 + (9 : Int32)) + x3).toNatClampNeg then none else (
      lt1 (pI M4 97 ((x2 + (9 : Int32)) + x3).toNatClampNeg (M4.1 95 x3.toNatClampNeg)) (fun M7 =>
      F_X7_keep_66 fu n M7 x1 x2 (x3 + (1 : Int32))))))))
set_option maxRecDepth 100000 in
set_option maxHeartbeats 4000000 in
theorem w_X7_keep_66 {p : Program} {l : Launch} {e : Env} {s : State} {m : MethodId} {args : Array Value} {below : List Frame} {meth : Method} {c : Code} {G : Gv} (hC : Cx p s m args meth c cX7_keep 4 (some .int) RX7) {fu : Nat} {r : Int32} {M' : Mm} : ∀ (n : Nat) {x1 : Int32} {x2 : Int32} {x3 : Int32} {M : Mm} {H : Heap} {locs : List Loc} {ls : Array Slot}, F_X7_keep_66 fu n M x1 x2 x3 = some (r, M') → St G s H locs M → lv_has ls 4 [(0, .ref (ad G 86)), (1, .int x1), (2, .int x2), (3, .int x3)] → W p l e rm_X7_keep s m args below meth c H locs 0 0 (MQ below (QI G r M') args s 0 0 (zA G)) (F0 m 66 ls []) := by
  intro n
  induction n with
  | zero =>
    intro x1 x2 x3 M H locs ls hF hw hl
    cases hF
  | succ n ih =>
    intro x1 x2 x3 M H locs ls hF hw hl
    unfold F_X7_keep_66 at hF
    refine lv_iload_n hC.1 hC.2.1 dX7_keep_66 rfl (lv_at hl 3 rfl) ?_
    refine lv_bipush (v := (6 : Int32)) hC.1 hC.2.1 dX7_keep_67 (by decide) ?_
    refine lv_icmp_ge (tgt := 111) hC.1 hC.2.1 dX7_keep_69 (by decide) (fun b1 => ?_) (fun b1 => ?_)
    · have hF := ifP hF b1
      refine lv_iconst (v := (0 : Int32)) hC.1 hC.2.1 dX7_keep_111 (by decide) ?_
      refine lv_istore_n (lv' := [(3, .int (0 : Int32)), (0, .ref (ad G 86)), (1, .int x1), (2, .int x2)]) hC.1 hC.2.1 dX7_keep_112 rfl hl (by decide) rfl (fun ls hl => ?_)
      exact w_X7_keep_113 hC _ hF hw (lv_sub hl [1, 2, 3, 0] rfl)
    · have hF := ifN hF b1
      refine lv_aload_n hC.1 hC.2.1 dX7_keep_72 rfl (lv_at hl 0 rfl) ?_
      refine g7_kept hC hw q4_136 dX7_keep_73 ?_
      refine lv_iload_n hC.1 hC.2.1 dX7_keep_76 rfl (lv_at hl 2 rfl) ?_
      refine lv_iconst (v := (3 : Int32)) hC.1 hC.2.1 dX7_keep_77 (by decide) ?_
      refine lv_iadd hC.1 hC.2.1 dX7_keep_78 ?_
      refine lv_iload_n hC.1 hC.2.1 dX7_keep_79 rfl (lv_at hl 3 rfl) ?_
      refine lv_iadd hC.1 hC.2.1 dX7_keep_80 ?_
      refine lv_aload_n hC.1 hC.2.1 dX7_keep_81 rfl (lv_at hl 0 rfl) ?_
      refine g7_bulks hC hw q4_130 dX7_keep_82 ?_
      refine lv_iload_n hC.1 hC.2.1 dX7_keep_85 rfl (lv_at hl 3 rfl) ?_
      obtain ⟨n2, hF⟩ := ifO hF
      refine r_iald hC.1 hC.2.1 hw (rfl : kd 94 = 1) n2 dX7_keep_86 ?_
      obtain ⟨n3, hF⟩ := ifO hF
      refine r_iast hC.1 hC.2.1 hw (rfl : kd 97 = 1) n3 dX7_keep_87 (fun H locs hw => ?_)
      obtain ⟨M4, hw, hF⟩ := lt1W hF hw
      refine lv_aload_n hC.1 hC.2.1 dX7_keep_88 rfl (lv_at hl 0 rfl) ?_
      refine g7_kept hC hw q4_136 dX7_keep_89 ?_
      refine lv_iload_n hC.1 hC.2.1 dX7_keep_92 rfl (lv_at hl 2 rfl) ?_
      refine lv_bipush (v := (9 : Int32)) hC.1 hC.2.1 dX7_keep_93 (by decide) ?_
      refine lv_iadd hC.1 hC.2.1 dX7_keep_95 ?_
      refine lv_iload_n hC.1 hC.2.1 dX7_keep_96 rfl (lv_at hl 3 rfl) ?_
      refine lv_iadd hC.1 hC.2.1 dX7_keep_97 ?_
      refine lv_aload_n hC.1 hC.2.1 dX7_keep_98 rfl (lv_at hl 0 rfl) ?_
      refine g7_shades hC hw q4_131 dX7_keep_99 ?_
      refine lv_iload_n hC.1 hC.2.1 dX7_keep_102 rfl (lv_at hl 3 rfl) ?_
      obtain ⟨n5, hF⟩ := ifO hF
      refine r_iald hC.1 hC.2.1 hw (rfl : kd 95 = 1) n5 dX7_keep_103 ?_
      obtain ⟨n6, hF⟩ := ifO hF
      refine r_iast hC.1 hC.2.1 hw (rfl : kd 97 = 1) n6 dX7_keep_104 (fun H locs hw => ?_)
      obtain ⟨M7, hw, hF⟩ := lt1W hF hw
      refine lv_iinc (v := (x3 + (1 : Int32))) (lv' := [(3, .int (x3 + (1 : Int32))), (0, .ref (ad G 86)), (1, .int x1), (2, .int x2)]) hC.1 hC.2.1 dX7_keep_105 hl (k := 3) rfl rfl (by decide) rfl (fun ls hl => ?_)
      refine lv_goto (tgt := 66) hC.1 hC.2.1 dX7_keep_108 (by decide) ?_
      exact ih hF hw (lv_sub hl [1, 2, 3, 0] rfl)
def F_X7_keep (fu : Nat) (M : Mm) (x1 : Int32) : Option (Int32 × Mm) :=
  ob1 (F_X7_in fu M x1.toInt64 (0 : Int64) (2 : Int64)) (fun r2 =>
  if r2 = 0 then
    some ((-1 : Int32), M)
  else
    if (M.1 86 4) = 0 then
      some ((-4 : Int32), M)
    else
      if ((795 : Int32) * x1) < 0 ∨ ln 97 ≤ ((795 : Int32) * x1).toNatClampNeg then none else (
      lt1 (pI M 97 ((795 : Int32) * x1).toNatClampNeg (M.1 86 10)) (fun M6 =>
      if (((795 : Int32) * x1) + (1 : Int32)) < 0 ∨ ln 97 ≤ (((795 : Int32) * x1) + (1 : Int32)).toNatClampNeg then none else (
      lt1 (pI M6 97 (((795 : Int32) * x1) + (1 : Int32)).toNatClampNeg (M6.1 86 11)) (fun M8 =>
      if (((795 : Int32) * x1) + (2 : Int32)) < 0 ∨ ln 97 ≤ (((795 : Int32) * x1) + (2 : Int32)).toNatClampNeg then none else (
      lt1 (pI M8 97 (((795 : Int32) * x1) + (2 : Int32)).toNatClampNeg (M8.1 86 12)) (fun M10 =>
      F_X7_keep_66 fu fu M10 x1 ((795 : Int32) * x1) (0 : Int32))))))))
set_option maxRecDepth 100000 in
set_option maxHeartbeats 4000000 in
theorem c_X7_keep {l : Launch} {G : Gv} {fu : Nat} {M : Mm} {x1 : Int32} {r : Int32} {M' : Mm} (hF : F_X7_keep fu M x1 = some (r, M')) : Met l yX7_keep (.code yX7_keep cX7_keep 4 (some .int) :: zU) rm_X7_keep (va_Pc [.ref (ad G 86), .int x1] (Wd G M)) (QI G r M') 0 0 (zA G) := by
  refine zMet (by decide) rfl (Nat.le_of_ble_eq_true rfl) ?_
  intro p e s m below meth c hC hw ls hl
  have hl : lv_has ls 4 [(0, .ref (ad G 86)), (1, .int x1)] := hl
  unfold F_X7_keep at hF
  refine lv_iload_n hC.1 hC.2.1 dX7_keep_0 rfl (lv_at hl 1 rfl) ?_
  refine lv_i2l hC.1 hC.2.1 dX7_keep_1 rfl ?_
  refine lv_lconst (v := (0 : Int64)) hC.1 hC.2.1 dX7_keep_2 (by decide) ?_
  refine lv_ldc2 (v := (2 : Int64)) hC.1 hC.2.1 hC.2.2.2.1 (hC.2.2.2.2.1 _ q5_195) dX7_keep_3 ?_
  obtain ⟨r2, h1, hF⟩ := ob1S hF
  refine k_Si (As := [.long x1.toInt64, .long (0 : Int64), .long (2 : Int64)]) (rest := []) hC hw (c_X7_in (M := M) h1) ys_X7_in q5_3 ⟨rfl, rfl⟩ ⟨Nat.le_of_ble_eq_true rfl, Nat.le_of_ble_eq_true rfl⟩ ⟨Nat.zero_le _, Nat.zero_le _⟩ rfl rfl (Nat.le_of_ble_eq_true rfl) hl dX7_keep_6 (fun H locs hw => ?_)
  refine lv_if_ne (tgt := 14) hC.1 hC.2.1 dX7_keep_9 (by decide) (fun b3 => ?_) (fun b3 => ?_)
  · have hF := ifN hF b3
    refine lv_aload_n hC.1 hC.2.1 dX7_keep_14 rfl (lv_at hl 0 rfl) ?_
    refine g7_men hC hw q4_126 dX7_keep_15 ?_
    refine lv_if_ne (tgt := 24) hC.1 hC.2.1 dX7_keep_18 (by decide) (fun b4 => ?_) (fun b4 => ?_)
    · have hF := ifN hF b4
      refine lv_sipush (v := (795 : Int32)) hC.1 hC.2.1 dX7_keep_24 (by decide) ?_
      refine lv_iload_n hC.1 hC.2.1 dX7_keep_27 rfl (lv_at hl 1 rfl) ?_
      refine lv_imul hC.1 hC.2.1 dX7_keep_28 ?_
      refine lv_istore_n (lv' := [(2, .int ((795 : Int32) * x1)), (0, .ref (ad G 86)), (1, .int x1)]) hC.1 hC.2.1 dX7_keep_29 rfl hl (by decide) rfl (fun ls hl => ?_)
      refine lv_aload_n hC.1 hC.2.1 dX7_keep_30 rfl (lv_at hl 1 rfl) ?_
      refine g7_kept hC hw q4_136 dX7_keep_31 ?_
      refine lv_iload_n hC.1 hC.2.1 dX7_keep_34 rfl (lv_at hl 0 rfl) ?_
      refine lv_aload_n hC.1 hC.2.1 dX7_keep_35 rfl (lv_at hl 1 rfl) ?_
      refine g7_rightIs hC hw q4_132 dX7_keep_36 ?_
      obtain ⟨n5, hF⟩ := ifO hF
      refine r_iast hC.1 hC.2.1 hw (rfl : kd 97 = 1) n5 dX7_keep_39 (fun H locs hw => ?_)
      obtain ⟨M6, hw, hF⟩ := lt1W hF hw
      refine lv_aload_n hC.1 hC.2.1 dX7_keep_40 rfl (lv_at hl 1 rfl) ?_
      refine g7_kept hC hw q4_136 dX7_keep_41 ?_
      refine lv_iload_n hC.1 hC.2.1 dX7_keep_44 rfl (lv_at hl 0 rfl) ?_
      refine lv_iconst (v := (1 : Int32)) hC.1 hC.2.1 dX7_keep_45 (by decide) ?_
      refine lv_iadd hC.1 hC.2.1 dX7_keep_46 ?_
      refine lv_aload_n hC.1 hC.2.1 dX7_keep_47 rfl (lv_at hl 1 rfl) ?_
      refine g7_dayIs hC hw q4_133 dX7_keep_48 ?_
      obtain ⟨n7, hF⟩ := ifO hF
      refine r_iast hC.1 hC.2.1 hw (rfl : kd 97 = 1) n7 dX7_keep_51 (fun H locs hw => ?_)
      obtain ⟨M8, hw, hF⟩ := lt1W hF hw
      refine lv_aload_n hC.1 hC.2.1 dX7_keep_52 rfl (lv_at hl 1 rfl) ?_
      refine g7_kept hC hw q4_136 dX7_keep_53 ?_
      refine lv_iload_n hC.1 hC.2.1 dX7_keep_56 rfl (lv_at hl 0 rfl) ?_
      refine lv_iconst (v := (2 : Int32)) hC.1 hC.2.1 dX7_keep_57 (by decide) ?_
      refine lv_iadd hC.1 hC.2.1 dX7_keep_58 ?_
      refine lv_aload_n hC.1 hC.2.1 dX7_keep_59 rfl (lv_at hl 1 rfl) ?_
      refine g7_deeds hC hw q4_134 dX7_keep_60 ?_
      obtain ⟨n9, hF⟩ := ifO hF
      refine r_iast hC.1 hC.2.1 hw (rfl : kd 97 = 1) n9 dX7_keep_63 (fun H locs hw => ?_)
      obtain ⟨M10, hw, hF⟩ := lt1W hF hw
      refine lv_iconst (v := (0 : Int32)) hC.1 hC.2.1 dX7_keep_64 (by decide) ?_
      refine lv_istore_n (lv' := [(3, .int (0 : Int32)), (2, .int ((795 : Int32) * x1)), (0, .ref (ad G 86)), (1, .int x1)]) hC.1 hC.2.1 dX7_keep_65 rfl hl (by decide) rfl (fun ls hl => ?_)
      exact w_X7_keep_66 hC _ hF hw (lv_sub hl [2, 3, 1, 0] rfl)
    · have hF := ifP hF b4
      refine lv_bipush (v := (-4 : Int32)) hC.1 hC.2.1 dX7_keep_21 (by decide) ?_
      exact r_iretE hC hw hF dX7_keep_23
  · have hF := ifP hF b3
    refine lv_iconst (v := (-1 : Int32)) hC.1 hC.2.1 dX7_keep_12 (by decide) ?_
    exact r_iretE hC hw hF dX7_keep_13
abbrev rm_X7_on : Room := { frames := 1, cells := 0, slots := 0, locals := 25 }
theorem yv_X7_on : YV yX7_on cX7_on 4 (some .int) 1 RX7 := ⟨⟨q5_197, q5_198, q1_8, q5_199⟩, by decide +kernel⟩
theorem dX7_on_0 : decode cX7_on 0 = .ok (.iload_n 1, 1) := by decide +kernel
theorem dX7_on_1 : decode cX7_on 1 = .ok (.i2l, 1) := by decide +kernel
theorem dX7_on_2 : decode cX7_on 2 = .ok (.lconst 0, 1) := by decide +kernel
theorem dX7_on_3 : decode cX7_on 3 = .ok (.ldc2_w 239, 3) := by decide +kernel
theorem dX7_on_6 : decode cX7_on 6 = .ok (.invokestatic 104, 3) := by decide +kernel
theorem dX7_on_9 : decode cX7_on 9 = .ok (.ifCond .ne 5, 3) := by decide +kernel
theorem dX7_on_12 : decode cX7_on 12 = .ok (.iconst (-1), 1) := by decide +kernel
theorem dX7_on_13 : decode cX7_on 13 = .ok (.ireturn, 1) := by decide +kernel
theorem dX7_on_14 : decode cX7_on 14 = .ok (.aload_n 0, 1) := by decide +kernel
theorem dX7_on_15 : decode cX7_on 15 = .ok (.getfield 43, 3) := by decide +kernel
theorem dX7_on_18 : decode cX7_on 18 = .ok (.iload_n 1, 1) := by decide +kernel
theorem dX7_on_19 : decode cX7_on 19 = .ok (.baload, 1) := by decide +kernel
theorem dX7_on_20 : decode cX7_on 20 = .ok (.ifCond .ne 9, 3) := by decide +kernel
theorem dX7_on_23 : decode cX7_on 23 = .ok (.aload_n 0, 1) := by decide +kernel
theorem dX7_on_24 : decode cX7_on 24 = .ok (.iconst 1, 1) := by decide +kernel
theorem dX7_on_25 : decode cX7_on 25 = .ok (.invokevirtual 118, 3) := by decide +kernel
theorem dX7_on_28 : decode cX7_on 28 = .ok (.ireturn, 1) := by decide +kernel
theorem dX7_on_29 : decode cX7_on 29 = .ok (.sipush 795, 3) := by decide +kernel
theorem dX7_on_32 : decode cX7_on 32 = .ok (.iload_n 1, 1) := by decide +kernel
theorem dX7_on_33 : decode cX7_on 33 = .ok (.imul, 1) := by decide +kernel
theorem dX7_on_34 : decode cX7_on 34 = .ok (.istore_n 2, 1) := by decide +kernel
theorem dX7_on_35 : decode cX7_on 35 = .ok (.aload_n 0, 1) := by decide +kernel
theorem dX7_on_36 : decode cX7_on 36 = .ok (.aload_n 0, 1) := by decide +kernel
theorem dX7_on_37 : decode cX7_on 37 = .ok (.getfield 40, 3) := by decide +kernel
theorem dX7_on_40 : decode cX7_on 40 = .ok (.iload_n 2, 1) := by decide +kernel
theorem dX7_on_41 : decode cX7_on 41 = .ok (.iaload, 1) := by decide +kernel
theorem dX7_on_42 : decode cX7_on 42 = .ok (.putfield 164, 3) := by decide +kernel
theorem dX7_on_45 : decode cX7_on 45 = .ok (.aload_n 0, 1) := by decide +kernel
theorem dX7_on_46 : decode cX7_on 46 = .ok (.aload_n 0, 1) := by decide +kernel
theorem dX7_on_47 : decode cX7_on 47 = .ok (.getfield 40, 3) := by decide +kernel
theorem dX7_on_50 : decode cX7_on 50 = .ok (.iload_n 2, 1) := by decide +kernel
theorem dX7_on_51 : decode cX7_on 51 = .ok (.iconst 1, 1) := by decide +kernel
theorem dX7_on_52 : decode cX7_on 52 = .ok (.iadd, 1) := by decide +kernel
theorem dX7_on_53 : decode cX7_on 53 = .ok (.iaload, 1) := by decide +kernel
theorem dX7_on_54 : decode cX7_on 54 = .ok (.putfield 167, 3) := by decide +kernel
theorem dX7_on_57 : decode cX7_on 57 = .ok (.aload_n 0, 1) := by decide +kernel
theorem dX7_on_58 : decode cX7_on 58 = .ok (.aload_n 0, 1) := by decide +kernel
theorem dX7_on_59 : decode cX7_on 59 = .ok (.getfield 40, 3) := by decide +kernel
theorem dX7_on_62 : decode cX7_on 62 = .ok (.iload_n 2, 1) := by decide +kernel
theorem dX7_on_63 : decode cX7_on 63 = .ok (.iconst 2, 1) := by decide +kernel
theorem dX7_on_64 : decode cX7_on 64 = .ok (.iadd, 1) := by decide +kernel
theorem dX7_on_65 : decode cX7_on 65 = .ok (.iaload, 1) := by decide +kernel
theorem dX7_on_66 : decode cX7_on 66 = .ok (.putfield 170, 3) := by decide +kernel
theorem dX7_on_69 : decode cX7_on 69 = .ok (.iconst 0, 1) := by decide +kernel
theorem dX7_on_70 : decode cX7_on 70 = .ok (.istore_n 3, 1) := by decide +kernel
theorem dX7_on_71 : decode cX7_on 71 = .ok (.iload_n 3, 1) := by decide +kernel
theorem dX7_on_72 : decode cX7_on 72 = .ok (.bipush 6, 2) := by decide +kernel
theorem dX7_on_74 : decode cX7_on 74 = .ok (.if_icmp .ge 42, 3) := by decide +kernel
theorem dX7_on_77 : decode cX7_on 77 = .ok (.aload_n 0, 1) := by decide +kernel
theorem dX7_on_78 : decode cX7_on 78 = .ok (.getfield 31, 3) := by decide +kernel
theorem dX7_on_81 : decode cX7_on 81 = .ok (.iload_n 3, 1) := by decide +kernel
theorem dX7_on_82 : decode cX7_on 82 = .ok (.aload_n 0, 1) := by decide +kernel
theorem dX7_on_83 : decode cX7_on 83 = .ok (.getfield 40, 3) := by decide +kernel
theorem dX7_on_86 : decode cX7_on 86 = .ok (.iload_n 2, 1) := by decide +kernel
theorem dX7_on_87 : decode cX7_on 87 = .ok (.iconst 3, 1) := by decide +kernel
theorem dX7_on_88 : decode cX7_on 88 = .ok (.iadd, 1) := by decide +kernel
theorem dX7_on_89 : decode cX7_on 89 = .ok (.iload_n 3, 1) := by decide +kernel
theorem dX7_on_90 : decode cX7_on 90 = .ok (.iadd, 1) := by decide +kernel
theorem dX7_on_91 : decode cX7_on 91 = .ok (.iaload, 1) := by decide +kernel
theorem dX7_on_92 : decode cX7_on 92 = .ok (.iastore, 1) := by decide +kernel
theorem dX7_on_93 : decode cX7_on 93 = .ok (.aload_n 0, 1) := by decide +kernel
theorem dX7_on_94 : decode cX7_on 94 = .ok (.getfield 34, 3) := by decide +kernel
theorem dX7_on_97 : decode cX7_on 97 = .ok (.iload_n 3, 1) := by decide +kernel
theorem dX7_on_98 : decode cX7_on 98 = .ok (.aload_n 0, 1) := by decide +kernel
theorem dX7_on_99 : decode cX7_on 99 = .ok (.getfield 40, 3) := by decide +kernel
theorem dX7_on_102 : decode cX7_on 102 = .ok (.iload_n 2, 1) := by decide +kernel
theorem dX7_on_103 : decode cX7_on 103 = .ok (.bipush 9, 2) := by decide +kernel
theorem dX7_on_105 : decode cX7_on 105 = .ok (.iadd, 1) := by decide +kernel
theorem dX7_on_106 : decode cX7_on 106 = .ok (.iload_n 3, 1) := by decide +kernel
theorem dX7_on_107 : decode cX7_on 107 = .ok (.iadd, 1) := by decide +kernel
theorem dX7_on_108 : decode cX7_on 108 = .ok (.iaload, 1) := by decide +kernel
theorem dX7_on_109 : decode cX7_on 109 = .ok (.iastore, 1) := by decide +kernel
theorem dX7_on_110 : decode cX7_on 110 = .ok (.iinc 3 1, 3) := by decide +kernel
theorem dX7_on_113 : decode cX7_on 113 = .ok (.goto (-42), 3) := by decide +kernel
theorem dX7_on_116 : decode cX7_on 116 = .ok (.iconst 0, 1) := by decide +kernel
theorem dX7_on_117 : decode cX7_on 117 = .ok (.istore_n 3, 1) := by decide +kernel
theorem dX7_on_118 : decode cX7_on 118 = .ok (.iload_n 3, 1) := by decide +kernel
theorem dX7_on_119 : decode cX7_on 119 = .ok (.sipush 780, 3) := by decide +kernel
theorem dX7_on_122 : decode cX7_on 122 = .ok (.if_icmp .ge 26, 3) := by decide +kernel
theorem dX7_on_125 : decode cX7_on 125 = .ok (.aload_n 0, 1) := by decide +kernel
theorem dX7_on_126 : decode cX7_on 126 = .ok (.getfield 37, 3) := by decide +kernel
theorem dX7_on_129 : decode cX7_on 129 = .ok (.iload_n 3, 1) := by decide +kernel
theorem dX7_on_130 : decode cX7_on 130 = .ok (.aload_n 0, 1) := by decide +kernel
theorem dX7_on_131 : decode cX7_on 131 = .ok (.getfield 40, 3) := by decide +kernel
theorem dX7_on_134 : decode cX7_on 134 = .ok (.iload_n 2, 1) := by decide +kernel
theorem dX7_on_135 : decode cX7_on 135 = .ok (.bipush 15, 2) := by decide +kernel
theorem dX7_on_137 : decode cX7_on 137 = .ok (.iadd, 1) := by decide +kernel
theorem dX7_on_138 : decode cX7_on 138 = .ok (.iload_n 3, 1) := by decide +kernel
theorem dX7_on_139 : decode cX7_on 139 = .ok (.iadd, 1) := by decide +kernel
theorem dX7_on_140 : decode cX7_on 140 = .ok (.iaload, 1) := by decide +kernel
theorem dX7_on_141 : decode cX7_on 141 = .ok (.iastore, 1) := by decide +kernel
theorem dX7_on_142 : decode cX7_on 142 = .ok (.iinc 3 1, 3) := by decide +kernel
theorem dX7_on_145 : decode cX7_on 145 = .ok (.goto (-27), 3) := by decide +kernel
theorem dX7_on_148 : decode cX7_on 148 = .ok (.aload_n 0, 1) := by decide +kernel
theorem dX7_on_149 : decode cX7_on 149 = .ok (.getfield 170, 3) := by decide +kernel
theorem dX7_on_152 : decode cX7_on 152 = .ok (.ireturn, 1) := by decide +kernel
def F_X7_on_118 (fu : Nat) : Nat → Mm → Int32 → Int32 → Option (Int32 × Mm)
  | 0, _, _, _ => none
  | n + 1, M, x2, x3 =>
    if (780 : Int32) ≤ x3 then
      some ((M.1 86 12), M)
    else
      if ((x2 + (15 : Int32)) + x3) < 0 ∨ ln 97 ≤ ((x2 + (15 : Int32)) + x3).toNatClampNeg then none else (
      if x3 < 0 ∨ ln 96 ≤ x3.toNatClampNeg then none else (
      lt1 (pI M 96 x3.toNatClampNeg (M.1 97 ((x2 + (15 : Int32)) + x3).toNatClampNeg)) (fun M4 =>
      F_X7_on_118 fu n M4 x2 (x3 + (1 : Int32)))))
set_option maxRecDepth 100000 in
set_option maxHeartbeats 4000000 in
theorem w_X7_on_118 {p : Program} {l : Launch} {e : Env} {s : State} {m : MethodId} {args : Array Value} {below : List Frame} {meth : Method} {c : Code} {G : Gv} (hC : Cx p s m args meth c cX7_on 4 (some .int) RX7) {fu : Nat} {r : Int32} {M' : Mm} : ∀ (n : Nat) {x2 : Int32} {x3 : Int32} {M : Mm} {H : Heap} {locs : List Loc} {ls : Array Slot}, F_X7_on_118 fu n M x2 x3 = some (r, M') → St G s H locs M → lv_has ls 4 [(0, .ref (ad G 86)), (2, .int x2), (3, .int x3)] → W p l e rm_X7_on s m args below meth c H locs 0 0 (MQ below (QI G r M') args s 0 0 (zA G)) (F0 m 118 ls []) := by
  intro n
  induction n with
  | zero =>
    intro x2 x3 M H locs ls hF hw hl
    cases hF
  | succ n ih =>
    intro x2 x3 M H locs ls hF hw hl
    unfold F_X7_on_118 at hF
    refine lv_iload_n hC.1 hC.2.1 dX7_on_118 rfl (lv_at hl 2 rfl) ?_
    refine lv_sipush (v := (780 : Int32)) hC.1 hC.2.1 dX7_on_119 (by decide) ?_
    refine lv_icmp_ge (tgt := 148) hC.1 hC.2.1 dX7_on_122 (by decide) (fun b1 => ?_) (fun b1 => ?_)
    · have hF := ifP hF b1
      refine lv_aload_n hC.1 hC.2.1 dX7_on_148 rfl (lv_at hl 0 rfl) ?_
      refine g7_deeds hC hw q4_134 dX7_on_149 ?_
      exact r_iretE hC hw hF dX7_on_152
    · have hF := ifN hF b1
      refine lv_aload_n hC.1 hC.2.1 dX7_on_125 rfl (lv_at hl 0 rfl) ?_
      refine g7_past hC hw q4_135 dX7_on_126 ?_
      refine lv_iload_n hC.1 hC.2.1 dX7_on_129 rfl (lv_at hl 2 rfl) ?_
      refine lv_aload_n hC.1 hC.2.1 dX7_on_130 rfl (lv_at hl 0 rfl) ?_
      refine g7_kept hC hw q4_136 dX7_on_131 ?_
      refine lv_iload_n hC.1 hC.2.1 dX7_on_134 rfl (lv_at hl 1 rfl) ?_
      refine lv_bipush (v := (15 : Int32)) hC.1 hC.2.1 dX7_on_135 (by decide) ?_
      refine lv_iadd hC.1 hC.2.1 dX7_on_137 ?_
      refine lv_iload_n hC.1 hC.2.1 dX7_on_138 rfl (lv_at hl 2 rfl) ?_
      refine lv_iadd hC.1 hC.2.1 dX7_on_139 ?_
      obtain ⟨n2, hF⟩ := ifO hF
      refine r_iald hC.1 hC.2.1 hw (rfl : kd 97 = 1) n2 dX7_on_140 ?_
      obtain ⟨n3, hF⟩ := ifO hF
      refine r_iast hC.1 hC.2.1 hw (rfl : kd 96 = 1) n3 dX7_on_141 (fun H locs hw => ?_)
      obtain ⟨M4, hw, hF⟩ := lt1W hF hw
      refine lv_iinc (v := (x3 + (1 : Int32))) (lv' := [(3, .int (x3 + (1 : Int32))), (0, .ref (ad G 86)), (2, .int x2)]) hC.1 hC.2.1 dX7_on_142 hl (k := 2) rfl rfl (by decide) rfl (fun ls hl => ?_)
      refine lv_goto (tgt := 118) hC.1 hC.2.1 dX7_on_145 (by decide) ?_
      exact ih hF hw (lv_sub hl [1, 2, 0] rfl)
def F_X7_on_71 (fu : Nat) : Nat → Mm → Int32 → Int32 → Option (Int32 × Mm)
  | 0, _, _, _ => none
  | n + 1, M, x2, x3 =>
    if (6 : Int32) ≤ x3 then
      F_X7_on_118 fu fu M x2 (0 : Int32)
    else
      if ((x2 + (3 : Int32)) + x3) < 0 ∨ ln 97 ≤ ((x2 + (3 : Int32)) + x3).toNatClampNeg then none else (
      if x3 < 0 ∨ ln 94 ≤ x3.toNatClampNeg then none else (
      lt1 (pI M 94 x3.toNatClampNeg (M.1 97 ((x2 + (3 : Int32)) + x3).toNatClampNeg)) (fun M4 =>
      if ((x2 + (9 : Int32)) + x3) < 0 ∨ ln 97 ≤ ((x2 + (9 : Int32)) + x3).toNatClampNeg then none else (
      if x3 < 0 ∨ ln 95 ≤ x3.toNatClampNeg then none else (
      lt1 (pI M4 95 x3.toNatClampNeg (M4.1 97 ((x2 + (9 : Int32)) + x3).toNatClampNeg)) (fun M7 =>
      F_X7_on_71 fu n M7 x2 (x3 + (1 : Int32))))))))
set_option maxRecDepth 100000 in
set_option maxHeartbeats 4000000 in
theorem w_X7_on_71 {p : Program} {l : Launch} {e : Env} {s : State} {m : MethodId} {args : Array Value} {below : List Frame} {meth : Method} {c : Code} {G : Gv} (hC : Cx p s m args meth c cX7_on 4 (some .int) RX7) {fu : Nat} {r : Int32} {M' : Mm} : ∀ (n : Nat) {x2 : Int32} {x3 : Int32} {M : Mm} {H : Heap} {locs : List Loc} {ls : Array Slot}, F_X7_on_71 fu n M x2 x3 = some (r, M') → St G s H locs M → lv_has ls 4 [(0, .ref (ad G 86)), (2, .int x2), (3, .int x3)] → W p l e rm_X7_on s m args below meth c H locs 0 0 (MQ below (QI G r M') args s 0 0 (zA G)) (F0 m 71 ls []) := by
  intro n
  induction n with
  | zero =>
    intro x2 x3 M H locs ls hF hw hl
    cases hF
  | succ n ih =>
    intro x2 x3 M H locs ls hF hw hl
    unfold F_X7_on_71 at hF
    refine lv_iload_n hC.1 hC.2.1 dX7_on_71 rfl (lv_at hl 2 rfl) ?_
    refine lv_bipush (v := (6 : Int32)) hC.1 hC.2.1 dX7_on_72 (by decide) ?_
    refine lv_icmp_ge (tgt := 116) hC.1 hC.2.1 dX7_on_74 (by decide) (fun b1 => ?_) (fun b1 => ?_)
    · have hF := ifP hF b1
      refine lv_iconst (v := (0 : Int32)) hC.1 hC.2.1 dX7_on_116 (by decide) ?_
      refine lv_istore_n (lv' := [(3, .int (0 : Int32)), (0, .ref (ad G 86)), (2, .int x2)]) hC.1 hC.2.1 dX7_on_117 rfl hl (by decide) rfl (fun ls hl => ?_)
      exact w_X7_on_118 hC _ hF hw (lv_sub hl [1, 2, 0] rfl)
    · have hF := ifN hF b1
      refine lv_aload_n hC.1 hC.2.1 dX7_on_77 rfl (lv_at hl 0 rfl) ?_
      refine g7_bulks hC hw q4_130 dX7_on_78 ?_
      refine lv_iload_n hC.1 hC.2.1 dX7_on_81 rfl (lv_at hl 2 rfl) ?_
      refine lv_aload_n hC.1 hC.2.1 dX7_on_82 rfl (lv_at hl 0 rfl) ?_
      refine g7_kept hC hw q4_136 dX7_on_83 ?_
      refine lv_iload_n hC.1 hC.2.1 dX7_on_86 rfl (lv_at hl 1 rfl) ?_
      refine lv_iconst (v := (3 : Int32)) hC.1 hC.2.1 dX7_on_87 (by decide) ?_
      refine lv_iadd hC.1 hC.2.1 dX7_on_88 ?_
      refine lv_iload_n hC.1 hC.2.1 dX7_on_89 rfl (lv_at hl 2 rfl) ?_
      refine lv_iadd hC.1 hC.2.1 dX7_on_90 ?_
      obtain ⟨n2, hF⟩ := ifO hF
      refine r_iald hC.1 hC.2.1 hw (rfl : kd 97 = 1) n2 dX7_on_91 ?_
      obtain ⟨n3, hF⟩ := ifO hF
      refine r_iast hC.1 hC.2.1 hw (rfl : kd 94 = 1) n3 dX7_on_92 (fun H locs hw => ?_)
      obtain ⟨M4, hw, hF⟩ := lt1W hF hw
      refine lv_aload_n hC.1 hC.2.1 dX7_on_93 rfl (lv_at hl 0 rfl) ?_
      refine g7_shades hC hw q4_131 dX7_on_94 ?_
      refine lv_iload_n hC.1 hC.2.1 dX7_on_97 rfl (lv_at hl 2 rfl) ?_
      refine lv_aload_n hC.1 hC.2.1 dX7_on_98 rfl (lv_at hl 0 rfl) ?_
      refine g7_kept hC hw q4_136 dX7_on_99 ?_
      refine lv_iload_n hC.1 hC.2.1 dX7_on_102 rfl (lv_at hl 1 rfl) ?_
      refine lv_bipush (v := (9 : Int32)) hC.1 hC.2.1 dX7_on_103 (by decide) ?_
      refine lv_iadd hC.1 hC.2.1 dX7_on_105 ?_
      refine lv_iload_n hC.1 hC.2.1 dX7_on_106 rfl (lv_at hl 2 rfl) ?_
      refine lv_iadd hC.1 hC.2.1 dX7_on_107 ?_
      obtain ⟨n5, hF⟩ := ifO hF
      refine r_iald hC.1 hC.2.1 hw (rfl : kd 97 = 1) n5 dX7_on_108 ?_
      obtain ⟨n6, hF⟩ := ifO hF
      refine r_iast hC.1 hC.2.1 hw (rfl : kd 95 = 1) n6 dX7_on_109 (fun H locs hw => ?_)
      obtain ⟨M7, hw, hF⟩ := lt1W hF hw
      refine lv_iinc (v := (x3 + (1 : Int32))) (lv' := [(3, .int (x3 + (1 : Int32))), (0, .ref (ad G 86)), (2, .int x2)]) hC.1 hC.2.1 dX7_on_110 hl (k := 2) rfl rfl (by decide) rfl (fun ls hl => ?_)
      refine lv_goto (tgt := 71) hC.1 hC.2.1 dX7_on_113 (by decide) ?_
      exact ih hF hw (lv_sub hl [1, 2, 0] rfl)
def F_X7_on (fu : Nat) (M : Mm) (x1 : Int32) : Option (Int32 × Mm) :=
  ob1 (F_X7_in fu M x1.toInt64 (0 : Int64) (2 : Int64)) (fun r2 =>
  if r2 = 0 then
    some ((-1 : Int32), M)
  else
    if x1 < 0 ∨ ln 98 ≤ x1.toNatClampNeg then none else (
    if (M.1 98 x1.toNatClampNeg) = 0 then
      ob2 (F_X7_finds fu M (1 : Int32)) (fun r13 M14 =>
      some (r13, M14))
    else
      if ((795 : Int32) * x1) < 0 ∨ ln 97 ≤ ((795 : Int32) * x1).toNatClampNeg then none else (
      lt1 (pI M 86 10 (M.1 97 ((795 : Int32) * x1).toNatClampNeg)) (fun M7 =>
      if (((795 : Int32) * x1) + (1 : Int32)) < 0 ∨ ln 97 ≤ (((795 : Int32) * x1) + (1 : Int32)).toNatClampNeg then none else (
      lt1 (pI M7 86 11 (M7.1 97 (((795 : Int32) * x1) + (1 : Int32)).toNatClampNeg)) (fun M9 =>
      if (((795 : Int32) * x1) + (2 : Int32)) < 0 ∨ ln 97 ≤ (((795 : Int32) * x1) + (2 : Int32)).toNatClampNeg then none else (
      lt1 (pI M9 86 12 (M9.1 97 (((795 : Int32) * x1) + (2 : Int32)).toNatClampNeg)) (fun M11 =>
      F_X7_on_71 fu fu M11 ((795 : Int32) * x1) (0 : Int32)))))))))
set_option maxRecDepth 100000 in
set_option maxHeartbeats 4000000 in
theorem c_X7_on {l : Launch} {G : Gv} {fu : Nat} {M : Mm} {x1 : Int32} {r : Int32} {M' : Mm} (hF : F_X7_on fu M x1 = some (r, M')) : Met l yX7_on (.code yX7_on cX7_on 4 (some .int) :: zU) rm_X7_on (va_Pc [.ref (ad G 86), .int x1] (Wd G M)) (QI G r M') 0 0 (zA G) := by
  refine zMet (by decide) rfl (Nat.le_of_ble_eq_true rfl) ?_
  intro p e s m below meth c hC hw ls hl
  have hl : lv_has ls 4 [(0, .ref (ad G 86)), (1, .int x1)] := hl
  unfold F_X7_on at hF
  refine lv_iload_n hC.1 hC.2.1 dX7_on_0 rfl (lv_at hl 1 rfl) ?_
  refine lv_i2l hC.1 hC.2.1 dX7_on_1 rfl ?_
  refine lv_lconst (v := (0 : Int64)) hC.1 hC.2.1 dX7_on_2 (by decide) ?_
  refine lv_ldc2 (v := (2 : Int64)) hC.1 hC.2.1 hC.2.2.2.1 (hC.2.2.2.2.1 _ q5_195) dX7_on_3 ?_
  obtain ⟨r2, h1, hF⟩ := ob1S hF
  refine k_Si (As := [.long x1.toInt64, .long (0 : Int64), .long (2 : Int64)]) (rest := []) hC hw (c_X7_in (M := M) h1) ys_X7_in q5_3 ⟨rfl, rfl⟩ ⟨Nat.le_of_ble_eq_true rfl, Nat.le_of_ble_eq_true rfl⟩ ⟨Nat.zero_le _, Nat.zero_le _⟩ rfl rfl (Nat.le_of_ble_eq_true rfl) hl dX7_on_6 (fun H locs hw => ?_)
  refine lv_if_ne (tgt := 14) hC.1 hC.2.1 dX7_on_9 (by decide) (fun b3 => ?_) (fun b3 => ?_)
  · have hF := ifN hF b3
    refine lv_aload_n hC.1 hC.2.1 dX7_on_14 rfl (lv_at hl 0 rfl) ?_
    refine g7_isKept hC hw q4_137 dX7_on_15 ?_
    refine lv_iload_n hC.1 hC.2.1 dX7_on_18 rfl (lv_at hl 1 rfl) ?_
    obtain ⟨n4, hF⟩ := ifO hF
    refine r_zald hC.1 hC.2.1 hw (rfl : kd 98 = 3) n4 dX7_on_19 ?_
    refine lv_if_ne (tgt := 29) hC.1 hC.2.1 dX7_on_20 (by decide) (fun b5 => ?_) (fun b5 => ?_)
    · have hF := ifN hF b5
      refine lv_sipush (v := (795 : Int32)) hC.1 hC.2.1 dX7_on_29 (by decide) ?_
      refine lv_iload_n hC.1 hC.2.1 dX7_on_32 rfl (lv_at hl 1 rfl) ?_
      refine lv_imul hC.1 hC.2.1 dX7_on_33 ?_
      refine lv_istore_n (lv' := [(2, .int ((795 : Int32) * x1)), (0, .ref (ad G 86)), (1, .int x1)]) hC.1 hC.2.1 dX7_on_34 rfl hl (by decide) rfl (fun ls hl => ?_)
      refine lv_aload_n hC.1 hC.2.1 dX7_on_35 rfl (lv_at hl 1 rfl) ?_
      refine lv_aload_n hC.1 hC.2.1 dX7_on_36 rfl (lv_at hl 1 rfl) ?_
      refine g7_kept hC hw q4_136 dX7_on_37 ?_
      refine lv_iload_n hC.1 hC.2.1 dX7_on_40 rfl (lv_at hl 0 rfl) ?_
      obtain ⟨n6, hF⟩ := ifO hF
      refine r_iald hC.1 hC.2.1 hw (rfl : kd 97 = 1) n6 dX7_on_41 ?_
      refine u7_rightIs hC hw q4_132 dX7_on_42 (fun H locs hw => ?_)
      obtain ⟨M7, hw, hF⟩ := lt1W hF hw
      refine lv_aload_n hC.1 hC.2.1 dX7_on_45 rfl (lv_at hl 1 rfl) ?_
      refine lv_aload_n hC.1 hC.2.1 dX7_on_46 rfl (lv_at hl 1 rfl) ?_
      refine g7_kept hC hw q4_136 dX7_on_47 ?_
      refine lv_iload_n hC.1 hC.2.1 dX7_on_50 rfl (lv_at hl 0 rfl) ?_
      refine lv_iconst (v := (1 : Int32)) hC.1 hC.2.1 dX7_on_51 (by decide) ?_
      refine lv_iadd hC.1 hC.2.1 dX7_on_52 ?_
      obtain ⟨n8, hF⟩ := ifO hF
      refine r_iald hC.1 hC.2.1 hw (rfl : kd 97 = 1) n8 dX7_on_53 ?_
      refine u7_dayIs hC hw q4_133 dX7_on_54 (fun H locs hw => ?_)
      obtain ⟨M9, hw, hF⟩ := lt1W hF hw
      refine lv_aload_n hC.1 hC.2.1 dX7_on_57 rfl (lv_at hl 1 rfl) ?_
      refine lv_aload_n hC.1 hC.2.1 dX7_on_58 rfl (lv_at hl 1 rfl) ?_
      refine g7_kept hC hw q4_136 dX7_on_59 ?_
      refine lv_iload_n hC.1 hC.2.1 dX7_on_62 rfl (lv_at hl 0 rfl) ?_
      refine lv_iconst (v := (2 : Int32)) hC.1 hC.2.1 dX7_on_63 (by decide) ?_
      refine lv_iadd hC.1 hC.2.1 dX7_on_64 ?_
      obtain ⟨n10, hF⟩ := ifO hF
      refine r_iald hC.1 hC.2.1 hw (rfl : kd 97 = 1) n10 dX7_on_65 ?_
      refine u7_deeds hC hw q4_134 dX7_on_66 (fun H locs hw => ?_)
      obtain ⟨M11, hw, hF⟩ := lt1W hF hw
      refine lv_iconst (v := (0 : Int32)) hC.1 hC.2.1 dX7_on_69 (by decide) ?_
      refine lv_istore_n (lv' := [(3, .int (0 : Int32)), (2, .int ((795 : Int32) * x1)), (0, .ref (ad G 86)), (1, .int x1)]) hC.1 hC.2.1 dX7_on_70 rfl hl (by decide) rfl (fun ls hl => ?_)
      exact w_X7_on_71 hC _ hF hw (lv_sub hl [2, 1, 0] rfl)
    · have hF := ifP hF b5
      refine lv_aload_n hC.1 hC.2.1 dX7_on_23 rfl (lv_at hl 0 rfl) ?_
      refine lv_iconst (v := (1 : Int32)) hC.1 hC.2.1 dX7_on_24 (by decide) ?_
      obtain ⟨r13, M14, h12, hF⟩ := ob2S hF
      refine k_Vi (As := [.int (1 : Int32)]) (rest := []) hC hw (c_X7_finds (M := M) h12) RC_X yv_X7_finds q5_6 ⟨rfl, rfl⟩ ⟨Nat.le_of_ble_eq_true rfl, Nat.le_of_ble_eq_true rfl⟩ ⟨Nat.zero_le _, Nat.zero_le _⟩ rfl rfl (Nat.le_of_ble_eq_true rfl) hl dX7_on_25 (fun H locs hw => ?_)
      exact r_iretE hC hw hF dX7_on_28
  · have hF := ifP hF b3
    refine lv_iconst (v := (-1 : Int32)) hC.1 hC.2.1 dX7_on_12 (by decide) ?_
    exact r_iretE hC hw hF dX7_on_13
abbrev rm_X7_bulk : Room := { frames := 4, cells := 0, slots := 0, locals := 93 }
theorem yv_X7_bulk : YV yX7_bulk cX7_bulk 3 (some .int) 2 RX7 := ⟨⟨q5_201, q5_202, q1_8, q5_203⟩, by decide +kernel⟩
theorem dX7_bulk_0 : decode cX7_bulk 0 = .ok (.aload_n 0, 1) := by decide +kernel
theorem dX7_bulk_1 : decode cX7_bulk 1 = .ok (.iload_n 1, 1) := by decide +kernel
theorem dX7_bulk_2 : decode cX7_bulk 2 = .ok (.invokevirtual 197, 3) := by decide +kernel
theorem dX7_bulk_5 : decode cX7_bulk 5 = .ok (.ifCond .eq 19, 3) := by decide +kernel
theorem dX7_bulk_8 : decode cX7_bulk 8 = .ok (.iload_n 2, 1) := by decide +kernel
theorem dX7_bulk_9 : decode cX7_bulk 9 = .ok (.invokestatic 241, 3) := by decide +kernel
theorem dX7_bulk_12 : decode cX7_bulk 12 = .ok (.ifCond .eq 12, 3) := by decide +kernel
theorem dX7_bulk_15 : decode cX7_bulk 15 = .ok (.aload_n 0, 1) := by decide +kernel
theorem dX7_bulk_16 : decode cX7_bulk 16 = .ok (.iload_n 1, 1) := by decide +kernel
theorem dX7_bulk_17 : decode cX7_bulk 17 = .ok (.iload_n 2, 1) := by decide +kernel
theorem dX7_bulk_18 : decode cX7_bulk 18 = .ok (.invokevirtual 184, 3) := by decide +kernel
theorem dX7_bulk_21 : decode cX7_bulk 21 = .ok (.goto 4, 3) := by decide +kernel
theorem dX7_bulk_24 : decode cX7_bulk 24 = .ok (.iconst (-1), 1) := by decide +kernel
theorem dX7_bulk_25 : decode cX7_bulk 25 = .ok (.ireturn, 1) := by decide +kernel
def F_X7_bulk (fu : Nat) (M : Mm) (x1 : Int32) (x2 : Int32) : Option Int32 :=
  ob1 (F_X7_isMan fu M x1) (fun r2 =>
  if r2 = 0 then
    some (-1 : Int32)
  else
    ob1 (F_X7_isAhead fu M x2) (fun r5 =>
    if r5 = 0 then
      some (-1 : Int32)
    else
      ob1 (F_X7_bulkThen fu M x1 x2) (fun r8 =>
      some r8)))
set_option maxRecDepth 100000 in
set_option maxHeartbeats 4000000 in
theorem c_X7_bulk {l : Launch} {G : Gv} {fu : Nat} {M : Mm} {x1 : Int32} {x2 : Int32} {r : Int32} (hF : F_X7_bulk fu M x1 x2 = some r) : Met l yX7_bulk (.code yX7_bulk cX7_bulk 3 (some .int) :: zU) rm_X7_bulk (va_Pc [.ref (ad G 86), .int x1, .int x2] (Wd G M)) (QI G r M) 0 0 (zA G) := by
  refine zMet (by decide) rfl (Nat.le_of_ble_eq_true rfl) ?_
  intro p e s m below meth c hC hw ls hl
  have hl : lv_has ls 3 [(0, .ref (ad G 86)), (1, .int x1), (2, .int x2)] := hl
  unfold F_X7_bulk at hF
  refine lv_aload_n hC.1 hC.2.1 dX7_bulk_0 rfl (lv_at hl 0 rfl) ?_
  refine lv_iload_n hC.1 hC.2.1 dX7_bulk_1 rfl (lv_at hl 1 rfl) ?_
  obtain ⟨r2, h1, hF⟩ := ob1S hF
  refine k_Vi (As := [.int x1]) (rest := []) hC hw (c_X7_isMan (M := M) h1) RC_X yv_X7_isMan q5_89 ⟨rfl, rfl⟩ ⟨Nat.le_of_ble_eq_true rfl, Nat.le_of_ble_eq_true rfl⟩ ⟨Nat.zero_le _, Nat.zero_le _⟩ rfl rfl (Nat.le_of_ble_eq_true rfl) hl dX7_bulk_2 (fun H locs hw => ?_)
  refine lv_if_eq (tgt := 24) hC.1 hC.2.1 dX7_bulk_5 (by decide) (fun b3 => ?_) (fun b3 => ?_)
  · have hF := ifP hF b3
    refine lv_iconst (v := (-1 : Int32)) hC.1 hC.2.1 dX7_bulk_24 (by decide) ?_
    exact r_iretP hC hw hF dX7_bulk_25
  · have hF := ifN hF b3
    refine lv_iload_n hC.1 hC.2.1 dX7_bulk_8 rfl (lv_at hl 2 rfl) ?_
    obtain ⟨r5, h4, hF⟩ := ob1S hF
    refine k_Si (As := [.int x2]) (rest := []) hC hw (c_X7_isAhead (M := M) h4) ys_X7_isAhead q5_204 ⟨rfl, rfl⟩ ⟨Nat.le_of_ble_eq_true rfl, Nat.le_of_ble_eq_true rfl⟩ ⟨Nat.zero_le _, Nat.zero_le _⟩ rfl rfl (Nat.le_of_ble_eq_true rfl) hl dX7_bulk_9 (fun H locs hw => ?_)
    refine lv_if_eq (tgt := 24) hC.1 hC.2.1 dX7_bulk_12 (by decide) (fun b6 => ?_) (fun b6 => ?_)
    · have hF := ifP hF b6
      refine lv_iconst (v := (-1 : Int32)) hC.1 hC.2.1 dX7_bulk_24 (by decide) ?_
      exact r_iretP hC hw hF dX7_bulk_25
    · have hF := ifN hF b6
      refine lv_aload_n hC.1 hC.2.1 dX7_bulk_15 rfl (lv_at hl 0 rfl) ?_
      refine lv_iload_n hC.1 hC.2.1 dX7_bulk_16 rfl (lv_at hl 1 rfl) ?_
      refine lv_iload_n hC.1 hC.2.1 dX7_bulk_17 rfl (lv_at hl 2 rfl) ?_
      obtain ⟨r8, h7, hF⟩ := ob1S hF
      refine k_Vi (As := [.int x1, .int x2]) (rest := []) hC hw (c_X7_bulkThen (M := M) h7) RC_X yv_X7_bulkThen q5_101 ⟨rfl, rfl⟩ ⟨Nat.le_of_ble_eq_true rfl, Nat.le_of_ble_eq_true rfl⟩ ⟨Nat.zero_le _, Nat.zero_le _⟩ rfl rfl (Nat.le_of_ble_eq_true rfl) hl dX7_bulk_18 (fun H locs hw => ?_)
      refine lv_goto (tgt := 25) hC.1 hC.2.1 dX7_bulk_21 (by decide) ?_
      exact r_iretP hC hw hF dX7_bulk_25
abbrev rm_X7_gone : Room := { frames := 3, cells := 0, slots := 0, locals := 68 }
theorem yv_X7_gone : YV yX7_gone cX7_gone 2 (some .int) 1 RX7 := ⟨⟨q5_209, q5_210, q1_8, q5_211⟩, by decide +kernel⟩
theorem dX7_gone_0 : decode cX7_gone 0 = .ok (.aload_n 0, 1) := by decide +kernel
theorem dX7_gone_1 : decode cX7_gone 1 = .ok (.iload_n 1, 1) := by decide +kernel
theorem dX7_gone_2 : decode cX7_gone 2 = .ok (.invokevirtual 197, 3) := by decide +kernel
theorem dX7_gone_5 : decode cX7_gone 5 = .ok (.ifCond .eq 11, 3) := by decide +kernel
theorem dX7_gone_8 : decode cX7_gone 8 = .ok (.aload_n 0, 1) := by decide +kernel
theorem dX7_gone_9 : decode cX7_gone 9 = .ok (.iload_n 1, 1) := by decide +kernel
theorem dX7_gone_10 : decode cX7_gone 10 = .ok (.invokevirtual 209, 3) := by decide +kernel
theorem dX7_gone_13 : decode cX7_gone 13 = .ok (.goto 4, 3) := by decide +kernel
theorem dX7_gone_16 : decode cX7_gone 16 = .ok (.iconst (-1), 1) := by decide +kernel
theorem dX7_gone_17 : decode cX7_gone 17 = .ok (.ireturn, 1) := by decide +kernel
def F_X7_gone (fu : Nat) (M : Mm) (x1 : Int32) : Option Int32 :=
  ob1 (F_X7_isMan fu M x1) (fun r2 =>
  if r2 = 0 then
    some (-1 : Int32)
  else
    ob1 (F_X7_goneIn fu M x1) (fun r5 =>
    some r5))
set_option maxRecDepth 100000 in
set_option maxHeartbeats 4000000 in
theorem c_X7_gone {l : Launch} {G : Gv} {fu : Nat} {M : Mm} {x1 : Int32} {r : Int32} (hF : F_X7_gone fu M x1 = some r) : Met l yX7_gone (.code yX7_gone cX7_gone 2 (some .int) :: zU) rm_X7_gone (va_Pc [.ref (ad G 86), .int x1] (Wd G M)) (QI G r M) 0 0 (zA G) := by
  refine zMet (by decide) rfl (Nat.le_of_ble_eq_true rfl) ?_
  intro p e s m below meth c hC hw ls hl
  have hl : lv_has ls 2 [(0, .ref (ad G 86)), (1, .int x1)] := hl
  unfold F_X7_gone at hF
  refine lv_aload_n hC.1 hC.2.1 dX7_gone_0 rfl (lv_at hl 0 rfl) ?_
  refine lv_iload_n hC.1 hC.2.1 dX7_gone_1 rfl (lv_at hl 1 rfl) ?_
  obtain ⟨r2, h1, hF⟩ := ob1S hF
  refine k_Vi (As := [.int x1]) (rest := []) hC hw (c_X7_isMan (M := M) h1) RC_X yv_X7_isMan q5_89 ⟨rfl, rfl⟩ ⟨Nat.le_of_ble_eq_true rfl, Nat.le_of_ble_eq_true rfl⟩ ⟨Nat.zero_le _, Nat.zero_le _⟩ rfl rfl (Nat.le_of_ble_eq_true rfl) hl dX7_gone_2 (fun H locs hw => ?_)
  refine lv_if_eq (tgt := 16) hC.1 hC.2.1 dX7_gone_5 (by decide) (fun b3 => ?_) (fun b3 => ?_)
  · have hF := ifP hF b3
    refine lv_iconst (v := (-1 : Int32)) hC.1 hC.2.1 dX7_gone_16 (by decide) ?_
    exact r_iretP hC hw hF dX7_gone_17
  · have hF := ifN hF b3
    refine lv_aload_n hC.1 hC.2.1 dX7_gone_8 rfl (lv_at hl 0 rfl) ?_
    refine lv_iload_n hC.1 hC.2.1 dX7_gone_9 rfl (lv_at hl 1 rfl) ?_
    obtain ⟨r5, h4, hF⟩ := ob1S hF
    refine k_Vi (As := [.int x1]) (rest := []) hC hw (c_X7_goneIn (M := M) h4) RC_X yv_X7_goneIn q5_131 ⟨rfl, rfl⟩ ⟨Nat.le_of_ble_eq_true rfl, Nat.le_of_ble_eq_true rfl⟩ ⟨Nat.zero_le _, Nat.zero_le _⟩ rfl rfl (Nat.le_of_ble_eq_true rfl) hl dX7_gone_10 (fun H locs hw => ?_)
    refine lv_goto (tgt := 17) hC.1 hC.2.1 dX7_gone_13 (by decide) ?_
    exact r_iretP hC hw hF dX7_gone_17
abbrev rm_X7_votes : Room := { frames := 5, cells := 0, slots := 0, locals := 116 }
theorem yv_X7_votes : YV yX7_votes cX7_votes 3 (some .int) 1 RX7 := ⟨⟨q5_213, q5_214, q1_8, q5_215⟩, by decide +kernel⟩
theorem dX7_votes_0 : decode cX7_votes 0 = .ok (.iload_n 1, 1) := by decide +kernel
theorem dX7_votes_1 : decode cX7_votes 1 = .ok (.invokestatic 241, 3) := by decide +kernel
theorem dX7_votes_4 : decode cX7_votes 4 = .ok (.ifCond .ne 5, 3) := by decide +kernel
theorem dX7_votes_7 : decode cX7_votes 7 = .ok (.iconst (-1), 1) := by decide +kernel
theorem dX7_votes_8 : decode cX7_votes 8 = .ok (.ireturn, 1) := by decide +kernel
theorem dX7_votes_9 : decode cX7_votes 9 = .ok (.aload_n 0, 1) := by decide +kernel
theorem dX7_votes_10 : decode cX7_votes 10 = .ok (.getfield 101, 3) := by decide +kernel
theorem dX7_votes_13 : decode cX7_votes 13 = .ok (.ifCond .ne 6, 3) := by decide +kernel
theorem dX7_votes_16 : decode cX7_votes 16 = .ok (.bipush (-4), 2) := by decide +kernel
theorem dX7_votes_18 : decode cX7_votes 18 = .ok (.ireturn, 1) := by decide +kernel
theorem dX7_votes_19 : decode cX7_votes 19 = .ok (.aload_n 0, 1) := by decide +kernel
theorem dX7_votes_20 : decode cX7_votes 20 = .ok (.iload_n 1, 1) := by decide +kernel
theorem dX7_votes_21 : decode cX7_votes 21 = .ok (.invokevirtual 200, 3) := by decide +kernel
theorem dX7_votes_24 : decode cX7_votes 24 = .ok (.istore_n 2, 1) := by decide +kernel
theorem dX7_votes_25 : decode cX7_votes 25 = .ok (.aload_n 0, 1) := by decide +kernel
theorem dX7_votes_26 : decode cX7_votes 26 = .ok (.aload_n 0, 1) := by decide +kernel
theorem dX7_votes_27 : decode cX7_votes 27 = .ok (.iconst 0, 1) := by decide +kernel
theorem dX7_votes_28 : decode cX7_votes 28 = .ok (.iload_n 2, 1) := by decide +kernel
theorem dX7_votes_29 : decode cX7_votes 29 = .ok (.invokevirtual 194, 3) := by decide +kernel
theorem dX7_votes_32 : decode cX7_votes 32 = .ok (.putfield 98, 3) := by decide +kernel
theorem dX7_votes_35 : decode cX7_votes 35 = .ok (.aload_n 0, 1) := by decide +kernel
theorem dX7_votes_36 : decode cX7_votes 36 = .ok (.iconst 1, 1) := by decide +kernel
theorem dX7_votes_37 : decode cX7_votes 37 = .ok (.iload_n 2, 1) := by decide +kernel
theorem dX7_votes_38 : decode cX7_votes 38 = .ok (.invokevirtual 194, 3) := by decide +kernel
theorem dX7_votes_41 : decode cX7_votes 41 = .ok (.ireturn, 1) := by decide +kernel
def F_X7_votes (fu : Nat) (M : Mm) (x1 : Int32) : Option (Int32 × Mm) :=
  ob1 (F_X7_isAhead fu M x1) (fun r2 =>
  if r2 = 0 then
    some ((-1 : Int32), M)
  else
    if (M.1 86 4) = 0 then
      some ((-4 : Int32), M)
    else
      ob1 (F_X7_whoThen fu M x1) (fun r6 =>
      ob1 (F_X7_manyFor fu M (0 : Int32) r6) (fun r8 =>
      lt1 (pI M 86 16 r8) (fun M9 =>
      ob1 (F_X7_manyFor fu M9 (1 : Int32) r6) (fun r11 =>
      some (r11, M9))))))
set_option maxRecDepth 100000 in
set_option maxHeartbeats 4000000 in
theorem c_X7_votes {l : Launch} {G : Gv} {fu : Nat} {M : Mm} {x1 : Int32} {r : Int32} {M' : Mm} (hF : F_X7_votes fu M x1 = some (r, M')) : Met l yX7_votes (.code yX7_votes cX7_votes 3 (some .int) :: zU) rm_X7_votes (va_Pc [.ref (ad G 86), .int x1] (Wd G M)) (QI G r M') 0 0 (zA G) := by
  refine zMet (by decide) rfl (Nat.le_of_ble_eq_true rfl) ?_
  intro p e s m below meth c hC hw ls hl
  have hl : lv_has ls 3 [(0, .ref (ad G 86)), (1, .int x1)] := hl
  unfold F_X7_votes at hF
  refine lv_iload_n hC.1 hC.2.1 dX7_votes_0 rfl (lv_at hl 1 rfl) ?_
  obtain ⟨r2, h1, hF⟩ := ob1S hF
  refine k_Si (As := [.int x1]) (rest := []) hC hw (c_X7_isAhead (M := M) h1) ys_X7_isAhead q5_204 ⟨rfl, rfl⟩ ⟨Nat.le_of_ble_eq_true rfl, Nat.le_of_ble_eq_true rfl⟩ ⟨Nat.zero_le _, Nat.zero_le _⟩ rfl rfl (Nat.le_of_ble_eq_true rfl) hl dX7_votes_1 (fun H locs hw => ?_)
  refine lv_if_ne (tgt := 9) hC.1 hC.2.1 dX7_votes_4 (by decide) (fun b3 => ?_) (fun b3 => ?_)
  · have hF := ifN hF b3
    refine lv_aload_n hC.1 hC.2.1 dX7_votes_9 rfl (lv_at hl 0 rfl) ?_
    refine g7_men hC hw q4_126 dX7_votes_10 ?_
    refine lv_if_ne (tgt := 19) hC.1 hC.2.1 dX7_votes_13 (by decide) (fun b4 => ?_) (fun b4 => ?_)
    · have hF := ifN hF b4
      refine lv_aload_n hC.1 hC.2.1 dX7_votes_19 rfl (lv_at hl 0 rfl) ?_
      refine lv_iload_n hC.1 hC.2.1 dX7_votes_20 rfl (lv_at hl 1 rfl) ?_
      obtain ⟨r6, h5, hF⟩ := ob1S hF
      refine k_Vi (As := [.int x1]) (rest := []) hC hw (c_X7_whoThen (M := M) h5) RC_X yv_X7_whoThen q5_97 ⟨rfl, rfl⟩ ⟨Nat.le_of_ble_eq_true rfl, Nat.le_of_ble_eq_true rfl⟩ ⟨Nat.zero_le _, Nat.zero_le _⟩ rfl rfl (Nat.le_of_ble_eq_true rfl) hl dX7_votes_21 (fun H locs hw => ?_)
      refine lv_istore_n (lv' := [(2, .int r6), (0, .ref (ad G 86)), (1, .int x1)]) hC.1 hC.2.1 dX7_votes_24 rfl hl (by decide) rfl (fun ls hl => ?_)
      refine lv_aload_n hC.1 hC.2.1 dX7_votes_25 rfl (lv_at hl 1 rfl) ?_
      refine lv_aload_n hC.1 hC.2.1 dX7_votes_26 rfl (lv_at hl 1 rfl) ?_
      refine lv_iconst (v := (0 : Int32)) hC.1 hC.2.1 dX7_votes_27 (by decide) ?_
      refine lv_iload_n hC.1 hC.2.1 dX7_votes_28 rfl (lv_at hl 0 rfl) ?_
      obtain ⟨r8, h7, hF⟩ := ob1S hF
      refine k_Vi (As := [.int (0 : Int32), .int r6]) (rest := [.ref (ad G 86)]) hC hw (c_X7_manyFor (M := M) h7) RC_X yv_X7_manyFor q5_216 ⟨rfl, rfl⟩ ⟨Nat.le_of_ble_eq_true rfl, Nat.le_of_ble_eq_true rfl⟩ ⟨Nat.zero_le _, Nat.zero_le _⟩ rfl rfl (Nat.le_of_ble_eq_true rfl) hl dX7_votes_29 (fun H locs hw => ?_)
      refine u7_asks hC hw q4_138 dX7_votes_32 (fun H locs hw => ?_)
      obtain ⟨M9, hw, hF⟩ := lt1W hF hw
      refine lv_aload_n hC.1 hC.2.1 dX7_votes_35 rfl (lv_at hl 1 rfl) ?_
      refine lv_iconst (v := (1 : Int32)) hC.1 hC.2.1 dX7_votes_36 (by decide) ?_
      refine lv_iload_n hC.1 hC.2.1 dX7_votes_37 rfl (lv_at hl 0 rfl) ?_
      obtain ⟨r11, h10, hF⟩ := ob1S hF
      refine k_Vi (As := [.int (1 : Int32), .int r6]) (rest := []) hC hw (c_X7_manyFor (M := M9) h10) RC_X yv_X7_manyFor q5_216 ⟨rfl, rfl⟩ ⟨Nat.le_of_ble_eq_true rfl, Nat.le_of_ble_eq_true rfl⟩ ⟨Nat.zero_le _, Nat.zero_le _⟩ rfl rfl (Nat.le_of_ble_eq_true rfl) hl dX7_votes_38 (fun H locs hw => ?_)
      exact r_iretE hC hw hF dX7_votes_41
    · have hF := ifP hF b4
      refine lv_bipush (v := (-4 : Int32)) hC.1 hC.2.1 dX7_votes_16 (by decide) ?_
      exact r_iretE hC hw hF dX7_votes_18
  · have hF := ifP hF b3
    refine lv_iconst (v := (-1 : Int32)) hC.1 hC.2.1 dX7_votes_7 (by decide) ?_
    exact r_iretE hC hw hF dX7_votes_8
