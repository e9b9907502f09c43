abbrev rm_X7_carried : Room := { frames := 5, cells := 0, slots := 0, locals := 116 }
theorem yv_X7_carried : YV yX7_carried cX7_carried 3 (some .int) 1 RX7 := ⟨⟨q5_221, q5_222, q1_8, q5_223⟩, by decide +kernel⟩
theorem dX7_carried_0 : decode cX7_carried 0 = .ok (.iload_n 1, 1) := by decide +kernel
theorem dX7_carried_1 : decode cX7_carried 1 = .ok (.i2l, 1) := by decide +kernel
theorem dX7_carried_2 : decode cX7_carried 2 = .ok (.lconst 0, 1) := by decide +kernel
theorem dX7_carried_3 : decode cX7_carried 3 = .ok (.lconst 1, 1) := by decide +kernel
theorem dX7_carried_4 : decode cX7_carried 4 = .ok (.invokestatic 104, 3) := by decide +kernel
theorem dX7_carried_7 : decode cX7_carried 7 = .ok (.ifCond .ne 5, 3) := by decide +kernel
theorem dX7_carried_10 : decode cX7_carried 10 = .ok (.iconst (-1), 1) := by decide +kernel
theorem dX7_carried_11 : decode cX7_carried 11 = .ok (.ireturn, 1) := by decide +kernel
theorem dX7_carried_12 : decode cX7_carried 12 = .ok (.aload_n 0, 1) := by decide +kernel
theorem dX7_carried_13 : decode cX7_carried 13 = .ok (.getfield 101, 3) := by decide +kernel
theorem dX7_carried_16 : decode cX7_carried 16 = .ok (.ifCond .ne 6, 3) := by decide +kernel
theorem dX7_carried_19 : decode cX7_carried 19 = .ok (.bipush (-4), 2) := by decide +kernel
theorem dX7_carried_21 : decode cX7_carried 21 = .ok (.ireturn, 1) := by decide +kernel
theorem dX7_carried_22 : decode cX7_carried 22 = .ok (.iconst 0, 1) := by decide +kernel
theorem dX7_carried_23 : decode cX7_carried 23 = .ok (.istore_n 2, 1) := by decide +kernel
theorem dX7_carried_24 : decode cX7_carried 24 = .ok (.iload_n 2, 1) := by decide +kernel
theorem dX7_carried_25 : decode cX7_carried 25 = .ok (.bipush 60, 2) := by decide +kernel
theorem dX7_carried_27 : decode cX7_carried 27 = .ok (.if_icmp .gt 33, 3) := by decide +kernel
theorem dX7_carried_30 : decode cX7_carried 30 = .ok (.aload_n 0, 1) := by decide +kernel
theorem dX7_carried_31 : decode cX7_carried 31 = .ok (.aload_n 0, 1) := by decide +kernel
theorem dX7_carried_32 : decode cX7_carried 32 = .ok (.iload_n 2, 1) := by decide +kernel
theorem dX7_carried_33 : decode cX7_carried 33 = .ok (.invokevirtual 200, 3) := by decide +kernel
theorem dX7_carried_36 : decode cX7_carried 36 = .ok (.invokevirtual 244, 3) := by decide +kernel
theorem dX7_carried_39 : decode cX7_carried 39 = .ok (.iload_n 1, 1) := by decide +kernel
theorem dX7_carried_40 : decode cX7_carried 40 = .ok (.iconst 1, 1) := by decide +kernel
theorem dX7_carried_41 : decode cX7_carried 41 = .ok (.if_icmp .ne 7, 3) := by decide +kernel
theorem dX7_carried_44 : decode cX7_carried 44 = .ok (.iconst 1, 1) := by decide +kernel
theorem dX7_carried_45 : decode cX7_carried 45 = .ok (.goto 4, 3) := by decide +kernel
theorem dX7_carried_48 : decode cX7_carried 48 = .ok (.iconst 0, 1) := by decide +kernel
theorem dX7_carried_49 : decode cX7_carried 49 = .ok (.if_icmp .ne 5, 3) := by decide +kernel
theorem dX7_carried_52 : decode cX7_carried 52 = .ok (.iload_n 2, 1) := by decide +kernel
theorem dX7_carried_53 : decode cX7_carried 53 = .ok (.ireturn, 1) := by decide +kernel
theorem dX7_carried_54 : decode cX7_carried 54 = .ok (.iinc 2 1, 3) := by decide +kernel
theorem dX7_carried_57 : decode cX7_carried 57 = .ok (.goto (-33), 3) := by decide +kernel
theorem dX7_carried_60 : decode cX7_carried 60 = .ok (.bipush (-9), 2) := by decide +kernel
theorem dX7_carried_62 : decode cX7_carried 62 = .ok (.ireturn, 1) := by decide +kernel
def F_X7_carried_49 (fu : Nat) (M : Mm) (k24 : Int32 → Int32 → Option Int32) (x1 : Int32) (x2 : Int32) (t0 : Int32) (t1 : Int32) : Option Int32 :=
  if t0 = t1 then
    some x2
  else
    k24 x1 (x2 + (1 : Int32))
set_option maxRecDepth 100000 in
set_option maxHeartbeats 4000000 in
theorem w_X7_carried_49 {p : Program} {l : Launch} {e : Env} {s : State} {m : MethodId} {args : Array Value} {below : List Frame} {meth : Method} {c : Code} {G : Gv} (hC : Cx p s m args meth c cX7_carried 3 (some .int) RX7) {fu : Nat} {r : Int32} {M : Mm} {k24 : Int32 → Int32 → Option Int32} (hk_24 : ∀ {x1 : Int32} {x2 : Int32} {H : Heap} {locs : List Loc} {ls : Array Slot}, k24 x1 x2 = some r → St G s H locs M → lv_has ls 3 [(0, .ref (ad G 86)), (1, .int x1), (2, .int x2)] → W p l e rm_X7_carried s m args below meth c H locs 0 0 (MQ below (QI G r M) args s 0 0 (zA G)) (F0 m 24 ls [])) {x1 : Int32} {x2 : Int32} {t0 : Int32} {t1 : Int32} {H : Heap} {locs : List Loc} {ls : Array Slot} (hF : F_X7_carried_49 fu M k24 x1 x2 t0 t1 = some r) (hw : St G s H locs M) (hl : lv_has ls 3 [(0, .ref (ad G 86)), (1, .int x1), (2, .int x2)]) : W p l e rm_X7_carried s m args below meth c H locs 0 0 (MQ below (QI G r M) args s 0 0 (zA G)) (F0 m 49 ls [.int t1, .int t0]) := by
  unfold F_X7_carried_49 at hF
  refine lv_icmp_ne (tgt := 54) hC.1 hC.2.1 dX7_carried_49 (by decide) (fun b1 => ?_) (fun b1 => ?_)
  · have hF := ifN hF b1
    refine lv_iinc (v := (x2 + (1 : Int32))) (lv' := [(2, .int (x2 + (1 : Int32))), (0, .ref (ad G 86)), (1, .int x1)]) hC.1 hC.2.1 dX7_carried_54 hl (k := 2) rfl rfl (by decide) rfl (fun ls hl => ?_)
    refine lv_goto (tgt := 24) hC.1 hC.2.1 dX7_carried_57 (by decide) ?_
    exact hk_24 hF hw (lv_sub hl [1, 2, 0] rfl)
  · have hF := ifP hF b1
    refine lv_iload_n hC.1 hC.2.1 dX7_carried_52 rfl (lv_at hl 2 rfl) ?_
    exact r_iretP hC hw hF dX7_carried_53
def F_X7_carried_24 (fu : Nat) (M : Mm) : Nat → Int32 → Int32 → Option Int32
  | 0, _, _ => none
  | n + 1, x1, x2 =>
    if (60 : Int32) < x2 then
      some (-9 : Int32)
    else
      ob1 (F_X7_whoThen fu M x2) (fun r3 =>
      ob1 (F_X7_isCarried fu M r3) (fun r5 =>
      if x1 = (1 : Int32) then
        F_X7_carried_49 fu M (F_X7_carried_24 fu M n) x1 x2 r5 (1 : Int32)
      else
        F_X7_carried_49 fu M (F_X7_carried_24 fu M n) x1 x2 r5 (0 : Int32)))
set_option maxRecDepth 100000 in
set_option maxHeartbeats 4000000 in
theorem w_X7_carried_24 {p : Program} {l : Launch} {e : Env} {s : State} {m : MethodId} {args : Array Value} {below : List Frame} {meth : Method} {c : Code} {G : Gv} (hC : Cx p s m args meth c cX7_carried 3 (some .int) RX7) {fu : Nat} {r : Int32} {M : Mm} : ∀ (n : Nat) {x1 : Int32} {x2 : Int32} {H : Heap} {locs : List Loc} {ls : Array Slot}, F_X7_carried_24 fu M n x1 x2 = some r → St G s H locs M → lv_has ls 3 [(0, .ref (ad G 86)), (1, .int x1), (2, .int x2)] → W p l e rm_X7_carried s m args below meth c H locs 0 0 (MQ below (QI G r M) args s 0 0 (zA G)) (F0 m 24 ls []) := by
  intro n
  induction n with
  | zero =>
    intro x1 x2 H locs ls hF hw hl
    cases hF
  | succ n ih =>
    intro x1 x2 H locs ls hF hw hl
    unfold F_X7_carried_24 at hF
    refine lv_iload_n hC.1 hC.2.1 dX7_carried_24 rfl (lv_at hl 2 rfl) ?_
    refine lv_bipush (v := (60 : Int32)) hC.1 hC.2.1 dX7_carried_25 (by decide) ?_
    refine lv_icmp_gt (tgt := 60) hC.1 hC.2.1 dX7_carried_27 (by decide) (fun b1 => ?_) (fun b1 => ?_)
    · have hF := ifP hF b1
      refine lv_bipush (v := (-9 : Int32)) hC.1 hC.2.1 dX7_carried_60 (by decide) ?_
      exact r_iretP hC hw hF dX7_carried_62
    · have hF := ifN hF b1
      refine lv_aload_n hC.1 hC.2.1 dX7_carried_30 rfl (lv_at hl 0 rfl) ?_
      refine lv_aload_n hC.1 hC.2.1 dX7_carried_31 rfl (lv_at hl 0 rfl) ?_
      refine lv_iload_n hC.1 hC.2.1 dX7_carried_32 rfl (lv_at hl 2 rfl) ?_
      obtain ⟨r3, h2, hF⟩ := ob1S hF
      refine k_Vi (As := [.int x2]) (rest := [.ref (ad G 86)]) hC hw (c_X7_whoThen (M := M) h2) RC_X yv_X7_whoThen q5_97 ⟨rfl, rfl⟩ ⟨Nat.le_of_ble_eq_true rfl, Nat.le_of_ble_eq_true rfl⟩ ⟨Nat.zero_le _, Nat.zero_le _⟩ rfl rfl (Nat.le_of_ble_eq_true rfl) hl dX7_carried_33 (fun H locs hw => ?_)
      obtain ⟨r5, h4, hF⟩ := ob1S hF
      refine k_Vi (As := [.int r3]) (rest := []) hC hw (c_X7_isCarried (M := M) h4) RC_X yv_X7_isCarried q5_224 ⟨rfl, rfl⟩ ⟨Nat.le_of_ble_eq_true rfl, Nat.le_of_ble_eq_true rfl⟩ ⟨Nat.zero_le _, Nat.zero_le _⟩ rfl rfl (Nat.le_of_ble_eq_true rfl) hl dX7_carried_36 (fun H locs hw => ?_)
      refine lv_iload_n hC.1 hC.2.1 dX7_carried_39 rfl (lv_at hl 1 rfl) ?_
      refine lv_iconst (v := (1 : Int32)) hC.1 hC.2.1 dX7_carried_40 (by decide) ?_
      refine lv_icmp_ne (tgt := 48) hC.1 hC.2.1 dX7_carried_41 (by decide) (fun b6 => ?_) (fun b6 => ?_)
      · have hF := ifN hF b6
        refine lv_iconst (v := (0 : Int32)) hC.1 hC.2.1 dX7_carried_48 (by decide) ?_
        exact w_X7_carried_49 hC (hk_24 := ih) hF hw (lv_sub hl [0, 1, 2] rfl)
      · have hF := ifP hF b6
        refine lv_iconst (v := (1 : Int32)) hC.1 hC.2.1 dX7_carried_44 (by decide) ?_
        refine lv_goto (tgt := 49) hC.1 hC.2.1 dX7_carried_45 (by decide) ?_
        exact w_X7_carried_49 hC (hk_24 := ih) hF hw (lv_sub hl [0, 1, 2] rfl)
def F_X7_carried (fu : Nat) (M : Mm) (x1 : Int32) : Option Int32 :=
  ob1 (F_X7_in fu M x1.toInt64 (0 : Int64) (1 : Int64)) (fun r2 =>
  if r2 = 0 then
    some (-1 : Int32)
  else
    if (M.1 86 4) = 0 then
      some (-4 : Int32)
    else
      F_X7_carried_24 fu M fu x1 (0 : Int32))
set_option maxRecDepth 100000 in
set_option maxHeartbeats 4000000 in
theorem c_X7_carried {l : Launch} {G : Gv} {fu : Nat} {M : Mm} {x1 : Int32} {r : Int32} (hF : F_X7_carried fu M x1 = some r) : Met l yX7_carried (.code yX7_carried cX7_carried 3 (some .int) :: zU) rm_X7_carried (va_Pc [.ref (ad G 86), .int x1] (Wd G M)) (QI G r M) 0 0 (zA G) := by
  refine zMet (by decide) rfl (Nat.le_of_ble_eq_true rfl) ?_
  intro p e s m below meth c hC hw ls hl
  have hl : lv_has ls 3 [(0, .ref (ad G 86)), (1, .int x1)] := hl
  unfold F_X7_carried at hF
  refine lv_iload_n hC.1 hC.2.1 dX7_carried_0 rfl (lv_at hl 1 rfl) ?_
  refine lv_i2l hC.1 hC.2.1 dX7_carried_1 rfl ?_
  refine lv_lconst (v := (0 : Int64)) hC.1 hC.2.1 dX7_carried_2 (by decide) ?_
  refine lv_lconst (v := (1 : Int64)) hC.1 hC.2.1 dX7_carried_3 (by decide) ?_
  obtain ⟨r2, h1, hF⟩ := ob1S hF
  refine k_Si (As := [.long x1.toInt64, .long (0 : Int64), .long (1 : Int64)]) (rest := []) hC hw (c_X7_in (M := M) h1) ys_X7_in q5_3 ⟨rfl, rfl⟩ ⟨Nat.le_of_ble_eq_true rfl, Nat.le_of_ble_eq_true rfl⟩ ⟨Nat.zero_le _, Nat.zero_le _⟩ rfl rfl (Nat.le_of_ble_eq_true rfl) hl dX7_carried_4 (fun H locs hw => ?_)
  refine lv_if_ne (tgt := 12) hC.1 hC.2.1 dX7_carried_7 (by decide) (fun b3 => ?_) (fun b3 => ?_)
  · have hF := ifN hF b3
    refine lv_aload_n hC.1 hC.2.1 dX7_carried_12 rfl (lv_at hl 0 rfl) ?_
    refine g7_men hC hw q4_126 dX7_carried_13 ?_
    refine lv_if_ne (tgt := 22) hC.1 hC.2.1 dX7_carried_16 (by decide) (fun b4 => ?_) (fun b4 => ?_)
    · have hF := ifN hF b4
      refine lv_iconst (v := (0 : Int32)) hC.1 hC.2.1 dX7_carried_22 (by decide) ?_
      refine lv_istore_n (lv' := [(2, .int (0 : Int32)), (0, .ref (ad G 86)), (1, .int x1)]) hC.1 hC.2.1 dX7_carried_23 rfl hl (by decide) rfl (fun ls hl => ?_)
      exact w_X7_carried_24 hC _ hF hw (lv_sub hl [1, 2, 0] rfl)
    · have hF := ifP hF b4
      refine lv_bipush (v := (-4 : Int32)) hC.1 hC.2.1 dX7_carried_19 (by decide) ?_
      exact r_iretP hC hw hF dX7_carried_21
  · have hF := ifP hF b3
    refine lv_iconst (v := (-1 : Int32)) hC.1 hC.2.1 dX7_carried_10 (by decide) ?_
    exact r_iretP hC hw hF dX7_carried_11
abbrev rm_X7_days : Room := { frames := 5, cells := 0, slots := 0, locals := 116 }
theorem yv_X7_days : YV yX7_days cX7_days 4 (some .int) 1 RX7 := ⟨⟨q5_229, q5_230, q1_8, q5_231⟩, by decide +kernel⟩
theorem dX7_days_0 : decode cX7_days 0 = .ok (.iload_n 1, 1) := by decide +kernel
theorem dX7_days_1 : decode cX7_days 1 = .ok (.invokestatic 241, 3) := by decide +kernel
theorem dX7_days_4 : decode cX7_days 4 = .ok (.ifCond .ne 5, 3) := by decide +kernel
theorem dX7_days_7 : decode cX7_days 7 = .ok (.iconst (-1), 1) := by decide +kernel
theorem dX7_days_8 : decode cX7_days 8 = .ok (.ireturn, 1) := by decide +kernel
theorem dX7_days_9 : decode cX7_days 9 = .ok (.aload_n 0, 1) := by decide +kernel
theorem dX7_days_10 : decode cX7_days 10 = .ok (.getfield 101, 3) := by decide +kernel
theorem dX7_days_13 : decode cX7_days 13 = .ok (.ifCond .ne 6, 3) := by decide +kernel
theorem dX7_days_16 : decode cX7_days 16 = .ok (.bipush (-4), 2) := by decide +kernel
theorem dX7_days_18 : decode cX7_days 18 = .ok (.ireturn, 1) := by decide +kernel
theorem dX7_days_19 : decode cX7_days 19 = .ok (.iconst 0, 1) := by decide +kernel
theorem dX7_days_20 : decode cX7_days 20 = .ok (.istore_n 2, 1) := by decide +kernel
theorem dX7_days_21 : decode cX7_days 21 = .ok (.iconst 0, 1) := by decide +kernel
theorem dX7_days_22 : decode cX7_days 22 = .ok (.istore_n 3, 1) := by decide +kernel
theorem dX7_days_23 : decode cX7_days 23 = .ok (.iload_n 3, 1) := by decide +kernel
theorem dX7_days_24 : decode cX7_days 24 = .ok (.iload_n 1, 1) := by decide +kernel
theorem dX7_days_25 : decode cX7_days 25 = .ok (.if_icmp .gt 29, 3) := by decide +kernel
theorem dX7_days_28 : decode cX7_days 28 = .ok (.iload_n 2, 1) := by decide +kernel
theorem dX7_days_29 : decode cX7_days 29 = .ok (.aload_n 0, 1) := by decide +kernel
theorem dX7_days_30 : decode cX7_days 30 = .ok (.aload_n 0, 1) := by decide +kernel
theorem dX7_days_31 : decode cX7_days 31 = .ok (.iload_n 3, 1) := by decide +kernel
theorem dX7_days_32 : decode cX7_days 32 = .ok (.invokevirtual 200, 3) := by decide +kernel
theorem dX7_days_35 : decode cX7_days 35 = .ok (.invokevirtual 244, 3) := by decide +kernel
theorem dX7_days_38 : decode cX7_days 38 = .ok (.ifCond .eq 7, 3) := by decide +kernel
theorem dX7_days_41 : decode cX7_days 41 = .ok (.iconst 1, 1) := by decide +kernel
theorem dX7_days_42 : decode cX7_days 42 = .ok (.goto 4, 3) := by decide +kernel
theorem dX7_days_45 : decode cX7_days 45 = .ok (.iconst 0, 1) := by decide +kernel
theorem dX7_days_46 : decode cX7_days 46 = .ok (.iadd, 1) := by decide +kernel
theorem dX7_days_47 : decode cX7_days 47 = .ok (.istore_n 2, 1) := by decide +kernel
theorem dX7_days_48 : decode cX7_days 48 = .ok (.iinc 3 1, 3) := by decide +kernel
theorem dX7_days_51 : decode cX7_days 51 = .ok (.goto (-28), 3) := by decide +kernel
theorem dX7_days_54 : decode cX7_days 54 = .ok (.iload_n 2, 1) := by decide +kernel
theorem dX7_days_55 : decode cX7_days 55 = .ok (.ireturn, 1) := by decide +kernel
def F_X7_days_23 (fu : Nat) (M : Mm) : Nat → Int32 → Int32 → Int32 → Option Int32
  | 0, _, _, _ => none
  | n + 1, x1, x2, x3 =>
    if x1 < x3 then
      some x2
    else
      ob1 (F_X7_whoThen fu M x3) (fun r3 =>
      ob1 (F_X7_isCarried fu M r3) (fun r5 =>
      if r5 = 0 then
        F_X7_days_23 fu M n x1 (x2 + (0 : Int32)) (x3 + (1 : Int32))
      else
        F_X7_days_23 fu M n x1 (x2 + (1 : Int32)) (x3 + (1 : Int32))))
set_option maxRecDepth 100000 in
set_option maxHeartbeats 4000000 in
theorem w_X7_days_23 {p : Program} {l : Launch} {e : Env} {s : State} {m : MethodId} {args : Array Value} {below : List Frame} {meth : Method} {c : Code} {G : Gv} (hC : Cx p s m args meth c cX7_days 4 (some .int) RX7) {fu : Nat} {r : Int32} {M : Mm} : ∀ (n : Nat) {x1 : Int32} {x2 : Int32} {x3 : Int32} {H : Heap} {locs : List Loc} {ls : Array Slot}, F_X7_days_23 fu M n x1 x2 x3 = some r → St G s H locs M → lv_has ls 4 [(0, .ref (ad G 86)), (1, .int x1), (2, .int x2), (3, .int x3)] → W p l e rm_X7_days s m args below meth c H locs 0 0 (MQ below (QI G r M) args s 0 0 (zA G)) (F0 m 23 ls []) := by
  intro n
  induction n with
  | zero =>
    intro x1 x2 x3 H locs ls hF hw hl
    cases hF
  | succ n ih =>
    intro x1 x2 x3 H locs ls hF hw hl
    unfold F_X7_days_23 at hF
    refine lv_iload_n hC.1 hC.2.1 dX7_days_23 rfl (lv_at hl 3 rfl) ?_
    refine lv_iload_n hC.1 hC.2.1 dX7_days_24 rfl (lv_at hl 1 rfl) ?_
    refine lv_icmp_gt (tgt := 54) hC.1 hC.2.1 dX7_days_25 (by decide) (fun b1 => ?_) (fun b1 => ?_)
    · have hF := ifP hF b1
      refine lv_iload_n hC.1 hC.2.1 dX7_days_54 rfl (lv_at hl 2 rfl) ?_
      exact r_iretP hC hw hF dX7_days_55
    · have hF := ifN hF b1
      refine lv_iload_n hC.1 hC.2.1 dX7_days_28 rfl (lv_at hl 2 rfl) ?_
      refine lv_aload_n hC.1 hC.2.1 dX7_days_29 rfl (lv_at hl 0 rfl) ?_
      refine lv_aload_n hC.1 hC.2.1 dX7_days_30 rfl (lv_at hl 0 rfl) ?_
      refine lv_iload_n hC.1 hC.2.1 dX7_days_31 rfl (lv_at hl 3 rfl) ?_
      obtain ⟨r3, h2, hF⟩ := ob1S hF
      refine k_Vi (As := [.int x3]) (rest := [.ref (ad G 86), .int x2]) hC hw (c_X7_whoThen (M := M) h2) RC_X yv_X7_whoThen q5_97 ⟨rfl, rfl⟩ ⟨Nat.le_of_ble_eq_true rfl, Nat.le_of_ble_eq_true rfl⟩ ⟨Nat.zero_le _, Nat.zero_le _⟩ rfl rfl (Nat.le_of_ble_eq_true rfl) hl dX7_days_32 (fun H locs hw => ?_)
      obtain ⟨r5, h4, hF⟩ := ob1S hF
      refine k_Vi (As := [.int r3]) (rest := [.int x2]) hC hw (c_X7_isCarried (M := M) h4) RC_X yv_X7_isCarried q5_224 ⟨rfl, rfl⟩ ⟨Nat.le_of_ble_eq_true rfl, Nat.le_of_ble_eq_true rfl⟩ ⟨Nat.zero_le _, Nat.zero_le _⟩ rfl rfl (Nat.le_of_ble_eq_true rfl) hl dX7_days_35 (fun H locs hw => ?_)
      refine lv_if_eq (tgt := 45) hC.1 hC.2.1 dX7_days_38 (by decide) (fun b6 => ?_) (fun b6 => ?_)
      · have hF := ifP hF b6
        refine lv_iconst (v := (0 : Int32)) hC.1 hC.2.1 dX7_days_45 (by decide) ?_
        refine lv_iadd hC.1 hC.2.1 dX7_days_46 ?_
        refine lv_istore_n (lv' := [(2, .int (x2 + (0 : Int32))), (0, .ref (ad G 86)), (1, .int x1), (3, .int x3)]) hC.1 hC.2.1 dX7_days_47 rfl hl (by decide) rfl (fun ls hl => ?_)
        refine lv_iinc (v := (x3 + (1 : Int32))) (lv' := [(3, .int (x3 + (1 : Int32))), (2, .int (x2 + (0 : Int32))), (0, .ref (ad G 86)), (1, .int x1)]) hC.1 hC.2.1 dX7_days_48 hl (k := 3) rfl rfl (by decide) rfl (fun ls hl => ?_)
        refine lv_goto (tgt := 23) hC.1 hC.2.1 dX7_days_51 (by decide) ?_
        exact ih hF hw (lv_sub hl [2, 3, 1, 0] rfl)
      · have hF := ifN hF b6
        refine lv_iconst (v := (1 : Int32)) hC.1 hC.2.1 dX7_days_41 (by decide) ?_
        refine lv_goto (tgt := 46) hC.1 hC.2.1 dX7_days_42 (by decide) ?_
        refine lv_iadd hC.1 hC.2.1 dX7_days_46 ?_
        refine lv_istore_n (lv' := [(2, .int (x2 + (1 : Int32))), (0, .ref (ad G 86)), (1, .int x1), (3, .int x3)]) hC.1 hC.2.1 dX7_days_47 rfl hl (by decide) rfl (fun ls hl => ?_)
        refine lv_iinc (v := (x3 + (1 : Int32))) (lv' := [(3, .int (x3 + (1 : Int32))), (2, .int (x2 + (1 : Int32))), (0, .ref (ad G 86)), (1, .int x1)]) hC.1 hC.2.1 dX7_days_48 hl (k := 3) rfl rfl (by decide) rfl (fun ls hl => ?_)
        refine lv_goto (tgt := 23) hC.1 hC.2.1 dX7_days_51 (by decide) ?_
        exact ih hF hw (lv_sub hl [2, 3, 1, 0] rfl)
def F_X7_days (fu : Nat) (M : Mm) (x1 : Int32) : Option Int32 :=
  ob1 (F_X7_isAhead fu M x1) (fun r2 =>
  if r2 = 0 then
    some (-1 : Int32)
  else
    if (M.1 86 4) = 0 then
      some (-4 : Int32)
    else
      F_X7_days_23 fu M fu x1 (0 : Int32) (0 : Int32))
set_option maxRecDepth 100000 in
set_option maxHeartbeats 4000000 in
theorem c_X7_days {l : Launch} {G : Gv} {fu : Nat} {M : Mm} {x1 : Int32} {r : Int32} (hF : F_X7_days fu M x1 = some r) : Met l yX7_days (.code yX7_days cX7_days 4 (some .int) :: zU) rm_X7_days (va_Pc [.ref (ad G 86), .int x1] (Wd G M)) (QI G r M) 0 0 (zA G) := by
  refine zMet (by decide) rfl (Nat.le_of_ble_eq_true rfl) ?_
  intro p e s m below meth c hC hw ls hl
  have hl : lv_has ls 4 [(0, .ref (ad G 86)), (1, .int x1)] := hl
  unfold F_X7_days at hF
  refine lv_iload_n hC.1 hC.2.1 dX7_days_0 rfl (lv_at hl 1 rfl) ?_
  obtain ⟨r2, h1, hF⟩ := ob1S hF
  refine k_Si (As := [.int x1]) (rest := []) hC hw (c_X7_isAhead (M := M) h1) ys_X7_isAhead q5_204 ⟨rfl, rfl⟩ ⟨Nat.le_of_ble_eq_true rfl, Nat.le_of_ble_eq_true rfl⟩ ⟨Nat.zero_le _, Nat.zero_le _⟩ rfl rfl (Nat.le_of_ble_eq_true rfl) hl dX7_days_1 (fun H locs hw => ?_)
  refine lv_if_ne (tgt := 9) hC.1 hC.2.1 dX7_days_4 (by decide) (fun b3 => ?_) (fun b3 => ?_)
  · have hF := ifN hF b3
    refine lv_aload_n hC.1 hC.2.1 dX7_days_9 rfl (lv_at hl 0 rfl) ?_
    refine g7_men hC hw q4_126 dX7_days_10 ?_
    refine lv_if_ne (tgt := 19) hC.1 hC.2.1 dX7_days_13 (by decide) (fun b4 => ?_) (fun b4 => ?_)
    · have hF := ifN hF b4
      refine lv_iconst (v := (0 : Int32)) hC.1 hC.2.1 dX7_days_19 (by decide) ?_
      refine lv_istore_n (lv' := [(2, .int (0 : Int32)), (0, .ref (ad G 86)), (1, .int x1)]) hC.1 hC.2.1 dX7_days_20 rfl hl (by decide) rfl (fun ls hl => ?_)
      refine lv_iconst (v := (0 : Int32)) hC.1 hC.2.1 dX7_days_21 (by decide) ?_
      refine lv_istore_n (lv' := [(3, .int (0 : Int32)), (2, .int (0 : Int32)), (0, .ref (ad G 86)), (1, .int x1)]) hC.1 hC.2.1 dX7_days_22 rfl hl (by decide) rfl (fun ls hl => ?_)
      exact w_X7_days_23 hC _ hF hw (lv_sub hl [2, 3, 1, 0] rfl)
    · have hF := ifP hF b4
      refine lv_bipush (v := (-4 : Int32)) hC.1 hC.2.1 dX7_days_16 (by decide) ?_
      exact r_iretP hC hw hF dX7_days_18
  · have hF := ifP hF b3
    refine lv_iconst (v := (-1 : Int32)) hC.1 hC.2.1 dX7_days_7 (by decide) ?_
    exact r_iretP hC hw hF dX7_days_8
abbrev rm_X7_widow : Room := { frames := 3, cells := 0, slots := 0, locals := 68 }
theorem yv_X7_widow : YV yX7_widow cX7_widow 6 (some .int) 0 RX7 := ⟨⟨q5_233, q5_234, q1_8, q5_235⟩, by decide +kernel⟩
theorem dX7_widow_0 : decode cX7_widow 0 = .ok (.aload_n 0, 1) := by decide +kernel
theorem dX7_widow_1 : decode cX7_widow 1 = .ok (.getfield 101, 3) := by decide +kernel
theorem dX7_widow_4 : decode cX7_widow 4 = .ok (.ifCond .ne 6, 3) := by decide +kernel
theorem dX7_widow_7 : decode cX7_widow 7 = .ok (.bipush (-4), 2) := by decide +kernel
theorem dX7_widow_9 : decode cX7_widow 9 = .ok (.ireturn, 1) := by decide +kernel
theorem dX7_widow_10 : decode cX7_widow 10 = .ok (.bipush (-9), 2) := by decide +kernel
theorem dX7_widow_12 : decode cX7_widow 12 = .ok (.istore_n 1, 1) := by decide +kernel
theorem dX7_widow_13 : decode cX7_widow 13 = .ok (.ldc 247, 2) := by decide +kernel
theorem dX7_widow_15 : decode cX7_widow 15 = .ok (.istore_n 2, 1) := by decide +kernel
theorem dX7_widow_16 : decode cX7_widow 16 = .ok (.iconst 0, 1) := by decide +kernel
theorem dX7_widow_17 : decode cX7_widow 17 = .ok (.istore_n 3, 1) := by decide +kernel
theorem dX7_widow_18 : decode cX7_widow 18 = .ok (.iload_n 3, 1) := by decide +kernel
theorem dX7_widow_19 : decode cX7_widow 19 = .ok (.aload_n 0, 1) := by decide +kernel
theorem dX7_widow_20 : decode cX7_widow 20 = .ok (.getfield 101, 3) := by decide +kernel
theorem dX7_widow_23 : decode cX7_widow 23 = .ok (.if_icmp .ge 57, 3) := by decide +kernel
theorem dX7_widow_26 : decode cX7_widow 26 = .ok (.aload_n 0, 1) := by decide +kernel
theorem dX7_widow_27 : decode cX7_widow 27 = .ok (.iload_n 3, 1) := by decide +kernel
theorem dX7_widow_28 : decode cX7_widow 28 = .ok (.invokevirtual 209, 3) := by decide +kernel
theorem dX7_widow_31 : decode cX7_widow 31 = .ok (.istore 4, 2) := by decide +kernel
theorem dX7_widow_33 : decode cX7_widow 33 = .ok (.iload 4, 2) := by decide +kernel
theorem dX7_widow_35 : decode cX7_widow 35 = .ok (.ifCond .le 13, 3) := by decide +kernel
theorem dX7_widow_38 : decode cX7_widow 38 = .ok (.iload 4, 2) := by decide +kernel
theorem dX7_widow_40 : decode cX7_widow 40 = .ok (.iload_n 2, 1) := by decide +kernel
theorem dX7_widow_41 : decode cX7_widow 41 = .ok (.if_icmp .ge 7, 3) := by decide +kernel
theorem dX7_widow_44 : decode cX7_widow 44 = .ok (.iconst 1, 1) := by decide +kernel
theorem dX7_widow_45 : decode cX7_widow 45 = .ok (.goto 4, 3) := by decide +kernel
theorem dX7_widow_48 : decode cX7_widow 48 = .ok (.iconst 0, 1) := by decide +kernel
theorem dX7_widow_49 : decode cX7_widow 49 = .ok (.istore 5, 2) := by decide +kernel
theorem dX7_widow_51 : decode cX7_widow 51 = .ok (.iload 5, 2) := by decide +kernel
theorem dX7_widow_53 : decode cX7_widow 53 = .ok (.ifCond .eq 7, 3) := by decide +kernel
theorem dX7_widow_56 : decode cX7_widow 56 = .ok (.iload_n 3, 1) := by decide +kernel
theorem dX7_widow_57 : decode cX7_widow 57 = .ok (.goto 4, 3) := by decide +kernel
theorem dX7_widow_60 : decode cX7_widow 60 = .ok (.iload_n 1, 1) := by decide +kernel
theorem dX7_widow_61 : decode cX7_widow 61 = .ok (.istore_n 1, 1) := by decide +kernel
theorem dX7_widow_62 : decode cX7_widow 62 = .ok (.iload 5, 2) := by decide +kernel
theorem dX7_widow_64 : decode cX7_widow 64 = .ok (.ifCond .eq 8, 3) := by decide +kernel
theorem dX7_widow_67 : decode cX7_widow 67 = .ok (.iload 4, 2) := by decide +kernel
theorem dX7_widow_69 : decode cX7_widow 69 = .ok (.goto 4, 3) := by decide +kernel
theorem dX7_widow_72 : decode cX7_widow 72 = .ok (.iload_n 2, 1) := by decide +kernel
theorem dX7_widow_73 : decode cX7_widow 73 = .ok (.istore_n 2, 1) := by decide +kernel
theorem dX7_widow_74 : decode cX7_widow 74 = .ok (.iinc 3 1, 3) := by decide +kernel
theorem dX7_widow_77 : decode cX7_widow 77 = .ok (.goto (-59), 3) := by decide +kernel
theorem dX7_widow_80 : decode cX7_widow 80 = .ok (.aload_n 0, 1) := by decide +kernel
theorem dX7_widow_81 : decode cX7_widow 81 = .ok (.iload_n 1, 1) := by decide +kernel
theorem dX7_widow_82 : decode cX7_widow 82 = .ok (.bipush (-9), 2) := by decide +kernel
theorem dX7_widow_84 : decode cX7_widow 84 = .ok (.if_icmp .ne 10, 3) := by decide +kernel
theorem dX7_widow_87 : decode cX7_widow 87 = .ok (.aload_n 0, 1) := by decide +kernel
theorem dX7_widow_88 : decode cX7_widow 88 = .ok (.getfield 98, 3) := by decide +kernel
theorem dX7_widow_91 : decode cX7_widow 91 = .ok (.goto 4, 3) := by decide +kernel
theorem dX7_widow_94 : decode cX7_widow 94 = .ok (.iload_n 2, 1) := by decide +kernel
theorem dX7_widow_95 : decode cX7_widow 95 = .ok (.putfield 98, 3) := by decide +kernel
theorem dX7_widow_98 : decode cX7_widow 98 = .ok (.iload_n 1, 1) := by decide +kernel
theorem dX7_widow_99 : decode cX7_widow 99 = .ok (.ireturn, 1) := by decide +kernel
def F_X7_widow_61 (fu : Nat) (k18 : Mm → Int32 → Int32 → Int32 → Option (Int32 × Mm)) (M : Mm) (x2 : Int32) (x3 : Int32) (x4 : Int32) (x5 : Int32) (t0 : Int32) : Option (Int32 × Mm) :=
  if x5 = 0 then
    k18 M t0 x2 (x3 + (1 : Int32))
  else
    k18 M t0 x4 (x3 + (1 : Int32))
set_option maxRecDepth 100000 in
set_option maxHeartbeats 4000000 in
theorem w_X7_widow_61 {p : Program} {l : Launch} {e : Env} {s : State} {m : MethodId} {args : Array Value} {below : List Frame} {meth : Method} {c : Code} {G : Gv} (hC : Cx p s m args meth c cX7_widow 6 (some .int) RX7) {fu : Nat} {r : Int32} {M' : Mm} {k18 : Mm → Int32 → Int32 → Int32 → Option (Int32 × Mm)} (hk_18 : ∀ {x1 : Int32} {x2 : Int32} {x3 : Int32} {M : Mm} {H : Heap} {locs : List Loc} {ls : Array Slot}, k18 M x1 x2 x3 = some (r, M') → St G s H locs M → lv_has ls 6 [(0, .ref (ad G 86)), (1, .int x1), (2, .int x2), (3, .int x3)] → W p l e rm_X7_widow s m args below meth c H locs 0 0 (MQ below (QI G r M') args s 0 0 (zA G)) (F0 m 18 ls [])) {x2 : Int32} {x3 : Int32} {x4 : Int32} {x5 : Int32} {t0 : Int32} {M : Mm} {H : Heap} {locs : List Loc} {ls : Array Slot} (hF : F_X7_widow_61 fu k18 M x2 x3 x4 x5 t0 = some (r, M')) (hw : St G s H locs M) (hl : lv_has ls 6 [(0, .ref (ad G 86)), (2, .int x2), (3, .int x3), (4, .int x4), (5, .int x5)]) : W p l e rm_X7_widow s m args below meth c H locs 0 0 (MQ below (QI G r M') args s 0 0 (zA G)) (F0 m 61 ls [.int t0]) := by
  unfold F_X7_widow_61 at hF
  refine lv_istore_n (lv' := [(1, .int t0), (0, .ref (ad G 86)), (2, .int x2), (3, .int x3), (4, .int x4), (5, .int x5)]) hC.1 hC.2.1 dX7_widow_61 rfl hl (by decide) rfl (fun ls hl => ?_)
  refine lv_iload hC.1 hC.2.1 dX7_widow_62 (lv_at hl 5 rfl) ?_
  refine lv_if_eq (tgt := 72) hC.1 hC.2.1 dX7_widow_64 (by decide) (fun b1 => ?_) (fun b1 => ?_)
  · have hF := ifP hF b1
    refine lv_iload_n hC.1 hC.2.1 dX7_widow_72 rfl (lv_at hl 2 rfl) ?_
    refine lv_istore_n (lv' := [(2, .int x2), (1, .int t0), (0, .ref (ad G 86)), (3, .int x3), (4, .int x4), (5, .int x5)]) hC.1 hC.2.1 dX7_widow_73 rfl hl (by decide) rfl (fun ls hl => ?_)
    refine lv_iinc (v := (x3 + (1 : Int32))) (lv' := [(3, .int (x3 + (1 : Int32))), (2, .int x2), (1, .int t0), (0, .ref (ad G 86)), (4, .int x4), (5, .int x5)]) hC.1 hC.2.1 dX7_widow_74 hl (k := 3) rfl rfl (by decide) rfl (fun ls hl => ?_)
    refine lv_goto (tgt := 18) hC.1 hC.2.1 dX7_widow_77 (by decide) ?_
    exact hk_18 hF hw (lv_sub hl [3, 2, 1, 0] rfl)
  · have hF := ifN hF b1
    refine lv_iload hC.1 hC.2.1 dX7_widow_67 (lv_at hl 4 rfl) ?_
    refine lv_goto (tgt := 73) hC.1 hC.2.1 dX7_widow_69 (by decide) ?_
    refine lv_istore_n (lv' := [(2, .int x4), (1, .int t0), (0, .ref (ad G 86)), (3, .int x3), (4, .int x4), (5, .int x5)]) hC.1 hC.2.1 dX7_widow_73 rfl hl (by decide) rfl (fun ls hl => ?_)
    refine lv_iinc (v := (x3 + (1 : Int32))) (lv' := [(3, .int (x3 + (1 : Int32))), (2, .int x4), (1, .int t0), (0, .ref (ad G 86)), (4, .int x4), (5, .int x5)]) hC.1 hC.2.1 dX7_widow_74 hl (k := 3) rfl rfl (by decide) rfl (fun ls hl => ?_)
    refine lv_goto (tgt := 18) hC.1 hC.2.1 dX7_widow_77 (by decide) ?_
    exact hk_18 hF hw (lv_sub hl [3, 2, 1, 0] rfl)
def F_X7_widow_49 (fu : Nat) (k18 : Mm → Int32 → Int32 → Int32 → Option (Int32 × Mm)) (M : Mm) (x1 : Int32) (x2 : Int32) (x3 : Int32) (x4 : Int32) (t0 : Int32) : Option (Int32 × Mm) :=
  if t0 = 0 then
    F_X7_widow_61 fu k18 M x2 x3 x4 t0 x1
  else
    F_X7_widow_61 fu k18 M x2 x3 x4 t0 x3
set_option maxRecDepth 100000 in
set_option maxHeartbeats 4000000 in
theorem w_X7_widow_49 {p : Program} {l : Launch} {e : Env} {s : State} {m : MethodId} {args : Array Value} {below : List Frame} {meth : Method} {c : Code} {G : Gv} (hC : Cx p s m args meth c cX7_widow 6 (some .int) RX7) {fu : Nat} {r : Int32} {M' : Mm} {k18 : Mm → Int32 → Int32 → Int32 → Option (Int32 × Mm)} (hk_18 : ∀ {x1 : Int32} {x2 : Int32} {x3 : Int32} {M : Mm} {H : Heap} {locs : List Loc} {ls : Array Slot}, k18 M x1 x2 x3 = some (r, M') → St G s H locs M → lv_has ls 6 [(0, .ref (ad G 86)), (1, .int x1), (2, .int x2), (3, .int x3)] → W p l e rm_X7_widow s m args below meth c H locs 0 0 (MQ below (QI G r M') args s 0 0 (zA G)) (F0 m 18 ls [])) {x1 : Int32} {x2 : Int32} {x3 : Int32} {x4 : Int32} {t0 : Int32} {M : Mm} {H : Heap} {locs : List Loc} {ls : Array Slot} (hF : F_X7_widow_49 fu k18 M x1 x2 x3 x4 t0 = some (r, M')) (hw : St G s H locs M) (hl : lv_has ls 6 [(0, .ref (ad G 86)), (1, .int x1), (2, .int x2), (3, .int x3), (4, .int x4)]) : W p l e rm_X7_widow s m args below meth c H locs 0 0 (MQ below (QI G r M') args s 0 0 (zA G)) (F0 m 49 ls [.int t0]) := by
  unfold F_X7_widow_49 at hF
  refine lv_istore (lv' := [(5, .int t0), (0, .ref (ad G 86)), (1, .int x1), (2, .int x2), (3, .int x3), (4, .int x4)]) hC.1 hC.2.1 dX7_widow_49 hl (by decide) rfl (fun ls hl => ?_)
  refine lv_iload hC.1 hC.2.1 dX7_widow_51 (lv_at hl 0 rfl) ?_
  refine lv_if_eq (tgt := 60) hC.1 hC.2.1 dX7_widow_53 (by decide) (fun b1 => ?_) (fun b1 => ?_)
  · have hF := ifP hF b1
    refine lv_iload_n hC.1 hC.2.1 dX7_widow_60 rfl (lv_at hl 2 rfl) ?_
    exact w_X7_widow_61 hC (hk_18 := hk_18) hF hw (lv_sub hl [1, 3, 4, 5, 0] rfl)
  · have hF := ifN hF b1
    refine lv_iload_n hC.1 hC.2.1 dX7_widow_56 rfl (lv_at hl 4 rfl) ?_
    refine lv_goto (tgt := 61) hC.1 hC.2.1 dX7_widow_57 (by decide) ?_
    exact w_X7_widow_61 hC (hk_18 := hk_18) hF hw (lv_sub hl [1, 3, 4, 5, 0] rfl)
def F_X7_widow_48 (fu : Nat) (k18 : Mm → Int32 → Int32 → Int32 → Option (Int32 × Mm)) (M : Mm) (x1 : Int32) (x2 : Int32) (x3 : Int32) (x4 : Int32) : Option (Int32 × Mm) :=
  F_X7_widow_49 fu k18 M x1 x2 x3 x4 (0 : Int32)
set_option maxRecDepth 100000 in
set_option maxHeartbeats 4000000 in
theorem w_X7_widow_48 {p : Program} {l : Launch} {e : Env} {s : State} {m : MethodId} {args : Array Value} {below : List Frame} {meth : Method} {c : Code} {G : Gv} (hC : Cx p s m args meth c cX7_widow 6 (some .int) RX7) {fu : Nat} {r : Int32} {M' : Mm} {k18 : Mm → Int32 → Int32 → Int32 → Option (Int32 × Mm)} (hk_18 : ∀ {x1 : Int32} {x2 : Int32} {x3 : Int32} {M : Mm} {H : Heap} {locs : List Loc} {ls : Array Slot}, k18 M x1 x2 x3 = some (r, M') → St G s H locs M → lv_has ls 6 [(0, .ref (ad G 86)), (1, .int x1), (2, .int x2), (3, .int x3)] → W p l e rm_X7_widow s m args below meth c H locs 0 0 (MQ below (QI G r M') args s 0 0 (zA G)) (F0 m 18 ls [])) {x1 : Int32} {x2 : Int32} {x3 : Int32} {x4 : Int32} {M : Mm} {H : Heap} {locs : List Loc} {ls : Array Slot} (hF : F_X7_widow_48 fu k18 M x1 x2 x3 x4 = some (r, M')) (hw : St G s H locs M) (hl : lv_has ls 6 [(0, .ref (ad G 86)), (1, .int x1), (2, .int x2), (3, .int x3), (4, .int x4)]) : W p l e rm_X7_widow s m args below meth c H locs 0 0 (MQ below (QI G r M') args s 0 0 (zA G)) (F0 m 48 ls []) := by
  unfold F_X7_widow_48 at hF
  refine lv_iconst (v := (0 : Int32)) hC.1 hC.2.1 dX7_widow_48 (by decide) ?_
  exact w_X7_widow_49 hC (hk_18 := hk_18) hF hw (lv_sub hl [0, 1, 2, 3, 4] rfl)
def F_X7_widow_18 (fu : Nat) : Nat → Mm → Int32 → Int32 → Int32 → Option (Int32 × Mm)
  | 0, _, _, _, _ => none
  | n + 1, M, x1, x2, x3 =>
    if (M.1 86 4) ≤ x3 then
      if x1 = (-9 : Int32) then
        lt1 (pI M 86 16 (M.1 86 16)) (fun M4 =>
        some (x1, M4))
      else
        lt1 (pI M 86 16 x2) (fun M3 =>
        some (x1, M3))
    else
      ob1 (F_X7_goneIn fu M x3) (fun r6 =>
      if r6 ≤ 0 then
        F_X7_widow_48 fu (F_X7_widow_18 fu n) M x1 x2 x3 r6
      else
        if x2 ≤ r6 then
          F_X7_widow_48 fu (F_X7_widow_18 fu n) M x1 x2 x3 r6
        else
          F_X7_widow_49 fu (F_X7_widow_18 fu n) M x1 x2 x3 r6 (1 : Int32))
set_option maxRecDepth 100000 in
set_option maxHeartbeats 4000000 in
theorem w_X7_widow_18 {p : Program} {l : Launch} {e : Env} {s : State} {m : MethodId} {args : Array Value} {below : List Frame} {meth : Method} {c : Code} {G : Gv} (hC : Cx p s m args meth c cX7_widow 6 (some .int) RX7) {fu : Nat} {r : Int32} {M' : Mm} : ∀ (n : Nat) {x1 : Int32} {x2 : Int32} {x3 : Int32} {M : Mm} {H : Heap} {locs : List Loc} {ls : Array Slot}, F_X7_widow_18 fu n M x1 x2 x3 = some (r, M') → St G s H locs M → lv_has ls 6 [(0, .ref (ad G 86)), (1, .int x1), (2, .int x2), (3, .int x3)] → W p l e rm_X7_widow s m args below meth c H locs 0 0 (MQ below (QI G r M') args s 0 0 (zA G)) (F0 m 18 ls []) := by
  intro n
  induction n with
  | zero =>
    intro x1 x2 x3 M H locs ls hF hw hl
    cases hF
  | succ n ih =>
    intro x1 x2 x3 M H locs ls hF hw hl
    unfold F_X7_widow_18 at hF
    refine lv_iload_n hC.1 hC.2.1 dX7_widow_18 rfl (lv_at hl 3 rfl) ?_
    refine lv_aload_n hC.1 hC.2.1 dX7_widow_19 rfl (lv_at hl 0 rfl) ?_
    refine g7_men hC hw q4_126 dX7_widow_20 ?_
    refine lv_icmp_ge (tgt := 80) hC.1 hC.2.1 dX7_widow_23 (by decide) (fun b1 => ?_) (fun b1 => ?_)
    · have hF := ifP hF b1
      refine lv_aload_n hC.1 hC.2.1 dX7_widow_80 rfl (lv_at hl 0 rfl) ?_
      refine lv_iload_n hC.1 hC.2.1 dX7_widow_81 rfl (lv_at hl 1 rfl) ?_
      refine lv_bipush (v := (-9 : Int32)) hC.1 hC.2.1 dX7_widow_82 (by decide) ?_
      refine lv_icmp_ne (tgt := 94) hC.1 hC.2.1 dX7_widow_84 (by decide) (fun b2 => ?_) (fun b2 => ?_)
      · have hF := ifN hF b2
        refine lv_iload_n hC.1 hC.2.1 dX7_widow_94 rfl (lv_at hl 2 rfl) ?_
        refine u7_asks hC hw q4_138 dX7_widow_95 (fun H locs hw => ?_)
        obtain ⟨M3, hw, hF⟩ := lt1W hF hw
        refine lv_iload_n hC.1 hC.2.1 dX7_widow_98 rfl (lv_at hl 1 rfl) ?_
        exact r_iretE hC hw hF dX7_widow_99
      · have hF := ifP hF b2
        refine lv_aload_n hC.1 hC.2.1 dX7_widow_87 rfl (lv_at hl 0 rfl) ?_
        refine g7_asks hC hw q4_138 dX7_widow_88 ?_
        refine lv_goto (tgt := 95) hC.1 hC.2.1 dX7_widow_91 (by decide) ?_
        refine u7_asks hC hw q4_138 dX7_widow_95 (fun H locs hw => ?_)
        obtain ⟨M4, hw, hF⟩ := lt1W hF hw
        refine lv_iload_n hC.1 hC.2.1 dX7_widow_98 rfl (lv_at hl 1 rfl) ?_
        exact r_iretE hC hw hF dX7_widow_99
    · have hF := ifN hF b1
      refine lv_aload_n hC.1 hC.2.1 dX7_widow_26 rfl (lv_at hl 0 rfl) ?_
      refine lv_iload_n hC.1 hC.2.1 dX7_widow_27 rfl (lv_at hl 3 rfl) ?_
      obtain ⟨r6, h5, hF⟩ := ob1S hF
      refine k_Vi (As := [.int x3]) (rest := []) hC hw (c_X7_goneIn (M := M) h5) RC_X yv_X7_goneIn q5_131 ⟨rfl, rfl⟩ ⟨Nat.le_of_ble_eq_true rfl, Nat.le_of_ble_eq_true rfl⟩ ⟨Nat.zero_le _, Nat.zero_le _⟩ rfl rfl (Nat.le_of_ble_eq_true rfl) hl dX7_widow_28 (fun H locs hw => ?_)
      refine lv_istore (lv' := [(4, .int r6), (0, .ref (ad G 86)), (1, .int x1), (2, .int x2), (3, .int x3)]) hC.1 hC.2.1 dX7_widow_31 hl (by decide) rfl (fun ls hl => ?_)
      refine lv_iload hC.1 hC.2.1 dX7_widow_33 (lv_at hl 0 rfl) ?_
      refine lv_if_le (tgt := 48) hC.1 hC.2.1 dX7_widow_35 (by decide) (fun b7 => ?_) (fun b7 => ?_)
      · have hF := ifP hF b7
        exact w_X7_widow_48 hC (hk_18 := ih) hF hw (lv_sub hl [1, 2, 3, 4, 0] rfl)
      · have hF := ifN hF b7
        refine lv_iload hC.1 hC.2.1 dX7_widow_38 (lv_at hl 0 rfl) ?_
        refine lv_iload_n hC.1 hC.2.1 dX7_widow_40 rfl (lv_at hl 3 rfl) ?_
        refine lv_icmp_ge (tgt := 48) hC.1 hC.2.1 dX7_widow_41 (by decide) (fun b8 => ?_) (fun b8 => ?_)
        · have hF := ifP hF b8
          exact w_X7_widow_48 hC (hk_18 := ih) hF hw (lv_sub hl [1, 2, 3, 4, 0] rfl)
        · have hF := ifN hF b8
          refine lv_iconst (v := (1 : Int32)) hC.1 hC.2.1 dX7_widow_44 (by decide) ?_
          refine lv_goto (tgt := 49) hC.1 hC.2.1 dX7_widow_45 (by decide) ?_
          exact w_X7_widow_49 hC (hk_18 := ih) hF hw (lv_sub hl [1, 2, 3, 4, 0] rfl)
def F_X7_widow (fu : Nat) (M : Mm) : Option (Int32 × Mm) :=
  if (M.1 86 4) = 0 then
    some ((-4 : Int32), M)
  else
    F_X7_widow_18 fu fu M (-9 : Int32) (1000000 : Int32) (0 : Int32)
set_option maxRecDepth 100000 in
set_option maxHeartbeats 4000000 in
theorem c_X7_widow {l : Launch} {G : Gv} {fu : Nat} {M : Mm} {r : Int32} {M' : Mm} (hF : F_X7_widow fu M = some (r, M')) : Met l yX7_widow (.code yX7_widow cX7_widow 6 (some .int) :: zU) rm_X7_widow (va_Pc [.ref (ad G 86)] (Wd G M)) (QI G r M') 0 0 (zA G) := by
  refine zMet (by decide) rfl (Nat.le_of_ble_eq_true rfl) ?_
  intro p e s m below meth c hC hw ls hl
  have hl : lv_has ls 6 [(0, .ref (ad G 86))] := hl
  unfold F_X7_widow at hF
  refine lv_aload_n hC.1 hC.2.1 dX7_widow_0 rfl (lv_at hl 0 rfl) ?_
  refine g7_men hC hw q4_126 dX7_widow_1 ?_
  refine lv_if_ne (tgt := 10) hC.1 hC.2.1 dX7_widow_4 (by decide) (fun b1 => ?_) (fun b1 => ?_)
  · have hF := ifN hF b1
    refine lv_bipush (v := (-9 : Int32)) hC.1 hC.2.1 dX7_widow_10 (by decide) ?_
    refine lv_istore_n (lv' := [(1, .int (-9 : Int32)), (0, .ref (ad G 86))]) hC.1 hC.2.1 dX7_widow_12 rfl hl (by decide) rfl (fun ls hl => ?_)
    refine lv_ldc (v := (1000000 : Int32)) hC.1 hC.2.1 hC.2.2.2.1 (hC.2.2.2.2.1 _ q5_236) dX7_widow_13 ?_
    refine lv_istore_n (lv' := [(2, .int (1000000 : Int32)), (1, .int (-9 : Int32)), (0, .ref (ad G 86))]) hC.1 hC.2.1 dX7_widow_15 rfl hl (by decide) rfl (fun ls hl => ?_)
    refine lv_iconst (v := (0 : Int32)) hC.1 hC.2.1 dX7_widow_16 (by decide) ?_
    refine lv_istore_n (lv' := [(3, .int (0 : Int32)), (2, .int (1000000 : Int32)), (1, .int (-9 : Int32)), (0, .ref (ad G 86))]) hC.1 hC.2.1 dX7_widow_17 rfl hl (by decide) rfl (fun ls hl => ?_)
    exact w_X7_widow_18 hC _ hF hw (lv_sub hl [3, 2, 1, 0] rfl)
  · have hF := ifP hF b1
    refine lv_bipush (v := (-4 : Int32)) hC.1 hC.2.1 dX7_widow_7 (by decide) ?_
    exact r_iretE hC hw hF dX7_widow_9
abbrev rm_X7_heir : Room := { frames := 4, cells := 0, slots := 0, locals := 93 }
theorem yv_X7_heir : YV yX7_heir cX7_heir 4 (some .int) 2 RX7 := ⟨⟨q5_238, q5_239, q1_8, q6_0⟩, by decide +kernel⟩
theorem dX7_heir_0 : decode cX7_heir 0 = .ok (.aload_n 0, 1) := by decide +kernel
theorem dX7_heir_1 : decode cX7_heir 1 = .ok (.iload_n 1, 1) := by decide +kernel
theorem dX7_heir_2 : decode cX7_heir 2 = .ok (.invokevirtual 197, 3) := by decide +kernel
theorem dX7_heir_5 : decode cX7_heir 5 = .ok (.ifCond .eq 10, 3) := by decide +kernel
theorem dX7_heir_8 : decode cX7_heir 8 = .ok (.iload_n 2, 1) := by decide +kernel
theorem dX7_heir_9 : decode cX7_heir 9 = .ok (.invokestatic 241, 3) := by decide +kernel
theorem dX7_heir_12 : decode cX7_heir 12 = .ok (.ifCond .ne 5, 3) := by decide +kernel
theorem dX7_heir_15 : decode cX7_heir 15 = .ok (.iconst (-1), 1) := by decide +kernel
theorem dX7_heir_16 : decode cX7_heir 16 = .ok (.ireturn, 1) := by decide +kernel
theorem dX7_heir_17 : decode cX7_heir 17 = .ok (.iload_n 1, 1) := by decide +kernel
theorem dX7_heir_18 : decode cX7_heir 18 = .ok (.istore_n 3, 1) := by decide +kernel
theorem dX7_heir_19 : decode cX7_heir 19 = .ok (.iload_n 3, 1) := by decide +kernel
theorem dX7_heir_20 : decode cX7_heir 20 = .ok (.aload_n 0, 1) := by decide +kernel
theorem dX7_heir_21 : decode cX7_heir 21 = .ok (.getfield 101, 3) := by decide +kernel
theorem dX7_heir_24 : decode cX7_heir 24 = .ok (.if_icmp .ge 20, 3) := by decide +kernel
theorem dX7_heir_27 : decode cX7_heir 27 = .ok (.aload_n 0, 1) := by decide +kernel
theorem dX7_heir_28 : decode cX7_heir 28 = .ok (.iload_n 3, 1) := by decide +kernel
theorem dX7_heir_29 : decode cX7_heir 29 = .ok (.iload_n 2, 1) := by decide +kernel
theorem dX7_heir_30 : decode cX7_heir 30 = .ok (.invokevirtual 184, 3) := by decide +kernel
theorem dX7_heir_33 : decode cX7_heir 33 = .ok (.ifCond .le 5, 3) := by decide +kernel
theorem dX7_heir_36 : decode cX7_heir 36 = .ok (.iload_n 3, 1) := by decide +kernel
theorem dX7_heir_37 : decode cX7_heir 37 = .ok (.ireturn, 1) := by decide +kernel
theorem dX7_heir_38 : decode cX7_heir 38 = .ok (.iinc 3 1, 3) := by decide +kernel
theorem dX7_heir_41 : decode cX7_heir 41 = .ok (.goto (-22), 3) := by decide +kernel
theorem dX7_heir_44 : decode cX7_heir 44 = .ok (.iload_n 1, 1) := by decide +kernel
theorem dX7_heir_45 : decode cX7_heir 45 = .ok (.iconst 1, 1) := by decide +kernel
theorem dX7_heir_46 : decode cX7_heir 46 = .ok (.isub, 1) := by decide +kernel
theorem dX7_heir_47 : decode cX7_heir 47 = .ok (.istore_n 3, 1) := by decide +kernel
theorem dX7_heir_48 : decode cX7_heir 48 = .ok (.iload_n 3, 1) := by decide +kernel
theorem dX7_heir_49 : decode cX7_heir 49 = .ok (.ifCond .lt 20, 3) := by decide +kernel
theorem dX7_heir_52 : decode cX7_heir 52 = .ok (.aload_n 0, 1) := by decide +kernel
theorem dX7_heir_53 : decode cX7_heir 53 = .ok (.iload_n 3, 1) := by decide +kernel
theorem dX7_heir_54 : decode cX7_heir 54 = .ok (.iload_n 2, 1) := by decide +kernel
theorem dX7_heir_55 : decode cX7_heir 55 = .ok (.invokevirtual 184, 3) := by decide +kernel
theorem dX7_heir_58 : decode cX7_heir 58 = .ok (.ifCond .le 5, 3) := by decide +kernel
theorem dX7_heir_61 : decode cX7_heir 61 = .ok (.iload_n 3, 1) := by decide +kernel
theorem dX7_heir_62 : decode cX7_heir 62 = .ok (.ireturn, 1) := by decide +kernel
theorem dX7_heir_63 : decode cX7_heir 63 = .ok (.iinc 3 (-1), 3) := by decide +kernel
theorem dX7_heir_66 : decode cX7_heir 66 = .ok (.goto (-18), 3) := by decide +kernel
theorem dX7_heir_69 : decode cX7_heir 69 = .ok (.bipush (-9), 2) := by decide +kernel
theorem dX7_heir_71 : decode cX7_heir 71 = .ok (.ireturn, 1) := by decide +kernel
def F_X7_heir_48 (fu : Nat) (M : Mm) : Nat → Int32 → Int32 → Option Int32
  | 0, _, _ => none
  | n + 1, x2, x3 =>
    if x3 < 0 then
      some (-9 : Int32)
    else
      ob1 (F_X7_bulkThen fu M x3 x2) (fun r3 =>
      if r3 ≤ 0 then
        F_X7_heir_48 fu M n x2 (x3 + (-1 : Int32))
      else
        some x3)
set_option maxRecDepth 100000 in
set_option maxHeartbeats 4000000 in
theorem w_X7_heir_48 {p : Program} {l : Launch} {e : Env} {s : State} {m : MethodId} {args : Array Value} {below : List Frame} {meth : Method} {c : Code} {G : Gv} (hC : Cx p s m args meth c cX7_heir 4 (some .int) RX7) {fu : Nat} {r : Int32} {M : Mm} : ∀ (n : Nat) {x2 : Int32} {x3 : Int32} {H : Heap} {locs : List Loc} {ls : Array Slot}, F_X7_heir_48 fu M n x2 x3 = some r → St G s H locs M → lv_has ls 4 [(0, .ref (ad G 86)), (2, .int x2), (3, .int x3)] → W p l e rm_X7_heir s m args below meth c H locs 0 0 (MQ below (QI G r M) args s 0 0 (zA G)) (F0 m 48 ls []) := by
  intro n
  induction n with
  | zero =>
    intro x2 x3 H locs ls hF hw hl
    cases hF
  | succ n ih =>
    intro x2 x3 H locs ls hF hw hl
    unfold F_X7_heir_48 at hF
    refine lv_iload_n hC.1 hC.2.1 dX7_heir_48 rfl (lv_at hl 2 rfl) ?_
    refine lv_if_lt (tgt := 69) hC.1 hC.2.1 dX7_heir_49 (by decide) (fun b1 => ?_) (fun b1 => ?_)
    · have hF := ifP hF b1
      refine lv_bipush (v := (-9 : Int32)) hC.1 hC.2.1 dX7_heir_69 (by decide) ?_
      exact r_iretP hC hw hF dX7_heir_71
    · have hF := ifN hF b1
      refine lv_aload_n hC.1 hC.2.1 dX7_heir_52 rfl (lv_at hl 0 rfl) ?_
      refine lv_iload_n hC.1 hC.2.1 dX7_heir_53 rfl (lv_at hl 2 rfl) ?_
      refine lv_iload_n hC.1 hC.2.1 dX7_heir_54 rfl (lv_at hl 1 rfl) ?_
      obtain ⟨r3, h2, hF⟩ := ob1S hF
      refine k_Vi (As := [.int x3, .int x2]) (rest := []) hC hw (c_X7_bulkThen (M := M) h2) RC_X yv_X7_bulkThen q5_101 ⟨rfl, rfl⟩ ⟨Nat.le_of_ble_eq_true rfl, Nat.le_of_ble_eq_true rfl⟩ ⟨Nat.zero_le _, Nat.zero_le _⟩ rfl rfl (Nat.le_of_ble_eq_true rfl) hl dX7_heir_55 (fun H locs hw => ?_)
      refine lv_if_le (tgt := 63) hC.1 hC.2.1 dX7_heir_58 (by decide) (fun b4 => ?_) (fun b4 => ?_)
      · have hF := ifP hF b4
        refine lv_iinc (v := (x3 + (-1 : Int32))) (lv' := [(3, .int (x3 + (-1 : Int32))), (0, .ref (ad G 86)), (2, .int x2)]) hC.1 hC.2.1 dX7_heir_63 hl (k := 2) rfl rfl (by decide) rfl (fun ls hl => ?_)
        refine lv_goto (tgt := 48) hC.1 hC.2.1 dX7_heir_66 (by decide) ?_
        exact ih hF hw (lv_sub hl [1, 2, 0] rfl)
      · have hF := ifN hF b4
        refine lv_iload_n hC.1 hC.2.1 dX7_heir_61 rfl (lv_at hl 2 rfl) ?_
        exact r_iretP hC hw hF dX7_heir_62
def F_X7_heir_19 (fu : Nat) (M : Mm) : Nat → Int32 → Int32 → Int32 → Option Int32
  | 0, _, _, _ => none
  | n + 1, x1, x2, x3 =>
    if (M.1 86 4) ≤ x3 then
      F_X7_heir_48 fu M fu x2 (x1 - (1 : Int32))
    else
      ob1 (F_X7_bulkThen fu M x3 x2) (fun r3 =>
      if r3 ≤ 0 then
        F_X7_heir_19 fu M n x1 x2 (x3 + (1 : Int32))
      else
        some x3)
set_option maxRecDepth 100000 in
set_option maxHeartbeats 4000000 in
theorem w_X7_heir_19 {p : Program} {l : Launch} {e : Env} {s : State} {m : MethodId} {args : Array Value} {below : List Frame} {meth : Method} {c : Code} {G : Gv} (hC : Cx p s m args meth c cX7_heir 4 (some .int) RX7) {fu : Nat} {r : Int32} {M : Mm} : ∀ (n : Nat) {x1 : Int32} {x2 : Int32} {x3 : Int32} {H : Heap} {locs : List Loc} {ls : Array Slot}, F_X7_heir_19 fu M n x1 x2 x3 = some r → St G s H locs M → lv_has ls 4 [(0, .ref (ad G 86)), (1, .int x1), (2, .int x2), (3, .int x3)] → W p l e rm_X7_heir s m args below meth c H locs 0 0 (MQ below (QI G r M) args s 0 0 (zA G)) (F0 m 19 ls []) := by
  intro n
  induction n with
  | zero =>
    intro x1 x2 x3 H locs ls hF hw hl
    cases hF
  | succ n ih =>
    intro x1 x2 x3 H locs ls hF hw hl
    unfold F_X7_heir_19 at hF
    refine lv_iload_n hC.1 hC.2.1 dX7_heir_19 rfl (lv_at hl 3 rfl) ?_
    refine lv_aload_n hC.1 hC.2.1 dX7_heir_20 rfl (lv_at hl 0 rfl) ?_
    refine g7_men hC hw q4_126 dX7_heir_21 ?_
    refine lv_icmp_ge (tgt := 44) hC.1 hC.2.1 dX7_heir_24 (by decide) (fun b1 => ?_) (fun b1 => ?_)
    · have hF := ifP hF b1
      refine lv_iload_n hC.1 hC.2.1 dX7_heir_44 rfl (lv_at hl 1 rfl) ?_
      refine lv_iconst (v := (1 : Int32)) hC.1 hC.2.1 dX7_heir_45 (by decide) ?_
      refine lv_isub hC.1 hC.2.1 dX7_heir_46 ?_
      refine lv_istore_n (lv' := [(3, .int (x1 - (1 : Int32))), (0, .ref (ad G 86)), (1, .int x1), (2, .int x2)]) hC.1 hC.2.1 dX7_heir_47 rfl hl (by decide) rfl (fun ls hl => ?_)
      exact w_X7_heir_48 hC _ hF hw (lv_sub hl [1, 3, 0] rfl)
    · have hF := ifN hF b1
      refine lv_aload_n hC.1 hC.2.1 dX7_heir_27 rfl (lv_at hl 0 rfl) ?_
      refine lv_iload_n hC.1 hC.2.1 dX7_heir_28 rfl (lv_at hl 3 rfl) ?_
      refine lv_iload_n hC.1 hC.2.1 dX7_heir_29 rfl (lv_at hl 2 rfl) ?_
      obtain ⟨r3, h2, hF⟩ := ob1S hF
      refine k_Vi (As := [.int x3, .int x2]) (rest := []) hC hw (c_X7_bulkThen (M := M) h2) RC_X yv_X7_bulkThen q5_101 ⟨rfl, rfl⟩ ⟨Nat.le_of_ble_eq_true rfl, Nat.le_of_ble_eq_true rfl⟩ ⟨Nat.zero_le _, Nat.zero_le _⟩ rfl rfl (Nat.le_of_ble_eq_true rfl) hl dX7_heir_30 (fun H locs hw => ?_)
      refine lv_if_le (tgt := 38) hC.1 hC.2.1 dX7_heir_33 (by decide) (fun b4 => ?_) (fun b4 => ?_)
      · have hF := ifP hF b4
        refine lv_iinc (v := (x3 + (1 : Int32))) (lv' := [(3, .int (x3 + (1 : Int32))), (0, .ref (ad G 86)), (1, .int x1), (2, .int x2)]) hC.1 hC.2.1 dX7_heir_38 hl (k := 3) rfl rfl (by decide) rfl (fun ls hl => ?_)
        refine lv_goto (tgt := 19) hC.1 hC.2.1 dX7_heir_41 (by decide) ?_
        exact ih hF hw (lv_sub hl [1, 2, 3, 0] rfl)
      · have hF := ifN hF b4
        refine lv_iload_n hC.1 hC.2.1 dX7_heir_36 rfl (lv_at hl 3 rfl) ?_
        exact r_iretP hC hw hF dX7_heir_37
def F_X7_heir (fu : Nat) (M : Mm) (x1 : Int32) (x2 : Int32) : Option Int32 :=
  ob1 (F_X7_isMan fu M x1) (fun r2 =>
  if r2 = 0 then
    some (-1 : Int32)
  else
    ob1 (F_X7_isAhead fu M x2) (fun r5 =>
    if r5 = 0 then
      some (-1 : Int32)
    else
      F_X7_heir_19 fu M fu x1 x2 x1))
set_option maxRecDepth 100000 in
set_option maxHeartbeats 4000000 in
theorem c_X7_heir {l : Launch} {G : Gv} {fu : Nat} {M : Mm} {x1 : Int32} {x2 : Int32} {r : Int32} (hF : F_X7_heir fu M x1 x2 = some r) : Met l yX7_heir (.code yX7_heir cX7_heir 4 (some .int) :: zU) rm_X7_heir (va_Pc [.ref (ad G 86), .int x1, .int x2] (Wd G M)) (QI G r M) 0 0 (zA G) := by
  refine zMet (by decide) rfl (Nat.le_of_ble_eq_true rfl) ?_
  intro p e s m below meth c hC hw ls hl
  have hl : lv_has ls 4 [(0, .ref (ad G 86)), (1, .int x1), (2, .int x2)] := hl
  unfold F_X7_heir at hF
  refine lv_aload_n hC.1 hC.2.1 dX7_heir_0 rfl (lv_at hl 0 rfl) ?_
  refine lv_iload_n hC.1 hC.2.1 dX7_heir_1 rfl (lv_at hl 1 rfl) ?_
  obtain ⟨r2, h1, hF⟩ := ob1S hF
  refine k_Vi (As := [.int x1]) (rest := []) hC hw (c_X7_isMan (M := M) h1) RC_X yv_X7_isMan q5_89 ⟨rfl, rfl⟩ ⟨Nat.le_of_ble_eq_true rfl, Nat.le_of_ble_eq_true rfl⟩ ⟨Nat.zero_le _, Nat.zero_le _⟩ rfl rfl (Nat.le_of_ble_eq_true rfl) hl dX7_heir_2 (fun H locs hw => ?_)
  refine lv_if_eq (tgt := 15) hC.1 hC.2.1 dX7_heir_5 (by decide) (fun b3 => ?_) (fun b3 => ?_)
  · have hF := ifP hF b3
    refine lv_iconst (v := (-1 : Int32)) hC.1 hC.2.1 dX7_heir_15 (by decide) ?_
    exact r_iretP hC hw hF dX7_heir_16
  · have hF := ifN hF b3
    refine lv_iload_n hC.1 hC.2.1 dX7_heir_8 rfl (lv_at hl 2 rfl) ?_
    obtain ⟨r5, h4, hF⟩ := ob1S hF
    refine k_Si (As := [.int x2]) (rest := []) hC hw (c_X7_isAhead (M := M) h4) ys_X7_isAhead q5_204 ⟨rfl, rfl⟩ ⟨Nat.le_of_ble_eq_true rfl, Nat.le_of_ble_eq_true rfl⟩ ⟨Nat.zero_le _, Nat.zero_le _⟩ rfl rfl (Nat.le_of_ble_eq_true rfl) hl dX7_heir_9 (fun H locs hw => ?_)
    refine lv_if_ne (tgt := 17) hC.1 hC.2.1 dX7_heir_12 (by decide) (fun b6 => ?_) (fun b6 => ?_)
    · have hF := ifN hF b6
      refine lv_iload_n hC.1 hC.2.1 dX7_heir_17 rfl (lv_at hl 1 rfl) ?_
      refine lv_istore_n (lv' := [(3, .int x1), (0, .ref (ad G 86)), (1, .int x1), (2, .int x2)]) hC.1 hC.2.1 dX7_heir_18 rfl hl (by decide) rfl (fun ls hl => ?_)
      exact w_X7_heir_19 hC _ hF hw (lv_sub hl [1, 2, 3, 0] rfl)
    · have hF := ifP hF b6
      refine lv_iconst (v := (-1 : Int32)) hC.1 hC.2.1 dX7_heir_15 (by decide) ?_
      exact r_iretP hC hw hF dX7_heir_16
abbrev rm_X7_tellShades : Room := { frames := 1, cells := 0, slots := 0, locals := 23 }
theorem yv_X7_tellShades : YV yX7_tellShades cX7_tellShades 3 none 1 RX7 := ⟨⟨q6_11, qs_58, q1_8, q6_12⟩, by decide +kernel⟩
theorem dX7_tellShades_0 : decode cX7_tellShades 0 = .ok (.aload_n 0, 1) := by decide +kernel
theorem dX7_tellShades_1 : decode cX7_tellShades 1 = .ok (.iload_n 1, 1) := by decide +kernel
theorem dX7_tellShades_2 : decode cX7_tellShades 2 = .ok (.aload_n 0, 1) := by decide +kernel
theorem dX7_tellShades_3 : decode cX7_tellShades 3 = .ok (.getfield 101, 3) := by decide +kernel
theorem dX7_tellShades_6 : decode cX7_tellShades 6 = .ok (.invokevirtual 122, 3) := by decide +kernel
theorem dX7_tellShades_9 : decode cX7_tellShades 9 = .ok (.iconst 0, 1) := by decide +kernel
theorem dX7_tellShades_10 : decode cX7_tellShades 10 = .ok (.istore_n 2, 1) := by decide +kernel
theorem dX7_tellShades_11 : decode cX7_tellShades 11 = .ok (.iload_n 2, 1) := by decide +kernel
theorem dX7_tellShades_12 : decode cX7_tellShades 12 = .ok (.aload_n 0, 1) := by decide +kernel
theorem dX7_tellShades_13 : decode cX7_tellShades 13 = .ok (.getfield 101, 3) := by decide +kernel
theorem dX7_tellShades_16 : decode cX7_tellShades 16 = .ok (.if_icmp .ge 26, 3) := by decide +kernel
theorem dX7_tellShades_19 : decode cX7_tellShades 19 = .ok (.aload_n 0, 1) := by decide +kernel
theorem dX7_tellShades_20 : decode cX7_tellShades 20 = .ok (.getfield 7, 3) := by decide +kernel
theorem dX7_tellShades_23 : decode cX7_tellShades 23 = .ok (.bipush 40, 2) := by decide +kernel
theorem dX7_tellShades_25 : decode cX7_tellShades 25 = .ok (.iload_n 1, 1) := by decide +kernel
theorem dX7_tellShades_26 : decode cX7_tellShades 26 = .ok (.imul, 1) := by decide +kernel
theorem dX7_tellShades_27 : decode cX7_tellShades 27 = .ok (.iload_n 2, 1) := by decide +kernel
theorem dX7_tellShades_28 : decode cX7_tellShades 28 = .ok (.iadd, 1) := by decide +kernel
theorem dX7_tellShades_29 : decode cX7_tellShades 29 = .ok (.aload_n 0, 1) := by decide +kernel
theorem dX7_tellShades_30 : decode cX7_tellShades 30 = .ok (.getfield 72, 3) := by decide +kernel
theorem dX7_tellShades_33 : decode cX7_tellShades 33 = .ok (.iload_n 2, 1) := by decide +kernel
theorem dX7_tellShades_34 : decode cX7_tellShades 34 = .ok (.iaload, 1) := by decide +kernel
theorem dX7_tellShades_35 : decode cX7_tellShades 35 = .ok (.iastore, 1) := by decide +kernel
theorem dX7_tellShades_36 : decode cX7_tellShades 36 = .ok (.iinc 2 1, 3) := by decide +kernel
theorem dX7_tellShades_39 : decode cX7_tellShades 39 = .ok (.goto (-28), 3) := by decide +kernel
theorem dX7_tellShades_42 : decode cX7_tellShades 42 = .ok (.return_, 1) := by decide +kernel
def F_X7_tellShades_11 (fu : Nat) : Nat → Mm → Int32 → Int32 → Option Mm
  | 0, _, _, _ => none
  | n + 1, M, x1, x2 =>
    if (M.1 86 4) ≤ x2 then
      some M
    else
      if x2 < 0 ∨ ln 106 ≤ x2.toNatClampNeg then none else (
      if (((40 : Int32) * x1) + x2) < 0 ∨ ln 87 ≤ (((40 : Int32) * x1) + x2).toNatClampNeg then none else (
      lt1 (pI M 87 (((40 : Int32) * x1) + x2).toNatClampNeg (M.1 106 x2.toNatClampNeg)) (fun M4 =>
      F_X7_tellShades_11 fu n M4 x1 (x2 + (1 : Int32)))))
set_option maxRecDepth 100000 in
set_option maxHeartbeats 4000000 in
theorem w_X7_tellShades_11 {p : Program} {l : Launch} {e : Env} {s : State} {m : MethodId} {args : Array Value} {below : List Frame} {meth : Method} {c : Code} {G : Gv} (hC : Cx p s m args meth c cX7_tellShades 3 none RX7) {fu : Nat} {M' : Mm} : ∀ (n : Nat) {x1 : Int32} {x2 : Int32} {M : Mm} {H : Heap} {locs : List Loc} {ls : Array Slot}, F_X7_tellShades_11 fu n M x1 x2 = some M' → St G s H locs M → lv_has ls 3 [(0, .ref (ad G 86)), (1, .int x1), (2, .int x2)] → W p l e rm_X7_tellShades s m args below meth c H locs 0 0 (MQ below (QV G M') args s 0 0 (zA G)) (F0 m 11 ls []) := by
  intro n
  induction n with
  | zero =>
    intro x1 x2 M H locs ls hF hw hl
    cases hF
  | succ n ih =>
    intro x1 x2 M H locs ls hF hw hl
    unfold F_X7_tellShades_11 at hF
    refine lv_iload_n hC.1 hC.2.1 dX7_tellShades_11 rfl (lv_at hl 2 rfl) ?_
    refine lv_aload_n hC.1 hC.2.1 dX7_tellShades_12 rfl (lv_at hl 0 rfl) ?_
    refine g7_men hC hw q4_126 dX7_tellShades_13 ?_
    refine lv_icmp_ge (tgt := 42) hC.1 hC.2.1 dX7_tellShades_16 (by decide) (fun b1 => ?_) (fun b1 => ?_)
    · have hF := ifP hF b1
      exact r_vretE hC hw hF dX7_tellShades_42
    · have hF := ifN hF b1
      refine lv_aload_n hC.1 hC.2.1 dX7_tellShades_19 rfl (lv_at hl 0 rfl) ?_
      refine g7_rows hC hw q4_122 dX7_tellShades_20 ?_
      refine lv_bipush (v := (40 : Int32)) hC.1 hC.2.1 dX7_tellShades_23 (by decide) ?_
      refine lv_iload_n hC.1 hC.2.1 dX7_tellShades_25 rfl (lv_at hl 1 rfl) ?_
      refine lv_imul hC.1 hC.2.1 dX7_tellShades_26 ?_
      refine lv_iload_n hC.1 hC.2.1 dX7_tellShades_27 rfl (lv_at hl 2 rfl) ?_
      refine lv_iadd hC.1 hC.2.1 dX7_tellShades_28 ?_
      refine lv_aload_n hC.1 hC.2.1 dX7_tellShades_29 rfl (lv_at hl 0 rfl) ?_
      refine g7_shadesThen hC hw q4_152 dX7_tellShades_30 ?_
      refine lv_iload_n hC.1 hC.2.1 dX7_tellShades_33 rfl (lv_at hl 2 rfl) ?_
      obtain ⟨n2, hF⟩ := ifO hF
      refine r_iald hC.1 hC.2.1 hw (rfl : kd 106 = 1) n2 dX7_tellShades_34 ?_
      obtain ⟨n3, hF⟩ := ifO hF
      refine r_iast hC.1 hC.2.1 hw (rfl : kd 87 = 1) n3 dX7_tellShades_35 (fun H locs hw => ?_)
      obtain ⟨M4, hw, hF⟩ := lt1W hF hw
      refine lv_iinc (v := (x2 + (1 : Int32))) (lv' := [(2, .int (x2 + (1 : Int32))), (0, .ref (ad G 86)), (1, .int x1)]) hC.1 hC.2.1 dX7_tellShades_36 hl (k := 2) rfl rfl (by decide) rfl (fun ls hl => ?_)
      refine lv_goto (tgt := 11) hC.1 hC.2.1 dX7_tellShades_39 (by decide) ?_
      exact ih hF hw (lv_sub hl [1, 2, 0] rfl)
def F_X7_tellShades (fu : Nat) (M : Mm) (x1 : Int32) : Option Mm :=
  ob1 (F_X7_layRow fu M x1 (M.1 86 4)) (fun M2 =>
  F_X7_tellShades_11 fu fu M2 x1 (0 : Int32))
set_option maxRecDepth 100000 in
set_option maxHeartbeats 4000000 in
theorem c_X7_tellShades {l : Launch} {G : Gv} {fu : Nat} {M : Mm} {x1 : Int32} {M' : Mm} (hF : F_X7_tellShades fu M x1 = some M') : Met l yX7_tellShades (.code yX7_tellShades cX7_tellShades 3 none :: zU) rm_X7_tellShades (va_Pc [.ref (ad G 86), .int x1] (Wd G M)) (QV G M') 0 0 (zA G) := by
  refine zMet (by decide) rfl (Nat.le_of_ble_eq_true rfl) ?_
  intro p e s m below meth c hC hw ls hl
  have hl : lv_has ls 3 [(0, .ref (ad G 86)), (1, .int x1)] := hl
  unfold F_X7_tellShades at hF
  refine lv_aload_n hC.1 hC.2.1 dX7_tellShades_0 rfl (lv_at hl 0 rfl) ?_
  refine lv_iload_n hC.1 hC.2.1 dX7_tellShades_1 rfl (lv_at hl 1 rfl) ?_
  refine lv_aload_n hC.1 hC.2.1 dX7_tellShades_2 rfl (lv_at hl 0 rfl) ?_
  refine g7_men hC hw q4_126 dX7_tellShades_3 ?_
  obtain ⟨M2, h1, hF⟩ := ob1S hF
  refine k_Vv (As := [.int x1, .int (M.1 86 4)]) (rest := []) hC hw (c_X7_layRow (M := M) h1) RC_X yv_X7_layRow q5_10 ⟨rfl, rfl⟩ ⟨Nat.le_of_ble_eq_true rfl, Nat.le_of_ble_eq_true rfl⟩ ⟨Nat.zero_le _, Nat.zero_le _⟩ rfl rfl (Nat.le_of_ble_eq_true rfl) hl dX7_tellShades_6 (fun H locs hw => ?_)
  refine lv_iconst (v := (0 : Int32)) hC.1 hC.2.1 dX7_tellShades_9 (by decide) ?_
  refine lv_istore_n (lv' := [(2, .int (0 : Int32)), (0, .ref (ad G 86)), (1, .int x1)]) hC.1 hC.2.1 dX7_tellShades_10 rfl hl (by decide) rfl (fun ls hl => ?_)
  exact w_X7_tellShades_11 hC _ hF hw (lv_sub hl [1, 2, 0] rfl)
abbrev rm_X7_areMen : Room := { frames := 1, cells := 0, slots := 0, locals := 25 }
theorem yv_X7_areMen : YV yX7_areMen cX7_areMen 2 (some .boolean) 1 RX7 := ⟨⟨q6_7, qs_57, q1_8, q6_8⟩, by decide +kernel⟩
theorem dX7_areMen_0 : decode cX7_areMen 0 = .ok (.iload_n 1, 1) := by decide +kernel
theorem dX7_areMen_1 : decode cX7_areMen 1 = .ok (.i2l, 1) := by decide +kernel
theorem dX7_areMen_2 : decode cX7_areMen 2 = .ok (.lconst 0, 1) := by decide +kernel
theorem dX7_areMen_3 : decode cX7_areMen 3 = .ok (.iconst 1, 1) := by decide +kernel
theorem dX7_areMen_4 : decode cX7_areMen 4 = .ok (.aload_n 0, 1) := by decide +kernel
theorem dX7_areMen_5 : decode cX7_areMen 5 = .ok (.getfield 101, 3) := by decide +kernel
theorem dX7_areMen_8 : decode cX7_areMen 8 = .ok (.ishl, 1) := by decide +kernel
theorem dX7_areMen_9 : decode cX7_areMen 9 = .ok (.iconst 1, 1) := by decide +kernel
theorem dX7_areMen_10 : decode cX7_areMen 10 = .ok (.isub, 1) := by decide +kernel
theorem dX7_areMen_11 : decode cX7_areMen 11 = .ok (.i2l, 1) := by decide +kernel
theorem dX7_areMen_12 : decode cX7_areMen 12 = .ok (.invokestatic 104, 3) := by decide +kernel
theorem dX7_areMen_15 : decode cX7_areMen 15 = .ok (.ireturn, 1) := by decide +kernel
def F_X7_areMen (fu : Nat) (M : Mm) (x1 : Int32) : Option Int32 :=
  ob1 (F_X7_in fu M x1.toInt64 (0 : Int64) (((1 : Int32) <<< ((M.1 86 4) &&& 31)) - (1 : Int32)).toInt64) (fun r2 =>
  if ¬ (r2 = 0 ∨ r2 = 1) then none else (
  some r2))
set_option maxRecDepth 100000 in
set_option maxHeartbeats 4000000 in
theorem c_X7_areMen {l : Launch} {G : Gv} {fu : Nat} {M : Mm} {x1 : Int32} {r : Int32} (hF : F_X7_areMen fu M x1 = some r) : Met l yX7_areMen (.code yX7_areMen cX7_areMen 2 (some .boolean) :: zU) rm_X7_areMen (va_Pc [.ref (ad G 86), .int x1] (Wd G M)) (QI G r M) 0 0 (zA G) := by
  refine zMet (by decide) rfl (Nat.le_of_ble_eq_true rfl) ?_
  intro p e s m below meth c hC hw ls hl
  have hl : lv_has ls 2 [(0, .ref (ad G 86)), (1, .int x1)] := hl
  unfold F_X7_areMen at hF
  refine lv_iload_n hC.1 hC.2.1 dX7_areMen_0 rfl (lv_at hl 1 rfl) ?_
  refine lv_i2l hC.1 hC.2.1 dX7_areMen_1 rfl ?_
  refine lv_lconst (v := (0 : Int64)) hC.1 hC.2.1 dX7_areMen_2 (by decide) ?_
  refine lv_iconst (v := (1 : Int32)) hC.1 hC.2.1 dX7_areMen_3 (by decide) ?_
  refine lv_aload_n hC.1 hC.2.1 dX7_areMen_4 rfl (lv_at hl 0 rfl) ?_
  refine g7_men hC hw q4_126 dX7_areMen_5 ?_
  refine lv_ishl hC.1 hC.2.1 dX7_areMen_8 ?_
  refine lv_iconst (v := (1 : Int32)) hC.1 hC.2.1 dX7_areMen_9 (by decide) ?_
  refine lv_isub hC.1 hC.2.1 dX7_areMen_10 ?_
  refine lv_i2l hC.1 hC.2.1 dX7_areMen_11 rfl ?_
  obtain ⟨r2, h1, hF⟩ := ob1S hF
  refine k_Si (As := [.long x1.toInt64, .long (0 : Int64), .long (((1 : Int32) <<< ((M.1 86 4) &&& 31)) - (1 : Int32)).toInt64]) (rest := []) hC hw (c_X7_in (M := M) h1) ys_X7_in q5_3 ⟨rfl, rfl⟩ ⟨Nat.le_of_ble_eq_true rfl, Nat.le_of_ble_eq_true rfl⟩ ⟨Nat.zero_le _, Nat.zero_le _⟩ rfl rfl (Nat.le_of_ble_eq_true rfl) hl dX7_areMen_12 (fun H locs hw => ?_)
  obtain ⟨z3, hF⟩ := ifO hF
  exact r_zretP hC hw (Decidable.not_not.mp z3) hF dX7_areMen_15
abbrev rm_X7_guard : Room := { frames := 3, cells := 0, slots := 0, locals := 71 }
theorem yv_X7_guard : YV yX7_guard cX7_guard 7 (some .int) 3 RX7 := ⟨⟨q6_2, q6_3, q1_8, q6_4⟩, by decide +kernel⟩
theorem dX7_guard_0 : decode cX7_guard 0 = .ok (.aload_n 0, 1) := by decide +kernel
theorem dX7_guard_1 : decode cX7_guard 1 = .ok (.iload_n 1, 1) := by decide +kernel
theorem dX7_guard_2 : decode cX7_guard 2 = .ok (.invokevirtual 248, 3) := by decide +kernel
theorem dX7_guard_5 : decode cX7_guard 5 = .ok (.ifCond .eq 17, 3) := by decide +kernel
theorem dX7_guard_8 : decode cX7_guard 8 = .ok (.iload_n 2, 1) := by decide +kernel
theorem dX7_guard_9 : decode cX7_guard 9 = .ok (.invokestatic 241, 3) := by decide +kernel
theorem dX7_guard_12 : decode cX7_guard 12 = .ok (.ifCond .eq 10, 3) := by decide +kernel
theorem dX7_guard_15 : decode cX7_guard 15 = .ok (.iload_n 3, 1) := by decide +kernel
theorem dX7_guard_16 : decode cX7_guard 16 = .ok (.invokestatic 114, 3) := by decide +kernel
theorem dX7_guard_19 : decode cX7_guard 19 = .ok (.ifCond .ne 5, 3) := by decide +kernel
theorem dX7_guard_22 : decode cX7_guard 22 = .ok (.iconst (-1), 1) := by decide +kernel
theorem dX7_guard_23 : decode cX7_guard 23 = .ok (.ireturn, 1) := by decide +kernel
theorem dX7_guard_24 : decode cX7_guard 24 = .ok (.aload_n 0, 1) := by decide +kernel
theorem dX7_guard_25 : decode cX7_guard 25 = .ok (.getfield 101, 3) := by decide +kernel
theorem dX7_guard_28 : decode cX7_guard 28 = .ok (.ifCond .ne 6, 3) := by decide +kernel
theorem dX7_guard_31 : decode cX7_guard 31 = .ok (.bipush (-4), 2) := by decide +kernel
theorem dX7_guard_33 : decode cX7_guard 33 = .ok (.ireturn, 1) := by decide +kernel
theorem dX7_guard_34 : decode cX7_guard 34 = .ok (.iconst 0, 1) := by decide +kernel
theorem dX7_guard_35 : decode cX7_guard 35 = .ok (.istore 4, 2) := by decide +kernel
theorem dX7_guard_37 : decode cX7_guard 37 = .ok (.iconst 0, 1) := by decide +kernel
theorem dX7_guard_38 : decode cX7_guard 38 = .ok (.istore 5, 2) := by decide +kernel
theorem dX7_guard_40 : decode cX7_guard 40 = .ok (.iload 5, 2) := by decide +kernel
theorem dX7_guard_42 : decode cX7_guard 42 = .ok (.aload_n 0, 1) := by decide +kernel
theorem dX7_guard_43 : decode cX7_guard 43 = .ok (.getfield 101, 3) := by decide +kernel
theorem dX7_guard_46 : decode cX7_guard 46 = .ok (.if_icmp .ge 99, 3) := by decide +kernel
theorem dX7_guard_49 : decode cX7_guard 49 = .ok (.aload_n 0, 1) := by decide +kernel
theorem dX7_guard_50 : decode cX7_guard 50 = .ok (.getfield 34, 3) := by decide +kernel
theorem dX7_guard_53 : decode cX7_guard 53 = .ok (.iload 5, 2) := by decide +kernel
theorem dX7_guard_55 : decode cX7_guard 55 = .ok (.iaload, 1) := by decide +kernel
theorem dX7_guard_56 : decode cX7_guard 56 = .ok (.istore 6, 2) := by decide +kernel
theorem dX7_guard_58 : decode cX7_guard 58 = .ok (.iload_n 1, 1) := by decide +kernel
theorem dX7_guard_59 : decode cX7_guard 59 = .ok (.iload 5, 2) := by decide +kernel
theorem dX7_guard_61 : decode cX7_guard 61 = .ok (.ishr, 1) := by decide +kernel
theorem dX7_guard_62 : decode cX7_guard 62 = .ok (.iconst 1, 1) := by decide +kernel
theorem dX7_guard_63 : decode cX7_guard 63 = .ok (.iand, 1) := by decide +kernel
theorem dX7_guard_64 : decode cX7_guard 64 = .ok (.iconst 1, 1) := by decide +kernel
theorem dX7_guard_65 : decode cX7_guard 65 = .ok (.if_icmp .ne 40, 3) := by decide +kernel
theorem dX7_guard_68 : decode cX7_guard 68 = .ok (.iload 6, 2) := by decide +kernel
theorem dX7_guard_70 : decode cX7_guard 70 = .ok (.bipush 10, 2) := by decide +kernel
theorem dX7_guard_72 : decode cX7_guard 72 = .ok (.if_icmp .ge 33, 3) := by decide +kernel
theorem dX7_guard_75 : decode cX7_guard 75 = .ok (.aload_n 0, 1) := by decide +kernel
theorem dX7_guard_76 : decode cX7_guard 76 = .ok (.aload_n 0, 1) := by decide +kernel
theorem dX7_guard_77 : decode cX7_guard 77 = .ok (.getfield 22, 3) := by decide +kernel
theorem dX7_guard_80 : decode cX7_guard 80 = .ok (.iload 5, 2) := by decide +kernel
theorem dX7_guard_82 : decode cX7_guard 82 = .ok (.iaload, 1) := by decide +kernel
theorem dX7_guard_83 : decode cX7_guard 83 = .ok (.aload_n 0, 1) := by decide +kernel
theorem dX7_guard_84 : decode cX7_guard 84 = .ok (.getfield 31, 3) := by decide +kernel
theorem dX7_guard_87 : decode cX7_guard 87 = .ok (.iload 5, 2) := by decide +kernel
theorem dX7_guard_89 : decode cX7_guard 89 = .ok (.iaload, 1) := by decide +kernel
theorem dX7_guard_90 : decode cX7_guard 90 = .ok (.iload 6, 2) := by decide +kernel
theorem dX7_guard_92 : decode cX7_guard 92 = .ok (.iload_n 2, 1) := by decide +kernel
theorem dX7_guard_93 : decode cX7_guard 93 = .ok (.invokevirtual 180, 3) := by decide +kernel
theorem dX7_guard_96 : decode cX7_guard 96 = .ok (.ifCond .ne 9, 3) := by decide +kernel
theorem dX7_guard_99 : decode cX7_guard 99 = .ok (.iinc 6 1, 3) := by decide +kernel
theorem dX7_guard_102 : decode cX7_guard 102 = .ok (.goto (-44), 3) := by decide +kernel
theorem dX7_guard_105 : decode cX7_guard 105 = .ok (.iload 6, 2) := by decide +kernel
theorem dX7_guard_107 : decode cX7_guard 107 = .ok (.bipush 10, 2) := by decide +kernel
theorem dX7_guard_109 : decode cX7_guard 109 = .ok (.if_icmp .ne 6, 3) := by decide +kernel
theorem dX7_guard_112 : decode cX7_guard 112 = .ok (.bipush (-9), 2) := by decide +kernel
theorem dX7_guard_114 : decode cX7_guard 114 = .ok (.ireturn, 1) := by decide +kernel
theorem dX7_guard_115 : decode cX7_guard 115 = .ok (.aload_n 0, 1) := by decide +kernel
theorem dX7_guard_116 : decode cX7_guard 116 = .ok (.getfield 72, 3) := by decide +kernel
theorem dX7_guard_119 : decode cX7_guard 119 = .ok (.iload 5, 2) := by decide +kernel
theorem dX7_guard_121 : decode cX7_guard 121 = .ok (.iload 6, 2) := by decide +kernel
theorem dX7_guard_123 : decode cX7_guard 123 = .ok (.iastore, 1) := by decide +kernel
theorem dX7_guard_124 : decode cX7_guard 124 = .ok (.iload 4, 2) := by decide +kernel
theorem dX7_guard_126 : decode cX7_guard 126 = .ok (.iload 6, 2) := by decide +kernel
theorem dX7_guard_128 : decode cX7_guard 128 = .ok (.aload_n 0, 1) := by decide +kernel
theorem dX7_guard_129 : decode cX7_guard 129 = .ok (.getfield 34, 3) := by decide +kernel
theorem dX7_guard_132 : decode cX7_guard 132 = .ok (.iload 5, 2) := by decide +kernel
theorem dX7_guard_134 : decode cX7_guard 134 = .ok (.iaload, 1) := by decide +kernel
theorem dX7_guard_135 : decode cX7_guard 135 = .ok (.isub, 1) := by decide +kernel
theorem dX7_guard_136 : decode cX7_guard 136 = .ok (.iadd, 1) := by decide +kernel
theorem dX7_guard_137 : decode cX7_guard 137 = .ok (.istore 4, 2) := by decide +kernel
theorem dX7_guard_139 : decode cX7_guard 139 = .ok (.iinc 5 1, 3) := by decide +kernel
theorem dX7_guard_142 : decode cX7_guard 142 = .ok (.goto (-102), 3) := by decide +kernel
theorem dX7_guard_145 : decode cX7_guard 145 = .ok (.aload_n 0, 1) := by decide +kernel
theorem dX7_guard_146 : decode cX7_guard 146 = .ok (.iload_n 3, 1) := by decide +kernel
theorem dX7_guard_147 : decode cX7_guard 147 = .ok (.invokevirtual 251, 3) := by decide +kernel
theorem dX7_guard_150 : decode cX7_guard 150 = .ok (.iload 4, 2) := by decide +kernel
theorem dX7_guard_152 : decode cX7_guard 152 = .ok (.ireturn, 1) := by decide +kernel
def F_X7_guard_105 (fu : Nat) (k40 : Mm → Int32 → Int32 → Int32 → Int32 → Int32 → Option (Int32 × Mm)) (M : Mm) (x1 : Int32) (x2 : Int32) (x3 : Int32) (x4 : Int32) (x5 : Int32) (x6 : Int32) : Option (Int32 × Mm) :=
  if x6 = (10 : Int32) then
    some ((-9 : Int32), M)
  else
    if x5 < 0 ∨ ln 106 ≤ x5.toNatClampNeg then none else (
    lt1 (pI M 106 x5.toNatClampNeg x6) (fun M3 =>
    if x5 < 0 ∨ ln 95 ≤ x5.toNatClampNeg then none else (
    k40 M3 x1 x2 x3 (x4 + (x6 - (M3.1 95 x5.toNatClampNeg))) (x5 + (1 : Int32)))))
set_option maxRecDepth 100000 in
set_option maxHeartbeats 4000000 in
theorem w_X7_guard_105 {p : Program} {l : Launch} {e : Env} {s : State} {m : MethodId} {args : Array Value} {below : List Frame} {meth : Method} {c : Code} {G : Gv} (hC : Cx p s m args meth c cX7_guard 7 (some .int) RX7) {fu : Nat} {r : Int32} {M' : Mm} {k40 : Mm → Int32 → Int32 → Int32 → Int32 → Int32 → Option (Int32 × Mm)} (hk_40 : ∀ {x1 : Int32} {x2 : Int32} {x3 : Int32} {x4 : Int32} {x5 : Int32} {M : Mm} {H : Heap} {locs : List Loc} {ls : Array Slot}, k40 M x1 x2 x3 x4 x5 = some (r, M') → St G s H locs M → lv_has ls 7 [(0, .ref (ad G 86)), (1, .int x1), (2, .int x2), (3, .int x3), (4, .int x4), (5, .int x5)] → W p l e rm_X7_guard s m args below meth c H locs 0 0 (MQ below (QI G r M') args s 0 0 (zA G)) (F0 m 40 ls [])) {x1 : Int32} {x2 : Int32} {x3 : Int32} {x4 : Int32} {x5 : Int32} {x6 : Int32} {M : Mm} {H : Heap} {locs : List Loc} {ls : Array Slot} (hF : F_X7_guard_105 fu k40 M x1 x2 x3 x4 x5 x6 = some (r, M')) (hw : St G s H locs M) (hl : lv_has ls 7 [(0, .ref (ad G 86)), (1, .int x1), (2, .int x2), (3, .int x3), (4, .int x4), (5, .int x5), (6, .int x6)]) : W p l e rm_X7_guard s m args below meth c H locs 0 0 (MQ below (QI G r M') args s 0 0 (zA G)) (F0 m 105 ls []) := by
  unfold F_X7_guard_105 at hF
  refine lv_iload hC.1 hC.2.1 dX7_guard_105 (lv_at hl 6 rfl) ?_
  refine lv_bipush (v := (10 : Int32)) hC.1 hC.2.1 dX7_guard_107 (by decide) ?_
  refine lv_icmp_ne (tgt := 115) hC.1 hC.2.1 dX7_guard_109 (by decide) (fun b1 => ?_) (fun b1 => ?_)
  · have hF := ifN hF b1
    refine lv_aload_n hC.1 hC.2.1 dX7_guard_115 rfl (lv_at hl 0 rfl) ?_
    refine g7_shadesThen hC hw q4_152 dX7_guard_116 ?_
    refine lv_iload hC.1 hC.2.1 dX7_guard_119 (lv_at hl 5 rfl) ?_
    refine lv_iload hC.1 hC.2.1 dX7_guard_121 (lv_at hl 6 rfl) ?_
    obtain ⟨n2, hF⟩ := ifO hF
    refine r_iast hC.1 hC.2.1 hw (rfl : kd 106 = 1) n2 dX7_guard_123 (fun H locs hw => ?_)
    obtain ⟨M3, hw, hF⟩ := lt1W hF hw
    refine lv_iload hC.1 hC.2.1 dX7_guard_124 (lv_at hl 4 rfl) ?_
    refine lv_iload hC.1 hC.2.1 dX7_guard_126 (lv_at hl 6 rfl) ?_
    refine lv_aload_n hC.1 hC.2.1 dX7_guard_128 rfl (lv_at hl 0 rfl) ?_
    refine g7_shades hC hw q4_131 dX7_guard_129 ?_
    refine lv_iload hC.1 hC.2.1 dX7_guard_132 (lv_at hl 5 rfl) ?_
    obtain ⟨n4, hF⟩ := ifO hF
    refine r_iald hC.1 hC.2.1 hw (rfl : kd 95 = 1) n4 dX7_guard_134 ?_
    refine lv_isub hC.1 hC.2.1 dX7_guard_135 ?_
    refine lv_iadd hC.1 hC.2.1 dX7_guard_136 ?_
    refine lv_istore (lv' := [(4, .int (x4 + (x6 - (M3.1 95 x5.toNatClampNeg)))), (0, .ref (ad G 86)), (1, .int x1), (2, .int x2), (3, .int x3), (5, .int x5), (6, .int x6)]) hC.1 hC.2.1 dX7_guard_137 hl (by decide) rfl (fun ls hl => ?_)
    refine lv_iinc (v := (x5 + (1 : Int32))) (lv' := [(5, .int (x5 + (1 : Int32))), (4, .int (x4 + (x6 - (M3.1 95 x5.toNatClampNeg)))), (0, .ref (ad G 86)), (1, .int x1), (2, .int x2), (3, .int x3), (6, .int x6)]) hC.1 hC.2.1 dX7_guard_139 hl (k := 5) rfl rfl (by decide) rfl (fun ls hl => ?_)
    refine lv_goto (tgt := 40) hC.1 hC.2.1 dX7_guard_142 (by decide) ?_
    exact hk_40 hF hw (lv_sub hl [2, 3, 4, 5, 1, 0] rfl)
  · have hF := ifP hF b1
    refine lv_bipush (v := (-9 : Int32)) hC.1 hC.2.1 dX7_guard_112 (by decide) ?_
    exact r_iretE hC hw hF dX7_guard_114
def F_X7_guard_58 (fu : Nat) (k40 : Mm → Int32 → Int32 → Int32 → Int32 → Int32 → Option (Int32 × Mm)) : Nat → Mm → Int32 → Int32 → Int32 → Int32 → Int32 → Int32 → Option (Int32 × Mm)
  | 0, _, _, _, _, _, _, _ => none
  | n + 1, M, x1, x2, x3, x4, x5, x6 =>
    if ((x1 >>> (x5 &&& 31)) &&& (1 : Int32)) = (1 : Int32) then
      if (10 : Int32) ≤ x6 then
        F_X7_guard_105 fu k40 M x1 x2 x3 x4 x5 x6
      else
        if x5 < 0 ∨ ln 91 ≤ x5.toNatClampNeg then none else (
        if x5 < 0 ∨ ln 94 ≤ x5.toNatClampNeg then none else (
        ob1 (F_X7_bulkAfter fu M (M.1 91 x5.toNatClampNeg) (M.1 94 x5.toNatClampNeg) x6 x2) (fun r6 =>
        if r6 = 0 then
          F_X7_guard_58 fu k40 n M x1 x2 x3 x4 x5 (x6 + (1 : Int32))
        else
          F_X7_guard_105 fu k40 M x1 x2 x3 x4 x5 x6)))
    else
      F_X7_guard_105 fu k40 M x1 x2 x3 x4 x5 x6
set_option maxRecDepth 100000 in
set_option maxHeartbeats 4000000 in
theorem w_X7_guard_58 {p : Program} {l : Launch} {e : Env} {s : State} {m : MethodId} {args : Array Value} {below : List Frame} {meth : Method} {c : Code} {G : Gv} (hC : Cx p s m args meth c cX7_guard 7 (some .int) RX7) {fu : Nat} {r : Int32} {M' : Mm} {k40 : Mm → Int32 → Int32 → Int32 → Int32 → Int32 → Option (Int32 × Mm)} (hk_40 : ∀ {x1 : Int32} {x2 : Int32} {x3 : Int32} {x4 : Int32} {x5 : Int32} {M : Mm} {H : Heap} {locs : List Loc} {ls : Array Slot}, k40 M x1 x2 x3 x4 x5 = some (r, M') → St G s H locs M → lv_has ls 7 [(0, .ref (ad G 86)), (1, .int x1), (2, .int x2), (3, .int x3), (4, .int x4), (5, .int x5)] → W p l e rm_X7_guard s m args below meth c H locs 0 0 (MQ below (QI G r M') args s 0 0 (zA G)) (F0 m 40 ls [])) : ∀ (n : Nat) {x1 : Int32} {x2 : Int32} {x3 : Int32} {x4 : Int32} {x5 : Int32} {x6 : Int32} {M : Mm} {H : Heap} {locs : List Loc} {ls : Array Slot}, F_X7_guard_58 fu k40 n M x1 x2 x3 x4 x5 x6 = some (r, M') → St G s H locs M → lv_has ls 7 [(0, .ref (ad G 86)), (1, .int x1), (2, .int x2), (3, .int x3), (4, .int x4), (5, .int x5), (6, .int x6)] → W p l e rm_X7_guard s m args below meth c H locs 0 0 (MQ below (QI G r M') args s 0 0 (zA G)) (F0 m 58 ls []) := by
  intro n
  induction n with
  | zero =>
    intro x1 x2 x3 x4 x5 x6 M H locs ls hF hw hl
    cases hF
  | succ n ih =>
    intro x1 x2 x3 x4 x5 x6 M H locs ls hF hw hl
    unfold F_X7_guard_58 at hF
    refine lv_iload_n hC.1 hC.2.1 dX7_guard_58 rfl (lv_at hl 1 rfl) ?_
    refine lv_iload hC.1 hC.2.1 dX7_guard_59 (lv_at hl 5 rfl) ?_
    refine lv_ishr hC.1 hC.2.1 dX7_guard_61 ?_
    refine lv_iconst (v := (1 : Int32)) hC.1 hC.2.1 dX7_guard_62 (by decide) ?_
    refine lv_iand hC.1 hC.2.1 dX7_guard_63 ?_
    refine lv_iconst (v := (1 : Int32)) hC.1 hC.2.1 dX7_guard_64 (by decide) ?_
    refine lv_icmp_ne (tgt := 105) hC.1 hC.2.1 dX7_guard_65 (by decide) (fun b1 => ?_) (fun b1 => ?_)
    · have hF := ifN hF b1
      exact w_X7_guard_105 hC (hk_40 := hk_40) hF hw (lv_sub hl [0, 1, 2, 3, 4, 5, 6] rfl)
    · have hF := ifP hF b1
      refine lv_iload hC.1 hC.2.1 dX7_guard_68 (lv_at hl 6 rfl) ?_
      refine lv_bipush (v := (10 : Int32)) hC.1 hC.2.1 dX7_guard_70 (by decide) ?_
      refine lv_icmp_ge (tgt := 105) hC.1 hC.2.1 dX7_guard_72 (by decide) (fun b2 => ?_) (fun b2 => ?_)
      · have hF := ifP hF b2
        exact w_X7_guard_105 hC (hk_40 := hk_40) hF hw (lv_sub hl [0, 1, 2, 3, 4, 5, 6] rfl)
      · have hF := ifN hF b2
        refine lv_aload_n hC.1 hC.2.1 dX7_guard_75 rfl (lv_at hl 0 rfl) ?_
        refine lv_aload_n hC.1 hC.2.1 dX7_guard_76 rfl (lv_at hl 0 rfl) ?_
        refine g7_kindIs hC hw q4_127 dX7_guard_77 ?_
        refine lv_iload hC.1 hC.2.1 dX7_guard_80 (lv_at hl 5 rfl) ?_
        obtain ⟨n3, hF⟩ := ifO hF
        refine r_iald hC.1 hC.2.1 hw (rfl : kd 91 = 1) n3 dX7_guard_82 ?_
        refine lv_aload_n hC.1 hC.2.1 dX7_guard_83 rfl (lv_at hl 0 rfl) ?_
        refine g7_bulks hC hw q4_130 dX7_guard_84 ?_
        refine lv_iload hC.1 hC.2.1 dX7_guard_87 (lv_at hl 5 rfl) ?_
        obtain ⟨n4, hF⟩ := ifO hF
        refine r_iald hC.1 hC.2.1 hw (rfl : kd 94 = 1) n4 dX7_guard_89 ?_
        refine lv_iload hC.1 hC.2.1 dX7_guard_90 (lv_at hl 6 rfl) ?_
        refine lv_iload_n hC.1 hC.2.1 dX7_guard_92 rfl (lv_at hl 2 rfl) ?_
        obtain ⟨r6, h5, hF⟩ := ob1S hF
        refine k_Vi (As := [.int (M.1 91 x5.toNatClampNeg), .int (M.1 94 x5.toNatClampNeg), .int x6, .int x2]) (rest := []) hC hw (c_X7_bulkAfter (M := M) h5) RC_X yv_X7_bulkAfter q5_105 ⟨rfl, rfl⟩ ⟨Nat.le_of_ble_eq_true rfl, Nat.le_of_ble_eq_true rfl⟩ ⟨Nat.zero_le _, Nat.zero_le _⟩ rfl rfl (Nat.le_of_ble_eq_true rfl) hl dX7_guard_93 (fun H locs hw => ?_)
        refine lv_if_ne (tgt := 105) hC.1 hC.2.1 dX7_guard_96 (by decide) (fun b7 => ?_) (fun b7 => ?_)
        · have hF := ifN hF b7
          exact w_X7_guard_105 hC (hk_40 := hk_40) hF hw (lv_sub hl [0, 1, 2, 3, 4, 5, 6] rfl)
        · have hF := ifP hF b7
          refine lv_iinc (v := (x6 + (1 : Int32))) (lv' := [(6, .int (x6 + (1 : Int32))), (0, .ref (ad G 86)), (1, .int x1), (2, .int x2), (3, .int x3), (4, .int x4), (5, .int x5)]) hC.1 hC.2.1 dX7_guard_99 hl (k := 6) rfl rfl (by decide) rfl (fun ls hl => ?_)
          refine lv_goto (tgt := 58) hC.1 hC.2.1 dX7_guard_102 (by decide) ?_
          exact ih hF hw (lv_sub hl [1, 2, 3, 4, 5, 6, 0] rfl)
def F_X7_guard_40 (fu : Nat) : Nat → Mm → Int32 → Int32 → Int32 → Int32 → Int32 → Option (Int32 × Mm)
  | 0, _, _, _, _, _, _ => none
  | n + 1, M, x1, x2, x3, x4, x5 =>
    if (M.1 86 4) ≤ x5 then
      ob1 (F_X7_tellShades fu M x3) (fun M3 =>
      some (x4, M3))
    else
      if x5 < 0 ∨ ln 95 ≤ x5.toNatClampNeg then none else (
      F_X7_guard_58 fu (F_X7_guard_40 fu n) fu M x1 x2 x3 x4 x5 (M.1 95 x5.toNatClampNeg))
set_option maxRecDepth 100000 in
set_option maxHeartbeats 4000000 in
theorem w_X7_guard_40 {p : Program} {l : Launch} {e : Env} {s : State} {m : MethodId} {args : Array Value} {below : List Frame} {meth : Method} {c : Code} {G : Gv} (hC : Cx p s m args meth c cX7_guard 7 (some .int) RX7) {fu : Nat} {r : Int32} {M' : Mm} : ∀ (n : Nat) {x1 : Int32} {x2 : Int32} {x3 : Int32} {x4 : Int32} {x5 : Int32} {M : Mm} {H : Heap} {locs : List Loc} {ls : Array Slot}, F_X7_guard_40 fu n M x1 x2 x3 x4 x5 = some (r, M') → St G s H locs M → lv_has ls 7 [(0, .ref (ad G 86)), (1, .int x1), (2, .int x2), (3, .int x3), (4, .int x4), (5, .int x5)] → W p l e rm_X7_guard s m args below meth c H locs 0 0 (MQ below (QI G r M') args s 0 0 (zA G)) (F0 m 40 ls []) := by
  intro n
  induction n with
  | zero =>
    intro x1 x2 x3 x4 x5 M H locs ls hF hw hl
    cases hF
  | succ n ih =>
    intro x1 x2 x3 x4 x5 M H locs ls hF hw hl
    unfold F_X7_guard_40 at hF
    refine lv_iload hC.1 hC.2.1 dX7_guard_40 (lv_at hl 5 rfl) ?_
    refine lv_aload_n hC.1 hC.2.1 dX7_guard_42 rfl (lv_at hl 0 rfl) ?_
    refine g7_men hC hw q4_126 dX7_guard_43 ?_
    refine lv_icmp_ge (tgt := 145) hC.1 hC.2.1 dX7_guard_46 (by decide) (fun b1 => ?_) (fun b1 => ?_)
    · have hF := ifP hF b1
      refine lv_aload_n hC.1 hC.2.1 dX7_guard_145 rfl (lv_at hl 0 rfl) ?_
      refine lv_iload_n hC.1 hC.2.1 dX7_guard_146 rfl (lv_at hl 3 rfl) ?_
      obtain ⟨M3, h2, hF⟩ := ob1S hF
      refine k_Vv (As := [.int x3]) (rest := []) hC hw (c_X7_tellShades (M := M) h2) RC_X yv_X7_tellShades q6_9 ⟨rfl, rfl⟩ ⟨Nat.le_of_ble_eq_true rfl, Nat.le_of_ble_eq_true rfl⟩ ⟨Nat.zero_le _, Nat.zero_le _⟩ rfl rfl (Nat.le_of_ble_eq_true rfl) hl dX7_guard_147 (fun H locs hw => ?_)
      refine lv_iload hC.1 hC.2.1 dX7_guard_150 (lv_at hl 4 rfl) ?_
      exact r_iretE hC hw hF dX7_guard_152
    · have hF := ifN hF b1
      refine lv_aload_n hC.1 hC.2.1 dX7_guard_49 rfl (lv_at hl 0 rfl) ?_
      refine g7_shades hC hw q4_131 dX7_guard_50 ?_
      refine lv_iload hC.1 hC.2.1 dX7_guard_53 (lv_at hl 5 rfl) ?_
      obtain ⟨n4, hF⟩ := ifO hF
      refine r_iald hC.1 hC.2.1 hw (rfl : kd 95 = 1) n4 dX7_guard_55 ?_
      refine lv_istore (lv' := [(6, .int (M.1 95 x5.toNatClampNeg)), (0, .ref (ad G 86)), (1, .int x1), (2, .int x2), (3, .int x3), (4, .int x4), (5, .int x5)]) hC.1 hC.2.1 dX7_guard_56 hl (by decide) rfl (fun ls hl => ?_)
      exact w_X7_guard_58 hC (hk_40 := ih) _ hF hw (lv_sub hl [1, 2, 3, 4, 5, 6, 0] rfl)
def F_X7_guard (fu : Nat) (M : Mm) (x1 : Int32) (x2 : Int32) (x3 : Int32) : Option (Int32 × Mm) :=
  ob1 (F_X7_areMen fu M x1) (fun r2 =>
  if r2 = 0 then
    some ((-1 : Int32), M)
  else
    ob1 (F_X7_isAhead fu M x2) (fun r5 =>
    if r5 = 0 then
      some ((-1 : Int32), M)
    else
      ob1 (F_X7_isRow fu M x3) (fun r8 =>
      if r8 = 0 then
        some ((-1 : Int32), M)
      else
        if (M.1 86 4) = 0 then
          some ((-4 : Int32), M)
        else
          F_X7_guard_40 fu fu M x1 x2 x3 (0 : Int32) (0 : Int32))))
set_option maxRecDepth 100000 in
set_option maxHeartbeats 4000000 in
theorem c_X7_guard {l : Launch} {G : Gv} {fu : Nat} {M : Mm} {x1 : Int32} {x2 : Int32} {x3 : Int32} {r : Int32} {M' : Mm} (hF : F_X7_guard fu M x1 x2 x3 = some (r, M')) : Met l yX7_guard (.code yX7_guard cX7_guard 7 (some .int) :: zU) rm_X7_guard (va_Pc [.ref (ad G 86), .int x1, .int x2, .int x3] (Wd G M)) (QI G r M') 0 0 (zA G) := by
  refine zMet (by decide) rfl (Nat.le_of_ble_eq_true rfl) ?_
  intro p e s m below meth c hC hw ls hl
  have hl : lv_has ls 7 [(0, .ref (ad G 86)), (1, .int x1), (2, .int x2), (3, .int x3)] := hl
  unfold F_X7_guard at hF
  refine lv_aload_n hC.1 hC.2.1 dX7_guard_0 rfl (lv_at hl 0 rfl) ?_
  refine lv_iload_n hC.1 hC.2.1 dX7_guard_1 rfl (lv_at hl 1 rfl) ?_
  obtain ⟨r2, h1, hF⟩ := ob1S hF
  refine k_Vi (As := [.int x1]) (rest := []) hC hw (c_X7_areMen (M := M) h1) RC_X yv_X7_areMen q6_5 ⟨rfl, rfl⟩ ⟨Nat.le_of_ble_eq_true rfl, Nat.le_of_ble_eq_true rfl⟩ ⟨Nat.zero_le _, Nat.zero_le _⟩ rfl rfl (Nat.le_of_ble_eq_true rfl) hl dX7_guard_2 (fun H locs hw => ?_)
  refine lv_if_eq (tgt := 22) hC.1 hC.2.1 dX7_guard_5 (by decide) (fun b3 => ?_) (fun b3 => ?_)
  · have hF := ifP hF b3
    refine lv_iconst (v := (-1 : Int32)) hC.1 hC.2.1 dX7_guard_22 (by decide) ?_
    exact r_iretE hC hw hF dX7_guard_23
  · have hF := ifN hF b3
    refine lv_iload_n hC.1 hC.2.1 dX7_guard_8 rfl (lv_at hl 2 rfl) ?_
    obtain ⟨r5, h4, hF⟩ := ob1S hF
    refine k_Si (As := [.int x2]) (rest := []) hC hw (c_X7_isAhead (M := M) h4) ys_X7_isAhead q5_204 ⟨rfl, rfl⟩ ⟨Nat.le_of_ble_eq_true rfl, Nat.le_of_ble_eq_true rfl⟩ ⟨Nat.zero_le _, Nat.zero_le _⟩ rfl rfl (Nat.le_of_ble_eq_true rfl) hl dX7_guard_9 (fun H locs hw => ?_)
    refine lv_if_eq (tgt := 22) hC.1 hC.2.1 dX7_guard_12 (by decide) (fun b6 => ?_) (fun b6 => ?_)
    · have hF := ifP hF b6
      refine lv_iconst (v := (-1 : Int32)) hC.1 hC.2.1 dX7_guard_22 (by decide) ?_
      exact r_iretE hC hw hF dX7_guard_23
    · have hF := ifN hF b6
      refine lv_iload_n hC.1 hC.2.1 dX7_guard_15 rfl (lv_at hl 3 rfl) ?_
      obtain ⟨r8, h7, hF⟩ := ob1S hF
      refine k_Si (As := [.int x3]) (rest := []) hC hw (c_X7_isRow (M := M) h7) ys_X7_isRow q4_239 ⟨rfl, rfl⟩ ⟨Nat.le_of_ble_eq_true rfl, Nat.le_of_ble_eq_true rfl⟩ ⟨Nat.zero_le _, Nat.zero_le _⟩ rfl rfl (Nat.le_of_ble_eq_true rfl) hl dX7_guard_16 (fun H locs hw => ?_)
      refine lv_if_ne (tgt := 24) hC.1 hC.2.1 dX7_guard_19 (by decide) (fun b9 => ?_) (fun b9 => ?_)
      · have hF := ifN hF b9
        refine lv_aload_n hC.1 hC.2.1 dX7_guard_24 rfl (lv_at hl 0 rfl) ?_
        refine g7_men hC hw q4_126 dX7_guard_25 ?_
        refine lv_if_ne (tgt := 34) hC.1 hC.2.1 dX7_guard_28 (by decide) (fun b10 => ?_) (fun b10 => ?_)
        · have hF := ifN hF b10
          refine lv_iconst (v := (0 : Int32)) hC.1 hC.2.1 dX7_guard_34 (by decide) ?_
          refine lv_istore (lv' := [(4, .int (0 : Int32)), (0, .ref (ad G 86)), (1, .int x1), (2, .int x2), (3, .int x3)]) hC.1 hC.2.1 dX7_guard_35 hl (by decide) rfl (fun ls hl => ?_)
          refine lv_iconst (v := (0 : Int32)) hC.1 hC.2.1 dX7_guard_37 (by decide) ?_
          refine lv_istore (lv' := [(5, .int (0 : Int32)), (4, .int (0 : Int32)), (0, .ref (ad G 86)), (1, .int x1), (2, .int x2), (3, .int x3)]) hC.1 hC.2.1 dX7_guard_38 hl (by decide) rfl (fun ls hl => ?_)
          exact w_X7_guard_40 hC _ hF hw (lv_sub hl [2, 3, 4, 5, 1, 0] rfl)
        · have hF := ifP hF b10
          refine lv_bipush (v := (-4 : Int32)) hC.1 hC.2.1 dX7_guard_31 (by decide) ?_
          exact r_iretE hC hw hF dX7_guard_33
      · have hF := ifP hF b9
        refine lv_iconst (v := (-1 : Int32)) hC.1 hC.2.1 dX7_guard_22 (by decide) ?_
        exact r_iretE hC hw hF dX7_guard_23
abbrev rm_X7_apart : Room := { frames := 0, cells := 0, slots := 0, locals := 0 }
theorem ys_X7_apart : YS yX7_apart cX7_apart 2 (some .int) 2 := ⟨⟨q6_22, q1_8, q6_23⟩, by decide +kernel⟩
theorem dX7_apart_0 : decode cX7_apart 0 = .ok (.iload_n 0, 1) := by decide +kernel
theorem dX7_apart_1 : decode cX7_apart 1 = .ok (.iload_n 1, 1) := by decide +kernel
theorem dX7_apart_2 : decode cX7_apart 2 = .ok (.if_icmp .le 9, 3) := by decide +kernel
theorem dX7_apart_5 : decode cX7_apart 5 = .ok (.iload_n 0, 1) := by decide +kernel
theorem dX7_apart_6 : decode cX7_apart 6 = .ok (.iload_n 1, 1) := by decide +kernel
theorem dX7_apart_7 : decode cX7_apart 7 = .ok (.isub, 1) := by decide +kernel
theorem dX7_apart_8 : decode cX7_apart 8 = .ok (.goto 6, 3) := by decide +kernel
theorem dX7_apart_11 : decode cX7_apart 11 = .ok (.iload_n 1, 1) := by decide +kernel
theorem dX7_apart_12 : decode cX7_apart 12 = .ok (.iload_n 0, 1) := by decide +kernel
theorem dX7_apart_13 : decode cX7_apart 13 = .ok (.isub, 1) := by decide +kernel
theorem dX7_apart_14 : decode cX7_apart 14 = .ok (.ireturn, 1) := by decide +kernel
def F_X7_apart (fu : Nat) (M : Mm) (x0 : Int32) (x1 : Int32) : Option Int32 :=
  if x0 ≤ x1 then
    some (x1 - x0)
  else
    some (x0 - x1)
set_option maxRecDepth 100000 in
set_option maxHeartbeats 4000000 in
theorem c_X7_apart {l : Launch} {G : Gv} {fu : Nat} {M : Mm} {x0 : Int32} {x1 : Int32} {r : Int32} (hF : F_X7_apart fu M x0 x1 = some r) : Met l yX7_apart (.code yX7_apart cX7_apart 2 (some .int) :: zU) rm_X7_apart (va_Pc [.int x0, .int x1] (Wd G M)) (QI G r M) 0 0 (zA G) := by
  refine zMet (by decide) rfl (Nat.le_of_ble_eq_true rfl) ?_
  intro p e s m below meth c hC hw ls hl
  have hl : lv_has ls 2 [(0, .int x0), (1, .int x1)] := hl
  unfold F_X7_apart at hF
  refine lv_iload_n hC.1 hC.2.1 dX7_apart_0 rfl (lv_at hl 0 rfl) ?_
  refine lv_iload_n hC.1 hC.2.1 dX7_apart_1 rfl (lv_at hl 1 rfl) ?_
  refine lv_icmp_le (tgt := 11) hC.1 hC.2.1 dX7_apart_2 (by decide) (fun b1 => ?_) (fun b1 => ?_)
  · have hF := ifP hF b1
    refine lv_iload_n hC.1 hC.2.1 dX7_apart_11 rfl (lv_at hl 1 rfl) ?_
    refine lv_iload_n hC.1 hC.2.1 dX7_apart_12 rfl (lv_at hl 0 rfl) ?_
    refine lv_isub hC.1 hC.2.1 dX7_apart_13 ?_
    exact r_iretP hC hw hF dX7_apart_14
  · have hF := ifN hF b1
    refine lv_iload_n hC.1 hC.2.1 dX7_apart_5 rfl (lv_at hl 0 rfl) ?_
    refine lv_iload_n hC.1 hC.2.1 dX7_apart_6 rfl (lv_at hl 1 rfl) ?_
    refine lv_isub hC.1 hC.2.1 dX7_apart_7 ?_
    refine lv_goto (tgt := 14) hC.1 hC.2.1 dX7_apart_8 (by decide) ?_
    exact r_iretP hC hw hF dX7_apart_14
abbrev rm_X7_layShades : Room := { frames := 3, cells := 0, slots := 0, locals := 71 }
theorem yv_X7_layShades : YV yX7_layShades cX7_layShades 6 none 1 RX7 := ⟨⟨q6_19, qs_59, q1_8, q6_20⟩, by decide +kernel⟩
theorem dX7_layShades_0 : decode cX7_layShades 0 = .ok (.iconst 0, 1) := by decide +kernel
theorem dX7_layShades_1 : decode cX7_layShades 1 = .ok (.istore_n 2, 1) := by decide +kernel
theorem dX7_layShades_2 : decode cX7_layShades 2 = .ok (.iload_n 2, 1) := by decide +kernel
theorem dX7_layShades_3 : decode cX7_layShades 3 = .ok (.aload_n 0, 1) := by decide +kernel
theorem dX7_layShades_4 : decode cX7_layShades 4 = .ok (.getfield 101, 3) := by decide +kernel
theorem dX7_layShades_7 : decode cX7_layShades 7 = .ok (.if_icmp .ge 153, 3) := by decide +kernel
theorem dX7_layShades_10 : decode cX7_layShades 10 = .ok (.aload_n 0, 1) := by decide +kernel
theorem dX7_layShades_11 : decode cX7_layShades 11 = .ok (.getfield 75, 3) := by decide +kernel
theorem dX7_layShades_14 : decode cX7_layShades 14 = .ok (.iconst 2, 1) := by decide +kernel
theorem dX7_layShades_15 : decode cX7_layShades 15 = .ok (.iload_n 2, 1) := by decide +kernel
theorem dX7_layShades_16 : decode cX7_layShades 16 = .ok (.imul, 1) := by decide +kernel
theorem dX7_layShades_17 : decode cX7_layShades 17 = .ok (.bipush (-9), 2) := by decide +kernel
theorem dX7_layShades_19 : decode cX7_layShades 19 = .ok (.iastore, 1) := by decide +kernel
theorem dX7_layShades_20 : decode cX7_layShades 20 = .ok (.aload_n 0, 1) := by decide +kernel
theorem dX7_layShades_21 : decode cX7_layShades 21 = .ok (.getfield 75, 3) := by decide +kernel
theorem dX7_layShades_24 : decode cX7_layShades 24 = .ok (.iconst 2, 1) := by decide +kernel
theorem dX7_layShades_25 : decode cX7_layShades 25 = .ok (.iload_n 2, 1) := by decide +kernel
theorem dX7_layShades_26 : decode cX7_layShades 26 = .ok (.imul, 1) := by decide +kernel
theorem dX7_layShades_27 : decode cX7_layShades 27 = .ok (.iconst 1, 1) := by decide +kernel
theorem dX7_layShades_28 : decode cX7_layShades 28 = .ok (.iadd, 1) := by decide +kernel
theorem dX7_layShades_29 : decode cX7_layShades 29 = .ok (.bipush (-9), 2) := by decide +kernel
theorem dX7_layShades_31 : decode cX7_layShades 31 = .ok (.iastore, 1) := by decide +kernel
theorem dX7_layShades_32 : decode cX7_layShades 32 = .ok (.iconst 0, 1) := by decide +kernel
theorem dX7_layShades_33 : decode cX7_layShades 33 = .ok (.istore_n 3, 1) := by decide +kernel
theorem dX7_layShades_34 : decode cX7_layShades 34 = .ok (.iload_n 3, 1) := by decide +kernel
theorem dX7_layShades_35 : decode cX7_layShades 35 = .ok (.bipush 10, 2) := by decide +kernel
theorem dX7_layShades_37 : decode cX7_layShades 37 = .ok (.if_icmp .ge 117, 3) := by decide +kernel
theorem dX7_layShades_40 : decode cX7_layShades 40 = .ok (.iconst 2, 1) := by decide +kernel
theorem dX7_layShades_41 : decode cX7_layShades 41 = .ok (.iload_n 2, 1) := by decide +kernel
theorem dX7_layShades_42 : decode cX7_layShades 42 = .ok (.imul, 1) := by decide +kernel
theorem dX7_layShades_43 : decode cX7_layShades 43 = .ok (.aload_n 0, 1) := by decide +kernel
theorem dX7_layShades_44 : decode cX7_layShades 44 = .ok (.iload_n 2, 1) := by decide +kernel
theorem dX7_layShades_45 : decode cX7_layShades 45 = .ok (.aload_n 0, 1) := by decide +kernel
theorem dX7_layShades_46 : decode cX7_layShades 46 = .ok (.aload_n 0, 1) := by decide +kernel
theorem dX7_layShades_47 : decode cX7_layShades 47 = .ok (.getfield 22, 3) := by decide +kernel
theorem dX7_layShades_50 : decode cX7_layShades 50 = .ok (.iload_n 2, 1) := by decide +kernel
theorem dX7_layShades_51 : decode cX7_layShades 51 = .ok (.iaload, 1) := by decide +kernel
theorem dX7_layShades_52 : decode cX7_layShades 52 = .ok (.aload_n 0, 1) := by decide +kernel
theorem dX7_layShades_53 : decode cX7_layShades 53 = .ok (.getfield 31, 3) := by decide +kernel
theorem dX7_layShades_56 : decode cX7_layShades 56 = .ok (.iload_n 2, 1) := by decide +kernel
theorem dX7_layShades_57 : decode cX7_layShades 57 = .ok (.iaload, 1) := by decide +kernel
theorem dX7_layShades_58 : decode cX7_layShades 58 = .ok (.iload_n 3, 1) := by decide +kernel
theorem dX7_layShades_59 : decode cX7_layShades 59 = .ok (.iload_n 1, 1) := by decide +kernel
theorem dX7_layShades_60 : decode cX7_layShades 60 = .ok (.invokevirtual 180, 3) := by decide +kernel
theorem dX7_layShades_63 : decode cX7_layShades 63 = .ok (.invokevirtual 187, 3) := by decide +kernel
theorem dX7_layShades_66 : decode cX7_layShades 66 = .ok (.ifCond .eq 7, 3) := by decide +kernel
theorem dX7_layShades_69 : decode cX7_layShades 69 = .ok (.iconst 1, 1) := by decide +kernel
theorem dX7_layShades_70 : decode cX7_layShades 70 = .ok (.goto 4, 3) := by decide +kernel
theorem dX7_layShades_73 : decode cX7_layShades 73 = .ok (.iconst 0, 1) := by decide +kernel
theorem dX7_layShades_74 : decode cX7_layShades 74 = .ok (.iadd, 1) := by decide +kernel
theorem dX7_layShades_75 : decode cX7_layShades 75 = .ok (.istore 4, 2) := by decide +kernel
theorem dX7_layShades_77 : decode cX7_layShades 77 = .ok (.aload_n 0, 1) := by decide +kernel
theorem dX7_layShades_78 : decode cX7_layShades 78 = .ok (.getfield 75, 3) := by decide +kernel
theorem dX7_layShades_81 : decode cX7_layShades 81 = .ok (.iload 4, 2) := by decide +kernel
theorem dX7_layShades_83 : decode cX7_layShades 83 = .ok (.iaload, 1) := by decide +kernel
theorem dX7_layShades_84 : decode cX7_layShades 84 = .ok (.bipush (-9), 2) := by decide +kernel
theorem dX7_layShades_86 : decode cX7_layShades 86 = .ok (.if_icmp .eq 32, 3) := by decide +kernel
theorem dX7_layShades_89 : decode cX7_layShades 89 = .ok (.iload_n 3, 1) := by decide +kernel
theorem dX7_layShades_90 : decode cX7_layShades 90 = .ok (.aload_n 0, 1) := by decide +kernel
theorem dX7_layShades_91 : decode cX7_layShades 91 = .ok (.getfield 34, 3) := by decide +kernel
theorem dX7_layShades_94 : decode cX7_layShades 94 = .ok (.iload_n 2, 1) := by decide +kernel
theorem dX7_layShades_95 : decode cX7_layShades 95 = .ok (.iaload, 1) := by decide +kernel
theorem dX7_layShades_96 : decode cX7_layShades 96 = .ok (.invokestatic 254, 3) := by decide +kernel
theorem dX7_layShades_99 : decode cX7_layShades 99 = .ok (.aload_n 0, 1) := by decide +kernel
theorem dX7_layShades_100 : decode cX7_layShades 100 = .ok (.getfield 75, 3) := by decide +kernel
theorem dX7_layShades_103 : decode cX7_layShades 103 = .ok (.iload 4, 2) := by decide +kernel
theorem dX7_layShades_105 : decode cX7_layShades 105 = .ok (.iaload, 1) := by decide +kernel
theorem dX7_layShades_106 : decode cX7_layShades 106 = .ok (.aload_n 0, 1) := by decide +kernel
theorem dX7_layShades_107 : decode cX7_layShades 107 = .ok (.getfield 34, 3) := by decide +kernel
theorem dX7_layShades_110 : decode cX7_layShades 110 = .ok (.iload_n 2, 1) := by decide +kernel
theorem dX7_layShades_111 : decode cX7_layShades 111 = .ok (.iaload, 1) := by decide +kernel
theorem dX7_layShades_112 : decode cX7_layShades 112 = .ok (.invokestatic 254, 3) := by decide +kernel
theorem dX7_layShades_115 : decode cX7_layShades 115 = .ok (.if_icmp .ge 7, 3) := by decide +kernel
theorem dX7_layShades_118 : decode cX7_layShades 118 = .ok (.iconst 1, 1) := by decide +kernel
theorem dX7_layShades_119 : decode cX7_layShades 119 = .ok (.goto 4, 3) := by decide +kernel
theorem dX7_layShades_122 : decode cX7_layShades 122 = .ok (.iconst 0, 1) := by decide +kernel
theorem dX7_layShades_123 : decode cX7_layShades 123 = .ok (.istore 5, 2) := by decide +kernel
theorem dX7_layShades_125 : decode cX7_layShades 125 = .ok (.aload_n 0, 1) := by decide +kernel
theorem dX7_layShades_126 : decode cX7_layShades 126 = .ok (.getfield 75, 3) := by decide +kernel
theorem dX7_layShades_129 : decode cX7_layShades 129 = .ok (.iload 4, 2) := by decide +kernel
theorem dX7_layShades_131 : decode cX7_layShades 131 = .ok (.iload 5, 2) := by decide +kernel
theorem dX7_layShades_133 : decode cX7_layShades 133 = .ok (.ifCond .eq 7, 3) := by decide +kernel
theorem dX7_layShades_136 : decode cX7_layShades 136 = .ok (.iload_n 3, 1) := by decide +kernel
theorem dX7_layShades_137 : decode cX7_layShades 137 = .ok (.goto 10, 3) := by decide +kernel
theorem dX7_layShades_140 : decode cX7_layShades 140 = .ok (.aload_n 0, 1) := by decide +kernel
theorem dX7_layShades_141 : decode cX7_layShades 141 = .ok (.getfield 75, 3) := by decide +kernel
theorem dX7_layShades_144 : decode cX7_layShades 144 = .ok (.iload 4, 2) := by decide +kernel
theorem dX7_layShades_146 : decode cX7_layShades 146 = .ok (.iaload, 1) := by decide +kernel
theorem dX7_layShades_147 : decode cX7_layShades 147 = .ok (.iastore, 1) := by decide +kernel
theorem dX7_layShades_148 : decode cX7_layShades 148 = .ok (.iinc 3 1, 3) := by decide +kernel
theorem dX7_layShades_151 : decode cX7_layShades 151 = .ok (.goto (-117), 3) := by decide +kernel
theorem dX7_layShades_154 : decode cX7_layShades 154 = .ok (.iinc 2 1, 3) := by decide +kernel
theorem dX7_layShades_157 : decode cX7_layShades 157 = .ok (.goto (-155), 3) := by decide +kernel
theorem dX7_layShades_160 : decode cX7_layShades 160 = .ok (.return_, 1) := by decide +kernel
def F_X7_layShades_123 (fu : Nat) (k2 : Mm → Int32 → Int32 → Option Mm) (k34 : Mm → Int32 → Int32 → Int32 → Option Mm) (M : Mm) (x1 : Int32) (x2 : Int32) (x3 : Int32) (x4 : Int32) (t0 : Int32) : Option Mm :=
  if t0 = 0 then
    if x4 < 0 ∨ ln 107 ≤ x4.toNatClampNeg then none else (
    if x4 < 0 ∨ ln 107 ≤ x4.toNatClampNeg then none else (
    lt1 (pI M 107 x4.toNatClampNeg (M.1 107 x4.toNatClampNeg)) (fun M4 =>
    k34 M4 x1 x2 (x3 + (1 : Int32)))))
  else
    if x4 < 0 ∨ ln 107 ≤ x4.toNatClampNeg then none else (
    lt1 (pI M 107 x4.toNatClampNeg x3) (fun M6 =>
    k34 M6 x1 x2 (x3 + (1 : Int32))))
set_option maxRecDepth 100000 in
set_option maxHeartbeats 4000000 in
theorem w_X7_layShades_123 {p : Program} {l : Launch} {e : Env} {s : State} {m : MethodId} {args : Array Value} {below : List Frame} {meth : Method} {c : Code} {G : Gv} (hC : Cx p s m args meth c cX7_layShades 6 none RX7) {fu : Nat} {M' : Mm} {k2 : Mm → Int32 → Int32 → Option Mm} (hk_2 : ∀ {x1 : Int32} {x2 : Int32} {M : Mm} {H : Heap} {locs : List Loc} {ls : Array Slot}, k2 M x1 x2 = some M' → St G s H locs M → lv_has ls 6 [(0, .ref (ad G 86)), (1, .int x1), (2, .int x2)] → W p l e rm_X7_layShades s m args below meth c H locs 0 0 (MQ below (QV G M') args s 0 0 (zA G)) (F0 m 2 ls [])) {k34 : Mm → Int32 → Int32 → Int32 → Option Mm} (hk_34 : ∀ {x1 : Int32} {x2 : Int32} {x3 : Int32} {M : Mm} {H : Heap} {locs : List Loc} {ls : Array Slot}, k34 M x1 x2 x3 = some M' → St G s H locs M → lv_has ls 6 [(0, .ref (ad G 86)), (1, .int x1), (2, .int x2), (3, .int x3)] → W p l e rm_X7_layShades s m args below meth c H locs 0 0 (MQ below (QV G M') args s 0 0 (zA G)) (F0 m 34 ls [])) {x1 : Int32} {x2 : Int32} {x3 : Int32} {x4 : Int32} {t0 : Int32} {M : Mm} {H : Heap} {locs : List Loc} {ls : Array Slot} (hF : F_X7_layShades_123 fu k2 k34 M x1 x2 x3 x4 t0 = some M') (hw : St G s H locs M) (hl : lv_has ls 6 [(0, .ref (ad G 86)), (1, .int x1), (2, .int x2), (3, .int x3), (4, .int x4)]) : W p l e rm_X7_layShades s m args below meth c H locs 0 0 (MQ below (QV G M') args s 0 0 (zA G)) (F0 m 123 ls [.int t0]) := by
  unfold F_X7_layShades_123 at hF
  refine lv_istore (lv' := [(5, .int t0), (0, .ref (ad G 86)), (1, .int x1), (2, .int x2), (3, .int x3), (4, .int x4)]) hC.1 hC.2.1 dX7_layShades_123 hl (by decide) rfl (fun ls hl => ?_)
  refine lv_aload_n hC.1 hC.2.1 dX7_layShades_125 rfl (lv_at hl 1 rfl) ?_
  refine g7_shadeFor hC hw q4_153 dX7_layShades_126 ?_
  refine lv_iload hC.1 hC.2.1 dX7_layShades_129 (lv_at hl 5 rfl) ?_
  refine lv_iload hC.1 hC.2.1 dX7_layShades_131 (lv_at hl 0 rfl) ?_
  refine lv_if_eq (tgt := 140) hC.1 hC.2.1 dX7_layShades_133 (by decide) (fun b1 => ?_) (fun b1 => ?_)
  · have hF := ifP hF b1
    refine lv_aload_n hC.1 hC.2.1 dX7_layShades_140 rfl (lv_at hl 1 rfl) ?_
    refine g7_shadeFor hC hw q4_153 dX7_layShades_141 ?_
    refine lv_iload hC.1 hC.2.1 dX7_layShades_144 (lv_at hl 5 rfl) ?_
    obtain ⟨n2, hF⟩ := ifO hF
    refine r_iald hC.1 hC.2.1 hw (rfl : kd 107 = 1) n2 dX7_layShades_146 ?_
    obtain ⟨n3, hF⟩ := ifO hF
    refine r_iast hC.1 hC.2.1 hw (rfl : kd 107 = 1) n3 dX7_layShades_147 (fun H locs hw => ?_)
    obtain ⟨M4, hw, hF⟩ := lt1W hF hw
    refine lv_iinc (v := (x3 + (1 : Int32))) (lv' := [(3, .int (x3 + (1 : Int32))), (5, .int t0), (0, .ref (ad G 86)), (1, .int x1), (2, .int x2), (4, .int x4)]) hC.1 hC.2.1 dX7_layShades_148 hl (k := 4) rfl rfl (by decide) rfl (fun ls hl => ?_)
    refine lv_goto (tgt := 34) hC.1 hC.2.1 dX7_layShades_151 (by decide) ?_
    exact hk_34 hF hw (lv_sub hl [2, 3, 4, 0] rfl)
  · have hF := ifN hF b1
    refine lv_iload_n hC.1 hC.2.1 dX7_layShades_136 rfl (lv_at hl 4 rfl) ?_
    refine lv_goto (tgt := 147) hC.1 hC.2.1 dX7_layShades_137 (by decide) ?_
    obtain ⟨n5, hF⟩ := ifO hF
    refine r_iast hC.1 hC.2.1 hw (rfl : kd 107 = 1) n5 dX7_layShades_147 (fun H locs hw => ?_)
    obtain ⟨M6, hw, hF⟩ := lt1W hF hw
    refine lv_iinc (v := (x3 + (1 : Int32))) (lv' := [(3, .int (x3 + (1 : Int32))), (5, .int t0), (0, .ref (ad G 86)), (1, .int x1), (2, .int x2), (4, .int x4)]) hC.1 hC.2.1 dX7_layShades_148 hl (k := 4) rfl rfl (by decide) rfl (fun ls hl => ?_)
    refine lv_goto (tgt := 34) hC.1 hC.2.1 dX7_layShades_151 (by decide) ?_
    exact hk_34 hF hw (lv_sub hl [2, 3, 4, 0] rfl)
def F_X7_layShades_118 (fu : Nat) (k2 : Mm → Int32 → Int32 → Option Mm) (k34 : Mm → Int32 → Int32 → Int32 → Option Mm) (M : Mm) (x1 : Int32) (x2 : Int32) (x3 : Int32) (x4 : Int32) : Option Mm :=
  F_X7_layShades_123 fu k2 k34 M x1 x2 x3 x4 (1 : Int32)
set_option maxRecDepth 100000 in
set_option maxHeartbeats 4000000 in
theorem w_X7_layShades_118 {p : Program} {l : Launch} {e : Env} {s : State} {m : MethodId} {args : Array Value} {below : List Frame} {meth : Method} {c : Code} {G : Gv} (hC : Cx p s m args meth c cX7_layShades 6 none RX7) {fu : Nat} {M' : Mm} {k2 : Mm → Int32 → Int32 → Option Mm} (hk_2 : ∀ {x1 : Int32} {x2 : Int32} {M : Mm} {H : Heap} {locs : List Loc} {ls : Array Slot}, k2 M x1 x2 = some M' → St G s H locs M → lv_has ls 6 [(0, .ref (ad G 86)), (1, .int x1), (2, .int x2)] → W p l e rm_X7_layShades s m args below meth c H locs 0 0 (MQ below (QV G M') args s 0 0 (zA G)) (F0 m 2 ls [])) {k34 : Mm → Int32 → Int32 → Int32 → Option Mm} (hk_34 : ∀ {x1 : Int32} {x2 : Int32} {x3 : Int32} {M : Mm} {H : Heap} {locs : List Loc} {ls : Array Slot}, k34 M x1 x2 x3 = some M' → St G s H locs M → lv_has ls 6 [(0, .ref (ad G 86)), (1, .int x1), (2, .int x2), (3, .int x3)] → W p l e rm_X7_layShades s m args below meth c H locs 0 0 (MQ below (QV G M') args s 0 0 (zA G)) (F0 m 34 ls [])) {x1 : Int32} {x2 : Int32} {x3 : Int32} {x4 : Int32} {M : Mm} {H : Heap} {locs : List Loc} {ls : Array Slot} (hF : F_X7_layShades_118 fu k2 k34 M x1 x2 x3 x4 = some M') (hw : St G s H locs M) (hl : lv_has ls 6 [(0, .ref (ad G 86)), (1, .int x1), (2, .int x2), (3, .int x3), (4, .int x4)]) : W p l e rm_X7_layShades s m args below meth c H locs 0 0 (MQ below (QV G M') args s 0 0 (zA G)) (F0 m 118 ls []) := by
  unfold F_X7_layShades_118 at hF
  refine lv_iconst (v := (1 : Int32)) hC.1 hC.2.1 dX7_layShades_118 (by decide) ?_
  refine lv_goto (tgt := 123) hC.1 hC.2.1 dX7_layShades_119 (by decide) ?_
  exact w_X7_layShades_123 hC (hk_2 := hk_2) (hk_34 := hk_34) hF hw (lv_sub hl [0, 1, 2, 3, 4] rfl)
def F_X7_layShades_74 (fu : Nat) (k2 : Mm → Int32 → Int32 → Option Mm) (k34 : Mm → Int32 → Int32 → Int32 → Option Mm) (M : Mm) (x1 : Int32) (x2 : Int32) (x3 : Int32) (t0 : Int32) (t1 : Int32) : Option Mm :=
  if (t0 + t1) < 0 ∨ ln 107 ≤ (t0 + t1).toNatClampNeg then none else (
  if (M.1 107 (t0 + t1).toNatClampNeg) = (-9 : Int32) then
    F_X7_layShades_118 fu k2 k34 M x1 x2 x3 (t0 + t1)
  else
    if x2 < 0 ∨ ln 95 ≤ x2.toNatClampNeg then none else (
    ob1 (F_X7_apart fu M x3 (M.1 95 x2.toNatClampNeg)) (fun r5 =>
    if (t0 + t1) < 0 ∨ ln 107 ≤ (t0 + t1).toNatClampNeg then none else (
    if x2 < 0 ∨ ln 95 ≤ x2.toNatClampNeg then none else (
    ob1 (F_X7_apart fu M (M.1 107 (t0 + t1).toNatClampNeg) (M.1 95 x2.toNatClampNeg)) (fun r9 =>
    if r9 ≤ r5 then
      F_X7_layShades_123 fu k2 k34 M x1 x2 x3 (t0 + t1) (0 : Int32)
    else
      F_X7_layShades_118 fu k2 k34 M x1 x2 x3 (t0 + t1)))))))
set_option maxRecDepth 100000 in
set_option maxHeartbeats 4000000 in
theorem w_X7_layShades_74 {p : Program} {l : Launch} {e : Env} {s : State} {m : MethodId} {args : Array Value} {below : List Frame} {meth : Method} {c : Code} {G : Gv} (hC : Cx p s m args meth c cX7_layShades 6 none RX7) {fu : Nat} {M' : Mm} {k2 : Mm → Int32 → Int32 → Option Mm} (hk_2 : ∀ {x1 : Int32} {x2 : Int32} {M : Mm} {H : Heap} {locs : List Loc} {ls : Array Slot}, k2 M x1 x2 = some M' → St G s H locs M → lv_has ls 6 [(0, .ref (ad G 86)), (1, .int x1), (2, .int x2)] → W p l e rm_X7_layShades s m args below meth c H locs 0 0 (MQ below (QV G M') args s 0 0 (zA G)) (F0 m 2 ls [])) {k34 : Mm → Int32 → Int32 → Int32 → Option Mm} (hk_34 : ∀ {x1 : Int32} {x2 : Int32} {x3 : Int32} {M : Mm} {H : Heap} {locs : List Loc} {ls : Array Slot}, k34 M x1 x2 x3 = some M' → St G s H locs M → lv_has ls 6 [(0, .ref (ad G 86)), (1, .int x1), (2, .int x2), (3, .int x3)] → W p l e rm_X7_layShades s m args below meth c H locs 0 0 (MQ below (QV G M') args s 0 0 (zA G)) (F0 m 34 ls [])) {x1 : Int32} {x2 : Int32} {x3 : Int32} {t0 : Int32} {t1 : Int32} {M : Mm} {H : Heap} {locs : List Loc} {ls : Array Slot} (hF : F_X7_layShades_74 fu k2 k34 M x1 x2 x3 t0 t1 = some M') (hw : St G s H locs M) (hl : lv_has ls 6 [(0, .ref (ad G 86)), (1, .int x1), (2, .int x2), (3, .int x3)]) : W p l e rm_X7_layShades s m args below meth c H locs 0 0 (MQ below (QV G M') args s 0 0 (zA G)) (F0 m 74 ls [.int t1, .int t0]) := by
  unfold F_X7_layShades_74 at hF
  refine lv_iadd hC.1 hC.2.1 dX7_layShades_74 ?_
  refine lv_istore (lv' := [(4, .int (t0 + t1)), (0, .ref (ad G 86)), (1, .int x1), (2, .int x2), (3, .int x3)]) hC.1 hC.2.1 dX7_layShades_75 hl (by decide) rfl (fun ls hl => ?_)
  refine lv_aload_n hC.1 hC.2.1 dX7_layShades_77 rfl (lv_at hl 1 rfl) ?_
  refine g7_shadeFor hC hw q4_153 dX7_layShades_78 ?_
  refine lv_iload hC.1 hC.2.1 dX7_layShades_81 (lv_at hl 0 rfl) ?_
  obtain ⟨n1, hF⟩ := ifO hF
  refine r_iald hC.1 hC.2.1 hw (rfl : kd 107 = 1) n1 dX7_layShades_83 ?_
  refine lv_bipush (v := (-9 : Int32)) hC.1 hC.2.1 dX7_layShades_84 (by decide) ?_
  refine lv_icmp_eq (tgt := 118) hC.1 hC.2.1 dX7_layShades_86 (by decide) (fun b2 => ?_) (fun b2 => ?_)
  · have hF := ifP hF b2
    exact w_X7_layShades_118 hC (hk_2 := hk_2) (hk_34 := hk_34) hF hw (lv_sub hl [1, 2, 3, 4, 0] rfl)
  · have hF := ifN hF b2
    refine lv_iload_n hC.1 hC.2.1 dX7_layShades_89 rfl (lv_at hl 4 rfl) ?_
    refine lv_aload_n hC.1 hC.2.1 dX7_layShades_90 rfl (lv_at hl 1 rfl) ?_
    refine g7_shades hC hw q4_131 dX7_layShades_91 ?_
    refine lv_iload_n hC.1 hC.2.1 dX7_layShades_94 rfl (lv_at hl 3 rfl) ?_
    obtain ⟨n3, hF⟩ := ifO hF
    refine r_iald hC.1 hC.2.1 hw (rfl : kd 95 = 1) n3 dX7_layShades_95 ?_
    obtain ⟨r5, h4, hF⟩ := ob1S hF
    refine k_Si (As := [.int x3, .int (M.1 95 x2.toNatClampNeg)]) (rest := []) hC hw (c_X7_apart (M := M) h4) ys_X7_apart q6_21 ⟨rfl, rfl⟩ ⟨Nat.le_of_ble_eq_true rfl, Nat.le_of_ble_eq_true rfl⟩ ⟨Nat.zero_le _, Nat.zero_le _⟩ rfl rfl (Nat.le_of_ble_eq_true rfl) hl dX7_layShades_96 (fun H locs hw => ?_)
    refine lv_aload_n hC.1 hC.2.1 dX7_layShades_99 rfl (lv_at hl 1 rfl) ?_
    refine g7_shadeFor hC hw q4_153 dX7_layShades_100 ?_
    refine lv_iload hC.1 hC.2.1 dX7_layShades_103 (lv_at hl 0 rfl) ?_
    obtain ⟨n6, hF⟩ := ifO hF
    refine r_iald hC.1 hC.2.1 hw (rfl : kd 107 = 1) n6 dX7_layShades_105 ?_
    refine lv_aload_n hC.1 hC.2.1 dX7_layShades_106 rfl (lv_at hl 1 rfl) ?_
    refine g7_shades hC hw q4_131 dX7_layShades_107 ?_
    refine lv_iload_n hC.1 hC.2.1 dX7_layShades_110 rfl (lv_at hl 3 rfl) ?_
    obtain ⟨n7, hF⟩ := ifO hF
    refine r_iald hC.1 hC.2.1 hw (rfl : kd 95 = 1) n7 dX7_layShades_111 ?_
    obtain ⟨r9, h8, hF⟩ := ob1S hF
    refine k_Si (As := [.int (M.1 107 (t0 + t1).toNatClampNeg), .int (M.1 95 x2.toNatClampNeg)]) (rest := [.int r5]) hC hw (c_X7_apart (M := M) h8) ys_X7_apart q6_21 ⟨rfl, rfl⟩ ⟨Nat.le_of_ble_eq_true rfl, Nat.le_of_ble_eq_true rfl⟩ ⟨Nat.zero_le _, Nat.zero_le _⟩ rfl rfl (Nat.le_of_ble_eq_true rfl) hl dX7_layShades_112 (fun H locs hw => ?_)
    refine lv_icmp_ge (tgt := 122) hC.1 hC.2.1 dX7_layShades_115 (by decide) (fun b10 => ?_) (fun b10 => ?_)
    · have hF := ifP hF b10
      refine lv_iconst (v := (0 : Int32)) hC.1 hC.2.1 dX7_layShades_122 (by decide) ?_
      exact w_X7_layShades_123 hC (hk_2 := hk_2) (hk_34 := hk_34) hF hw (lv_sub hl [1, 2, 3, 4, 0] rfl)
    · have hF := ifN hF b10
      exact w_X7_layShades_118 hC (hk_2 := hk_2) (hk_34 := hk_34) hF hw (lv_sub hl [1, 2, 3, 4, 0] rfl)
def F_X7_layShades_34 (fu : Nat) (k2 : Mm → Int32 → Int32 → Option Mm) : Nat → Mm → Int32 → Int32 → Int32 → Option Mm
  | 0, _, _, _, _ => none
  | n + 1, M, x1, x2, x3 =>
    if (10 : Int32) ≤ x3 then
      k2 M x1 (x2 + (1 : Int32))
    else
      if x2 < 0 ∨ ln 91 ≤ x2.toNatClampNeg then none else (
      if x2 < 0 ∨ ln 94 ≤ x2.toNatClampNeg then none else (
      ob1 (F_X7_bulkAfter fu M (M.1 91 x2.toNatClampNeg) (M.1 94 x2.toNatClampNeg) x3 x1) (fun r5 =>
      ob1 (F_X7_mayVote fu M x2 r5) (fun r7 =>
      if r7 = 0 then
        F_X7_layShades_74 fu k2 (F_X7_layShades_34 fu k2 n) M x1 x2 x3 ((2 : Int32) * x2) (0 : Int32)
      else
        F_X7_layShades_74 fu k2 (F_X7_layShades_34 fu k2 n) M x1 x2 x3 ((2 : Int32) * x2) (1 : Int32)))))
set_option maxRecDepth 100000 in
set_option maxHeartbeats 4000000 in
theorem w_X7_layShades_34 {p : Program} {l : Launch} {e : Env} {s : State} {m : MethodId} {args : Array Value} {below : List Frame} {meth : Method} {c : Code} {G : Gv} (hC : Cx p s m args meth c cX7_layShades 6 none RX7) {fu : Nat} {M' : Mm} {k2 : Mm → Int32 → Int32 → Option Mm} (hk_2 : ∀ {x1 : Int32} {x2 : Int32} {M : Mm} {H : Heap} {locs : List Loc} {ls : Array Slot}, k2 M x1 x2 = some M' → St G s H locs M → lv_has ls 6 [(0, .ref (ad G 86)), (1, .int x1), (2, .int x2)] → W p l e rm_X7_layShades s m args below meth c H locs 0 0 (MQ below (QV G M') args s 0 0 (zA G)) (F0 m 2 ls [])) : ∀ (n : Nat) {x1 : Int32} {x2 : Int32} {x3 : Int32} {M : Mm} {H : Heap} {locs : List Loc} {ls : Array Slot}, F_X7_layShades_34 fu k2 n M x1 x2 x3 = some M' → St G s H locs M → lv_has ls 6 [(0, .ref (ad G 86)), (1, .int x1), (2, .int x2), (3, .int x3)] → W p l e rm_X7_layShades s m args below meth c H locs 0 0 (MQ below (QV G M') args s 0 0 (zA G)) (F0 m 34 ls []) := by
  intro n
  induction n with
  | zero =>
    intro x1 x2 x3 M H locs ls hF hw hl
    cases hF
  | succ n ih =>
    intro x1 x2 x3 M H locs ls hF hw hl
    unfold F_X7_layShades_34 at hF
    refine lv_iload_n hC.1 hC.2.1 dX7_layShades_34 rfl (lv_at hl 3 rfl) ?_
    refine lv_bipush (v := (10 : Int32)) hC.1 hC.2.1 dX7_layShades_35 (by decide) ?_
    refine lv_icmp_ge (tgt := 154) hC.1 hC.2.1 dX7_layShades_37 (by decide) (fun b1 => ?_) (fun b1 => ?_)
    · have hF := ifP hF b1
      refine lv_iinc (v := (x2 + (1 : Int32))) (lv' := [(2, .int (x2 + (1 : Int32))), (0, .ref (ad G 86)), (1, .int x1), (3, .int x3)]) hC.1 hC.2.1 dX7_layShades_154 hl (k := 2) rfl rfl (by decide) rfl (fun ls hl => ?_)
      refine lv_goto (tgt := 2) hC.1 hC.2.1 dX7_layShades_157 (by decide) ?_
      exact hk_2 hF hw (lv_sub hl [1, 2, 0] rfl)
    · have hF := ifN hF b1
      refine lv_iconst (v := (2 : Int32)) hC.1 hC.2.1 dX7_layShades_40 (by decide) ?_
      refine lv_iload_n hC.1 hC.2.1 dX7_layShades_41 rfl (lv_at hl 2 rfl) ?_
      refine lv_imul hC.1 hC.2.1 dX7_layShades_42 ?_
      refine lv_aload_n hC.1 hC.2.1 dX7_layShades_43 rfl (lv_at hl 0 rfl) ?_
      refine lv_iload_n hC.1 hC.2.1 dX7_layShades_44 rfl (lv_at hl 2 rfl) ?_
      refine lv_aload_n hC.1 hC.2.1 dX7_layShades_45 rfl (lv_at hl 0 rfl) ?_
      refine lv_aload_n hC.1 hC.2.1 dX7_layShades_46 rfl (lv_at hl 0 rfl) ?_
      refine g7_kindIs hC hw q4_127 dX7_layShades_47 ?_
      refine lv_iload_n hC.1 hC.2.1 dX7_layShades_50 rfl (lv_at hl 2 rfl) ?_
      obtain ⟨n2, hF⟩ := ifO hF
      refine r_iald hC.1 hC.2.1 hw (rfl : kd 91 = 1) n2 dX7_layShades_51 ?_
      refine lv_aload_n hC.1 hC.2.1 dX7_layShades_52 rfl (lv_at hl 0 rfl) ?_
      refine g7_bulks hC hw q4_130 dX7_layShades_53 ?_
      refine lv_iload_n hC.1 hC.2.1 dX7_layShades_56 rfl (lv_at hl 2 rfl) ?_
      obtain ⟨n3, hF⟩ := ifO hF
      refine r_iald hC.1 hC.2.1 hw (rfl : kd 94 = 1) n3 dX7_layShades_57 ?_
      refine lv_iload_n hC.1 hC.2.1 dX7_layShades_58 rfl (lv_at hl 3 rfl) ?_
      refine lv_iload_n hC.1 hC.2.1 dX7_layShades_59 rfl (lv_at hl 1 rfl) ?_
      obtain ⟨r5, h4, hF⟩ := ob1S hF
      refine k_Vi (As := [.int (M.1 91 x2.toNatClampNeg), .int (M.1 94 x2.toNatClampNeg), .int x3, .int x1]) (rest := [.int x2, .ref (ad G 86), .int ((2 : Int32) * x2)]) hC hw (c_X7_bulkAfter (M := M) h4) RC_X yv_X7_bulkAfter q5_105 ⟨rfl, rfl⟩ ⟨Nat.le_of_ble_eq_true rfl, Nat.le_of_ble_eq_true rfl⟩ ⟨Nat.zero_le _, Nat.zero_le _⟩ rfl rfl (Nat.le_of_ble_eq_true rfl) hl dX7_layShades_60 (fun H locs hw => ?_)
      obtain ⟨r7, h6, hF⟩ := ob1S hF
      refine k_Vi (As := [.int x2, .int r5]) (rest := [.int ((2 : Int32) * x2)]) hC hw (c_X7_mayVote (M := M) h6) RC_X yv_X7_mayVote q5_93 ⟨rfl, rfl⟩ ⟨Nat.le_of_ble_eq_true rfl, Nat.le_of_ble_eq_true rfl⟩ ⟨Nat.zero_le _, Nat.zero_le _⟩ rfl rfl (Nat.le_of_ble_eq_true rfl) hl dX7_layShades_63 (fun H locs hw => ?_)
      refine lv_if_eq (tgt := 73) hC.1 hC.2.1 dX7_layShades_66 (by decide) (fun b8 => ?_) (fun b8 => ?_)
      · have hF := ifP hF b8
        refine lv_iconst (v := (0 : Int32)) hC.1 hC.2.1 dX7_layShades_73 (by decide) ?_
        exact w_X7_layShades_74 hC (hk_2 := hk_2) (hk_34 := ih) hF hw (lv_sub hl [0, 1, 2, 3] rfl)
      · have hF := ifN hF b8
        refine lv_iconst (v := (1 : Int32)) hC.1 hC.2.1 dX7_layShades_69 (by decide) ?_
        refine lv_goto (tgt := 74) hC.1 hC.2.1 dX7_layShades_70 (by decide) ?_
        exact w_X7_layShades_74 hC (hk_2 := hk_2) (hk_34 := ih) hF hw (lv_sub hl [0, 1, 2, 3] rfl)
def F_X7_layShades_2 (fu : Nat) : Nat → Mm → Int32 → Int32 → Option Mm
  | 0, _, _, _ => none
  | n + 1, M, x1, x2 =>
    if (M.1 86 4) ≤ x2 then
      some M
    else
      if ((2 : Int32) * x2) < 0 ∨ ln 107 ≤ ((2 : Int32) * x2).toNatClampNeg then none else (
      lt1 (pI M 107 ((2 : Int32) * x2).toNatClampNeg (-9 : Int32)) (fun M3 =>
      if (((2 : Int32) * x2) + (1 : Int32)) < 0 ∨ ln 107 ≤ (((2 : Int32) * x2) + (1 : Int32)).toNatClampNeg then none else (
      lt1 (pI M3 107 (((2 : Int32) * x2) + (1 : Int32)).toNatClampNeg (-9 : Int32)) (fun M5 =>
      F_X7_layShades_34 fu (F_X7_layShades_2 fu n) fu M5 x1 x2 (0 : Int32)))))
set_option maxRecDepth 100000 in
set_option maxHeartbeats 4000000 in
theorem w_X7_layShades_2 {p : Program} {l : Launch} {e : Env} {s : State} {m : MethodId} {args : Array Value} {below : List Frame} {meth : Method} {c : Code} {G : Gv} (hC : Cx p s m args meth c cX7_layShades 6 none RX7) {fu : Nat} {M' : Mm} : ∀ (n : Nat) {x1 : Int32} {x2 : Int32} {M : Mm} {H : Heap} {locs : List Loc} {ls : Array Slot}, F_X7_layShades_2 fu n M x1 x2 = some M' → St G s H locs M → lv_has ls 6 [(0, .ref (ad G 86)), (1, .int x1), (2, .int x2)] → W p l e rm_X7_layShades s m args below meth c H locs 0 0 (MQ below (QV G M') args s 0 0 (zA G)) (F0 m 2 ls []) := by
  intro n
  induction n with
  | zero =>
    intro x1 x2 M H locs ls hF hw hl
    cases hF
  | succ n ih =>
    intro x1 x2 M H locs ls hF hw hl
    unfold F_X7_layShades_2 at hF
    refine lv_iload_n hC.1 hC.2.1 dX7_layShades_2 rfl (lv_at hl 2 rfl) ?_
    refine lv_aload_n hC.1 hC.2.1 dX7_layShades_3 rfl (lv_at hl 0 rfl) ?_
    refine g7_men hC hw q4_126 dX7_layShades_4 ?_
    refine lv_icmp_ge (tgt := 160) hC.1 hC.2.1 dX7_layShades_7 (by decide) (fun b1 => ?_) (fun b1 => ?_)
    · have hF := ifP hF b1
      exact r_vretE hC hw hF dX7_layShades_160
    · have hF := ifN hF b1
      refine lv_aload_n hC.1 hC.2.1 dX7_layShades_10 rfl (lv_at hl 0 rfl) ?_
      refine g7_shadeFor hC hw q4_153 dX7_layShades_11 ?_
      refine lv_iconst (v := (2 : Int32)) hC.1 hC.2.1 dX7_layShades_14 (by decide) ?_
      refine lv_iload_n hC.1 hC.2.1 dX7_layShades_15 rfl (lv_at hl 2 rfl) ?_
      refine lv_imul hC.1 hC.2.1 dX7_layShades_16 ?_
      refine lv_bipush (v := (-9 : Int32)) hC.1 hC.2.1 dX7_layShades_17 (by decide) ?_
      obtain ⟨n2, hF⟩ := ifO hF
      refine r_iast hC.1 hC.2.1 hw (rfl : kd 107 = 1) n2 dX7_layShades_19 (fun H locs hw => ?_)
      obtain ⟨M3, hw, hF⟩ := lt1W hF hw
      refine lv_aload_n hC.1 hC.2.1 dX7_layShades_20 rfl (lv_at hl 0 rfl) ?_
      refine g7_shadeFor hC hw q4_153 dX7_layShades_21 ?_
      refine lv_iconst (v := (2 : Int32)) hC.1 hC.2.1 dX7_layShades_24 (by decide) ?_
      refine lv_iload_n hC.1 hC.2.1 dX7_layShades_25 rfl (lv_at hl 2 rfl) ?_
      refine lv_imul hC.1 hC.2.1 dX7_layShades_26 ?_
      refine lv_iconst (v := (1 : Int32)) hC.1 hC.2.1 dX7_layShades_27 (by decide) ?_
      refine lv_iadd hC.1 hC.2.1 dX7_layShades_28 ?_
      refine lv_bipush (v := (-9 : Int32)) hC.1 hC.2.1 dX7_layShades_29 (by decide) ?_
      obtain ⟨n4, hF⟩ := ifO hF
      refine r_iast hC.1 hC.2.1 hw (rfl : kd 107 = 1) n4 dX7_layShades_31 (fun H locs hw => ?_)
      obtain ⟨M5, hw, hF⟩ := lt1W hF hw
      refine lv_iconst (v := (0 : Int32)) hC.1 hC.2.1 dX7_layShades_32 (by decide) ?_
      refine lv_istore_n (lv' := [(3, .int (0 : Int32)), (0, .ref (ad G 86)), (1, .int x1), (2, .int x2)]) hC.1 hC.2.1 dX7_layShades_33 rfl hl (by decide) rfl (fun ls hl => ?_)
      exact w_X7_layShades_34 hC (hk_2 := ih) _ hF hw (lv_sub hl [1, 2, 3, 0] rfl)
def F_X7_layShades (fu : Nat) (M : Mm) (x1 : Int32) : Option Mm :=
  F_X7_layShades_2 fu fu M x1 (0 : Int32)
set_option maxRecDepth 100000 in
set_option maxHeartbeats 4000000 in
theorem c_X7_layShades {l : Launch} {G : Gv} {fu : Nat} {M : Mm} {x1 : Int32} {M' : Mm} (hF : F_X7_layShades fu M x1 = some M') : Met l yX7_layShades (.code yX7_layShades cX7_layShades 6 none :: zU) rm_X7_layShades (va_Pc [.ref (ad G 86), .int x1] (Wd G M)) (QV G M') 0 0 (zA G) := by
  refine zMet (by decide) rfl (Nat.le_of_ble_eq_true rfl) ?_
  intro p e s m below meth c hC hw ls hl
  have hl : lv_has ls 6 [(0, .ref (ad G 86)), (1, .int x1)] := hl
  unfold F_X7_layShades at hF
  refine lv_iconst (v := (0 : Int32)) hC.1 hC.2.1 dX7_layShades_0 (by decide) ?_
  refine lv_istore_n (lv' := [(2, .int (0 : Int32)), (0, .ref (ad G 86)), (1, .int x1)]) hC.1 hC.2.1 dX7_layShades_1 rfl hl (by decide) rfl (fun ls hl => ?_)
  exact w_X7_layShades_2 hC _ hF hw (lv_sub hl [1, 2, 0] rfl)
abbrev rm_X7_costs : Room := { frames := 1, cells := 0, slots := 0, locals := 21 }
theorem yv_X7_costs : YV yX7_costs cX7_costs 5 (some .int) 1 RX7 := ⟨⟨q6_26, qs_60, q1_8, q6_27⟩, by decide +kernel⟩
theorem dX7_costs_0 : decode cX7_costs 0 = .ok (.iconst 0, 1) := by decide +kernel
theorem dX7_costs_1 : decode cX7_costs 1 = .ok (.istore_n 2, 1) := by decide +kernel
theorem dX7_costs_2 : decode cX7_costs 2 = .ok (.iconst 0, 1) := by decide +kernel
theorem dX7_costs_3 : decode cX7_costs 3 = .ok (.istore_n 3, 1) := by decide +kernel
theorem dX7_costs_4 : decode cX7_costs 4 = .ok (.iload_n 3, 1) := by decide +kernel
theorem dX7_costs_5 : decode cX7_costs 5 = .ok (.aload_n 0, 1) := by decide +kernel
theorem dX7_costs_6 : decode cX7_costs 6 = .ok (.getfield 101, 3) := by decide +kernel
theorem dX7_costs_9 : decode cX7_costs 9 = .ok (.if_icmp .ge 49, 3) := by decide +kernel
theorem dX7_costs_12 : decode cX7_costs 12 = .ok (.aload_n 0, 1) := by decide +kernel
theorem dX7_costs_13 : decode cX7_costs 13 = .ok (.getfield 75, 3) := by decide +kernel
theorem dX7_costs_16 : decode cX7_costs 16 = .ok (.iconst 2, 1) := by decide +kernel
theorem dX7_costs_17 : decode cX7_costs 17 = .ok (.iload_n 3, 1) := by decide +kernel
theorem dX7_costs_18 : decode cX7_costs 18 = .ok (.imul, 1) := by decide +kernel
theorem dX7_costs_19 : decode cX7_costs 19 = .ok (.iload_n 1, 1) := by decide +kernel
theorem dX7_costs_20 : decode cX7_costs 20 = .ok (.iload_n 3, 1) := by decide +kernel
theorem dX7_costs_21 : decode cX7_costs 21 = .ok (.ishr, 1) := by decide +kernel
theorem dX7_costs_22 : decode cX7_costs 22 = .ok (.iconst 1, 1) := by decide +kernel
theorem dX7_costs_23 : decode cX7_costs 23 = .ok (.iand, 1) := by decide +kernel
theorem dX7_costs_24 : decode cX7_costs 24 = .ok (.iadd, 1) := by decide +kernel
theorem dX7_costs_25 : decode cX7_costs 25 = .ok (.iaload, 1) := by decide +kernel
theorem dX7_costs_26 : decode cX7_costs 26 = .ok (.istore 4, 2) := by decide +kernel
theorem dX7_costs_28 : decode cX7_costs 28 = .ok (.iload 4, 2) := by decide +kernel
theorem dX7_costs_30 : decode cX7_costs 30 = .ok (.bipush (-9), 2) := by decide +kernel
theorem dX7_costs_32 : decode cX7_costs 32 = .ok (.if_icmp .ne 6, 3) := by decide +kernel
theorem dX7_costs_35 : decode cX7_costs 35 = .ok (.bipush (-9), 2) := by decide +kernel
theorem dX7_costs_37 : decode cX7_costs 37 = .ok (.ireturn, 1) := by decide +kernel
theorem dX7_costs_38 : decode cX7_costs 38 = .ok (.iload_n 2, 1) := by decide +kernel
theorem dX7_costs_39 : decode cX7_costs 39 = .ok (.iload 4, 2) := by decide +kernel
theorem dX7_costs_41 : decode cX7_costs 41 = .ok (.aload_n 0, 1) := by decide +kernel
theorem dX7_costs_42 : decode cX7_costs 42 = .ok (.getfield 34, 3) := by decide +kernel
theorem dX7_costs_45 : decode cX7_costs 45 = .ok (.iload_n 3, 1) := by decide +kernel
theorem dX7_costs_46 : decode cX7_costs 46 = .ok (.iaload, 1) := by decide +kernel
theorem dX7_costs_47 : decode cX7_costs 47 = .ok (.invokestatic 254, 3) := by decide +kernel
theorem dX7_costs_50 : decode cX7_costs 50 = .ok (.iadd, 1) := by decide +kernel
theorem dX7_costs_51 : decode cX7_costs 51 = .ok (.istore_n 2, 1) := by decide +kernel
theorem dX7_costs_52 : decode cX7_costs 52 = .ok (.iinc 3 1, 3) := by decide +kernel
theorem dX7_costs_55 : decode cX7_costs 55 = .ok (.goto (-51), 3) := by decide +kernel
theorem dX7_costs_58 : decode cX7_costs 58 = .ok (.iload_n 2, 1) := by decide +kernel
theorem dX7_costs_59 : decode cX7_costs 59 = .ok (.ireturn, 1) := by decide +kernel
def F_X7_costs_4 (fu : Nat) (M : Mm) : Nat → Int32 → Int32 → Int32 → Option Int32
  | 0, _, _, _ => none
  | n + 1, x1, x2, x3 =>
    if (M.1 86 4) ≤ x3 then
      some x2
    else
      if (((2 : Int32) * x3) + ((x1 >>> (x3 &&& 31)) &&& (1 : Int32))) < 0 ∨ ln 107 ≤ (((2 : Int32) * x3) + ((x1 >>> (x3 &&& 31)) &&& (1 : Int32))).toNatClampNeg then none else (
      lt1 (M.1 107 (((2 : Int32) * x3) + ((x1 >>> (x3 &&& 31)) &&& (1 : Int32))).toNatClampNeg) (fun y3 =>
      if y3 = (-9 : Int32) then
        some (-9 : Int32)
      else
        if x3 < 0 ∨ ln 95 ≤ x3.toNatClampNeg then none else (
        ob1 (F_X7_apart fu M y3 (M.1 95 x3.toNatClampNeg)) (fun r7 =>
        F_X7_costs_4 fu M n x1 (x2 + r7) (x3 + (1 : Int32))))))
set_option maxRecDepth 100000 in
set_option maxHeartbeats 4000000 in
theorem w_X7_costs_4 {p : Program} {l : Launch} {e : Env} {s : State} {m : MethodId} {args : Array Value} {below : List Frame} {meth : Method} {c : Code} {G : Gv} (hC : Cx p s m args meth c cX7_costs 5 (some .int) RX7) {fu : Nat} {r : Int32} {M : Mm} : ∀ (n : Nat) {x1 : Int32} {x2 : Int32} {x3 : Int32} {H : Heap} {locs : List Loc} {ls : Array Slot}, F_X7_costs_4 fu M n x1 x2 x3 = some r → St G s H locs M → lv_has ls 5 [(0, .ref (ad G 86)), (1, .int x1), (2, .int x2), (3, .int x3)] → W p l e rm_X7_costs s m args below meth c H locs 0 0 (MQ below (QI G r M) args s 0 0 (zA G)) (F0 m 4 ls []) := by
  intro n
  induction n with
  | zero =>
    intro x1 x2 x3 H locs ls hF hw hl
    cases hF
  | succ n ih =>
    intro x1 x2 x3 H locs ls hF hw hl
    unfold F_X7_costs_4 at hF
    refine lv_iload_n hC.1 hC.2.1 dX7_costs_4 rfl (lv_at hl 3 rfl) ?_
    refine lv_aload_n hC.1 hC.2.1 dX7_costs_5 rfl (lv_at hl 0 rfl) ?_
    refine g7_men hC hw q4_126 dX7_costs_6 ?_
    refine lv_icmp_ge (tgt := 58) hC.1 hC.2.1 dX7_costs_9 (by decide) (fun b1 => ?_) (fun b1 => ?_)
    · have hF := ifP hF b1
      refine lv_iload_n hC.1 hC.2.1 dX7_costs_58 rfl (lv_at hl 2 rfl) ?_
      exact r_iretP hC hw hF dX7_costs_59
    · have hF := ifN hF b1
      refine lv_aload_n hC.1 hC.2.1 dX7_costs_12 rfl (lv_at hl 0 rfl) ?_
      refine g7_shadeFor hC hw q4_153 dX7_costs_13 ?_
      refine lv_iconst (v := (2 : Int32)) hC.1 hC.2.1 dX7_costs_16 (by decide) ?_
      refine lv_iload_n hC.1 hC.2.1 dX7_costs_17 rfl (lv_at hl 3 rfl) ?_
      refine lv_imul hC.1 hC.2.1 dX7_costs_18 ?_
      refine lv_iload_n hC.1 hC.2.1 dX7_costs_19 rfl (lv_at hl 1 rfl) ?_
      refine lv_iload_n hC.1 hC.2.1 dX7_costs_20 rfl (lv_at hl 3 rfl) ?_
      refine lv_ishr hC.1 hC.2.1 dX7_costs_21 ?_
      refine lv_iconst (v := (1 : Int32)) hC.1 hC.2.1 dX7_costs_22 (by decide) ?_
      refine lv_iand hC.1 hC.2.1 dX7_costs_23 ?_
      refine lv_iadd hC.1 hC.2.1 dX7_costs_24 ?_
      obtain ⟨n2, hF⟩ := ifO hF
      refine r_iald hC.1 hC.2.1 hw (rfl : kd 107 = 1) n2 dX7_costs_25 ?_
      refine lv_topi (fun y3 ey3 => ?_)
      have hF := lt1G hF ey3
      refine lv_istore (lv' := [(4, .int y3), (0, .ref (ad G 86)), (1, .int x1), (2, .int x2), (3, .int x3)]) hC.1 hC.2.1 dX7_costs_26 hl (by decide) rfl (fun ls hl => ?_)
      refine lv_iload hC.1 hC.2.1 dX7_costs_28 (lv_at hl 0 rfl) ?_
      refine lv_bipush (v := (-9 : Int32)) hC.1 hC.2.1 dX7_costs_30 (by decide) ?_
      refine lv_icmp_ne (tgt := 38) hC.1 hC.2.1 dX7_costs_32 (by decide) (fun b4 => ?_) (fun b4 => ?_)
      · have hF := ifN hF b4
        refine lv_iload_n hC.1 hC.2.1 dX7_costs_38 rfl (lv_at hl 3 rfl) ?_
        refine lv_iload hC.1 hC.2.1 dX7_costs_39 (lv_at hl 0 rfl) ?_
        refine lv_aload_n hC.1 hC.2.1 dX7_costs_41 rfl (lv_at hl 1 rfl) ?_
        refine g7_shades hC hw q4_131 dX7_costs_42 ?_
        refine lv_iload_n hC.1 hC.2.1 dX7_costs_45 rfl (lv_at hl 4 rfl) ?_
        obtain ⟨n5, hF⟩ := ifO hF
        refine r_iald hC.1 hC.2.1 hw (rfl : kd 95 = 1) n5 dX7_costs_46 ?_
        obtain ⟨r7, h6, hF⟩ := ob1S hF
        refine k_Si (As := [.int y3, .int (M.1 95 x3.toNatClampNeg)]) (rest := [.int x2]) hC hw (c_X7_apart (M := M) h6) ys_X7_apart q6_21 ⟨rfl, rfl⟩ ⟨Nat.le_of_ble_eq_true rfl, Nat.le_of_ble_eq_true rfl⟩ ⟨Nat.zero_le _, Nat.zero_le _⟩ rfl rfl (Nat.le_of_ble_eq_true rfl) hl dX7_costs_47 (fun H locs hw => ?_)
        refine lv_iadd hC.1 hC.2.1 dX7_costs_50 ?_
        refine lv_istore_n (lv' := [(2, .int (x2 + r7)), (4, .int y3), (0, .ref (ad G 86)), (1, .int x1), (3, .int x3)]) hC.1 hC.2.1 dX7_costs_51 rfl hl (by decide) rfl (fun ls hl => ?_)
        refine lv_iinc (v := (x3 + (1 : Int32))) (lv' := [(3, .int (x3 + (1 : Int32))), (2, .int (x2 + r7)), (4, .int y3), (0, .ref (ad G 86)), (1, .int x1)]) hC.1 hC.2.1 dX7_costs_52 hl (k := 4) rfl rfl (by decide) rfl (fun ls hl => ?_)
        refine lv_goto (tgt := 4) hC.1 hC.2.1 dX7_costs_55 (by decide) ?_
        exact ih hF hw (lv_sub hl [3, 4, 1, 0] rfl)
      · have hF := ifP hF b4
        refine lv_bipush (v := (-9 : Int32)) hC.1 hC.2.1 dX7_costs_35 (by decide) ?_
        exact r_iretP hC hw hF dX7_costs_37
def F_X7_costs (fu : Nat) (M : Mm) (x1 : Int32) : Option Int32 :=
  F_X7_costs_4 fu M fu x1 (0 : Int32) (0 : Int32)
set_option maxRecDepth 100000 in
set_option maxHeartbeats 4000000 in
theorem c_X7_costs {l : Launch} {G : Gv} {fu : Nat} {M : Mm} {x1 : Int32} {r : Int32} (hF : F_X7_costs fu M x1 = some r) : Met l yX7_costs (.code yX7_costs cX7_costs 5 (some .int) :: zU) rm_X7_costs (va_Pc [.ref (ad G 86), .int x1] (Wd G M)) (QI G r M) 0 0 (zA G) := by
  refine zMet (by decide) rfl (Nat.le_of_ble_eq_true rfl) ?_
  intro p e s m below meth c hC hw ls hl
  have hl : lv_has ls 5 [(0, .ref (ad G 86)), (1, .int x1)] := hl
  unfold F_X7_costs at hF
  refine lv_iconst (v := (0 : Int32)) hC.1 hC.2.1 dX7_costs_0 (by decide) ?_
  refine lv_istore_n (lv' := [(2, .int (0 : Int32)), (0, .ref (ad G 86)), (1, .int x1)]) hC.1 hC.2.1 dX7_costs_1 rfl hl (by decide) rfl (fun ls hl => ?_)
  refine lv_iconst (v := (0 : Int32)) hC.1 hC.2.1 dX7_costs_2 (by decide) ?_
  refine lv_istore_n (lv' := [(3, .int (0 : Int32)), (2, .int (0 : Int32)), (0, .ref (ad G 86)), (1, .int x1)]) hC.1 hC.2.1 dX7_costs_3 rfl hl (by decide) rfl (fun ls hl => ?_)
  exact w_X7_costs_4 hC _ hF hw (lv_sub hl [2, 3, 1, 0] rfl)
abbrev rm_X7_bribe : Room := { frames := 4, cells := 0, slots := 0, locals := 96 }
theorem yv_X7_bribe : YV yX7_bribe cX7_bribe 9 (some .int) 3 RX7 := ⟨⟨q6_14, q6_15, q1_8, q6_16⟩, by decide +kernel⟩
theorem dX7_bribe_0 : decode cX7_bribe 0 = .ok (.iload_n 1, 1) := by decide +kernel
theorem dX7_bribe_1 : decode cX7_bribe 1 = .ok (.i2l, 1) := by decide +kernel
theorem dX7_bribe_2 : decode cX7_bribe 2 = .ok (.lconst 0, 1) := by decide +kernel
theorem dX7_bribe_3 : decode cX7_bribe 3 = .ok (.lconst 1, 1) := by decide +kernel
theorem dX7_bribe_4 : decode cX7_bribe 4 = .ok (.invokestatic 104, 3) := by decide +kernel
theorem dX7_bribe_7 : decode cX7_bribe 7 = .ok (.ifCond .eq 17, 3) := by decide +kernel
theorem dX7_bribe_10 : decode cX7_bribe 10 = .ok (.iload_n 2, 1) := by decide +kernel
theorem dX7_bribe_11 : decode cX7_bribe 11 = .ok (.invokestatic 241, 3) := by decide +kernel
theorem dX7_bribe_14 : decode cX7_bribe 14 = .ok (.ifCond .eq 10, 3) := by decide +kernel
theorem dX7_bribe_17 : decode cX7_bribe 17 = .ok (.iload_n 3, 1) := by decide +kernel
theorem dX7_bribe_18 : decode cX7_bribe 18 = .ok (.invokestatic 114, 3) := by decide +kernel
theorem dX7_bribe_21 : decode cX7_bribe 21 = .ok (.ifCond .ne 5, 3) := by decide +kernel
theorem dX7_bribe_24 : decode cX7_bribe 24 = .ok (.iconst (-1), 1) := by decide +kernel
theorem dX7_bribe_25 : decode cX7_bribe 25 = .ok (.ireturn, 1) := by decide +kernel
theorem dX7_bribe_26 : decode cX7_bribe 26 = .ok (.aload_n 0, 1) := by decide +kernel
theorem dX7_bribe_27 : decode cX7_bribe 27 = .ok (.getfield 101, 3) := by decide +kernel
theorem dX7_bribe_30 : decode cX7_bribe 30 = .ok (.ifCond .ne 6, 3) := by decide +kernel
theorem dX7_bribe_33 : decode cX7_bribe 33 = .ok (.bipush (-4), 2) := by decide +kernel
theorem dX7_bribe_35 : decode cX7_bribe 35 = .ok (.ireturn, 1) := by decide +kernel
theorem dX7_bribe_36 : decode cX7_bribe 36 = .ok (.aload_n 0, 1) := by decide +kernel
theorem dX7_bribe_37 : decode cX7_bribe 37 = .ok (.iload_n 2, 1) := by decide +kernel
theorem dX7_bribe_38 : decode cX7_bribe 38 = .ok (.invokevirtual 257, 3) := by decide +kernel
theorem dX7_bribe_41 : decode cX7_bribe 41 = .ok (.bipush (-9), 2) := by decide +kernel
theorem dX7_bribe_43 : decode cX7_bribe 43 = .ok (.istore 4, 2) := by decide +kernel
theorem dX7_bribe_45 : decode cX7_bribe 45 = .ok (.ldc 247, 2) := by decide +kernel
theorem dX7_bribe_47 : decode cX7_bribe 47 = .ok (.istore 5, 2) := by decide +kernel
theorem dX7_bribe_49 : decode cX7_bribe 49 = .ok (.iconst 0, 1) := by decide +kernel
theorem dX7_bribe_50 : decode cX7_bribe 50 = .ok (.istore 6, 2) := by decide +kernel
theorem dX7_bribe_52 : decode cX7_bribe 52 = .ok (.iload 6, 2) := by decide +kernel
theorem dX7_bribe_54 : decode cX7_bribe 54 = .ok (.iconst 1, 1) := by decide +kernel
theorem dX7_bribe_55 : decode cX7_bribe 55 = .ok (.aload_n 0, 1) := by decide +kernel
theorem dX7_bribe_56 : decode cX7_bribe 56 = .ok (.getfield 101, 3) := by decide +kernel
theorem dX7_bribe_59 : decode cX7_bribe 59 = .ok (.ishl, 1) := by decide +kernel
theorem dX7_bribe_60 : decode cX7_bribe 60 = .ok (.if_icmp .ge 90, 3) := by decide +kernel
theorem dX7_bribe_63 : decode cX7_bribe 63 = .ok (.aload_n 0, 1) := by decide +kernel
theorem dX7_bribe_64 : decode cX7_bribe 64 = .ok (.iload 6, 2) := by decide +kernel
theorem dX7_bribe_66 : decode cX7_bribe 66 = .ok (.invokevirtual 244, 3) := by decide +kernel
theorem dX7_bribe_69 : decode cX7_bribe 69 = .ok (.iload_n 1, 1) := by decide +kernel
theorem dX7_bribe_70 : decode cX7_bribe 70 = .ok (.iconst 1, 1) := by decide +kernel
theorem dX7_bribe_71 : decode cX7_bribe 71 = .ok (.if_icmp .ne 7, 3) := by decide +kernel
theorem dX7_bribe_74 : decode cX7_bribe 74 = .ok (.iconst 1, 1) := by decide +kernel
theorem dX7_bribe_75 : decode cX7_bribe 75 = .ok (.goto 4, 3) := by decide +kernel
theorem dX7_bribe_78 : decode cX7_bribe 78 = .ok (.iconst 0, 1) := by decide +kernel
theorem dX7_bribe_79 : decode cX7_bribe 79 = .ok (.if_icmp .ne 12, 3) := by decide +kernel
theorem dX7_bribe_82 : decode cX7_bribe 82 = .ok (.aload_n 0, 1) := by decide +kernel
theorem dX7_bribe_83 : decode cX7_bribe 83 = .ok (.iload 6, 2) := by decide +kernel
theorem dX7_bribe_85 : decode cX7_bribe 85 = .ok (.invokevirtual 260, 3) := by decide +kernel
theorem dX7_bribe_88 : decode cX7_bribe 88 = .ok (.goto 5, 3) := by decide +kernel
theorem dX7_bribe_91 : decode cX7_bribe 91 = .ok (.bipush (-9), 2) := by decide +kernel
theorem dX7_bribe_93 : decode cX7_bribe 93 = .ok (.istore 7, 2) := by decide +kernel
theorem dX7_bribe_95 : decode cX7_bribe 95 = .ok (.iload 7, 2) := by decide +kernel
theorem dX7_bribe_97 : decode cX7_bribe 97 = .ok (.bipush (-9), 2) := by decide +kernel
theorem dX7_bribe_99 : decode cX7_bribe 99 = .ok (.if_icmp .eq 14, 3) := by decide +kernel
theorem dX7_bribe_102 : decode cX7_bribe 102 = .ok (.iload 7, 2) := by decide +kernel
theorem dX7_bribe_104 : decode cX7_bribe 104 = .ok (.iload 5, 2) := by decide +kernel
theorem dX7_bribe_106 : decode cX7_bribe 106 = .ok (.if_icmp .ge 7, 3) := by decide +kernel
theorem dX7_bribe_109 : decode cX7_bribe 109 = .ok (.iconst 1, 1) := by decide +kernel
theorem dX7_bribe_110 : decode cX7_bribe 110 = .ok (.goto 4, 3) := by decide +kernel
theorem dX7_bribe_113 : decode cX7_bribe 113 = .ok (.iconst 0, 1) := by decide +kernel
theorem dX7_bribe_114 : decode cX7_bribe 114 = .ok (.istore 8, 2) := by decide +kernel
theorem dX7_bribe_116 : decode cX7_bribe 116 = .ok (.iload 8, 2) := by decide +kernel
theorem dX7_bribe_118 : decode cX7_bribe 118 = .ok (.ifCond .eq 8, 3) := by decide +kernel
theorem dX7_bribe_121 : decode cX7_bribe 121 = .ok (.iload 6, 2) := by decide +kernel
theorem dX7_bribe_123 : decode cX7_bribe 123 = .ok (.goto 5, 3) := by decide +kernel
theorem dX7_bribe_126 : decode cX7_bribe 126 = .ok (.iload 4, 2) := by decide +kernel
theorem dX7_bribe_128 : decode cX7_bribe 128 = .ok (.istore 4, 2) := by decide +kernel
theorem dX7_bribe_130 : decode cX7_bribe 130 = .ok (.iload 8, 2) := by decide +kernel
theorem dX7_bribe_132 : decode cX7_bribe 132 = .ok (.ifCond .eq 8, 3) := by decide +kernel
theorem dX7_bribe_135 : decode cX7_bribe 135 = .ok (.iload 7, 2) := by decide +kernel
theorem dX7_bribe_137 : decode cX7_bribe 137 = .ok (.goto 5, 3) := by decide +kernel
theorem dX7_bribe_140 : decode cX7_bribe 140 = .ok (.iload 5, 2) := by decide +kernel
theorem dX7_bribe_142 : decode cX7_bribe 142 = .ok (.istore 5, 2) := by decide +kernel
theorem dX7_bribe_144 : decode cX7_bribe 144 = .ok (.iinc 6 1, 3) := by decide +kernel
theorem dX7_bribe_147 : decode cX7_bribe 147 = .ok (.goto (-95), 3) := by decide +kernel
theorem dX7_bribe_150 : decode cX7_bribe 150 = .ok (.iload 4, 2) := by decide +kernel
theorem dX7_bribe_152 : decode cX7_bribe 152 = .ok (.bipush (-9), 2) := by decide +kernel
theorem dX7_bribe_154 : decode cX7_bribe 154 = .ok (.if_icmp .ne 6, 3) := by decide +kernel
theorem dX7_bribe_157 : decode cX7_bribe 157 = .ok (.bipush (-9), 2) := by decide +kernel
theorem dX7_bribe_159 : decode cX7_bribe 159 = .ok (.ireturn, 1) := by decide +kernel
theorem dX7_bribe_160 : decode cX7_bribe 160 = .ok (.iconst 0, 1) := by decide +kernel
theorem dX7_bribe_161 : decode cX7_bribe 161 = .ok (.istore 6, 2) := by decide +kernel
theorem dX7_bribe_163 : decode cX7_bribe 163 = .ok (.iload 6, 2) := by decide +kernel
theorem dX7_bribe_165 : decode cX7_bribe 165 = .ok (.aload_n 0, 1) := by decide +kernel
theorem dX7_bribe_166 : decode cX7_bribe 166 = .ok (.getfield 101, 3) := by decide +kernel
theorem dX7_bribe_169 : decode cX7_bribe 169 = .ok (.if_icmp .ge 33, 3) := by decide +kernel
theorem dX7_bribe_172 : decode cX7_bribe 172 = .ok (.aload_n 0, 1) := by decide +kernel
theorem dX7_bribe_173 : decode cX7_bribe 173 = .ok (.getfield 72, 3) := by decide +kernel
theorem dX7_bribe_176 : decode cX7_bribe 176 = .ok (.iload 6, 2) := by decide +kernel
theorem dX7_bribe_178 : decode cX7_bribe 178 = .ok (.aload_n 0, 1) := by decide +kernel
theorem dX7_bribe_179 : decode cX7_bribe 179 = .ok (.getfield 75, 3) := by decide +kernel
theorem dX7_bribe_182 : decode cX7_bribe 182 = .ok (.iconst 2, 1) := by decide +kernel
theorem dX7_bribe_183 : decode cX7_bribe 183 = .ok (.iload 6, 2) := by decide +kernel
theorem dX7_bribe_185 : decode cX7_bribe 185 = .ok (.imul, 1) := by decide +kernel
theorem dX7_bribe_186 : decode cX7_bribe 186 = .ok (.iload 4, 2) := by decide +kernel
theorem dX7_bribe_188 : decode cX7_bribe 188 = .ok (.iload 6, 2) := by decide +kernel
theorem dX7_bribe_190 : decode cX7_bribe 190 = .ok (.ishr, 1) := by decide +kernel
theorem dX7_bribe_191 : decode cX7_bribe 191 = .ok (.iconst 1, 1) := by decide +kernel
theorem dX7_bribe_192 : decode cX7_bribe 192 = .ok (.iand, 1) := by decide +kernel
theorem dX7_bribe_193 : decode cX7_bribe 193 = .ok (.iadd, 1) := by decide +kernel
theorem dX7_bribe_194 : decode cX7_bribe 194 = .ok (.iaload, 1) := by decide +kernel
theorem dX7_bribe_195 : decode cX7_bribe 195 = .ok (.iastore, 1) := by decide +kernel
theorem dX7_bribe_196 : decode cX7_bribe 196 = .ok (.iinc 6 1, 3) := by decide +kernel
theorem dX7_bribe_199 : decode cX7_bribe 199 = .ok (.goto (-36), 3) := by decide +kernel
theorem dX7_bribe_202 : decode cX7_bribe 202 = .ok (.aload_n 0, 1) := by decide +kernel
theorem dX7_bribe_203 : decode cX7_bribe 203 = .ok (.iload_n 3, 1) := by decide +kernel
theorem dX7_bribe_204 : decode cX7_bribe 204 = .ok (.invokevirtual 251, 3) := by decide +kernel
theorem dX7_bribe_207 : decode cX7_bribe 207 = .ok (.iload 5, 2) := by decide +kernel
theorem dX7_bribe_209 : decode cX7_bribe 209 = .ok (.ireturn, 1) := by decide +kernel
def F_X7_bribe_128 (fu : Nat) (k52 : Mm → Int32 → Int32 → Int32 → Int32 → Int32 → Option (Int32 × Mm)) (M : Mm) (x1 : Int32) (x3 : Int32) (x5 : Int32) (x6 : Int32) (x7 : Int32) (x8 : Int32) (t0 : Int32) : Option (Int32 × Mm) :=
  if x8 = 0 then
    k52 M x1 x3 t0 x5 (x6 + (1 : Int32))
  else
    k52 M x1 x3 t0 x7 (x6 + (1 : Int32))
set_option maxRecDepth 100000 in
set_option maxHeartbeats 4000000 in
theorem w_X7_bribe_128 {p : Program} {l : Launch} {e : Env} {s : State} {m : MethodId} {args : Array Value} {below : List Frame} {meth : Method} {c : Code} {G : Gv} (hC : Cx p s m args meth c cX7_bribe 9 (some .int) RX7) {fu : Nat} {r : Int32} {M' : Mm} {k52 : Mm → Int32 → Int32 → Int32 → Int32 → Int32 → Option (Int32 × Mm)} (hk_52 : ∀ {x1 : Int32} {x3 : Int32} {x4 : Int32} {x5 : Int32} {x6 : Int32} {M : Mm} {H : Heap} {locs : List Loc} {ls : Array Slot}, k52 M x1 x3 x4 x5 x6 = some (r, M') → St G s H locs M → lv_has ls 9 [(0, .ref (ad G 86)), (1, .int x1), (3, .int x3), (4, .int x4), (5, .int x5), (6, .int x6)] → W p l e rm_X7_bribe s m args below meth c H locs 0 0 (MQ below (QI G r M') args s 0 0 (zA G)) (F0 m 52 ls [])) {x1 : Int32} {x3 : Int32} {x5 : Int32} {x6 : Int32} {x7 : Int32} {x8 : Int32} {t0 : Int32} {M : Mm} {H : Heap} {locs : List Loc} {ls : Array Slot} (hF : F_X7_bribe_128 fu k52 M x1 x3 x5 x6 x7 x8 t0 = some (r, M')) (hw : St G s H locs M) (hl : lv_has ls 9 [(0, .ref (ad G 86)), (1, .int x1), (3, .int x3), (5, .int x5), (6, .int x6), (7, .int x7), (8, .int x8)]) : W p l e rm_X7_bribe s m args below meth c H locs 0 0 (MQ below (QI G r M') args s 0 0 (zA G)) (F0 m 128 ls [.int t0]) := by
  unfold F_X7_bribe_128 at hF
  refine lv_istore (lv' := [(4, .int t0), (0, .ref (ad G 86)), (1, .int x1), (3, .int x3), (5, .int x5), (6, .int x6), (7, .int x7), (8, .int x8)]) hC.1 hC.2.1 dX7_bribe_128 hl (by decide) rfl (fun ls hl => ?_)
  refine lv_iload hC.1 hC.2.1 dX7_bribe_130 (lv_at hl 7 rfl) ?_
  refine lv_if_eq (tgt := 140) hC.1 hC.2.1 dX7_bribe_132 (by decide) (fun b1 => ?_) (fun b1 => ?_)
  · have hF := ifP hF b1
    refine lv_iload hC.1 hC.2.1 dX7_bribe_140 (lv_at hl 4 rfl) ?_
    refine lv_istore (lv' := [(5, .int x5), (4, .int t0), (0, .ref (ad G 86)), (1, .int x1), (3, .int x3), (6, .int x6), (7, .int x7), (8, .int x8)]) hC.1 hC.2.1 dX7_bribe_142 hl (by decide) rfl (fun ls hl => ?_)
    refine lv_iinc (v := (x6 + (1 : Int32))) (lv' := [(6, .int (x6 + (1 : Int32))), (5, .int x5), (4, .int t0), (0, .ref (ad G 86)), (1, .int x1), (3, .int x3), (7, .int x7), (8, .int x8)]) hC.1 hC.2.1 dX7_bribe_144 hl (k := 5) rfl rfl (by decide) rfl (fun ls hl => ?_)
    refine lv_goto (tgt := 52) hC.1 hC.2.1 dX7_bribe_147 (by decide) ?_
    exact hk_52 hF hw (lv_sub hl [3, 4, 5, 2, 1, 0] rfl)
  · have hF := ifN hF b1
    refine lv_iload hC.1 hC.2.1 dX7_bribe_135 (lv_at hl 6 rfl) ?_
    refine lv_goto (tgt := 142) hC.1 hC.2.1 dX7_bribe_137 (by decide) ?_
    refine lv_istore (lv' := [(5, .int x7), (4, .int t0), (0, .ref (ad G 86)), (1, .int x1), (3, .int x3), (6, .int x6), (7, .int x7), (8, .int x8)]) hC.1 hC.2.1 dX7_bribe_142 hl (by decide) rfl (fun ls hl => ?_)
    refine lv_iinc (v := (x6 + (1 : Int32))) (lv' := [(6, .int (x6 + (1 : Int32))), (5, .int x7), (4, .int t0), (0, .ref (ad G 86)), (1, .int x1), (3, .int x3), (7, .int x7), (8, .int x8)]) hC.1 hC.2.1 dX7_bribe_144 hl (k := 5) rfl rfl (by decide) rfl (fun ls hl => ?_)
    refine lv_goto (tgt := 52) hC.1 hC.2.1 dX7_bribe_147 (by decide) ?_
    exact hk_52 hF hw (lv_sub hl [3, 4, 5, 2, 1, 0] rfl)
def F_X7_bribe_114 (fu : Nat) (k52 : Mm → Int32 → Int32 → Int32 → Int32 → Int32 → Option (Int32 × Mm)) (M : Mm) (x1 : Int32) (x3 : Int32) (x4 : Int32) (x5 : Int32) (x6 : Int32) (x7 : Int32) (t0 : Int32) : Option (Int32 × Mm) :=
  if t0 = 0 then
    F_X7_bribe_128 fu k52 M x1 x3 x5 x6 x7 t0 x4
  else
    F_X7_bribe_128 fu k52 M x1 x3 x5 x6 x7 t0 x6
set_option maxRecDepth 100000 in
set_option maxHeartbeats 4000000 in
theorem w_X7_bribe_114 {p : Program} {l : Launch} {e : Env} {s : State} {m : MethodId} {args : Array Value} {below : List Frame} {meth : Method} {c : Code} {G : Gv} (hC : Cx p s m args meth c cX7_bribe 9 (some .int) RX7) {fu : Nat} {r : Int32} {M' : Mm} {k52 : Mm → Int32 → Int32 → Int32 → Int32 → Int32 → Option (Int32 × Mm)} (hk_52 : ∀ {x1 : Int32} {x3 : Int32} {x4 : Int32} {x5 : Int32} {x6 : Int32} {M : Mm} {H : Heap} {locs : List Loc} {ls : Array Slot}, k52 M x1 x3 x4 x5 x6 = some (r, M') → St G s H locs M → lv_has ls 9 [(0, .ref (ad G 86)), (1, .int x1), (3, .int x3), (4, .int x4), (5, .int x5), (6, .int x6)] → W p l e rm_X7_bribe s m args below meth c H locs 0 0 (MQ below (QI G r M') args s 0 0 (zA G)) (F0 m 52 ls [])) {x1 : Int32} {x3 : Int32} {x4 : Int32} {x5 : Int32} {x6 : Int32} {x7 : Int32} {t0 : Int32} {M : Mm} {H : Heap} {locs : List Loc} {ls : Array Slot} (hF : F_X7_bribe_114 fu k52 M x1 x3 x4 x5 x6 x7 t0 = some (r, M')) (hw : St G s H locs M) (hl : lv_has ls 9 [(0, .ref (ad G 86)), (1, .int x1), (3, .int x3), (4, .int x4), (5, .int x5), (6, .int x6), (7, .int x7)]) : W p l e rm_X7_bribe s m args below meth c H locs 0 0 (MQ below (QI G r M') args s 0 0 (zA G)) (F0 m 114 ls [.int t0]) := by
  unfold F_X7_bribe_114 at hF
  refine lv_istore (lv' := [(8, .int t0), (0, .ref (ad G 86)), (1, .int x1), (3, .int x3), (4, .int x4), (5, .int x5), (6, .int x6), (7, .int x7)]) hC.1 hC.2.1 dX7_bribe_114 hl (by decide) rfl (fun ls hl => ?_)
  refine lv_iload hC.1 hC.2.1 dX7_bribe_116 (lv_at hl 0 rfl) ?_
  refine lv_if_eq (tgt := 126) hC.1 hC.2.1 dX7_bribe_118 (by decide) (fun b1 => ?_) (fun b1 => ?_)
  · have hF := ifP hF b1
    refine lv_iload hC.1 hC.2.1 dX7_bribe_126 (lv_at hl 4 rfl) ?_
    exact w_X7_bribe_128 hC (hk_52 := hk_52) hF hw (lv_sub hl [1, 2, 3, 5, 6, 7, 0] rfl)
  · have hF := ifN hF b1
    refine lv_iload hC.1 hC.2.1 dX7_bribe_121 (lv_at hl 6 rfl) ?_
    refine lv_goto (tgt := 128) hC.1 hC.2.1 dX7_bribe_123 (by decide) ?_
    exact w_X7_bribe_128 hC (hk_52 := hk_52) hF hw (lv_sub hl [1, 2, 3, 5, 6, 7, 0] rfl)
def F_X7_bribe_113 (fu : Nat) (k52 : Mm → Int32 → Int32 → Int32 → Int32 → Int32 → Option (Int32 × Mm)) (M : Mm) (x1 : Int32) (x3 : Int32) (x4 : Int32) (x5 : Int32) (x6 : Int32) (x7 : Int32) : Option (Int32 × Mm) :=
  F_X7_bribe_114 fu k52 M x1 x3 x4 x5 x6 x7 (0 : Int32)
set_option maxRecDepth 100000 in
set_option maxHeartbeats 4000000 in
theorem w_X7_bribe_113 {p : Program} {l : Launch} {e : Env} {s : State} {m : MethodId} {args : Array Value} {below : List Frame} {meth : Method} {c : Code} {G : Gv} (hC : Cx p s m args meth c cX7_bribe 9 (some .int) RX7) {fu : Nat} {r : Int32} {M' : Mm} {k52 : Mm → Int32 → Int32 → Int32 → Int32 → Int32 → Option (Int32 × Mm)} (hk_52 : ∀ {x1 : Int32} {x3 : Int32} {x4 : Int32} {x5 : Int32} {x6 : Int32} {M : Mm} {H : Heap} {locs : List Loc} {ls : Array Slot}, k52 M x1 x3 x4 x5 x6 = some (r, M') → St G s H locs M → lv_has ls 9 [(0, .ref (ad G 86)), (1, .int x1), (3, .int x3), (4, .int x4), (5, .int x5), (6, .int x6)] → W p l e rm_X7_bribe s m args below meth c H locs 0 0 (MQ below (QI G r M') args s 0 0 (zA G)) (F0 m 52 ls [])) {x1 : Int32} {x3 : Int32} {x4 : Int32} {x5 : Int32} {x6 : Int32} {x7 : Int32} {M : Mm} {H : Heap} {locs : List Loc} {ls : Array Slot} (hF : F_X7_bribe_113 fu k52 M x1 x3 x4 x5 x6 x7 = some (r, M')) (hw : St G s H locs M) (hl : lv_has ls 9 [(0, .ref (ad G 86)), (1, .int x1), (3, .int x3), (4, .int x4), (5, .int x5), (6, .int x6), (7, .int x7)]) : W p l e rm_X7_bribe s m args below meth c H locs 0 0 (MQ below (QI G r M') args s 0 0 (zA G)) (F0 m 113 ls []) := by
  unfold F_X7_bribe_113 at hF
  refine lv_iconst (v := (0 : Int32)) hC.1 hC.2.1 dX7_bribe_113 (by decide) ?_
  exact w_X7_bribe_114 hC (hk_52 := hk_52) hF hw (lv_sub hl [0, 1, 2, 3, 4, 5, 6] rfl)
def F_X7_bribe_93 (fu : Nat) (k52 : Mm → Int32 → Int32 → Int32 → Int32 → Int32 → Option (Int32 × Mm)) (M : Mm) (x1 : Int32) (x3 : Int32) (x4 : Int32) (x5 : Int32) (x6 : Int32) (t0 : Int32) : Option (Int32 × Mm) :=
  if t0 = (-9 : Int32) then
    F_X7_bribe_113 fu k52 M x1 x3 x4 x5 x6 t0
  else
    if x5 ≤ t0 then
      F_X7_bribe_113 fu k52 M x1 x3 x4 x5 x6 t0
    else
      F_X7_bribe_114 fu k52 M x1 x3 x4 x5 x6 t0 (1 : Int32)
set_option maxRecDepth 100000 in
set_option maxHeartbeats 4000000 in
theorem w_X7_bribe_93 {p : Program} {l : Launch} {e : Env} {s : State} {m : MethodId} {args : Array Value} {below : List Frame} {meth : Method} {c : Code} {G : Gv} (hC : Cx p s m args meth c cX7_bribe 9 (some .int) RX7) {fu : Nat} {r : Int32} {M' : Mm} {k52 : Mm → Int32 → Int32 → Int32 → Int32 → Int32 → Option (Int32 × Mm)} (hk_52 : ∀ {x1 : Int32} {x3 : Int32} {x4 : Int32} {x5 : Int32} {x6 : Int32} {M : Mm} {H : Heap} {locs : List Loc} {ls : Array Slot}, k52 M x1 x3 x4 x5 x6 = some (r, M') → St G s H locs M → lv_has ls 9 [(0, .ref (ad G 86)), (1, .int x1), (3, .int x3), (4, .int x4), (5, .int x5), (6, .int x6)] → W p l e rm_X7_bribe s m args below meth c H locs 0 0 (MQ below (QI G r M') args s 0 0 (zA G)) (F0 m 52 ls [])) {x1 : Int32} {x3 : Int32} {x4 : Int32} {x5 : Int32} {x6 : Int32} {t0 : Int32} {M : Mm} {H : Heap} {locs : List Loc} {ls : Array Slot} (hF : F_X7_bribe_93 fu k52 M x1 x3 x4 x5 x6 t0 = some (r, M')) (hw : St G s H locs M) (hl : lv_has ls 9 [(0, .ref (ad G 86)), (1, .int x1), (3, .int x3), (4, .int x4), (5, .int x5), (6, .int x6)]) : W p l e rm_X7_bribe s m args below meth c H locs 0 0 (MQ below (QI G r M') args s 0 0 (zA G)) (F0 m 93 ls [.int t0]) := by
  unfold F_X7_bribe_93 at hF
  refine lv_istore (lv' := [(7, .int t0), (0, .ref (ad G 86)), (1, .int x1), (3, .int x3), (4, .int x4), (5, .int x5), (6, .int x6)]) hC.1 hC.2.1 dX7_bribe_93 hl (by decide) rfl (fun ls hl => ?_)
  refine lv_iload hC.1 hC.2.1 dX7_bribe_95 (lv_at hl 0 rfl) ?_
  refine lv_bipush (v := (-9 : Int32)) hC.1 hC.2.1 dX7_bribe_97 (by decide) ?_
  refine lv_icmp_eq (tgt := 113) hC.1 hC.2.1 dX7_bribe_99 (by decide) (fun b1 => ?_) (fun b1 => ?_)
  · have hF := ifP hF b1
    exact w_X7_bribe_113 hC (hk_52 := hk_52) hF hw (lv_sub hl [1, 2, 3, 4, 5, 6, 0] rfl)
  · have hF := ifN hF b1
    refine lv_iload hC.1 hC.2.1 dX7_bribe_102 (lv_at hl 0 rfl) ?_
    refine lv_iload hC.1 hC.2.1 dX7_bribe_104 (lv_at hl 5 rfl) ?_
    refine lv_icmp_ge (tgt := 113) hC.1 hC.2.1 dX7_bribe_106 (by decide) (fun b2 => ?_) (fun b2 => ?_)
    · have hF := ifP hF b2
      exact w_X7_bribe_113 hC (hk_52 := hk_52) hF hw (lv_sub hl [1, 2, 3, 4, 5, 6, 0] rfl)
    · have hF := ifN hF b2
      refine lv_iconst (v := (1 : Int32)) hC.1 hC.2.1 dX7_bribe_109 (by decide) ?_
      refine lv_goto (tgt := 114) hC.1 hC.2.1 dX7_bribe_110 (by decide) ?_
      exact w_X7_bribe_114 hC (hk_52 := hk_52) hF hw (lv_sub hl [1, 2, 3, 4, 5, 6, 0] rfl)
def F_X7_bribe_79 (fu : Nat) (k52 : Mm → Int32 → Int32 → Int32 → Int32 → Int32 → Option (Int32 × Mm)) (M : Mm) (x1 : Int32) (x3 : Int32) (x4 : Int32) (x5 : Int32) (x6 : Int32) (t0 : Int32) (t1 : Int32) : Option (Int32 × Mm) :=
  if t0 = t1 then
    ob1 (F_X7_costs fu M x6) (fun r3 =>
    F_X7_bribe_93 fu k52 M x1 x3 x4 x5 x6 r3)
  else
    F_X7_bribe_93 fu k52 M x1 x3 x4 x5 x6 (-9 : Int32)
set_option maxRecDepth 100000 in
set_option maxHeartbeats 4000000 in
theorem w_X7_bribe_79 {p : Program} {l : Launch} {e : Env} {s : State} {m : MethodId} {args : Array Value} {below : List Frame} {meth : Method} {c : Code} {G : Gv} (hC : Cx p s m args meth c cX7_bribe 9 (some .int) RX7) {fu : Nat} {r : Int32} {M' : Mm} {k52 : Mm → Int32 → Int32 → Int32 → Int32 → Int32 → Option (Int32 × Mm)} (hk_52 : ∀ {x1 : Int32} {x3 : Int32} {x4 : Int32} {x5 : Int32} {x6 : Int32} {M : Mm} {H : Heap} {locs : List Loc} {ls : Array Slot}, k52 M x1 x3 x4 x5 x6 = some (r, M') → St G s H locs M → lv_has ls 9 [(0, .ref (ad G 86)), (1, .int x1), (3, .int x3), (4, .int x4), (5, .int x5), (6, .int x6)] → W p l e rm_X7_bribe s m args below meth c H locs 0 0 (MQ below (QI G r M') args s 0 0 (zA G)) (F0 m 52 ls [])) {x1 : Int32} {x3 : Int32} {x4 : Int32} {x5 : Int32} {x6 : Int32} {t0 : Int32} {t1 : Int32} {M : Mm} {H : Heap} {locs : List Loc} {ls : Array Slot} (hF : F_X7_bribe_79 fu k52 M x1 x3 x4 x5 x6 t0 t1 = some (r, M')) (hw : St G s H locs M) (hl : lv_has ls 9 [(0, .ref (ad G 86)), (1, .int x1), (3, .int x3), (4, .int x4), (5, .int x5), (6, .int x6)]) : W p l e rm_X7_bribe s m args below meth c H locs 0 0 (MQ below (QI G r M') args s 0 0 (zA G)) (F0 m 79 ls [.int t1, .int t0]) := by
  unfold F_X7_bribe_79 at hF
  refine lv_icmp_ne (tgt := 91) hC.1 hC.2.1 dX7_bribe_79 (by decide) (fun b1 => ?_) (fun b1 => ?_)
  · have hF := ifN hF b1
    refine lv_bipush (v := (-9 : Int32)) hC.1 hC.2.1 dX7_bribe_91 (by decide) ?_
    exact w_X7_bribe_93 hC (hk_52 := hk_52) hF hw (lv_sub hl [0, 1, 2, 3, 4, 5] rfl)
  · have hF := ifP hF b1
    refine lv_aload_n hC.1 hC.2.1 dX7_bribe_82 rfl (lv_at hl 0 rfl) ?_
    refine lv_iload hC.1 hC.2.1 dX7_bribe_83 (lv_at hl 5 rfl) ?_
    obtain ⟨r3, h2, hF⟩ := ob1S hF
    refine k_Vi (As := [.int x6]) (rest := []) hC hw (c_X7_costs (M := M) h2) RC_X yv_X7_costs q6_24 ⟨rfl, rfl⟩ ⟨Nat.le_of_ble_eq_true rfl, Nat.le_of_ble_eq_true rfl⟩ ⟨Nat.zero_le _, Nat.zero_le _⟩ rfl rfl (Nat.le_of_ble_eq_true rfl) hl dX7_bribe_85 (fun H locs hw => ?_)
    refine lv_goto (tgt := 93) hC.1 hC.2.1 dX7_bribe_88 (by decide) ?_
    exact w_X7_bribe_93 hC (hk_52 := hk_52) hF hw (lv_sub hl [0, 1, 2, 3, 4, 5] rfl)
def F_X7_bribe_163 (fu : Nat) : Nat → Mm → Int32 → Int32 → Int32 → Int32 → Option (Int32 × Mm)
  | 0, _, _, _, _, _ => none
  | n + 1, M, x3, x4, x5, x6 =>
    if (M.1 86 4) ≤ x6 then
      ob1 (F_X7_tellShades fu M x3) (fun M3 =>
      some (x5, M3))
    else
      if (((2 : Int32) * x6) + ((x4 >>> (x6 &&& 31)) &&& (1 : Int32))) < 0 ∨ ln 107 ≤ (((2 : Int32) * x6) + ((x4 >>> (x6 &&& 31)) &&& (1 : Int32))).toNatClampNeg then none else (
      if x6 < 0 ∨ ln 106 ≤ x6.toNatClampNeg then none else (
      lt1 (pI M 106 x6.toNatClampNeg (M.1 107 (((2 : Int32) * x6) + ((x4 >>> (x6 &&& 31)) &&& (1 : Int32))).toNatClampNeg)) (fun M6 =>
      F_X7_bribe_163 fu n M6 x3 x4 x5 (x6 + (1 : Int32)))))
set_option maxRecDepth 100000 in
set_option maxHeartbeats 4000000 in
theorem w_X7_bribe_163 {p : Program} {l : Launch} {e : Env} {s : State} {m : MethodId} {args : Array Value} {below : List Frame} {meth : Method} {c : Code} {G : Gv} (hC : Cx p s m args meth c cX7_bribe 9 (some .int) RX7) {fu : Nat} {r : Int32} {M' : Mm} : ∀ (n : Nat) {x3 : Int32} {x4 : Int32} {x5 : Int32} {x6 : Int32} {M : Mm} {H : Heap} {locs : List Loc} {ls : Array Slot}, F_X7_bribe_163 fu n M x3 x4 x5 x6 = some (r, M') → St G s H locs M → lv_has ls 9 [(0, .ref (ad G 86)), (3, .int x3), (4, .int x4), (5, .int x5), (6, .int x6)] → W p l e rm_X7_bribe s m args below meth c H locs 0 0 (MQ below (QI G r M') args s 0 0 (zA G)) (F0 m 163 ls []) := by
  intro n
  induction n with
  | zero =>
    intro x3 x4 x5 x6 M H locs ls hF hw hl
    cases hF
  | succ n ih =>
    intro x3 x4 x5 x6 M H locs ls hF hw hl
    unfold F_X7_bribe_163 at hF
    refine lv_iload hC.1 hC.2.1 dX7_bribe_163 (lv_at hl 4 rfl) ?_
    refine lv_aload_n hC.1 hC.2.1 dX7_bribe_165 rfl (lv_at hl 0 rfl) ?_
    refine g7_men hC hw q4_126 dX7_bribe_166 ?_
    refine lv_icmp_ge (tgt := 202) hC.1 hC.2.1 dX7_bribe_169 (by decide) (fun b1 => ?_) (fun b1 => ?_)
    · have hF := ifP hF b1
      refine lv_aload_n hC.1 hC.2.1 dX7_bribe_202 rfl (lv_at hl 0 rfl) ?_
      refine lv_iload_n hC.1 hC.2.1 dX7_bribe_203 rfl (lv_at hl 1 rfl) ?_
      obtain ⟨M3, h2, hF⟩ := ob1S hF
      refine k_Vv (As := [.int x3]) (rest := []) hC hw (c_X7_tellShades (M := M) h2) RC_X yv_X7_tellShades q6_9 ⟨rfl, rfl⟩ ⟨Nat.le_of_ble_eq_true rfl, Nat.le_of_ble_eq_true rfl⟩ ⟨Nat.zero_le _, Nat.zero_le _⟩ rfl rfl (Nat.le_of_ble_eq_true rfl) hl dX7_bribe_204 (fun H locs hw => ?_)
      refine lv_iload hC.1 hC.2.1 dX7_bribe_207 (lv_at hl 3 rfl) ?_
      exact r_iretE hC hw hF dX7_bribe_209
    · have hF := ifN hF b1
      refine lv_aload_n hC.1 hC.2.1 dX7_bribe_172 rfl (lv_at hl 0 rfl) ?_
      refine g7_shadesThen hC hw q4_152 dX7_bribe_173 ?_
      refine lv_iload hC.1 hC.2.1 dX7_bribe_176 (lv_at hl 4 rfl) ?_
      refine lv_aload_n hC.1 hC.2.1 dX7_bribe_178 rfl (lv_at hl 0 rfl) ?_
      refine g7_shadeFor hC hw q4_153 dX7_bribe_179 ?_
      refine lv_iconst (v := (2 : Int32)) hC.1 hC.2.1 dX7_bribe_182 (by decide) ?_
      refine lv_iload hC.1 hC.2.1 dX7_bribe_183 (lv_at hl 4 rfl) ?_
      refine lv_imul hC.1 hC.2.1 dX7_bribe_185 ?_
      refine lv_iload hC.1 hC.2.1 dX7_bribe_186 (lv_at hl 2 rfl) ?_
      refine lv_iload hC.1 hC.2.1 dX7_bribe_188 (lv_at hl 4 rfl) ?_
      refine lv_ishr hC.1 hC.2.1 dX7_bribe_190 ?_
      refine lv_iconst (v := (1 : Int32)) hC.1 hC.2.1 dX7_bribe_191 (by decide) ?_
      refine lv_iand hC.1 hC.2.1 dX7_bribe_192 ?_
      refine lv_iadd hC.1 hC.2.1 dX7_bribe_193 ?_
      obtain ⟨n4, hF⟩ := ifO hF
      refine r_iald hC.1 hC.2.1 hw (rfl : kd 107 = 1) n4 dX7_bribe_194 ?_
      obtain ⟨n5, hF⟩ := ifO hF
      refine r_iast hC.1 hC.2.1 hw (rfl : kd 106 = 1) n5 dX7_bribe_195 (fun H locs hw => ?_)
      obtain ⟨M6, hw, hF⟩ := lt1W hF hw
      refine lv_iinc (v := (x6 + (1 : Int32))) (lv' := [(6, .int (x6 + (1 : Int32))), (0, .ref (ad G 86)), (3, .int x3), (4, .int x4), (5, .int x5)]) hC.1 hC.2.1 dX7_bribe_196 hl (k := 4) rfl rfl (by decide) rfl (fun ls hl => ?_)
      refine lv_goto (tgt := 163) hC.1 hC.2.1 dX7_bribe_199 (by decide) ?_
      exact ih hF hw (lv_sub hl [1, 2, 3, 4, 0] rfl)
def F_X7_bribe_52 (fu : Nat) : Nat → Mm → Int32 → Int32 → Int32 → Int32 → Int32 → Option (Int32 × Mm)
  | 0, _, _, _, _, _, _ => none
  | n + 1, M, x1, x3, x4, x5, x6 =>
    if ((1 : Int32) <<< ((M.1 86 4) &&& 31)) ≤ x6 then
      if x4 = (-9 : Int32) then
        some ((-9 : Int32), M)
      else
        F_X7_bribe_163 fu fu M x3 x4 x5 (0 : Int32)
    else
      ob1 (F_X7_isCarried fu M x6) (fun r4 =>
      if x1 = (1 : Int32) then
        F_X7_bribe_79 fu (F_X7_bribe_52 fu n) M x1 x3 x4 x5 x6 r4 (1 : Int32)
      else
        F_X7_bribe_79 fu (F_X7_bribe_52 fu n) M x1 x3 x4 x5 x6 r4 (0 : Int32))
set_option maxRecDepth 100000 in
set_option maxHeartbeats 4000000 in
theorem w_X7_bribe_52 {p : Program} {l : Launch} {e : Env} {s : State} {m : MethodId} {args : Array Value} {below : List Frame} {meth : Method} {c : Code} {G : Gv} (hC : Cx p s m args meth c cX7_bribe 9 (some .int) RX7) {fu : Nat} {r : Int32} {M' : Mm} : ∀ (n : Nat) {x1 : Int32} {x3 : Int32} {x4 : Int32} {x5 : Int32} {x6 : Int32} {M : Mm} {H : Heap} {locs : List Loc} {ls : Array Slot}, F_X7_bribe_52 fu n M x1 x3 x4 x5 x6 = some (r, M') → St G s H locs M → lv_has ls 9 [(0, .ref (ad G 86)), (1, .int x1), (3, .int x3), (4, .int x4), (5, .int x5), (6, .int x6)] → W p l e rm_X7_bribe s m args below meth c H locs 0 0 (MQ below (QI G r M') args s 0 0 (zA G)) (F0 m 52 ls []) := by
  intro n
  induction n with
  | zero =>
    intro x1 x3 x4 x5 x6 M H locs ls hF hw hl
    cases hF
  | succ n ih =>
    intro x1 x3 x4 x5 x6 M H locs ls hF hw hl
    unfold F_X7_bribe_52 at hF
    refine lv_iload hC.1 hC.2.1 dX7_bribe_52 (lv_at hl 5 rfl) ?_
    refine lv_iconst (v := (1 : Int32)) hC.1 hC.2.1 dX7_bribe_54 (by decide) ?_
    refine lv_aload_n hC.1 hC.2.1 dX7_bribe_55 rfl (lv_at hl 0 rfl) ?_
    refine g7_men hC hw q4_126 dX7_bribe_56 ?_
    refine lv_ishl hC.1 hC.2.1 dX7_bribe_59 ?_
    refine lv_icmp_ge (tgt := 150) hC.1 hC.2.1 dX7_bribe_60 (by decide) (fun b1 => ?_) (fun b1 => ?_)
    · have hF := ifP hF b1
      refine lv_iload hC.1 hC.2.1 dX7_bribe_150 (lv_at hl 3 rfl) ?_
      refine lv_bipush (v := (-9 : Int32)) hC.1 hC.2.1 dX7_bribe_152 (by decide) ?_
      refine lv_icmp_ne (tgt := 160) hC.1 hC.2.1 dX7_bribe_154 (by decide) (fun b2 => ?_) (fun b2 => ?_)
      · have hF := ifN hF b2
        refine lv_iconst (v := (0 : Int32)) hC.1 hC.2.1 dX7_bribe_160 (by decide) ?_
        refine lv_istore (lv' := [(6, .int (0 : Int32)), (0, .ref (ad G 86)), (1, .int x1), (3, .int x3), (4, .int x4), (5, .int x5)]) hC.1 hC.2.1 dX7_bribe_161 hl (by decide) rfl (fun ls hl => ?_)
        exact w_X7_bribe_163 hC _ hF hw (lv_sub hl [1, 3, 4, 5, 0] rfl)
      · have hF := ifP hF b2
        refine lv_bipush (v := (-9 : Int32)) hC.1 hC.2.1 dX7_bribe_157 (by decide) ?_
        exact r_iretE hC hw hF dX7_bribe_159
    · have hF := ifN hF b1
      refine lv_aload_n hC.1 hC.2.1 dX7_bribe_63 rfl (lv_at hl 0 rfl) ?_
      refine lv_iload hC.1 hC.2.1 dX7_bribe_64 (lv_at hl 5 rfl) ?_
      obtain ⟨r4, h3, hF⟩ := ob1S hF
      refine k_Vi (As := [.int x6]) (rest := []) hC hw (c_X7_isCarried (M := M) h3) RC_X yv_X7_isCarried q5_224 ⟨rfl, rfl⟩ ⟨Nat.le_of_ble_eq_true rfl, Nat.le_of_ble_eq_true rfl⟩ ⟨Nat.zero_le _, Nat.zero_le _⟩ rfl rfl (Nat.le_of_ble_eq_true rfl) hl dX7_bribe_66 (fun H locs hw => ?_)
      refine lv_iload_n hC.1 hC.2.1 dX7_bribe_69 rfl (lv_at hl 1 rfl) ?_
      refine lv_iconst (v := (1 : Int32)) hC.1 hC.2.1 dX7_bribe_70 (by decide) ?_
      refine lv_icmp_ne (tgt := 78) hC.1 hC.2.1 dX7_bribe_71 (by decide) (fun b5 => ?_) (fun b5 => ?_)
      · have hF := ifN hF b5
        refine lv_iconst (v := (0 : Int32)) hC.1 hC.2.1 dX7_bribe_78 (by decide) ?_
        exact w_X7_bribe_79 hC (hk_52 := ih) hF hw (lv_sub hl [0, 1, 2, 3, 4, 5] rfl)
      · have hF := ifP hF b5
        refine lv_iconst (v := (1 : Int32)) hC.1 hC.2.1 dX7_bribe_74 (by decide) ?_
        refine lv_goto (tgt := 79) hC.1 hC.2.1 dX7_bribe_75 (by decide) ?_
        exact w_X7_bribe_79 hC (hk_52 := ih) hF hw (lv_sub hl [0, 1, 2, 3, 4, 5] rfl)
def F_X7_bribe (fu : Nat) (M : Mm) (x1 : Int32) (x2 : Int32) (x3 : Int32) : Option (Int32 × Mm) :=
  ob1 (F_X7_in fu M x1.toInt64 (0 : Int64) (1 : Int64)) (fun r2 =>
  if r2 = 0 then
    some ((-1 : Int32), M)
  else
    ob1 (F_X7_isAhead fu M x2) (fun r5 =>
    if r5 = 0 then
      some ((-1 : Int32), M)
    else
      ob1 (F_X7_isRow fu M x3) (fun r8 =>
      if r8 = 0 then
        some ((-1 : Int32), M)
      else
        if (M.1 86 4) = 0 then
          some ((-4 : Int32), M)
        else
          ob1 (F_X7_layShades fu M x2) (fun M12 =>
          F_X7_bribe_52 fu fu M12 x1 x3 (-9 : Int32) (1000000 : Int32) (0 : Int32)))))
set_option maxRecDepth 100000 in
set_option maxHeartbeats 4000000 in
theorem c_X7_bribe {l : Launch} {G : Gv} {fu : Nat} {M : Mm} {x1 : Int32} {x2 : Int32} {x3 : Int32} {r : Int32} {M' : Mm} (hF : F_X7_bribe fu M x1 x2 x3 = some (r, M')) : Met l yX7_bribe (.code yX7_bribe cX7_bribe 9 (some .int) :: zU) rm_X7_bribe (va_Pc [.ref (ad G 86), .int x1, .int x2, .int x3] (Wd G M)) (QI G r M') 0 0 (zA G) := by
  refine zMet (by decide) rfl (Nat.le_of_ble_eq_true rfl) ?_
  intro p e s m below meth c hC hw ls hl
  have hl : lv_has ls 9 [(0, .ref (ad G 86)), (1, .int x1), (2, .int x2), (3, .int x3)] := hl
  unfold F_X7_bribe at hF
  refine lv_iload_n hC.1 hC.2.1 dX7_bribe_0 rfl (lv_at hl 1 rfl) ?_
  refine lv_i2l hC.1 hC.2.1 dX7_bribe_1 rfl ?_
  refine lv_lconst (v := (0 : Int64)) hC.1 hC.2.1 dX7_bribe_2 (by decide) ?_
  refine lv_lconst (v := (1 : Int64)) hC.1 hC.2.1 dX7_bribe_3 (by decide) ?_
  obtain ⟨r2, h1, hF⟩ := ob1S hF
  refine k_Si (As := [.long x1.toInt64, .long (0 : Int64), .long (1 : Int64)]) (rest := []) hC hw (c_X7_in (M := M) h1) ys_X7_in q5_3 ⟨rfl, rfl⟩ ⟨Nat.le_of_ble_eq_true rfl, Nat.le_of_ble_eq_true rfl⟩ ⟨Nat.zero_le _, Nat.zero_le _⟩ rfl rfl (Nat.le_of_ble_eq_true rfl) hl dX7_bribe_4 (fun H locs hw => ?_)
  refine lv_if_eq (tgt := 24) hC.1 hC.2.1 dX7_bribe_7 (by decide) (fun b3 => ?_) (fun b3 => ?_)
  · have hF := ifP hF b3
    refine lv_iconst (v := (-1 : Int32)) hC.1 hC.2.1 dX7_bribe_24 (by decide) ?_
    exact r_iretE hC hw hF dX7_bribe_25
  · have hF := ifN hF b3
    refine lv_iload_n hC.1 hC.2.1 dX7_bribe_10 rfl (lv_at hl 2 rfl) ?_
    obtain ⟨r5, h4, hF⟩ := ob1S hF
    refine k_Si (As := [.int x2]) (rest := []) hC hw (c_X7_isAhead (M := M) h4) ys_X7_isAhead q5_204 ⟨rfl, rfl⟩ ⟨Nat.le_of_ble_eq_true rfl, Nat.le_of_ble_eq_true rfl⟩ ⟨Nat.zero_le _, Nat.zero_le _⟩ rfl rfl (Nat.le_of_ble_eq_true rfl) hl dX7_bribe_11 (fun H locs hw => ?_)
    refine lv_if_eq (tgt := 24) hC.1 hC.2.1 dX7_bribe_14 (by decide) (fun b6 => ?_) (fun b6 => ?_)
    · have hF := ifP hF b6
      refine lv_iconst (v := (-1 : Int32)) hC.1 hC.2.1 dX7_bribe_24 (by decide) ?_
      exact r_iretE hC hw hF dX7_bribe_25
    · have hF := ifN hF b6
      refine lv_iload_n hC.1 hC.2.1 dX7_bribe_17 rfl (lv_at hl 3 rfl) ?_
      obtain ⟨r8, h7, hF⟩ := ob1S hF
      refine k_Si (As := [.int x3]) (rest := []) hC hw (c_X7_isRow (M := M) h7) ys_X7_isRow q4_239 ⟨rfl, rfl⟩ ⟨Nat.le_of_ble_eq_true rfl, Nat.le_of_ble_eq_true rfl⟩ ⟨Nat.zero_le _, Nat.zero_le _⟩ rfl rfl (Nat.le_of_ble_eq_true rfl) hl dX7_bribe_18 (fun H locs hw => ?_)
      refine lv_if_ne (tgt := 26) hC.1 hC.2.1 dX7_bribe_21 (by decide) (fun b9 => ?_) (fun b9 => ?_)
      · have hF := ifN hF b9
        refine lv_aload_n hC.1 hC.2.1 dX7_bribe_26 rfl (lv_at hl 0 rfl) ?_
        refine g7_men hC hw q4_126 dX7_bribe_27 ?_
        refine lv_if_ne (tgt := 36) hC.1 hC.2.1 dX7_bribe_30 (by decide) (fun b10 => ?_) (fun b10 => ?_)
        · have hF := ifN hF b10
          refine lv_aload_n hC.1 hC.2.1 dX7_bribe_36 rfl (lv_at hl 0 rfl) ?_
          refine lv_iload_n hC.1 hC.2.1 dX7_bribe_37 rfl (lv_at hl 2 rfl) ?_
          obtain ⟨M12, h11, hF⟩ := ob1S hF
          refine k_Vv (As := [.int x2]) (rest := []) hC hw (c_X7_layShades (M := M) h11) RC_X yv_X7_layShades q6_17 ⟨rfl, rfl⟩ ⟨Nat.le_of_ble_eq_true rfl, Nat.le_of_ble_eq_true rfl⟩ ⟨Nat.zero_le _, Nat.zero_le _⟩ rfl rfl (Nat.le_of_ble_eq_true rfl) hl dX7_bribe_38 (fun H locs hw => ?_)
          refine lv_bipush (v := (-9 : Int32)) hC.1 hC.2.1 dX7_bribe_41 (by decide) ?_
          refine lv_istore (lv' := [(4, .int (-9 : Int32)), (0, .ref (ad G 86)), (1, .int x1), (2, .int x2), (3, .int x3)]) hC.1 hC.2.1 dX7_bribe_43 hl (by decide) rfl (fun ls hl => ?_)
          refine lv_ldc (v := (1000000 : Int32)) hC.1 hC.2.1 hC.2.2.2.1 (hC.2.2.2.2.1 _ q5_236) dX7_bribe_45 ?_
          refine lv_istore (lv' := [(5, .int (1000000 : Int32)), (4, .int (-9 : Int32)), (0, .ref (ad G 86)), (1, .int x1), (2, .int x2), (3, .int x3)]) hC.1 hC.2.1 dX7_bribe_47 hl (by decide) rfl (fun ls hl => ?_)
          refine lv_iconst (v := (0 : Int32)) hC.1 hC.2.1 dX7_bribe_49 (by decide) ?_
          refine lv_istore (lv' := [(6, .int (0 : Int32)), (5, .int (1000000 : Int32)), (4, .int (-9 : Int32)), (0, .ref (ad G 86)), (1, .int x1), (2, .int x2), (3, .int x3)]) hC.1 hC.2.1 dX7_bribe_50 hl (by decide) rfl (fun ls hl => ?_)
          exact w_X7_bribe_52 hC _ hF hw (lv_sub hl [3, 4, 6, 2, 1, 0] rfl)
        · have hF := ifP hF b10
          refine lv_bipush (v := (-4 : Int32)) hC.1 hC.2.1 dX7_bribe_33 (by decide) ?_
          exact r_iretE hC hw hF dX7_bribe_35
      · have hF := ifP hF b9
        refine lv_iconst (v := (-1 : Int32)) hC.1 hC.2.1 dX7_bribe_24 (by decide) ?_
        exact r_iretE hC hw hF dX7_bribe_25
