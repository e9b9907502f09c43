abbrev rm_X7_isCarriedThen : Room := { frames := 5, cells := 0, slots := 0, locals := 116 }
theorem yv_X7_isCarriedThen : YV yX7_isCarriedThen cX7_isCarriedThen 1 (some .boolean) 0 RX7 := ⟨⟨q6_78, qs_66, q1_8, q6_79⟩, by decide +kernel⟩
theorem dX7_isCarriedThen_0 : decode cX7_isCarriedThen 0 = .ok (.aload_n 0, 1) := by decide +kernel
theorem dX7_isCarriedThen_1 : decode cX7_isCarriedThen 1 = .ok (.aload_n 0, 1) := by decide +kernel
theorem dX7_isCarriedThen_2 : decode cX7_isCarriedThen 2 = .ok (.iconst 3, 1) := by decide +kernel
theorem dX7_isCarriedThen_3 : decode cX7_isCarriedThen 3 = .ok (.invokevirtual 200, 3) := by decide +kernel
theorem dX7_isCarriedThen_6 : decode cX7_isCarriedThen 6 = .ok (.invokevirtual 244, 3) := by decide +kernel
theorem dX7_isCarriedThen_9 : decode cX7_isCarriedThen 9 = .ok (.ireturn, 1) := by decide +kernel
def F_X7_isCarriedThen (fu : Nat) (M : Mm) : Option Int32 :=
  ob1 (F_X7_whoThen fu M (3 : Int32)) (fun r2 =>
  ob1 (F_X7_isCarried fu M r2) (fun r4 =>
  if ¬ (r4 = 0 ∨ r4 = 1) then none else (
  some r4)))
set_option maxRecDepth 100000 in
set_option maxHeartbeats 4000000 in
theorem c_X7_isCarriedThen {l : Launch} {G : Gv} {fu : Nat} {M : Mm} {r : Int32} (hF : F_X7_isCarriedThen fu M = some r) : Met l yX7_isCarriedThen (.code yX7_isCarriedThen cX7_isCarriedThen 1 (some .boolean) :: zU) rm_X7_isCarriedThen (va_Pc [.ref (ad G 86)] (Wd G M)) (QI G r M) 0 0 (zA G) := by
  refine zMet (by decide) rfl (Nat.le_of_ble_eq_true rfl) ?_
  intro p e s m below meth c hC hw ls hl
  have hl : lv_has ls 1 [(0, .ref (ad G 86))] := hl
  unfold F_X7_isCarriedThen at hF
  refine lv_aload_n hC.1 hC.2.1 dX7_isCarriedThen_0 rfl (lv_at hl 0 rfl) ?_
  refine lv_aload_n hC.1 hC.2.1 dX7_isCarriedThen_1 rfl (lv_at hl 0 rfl) ?_
  refine lv_iconst (v := (3 : Int32)) hC.1 hC.2.1 dX7_isCarriedThen_2 (by decide) ?_
  obtain ⟨r2, h1, hF⟩ := ob1S hF
  refine k_Vi (As := [.int (3 : Int32)]) (rest := [.ref (ad G 86)]) hC hw (c_X7_whoThen (M := M) h1) RC_X yv_X7_whoThen q5_97 ⟨rfl, rfl⟩ ⟨Nat.le_of_ble_eq_true rfl, Nat.le_of_ble_eq_true rfl⟩ ⟨Nat.zero_le _, Nat.zero_le _⟩ rfl rfl (Nat.le_of_ble_eq_true rfl) hl dX7_isCarriedThen_3 (fun H locs hw => ?_)
  obtain ⟨r4, h3, hF⟩ := ob1S hF
  refine k_Vi (As := [.int r2]) (rest := []) hC hw (c_X7_isCarried (M := M) h3) RC_X yv_X7_isCarried q5_224 ⟨rfl, rfl⟩ ⟨Nat.le_of_ble_eq_true rfl, Nat.le_of_ble_eq_true rfl⟩ ⟨Nat.zero_le _, Nat.zero_le _⟩ rfl rfl (Nat.le_of_ble_eq_true rfl) hl dX7_isCarriedThen_6 (fun H locs hw => ?_)
  obtain ⟨z5, hF⟩ := ifO hF
  exact r_zretP hC hw (Decidable.not_not.mp z5) hF dX7_isCarriedThen_9
abbrev rm_X7_otherLast : Room := { frames := 6, cells := 0, slots := 0, locals := 136 }
theorem yv_X7_otherLast : YV yX7_otherLast cX7_otherLast 4 (some .boolean) 0 RX7 := ⟨⟨q6_90, qs_69, q1_8, q6_91⟩, by decide +kernel⟩
theorem dX7_otherLast_0 : decode cX7_otherLast 0 = .ok (.iconst 1, 1) := by decide +kernel
theorem dX7_otherLast_1 : decode cX7_otherLast 1 = .ok (.istore_n 1, 1) := by decide +kernel
theorem dX7_otherLast_2 : decode cX7_otherLast 2 = .ok (.iconst 0, 1) := by decide +kernel
theorem dX7_otherLast_3 : decode cX7_otherLast 3 = .ok (.istore_n 2, 1) := by decide +kernel
theorem dX7_otherLast_4 : decode cX7_otherLast 4 = .ok (.iload_n 2, 1) := by decide +kernel
theorem dX7_otherLast_5 : decode cX7_otherLast 5 = .ok (.iconst 2, 1) := by decide +kernel
theorem dX7_otherLast_6 : decode cX7_otherLast 6 = .ok (.aload_n 0, 1) := by decide +kernel
theorem dX7_otherLast_7 : decode cX7_otherLast 7 = .ok (.getfield 101, 3) := by decide +kernel
theorem dX7_otherLast_10 : decode cX7_otherLast 10 = .ok (.imul, 1) := by decide +kernel
theorem dX7_otherLast_11 : decode cX7_otherLast 11 = .ok (.if_icmp .ge 75, 3) := by decide +kernel
theorem dX7_otherLast_14 : decode cX7_otherLast 14 = .ok (.iload_n 1, 1) := by decide +kernel
theorem dX7_otherLast_15 : decode cX7_otherLast 15 = .ok (.ifCond .eq 71, 3) := by decide +kernel
theorem dX7_otherLast_18 : decode cX7_otherLast 18 = .ok (.iload_n 2, 1) := by decide +kernel
theorem dX7_otherLast_19 : decode cX7_otherLast 19 = .ok (.iconst 2, 1) := by decide +kernel
theorem dX7_otherLast_20 : decode cX7_otherLast 20 = .ok (.irem, 1) := by decide +kernel
theorem dX7_otherLast_21 : decode cX7_otherLast 21 = .ok (.ifCond .ne 7, 3) := by decide +kernel
theorem dX7_otherLast_24 : decode cX7_otherLast 24 = .ok (.iconst 1, 1) := by decide +kernel
theorem dX7_otherLast_25 : decode cX7_otherLast 25 = .ok (.goto 4, 3) := by decide +kernel
theorem dX7_otherLast_28 : decode cX7_otherLast 28 = .ok (.iconst (-1), 1) := by decide +kernel
theorem dX7_otherLast_29 : decode cX7_otherLast 29 = .ok (.istore_n 3, 1) := by decide +kernel
theorem dX7_otherLast_30 : decode cX7_otherLast 30 = .ok (.aload_n 0, 1) := by decide +kernel
theorem dX7_otherLast_31 : decode cX7_otherLast 31 = .ok (.getfield 34, 3) := by decide +kernel
theorem dX7_otherLast_34 : decode cX7_otherLast 34 = .ok (.iload_n 2, 1) := by decide +kernel
theorem dX7_otherLast_35 : decode cX7_otherLast 35 = .ok (.iconst 2, 1) := by decide +kernel
theorem dX7_otherLast_36 : decode cX7_otherLast 36 = .ok (.idiv, 1) := by decide +kernel
theorem dX7_otherLast_37 : decode cX7_otherLast 37 = .ok (.iaload, 1) := by decide +kernel
theorem dX7_otherLast_38 : decode cX7_otherLast 38 = .ok (.iload_n 3, 1) := by decide +kernel
theorem dX7_otherLast_39 : decode cX7_otherLast 39 = .ok (.iadd, 1) := by decide +kernel
theorem dX7_otherLast_40 : decode cX7_otherLast 40 = .ok (.i2l, 1) := by decide +kernel
theorem dX7_otherLast_41 : decode cX7_otherLast 41 = .ok (.lconst 0, 1) := by decide +kernel
theorem dX7_otherLast_42 : decode cX7_otherLast 42 = .ok (.ldc2_w 220, 3) := by decide +kernel
theorem dX7_otherLast_45 : decode cX7_otherLast 45 = .ok (.invokestatic 104, 3) := by decide +kernel
theorem dX7_otherLast_48 : decode cX7_otherLast 48 = .ok (.ifCond .eq 32, 3) := by decide +kernel
theorem dX7_otherLast_51 : decode cX7_otherLast 51 = .ok (.aload_n 0, 1) := by decide +kernel
theorem dX7_otherLast_52 : decode cX7_otherLast 52 = .ok (.getfield 34, 3) := by decide +kernel
theorem dX7_otherLast_55 : decode cX7_otherLast 55 = .ok (.iload_n 2, 1) := by decide +kernel
theorem dX7_otherLast_56 : decode cX7_otherLast 56 = .ok (.iconst 2, 1) := by decide +kernel
theorem dX7_otherLast_57 : decode cX7_otherLast 57 = .ok (.idiv, 1) := by decide +kernel
theorem dX7_otherLast_58 : decode cX7_otherLast 58 = .ok (.dup2, 1) := by decide +kernel
theorem dX7_otherLast_59 : decode cX7_otherLast 59 = .ok (.iaload, 1) := by decide +kernel
theorem dX7_otherLast_60 : decode cX7_otherLast 60 = .ok (.iload_n 3, 1) := by decide +kernel
theorem dX7_otherLast_61 : decode cX7_otherLast 61 = .ok (.iadd, 1) := by decide +kernel
theorem dX7_otherLast_62 : decode cX7_otherLast 62 = .ok (.iastore, 1) := by decide +kernel
theorem dX7_otherLast_63 : decode cX7_otherLast 63 = .ok (.aload_n 0, 1) := by decide +kernel
theorem dX7_otherLast_64 : decode cX7_otherLast 64 = .ok (.invokevirtual 289, 3) := by decide +kernel
theorem dX7_otherLast_67 : decode cX7_otherLast 67 = .ok (.istore_n 1, 1) := by decide +kernel
theorem dX7_otherLast_68 : decode cX7_otherLast 68 = .ok (.aload_n 0, 1) := by decide +kernel
theorem dX7_otherLast_69 : decode cX7_otherLast 69 = .ok (.getfield 34, 3) := by decide +kernel
theorem dX7_otherLast_72 : decode cX7_otherLast 72 = .ok (.iload_n 2, 1) := by decide +kernel
theorem dX7_otherLast_73 : decode cX7_otherLast 73 = .ok (.iconst 2, 1) := by decide +kernel
theorem dX7_otherLast_74 : decode cX7_otherLast 74 = .ok (.idiv, 1) := by decide +kernel
theorem dX7_otherLast_75 : decode cX7_otherLast 75 = .ok (.dup2, 1) := by decide +kernel
theorem dX7_otherLast_76 : decode cX7_otherLast 76 = .ok (.iaload, 1) := by decide +kernel
theorem dX7_otherLast_77 : decode cX7_otherLast 77 = .ok (.iload_n 3, 1) := by decide +kernel
theorem dX7_otherLast_78 : decode cX7_otherLast 78 = .ok (.isub, 1) := by decide +kernel
theorem dX7_otherLast_79 : decode cX7_otherLast 79 = .ok (.iastore, 1) := by decide +kernel
theorem dX7_otherLast_80 : decode cX7_otherLast 80 = .ok (.iinc 2 1, 3) := by decide +kernel
theorem dX7_otherLast_83 : decode cX7_otherLast 83 = .ok (.goto (-79), 3) := by decide +kernel
theorem dX7_otherLast_86 : decode cX7_otherLast 86 = .ok (.iload_n 1, 1) := by decide +kernel
theorem dX7_otherLast_87 : decode cX7_otherLast 87 = .ok (.ireturn, 1) := by decide +kernel
def F_X7_otherLast_29 (fu : Nat) (k4 : Mm → Int32 → Int32 → Option (Int32 × Mm)) (M : Mm) (x1 : Int32) (x2 : Int32) (t0 : Int32) : Option (Int32 × Mm) :=
  if (x2 / (2 : Int32)) < 0 ∨ ln 95 ≤ (x2 / (2 : Int32)).toNatClampNeg then none else (
  ob1 (F_X7_in fu M ((M.1 95 (x2 / (2 : Int32)).toNatClampNeg) + t0).toInt64 (0 : Int64) (9 : Int64)) (fun r3 =>
  if r3 = 0 then
    k4 M x1 (x2 + (1 : Int32))
  else
    if (x2 / (2 : Int32)) < 0 ∨ ln 95 ≤ (x2 / (2 : Int32)).toNatClampNeg then none else (
    if (x2 / (2 : Int32)) < 0 ∨ ln 95 ≤ (x2 / (2 : Int32)).toNatClampNeg then none else (
    lt1 (pI M 95 (x2 / (2 : Int32)).toNatClampNeg ((M.1 95 (x2 / (2 : Int32)).toNatClampNeg) + t0)) (fun M7 =>
    ob1 (F_X7_isCarriedThen fu M7) (fun r9 =>
    if (x2 / (2 : Int32)) < 0 ∨ ln 95 ≤ (x2 / (2 : Int32)).toNatClampNeg then none else (
    if (x2 / (2 : Int32)) < 0 ∨ ln 95 ≤ (x2 / (2 : Int32)).toNatClampNeg then none else (
    lt1 (pI M7 95 (x2 / (2 : Int32)).toNatClampNeg ((M7.1 95 (x2 / (2 : Int32)).toNatClampNeg) - t0)) (fun M12 =>
    k4 M12 r9 (x2 + (1 : Int32)))))))))))
set_option maxRecDepth 100000 in
set_option maxHeartbeats 4000000 in
theorem w_X7_otherLast_29 {p : Program} {l : Launch} {e : Env} {s : State} {m : MethodId} {args : Array Value} {below : List Frame} {meth : Method} {c : Code} {G : Gv} (hC : Cx p s m args meth c cX7_otherLast 4 (some .boolean) RX7) {fu : Nat} {r : Int32} {M' : Mm} {k4 : Mm → Int32 → Int32 → Option (Int32 × Mm)} (hk_4 : ∀ {x1 : Int32} {x2 : Int32} {M : Mm} {H : Heap} {locs : List Loc} {ls : Array Slot}, k4 M x1 x2 = some (r, M') → St G s H locs M → lv_has ls 4 [(0, .ref (ad G 86)), (1, .int x1), (2, .int x2)] → W p l e rm_X7_otherLast s m args below meth c H locs 0 0 (MQ below (QI G r M') args s 0 0 (zA G)) (F0 m 4 ls [])) {x1 : Int32} {x2 : Int32} {t0 : Int32} {M : Mm} {H : Heap} {locs : List Loc} {ls : Array Slot} (hF : F_X7_otherLast_29 fu k4 M x1 x2 t0 = some (r, M')) (hw : St G s H locs M) (hl : lv_has ls 4 [(0, .ref (ad G 86)), (1, .int x1), (2, .int x2)]) : W p l e rm_X7_otherLast s m args below meth c H locs 0 0 (MQ below (QI G r M') args s 0 0 (zA G)) (F0 m 29 ls [.int t0]) := by
  unfold F_X7_otherLast_29 at hF
  refine lv_istore_n (lv' := [(3, .int t0), (0, .ref (ad G 86)), (1, .int x1), (2, .int x2)]) hC.1 hC.2.1 dX7_otherLast_29 rfl hl (by decide) rfl (fun ls hl => ?_)
  refine lv_aload_n hC.1 hC.2.1 dX7_otherLast_30 rfl (lv_at hl 1 rfl) ?_
  refine g7_shades hC hw q4_131 dX7_otherLast_31 ?_
  refine lv_iload_n hC.1 hC.2.1 dX7_otherLast_34 rfl (lv_at hl 3 rfl) ?_
  refine lv_iconst (v := (2 : Int32)) hC.1 hC.2.1 dX7_otherLast_35 (by decide) ?_
  refine lv_idiv hC.1 hC.2.1 dX7_otherLast_36 (by decide) ?_
  obtain ⟨n1, hF⟩ := ifO hF
  refine r_iald hC.1 hC.2.1 hw (rfl : kd 95 = 1) n1 dX7_otherLast_37 ?_
  refine lv_iload_n hC.1 hC.2.1 dX7_otherLast_38 rfl (lv_at hl 0 rfl) ?_
  refine lv_iadd hC.1 hC.2.1 dX7_otherLast_39 ?_
  refine lv_i2l hC.1 hC.2.1 dX7_otherLast_40 rfl ?_
  refine lv_lconst (v := (0 : Int64)) hC.1 hC.2.1 dX7_otherLast_41 (by decide) ?_
  refine lv_ldc2 (v := (9 : Int64)) hC.1 hC.2.1 hC.2.2.2.1 (hC.2.2.2.2.1 _ q5_152) dX7_otherLast_42 ?_
  obtain ⟨r3, h2, hF⟩ := ob1S hF
  refine k_Si (As := [.long ((M.1 95 (x2 / (2 : Int32)).toNatClampNeg) + t0).toInt64, .long (0 : Int64), .long (9 : Int64)]) (rest := []) hC hw (c_X7_in (M := M) h2) ys_X7_in q5_3 ⟨rfl, rfl⟩ ⟨Nat.le_of_ble_eq_true rfl, Nat.le_of_ble_eq_true rfl⟩ ⟨Nat.zero_le _, Nat.zero_le _⟩ rfl rfl (Nat.le_of_ble_eq_true rfl) hl dX7_otherLast_45 (fun H locs hw => ?_)
  refine lv_if_eq (tgt := 80) hC.1 hC.2.1 dX7_otherLast_48 (by decide) (fun b4 => ?_) (fun b4 => ?_)
  · have hF := ifP hF b4
    refine lv_iinc (v := (x2 + (1 : Int32))) (lv' := [(2, .int (x2 + (1 : Int32))), (3, .int t0), (0, .ref (ad G 86)), (1, .int x1)]) hC.1 hC.2.1 dX7_otherLast_80 hl (k := 3) rfl rfl (by decide) rfl (fun ls hl => ?_)
    refine lv_goto (tgt := 4) hC.1 hC.2.1 dX7_otherLast_83 (by decide) ?_
    exact hk_4 hF hw (lv_sub hl [2, 3, 0] rfl)
  · have hF := ifN hF b4
    refine lv_aload_n hC.1 hC.2.1 dX7_otherLast_51 rfl (lv_at hl 1 rfl) ?_
    refine g7_shades hC hw q4_131 dX7_otherLast_52 ?_
    refine lv_iload_n hC.1 hC.2.1 dX7_otherLast_55 rfl (lv_at hl 3 rfl) ?_
    refine lv_iconst (v := (2 : Int32)) hC.1 hC.2.1 dX7_otherLast_56 (by decide) ?_
    refine lv_idiv hC.1 hC.2.1 dX7_otherLast_57 (by decide) ?_
    refine lv_dup2_11 hC.1 hC.2.1 dX7_otherLast_58 rfl rfl ?_
    obtain ⟨n5, hF⟩ := ifO hF
    refine r_iald hC.1 hC.2.1 hw (rfl : kd 95 = 1) n5 dX7_otherLast_59 ?_
    refine lv_iload_n hC.1 hC.2.1 dX7_otherLast_60 rfl (lv_at hl 0 rfl) ?_
    refine lv_iadd hC.1 hC.2.1 dX7_otherLast_61 ?_
    obtain ⟨n6, hF⟩ := ifO hF
    refine r_iast hC.1 hC.2.1 hw (rfl : kd 95 = 1) n6 dX7_otherLast_62 (fun H locs hw => ?_)
    obtain ⟨M7, hw, hF⟩ := lt1W hF hw
    refine lv_aload_n hC.1 hC.2.1 dX7_otherLast_63 rfl (lv_at hl 1 rfl) ?_
    obtain ⟨r9, h8, hF⟩ := ob1S hF
    refine k_Vi (As := []) (rest := []) hC hw (c_X7_isCarriedThen (M := M7) h8) RC_X yv_X7_isCarriedThen q6_76 ⟨rfl, rfl⟩ ⟨Nat.le_of_ble_eq_true rfl, Nat.le_of_ble_eq_true rfl⟩ ⟨Nat.zero_le _, Nat.zero_le _⟩ rfl rfl (Nat.le_of_ble_eq_true rfl) hl dX7_otherLast_64 (fun H locs hw => ?_)
    refine lv_istore_n (lv' := [(1, .int r9), (3, .int t0), (0, .ref (ad G 86)), (2, .int x2)]) hC.1 hC.2.1 dX7_otherLast_67 rfl hl (by decide) rfl (fun ls hl => ?_)
    refine lv_aload_n hC.1 hC.2.1 dX7_otherLast_68 rfl (lv_at hl 2 rfl) ?_
    refine g7_shades hC hw q4_131 dX7_otherLast_69 ?_
    refine lv_iload_n hC.1 hC.2.1 dX7_otherLast_72 rfl (lv_at hl 3 rfl) ?_
    refine lv_iconst (v := (2 : Int32)) hC.1 hC.2.1 dX7_otherLast_73 (by decide) ?_
    refine lv_idiv hC.1 hC.2.1 dX7_otherLast_74 (by decide) ?_
    refine lv_dup2_11 hC.1 hC.2.1 dX7_otherLast_75 rfl rfl ?_
    obtain ⟨n10, hF⟩ := ifO hF
    refine r_iald hC.1 hC.2.1 hw (rfl : kd 95 = 1) n10 dX7_otherLast_76 ?_
    refine lv_iload_n hC.1 hC.2.1 dX7_otherLast_77 rfl (lv_at hl 1 rfl) ?_
    refine lv_isub hC.1 hC.2.1 dX7_otherLast_78 ?_
    obtain ⟨n11, hF⟩ := ifO hF
    refine r_iast hC.1 hC.2.1 hw (rfl : kd 95 = 1) n11 dX7_otherLast_79 (fun H locs hw => ?_)
    obtain ⟨M12, hw, hF⟩ := lt1W hF hw
    refine lv_iinc (v := (x2 + (1 : Int32))) (lv' := [(2, .int (x2 + (1 : Int32))), (1, .int r9), (3, .int t0), (0, .ref (ad G 86))]) hC.1 hC.2.1 dX7_otherLast_80 hl (k := 3) rfl rfl (by decide) rfl (fun ls hl => ?_)
    refine lv_goto (tgt := 4) hC.1 hC.2.1 dX7_otherLast_83 (by decide) ?_
    exact hk_4 hF hw (lv_sub hl [3, 1, 0] rfl)
def F_X7_otherLast_4 (fu : Nat) : Nat → Mm → Int32 → Int32 → Option (Int32 × Mm)
  | 0, _, _, _ => none
  | n + 1, M, x1, x2 =>
    if ((2 : Int32) * (M.1 86 4)) ≤ x2 then
      if ¬ (x1 = 0 ∨ x1 = 1) then none else (
      some (x1, M))
    else
      if x1 = 0 then
        if ¬ (x1 = 0 ∨ x1 = 1) then none else (
        some (x1, M))
      else
        if (x2 - x2 / (2 : Int32) * (2 : Int32)) = 0 then
          F_X7_otherLast_29 fu (F_X7_otherLast_4 fu n) M x1 x2 (1 : Int32)
        else
          F_X7_otherLast_29 fu (F_X7_otherLast_4 fu n) M x1 x2 (-1 : Int32)
set_option maxRecDepth 100000 in
set_option maxHeartbeats 4000000 in
theorem w_X7_otherLast_4 {p : Program} {l : Launch} {e : Env} {s : State} {m : MethodId} {args : Array Value} {below : List Frame} {meth : Method} {c : Code} {G : Gv} (hC : Cx p s m args meth c cX7_otherLast 4 (some .boolean) RX7) {fu : Nat} {r : Int32} {M' : Mm} : ∀ (n : Nat) {x1 : Int32} {x2 : Int32} {M : Mm} {H : Heap} {locs : List Loc} {ls : Array Slot}, F_X7_otherLast_4 fu n M x1 x2 = some (r, M') → St G s H locs M → lv_has ls 4 [(0, .ref (ad G 86)), (1, .int x1), (2, .int x2)] → W p l e rm_X7_otherLast s m args below meth c H locs 0 0 (MQ below (QI G r M') args s 0 0 (zA G)) (F0 m 4 ls []) := by
  intro n
  induction n with
  | zero =>
    intro x1 x2 M H locs ls hF hw hl
    cases hF
  | succ n ih =>
    intro x1 x2 M H locs ls hF hw hl
    unfold F_X7_otherLast_4 at hF
    refine lv_iload_n hC.1 hC.2.1 dX7_otherLast_4 rfl (lv_at hl 2 rfl) ?_
    refine lv_iconst (v := (2 : Int32)) hC.1 hC.2.1 dX7_otherLast_5 (by decide) ?_
    refine lv_aload_n hC.1 hC.2.1 dX7_otherLast_6 rfl (lv_at hl 0 rfl) ?_
    refine g7_men hC hw q4_126 dX7_otherLast_7 ?_
    refine lv_imul hC.1 hC.2.1 dX7_otherLast_10 ?_
    refine lv_icmp_ge (tgt := 86) hC.1 hC.2.1 dX7_otherLast_11 (by decide) (fun b1 => ?_) (fun b1 => ?_)
    · have hF := ifP hF b1
      refine lv_iload_n hC.1 hC.2.1 dX7_otherLast_86 rfl (lv_at hl 1 rfl) ?_
      obtain ⟨z2, hF⟩ := ifO hF
      exact r_zretE hC hw (Decidable.not_not.mp z2) hF dX7_otherLast_87
    · have hF := ifN hF b1
      refine lv_iload_n hC.1 hC.2.1 dX7_otherLast_14 rfl (lv_at hl 1 rfl) ?_
      refine lv_if_eq (tgt := 86) hC.1 hC.2.1 dX7_otherLast_15 (by decide) (fun b3 => ?_) (fun b3 => ?_)
      · have hF := ifP hF b3
        refine lv_iload_n hC.1 hC.2.1 dX7_otherLast_86 rfl (lv_at hl 1 rfl) ?_
        obtain ⟨z4, hF⟩ := ifO hF
        exact r_zretE hC hw (Decidable.not_not.mp z4) hF dX7_otherLast_87
      · have hF := ifN hF b3
        refine lv_iload_n hC.1 hC.2.1 dX7_otherLast_18 rfl (lv_at hl 2 rfl) ?_
        refine lv_iconst (v := (2 : Int32)) hC.1 hC.2.1 dX7_otherLast_19 (by decide) ?_
        refine lv_irem hC.1 hC.2.1 dX7_otherLast_20 (by decide) ?_
        refine lv_if_ne (tgt := 28) hC.1 hC.2.1 dX7_otherLast_21 (by decide) (fun b5 => ?_) (fun b5 => ?_)
        · have hF := ifN hF b5
          refine lv_iconst (v := (-1 : Int32)) hC.1 hC.2.1 dX7_otherLast_28 (by decide) ?_
          exact w_X7_otherLast_29 hC (hk_4 := ih) hF hw (lv_sub hl [0, 1, 2] rfl)
        · have hF := ifP hF b5
          refine lv_iconst (v := (1 : Int32)) hC.1 hC.2.1 dX7_otherLast_24 (by decide) ?_
          refine lv_goto (tgt := 29) hC.1 hC.2.1 dX7_otherLast_25 (by decide) ?_
          exact w_X7_otherLast_29 hC (hk_4 := ih) hF hw (lv_sub hl [0, 1, 2] rfl)
def F_X7_otherLast (fu : Nat) (M : Mm) : Option (Int32 × Mm) :=
  F_X7_otherLast_4 fu fu M (1 : Int32) (0 : Int32)
set_option maxRecDepth 100000 in
set_option maxHeartbeats 4000000 in
theorem c_X7_otherLast {l : Launch} {G : Gv} {fu : Nat} {M : Mm} {r : Int32} {M' : Mm} (hF : F_X7_otherLast fu M = some (r, M')) : Met l yX7_otherLast (.code yX7_otherLast cX7_otherLast 4 (some .boolean) :: zU) rm_X7_otherLast (va_Pc [.ref (ad G 86)] (Wd G M)) (QI G r M') 0 0 (zA G) := by
  refine zMet (by decide) rfl (Nat.le_of_ble_eq_true rfl) ?_
  intro p e s m below meth c hC hw ls hl
  have hl : lv_has ls 4 [(0, .ref (ad G 86))] := hl
  unfold F_X7_otherLast at hF
  refine lv_iconst (v := (1 : Int32)) hC.1 hC.2.1 dX7_otherLast_0 (by decide) ?_
  refine lv_istore_n (lv' := [(1, .int (1 : Int32)), (0, .ref (ad G 86))]) hC.1 hC.2.1 dX7_otherLast_1 rfl hl (by decide) rfl (fun ls hl => ?_)
  refine lv_iconst (v := (0 : Int32)) hC.1 hC.2.1 dX7_otherLast_2 (by decide) ?_
  refine lv_istore_n (lv' := [(2, .int (0 : Int32)), (1, .int (1 : Int32)), (0, .ref (ad G 86))]) hC.1 hC.2.1 dX7_otherLast_3 rfl hl (by decide) rfl (fun ls hl => ?_)
  exact w_X7_otherLast_4 hC _ hF hw (lv_sub hl [2, 1, 0] rfl)
abbrev rm_X7_oneLast : Room := { frames := 7, cells := 0, slots := 0, locals := 159 }
theorem yv_X7_oneLast : YV yX7_oneLast cX7_oneLast 4 (some .boolean) 0 RX7 := ⟨⟨q6_98, qs_71, q1_8, q6_99⟩, by decide +kernel⟩
theorem dX7_oneLast_0 : decode cX7_oneLast 0 = .ok (.iconst 0, 1) := by decide +kernel
theorem dX7_oneLast_1 : decode cX7_oneLast 1 = .ok (.istore_n 1, 1) := by decide +kernel
theorem dX7_oneLast_2 : decode cX7_oneLast 2 = .ok (.iconst 0, 1) := by decide +kernel
theorem dX7_oneLast_3 : decode cX7_oneLast 3 = .ok (.istore_n 2, 1) := by decide +kernel
theorem dX7_oneLast_4 : decode cX7_oneLast 4 = .ok (.iload_n 2, 1) := by decide +kernel
theorem dX7_oneLast_5 : decode cX7_oneLast 5 = .ok (.iconst 2, 1) := by decide +kernel
theorem dX7_oneLast_6 : decode cX7_oneLast 6 = .ok (.aload_n 0, 1) := by decide +kernel
theorem dX7_oneLast_7 : decode cX7_oneLast 7 = .ok (.getfield 101, 3) := by decide +kernel
theorem dX7_oneLast_10 : decode cX7_oneLast 10 = .ok (.imul, 1) := by decide +kernel
theorem dX7_oneLast_11 : decode cX7_oneLast 11 = .ok (.if_icmp .ge 75, 3) := by decide +kernel
theorem dX7_oneLast_14 : decode cX7_oneLast 14 = .ok (.iload_n 1, 1) := by decide +kernel
theorem dX7_oneLast_15 : decode cX7_oneLast 15 = .ok (.ifCond .ne 71, 3) := by decide +kernel
theorem dX7_oneLast_18 : decode cX7_oneLast 18 = .ok (.iload_n 2, 1) := by decide +kernel
theorem dX7_oneLast_19 : decode cX7_oneLast 19 = .ok (.iconst 2, 1) := by decide +kernel
theorem dX7_oneLast_20 : decode cX7_oneLast 20 = .ok (.irem, 1) := by decide +kernel
theorem dX7_oneLast_21 : decode cX7_oneLast 21 = .ok (.ifCond .ne 7, 3) := by decide +kernel
theorem dX7_oneLast_24 : decode cX7_oneLast 24 = .ok (.iconst 1, 1) := by decide +kernel
theorem dX7_oneLast_25 : decode cX7_oneLast 25 = .ok (.goto 4, 3) := by decide +kernel
theorem dX7_oneLast_28 : decode cX7_oneLast 28 = .ok (.iconst (-1), 1) := by decide +kernel
theorem dX7_oneLast_29 : decode cX7_oneLast 29 = .ok (.istore_n 3, 1) := by decide +kernel
theorem dX7_oneLast_30 : decode cX7_oneLast 30 = .ok (.aload_n 0, 1) := by decide +kernel
theorem dX7_oneLast_31 : decode cX7_oneLast 31 = .ok (.getfield 34, 3) := by decide +kernel
theorem dX7_oneLast_34 : decode cX7_oneLast 34 = .ok (.iload_n 2, 1) := by decide +kernel
theorem dX7_oneLast_35 : decode cX7_oneLast 35 = .ok (.iconst 2, 1) := by decide +kernel
theorem dX7_oneLast_36 : decode cX7_oneLast 36 = .ok (.idiv, 1) := by decide +kernel
theorem dX7_oneLast_37 : decode cX7_oneLast 37 = .ok (.iaload, 1) := by decide +kernel
theorem dX7_oneLast_38 : decode cX7_oneLast 38 = .ok (.iload_n 3, 1) := by decide +kernel
theorem dX7_oneLast_39 : decode cX7_oneLast 39 = .ok (.iadd, 1) := by decide +kernel
theorem dX7_oneLast_40 : decode cX7_oneLast 40 = .ok (.i2l, 1) := by decide +kernel
theorem dX7_oneLast_41 : decode cX7_oneLast 41 = .ok (.lconst 0, 1) := by decide +kernel
theorem dX7_oneLast_42 : decode cX7_oneLast 42 = .ok (.ldc2_w 220, 3) := by decide +kernel
theorem dX7_oneLast_45 : decode cX7_oneLast 45 = .ok (.invokestatic 104, 3) := by decide +kernel
theorem dX7_oneLast_48 : decode cX7_oneLast 48 = .ok (.ifCond .eq 32, 3) := by decide +kernel
theorem dX7_oneLast_51 : decode cX7_oneLast 51 = .ok (.aload_n 0, 1) := by decide +kernel
theorem dX7_oneLast_52 : decode cX7_oneLast 52 = .ok (.getfield 34, 3) := by decide +kernel
theorem dX7_oneLast_55 : decode cX7_oneLast 55 = .ok (.iload_n 2, 1) := by decide +kernel
theorem dX7_oneLast_56 : decode cX7_oneLast 56 = .ok (.iconst 2, 1) := by decide +kernel
theorem dX7_oneLast_57 : decode cX7_oneLast 57 = .ok (.idiv, 1) := by decide +kernel
theorem dX7_oneLast_58 : decode cX7_oneLast 58 = .ok (.dup2, 1) := by decide +kernel
theorem dX7_oneLast_59 : decode cX7_oneLast 59 = .ok (.iaload, 1) := by decide +kernel
theorem dX7_oneLast_60 : decode cX7_oneLast 60 = .ok (.iload_n 3, 1) := by decide +kernel
theorem dX7_oneLast_61 : decode cX7_oneLast 61 = .ok (.iadd, 1) := by decide +kernel
theorem dX7_oneLast_62 : decode cX7_oneLast 62 = .ok (.iastore, 1) := by decide +kernel
theorem dX7_oneLast_63 : decode cX7_oneLast 63 = .ok (.aload_n 0, 1) := by decide +kernel
theorem dX7_oneLast_64 : decode cX7_oneLast 64 = .ok (.invokevirtual 283, 3) := by decide +kernel
theorem dX7_oneLast_67 : decode cX7_oneLast 67 = .ok (.istore_n 1, 1) := by decide +kernel
theorem dX7_oneLast_68 : decode cX7_oneLast 68 = .ok (.aload_n 0, 1) := by decide +kernel
theorem dX7_oneLast_69 : decode cX7_oneLast 69 = .ok (.getfield 34, 3) := by decide +kernel
theorem dX7_oneLast_72 : decode cX7_oneLast 72 = .ok (.iload_n 2, 1) := by decide +kernel
theorem dX7_oneLast_73 : decode cX7_oneLast 73 = .ok (.iconst 2, 1) := by decide +kernel
theorem dX7_oneLast_74 : decode cX7_oneLast 74 = .ok (.idiv, 1) := by decide +kernel
theorem dX7_oneLast_75 : decode cX7_oneLast 75 = .ok (.dup2, 1) := by decide +kernel
theorem dX7_oneLast_76 : decode cX7_oneLast 76 = .ok (.iaload, 1) := by decide +kernel
theorem dX7_oneLast_77 : decode cX7_oneLast 77 = .ok (.iload_n 3, 1) := by decide +kernel
theorem dX7_oneLast_78 : decode cX7_oneLast 78 = .ok (.isub, 1) := by decide +kernel
theorem dX7_oneLast_79 : decode cX7_oneLast 79 = .ok (.iastore, 1) := by decide +kernel
theorem dX7_oneLast_80 : decode cX7_oneLast 80 = .ok (.iinc 2 1, 3) := by decide +kernel
theorem dX7_oneLast_83 : decode cX7_oneLast 83 = .ok (.goto (-79), 3) := by decide +kernel
theorem dX7_oneLast_86 : decode cX7_oneLast 86 = .ok (.iload_n 1, 1) := by decide +kernel
theorem dX7_oneLast_87 : decode cX7_oneLast 87 = .ok (.ireturn, 1) := by decide +kernel
def F_X7_oneLast_29 (fu : Nat) (k4 : Mm → Int32 → Int32 → Option (Int32 × Mm)) (M : Mm) (x1 : Int32) (x2 : Int32) (t0 : Int32) : Option (Int32 × Mm) :=
  if (x2 / (2 : Int32)) < 0 ∨ ln 95 ≤ (x2 / (2 : Int32)).toNatClampNeg then none else (
  ob1 (F_X7_in fu M ((M.1 95 (x2 / (2 : Int32)).toNatClampNeg) + t0).toInt64 (0 : Int64) (9 : Int64)) (fun r3 =>
  if r3 = 0 then
    k4 M x1 (x2 + (1 : Int32))
  else
    if (x2 / (2 : Int32)) < 0 ∨ ln 95 ≤ (x2 / (2 : Int32)).toNatClampNeg then none else (
    if (x2 / (2 : Int32)) < 0 ∨ ln 95 ≤ (x2 / (2 : Int32)).toNatClampNeg then none else (
    lt1 (pI M 95 (x2 / (2 : Int32)).toNatClampNeg ((M.1 95 (x2 / (2 : Int32)).toNatClampNeg) + t0)) (fun M7 =>
    ob2 (F_X7_otherLast fu M7) (fun r9 M10 =>
    if (x2 / (2 : Int32)) < 0 ∨ ln 95 ≤ (x2 / (2 : Int32)).toNatClampNeg then none else (
    if (x2 / (2 : Int32)) < 0 ∨ ln 95 ≤ (x2 / (2 : Int32)).toNatClampNeg then none else (
    lt1 (pI M10 95 (x2 / (2 : Int32)).toNatClampNeg ((M10.1 95 (x2 / (2 : Int32)).toNatClampNeg) - t0)) (fun M13 =>
    k4 M13 r9 (x2 + (1 : Int32)))))))))))
set_option maxRecDepth 100000 in
set_option maxHeartbeats 4000000 in
theorem w_X7_oneLast_29 {p : Program} {l : Launch} {e : Env} {s : State} {m : MethodId} {args : Array Value} {below : List Frame} {meth : Method} {c : Code} {G : Gv} (hC : Cx p s m args meth c cX7_oneLast 4 (some .boolean) RX7) {fu : Nat} {r : Int32} {M' : Mm} {k4 : Mm → Int32 → Int32 → Option (Int32 × Mm)} (hk_4 : ∀ {x1 : Int32} {x2 : Int32} {M : Mm} {H : Heap} {locs : List Loc} {ls : Array Slot}, k4 M x1 x2 = some (r, M') → St G s H locs M → lv_has ls 4 [(0, .ref (ad G 86)), (1, .int x1), (2, .int x2)] → W p l e rm_X7_oneLast s m args below meth c H locs 0 0 (MQ below (QI G r M') args s 0 0 (zA G)) (F0 m 4 ls [])) {x1 : Int32} {x2 : Int32} {t0 : Int32} {M : Mm} {H : Heap} {locs : List Loc} {ls : Array Slot} (hF : F_X7_oneLast_29 fu k4 M x1 x2 t0 = some (r, M')) (hw : St G s H locs M) (hl : lv_has ls 4 [(0, .ref (ad G 86)), (1, .int x1), (2, .int x2)]) : W p l e rm_X7_oneLast s m args below meth c H locs 0 0 (MQ below (QI G r M') args s 0 0 (zA G)) (F0 m 29 ls [.int t0]) := by
  unfold F_X7_oneLast_29 at hF
  refine lv_istore_n (lv' := [(3, .int t0), (0, .ref (ad G 86)), (1, .int x1), (2, .int x2)]) hC.1 hC.2.1 dX7_oneLast_29 rfl hl (by decide) rfl (fun ls hl => ?_)
  refine lv_aload_n hC.1 hC.2.1 dX7_oneLast_30 rfl (lv_at hl 1 rfl) ?_
  refine g7_shades hC hw q4_131 dX7_oneLast_31 ?_
  refine lv_iload_n hC.1 hC.2.1 dX7_oneLast_34 rfl (lv_at hl 3 rfl) ?_
  refine lv_iconst (v := (2 : Int32)) hC.1 hC.2.1 dX7_oneLast_35 (by decide) ?_
  refine lv_idiv hC.1 hC.2.1 dX7_oneLast_36 (by decide) ?_
  obtain ⟨n1, hF⟩ := ifO hF
  refine r_iald hC.1 hC.2.1 hw (rfl : kd 95 = 1) n1 dX7_oneLast_37 ?_
  refine lv_iload_n hC.1 hC.2.1 dX7_oneLast_38 rfl (lv_at hl 0 rfl) ?_
  refine lv_iadd hC.1 hC.2.1 dX7_oneLast_39 ?_
  refine lv_i2l hC.1 hC.2.1 dX7_oneLast_40 rfl ?_
  refine lv_lconst (v := (0 : Int64)) hC.1 hC.2.1 dX7_oneLast_41 (by decide) ?_
  refine lv_ldc2 (v := (9 : Int64)) hC.1 hC.2.1 hC.2.2.2.1 (hC.2.2.2.2.1 _ q5_152) dX7_oneLast_42 ?_
  obtain ⟨r3, h2, hF⟩ := ob1S hF
  refine k_Si (As := [.long ((M.1 95 (x2 / (2 : Int32)).toNatClampNeg) + t0).toInt64, .long (0 : Int64), .long (9 : Int64)]) (rest := []) hC hw (c_X7_in (M := M) h2) ys_X7_in q5_3 ⟨rfl, rfl⟩ ⟨Nat.le_of_ble_eq_true rfl, Nat.le_of_ble_eq_true rfl⟩ ⟨Nat.zero_le _, Nat.zero_le _⟩ rfl rfl (Nat.le_of_ble_eq_true rfl) hl dX7_oneLast_45 (fun H locs hw => ?_)
  refine lv_if_eq (tgt := 80) hC.1 hC.2.1 dX7_oneLast_48 (by decide) (fun b4 => ?_) (fun b4 => ?_)
  · have hF := ifP hF b4
    refine lv_iinc (v := (x2 + (1 : Int32))) (lv' := [(2, .int (x2 + (1 : Int32))), (3, .int t0), (0, .ref (ad G 86)), (1, .int x1)]) hC.1 hC.2.1 dX7_oneLast_80 hl (k := 3) rfl rfl (by decide) rfl (fun ls hl => ?_)
    refine lv_goto (tgt := 4) hC.1 hC.2.1 dX7_oneLast_83 (by decide) ?_
    exact hk_4 hF hw (lv_sub hl [2, 3, 0] rfl)
  · have hF := ifN hF b4
    refine lv_aload_n hC.1 hC.2.1 dX7_oneLast_51 rfl (lv_at hl 1 rfl) ?_
    refine g7_shades hC hw q4_131 dX7_oneLast_52 ?_
    refine lv_iload_n hC.1 hC.2.1 dX7_oneLast_55 rfl (lv_at hl 3 rfl) ?_
    refine lv_iconst (v := (2 : Int32)) hC.1 hC.2.1 dX7_oneLast_56 (by decide) ?_
    refine lv_idiv hC.1 hC.2.1 dX7_oneLast_57 (by decide) ?_
    refine lv_dup2_11 hC.1 hC.2.1 dX7_oneLast_58 rfl rfl ?_
    obtain ⟨n5, hF⟩ := ifO hF
    refine r_iald hC.1 hC.2.1 hw (rfl : kd 95 = 1) n5 dX7_oneLast_59 ?_
    refine lv_iload_n hC.1 hC.2.1 dX7_oneLast_60 rfl (lv_at hl 0 rfl) ?_
    refine lv_iadd hC.1 hC.2.1 dX7_oneLast_61 ?_
    obtain ⟨n6, hF⟩ := ifO hF
    refine r_iast hC.1 hC.2.1 hw (rfl : kd 95 = 1) n6 dX7_oneLast_62 (fun H locs hw => ?_)
    obtain ⟨M7, hw, hF⟩ := lt1W hF hw
    refine lv_aload_n hC.1 hC.2.1 dX7_oneLast_63 rfl (lv_at hl 1 rfl) ?_
    obtain ⟨r9, M10, h8, hF⟩ := ob2S hF
    refine k_Vi (As := []) (rest := []) hC hw (c_X7_otherLast (M := M7) h8) RC_X yv_X7_otherLast q6_88 ⟨rfl, rfl⟩ ⟨Nat.le_of_ble_eq_true rfl, Nat.le_of_ble_eq_true rfl⟩ ⟨Nat.zero_le _, Nat.zero_le _⟩ rfl rfl (Nat.le_of_ble_eq_true rfl) hl dX7_oneLast_64 (fun H locs hw => ?_)
    refine lv_istore_n (lv' := [(1, .int r9), (3, .int t0), (0, .ref (ad G 86)), (2, .int x2)]) hC.1 hC.2.1 dX7_oneLast_67 rfl hl (by decide) rfl (fun ls hl => ?_)
    refine lv_aload_n hC.1 hC.2.1 dX7_oneLast_68 rfl (lv_at hl 2 rfl) ?_
    refine g7_shades hC hw q4_131 dX7_oneLast_69 ?_
    refine lv_iload_n hC.1 hC.2.1 dX7_oneLast_72 rfl (lv_at hl 3 rfl) ?_
    refine lv_iconst (v := (2 : Int32)) hC.1 hC.2.1 dX7_oneLast_73 (by decide) ?_
    refine lv_idiv hC.1 hC.2.1 dX7_oneLast_74 (by decide) ?_
    refine lv_dup2_11 hC.1 hC.2.1 dX7_oneLast_75 rfl rfl ?_
    obtain ⟨n11, hF⟩ := ifO hF
    refine r_iald hC.1 hC.2.1 hw (rfl : kd 95 = 1) n11 dX7_oneLast_76 ?_
    refine lv_iload_n hC.1 hC.2.1 dX7_oneLast_77 rfl (lv_at hl 1 rfl) ?_
    refine lv_isub hC.1 hC.2.1 dX7_oneLast_78 ?_
    obtain ⟨n12, hF⟩ := ifO hF
    refine r_iast hC.1 hC.2.1 hw (rfl : kd 95 = 1) n12 dX7_oneLast_79 (fun H locs hw => ?_)
    obtain ⟨M13, hw, hF⟩ := lt1W hF hw
    refine lv_iinc (v := (x2 + (1 : Int32))) (lv' := [(2, .int (x2 + (1 : Int32))), (1, .int r9), (3, .int t0), (0, .ref (ad G 86))]) hC.1 hC.2.1 dX7_oneLast_80 hl (k := 3) rfl rfl (by decide) rfl (fun ls hl => ?_)
    refine lv_goto (tgt := 4) hC.1 hC.2.1 dX7_oneLast_83 (by decide) ?_
    exact hk_4 hF hw (lv_sub hl [3, 1, 0] rfl)
def F_X7_oneLast_4 (fu : Nat) : Nat → Mm → Int32 → Int32 → Option (Int32 × Mm)
  | 0, _, _, _ => none
  | n + 1, M, x1, x2 =>
    if ((2 : Int32) * (M.1 86 4)) ≤ x2 then
      if ¬ (x1 = 0 ∨ x1 = 1) then none else (
      some (x1, M))
    else
      if x1 = 0 then
        if (x2 - x2 / (2 : Int32) * (2 : Int32)) = 0 then
          F_X7_oneLast_29 fu (F_X7_oneLast_4 fu n) M x1 x2 (1 : Int32)
        else
          F_X7_oneLast_29 fu (F_X7_oneLast_4 fu n) M x1 x2 (-1 : Int32)
      else
        if ¬ (x1 = 0 ∨ x1 = 1) then none else (
        some (x1, M))
set_option maxRecDepth 100000 in
set_option maxHeartbeats 4000000 in
theorem w_X7_oneLast_4 {p : Program} {l : Launch} {e : Env} {s : State} {m : MethodId} {args : Array Value} {below : List Frame} {meth : Method} {c : Code} {G : Gv} (hC : Cx p s m args meth c cX7_oneLast 4 (some .boolean) RX7) {fu : Nat} {r : Int32} {M' : Mm} : ∀ (n : Nat) {x1 : Int32} {x2 : Int32} {M : Mm} {H : Heap} {locs : List Loc} {ls : Array Slot}, F_X7_oneLast_4 fu n M x1 x2 = some (r, M') → St G s H locs M → lv_has ls 4 [(0, .ref (ad G 86)), (1, .int x1), (2, .int x2)] → W p l e rm_X7_oneLast s m args below meth c H locs 0 0 (MQ below (QI G r M') args s 0 0 (zA G)) (F0 m 4 ls []) := by
  intro n
  induction n with
  | zero =>
    intro x1 x2 M H locs ls hF hw hl
    cases hF
  | succ n ih =>
    intro x1 x2 M H locs ls hF hw hl
    unfold F_X7_oneLast_4 at hF
    refine lv_iload_n hC.1 hC.2.1 dX7_oneLast_4 rfl (lv_at hl 2 rfl) ?_
    refine lv_iconst (v := (2 : Int32)) hC.1 hC.2.1 dX7_oneLast_5 (by decide) ?_
    refine lv_aload_n hC.1 hC.2.1 dX7_oneLast_6 rfl (lv_at hl 0 rfl) ?_
    refine g7_men hC hw q4_126 dX7_oneLast_7 ?_
    refine lv_imul hC.1 hC.2.1 dX7_oneLast_10 ?_
    refine lv_icmp_ge (tgt := 86) hC.1 hC.2.1 dX7_oneLast_11 (by decide) (fun b1 => ?_) (fun b1 => ?_)
    · have hF := ifP hF b1
      refine lv_iload_n hC.1 hC.2.1 dX7_oneLast_86 rfl (lv_at hl 1 rfl) ?_
      obtain ⟨z2, hF⟩ := ifO hF
      exact r_zretE hC hw (Decidable.not_not.mp z2) hF dX7_oneLast_87
    · have hF := ifN hF b1
      refine lv_iload_n hC.1 hC.2.1 dX7_oneLast_14 rfl (lv_at hl 1 rfl) ?_
      refine lv_if_ne (tgt := 86) hC.1 hC.2.1 dX7_oneLast_15 (by decide) (fun b3 => ?_) (fun b3 => ?_)
      · have hF := ifN hF b3
        refine lv_iload_n hC.1 hC.2.1 dX7_oneLast_86 rfl (lv_at hl 1 rfl) ?_
        obtain ⟨z4, hF⟩ := ifO hF
        exact r_zretE hC hw (Decidable.not_not.mp z4) hF dX7_oneLast_87
      · have hF := ifP hF b3
        refine lv_iload_n hC.1 hC.2.1 dX7_oneLast_18 rfl (lv_at hl 2 rfl) ?_
        refine lv_iconst (v := (2 : Int32)) hC.1 hC.2.1 dX7_oneLast_19 (by decide) ?_
        refine lv_irem hC.1 hC.2.1 dX7_oneLast_20 (by decide) ?_
        refine lv_if_ne (tgt := 28) hC.1 hC.2.1 dX7_oneLast_21 (by decide) (fun b5 => ?_) (fun b5 => ?_)
        · have hF := ifN hF b5
          refine lv_iconst (v := (-1 : Int32)) hC.1 hC.2.1 dX7_oneLast_28 (by decide) ?_
          exact w_X7_oneLast_29 hC (hk_4 := ih) hF hw (lv_sub hl [0, 1, 2] rfl)
        · have hF := ifP hF b5
          refine lv_iconst (v := (1 : Int32)) hC.1 hC.2.1 dX7_oneLast_24 (by decide) ?_
          refine lv_goto (tgt := 29) hC.1 hC.2.1 dX7_oneLast_25 (by decide) ?_
          exact w_X7_oneLast_29 hC (hk_4 := ih) hF hw (lv_sub hl [0, 1, 2] rfl)
def F_X7_oneLast (fu : Nat) (M : Mm) : Option (Int32 × Mm) :=
  F_X7_oneLast_4 fu fu M (0 : Int32) (0 : Int32)
set_option maxRecDepth 100000 in
set_option maxHeartbeats 4000000 in
theorem c_X7_oneLast {l : Launch} {G : Gv} {fu : Nat} {M : Mm} {r : Int32} {M' : Mm} (hF : F_X7_oneLast fu M = some (r, M')) : Met l yX7_oneLast (.code yX7_oneLast cX7_oneLast 4 (some .boolean) :: zU) rm_X7_oneLast (va_Pc [.ref (ad G 86)] (Wd G M)) (QI G r M') 0 0 (zA G) := by
  refine zMet (by decide) rfl (Nat.le_of_ble_eq_true rfl) ?_
  intro p e s m below meth c hC hw ls hl
  have hl : lv_has ls 4 [(0, .ref (ad G 86))] := hl
  unfold F_X7_oneLast at hF
  refine lv_iconst (v := (0 : Int32)) hC.1 hC.2.1 dX7_oneLast_0 (by decide) ?_
  refine lv_istore_n (lv' := [(1, .int (0 : Int32)), (0, .ref (ad G 86))]) hC.1 hC.2.1 dX7_oneLast_1 rfl hl (by decide) rfl (fun ls hl => ?_)
  refine lv_iconst (v := (0 : Int32)) hC.1 hC.2.1 dX7_oneLast_2 (by decide) ?_
  refine lv_istore_n (lv' := [(2, .int (0 : Int32)), (1, .int (0 : Int32)), (0, .ref (ad G 86))]) hC.1 hC.2.1 dX7_oneLast_3 rfl hl (by decide) rfl (fun ls hl => ?_)
  exact w_X7_oneLast_4 hC _ hF hw (lv_sub hl [2, 1, 0] rfl)
abbrev rm_X7_otherFirst : Room := { frames := 8, cells := 0, slots := 0, locals := 182 }
theorem yv_X7_otherFirst : YV yX7_otherFirst cX7_otherFirst 4 (some .boolean) 0 RX7 := ⟨⟨q6_94, qs_70, q1_8, q6_95⟩, by decide +kernel⟩
theorem dX7_otherFirst_0 : decode cX7_otherFirst 0 = .ok (.iconst 1, 1) := by decide +kernel
theorem dX7_otherFirst_1 : decode cX7_otherFirst 1 = .ok (.istore_n 1, 1) := by decide +kernel
theorem dX7_otherFirst_2 : decode cX7_otherFirst 2 = .ok (.iconst 0, 1) := by decide +kernel
theorem dX7_otherFirst_3 : decode cX7_otherFirst 3 = .ok (.istore_n 2, 1) := by decide +kernel
theorem dX7_otherFirst_4 : decode cX7_otherFirst 4 = .ok (.iload_n 2, 1) := by decide +kernel
theorem dX7_otherFirst_5 : decode cX7_otherFirst 5 = .ok (.iconst 2, 1) := by decide +kernel
theorem dX7_otherFirst_6 : decode cX7_otherFirst 6 = .ok (.aload_n 0, 1) := by decide +kernel
theorem dX7_otherFirst_7 : decode cX7_otherFirst 7 = .ok (.getfield 101, 3) := by decide +kernel
theorem dX7_otherFirst_10 : decode cX7_otherFirst 10 = .ok (.imul, 1) := by decide +kernel
theorem dX7_otherFirst_11 : decode cX7_otherFirst 11 = .ok (.if_icmp .ge 75, 3) := by decide +kernel
theorem dX7_otherFirst_14 : decode cX7_otherFirst 14 = .ok (.iload_n 1, 1) := by decide +kernel
theorem dX7_otherFirst_15 : decode cX7_otherFirst 15 = .ok (.ifCond .eq 71, 3) := by decide +kernel
theorem dX7_otherFirst_18 : decode cX7_otherFirst 18 = .ok (.iload_n 2, 1) := by decide +kernel
theorem dX7_otherFirst_19 : decode cX7_otherFirst 19 = .ok (.iconst 2, 1) := by decide +kernel
theorem dX7_otherFirst_20 : decode cX7_otherFirst 20 = .ok (.irem, 1) := by decide +kernel
theorem dX7_otherFirst_21 : decode cX7_otherFirst 21 = .ok (.ifCond .ne 7, 3) := by decide +kernel
theorem dX7_otherFirst_24 : decode cX7_otherFirst 24 = .ok (.iconst 1, 1) := by decide +kernel
theorem dX7_otherFirst_25 : decode cX7_otherFirst 25 = .ok (.goto 4, 3) := by decide +kernel
theorem dX7_otherFirst_28 : decode cX7_otherFirst 28 = .ok (.iconst (-1), 1) := by decide +kernel
theorem dX7_otherFirst_29 : decode cX7_otherFirst 29 = .ok (.istore_n 3, 1) := by decide +kernel
theorem dX7_otherFirst_30 : decode cX7_otherFirst 30 = .ok (.aload_n 0, 1) := by decide +kernel
theorem dX7_otherFirst_31 : decode cX7_otherFirst 31 = .ok (.getfield 34, 3) := by decide +kernel
theorem dX7_otherFirst_34 : decode cX7_otherFirst 34 = .ok (.iload_n 2, 1) := by decide +kernel
theorem dX7_otherFirst_35 : decode cX7_otherFirst 35 = .ok (.iconst 2, 1) := by decide +kernel
theorem dX7_otherFirst_36 : decode cX7_otherFirst 36 = .ok (.idiv, 1) := by decide +kernel
theorem dX7_otherFirst_37 : decode cX7_otherFirst 37 = .ok (.iaload, 1) := by decide +kernel
theorem dX7_otherFirst_38 : decode cX7_otherFirst 38 = .ok (.iload_n 3, 1) := by decide +kernel
theorem dX7_otherFirst_39 : decode cX7_otherFirst 39 = .ok (.iadd, 1) := by decide +kernel
theorem dX7_otherFirst_40 : decode cX7_otherFirst 40 = .ok (.i2l, 1) := by decide +kernel
theorem dX7_otherFirst_41 : decode cX7_otherFirst 41 = .ok (.lconst 0, 1) := by decide +kernel
theorem dX7_otherFirst_42 : decode cX7_otherFirst 42 = .ok (.ldc2_w 220, 3) := by decide +kernel
theorem dX7_otherFirst_45 : decode cX7_otherFirst 45 = .ok (.invokestatic 104, 3) := by decide +kernel
theorem dX7_otherFirst_48 : decode cX7_otherFirst 48 = .ok (.ifCond .eq 32, 3) := by decide +kernel
theorem dX7_otherFirst_51 : decode cX7_otherFirst 51 = .ok (.aload_n 0, 1) := by decide +kernel
theorem dX7_otherFirst_52 : decode cX7_otherFirst 52 = .ok (.getfield 34, 3) := by decide +kernel
theorem dX7_otherFirst_55 : decode cX7_otherFirst 55 = .ok (.iload_n 2, 1) := by decide +kernel
theorem dX7_otherFirst_56 : decode cX7_otherFirst 56 = .ok (.iconst 2, 1) := by decide +kernel
theorem dX7_otherFirst_57 : decode cX7_otherFirst 57 = .ok (.idiv, 1) := by decide +kernel
theorem dX7_otherFirst_58 : decode cX7_otherFirst 58 = .ok (.dup2, 1) := by decide +kernel
theorem dX7_otherFirst_59 : decode cX7_otherFirst 59 = .ok (.iaload, 1) := by decide +kernel
theorem dX7_otherFirst_60 : decode cX7_otherFirst 60 = .ok (.iload_n 3, 1) := by decide +kernel
theorem dX7_otherFirst_61 : decode cX7_otherFirst 61 = .ok (.iadd, 1) := by decide +kernel
theorem dX7_otherFirst_62 : decode cX7_otherFirst 62 = .ok (.iastore, 1) := by decide +kernel
theorem dX7_otherFirst_63 : decode cX7_otherFirst 63 = .ok (.aload_n 0, 1) := by decide +kernel
theorem dX7_otherFirst_64 : decode cX7_otherFirst 64 = .ok (.invokevirtual 292, 3) := by decide +kernel
theorem dX7_otherFirst_67 : decode cX7_otherFirst 67 = .ok (.istore_n 1, 1) := by decide +kernel
theorem dX7_otherFirst_68 : decode cX7_otherFirst 68 = .ok (.aload_n 0, 1) := by decide +kernel
theorem dX7_otherFirst_69 : decode cX7_otherFirst 69 = .ok (.getfield 34, 3) := by decide +kernel
theorem dX7_otherFirst_72 : decode cX7_otherFirst 72 = .ok (.iload_n 2, 1) := by decide +kernel
theorem dX7_otherFirst_73 : decode cX7_otherFirst 73 = .ok (.iconst 2, 1) := by decide +kernel
theorem dX7_otherFirst_74 : decode cX7_otherFirst 74 = .ok (.idiv, 1) := by decide +kernel
theorem dX7_otherFirst_75 : decode cX7_otherFirst 75 = .ok (.dup2, 1) := by decide +kernel
theorem dX7_otherFirst_76 : decode cX7_otherFirst 76 = .ok (.iaload, 1) := by decide +kernel
theorem dX7_otherFirst_77 : decode cX7_otherFirst 77 = .ok (.iload_n 3, 1) := by decide +kernel
theorem dX7_otherFirst_78 : decode cX7_otherFirst 78 = .ok (.isub, 1) := by decide +kernel
theorem dX7_otherFirst_79 : decode cX7_otherFirst 79 = .ok (.iastore, 1) := by decide +kernel
theorem dX7_otherFirst_80 : decode cX7_otherFirst 80 = .ok (.iinc 2 1, 3) := by decide +kernel
theorem dX7_otherFirst_83 : decode cX7_otherFirst 83 = .ok (.goto (-79), 3) := by decide +kernel
theorem dX7_otherFirst_86 : decode cX7_otherFirst 86 = .ok (.iload_n 1, 1) := by decide +kernel
theorem dX7_otherFirst_87 : decode cX7_otherFirst 87 = .ok (.ireturn, 1) := by decide +kernel
def F_X7_otherFirst_29 (fu : Nat) (k4 : Mm → Int32 → Int32 → Option (Int32 × Mm)) (M : Mm) (x1 : Int32) (x2 : Int32) (t0 : Int32) : Option (Int32 × Mm) :=
  if (x2 / (2 : Int32)) < 0 ∨ ln 95 ≤ (x2 / (2 : Int32)).toNatClampNeg then none else (
  ob1 (F_X7_in fu M ((M.1 95 (x2 / (2 : Int32)).toNatClampNeg) + t0).toInt64 (0 : Int64) (9 : Int64)) (fun r3 =>
  if r3 = 0 then
    k4 M x1 (x2 + (1 : Int32))
  else
    if (x2 / (2 : Int32)) < 0 ∨ ln 95 ≤ (x2 / (2 : Int32)).toNatClampNeg then none else (
    if (x2 / (2 : Int32)) < 0 ∨ ln 95 ≤ (x2 / (2 : Int32)).toNatClampNeg then none else (
    lt1 (pI M 95 (x2 / (2 : Int32)).toNatClampNeg ((M.1 95 (x2 / (2 : Int32)).toNatClampNeg) + t0)) (fun M7 =>
    ob2 (F_X7_oneLast fu M7) (fun r9 M10 =>
    if (x2 / (2 : Int32)) < 0 ∨ ln 95 ≤ (x2 / (2 : Int32)).toNatClampNeg then none else (
    if (x2 / (2 : Int32)) < 0 ∨ ln 95 ≤ (x2 / (2 : Int32)).toNatClampNeg then none else (
    lt1 (pI M10 95 (x2 / (2 : Int32)).toNatClampNeg ((M10.1 95 (x2 / (2 : Int32)).toNatClampNeg) - t0)) (fun M13 =>
    k4 M13 r9 (x2 + (1 : Int32)))))))))))
set_option maxRecDepth 100000 in
set_option maxHeartbeats 4000000 in
theorem w_X7_otherFirst_29 {p : Program} {l : Launch} {e : Env} {s : State} {m : MethodId} {args : Array Value} {below : List Frame} {meth : Method} {c : Code} {G : Gv} (hC : Cx p s m args meth c cX7_otherFirst 4 (some .boolean) RX7) {fu : Nat} {r : Int32} {M' : Mm} {k4 : Mm → Int32 → Int32 → Option (Int32 × Mm)} (hk_4 : ∀ {x1 : Int32} {x2 : Int32} {M : Mm} {H : Heap} {locs : List Loc} {ls : Array Slot}, k4 M x1 x2 = some (r, M') → St G s H locs M → lv_has ls 4 [(0, .ref (ad G 86)), (1, .int x1), (2, .int x2)] → W p l e rm_X7_otherFirst s m args below meth c H locs 0 0 (MQ below (QI G r M') args s 0 0 (zA G)) (F0 m 4 ls [])) {x1 : Int32} {x2 : Int32} {t0 : Int32} {M : Mm} {H : Heap} {locs : List Loc} {ls : Array Slot} (hF : F_X7_otherFirst_29 fu k4 M x1 x2 t0 = some (r, M')) (hw : St G s H locs M) (hl : lv_has ls 4 [(0, .ref (ad G 86)), (1, .int x1), (2, .int x2)]) : W p l e rm_X7_otherFirst s m args below meth c H locs 0 0 (MQ below (QI G r M') args s 0 0 (zA G)) (F0 m 29 ls [.int t0]) := by
  unfold F_X7_otherFirst_29 at hF
  refine lv_istore_n (lv' := [(3, .int t0), (0, .ref (ad G 86)), (1, .int x1), (2, .int x2)]) hC.1 hC.2.1 dX7_otherFirst_29 rfl hl (by decide) rfl (fun ls hl => ?_)
  refine lv_aload_n hC.1 hC.2.1 dX7_otherFirst_30 rfl (lv_at hl 1 rfl) ?_
  refine g7_shades hC hw q4_131 dX7_otherFirst_31 ?_
  refine lv_iload_n hC.1 hC.2.1 dX7_otherFirst_34 rfl (lv_at hl 3 rfl) ?_
  refine lv_iconst (v := (2 : Int32)) hC.1 hC.2.1 dX7_otherFirst_35 (by decide) ?_
  refine lv_idiv hC.1 hC.2.1 dX7_otherFirst_36 (by decide) ?_
  obtain ⟨n1, hF⟩ := ifO hF
  refine r_iald hC.1 hC.2.1 hw (rfl : kd 95 = 1) n1 dX7_otherFirst_37 ?_
  refine lv_iload_n hC.1 hC.2.1 dX7_otherFirst_38 rfl (lv_at hl 0 rfl) ?_
  refine lv_iadd hC.1 hC.2.1 dX7_otherFirst_39 ?_
  refine lv_i2l hC.1 hC.2.1 dX7_otherFirst_40 rfl ?_
  refine lv_lconst (v := (0 : Int64)) hC.1 hC.2.1 dX7_otherFirst_41 (by decide) ?_
  refine lv_ldc2 (v := (9 : Int64)) hC.1 hC.2.1 hC.2.2.2.1 (hC.2.2.2.2.1 _ q5_152) dX7_otherFirst_42 ?_
  obtain ⟨r3, h2, hF⟩ := ob1S hF
  refine k_Si (As := [.long ((M.1 95 (x2 / (2 : Int32)).toNatClampNeg) + t0).toInt64, .long (0 : Int64), .long (9 : Int64)]) (rest := []) hC hw (c_X7_in (M := M) h2) ys_X7_in q5_3 ⟨rfl, rfl⟩ ⟨Nat.le_of_ble_eq_true rfl, Nat.le_of_ble_eq_true rfl⟩ ⟨Nat.zero_le _, Nat.zero_le _⟩ rfl rfl (Nat.le_of_ble_eq_true rfl) hl dX7_otherFirst_45 (fun H locs hw => ?_)
  refine lv_if_eq (tgt := 80) hC.1 hC.2.1 dX7_otherFirst_48 (by decide) (fun b4 => ?_) (fun b4 => ?_)
  · have hF := ifP hF b4
    refine lv_iinc (v := (x2 + (1 : Int32))) (lv' := [(2, .int (x2 + (1 : Int32))), (3, .int t0), (0, .ref (ad G 86)), (1, .int x1)]) hC.1 hC.2.1 dX7_otherFirst_80 hl (k := 3) rfl rfl (by decide) rfl (fun ls hl => ?_)
    refine lv_goto (tgt := 4) hC.1 hC.2.1 dX7_otherFirst_83 (by decide) ?_
    exact hk_4 hF hw (lv_sub hl [2, 3, 0] rfl)
  · have hF := ifN hF b4
    refine lv_aload_n hC.1 hC.2.1 dX7_otherFirst_51 rfl (lv_at hl 1 rfl) ?_
    refine g7_shades hC hw q4_131 dX7_otherFirst_52 ?_
    refine lv_iload_n hC.1 hC.2.1 dX7_otherFirst_55 rfl (lv_at hl 3 rfl) ?_
    refine lv_iconst (v := (2 : Int32)) hC.1 hC.2.1 dX7_otherFirst_56 (by decide) ?_
    refine lv_idiv hC.1 hC.2.1 dX7_otherFirst_57 (by decide) ?_
    refine lv_dup2_11 hC.1 hC.2.1 dX7_otherFirst_58 rfl rfl ?_
    obtain ⟨n5, hF⟩ := ifO hF
    refine r_iald hC.1 hC.2.1 hw (rfl : kd 95 = 1) n5 dX7_otherFirst_59 ?_
    refine lv_iload_n hC.1 hC.2.1 dX7_otherFirst_60 rfl (lv_at hl 0 rfl) ?_
    refine lv_iadd hC.1 hC.2.1 dX7_otherFirst_61 ?_
    obtain ⟨n6, hF⟩ := ifO hF
    refine r_iast hC.1 hC.2.1 hw (rfl : kd 95 = 1) n6 dX7_otherFirst_62 (fun H locs hw => ?_)
    obtain ⟨M7, hw, hF⟩ := lt1W hF hw
    refine lv_aload_n hC.1 hC.2.1 dX7_otherFirst_63 rfl (lv_at hl 1 rfl) ?_
    obtain ⟨r9, M10, h8, hF⟩ := ob2S hF
    refine k_Vi (As := []) (rest := []) hC hw (c_X7_oneLast (M := M7) h8) RC_X yv_X7_oneLast q6_96 ⟨rfl, rfl⟩ ⟨Nat.le_of_ble_eq_true rfl, Nat.le_of_ble_eq_true rfl⟩ ⟨Nat.zero_le _, Nat.zero_le _⟩ rfl rfl (Nat.le_of_ble_eq_true rfl) hl dX7_otherFirst_64 (fun H locs hw => ?_)
    refine lv_istore_n (lv' := [(1, .int r9), (3, .int t0), (0, .ref (ad G 86)), (2, .int x2)]) hC.1 hC.2.1 dX7_otherFirst_67 rfl hl (by decide) rfl (fun ls hl => ?_)
    refine lv_aload_n hC.1 hC.2.1 dX7_otherFirst_68 rfl (lv_at hl 2 rfl) ?_
    refine g7_shades hC hw q4_131 dX7_otherFirst_69 ?_
    refine lv_iload_n hC.1 hC.2.1 dX7_otherFirst_72 rfl (lv_at hl 3 rfl) ?_
    refine lv_iconst (v := (2 : Int32)) hC.1 hC.2.1 dX7_otherFirst_73 (by decide) ?_
    refine lv_idiv hC.1 hC.2.1 dX7_otherFirst_74 (by decide) ?_
    refine lv_dup2_11 hC.1 hC.2.1 dX7_otherFirst_75 rfl rfl ?_
    obtain ⟨n11, hF⟩ := ifO hF
    refine r_iald hC.1 hC.2.1 hw (rfl : kd 95 = 1) n11 dX7_otherFirst_76 ?_
    refine lv_iload_n hC.1 hC.2.1 dX7_otherFirst_77 rfl (lv_at hl 1 rfl) ?_
    refine lv_isub hC.1 hC.2.1 dX7_otherFirst_78 ?_
    obtain ⟨n12, hF⟩ := ifO hF
    refine r_iast hC.1 hC.2.1 hw (rfl : kd 95 = 1) n12 dX7_otherFirst_79 (fun H locs hw => ?_)
    obtain ⟨M13, hw, hF⟩ := lt1W hF hw
    refine lv_iinc (v := (x2 + (1 : Int32))) (lv' := [(2, .int (x2 + (1 : Int32))), (1, .int r9), (3, .int t0), (0, .ref (ad G 86))]) hC.1 hC.2.1 dX7_otherFirst_80 hl (k := 3) rfl rfl (by decide) rfl (fun ls hl => ?_)
    refine lv_goto (tgt := 4) hC.1 hC.2.1 dX7_otherFirst_83 (by decide) ?_
    exact hk_4 hF hw (lv_sub hl [3, 1, 0] rfl)
def F_X7_otherFirst_4 (fu : Nat) : Nat → Mm → Int32 → Int32 → Option (Int32 × Mm)
  | 0, _, _, _ => none
  | n + 1, M, x1, x2 =>
    if ((2 : Int32) * (M.1 86 4)) ≤ x2 then
      if ¬ (x1 = 0 ∨ x1 = 1) then none else (
      some (x1, M))
    else
      if x1 = 0 then
        if ¬ (x1 = 0 ∨ x1 = 1) then none else (
        some (x1, M))
      else
        if (x2 - x2 / (2 : Int32) * (2 : Int32)) = 0 then
          F_X7_otherFirst_29 fu (F_X7_otherFirst_4 fu n) M x1 x2 (1 : Int32)
        else
          F_X7_otherFirst_29 fu (F_X7_otherFirst_4 fu n) M x1 x2 (-1 : Int32)
set_option maxRecDepth 100000 in
set_option maxHeartbeats 4000000 in
theorem w_X7_otherFirst_4 {p : Program} {l : Launch} {e : Env} {s : State} {m : MethodId} {args : Array Value} {below : List Frame} {meth : Method} {c : Code} {G : Gv} (hC : Cx p s m args meth c cX7_otherFirst 4 (some .boolean) RX7) {fu : Nat} {r : Int32} {M' : Mm} : ∀ (n : Nat) {x1 : Int32} {x2 : Int32} {M : Mm} {H : Heap} {locs : List Loc} {ls : Array Slot}, F_X7_otherFirst_4 fu n M x1 x2 = some (r, M') → St G s H locs M → lv_has ls 4 [(0, .ref (ad G 86)), (1, .int x1), (2, .int x2)] → W p l e rm_X7_otherFirst s m args below meth c H locs 0 0 (MQ below (QI G r M') args s 0 0 (zA G)) (F0 m 4 ls []) := by
  intro n
  induction n with
  | zero =>
    intro x1 x2 M H locs ls hF hw hl
    cases hF
  | succ n ih =>
    intro x1 x2 M H locs ls hF hw hl
    unfold F_X7_otherFirst_4 at hF
    refine lv_iload_n hC.1 hC.2.1 dX7_otherFirst_4 rfl (lv_at hl 2 rfl) ?_
    refine lv_iconst (v := (2 : Int32)) hC.1 hC.2.1 dX7_otherFirst_5 (by decide) ?_
    refine lv_aload_n hC.1 hC.2.1 dX7_otherFirst_6 rfl (lv_at hl 0 rfl) ?_
    refine g7_men hC hw q4_126 dX7_otherFirst_7 ?_
    refine lv_imul hC.1 hC.2.1 dX7_otherFirst_10 ?_
    refine lv_icmp_ge (tgt := 86) hC.1 hC.2.1 dX7_otherFirst_11 (by decide) (fun b1 => ?_) (fun b1 => ?_)
    · have hF := ifP hF b1
      refine lv_iload_n hC.1 hC.2.1 dX7_otherFirst_86 rfl (lv_at hl 1 rfl) ?_
      obtain ⟨z2, hF⟩ := ifO hF
      exact r_zretE hC hw (Decidable.not_not.mp z2) hF dX7_otherFirst_87
    · have hF := ifN hF b1
      refine lv_iload_n hC.1 hC.2.1 dX7_otherFirst_14 rfl (lv_at hl 1 rfl) ?_
      refine lv_if_eq (tgt := 86) hC.1 hC.2.1 dX7_otherFirst_15 (by decide) (fun b3 => ?_) (fun b3 => ?_)
      · have hF := ifP hF b3
        refine lv_iload_n hC.1 hC.2.1 dX7_otherFirst_86 rfl (lv_at hl 1 rfl) ?_
        obtain ⟨z4, hF⟩ := ifO hF
        exact r_zretE hC hw (Decidable.not_not.mp z4) hF dX7_otherFirst_87
      · have hF := ifN hF b3
        refine lv_iload_n hC.1 hC.2.1 dX7_otherFirst_18 rfl (lv_at hl 2 rfl) ?_
        refine lv_iconst (v := (2 : Int32)) hC.1 hC.2.1 dX7_otherFirst_19 (by decide) ?_
        refine lv_irem hC.1 hC.2.1 dX7_otherFirst_20 (by decide) ?_
        refine lv_if_ne (tgt := 28) hC.1 hC.2.1 dX7_otherFirst_21 (by decide) (fun b5 => ?_) (fun b5 => ?_)
        · have hF := ifN hF b5
          refine lv_iconst (v := (-1 : Int32)) hC.1 hC.2.1 dX7_otherFirst_28 (by decide) ?_
          exact w_X7_otherFirst_29 hC (hk_4 := ih) hF hw (lv_sub hl [0, 1, 2] rfl)
        · have hF := ifP hF b5
          refine lv_iconst (v := (1 : Int32)) hC.1 hC.2.1 dX7_otherFirst_24 (by decide) ?_
          refine lv_goto (tgt := 29) hC.1 hC.2.1 dX7_otherFirst_25 (by decide) ?_
          exact w_X7_otherFirst_29 hC (hk_4 := ih) hF hw (lv_sub hl [0, 1, 2] rfl)
def F_X7_otherFirst (fu : Nat) (M : Mm) : Option (Int32 × Mm) :=
  F_X7_otherFirst_4 fu fu M (1 : Int32) (0 : Int32)
set_option maxRecDepth 100000 in
set_option maxHeartbeats 4000000 in
theorem c_X7_otherFirst {l : Launch} {G : Gv} {fu : Nat} {M : Mm} {r : Int32} {M' : Mm} (hF : F_X7_otherFirst fu M = some (r, M')) : Met l yX7_otherFirst (.code yX7_otherFirst cX7_otherFirst 4 (some .boolean) :: zU) rm_X7_otherFirst (va_Pc [.ref (ad G 86)] (Wd G M)) (QI G r M') 0 0 (zA G) := by
  refine zMet (by decide) rfl (Nat.le_of_ble_eq_true rfl) ?_
  intro p e s m below meth c hC hw ls hl
  have hl : lv_has ls 4 [(0, .ref (ad G 86))] := hl
  unfold F_X7_otherFirst at hF
  refine lv_iconst (v := (1 : Int32)) hC.1 hC.2.1 dX7_otherFirst_0 (by decide) ?_
  refine lv_istore_n (lv' := [(1, .int (1 : Int32)), (0, .ref (ad G 86))]) hC.1 hC.2.1 dX7_otherFirst_1 rfl hl (by decide) rfl (fun ls hl => ?_)
  refine lv_iconst (v := (0 : Int32)) hC.1 hC.2.1 dX7_otherFirst_2 (by decide) ?_
  refine lv_istore_n (lv' := [(2, .int (0 : Int32)), (1, .int (1 : Int32)), (0, .ref (ad G 86))]) hC.1 hC.2.1 dX7_otherFirst_3 rfl hl (by decide) rfl (fun ls hl => ?_)
  exact w_X7_otherFirst_4 hC _ hF hw (lv_sub hl [2, 1, 0] rfl)
abbrev rm_X7_lastOther : Room := { frames := 9, cells := 0, slots := 0, locals := 205 }
theorem yv_X7_lastOther : YV yX7_lastOther cX7_lastOther 2 (some .boolean) 1 RX7 := ⟨⟨q6_86, qs_68, q1_8, q6_87⟩, by decide +kernel⟩
theorem dX7_lastOther_0 : decode cX7_lastOther 0 = .ok (.iload_n 1, 1) := by decide +kernel
theorem dX7_lastOther_1 : decode cX7_lastOther 1 = .ok (.iconst 1, 1) := by decide +kernel
theorem dX7_lastOther_2 : decode cX7_lastOther 2 = .ok (.if_icmp .ne 10, 3) := by decide +kernel
theorem dX7_lastOther_5 : decode cX7_lastOther 5 = .ok (.aload_n 0, 1) := by decide +kernel
theorem dX7_lastOther_6 : decode cX7_lastOther 6 = .ok (.invokevirtual 283, 3) := by decide +kernel
theorem dX7_lastOther_9 : decode cX7_lastOther 9 = .ok (.goto 7, 3) := by decide +kernel
theorem dX7_lastOther_12 : decode cX7_lastOther 12 = .ok (.aload_n 0, 1) := by decide +kernel
theorem dX7_lastOther_13 : decode cX7_lastOther 13 = .ok (.invokevirtual 286, 3) := by decide +kernel
theorem dX7_lastOther_16 : decode cX7_lastOther 16 = .ok (.ireturn, 1) := by decide +kernel
def F_X7_lastOther (fu : Nat) (M : Mm) (x1 : Int32) : Option (Int32 × Mm) :=
  if x1 = (1 : Int32) then
    ob2 (F_X7_otherLast fu M) (fun r7 M8 =>
    if ¬ (r7 = 0 ∨ r7 = 1) then none else (
    some (r7, M8)))
  else
    ob2 (F_X7_otherFirst fu M) (fun r3 M4 =>
    if ¬ (r3 = 0 ∨ r3 = 1) then none else (
    some (r3, M4)))
set_option maxRecDepth 100000 in
set_option maxHeartbeats 4000000 in
theorem c_X7_lastOther {l : Launch} {G : Gv} {fu : Nat} {M : Mm} {x1 : Int32} {r : Int32} {M' : Mm} (hF : F_X7_lastOther fu M x1 = some (r, M')) : Met l yX7_lastOther (.code yX7_lastOther cX7_lastOther 2 (some .boolean) :: zU) rm_X7_lastOther (va_Pc [.ref (ad G 86), .int x1] (Wd G M)) (QI G r M') 0 0 (zA G) := by
  refine zMet (by decide) rfl (Nat.le_of_ble_eq_true rfl) ?_
  intro p e s m below meth c hC hw ls hl
  have hl : lv_has ls 2 [(0, .ref (ad G 86)), (1, .int x1)] := hl
  unfold F_X7_lastOther at hF
  refine lv_iload_n hC.1 hC.2.1 dX7_lastOther_0 rfl (lv_at hl 1 rfl) ?_
  refine lv_iconst (v := (1 : Int32)) hC.1 hC.2.1 dX7_lastOther_1 (by decide) ?_
  refine lv_icmp_ne (tgt := 12) hC.1 hC.2.1 dX7_lastOther_2 (by decide) (fun b1 => ?_) (fun b1 => ?_)
  · have hF := ifN hF b1
    refine lv_aload_n hC.1 hC.2.1 dX7_lastOther_12 rfl (lv_at hl 0 rfl) ?_
    obtain ⟨r3, M4, h2, hF⟩ := ob2S hF
    refine k_Vi (As := []) (rest := []) hC hw (c_X7_otherFirst (M := M) h2) RC_X yv_X7_otherFirst q6_92 ⟨rfl, rfl⟩ ⟨Nat.le_of_ble_eq_true rfl, Nat.le_of_ble_eq_true rfl⟩ ⟨Nat.zero_le _, Nat.zero_le _⟩ rfl rfl (Nat.le_of_ble_eq_true rfl) hl dX7_lastOther_13 (fun H locs hw => ?_)
    obtain ⟨z5, hF⟩ := ifO hF
    exact r_zretE hC hw (Decidable.not_not.mp z5) hF dX7_lastOther_16
  · have hF := ifP hF b1
    refine lv_aload_n hC.1 hC.2.1 dX7_lastOther_5 rfl (lv_at hl 0 rfl) ?_
    obtain ⟨r7, M8, h6, hF⟩ := ob2S hF
    refine k_Vi (As := []) (rest := []) hC hw (c_X7_otherLast (M := M) h6) RC_X yv_X7_otherLast q6_88 ⟨rfl, rfl⟩ ⟨Nat.le_of_ble_eq_true rfl, Nat.le_of_ble_eq_true rfl⟩ ⟨Nat.zero_le _, Nat.zero_le _⟩ rfl rfl (Nat.le_of_ble_eq_true rfl) hl dX7_lastOther_6 (fun H locs hw => ?_)
    refine lv_goto (tgt := 16) hC.1 hC.2.1 dX7_lastOther_9 (by decide) ?_
    obtain ⟨z9, hF⟩ := ifO hF
    exact r_zretE hC hw (Decidable.not_not.mp z9) hF dX7_lastOther_16
abbrev rm_X7_winsOne : Room := { frames := 10, cells := 0, slots := 0, locals := 226 }
theorem yv_X7_winsOne : YV yX7_winsOne cX7_winsOne 5 (some .boolean) 1 RX7 := ⟨⟨q6_82, qs_67, q1_8, q6_83⟩, by decide +kernel⟩
theorem dX7_winsOne_0 : decode cX7_winsOne 0 = .ok (.iconst 0, 1) := by decide +kernel
theorem dX7_winsOne_1 : decode cX7_winsOne 1 = .ok (.istore_n 2, 1) := by decide +kernel
theorem dX7_winsOne_2 : decode cX7_winsOne 2 = .ok (.iconst 0, 1) := by decide +kernel
theorem dX7_winsOne_3 : decode cX7_winsOne 3 = .ok (.istore_n 3, 1) := by decide +kernel
theorem dX7_winsOne_4 : decode cX7_winsOne 4 = .ok (.iload_n 3, 1) := by decide +kernel
theorem dX7_winsOne_5 : decode cX7_winsOne 5 = .ok (.iconst 2, 1) := by decide +kernel
theorem dX7_winsOne_6 : decode cX7_winsOne 6 = .ok (.aload_n 0, 1) := by decide +kernel
theorem dX7_winsOne_7 : decode cX7_winsOne 7 = .ok (.getfield 101, 3) := by decide +kernel
theorem dX7_winsOne_10 : decode cX7_winsOne 10 = .ok (.imul, 1) := by decide +kernel
theorem dX7_winsOne_11 : decode cX7_winsOne 11 = .ok (.if_icmp .ge 82, 3) := by decide +kernel
theorem dX7_winsOne_14 : decode cX7_winsOne 14 = .ok (.iload_n 2, 1) := by decide +kernel
theorem dX7_winsOne_15 : decode cX7_winsOne 15 = .ok (.ifCond .ne 78, 3) := by decide +kernel
theorem dX7_winsOne_18 : decode cX7_winsOne 18 = .ok (.iload_n 3, 1) := by decide +kernel
theorem dX7_winsOne_19 : decode cX7_winsOne 19 = .ok (.iconst 2, 1) := by decide +kernel
theorem dX7_winsOne_20 : decode cX7_winsOne 20 = .ok (.irem, 1) := by decide +kernel
theorem dX7_winsOne_21 : decode cX7_winsOne 21 = .ok (.ifCond .ne 7, 3) := by decide +kernel
theorem dX7_winsOne_24 : decode cX7_winsOne 24 = .ok (.iconst 1, 1) := by decide +kernel
theorem dX7_winsOne_25 : decode cX7_winsOne 25 = .ok (.goto 4, 3) := by decide +kernel
theorem dX7_winsOne_28 : decode cX7_winsOne 28 = .ok (.iconst (-1), 1) := by decide +kernel
theorem dX7_winsOne_29 : decode cX7_winsOne 29 = .ok (.istore 4, 2) := by decide +kernel
theorem dX7_winsOne_31 : decode cX7_winsOne 31 = .ok (.aload_n 0, 1) := by decide +kernel
theorem dX7_winsOne_32 : decode cX7_winsOne 32 = .ok (.getfield 34, 3) := by decide +kernel
theorem dX7_winsOne_35 : decode cX7_winsOne 35 = .ok (.iload_n 3, 1) := by decide +kernel
theorem dX7_winsOne_36 : decode cX7_winsOne 36 = .ok (.iconst 2, 1) := by decide +kernel
theorem dX7_winsOne_37 : decode cX7_winsOne 37 = .ok (.idiv, 1) := by decide +kernel
theorem dX7_winsOne_38 : decode cX7_winsOne 38 = .ok (.iaload, 1) := by decide +kernel
theorem dX7_winsOne_39 : decode cX7_winsOne 39 = .ok (.iload 4, 2) := by decide +kernel
theorem dX7_winsOne_41 : decode cX7_winsOne 41 = .ok (.iadd, 1) := by decide +kernel
theorem dX7_winsOne_42 : decode cX7_winsOne 42 = .ok (.i2l, 1) := by decide +kernel
theorem dX7_winsOne_43 : decode cX7_winsOne 43 = .ok (.lconst 0, 1) := by decide +kernel
theorem dX7_winsOne_44 : decode cX7_winsOne 44 = .ok (.ldc2_w 220, 3) := by decide +kernel
theorem dX7_winsOne_47 : decode cX7_winsOne 47 = .ok (.invokestatic 104, 3) := by decide +kernel
theorem dX7_winsOne_50 : decode cX7_winsOne 50 = .ok (.ifCond .eq 37, 3) := by decide +kernel
theorem dX7_winsOne_53 : decode cX7_winsOne 53 = .ok (.aload_n 0, 1) := by decide +kernel
theorem dX7_winsOne_54 : decode cX7_winsOne 54 = .ok (.getfield 34, 3) := by decide +kernel
theorem dX7_winsOne_57 : decode cX7_winsOne 57 = .ok (.iload_n 3, 1) := by decide +kernel
theorem dX7_winsOne_58 : decode cX7_winsOne 58 = .ok (.iconst 2, 1) := by decide +kernel
theorem dX7_winsOne_59 : decode cX7_winsOne 59 = .ok (.idiv, 1) := by decide +kernel
theorem dX7_winsOne_60 : decode cX7_winsOne 60 = .ok (.dup2, 1) := by decide +kernel
theorem dX7_winsOne_61 : decode cX7_winsOne 61 = .ok (.iaload, 1) := by decide +kernel
theorem dX7_winsOne_62 : decode cX7_winsOne 62 = .ok (.iload 4, 2) := by decide +kernel
theorem dX7_winsOne_64 : decode cX7_winsOne 64 = .ok (.iadd, 1) := by decide +kernel
theorem dX7_winsOne_65 : decode cX7_winsOne 65 = .ok (.iastore, 1) := by decide +kernel
theorem dX7_winsOne_66 : decode cX7_winsOne 66 = .ok (.aload_n 0, 1) := by decide +kernel
theorem dX7_winsOne_67 : decode cX7_winsOne 67 = .ok (.iload_n 1, 1) := by decide +kernel
theorem dX7_winsOne_68 : decode cX7_winsOne 68 = .ok (.iconst 1, 1) := by decide +kernel
theorem dX7_winsOne_69 : decode cX7_winsOne 69 = .ok (.isub, 1) := by decide +kernel
theorem dX7_winsOne_70 : decode cX7_winsOne 70 = .ok (.invokevirtual 280, 3) := by decide +kernel
theorem dX7_winsOne_73 : decode cX7_winsOne 73 = .ok (.istore_n 2, 1) := by decide +kernel
theorem dX7_winsOne_74 : decode cX7_winsOne 74 = .ok (.aload_n 0, 1) := by decide +kernel
theorem dX7_winsOne_75 : decode cX7_winsOne 75 = .ok (.getfield 34, 3) := by decide +kernel
theorem dX7_winsOne_78 : decode cX7_winsOne 78 = .ok (.iload_n 3, 1) := by decide +kernel
theorem dX7_winsOne_79 : decode cX7_winsOne 79 = .ok (.iconst 2, 1) := by decide +kernel
theorem dX7_winsOne_80 : decode cX7_winsOne 80 = .ok (.idiv, 1) := by decide +kernel
theorem dX7_winsOne_81 : decode cX7_winsOne 81 = .ok (.dup2, 1) := by decide +kernel
theorem dX7_winsOne_82 : decode cX7_winsOne 82 = .ok (.iaload, 1) := by decide +kernel
theorem dX7_winsOne_83 : decode cX7_winsOne 83 = .ok (.iload 4, 2) := by decide +kernel
theorem dX7_winsOne_85 : decode cX7_winsOne 85 = .ok (.isub, 1) := by decide +kernel
theorem dX7_winsOne_86 : decode cX7_winsOne 86 = .ok (.iastore, 1) := by decide +kernel
theorem dX7_winsOne_87 : decode cX7_winsOne 87 = .ok (.iinc 3 1, 3) := by decide +kernel
theorem dX7_winsOne_90 : decode cX7_winsOne 90 = .ok (.goto (-86), 3) := by decide +kernel
theorem dX7_winsOne_93 : decode cX7_winsOne 93 = .ok (.iload_n 2, 1) := by decide +kernel
theorem dX7_winsOne_94 : decode cX7_winsOne 94 = .ok (.ireturn, 1) := by decide +kernel
def F_X7_winsOne_29 (fu : Nat) (k4 : Mm → Int32 → Int32 → Int32 → Option (Int32 × Mm)) (M : Mm) (x1 : Int32) (x2 : Int32) (x3 : Int32) (t0 : Int32) : Option (Int32 × Mm) :=
  if (x3 / (2 : Int32)) < 0 ∨ ln 95 ≤ (x3 / (2 : Int32)).toNatClampNeg then none else (
  ob1 (F_X7_in fu M ((M.1 95 (x3 / (2 : Int32)).toNatClampNeg) + t0).toInt64 (0 : Int64) (9 : Int64)) (fun r3 =>
  if r3 = 0 then
    k4 M x1 x2 (x3 + (1 : Int32))
  else
    if (x3 / (2 : Int32)) < 0 ∨ ln 95 ≤ (x3 / (2 : Int32)).toNatClampNeg then none else (
    if (x3 / (2 : Int32)) < 0 ∨ ln 95 ≤ (x3 / (2 : Int32)).toNatClampNeg then none else (
    lt1 (pI M 95 (x3 / (2 : Int32)).toNatClampNeg ((M.1 95 (x3 / (2 : Int32)).toNatClampNeg) + t0)) (fun M7 =>
    ob2 (F_X7_lastOther fu M7 (x1 - (1 : Int32))) (fun r9 M10 =>
    if (x3 / (2 : Int32)) < 0 ∨ ln 95 ≤ (x3 / (2 : Int32)).toNatClampNeg then none else (
    if (x3 / (2 : Int32)) < 0 ∨ ln 95 ≤ (x3 / (2 : Int32)).toNatClampNeg then none else (
    lt1 (pI M10 95 (x3 / (2 : Int32)).toNatClampNeg ((M10.1 95 (x3 / (2 : Int32)).toNatClampNeg) - t0)) (fun M13 =>
    k4 M13 x1 r9 (x3 + (1 : Int32)))))))))))
set_option maxRecDepth 100000 in
set_option maxHeartbeats 4000000 in
theorem w_X7_winsOne_29 {p : Program} {l : Launch} {e : Env} {s : State} {m : MethodId} {args : Array Value} {below : List Frame} {meth : Method} {c : Code} {G : Gv} (hC : Cx p s m args meth c cX7_winsOne 5 (some .boolean) RX7) {fu : Nat} {r : Int32} {M' : Mm} {k4 : Mm → Int32 → Int32 → Int32 → Option (Int32 × Mm)} (hk_4 : ∀ {x1 : Int32} {x2 : Int32} {x3 : Int32} {M : Mm} {H : Heap} {locs : List Loc} {ls : Array Slot}, k4 M x1 x2 x3 = some (r, M') → St G s H locs M → lv_has ls 5 [(0, .ref (ad G 86)), (1, .int x1), (2, .int x2), (3, .int x3)] → W p l e rm_X7_winsOne s m args below meth c H locs 0 0 (MQ below (QI G r M') args s 0 0 (zA G)) (F0 m 4 ls [])) {x1 : Int32} {x2 : Int32} {x3 : Int32} {t0 : Int32} {M : Mm} {H : Heap} {locs : List Loc} {ls : Array Slot} (hF : F_X7_winsOne_29 fu k4 M x1 x2 x3 t0 = some (r, M')) (hw : St G s H locs M) (hl : lv_has ls 5 [(0, .ref (ad G 86)), (1, .int x1), (2, .int x2), (3, .int x3)]) : W p l e rm_X7_winsOne s m args below meth c H locs 0 0 (MQ below (QI G r M') args s 0 0 (zA G)) (F0 m 29 ls [.int t0]) := by
  unfold F_X7_winsOne_29 at hF
  refine lv_istore (lv' := [(4, .int t0), (0, .ref (ad G 86)), (1, .int x1), (2, .int x2), (3, .int x3)]) hC.1 hC.2.1 dX7_winsOne_29 hl (by decide) rfl (fun ls hl => ?_)
  refine lv_aload_n hC.1 hC.2.1 dX7_winsOne_31 rfl (lv_at hl 1 rfl) ?_
  refine g7_shades hC hw q4_131 dX7_winsOne_32 ?_
  refine lv_iload_n hC.1 hC.2.1 dX7_winsOne_35 rfl (lv_at hl 4 rfl) ?_
  refine lv_iconst (v := (2 : Int32)) hC.1 hC.2.1 dX7_winsOne_36 (by decide) ?_
  refine lv_idiv hC.1 hC.2.1 dX7_winsOne_37 (by decide) ?_
  obtain ⟨n1, hF⟩ := ifO hF
  refine r_iald hC.1 hC.2.1 hw (rfl : kd 95 = 1) n1 dX7_winsOne_38 ?_
  refine lv_iload hC.1 hC.2.1 dX7_winsOne_39 (lv_at hl 0 rfl) ?_
  refine lv_iadd hC.1 hC.2.1 dX7_winsOne_41 ?_
  refine lv_i2l hC.1 hC.2.1 dX7_winsOne_42 rfl ?_
  refine lv_lconst (v := (0 : Int64)) hC.1 hC.2.1 dX7_winsOne_43 (by decide) ?_
  refine lv_ldc2 (v := (9 : Int64)) hC.1 hC.2.1 hC.2.2.2.1 (hC.2.2.2.2.1 _ q5_152) dX7_winsOne_44 ?_
  obtain ⟨r3, h2, hF⟩ := ob1S hF
  refine k_Si (As := [.long ((M.1 95 (x3 / (2 : Int32)).toNatClampNeg) + t0).toInt64, .long (0 : Int64), .long (9 : Int64)]) (rest := []) hC hw (c_X7_in (M := M) h2) ys_X7_in q5_3 ⟨rfl, rfl⟩ ⟨Nat.le_of_ble_eq_true rfl, Nat.le_of_ble_eq_true rfl⟩ ⟨Nat.zero_le _, Nat.zero_le _⟩ rfl rfl (Nat.le_of_ble_eq_true rfl) hl dX7_winsOne_47 (fun H locs hw => ?_)
  refine lv_if_eq (tgt := 87) hC.1 hC.2.1 dX7_winsOne_50 (by decide) (fun b4 => ?_) (fun b4 => ?_)
  · have hF := ifP hF b4
    refine lv_iinc (v := (x3 + (1 : Int32))) (lv' := [(3, .int (x3 + (1 : Int32))), (4, .int t0), (0, .ref (ad G 86)), (1, .int x1), (2, .int x2)]) hC.1 hC.2.1 dX7_winsOne_87 hl (k := 4) rfl rfl (by decide) rfl (fun ls hl => ?_)
    refine lv_goto (tgt := 4) hC.1 hC.2.1 dX7_winsOne_90 (by decide) ?_
    exact hk_4 hF hw (lv_sub hl [2, 3, 4, 0] rfl)
  · have hF := ifN hF b4
    refine lv_aload_n hC.1 hC.2.1 dX7_winsOne_53 rfl (lv_at hl 1 rfl) ?_
    refine g7_shades hC hw q4_131 dX7_winsOne_54 ?_
    refine lv_iload_n hC.1 hC.2.1 dX7_winsOne_57 rfl (lv_at hl 4 rfl) ?_
    refine lv_iconst (v := (2 : Int32)) hC.1 hC.2.1 dX7_winsOne_58 (by decide) ?_
    refine lv_idiv hC.1 hC.2.1 dX7_winsOne_59 (by decide) ?_
    refine lv_dup2_11 hC.1 hC.2.1 dX7_winsOne_60 rfl rfl ?_
    obtain ⟨n5, hF⟩ := ifO hF
    refine r_iald hC.1 hC.2.1 hw (rfl : kd 95 = 1) n5 dX7_winsOne_61 ?_
    refine lv_iload hC.1 hC.2.1 dX7_winsOne_62 (lv_at hl 0 rfl) ?_
    refine lv_iadd hC.1 hC.2.1 dX7_winsOne_64 ?_
    obtain ⟨n6, hF⟩ := ifO hF
    refine r_iast hC.1 hC.2.1 hw (rfl : kd 95 = 1) n6 dX7_winsOne_65 (fun H locs hw => ?_)
    obtain ⟨M7, hw, hF⟩ := lt1W hF hw
    refine lv_aload_n hC.1 hC.2.1 dX7_winsOne_66 rfl (lv_at hl 1 rfl) ?_
    refine lv_iload_n hC.1 hC.2.1 dX7_winsOne_67 rfl (lv_at hl 2 rfl) ?_
    refine lv_iconst (v := (1 : Int32)) hC.1 hC.2.1 dX7_winsOne_68 (by decide) ?_
    refine lv_isub hC.1 hC.2.1 dX7_winsOne_69 ?_
    obtain ⟨r9, M10, h8, hF⟩ := ob2S hF
    refine k_Vi (As := [.int (x1 - (1 : Int32))]) (rest := []) hC hw (c_X7_lastOther (M := M7) h8) RC_X yv_X7_lastOther q6_84 ⟨rfl, rfl⟩ ⟨Nat.le_of_ble_eq_true rfl, Nat.le_of_ble_eq_true rfl⟩ ⟨Nat.zero_le _, Nat.zero_le _⟩ rfl rfl (Nat.le_of_ble_eq_true rfl) hl dX7_winsOne_70 (fun H locs hw => ?_)
    refine lv_istore_n (lv' := [(2, .int r9), (4, .int t0), (0, .ref (ad G 86)), (1, .int x1), (3, .int x3)]) hC.1 hC.2.1 dX7_winsOne_73 rfl hl (by decide) rfl (fun ls hl => ?_)
    refine lv_aload_n hC.1 hC.2.1 dX7_winsOne_74 rfl (lv_at hl 2 rfl) ?_
    refine g7_shades hC hw q4_131 dX7_winsOne_75 ?_
    refine lv_iload_n hC.1 hC.2.1 dX7_winsOne_78 rfl (lv_at hl 4 rfl) ?_
    refine lv_iconst (v := (2 : Int32)) hC.1 hC.2.1 dX7_winsOne_79 (by decide) ?_
    refine lv_idiv hC.1 hC.2.1 dX7_winsOne_80 (by decide) ?_
    refine lv_dup2_11 hC.1 hC.2.1 dX7_winsOne_81 rfl rfl ?_
    obtain ⟨n11, hF⟩ := ifO hF
    refine r_iald hC.1 hC.2.1 hw (rfl : kd 95 = 1) n11 dX7_winsOne_82 ?_
    refine lv_iload hC.1 hC.2.1 dX7_winsOne_83 (lv_at hl 1 rfl) ?_
    refine lv_isub hC.1 hC.2.1 dX7_winsOne_85 ?_
    obtain ⟨n12, hF⟩ := ifO hF
    refine r_iast hC.1 hC.2.1 hw (rfl : kd 95 = 1) n12 dX7_winsOne_86 (fun H locs hw => ?_)
    obtain ⟨M13, hw, hF⟩ := lt1W hF hw
    refine lv_iinc (v := (x3 + (1 : Int32))) (lv' := [(3, .int (x3 + (1 : Int32))), (2, .int r9), (4, .int t0), (0, .ref (ad G 86)), (1, .int x1)]) hC.1 hC.2.1 dX7_winsOne_87 hl (k := 4) rfl rfl (by decide) rfl (fun ls hl => ?_)
    refine lv_goto (tgt := 4) hC.1 hC.2.1 dX7_winsOne_90 (by decide) ?_
    exact hk_4 hF hw (lv_sub hl [3, 4, 1, 0] rfl)
def F_X7_winsOne_4 (fu : Nat) : Nat → Mm → Int32 → Int32 → Int32 → Option (Int32 × Mm)
  | 0, _, _, _, _ => none
  | n + 1, M, x1, x2, x3 =>
    if ((2 : Int32) * (M.1 86 4)) ≤ x3 then
      if ¬ (x2 = 0 ∨ x2 = 1) then none else (
      some (x2, M))
    else
      if x2 = 0 then
        if (x3 - x3 / (2 : Int32) * (2 : Int32)) = 0 then
          F_X7_winsOne_29 fu (F_X7_winsOne_4 fu n) M x1 x2 x3 (1 : Int32)
        else
          F_X7_winsOne_29 fu (F_X7_winsOne_4 fu n) M x1 x2 x3 (-1 : Int32)
      else
        if ¬ (x2 = 0 ∨ x2 = 1) then none else (
        some (x2, M))
set_option maxRecDepth 100000 in
set_option maxHeartbeats 4000000 in
theorem w_X7_winsOne_4 {p : Program} {l : Launch} {e : Env} {s : State} {m : MethodId} {args : Array Value} {below : List Frame} {meth : Method} {c : Code} {G : Gv} (hC : Cx p s m args meth c cX7_winsOne 5 (some .boolean) RX7) {fu : Nat} {r : Int32} {M' : Mm} : ∀ (n : Nat) {x1 : Int32} {x2 : Int32} {x3 : Int32} {M : Mm} {H : Heap} {locs : List Loc} {ls : Array Slot}, F_X7_winsOne_4 fu n M x1 x2 x3 = some (r, M') → St G s H locs M → lv_has ls 5 [(0, .ref (ad G 86)), (1, .int x1), (2, .int x2), (3, .int x3)] → W p l e rm_X7_winsOne s m args below meth c H locs 0 0 (MQ below (QI G r M') args s 0 0 (zA G)) (F0 m 4 ls []) := by
  intro n
  induction n with
  | zero =>
    intro x1 x2 x3 M H locs ls hF hw hl
    cases hF
  | succ n ih =>
    intro x1 x2 x3 M H locs ls hF hw hl
    unfold F_X7_winsOne_4 at hF
    refine lv_iload_n hC.1 hC.2.1 dX7_winsOne_4 rfl (lv_at hl 3 rfl) ?_
    refine lv_iconst (v := (2 : Int32)) hC.1 hC.2.1 dX7_winsOne_5 (by decide) ?_
    refine lv_aload_n hC.1 hC.2.1 dX7_winsOne_6 rfl (lv_at hl 0 rfl) ?_
    refine g7_men hC hw q4_126 dX7_winsOne_7 ?_
    refine lv_imul hC.1 hC.2.1 dX7_winsOne_10 ?_
    refine lv_icmp_ge (tgt := 93) hC.1 hC.2.1 dX7_winsOne_11 (by decide) (fun b1 => ?_) (fun b1 => ?_)
    · have hF := ifP hF b1
      refine lv_iload_n hC.1 hC.2.1 dX7_winsOne_93 rfl (lv_at hl 2 rfl) ?_
      obtain ⟨z2, hF⟩ := ifO hF
      exact r_zretE hC hw (Decidable.not_not.mp z2) hF dX7_winsOne_94
    · have hF := ifN hF b1
      refine lv_iload_n hC.1 hC.2.1 dX7_winsOne_14 rfl (lv_at hl 2 rfl) ?_
      refine lv_if_ne (tgt := 93) hC.1 hC.2.1 dX7_winsOne_15 (by decide) (fun b3 => ?_) (fun b3 => ?_)
      · have hF := ifN hF b3
        refine lv_iload_n hC.1 hC.2.1 dX7_winsOne_93 rfl (lv_at hl 2 rfl) ?_
        obtain ⟨z4, hF⟩ := ifO hF
        exact r_zretE hC hw (Decidable.not_not.mp z4) hF dX7_winsOne_94
      · have hF := ifP hF b3
        refine lv_iload_n hC.1 hC.2.1 dX7_winsOne_18 rfl (lv_at hl 3 rfl) ?_
        refine lv_iconst (v := (2 : Int32)) hC.1 hC.2.1 dX7_winsOne_19 (by decide) ?_
        refine lv_irem hC.1 hC.2.1 dX7_winsOne_20 (by decide) ?_
        refine lv_if_ne (tgt := 28) hC.1 hC.2.1 dX7_winsOne_21 (by decide) (fun b5 => ?_) (fun b5 => ?_)
        · have hF := ifN hF b5
          refine lv_iconst (v := (-1 : Int32)) hC.1 hC.2.1 dX7_winsOne_28 (by decide) ?_
          exact w_X7_winsOne_29 hC (hk_4 := ih) hF hw (lv_sub hl [0, 1, 2, 3] rfl)
        · have hF := ifP hF b5
          refine lv_iconst (v := (1 : Int32)) hC.1 hC.2.1 dX7_winsOne_24 (by decide) ?_
          refine lv_goto (tgt := 29) hC.1 hC.2.1 dX7_winsOne_25 (by decide) ?_
          exact w_X7_winsOne_29 hC (hk_4 := ih) hF hw (lv_sub hl [0, 1, 2, 3] rfl)
def F_X7_winsOne (fu : Nat) (M : Mm) (x1 : Int32) : Option (Int32 × Mm) :=
  F_X7_winsOne_4 fu fu M x1 (0 : Int32) (0 : Int32)
set_option maxRecDepth 100000 in
set_option maxHeartbeats 4000000 in
theorem c_X7_winsOne {l : Launch} {G : Gv} {fu : Nat} {M : Mm} {x1 : Int32} {r : Int32} {M' : Mm} (hF : F_X7_winsOne fu M x1 = some (r, M')) : Met l yX7_winsOne (.code yX7_winsOne cX7_winsOne 5 (some .boolean) :: zU) rm_X7_winsOne (va_Pc [.ref (ad G 86), .int x1] (Wd G M)) (QI G r M') 0 0 (zA G) := by
  refine zMet (by decide) rfl (Nat.le_of_ble_eq_true rfl) ?_
  intro p e s m below meth c hC hw ls hl
  have hl : lv_has ls 5 [(0, .ref (ad G 86)), (1, .int x1)] := hl
  unfold F_X7_winsOne at hF
  refine lv_iconst (v := (0 : Int32)) hC.1 hC.2.1 dX7_winsOne_0 (by decide) ?_
  refine lv_istore_n (lv' := [(2, .int (0 : Int32)), (0, .ref (ad G 86)), (1, .int x1)]) hC.1 hC.2.1 dX7_winsOne_1 rfl hl (by decide) rfl (fun ls hl => ?_)
  refine lv_iconst (v := (0 : Int32)) hC.1 hC.2.1 dX7_winsOne_2 (by decide) ?_
  refine lv_istore_n (lv' := [(3, .int (0 : Int32)), (2, .int (0 : Int32)), (0, .ref (ad G 86)), (1, .int x1)]) hC.1 hC.2.1 dX7_winsOne_3 rfl hl (by decide) rfl (fun ls hl => ?_)
  exact w_X7_winsOne_4 hC _ hF hw (lv_sub hl [2, 3, 1, 0] rfl)
abbrev rm_X7_game : Room := { frames := 11, cells := 0, slots := 0, locals := 250 }
theorem yv_X7_game : YV yX7_game cX7_game 3 (some .int) 1 RX7 := ⟨⟨q6_73, q6_74, q1_8, q6_75⟩, by decide +kernel⟩
theorem dX7_game_0 : decode cX7_game 0 = .ok (.iload_n 1, 1) := by decide +kernel
theorem dX7_game_1 : decode cX7_game 1 = .ok (.i2l, 1) := by decide +kernel
theorem dX7_game_2 : decode cX7_game 2 = .ok (.lconst 0, 1) := by decide +kernel
theorem dX7_game_3 : decode cX7_game 3 = .ok (.ldc2_w 239, 3) := by decide +kernel
theorem dX7_game_6 : decode cX7_game 6 = .ok (.invokestatic 104, 3) := by decide +kernel
theorem dX7_game_9 : decode cX7_game 9 = .ok (.ifCond .ne 5, 3) := by decide +kernel
theorem dX7_game_12 : decode cX7_game 12 = .ok (.iconst (-1), 1) := by decide +kernel
theorem dX7_game_13 : decode cX7_game 13 = .ok (.ireturn, 1) := by decide +kernel
theorem dX7_game_14 : decode cX7_game 14 = .ok (.aload_n 0, 1) := by decide +kernel
theorem dX7_game_15 : decode cX7_game 15 = .ok (.getfield 101, 3) := by decide +kernel
theorem dX7_game_18 : decode cX7_game 18 = .ok (.ifCond .ne 6, 3) := by decide +kernel
theorem dX7_game_21 : decode cX7_game 21 = .ok (.bipush (-4), 2) := by decide +kernel
theorem dX7_game_23 : decode cX7_game 23 = .ok (.ireturn, 1) := by decide +kernel
theorem dX7_game_24 : decode cX7_game 24 = .ok (.iload_n 1, 1) := by decide +kernel
theorem dX7_game_25 : decode cX7_game 25 = .ok (.ifCond .ne 10, 3) := by decide +kernel
theorem dX7_game_28 : decode cX7_game 28 = .ok (.aload_n 0, 1) := by decide +kernel
theorem dX7_game_29 : decode cX7_game 29 = .ok (.invokevirtual 289, 3) := by decide +kernel
theorem dX7_game_32 : decode cX7_game 32 = .ok (.goto 10, 3) := by decide +kernel
theorem dX7_game_35 : decode cX7_game 35 = .ok (.aload_n 0, 1) := by decide +kernel
theorem dX7_game_36 : decode cX7_game 36 = .ok (.iconst 2, 1) := by decide +kernel
theorem dX7_game_37 : decode cX7_game 37 = .ok (.iload_n 1, 1) := by decide +kernel
theorem dX7_game_38 : decode cX7_game 38 = .ok (.imul, 1) := by decide +kernel
theorem dX7_game_39 : decode cX7_game 39 = .ok (.invokevirtual 295, 3) := by decide +kernel
theorem dX7_game_42 : decode cX7_game 42 = .ok (.istore_n 2, 1) := by decide +kernel
theorem dX7_game_43 : decode cX7_game 43 = .ok (.iload_n 2, 1) := by decide +kernel
theorem dX7_game_44 : decode cX7_game 44 = .ok (.ifCond .eq 7, 3) := by decide +kernel
theorem dX7_game_47 : decode cX7_game 47 = .ok (.iconst 1, 1) := by decide +kernel
theorem dX7_game_48 : decode cX7_game 48 = .ok (.goto 4, 3) := by decide +kernel
theorem dX7_game_51 : decode cX7_game 51 = .ok (.iconst 0, 1) := by decide +kernel
theorem dX7_game_52 : decode cX7_game 52 = .ok (.ireturn, 1) := by decide +kernel
def F_X7_game_42 (fu : Nat) (M : Mm) (t0 : Int32) : Option (Int32 × Mm) :=
  if t0 = 0 then
    some ((0 : Int32), M)
  else
    some ((1 : Int32), M)
set_option maxRecDepth 100000 in
set_option maxHeartbeats 4000000 in
theorem w_X7_game_42 {p : Program} {l : Launch} {e : Env} {s : State} {m : MethodId} {args : Array Value} {below : List Frame} {meth : Method} {c : Code} {G : Gv} (hC : Cx p s m args meth c cX7_game 3 (some .int) RX7) {fu : Nat} {r : Int32} {M' : Mm} {t0 : Int32} {M : Mm} {H : Heap} {locs : List Loc} {ls : Array Slot} (hF : F_X7_game_42 fu M t0 = some (r, M')) (hw : St G s H locs M) (hl : lv_has ls 3 []) : W p l e rm_X7_game s m args below meth c H locs 0 0 (MQ below (QI G r M') args s 0 0 (zA G)) (F0 m 42 ls [.int t0]) := by
  unfold F_X7_game_42 at hF
  refine lv_istore_n (lv' := [(2, .int t0)]) hC.1 hC.2.1 dX7_game_42 rfl hl (by decide) rfl (fun ls hl => ?_)
  refine lv_iload_n hC.1 hC.2.1 dX7_game_43 rfl (lv_at hl 0 rfl) ?_
  refine lv_if_eq (tgt := 51) hC.1 hC.2.1 dX7_game_44 (by decide) (fun b1 => ?_) (fun b1 => ?_)
  · have hF := ifP hF b1
    refine lv_iconst (v := (0 : Int32)) hC.1 hC.2.1 dX7_game_51 (by decide) ?_
    exact r_iretE hC hw hF dX7_game_52
  · have hF := ifN hF b1
    refine lv_iconst (v := (1 : Int32)) hC.1 hC.2.1 dX7_game_47 (by decide) ?_
    refine lv_goto (tgt := 52) hC.1 hC.2.1 dX7_game_48 (by decide) ?_
    exact r_iretE hC hw hF dX7_game_52
def F_X7_game (fu : Nat) (M : Mm) (x1 : Int32) : Option (Int32 × Mm) :=
  ob1 (F_X7_in fu M x1.toInt64 (0 : Int64) (2 : Int64)) (fun r2 =>
  if r2 = 0 then
    some ((-1 : Int32), M)
  else
    if (M.1 86 4) = 0 then
      some ((-4 : Int32), M)
    else
      if x1 = 0 then
        ob1 (F_X7_isCarriedThen fu M) (fun r10 =>
        F_X7_game_42 fu M r10)
      else
        ob2 (F_X7_winsOne fu M ((2 : Int32) * x1)) (fun r7 M8 =>
        F_X7_game_42 fu M8 r7))
set_option maxRecDepth 100000 in
set_option maxHeartbeats 4000000 in
theorem c_X7_game {l : Launch} {G : Gv} {fu : Nat} {M : Mm} {x1 : Int32} {r : Int32} {M' : Mm} (hF : F_X7_game fu M x1 = some (r, M')) : Met l yX7_game (.code yX7_game cX7_game 3 (some .int) :: zU) rm_X7_game (va_Pc [.ref (ad G 86), .int x1] (Wd G M)) (QI G r M') 0 0 (zA G) := by
  refine zMet (by decide) rfl (Nat.le_of_ble_eq_true rfl) ?_
  intro p e s m below meth c hC hw ls hl
  have hl : lv_has ls 3 [(0, .ref (ad G 86)), (1, .int x1)] := hl
  unfold F_X7_game at hF
  refine lv_iload_n hC.1 hC.2.1 dX7_game_0 rfl (lv_at hl 1 rfl) ?_
  refine lv_i2l hC.1 hC.2.1 dX7_game_1 rfl ?_
  refine lv_lconst (v := (0 : Int64)) hC.1 hC.2.1 dX7_game_2 (by decide) ?_
  refine lv_ldc2 (v := (2 : Int64)) hC.1 hC.2.1 hC.2.2.2.1 (hC.2.2.2.2.1 _ q5_195) dX7_game_3 ?_
  obtain ⟨r2, h1, hF⟩ := ob1S hF
  refine k_Si (As := [.long x1.toInt64, .long (0 : Int64), .long (2 : Int64)]) (rest := []) hC hw (c_X7_in (M := M) h1) ys_X7_in q5_3 ⟨rfl, rfl⟩ ⟨Nat.le_of_ble_eq_true rfl, Nat.le_of_ble_eq_true rfl⟩ ⟨Nat.zero_le _, Nat.zero_le _⟩ rfl rfl (Nat.le_of_ble_eq_true rfl) hl dX7_game_6 (fun H locs hw => ?_)
  refine lv_if_ne (tgt := 14) hC.1 hC.2.1 dX7_game_9 (by decide) (fun b3 => ?_) (fun b3 => ?_)
  · have hF := ifN hF b3
    refine lv_aload_n hC.1 hC.2.1 dX7_game_14 rfl (lv_at hl 0 rfl) ?_
    refine g7_men hC hw q4_126 dX7_game_15 ?_
    refine lv_if_ne (tgt := 24) hC.1 hC.2.1 dX7_game_18 (by decide) (fun b4 => ?_) (fun b4 => ?_)
    · have hF := ifN hF b4
      refine lv_iload_n hC.1 hC.2.1 dX7_game_24 rfl (lv_at hl 1 rfl) ?_
      refine lv_if_ne (tgt := 35) hC.1 hC.2.1 dX7_game_25 (by decide) (fun b5 => ?_) (fun b5 => ?_)
      · have hF := ifN hF b5
        refine lv_aload_n hC.1 hC.2.1 dX7_game_35 rfl (lv_at hl 0 rfl) ?_
        refine lv_iconst (v := (2 : Int32)) hC.1 hC.2.1 dX7_game_36 (by decide) ?_
        refine lv_iload_n hC.1 hC.2.1 dX7_game_37 rfl (lv_at hl 1 rfl) ?_
        refine lv_imul hC.1 hC.2.1 dX7_game_38 ?_
        obtain ⟨r7, M8, h6, hF⟩ := ob2S hF
        refine k_Vi (As := [.int ((2 : Int32) * x1)]) (rest := []) hC hw (c_X7_winsOne (M := M) h6) RC_X yv_X7_winsOne q6_80 ⟨rfl, rfl⟩ ⟨Nat.le_of_ble_eq_true rfl, Nat.le_of_ble_eq_true rfl⟩ ⟨Nat.zero_le _, Nat.zero_le _⟩ rfl rfl (Nat.le_of_ble_eq_true rfl) hl dX7_game_39 (fun H locs hw => ?_)
        exact w_X7_game_42 hC hF hw (lv_sub hl [] rfl)
      · have hF := ifP hF b5
        refine lv_aload_n hC.1 hC.2.1 dX7_game_28 rfl (lv_at hl 0 rfl) ?_
        obtain ⟨r10, h9, hF⟩ := ob1S hF
        refine k_Vi (As := []) (rest := []) hC hw (c_X7_isCarriedThen (M := M) h9) RC_X yv_X7_isCarriedThen q6_76 ⟨rfl, rfl⟩ ⟨Nat.le_of_ble_eq_true rfl, Nat.le_of_ble_eq_true rfl⟩ ⟨Nat.zero_le _, Nat.zero_le _⟩ rfl rfl (Nat.le_of_ble_eq_true rfl) hl dX7_game_29 (fun H locs hw => ?_)
        refine lv_goto (tgt := 42) hC.1 hC.2.1 dX7_game_32 (by decide) ?_
        exact w_X7_game_42 hC hF hw (lv_sub hl [] rfl)
    · have hF := ifP hF b4
      refine lv_bipush (v := (-4 : Int32)) hC.1 hC.2.1 dX7_game_21 (by decide) ?_
      exact r_iretE hC hw hF dX7_game_23
  · have hF := ifP hF b3
    refine lv_iconst (v := (-1 : Int32)) hC.1 hC.2.1 dX7_game_12 (by decide) ?_
    exact r_iretE hC hw hF dX7_game_13
abbrev rm_X7_first : Room := { frames := 10, cells := 0, slots := 0, locals := 226 }
theorem yv_X7_first : YV yX7_first cX7_first 5 (some .int) 1 RX7 := ⟨⟨q6_101, q6_102, q1_8, q6_103⟩, by decide +kernel⟩
theorem dX7_first_0 : decode cX7_first 0 = .ok (.iload_n 1, 1) := by decide +kernel
theorem dX7_first_1 : decode cX7_first 1 = .ok (.i2l, 1) := by decide +kernel
theorem dX7_first_2 : decode cX7_first 2 = .ok (.lconst 1, 1) := by decide +kernel
theorem dX7_first_3 : decode cX7_first 3 = .ok (.ldc2_w 239, 3) := by decide +kernel
theorem dX7_first_6 : decode cX7_first 6 = .ok (.invokestatic 104, 3) := by decide +kernel
theorem dX7_first_9 : decode cX7_first 9 = .ok (.ifCond .ne 5, 3) := by decide +kernel
theorem dX7_first_12 : decode cX7_first 12 = .ok (.iconst (-1), 1) := by decide +kernel
theorem dX7_first_13 : decode cX7_first 13 = .ok (.ireturn, 1) := by decide +kernel
theorem dX7_first_14 : decode cX7_first 14 = .ok (.aload_n 0, 1) := by decide +kernel
theorem dX7_first_15 : decode cX7_first 15 = .ok (.getfield 101, 3) := by decide +kernel
theorem dX7_first_18 : decode cX7_first 18 = .ok (.ifCond .ne 6, 3) := by decide +kernel
theorem dX7_first_21 : decode cX7_first 21 = .ok (.bipush (-4), 2) := by decide +kernel
theorem dX7_first_23 : decode cX7_first 23 = .ok (.ireturn, 1) := by decide +kernel
theorem dX7_first_24 : decode cX7_first 24 = .ok (.iconst 0, 1) := by decide +kernel
theorem dX7_first_25 : decode cX7_first 25 = .ok (.istore_n 2, 1) := by decide +kernel
theorem dX7_first_26 : decode cX7_first 26 = .ok (.iload_n 2, 1) := by decide +kernel
theorem dX7_first_27 : decode cX7_first 27 = .ok (.iconst 2, 1) := by decide +kernel
theorem dX7_first_28 : decode cX7_first 28 = .ok (.aload_n 0, 1) := by decide +kernel
theorem dX7_first_29 : decode cX7_first 29 = .ok (.getfield 101, 3) := by decide +kernel
theorem dX7_first_32 : decode cX7_first 32 = .ok (.imul, 1) := by decide +kernel
theorem dX7_first_33 : decode cX7_first 33 = .ok (.if_icmp .ge 84, 3) := by decide +kernel
theorem dX7_first_36 : decode cX7_first 36 = .ok (.iload_n 2, 1) := by decide +kernel
theorem dX7_first_37 : decode cX7_first 37 = .ok (.iconst 2, 1) := by decide +kernel
theorem dX7_first_38 : decode cX7_first 38 = .ok (.irem, 1) := by decide +kernel
theorem dX7_first_39 : decode cX7_first 39 = .ok (.ifCond .ne 7, 3) := by decide +kernel
theorem dX7_first_42 : decode cX7_first 42 = .ok (.iconst 1, 1) := by decide +kernel
theorem dX7_first_43 : decode cX7_first 43 = .ok (.goto 4, 3) := by decide +kernel
theorem dX7_first_46 : decode cX7_first 46 = .ok (.iconst (-1), 1) := by decide +kernel
theorem dX7_first_47 : decode cX7_first 47 = .ok (.istore_n 3, 1) := by decide +kernel
theorem dX7_first_48 : decode cX7_first 48 = .ok (.aload_n 0, 1) := by decide +kernel
theorem dX7_first_49 : decode cX7_first 49 = .ok (.getfield 34, 3) := by decide +kernel
theorem dX7_first_52 : decode cX7_first 52 = .ok (.iload_n 2, 1) := by decide +kernel
theorem dX7_first_53 : decode cX7_first 53 = .ok (.iconst 2, 1) := by decide +kernel
theorem dX7_first_54 : decode cX7_first 54 = .ok (.idiv, 1) := by decide +kernel
theorem dX7_first_55 : decode cX7_first 55 = .ok (.iaload, 1) := by decide +kernel
theorem dX7_first_56 : decode cX7_first 56 = .ok (.iload_n 3, 1) := by decide +kernel
theorem dX7_first_57 : decode cX7_first 57 = .ok (.iadd, 1) := by decide +kernel
theorem dX7_first_58 : decode cX7_first 58 = .ok (.i2l, 1) := by decide +kernel
theorem dX7_first_59 : decode cX7_first 59 = .ok (.lconst 0, 1) := by decide +kernel
theorem dX7_first_60 : decode cX7_first 60 = .ok (.ldc2_w 220, 3) := by decide +kernel
theorem dX7_first_63 : decode cX7_first 63 = .ok (.invokestatic 104, 3) := by decide +kernel
theorem dX7_first_66 : decode cX7_first 66 = .ok (.ifCond .eq 45, 3) := by decide +kernel
theorem dX7_first_69 : decode cX7_first 69 = .ok (.aload_n 0, 1) := by decide +kernel
theorem dX7_first_70 : decode cX7_first 70 = .ok (.getfield 34, 3) := by decide +kernel
theorem dX7_first_73 : decode cX7_first 73 = .ok (.iload_n 2, 1) := by decide +kernel
theorem dX7_first_74 : decode cX7_first 74 = .ok (.iconst 2, 1) := by decide +kernel
theorem dX7_first_75 : decode cX7_first 75 = .ok (.idiv, 1) := by decide +kernel
theorem dX7_first_76 : decode cX7_first 76 = .ok (.dup2, 1) := by decide +kernel
theorem dX7_first_77 : decode cX7_first 77 = .ok (.iaload, 1) := by decide +kernel
theorem dX7_first_78 : decode cX7_first 78 = .ok (.iload_n 3, 1) := by decide +kernel
theorem dX7_first_79 : decode cX7_first 79 = .ok (.iadd, 1) := by decide +kernel
theorem dX7_first_80 : decode cX7_first 80 = .ok (.iastore, 1) := by decide +kernel
theorem dX7_first_81 : decode cX7_first 81 = .ok (.aload_n 0, 1) := by decide +kernel
theorem dX7_first_82 : decode cX7_first 82 = .ok (.iconst 2, 1) := by decide +kernel
theorem dX7_first_83 : decode cX7_first 83 = .ok (.iload_n 1, 1) := by decide +kernel
theorem dX7_first_84 : decode cX7_first 84 = .ok (.imul, 1) := by decide +kernel
theorem dX7_first_85 : decode cX7_first 85 = .ok (.iconst 1, 1) := by decide +kernel
theorem dX7_first_86 : decode cX7_first 86 = .ok (.isub, 1) := by decide +kernel
theorem dX7_first_87 : decode cX7_first 87 = .ok (.invokevirtual 280, 3) := by decide +kernel
theorem dX7_first_90 : decode cX7_first 90 = .ok (.istore 4, 2) := by decide +kernel
theorem dX7_first_92 : decode cX7_first 92 = .ok (.aload_n 0, 1) := by decide +kernel
theorem dX7_first_93 : decode cX7_first 93 = .ok (.getfield 34, 3) := by decide +kernel
theorem dX7_first_96 : decode cX7_first 96 = .ok (.iload_n 2, 1) := by decide +kernel
theorem dX7_first_97 : decode cX7_first 97 = .ok (.iconst 2, 1) := by decide +kernel
theorem dX7_first_98 : decode cX7_first 98 = .ok (.idiv, 1) := by decide +kernel
theorem dX7_first_99 : decode cX7_first 99 = .ok (.dup2, 1) := by decide +kernel
theorem dX7_first_100 : decode cX7_first 100 = .ok (.iaload, 1) := by decide +kernel
theorem dX7_first_101 : decode cX7_first 101 = .ok (.iload_n 3, 1) := by decide +kernel
theorem dX7_first_102 : decode cX7_first 102 = .ok (.isub, 1) := by decide +kernel
theorem dX7_first_103 : decode cX7_first 103 = .ok (.iastore, 1) := by decide +kernel
theorem dX7_first_104 : decode cX7_first 104 = .ok (.iload 4, 2) := by decide +kernel
theorem dX7_first_106 : decode cX7_first 106 = .ok (.ifCond .eq 5, 3) := by decide +kernel
theorem dX7_first_109 : decode cX7_first 109 = .ok (.iload_n 2, 1) := by decide +kernel
theorem dX7_first_110 : decode cX7_first 110 = .ok (.ireturn, 1) := by decide +kernel
theorem dX7_first_111 : decode cX7_first 111 = .ok (.iinc 2 1, 3) := by decide +kernel
theorem dX7_first_114 : decode cX7_first 114 = .ok (.goto (-88), 3) := by decide +kernel
theorem dX7_first_117 : decode cX7_first 117 = .ok (.bipush (-9), 2) := by decide +kernel
theorem dX7_first_119 : decode cX7_first 119 = .ok (.ireturn, 1) := by decide +kernel
def F_X7_first_47 (fu : Nat) (k26 : Mm → Int32 → Int32 → Option (Int32 × Mm)) (M : Mm) (x1 : Int32) (x2 : Int32) (t0 : Int32) : Option (Int32 × Mm) :=
  if (x2 / (2 : Int32)) < 0 ∨ ln 95 ≤ (x2 / (2 : Int32)).toNatClampNeg then none else (
  ob1 (F_X7_in fu M ((M.1 95 (x2 / (2 : Int32)).toNatClampNeg) + t0).toInt64 (0 : Int64) (9 : Int64)) (fun r3 =>
  if r3 = 0 then
    k26 M x1 (x2 + (1 : Int32))
  else
    if (x2 / (2 : Int32)) < 0 ∨ ln 95 ≤ (x2 / (2 : Int32)).toNatClampNeg then none else (
    if (x2 / (2 : Int32)) < 0 ∨ ln 95 ≤ (x2 / (2 : Int32)).toNatClampNeg then none else (
    lt1 (pI M 95 (x2 / (2 : Int32)).toNatClampNeg ((M.1 95 (x2 / (2 : Int32)).toNatClampNeg) + t0)) (fun M7 =>
    ob2 (F_X7_lastOther fu M7 (((2 : Int32) * x1) - (1 : Int32))) (fun r9 M10 =>
    if (x2 / (2 : Int32)) < 0 ∨ ln 95 ≤ (x2 / (2 : Int32)).toNatClampNeg then none else (
    if (x2 / (2 : Int32)) < 0 ∨ ln 95 ≤ (x2 / (2 : Int32)).toNatClampNeg then none else (
    lt1 (pI M10 95 (x2 / (2 : Int32)).toNatClampNeg ((M10.1 95 (x2 / (2 : Int32)).toNatClampNeg) - t0)) (fun M13 =>
    if r9 = 0 then
      k26 M13 x1 (x2 + (1 : Int32))
    else
      some (x2, M13))))))))))
set_option maxRecDepth 100000 in
set_option maxHeartbeats 4000000 in
theorem w_X7_first_47 {p : Program} {l : Launch} {e : Env} {s : State} {m : MethodId} {args : Array Value} {below : List Frame} {meth : Method} {c : Code} {G : Gv} (hC : Cx p s m args meth c cX7_first 5 (some .int) RX7) {fu : Nat} {r : Int32} {M' : Mm} {k26 : Mm → Int32 → Int32 → Option (Int32 × Mm)} (hk_26 : ∀ {x1 : Int32} {x2 : Int32} {M : Mm} {H : Heap} {locs : List Loc} {ls : Array Slot}, k26 M x1 x2 = some (r, M') → St G s H locs M → lv_has ls 5 [(0, .ref (ad G 86)), (1, .int x1), (2, .int x2)] → W p l e rm_X7_first s m args below meth c H locs 0 0 (MQ below (QI G r M') args s 0 0 (zA G)) (F0 m 26 ls [])) {x1 : Int32} {x2 : Int32} {t0 : Int32} {M : Mm} {H : Heap} {locs : List Loc} {ls : Array Slot} (hF : F_X7_first_47 fu k26 M x1 x2 t0 = some (r, M')) (hw : St G s H locs M) (hl : lv_has ls 5 [(0, .ref (ad G 86)), (1, .int x1), (2, .int x2)]) : W p l e rm_X7_first s m args below meth c H locs 0 0 (MQ below (QI G r M') args s 0 0 (zA G)) (F0 m 47 ls [.int t0]) := by
  unfold F_X7_first_47 at hF
  refine lv_istore_n (lv' := [(3, .int t0), (0, .ref (ad G 86)), (1, .int x1), (2, .int x2)]) hC.1 hC.2.1 dX7_first_47 rfl hl (by decide) rfl (fun ls hl => ?_)
  refine lv_aload_n hC.1 hC.2.1 dX7_first_48 rfl (lv_at hl 1 rfl) ?_
  refine g7_shades hC hw q4_131 dX7_first_49 ?_
  refine lv_iload_n hC.1 hC.2.1 dX7_first_52 rfl (lv_at hl 3 rfl) ?_
  refine lv_iconst (v := (2 : Int32)) hC.1 hC.2.1 dX7_first_53 (by decide) ?_
  refine lv_idiv hC.1 hC.2.1 dX7_first_54 (by decide) ?_
  obtain ⟨n1, hF⟩ := ifO hF
  refine r_iald hC.1 hC.2.1 hw (rfl : kd 95 = 1) n1 dX7_first_55 ?_
  refine lv_iload_n hC.1 hC.2.1 dX7_first_56 rfl (lv_at hl 0 rfl) ?_
  refine lv_iadd hC.1 hC.2.1 dX7_first_57 ?_
  refine lv_i2l hC.1 hC.2.1 dX7_first_58 rfl ?_
  refine lv_lconst (v := (0 : Int64)) hC.1 hC.2.1 dX7_first_59 (by decide) ?_
  refine lv_ldc2 (v := (9 : Int64)) hC.1 hC.2.1 hC.2.2.2.1 (hC.2.2.2.2.1 _ q5_152) dX7_first_60 ?_
  obtain ⟨r3, h2, hF⟩ := ob1S hF
  refine k_Si (As := [.long ((M.1 95 (x2 / (2 : Int32)).toNatClampNeg) + t0).toInt64, .long (0 : Int64), .long (9 : Int64)]) (rest := []) hC hw (c_X7_in (M := M) h2) ys_X7_in q5_3 ⟨rfl, rfl⟩ ⟨Nat.le_of_ble_eq_true rfl, Nat.le_of_ble_eq_true rfl⟩ ⟨Nat.zero_le _, Nat.zero_le _⟩ rfl rfl (Nat.le_of_ble_eq_true rfl) hl dX7_first_63 (fun H locs hw => ?_)
  refine lv_if_eq (tgt := 111) hC.1 hC.2.1 dX7_first_66 (by decide) (fun b4 => ?_) (fun b4 => ?_)
  · have hF := ifP hF b4
    refine lv_iinc (v := (x2 + (1 : Int32))) (lv' := [(2, .int (x2 + (1 : Int32))), (3, .int t0), (0, .ref (ad G 86)), (1, .int x1)]) hC.1 hC.2.1 dX7_first_111 hl (k := 3) rfl rfl (by decide) rfl (fun ls hl => ?_)
    refine lv_goto (tgt := 26) hC.1 hC.2.1 dX7_first_114 (by decide) ?_
    exact hk_26 hF hw (lv_sub hl [2, 3, 0] rfl)
  · have hF := ifN hF b4
    refine lv_aload_n hC.1 hC.2.1 dX7_first_69 rfl (lv_at hl 1 rfl) ?_
    refine g7_shades hC hw q4_131 dX7_first_70 ?_
    refine lv_iload_n hC.1 hC.2.1 dX7_first_73 rfl (lv_at hl 3 rfl) ?_
    refine lv_iconst (v := (2 : Int32)) hC.1 hC.2.1 dX7_first_74 (by decide) ?_
    refine lv_idiv hC.1 hC.2.1 dX7_first_75 (by decide) ?_
    refine lv_dup2_11 hC.1 hC.2.1 dX7_first_76 rfl rfl ?_
    obtain ⟨n5, hF⟩ := ifO hF
    refine r_iald hC.1 hC.2.1 hw (rfl : kd 95 = 1) n5 dX7_first_77 ?_
    refine lv_iload_n hC.1 hC.2.1 dX7_first_78 rfl (lv_at hl 0 rfl) ?_
    refine lv_iadd hC.1 hC.2.1 dX7_first_79 ?_
    obtain ⟨n6, hF⟩ := ifO hF
    refine r_iast hC.1 hC.2.1 hw (rfl : kd 95 = 1) n6 dX7_first_80 (fun H locs hw => ?_)
    obtain ⟨M7, hw, hF⟩ := lt1W hF hw
    refine lv_aload_n hC.1 hC.2.1 dX7_first_81 rfl (lv_at hl 1 rfl) ?_
    refine lv_iconst (v := (2 : Int32)) hC.1 hC.2.1 dX7_first_82 (by decide) ?_
    refine lv_iload_n hC.1 hC.2.1 dX7_first_83 rfl (lv_at hl 2 rfl) ?_
    refine lv_imul hC.1 hC.2.1 dX7_first_84 ?_
    refine lv_iconst (v := (1 : Int32)) hC.1 hC.2.1 dX7_first_85 (by decide) ?_
    refine lv_isub hC.1 hC.2.1 dX7_first_86 ?_
    obtain ⟨r9, M10, h8, hF⟩ := ob2S hF
    refine k_Vi (As := [.int (((2 : Int32) * x1) - (1 : Int32))]) (rest := []) hC hw (c_X7_lastOther (M := M7) h8) RC_X yv_X7_lastOther q6_84 ⟨rfl, rfl⟩ ⟨Nat.le_of_ble_eq_true rfl, Nat.le_of_ble_eq_true rfl⟩ ⟨Nat.zero_le _, Nat.zero_le _⟩ rfl rfl (Nat.le_of_ble_eq_true rfl) hl dX7_first_87 (fun H locs hw => ?_)
    refine lv_istore (lv' := [(4, .int r9), (3, .int t0), (0, .ref (ad G 86)), (1, .int x1), (2, .int x2)]) hC.1 hC.2.1 dX7_first_90 hl (by decide) rfl (fun ls hl => ?_)
    refine lv_aload_n hC.1 hC.2.1 dX7_first_92 rfl (lv_at hl 2 rfl) ?_
    refine g7_shades hC hw q4_131 dX7_first_93 ?_
    refine lv_iload_n hC.1 hC.2.1 dX7_first_96 rfl (lv_at hl 4 rfl) ?_
    refine lv_iconst (v := (2 : Int32)) hC.1 hC.2.1 dX7_first_97 (by decide) ?_
    refine lv_idiv hC.1 hC.2.1 dX7_first_98 (by decide) ?_
    refine lv_dup2_11 hC.1 hC.2.1 dX7_first_99 rfl rfl ?_
    obtain ⟨n11, hF⟩ := ifO hF
    refine r_iald hC.1 hC.2.1 hw (rfl : kd 95 = 1) n11 dX7_first_100 ?_
    refine lv_iload_n hC.1 hC.2.1 dX7_first_101 rfl (lv_at hl 1 rfl) ?_
    refine lv_isub hC.1 hC.2.1 dX7_first_102 ?_
    obtain ⟨n12, hF⟩ := ifO hF
    refine r_iast hC.1 hC.2.1 hw (rfl : kd 95 = 1) n12 dX7_first_103 (fun H locs hw => ?_)
    obtain ⟨M13, hw, hF⟩ := lt1W hF hw
    refine lv_iload hC.1 hC.2.1 dX7_first_104 (lv_at hl 0 rfl) ?_
    refine lv_if_eq (tgt := 111) hC.1 hC.2.1 dX7_first_106 (by decide) (fun b14 => ?_) (fun b14 => ?_)
    · have hF := ifP hF b14
      refine lv_iinc (v := (x2 + (1 : Int32))) (lv' := [(2, .int (x2 + (1 : Int32))), (4, .int r9), (3, .int t0), (0, .ref (ad G 86)), (1, .int x1)]) hC.1 hC.2.1 dX7_first_111 hl (k := 4) rfl rfl (by decide) rfl (fun ls hl => ?_)
      refine lv_goto (tgt := 26) hC.1 hC.2.1 dX7_first_114 (by decide) ?_
      exact hk_26 hF hw (lv_sub hl [3, 4, 0] rfl)
    · have hF := ifN hF b14
      refine lv_iload_n hC.1 hC.2.1 dX7_first_109 rfl (lv_at hl 4 rfl) ?_
      exact r_iretE hC hw hF dX7_first_110
def F_X7_first_26 (fu : Nat) : Nat → Mm → Int32 → Int32 → Option (Int32 × Mm)
  | 0, _, _, _ => none
  | n + 1, M, x1, x2 =>
    if ((2 : Int32) * (M.1 86 4)) ≤ x2 then
      some ((-9 : Int32), M)
    else
      if (x2 - x2 / (2 : Int32) * (2 : Int32)) = 0 then
        F_X7_first_47 fu (F_X7_first_26 fu n) M x1 x2 (1 : Int32)
      else
        F_X7_first_47 fu (F_X7_first_26 fu n) M x1 x2 (-1 : Int32)
set_option maxRecDepth 100000 in
set_option maxHeartbeats 4000000 in
theorem w_X7_first_26 {p : Program} {l : Launch} {e : Env} {s : State} {m : MethodId} {args : Array Value} {below : List Frame} {meth : Method} {c : Code} {G : Gv} (hC : Cx p s m args meth c cX7_first 5 (some .int) RX7) {fu : Nat} {r : Int32} {M' : Mm} : ∀ (n : Nat) {x1 : Int32} {x2 : Int32} {M : Mm} {H : Heap} {locs : List Loc} {ls : Array Slot}, F_X7_first_26 fu n M x1 x2 = some (r, M') → St G s H locs M → lv_has ls 5 [(0, .ref (ad G 86)), (1, .int x1), (2, .int x2)] → W p l e rm_X7_first s m args below meth c H locs 0 0 (MQ below (QI G r M') args s 0 0 (zA G)) (F0 m 26 ls []) := by
  intro n
  induction n with
  | zero =>
    intro x1 x2 M H locs ls hF hw hl
    cases hF
  | succ n ih =>
    intro x1 x2 M H locs ls hF hw hl
    unfold F_X7_first_26 at hF
    refine lv_iload_n hC.1 hC.2.1 dX7_first_26 rfl (lv_at hl 2 rfl) ?_
    refine lv_iconst (v := (2 : Int32)) hC.1 hC.2.1 dX7_first_27 (by decide) ?_
    refine lv_aload_n hC.1 hC.2.1 dX7_first_28 rfl (lv_at hl 0 rfl) ?_
    refine g7_men hC hw q4_126 dX7_first_29 ?_
    refine lv_imul hC.1 hC.2.1 dX7_first_32 ?_
    refine lv_icmp_ge (tgt := 117) hC.1 hC.2.1 dX7_first_33 (by decide) (fun b1 => ?_) (fun b1 => ?_)
    · have hF := ifP hF b1
      refine lv_bipush (v := (-9 : Int32)) hC.1 hC.2.1 dX7_first_117 (by decide) ?_
      exact r_iretE hC hw hF dX7_first_119
    · have hF := ifN hF b1
      refine lv_iload_n hC.1 hC.2.1 dX7_first_36 rfl (lv_at hl 2 rfl) ?_
      refine lv_iconst (v := (2 : Int32)) hC.1 hC.2.1 dX7_first_37 (by decide) ?_
      refine lv_irem hC.1 hC.2.1 dX7_first_38 (by decide) ?_
      refine lv_if_ne (tgt := 46) hC.1 hC.2.1 dX7_first_39 (by decide) (fun b2 => ?_) (fun b2 => ?_)
      · have hF := ifN hF b2
        refine lv_iconst (v := (-1 : Int32)) hC.1 hC.2.1 dX7_first_46 (by decide) ?_
        exact w_X7_first_47 hC (hk_26 := ih) hF hw (lv_sub hl [0, 1, 2] rfl)
      · have hF := ifP hF b2
        refine lv_iconst (v := (1 : Int32)) hC.1 hC.2.1 dX7_first_42 (by decide) ?_
        refine lv_goto (tgt := 47) hC.1 hC.2.1 dX7_first_43 (by decide) ?_
        exact w_X7_first_47 hC (hk_26 := ih) hF hw (lv_sub hl [0, 1, 2] rfl)
def F_X7_first (fu : Nat) (M : Mm) (x1 : Int32) : Option (Int32 × Mm) :=
  ob1 (F_X7_in fu M x1.toInt64 (1 : Int64) (2 : Int64)) (fun r2 =>
  if r2 = 0 then
    some ((-1 : Int32), M)
  else
    if (M.1 86 4) = 0 then
      some ((-4 : Int32), M)
    else
      F_X7_first_26 fu fu M x1 (0 : Int32))
set_option maxRecDepth 100000 in
set_option maxHeartbeats 4000000 in
theorem c_X7_first {l : Launch} {G : Gv} {fu : Nat} {M : Mm} {x1 : Int32} {r : Int32} {M' : Mm} (hF : F_X7_first fu M x1 = some (r, M')) : Met l yX7_first (.code yX7_first cX7_first 5 (some .int) :: zU) rm_X7_first (va_Pc [.ref (ad G 86), .int x1] (Wd G M)) (QI G r M') 0 0 (zA G) := by
  refine zMet (by decide) rfl (Nat.le_of_ble_eq_true rfl) ?_
  intro p e s m below meth c hC hw ls hl
  have hl : lv_has ls 5 [(0, .ref (ad G 86)), (1, .int x1)] := hl
  unfold F_X7_first at hF
  refine lv_iload_n hC.1 hC.2.1 dX7_first_0 rfl (lv_at hl 1 rfl) ?_
  refine lv_i2l hC.1 hC.2.1 dX7_first_1 rfl ?_
  refine lv_lconst (v := (1 : Int64)) hC.1 hC.2.1 dX7_first_2 (by decide) ?_
  refine lv_ldc2 (v := (2 : Int64)) hC.1 hC.2.1 hC.2.2.2.1 (hC.2.2.2.2.1 _ q5_195) dX7_first_3 ?_
  obtain ⟨r2, h1, hF⟩ := ob1S hF
  refine k_Si (As := [.long x1.toInt64, .long (1 : Int64), .long (2 : Int64)]) (rest := []) hC hw (c_X7_in (M := M) h1) ys_X7_in q5_3 ⟨rfl, rfl⟩ ⟨Nat.le_of_ble_eq_true rfl, Nat.le_of_ble_eq_true rfl⟩ ⟨Nat.zero_le _, Nat.zero_le _⟩ rfl rfl (Nat.le_of_ble_eq_true rfl) hl dX7_first_6 (fun H locs hw => ?_)
  refine lv_if_ne (tgt := 14) hC.1 hC.2.1 dX7_first_9 (by decide) (fun b3 => ?_) (fun b3 => ?_)
  · have hF := ifN hF b3
    refine lv_aload_n hC.1 hC.2.1 dX7_first_14 rfl (lv_at hl 0 rfl) ?_
    refine g7_men hC hw q4_126 dX7_first_15 ?_
    refine lv_if_ne (tgt := 24) hC.1 hC.2.1 dX7_first_18 (by decide) (fun b4 => ?_) (fun b4 => ?_)
    · have hF := ifN hF b4
      refine lv_iconst (v := (0 : Int32)) hC.1 hC.2.1 dX7_first_24 (by decide) ?_
      refine lv_istore_n (lv' := [(2, .int (0 : Int32)), (0, .ref (ad G 86)), (1, .int x1)]) hC.1 hC.2.1 dX7_first_25 rfl hl (by decide) rfl (fun ls hl => ?_)
      exact w_X7_first_26 hC _ hF hw (lv_sub hl [1, 2, 0] rfl)
    · have hF := ifP hF b4
      refine lv_bipush (v := (-4 : Int32)) hC.1 hC.2.1 dX7_first_21 (by decide) ?_
      exact r_iretE hC hw hF dX7_first_23
  · have hF := ifP hF b3
    refine lv_iconst (v := (-1 : Int32)) hC.1 hC.2.1 dX7_first_12 (by decide) ?_
    exact r_iretE hC hw hF dX7_first_13
abbrev rm_X7_layCases : Room := { frames := 2, cells := 0, slots := 0, locals := 45 }
theorem yv_X7_layCases : YV yX7_layCases cX7_layCases 7 none 3 RX7 := ⟨⟨q6_116, qs_73, q1_8, q6_117⟩, by decide +kernel⟩
theorem dX7_layCases_0 : decode cX7_layCases 0 = .ok (.iconst 0, 1) := by decide +kernel
theorem dX7_layCases_1 : decode cX7_layCases 1 = .ok (.istore 4, 2) := by decide +kernel
theorem dX7_layCases_3 : decode cX7_layCases 3 = .ok (.iload 4, 2) := by decide +kernel
theorem dX7_layCases_5 : decode cX7_layCases 5 = .ok (.bipush 100, 2) := by decide +kernel
theorem dX7_layCases_7 : decode cX7_layCases 7 = .ok (.if_icmp .ge 32, 3) := by decide +kernel
theorem dX7_layCases_10 : decode cX7_layCases 10 = .ok (.aload_n 0, 1) := by decide +kernel
theorem dX7_layCases_11 : decode cX7_layCases 11 = .ok (.getfield 87, 3) := by decide +kernel
theorem dX7_layCases_14 : decode cX7_layCases 14 = .ok (.iload 4, 2) := by decide +kernel
theorem dX7_layCases_16 : decode cX7_layCases 16 = .ok (.iload 4, 2) := by decide +kernel
theorem dX7_layCases_18 : decode cX7_layCases 18 = .ok (.aload_n 0, 1) := by decide +kernel
theorem dX7_layCases_19 : decode cX7_layCases 19 = .ok (.getfield 31, 3) := by decide +kernel
theorem dX7_layCases_22 : decode cX7_layCases 22 = .ok (.iload_n 1, 1) := by decide +kernel
theorem dX7_layCases_23 : decode cX7_layCases 23 = .ok (.iaload, 1) := by decide +kernel
theorem dX7_layCases_24 : decode cX7_layCases 24 = .ok (.if_icmp .ne 7, 3) := by decide +kernel
theorem dX7_layCases_27 : decode cX7_layCases 27 = .ok (.lconst 1, 1) := by decide +kernel
theorem dX7_layCases_28 : decode cX7_layCases 28 = .ok (.goto 4, 3) := by decide +kernel
theorem dX7_layCases_31 : decode cX7_layCases 31 = .ok (.lconst 0, 1) := by decide +kernel
theorem dX7_layCases_32 : decode cX7_layCases 32 = .ok (.lastore, 1) := by decide +kernel
theorem dX7_layCases_33 : decode cX7_layCases 33 = .ok (.iinc 4 1, 3) := by decide +kernel
theorem dX7_layCases_36 : decode cX7_layCases 36 = .ok (.goto (-33), 3) := by decide +kernel
theorem dX7_layCases_39 : decode cX7_layCases 39 = .ok (.iconst 0, 1) := by decide +kernel
theorem dX7_layCases_40 : decode cX7_layCases 40 = .ok (.istore 4, 2) := by decide +kernel
theorem dX7_layCases_42 : decode cX7_layCases 42 = .ok (.iload 4, 2) := by decide +kernel
theorem dX7_layCases_44 : decode cX7_layCases 44 = .ok (.iload_n 2, 1) := by decide +kernel
theorem dX7_layCases_45 : decode cX7_layCases 45 = .ok (.if_icmp .ge 143, 3) := by decide +kernel
theorem dX7_layCases_48 : decode cX7_layCases 48 = .ok (.aload_n 0, 1) := by decide +kernel
theorem dX7_layCases_49 : decode cX7_layCases 49 = .ok (.aload_n 0, 1) := by decide +kernel
theorem dX7_layCases_50 : decode cX7_layCases 50 = .ok (.getfield 22, 3) := by decide +kernel
theorem dX7_layCases_53 : decode cX7_layCases 53 = .ok (.iload_n 1, 1) := by decide +kernel
theorem dX7_layCases_54 : decode cX7_layCases 54 = .ok (.iaload, 1) := by decide +kernel
theorem dX7_layCases_55 : decode cX7_layCases 55 = .ok (.aload_n 0, 1) := by decide +kernel
theorem dX7_layCases_56 : decode cX7_layCases 56 = .ok (.getfield 34, 3) := by decide +kernel
theorem dX7_layCases_59 : decode cX7_layCases 59 = .ok (.iload_n 1, 1) := by decide +kernel
theorem dX7_layCases_60 : decode cX7_layCases 60 = .ok (.iaload, 1) := by decide +kernel
theorem dX7_layCases_61 : decode cX7_layCases 61 = .ok (.aload_n 0, 1) := by decide +kernel
theorem dX7_layCases_62 : decode cX7_layCases 62 = .ok (.getfield 167, 3) := by decide +kernel
theorem dX7_layCases_65 : decode cX7_layCases 65 = .ok (.iload 4, 2) := by decide +kernel
theorem dX7_layCases_67 : decode cX7_layCases 67 = .ok (.iadd, 1) := by decide +kernel
theorem dX7_layCases_68 : decode cX7_layCases 68 = .ok (.invokevirtual 177, 3) := by decide +kernel
theorem dX7_layCases_71 : decode cX7_layCases 71 = .ok (.istore 5, 2) := by decide +kernel
theorem dX7_layCases_73 : decode cX7_layCases 73 = .ok (.iconst 0, 1) := by decide +kernel
theorem dX7_layCases_74 : decode cX7_layCases 74 = .ok (.istore 6, 2) := by decide +kernel
theorem dX7_layCases_76 : decode cX7_layCases 76 = .ok (.iload 6, 2) := by decide +kernel
theorem dX7_layCases_78 : decode cX7_layCases 78 = .ok (.bipush 100, 2) := by decide +kernel
theorem dX7_layCases_80 : decode cX7_layCases 80 = .ok (.if_icmp .ge 26, 3) := by decide +kernel
theorem dX7_layCases_83 : decode cX7_layCases 83 = .ok (.aload_n 0, 1) := by decide +kernel
theorem dX7_layCases_84 : decode cX7_layCases 84 = .ok (.getfield 91, 3) := by decide +kernel
theorem dX7_layCases_87 : decode cX7_layCases 87 = .ok (.iload 6, 2) := by decide +kernel
theorem dX7_layCases_89 : decode cX7_layCases 89 = .ok (.iload_n 3, 1) := by decide +kernel
theorem dX7_layCases_90 : decode cX7_layCases 90 = .ok (.i2l, 1) := by decide +kernel
theorem dX7_layCases_91 : decode cX7_layCases 91 = .ok (.aload_n 0, 1) := by decide +kernel
theorem dX7_layCases_92 : decode cX7_layCases 92 = .ok (.getfield 87, 3) := by decide +kernel
theorem dX7_layCases_95 : decode cX7_layCases 95 = .ok (.iload 6, 2) := by decide +kernel
theorem dX7_layCases_97 : decode cX7_layCases 97 = .ok (.laload, 1) := by decide +kernel
theorem dX7_layCases_98 : decode cX7_layCases 98 = .ok (.lmul, 1) := by decide +kernel
theorem dX7_layCases_99 : decode cX7_layCases 99 = .ok (.lastore, 1) := by decide +kernel
theorem dX7_layCases_100 : decode cX7_layCases 100 = .ok (.iinc 6 1, 3) := by decide +kernel
theorem dX7_layCases_103 : decode cX7_layCases 103 = .ok (.goto (-27), 3) := by decide +kernel
theorem dX7_layCases_106 : decode cX7_layCases 106 = .ok (.iconst 0, 1) := by decide +kernel
theorem dX7_layCases_107 : decode cX7_layCases 107 = .ok (.istore 6, 2) := by decide +kernel
theorem dX7_layCases_109 : decode cX7_layCases 109 = .ok (.iload 6, 2) := by decide +kernel
theorem dX7_layCases_111 : decode cX7_layCases 111 = .ok (.bipush 100, 2) := by decide +kernel
theorem dX7_layCases_113 : decode cX7_layCases 113 = .ok (.if_icmp .ge 39, 3) := by decide +kernel
theorem dX7_layCases_116 : decode cX7_layCases 116 = .ok (.aload_n 0, 1) := by decide +kernel
theorem dX7_layCases_117 : decode cX7_layCases 117 = .ok (.getfield 91, 3) := by decide +kernel
theorem dX7_layCases_120 : decode cX7_layCases 120 = .ok (.iconst 0, 1) := by decide +kernel
theorem dX7_layCases_121 : decode cX7_layCases 121 = .ok (.iload 6, 2) := by decide +kernel
theorem dX7_layCases_123 : decode cX7_layCases 123 = .ok (.iload 5, 2) := by decide +kernel
theorem dX7_layCases_125 : decode cX7_layCases 125 = .ok (.isub, 1) := by decide +kernel
theorem dX7_layCases_126 : decode cX7_layCases 126 = .ok (.invokestatic 173, 3) := by decide +kernel
theorem dX7_layCases_129 : decode cX7_layCases 129 = .ok (.dup2, 1) := by decide +kernel
theorem dX7_layCases_130 : decode cX7_layCases 130 = .ok (.laload, 1) := by decide +kernel
theorem dX7_layCases_131 : decode cX7_layCases 131 = .ok (.bipush 12, 2) := by decide +kernel
theorem dX7_layCases_133 : decode cX7_layCases 133 = .ok (.iload_n 3, 1) := by decide +kernel
theorem dX7_layCases_134 : decode cX7_layCases 134 = .ok (.isub, 1) := by decide +kernel
theorem dX7_layCases_135 : decode cX7_layCases 135 = .ok (.i2l, 1) := by decide +kernel
theorem dX7_layCases_136 : decode cX7_layCases 136 = .ok (.aload_n 0, 1) := by decide +kernel
theorem dX7_layCases_137 : decode cX7_layCases 137 = .ok (.getfield 87, 3) := by decide +kernel
theorem dX7_layCases_140 : decode cX7_layCases 140 = .ok (.iload 6, 2) := by decide +kernel
theorem dX7_layCases_142 : decode cX7_layCases 142 = .ok (.laload, 1) := by decide +kernel
theorem dX7_layCases_143 : decode cX7_layCases 143 = .ok (.lmul, 1) := by decide +kernel
theorem dX7_layCases_144 : decode cX7_layCases 144 = .ok (.ladd, 1) := by decide +kernel
theorem dX7_layCases_145 : decode cX7_layCases 145 = .ok (.lastore, 1) := by decide +kernel
theorem dX7_layCases_146 : decode cX7_layCases 146 = .ok (.iinc 6 1, 3) := by decide +kernel
theorem dX7_layCases_149 : decode cX7_layCases 149 = .ok (.goto (-40), 3) := by decide +kernel
theorem dX7_layCases_152 : decode cX7_layCases 152 = .ok (.iconst 0, 1) := by decide +kernel
theorem dX7_layCases_153 : decode cX7_layCases 153 = .ok (.istore 6, 2) := by decide +kernel
theorem dX7_layCases_155 : decode cX7_layCases 155 = .ok (.iload 6, 2) := by decide +kernel
theorem dX7_layCases_157 : decode cX7_layCases 157 = .ok (.bipush 100, 2) := by decide +kernel
theorem dX7_layCases_159 : decode cX7_layCases 159 = .ok (.if_icmp .ge 23, 3) := by decide +kernel
theorem dX7_layCases_162 : decode cX7_layCases 162 = .ok (.aload_n 0, 1) := by decide +kernel
theorem dX7_layCases_163 : decode cX7_layCases 163 = .ok (.getfield 87, 3) := by decide +kernel
theorem dX7_layCases_166 : decode cX7_layCases 166 = .ok (.iload 6, 2) := by decide +kernel
theorem dX7_layCases_168 : decode cX7_layCases 168 = .ok (.aload_n 0, 1) := by decide +kernel
theorem dX7_layCases_169 : decode cX7_layCases 169 = .ok (.getfield 91, 3) := by decide +kernel
theorem dX7_layCases_172 : decode cX7_layCases 172 = .ok (.iload 6, 2) := by decide +kernel
theorem dX7_layCases_174 : decode cX7_layCases 174 = .ok (.laload, 1) := by decide +kernel
theorem dX7_layCases_175 : decode cX7_layCases 175 = .ok (.lastore, 1) := by decide +kernel
theorem dX7_layCases_176 : decode cX7_layCases 176 = .ok (.iinc 6 1, 3) := by decide +kernel
theorem dX7_layCases_179 : decode cX7_layCases 179 = .ok (.goto (-24), 3) := by decide +kernel
theorem dX7_layCases_182 : decode cX7_layCases 182 = .ok (.iinc 4 1, 3) := by decide +kernel
theorem dX7_layCases_185 : decode cX7_layCases 185 = .ok (.goto (-143), 3) := by decide +kernel
theorem dX7_layCases_188 : decode cX7_layCases 188 = .ok (.return_, 1) := by decide +kernel
def F_X7_layCases_155 (fu : Nat) (k42 : Mm → Int32 → Int32 → Int32 → Int32 → Option Mm) : Nat → Mm → Int32 → Int32 → Int32 → Int32 → Int32 → Option Mm
  | 0, _, _, _, _, _, _ => none
  | n + 1, M, x1, x2, x3, x4, x6 =>
    if (100 : Int32) ≤ x6 then
      k42 M x1 x2 x3 (x4 + (1 : Int32))
    else
      if x6 < 0 ∨ ln 112 ≤ x6.toNatClampNeg then none else (
      if x6 < 0 ∨ ln 111 ≤ x6.toNatClampNeg then none else (
      lt1 (pL M 111 x6.toNatClampNeg (M.2 112 x6.toNatClampNeg)) (fun M4 =>
      F_X7_layCases_155 fu k42 n M4 x1 x2 x3 x4 (x6 + (1 : Int32)))))
set_option maxRecDepth 100000 in
set_option maxHeartbeats 4000000 in
theorem w_X7_layCases_155 {p : Program} {l : Launch} {e : Env} {s : State} {m : MethodId} {args : Array Value} {below : List Frame} {meth : Method} {c : Code} {G : Gv} (hC : Cx p s m args meth c cX7_layCases 7 none RX7) {fu : Nat} {M' : Mm} {k42 : Mm → Int32 → Int32 → Int32 → Int32 → Option Mm} (hk_42 : ∀ {x1 : Int32} {x2 : Int32} {x3 : Int32} {x4 : Int32} {M : Mm} {H : Heap} {locs : List Loc} {ls : Array Slot}, k42 M x1 x2 x3 x4 = some M' → St G s H locs M → lv_has ls 7 [(0, .ref (ad G 86)), (1, .int x1), (2, .int x2), (3, .int x3), (4, .int x4)] → W p l e rm_X7_layCases s m args below meth c H locs 0 0 (MQ below (QV G M') args s 0 0 (zA G)) (F0 m 42 ls [])) : ∀ (n : Nat) {x1 : Int32} {x2 : Int32} {x3 : Int32} {x4 : Int32} {x6 : Int32} {M : Mm} {H : Heap} {locs : List Loc} {ls : Array Slot}, F_X7_layCases_155 fu k42 n M x1 x2 x3 x4 x6 = some M' → St G s H locs M → lv_has ls 7 [(0, .ref (ad G 86)), (1, .int x1), (2, .int x2), (3, .int x3), (4, .int x4), (6, .int x6)] → W p l e rm_X7_layCases s m args below meth c H locs 0 0 (MQ below (QV G M') args s 0 0 (zA G)) (F0 m 155 ls []) := by
  intro n
  induction n with
  | zero =>
    intro x1 x2 x3 x4 x6 M H locs ls hF hw hl
    cases hF
  | succ n ih =>
    intro x1 x2 x3 x4 x6 M H locs ls hF hw hl
    unfold F_X7_layCases_155 at hF
    refine lv_iload hC.1 hC.2.1 dX7_layCases_155 (lv_at hl 5 rfl) ?_
    refine lv_bipush (v := (100 : Int32)) hC.1 hC.2.1 dX7_layCases_157 (by decide) ?_
    refine lv_icmp_ge (tgt := 182) hC.1 hC.2.1 dX7_layCases_159 (by decide) (fun b1 => ?_) (fun b1 => ?_)
    · have hF := ifP hF b1
      refine lv_iinc (v := (x4 + (1 : Int32))) (lv' := [(4, .int (x4 + (1 : Int32))), (0, .ref (ad G 86)), (1, .int x1), (2, .int x2), (3, .int x3), (6, .int x6)]) hC.1 hC.2.1 dX7_layCases_182 hl (k := 4) rfl rfl (by decide) rfl (fun ls hl => ?_)
      refine lv_goto (tgt := 42) hC.1 hC.2.1 dX7_layCases_185 (by decide) ?_
      exact hk_42 hF hw (lv_sub hl [1, 2, 3, 4, 0] rfl)
    · have hF := ifN hF b1
      refine lv_aload_n hC.1 hC.2.1 dX7_layCases_162 rfl (lv_at hl 0 rfl) ?_
      refine g7_cases hC hw q4_157 dX7_layCases_163 ?_
      refine lv_iload hC.1 hC.2.1 dX7_layCases_166 (lv_at hl 5 rfl) ?_
      refine lv_aload_n hC.1 hC.2.1 dX7_layCases_168 rfl (lv_at hl 0 rfl) ?_
      refine g7_casesThen hC hw q4_158 dX7_layCases_169 ?_
      refine lv_iload hC.1 hC.2.1 dX7_layCases_172 (lv_at hl 5 rfl) ?_
      obtain ⟨n2, hF⟩ := ifO hF
      refine r_lald hC.1 hC.2.1 hw (rfl : kd 112 = 2) n2 dX7_layCases_174 ?_
      obtain ⟨n3, hF⟩ := ifO hF
      refine r_last hC.1 hC.2.1 hw (rfl : kd 111 = 2) n3 dX7_layCases_175 (fun H locs hw => ?_)
      obtain ⟨M4, hw, hF⟩ := lt1W hF hw
      refine lv_iinc (v := (x6 + (1 : Int32))) (lv' := [(6, .int (x6 + (1 : Int32))), (0, .ref (ad G 86)), (1, .int x1), (2, .int x2), (3, .int x3), (4, .int x4)]) hC.1 hC.2.1 dX7_layCases_176 hl (k := 5) rfl rfl (by decide) rfl (fun ls hl => ?_)
      refine lv_goto (tgt := 155) hC.1 hC.2.1 dX7_layCases_179 (by decide) ?_
      exact ih hF hw (lv_sub hl [1, 2, 3, 4, 5, 0] rfl)
def F_X7_layCases_109 (fu : Nat) (k42 : Mm → Int32 → Int32 → Int32 → Int32 → Option Mm) : Nat → Mm → Int32 → Int32 → Int32 → Int32 → Int32 → Int32 → Option Mm
  | 0, _, _, _, _, _, _, _ => none
  | n + 1, M, x1, x2, x3, x4, x5, x6 =>
    if (100 : Int32) ≤ x6 then
      F_X7_layCases_155 fu k42 fu M x1 x2 x3 x4 (0 : Int32)
    else
      ob1 (F_X7_most fu M (0 : Int32) (x6 - x5)) (fun r3 =>
      if r3 < 0 ∨ ln 112 ≤ r3.toNatClampNeg then none else (
      if x6 < 0 ∨ ln 111 ≤ x6.toNatClampNeg then none else (
      if r3 < 0 ∨ ln 112 ≤ r3.toNatClampNeg then none else (
      lt1 (pL M 112 r3.toNatClampNeg ((M.2 112 r3.toNatClampNeg) + (((12 : Int32) - x3).toInt64 * (M.2 111 x6.toNatClampNeg)))) (fun M7 =>
      F_X7_layCases_109 fu k42 n M7 x1 x2 x3 x4 x5 (x6 + (1 : Int32)))))))
set_option maxRecDepth 100000 in
set_option maxHeartbeats 4000000 in
theorem w_X7_layCases_109 {p : Program} {l : Launch} {e : Env} {s : State} {m : MethodId} {args : Array Value} {below : List Frame} {meth : Method} {c : Code} {G : Gv} (hC : Cx p s m args meth c cX7_layCases 7 none RX7) {fu : Nat} {M' : Mm} {k42 : Mm → Int32 → Int32 → Int32 → Int32 → Option Mm} (hk_42 : ∀ {x1 : Int32} {x2 : Int32} {x3 : Int32} {x4 : Int32} {M : Mm} {H : Heap} {locs : List Loc} {ls : Array Slot}, k42 M x1 x2 x3 x4 = some M' → St G s H locs M → lv_has ls 7 [(0, .ref (ad G 86)), (1, .int x1), (2, .int x2), (3, .int x3), (4, .int x4)] → W p l e rm_X7_layCases s m args below meth c H locs 0 0 (MQ below (QV G M') args s 0 0 (zA G)) (F0 m 42 ls [])) : ∀ (n : Nat) {x1 : Int32} {x2 : Int32} {x3 : Int32} {x4 : Int32} {x5 : Int32} {x6 : Int32} {M : Mm} {H : Heap} {locs : List Loc} {ls : Array Slot}, F_X7_layCases_109 fu k42 n M x1 x2 x3 x4 x5 x6 = some M' → St G s H locs M → lv_has ls 7 [(0, .ref (ad G 86)), (1, .int x1), (2, .int x2), (3, .int x3), (4, .int x4), (5, .int x5), (6, .int x6)] → W p l e rm_X7_layCases s m args below meth c H locs 0 0 (MQ below (QV G M') args s 0 0 (zA G)) (F0 m 109 ls []) := by
  intro n
  induction n with
  | zero =>
    intro x1 x2 x3 x4 x5 x6 M H locs ls hF hw hl
    cases hF
  | succ n ih =>
    intro x1 x2 x3 x4 x5 x6 M H locs ls hF hw hl
    unfold F_X7_layCases_109 at hF
    refine lv_iload hC.1 hC.2.1 dX7_layCases_109 (lv_at hl 6 rfl) ?_
    refine lv_bipush (v := (100 : Int32)) hC.1 hC.2.1 dX7_layCases_111 (by decide) ?_
    refine lv_icmp_ge (tgt := 152) hC.1 hC.2.1 dX7_layCases_113 (by decide) (fun b1 => ?_) (fun b1 => ?_)
    · have hF := ifP hF b1
      refine lv_iconst (v := (0 : Int32)) hC.1 hC.2.1 dX7_layCases_152 (by decide) ?_
      refine lv_istore (lv' := [(6, .int (0 : Int32)), (0, .ref (ad G 86)), (1, .int x1), (2, .int x2), (3, .int x3), (4, .int x4), (5, .int x5)]) hC.1 hC.2.1 dX7_layCases_153 hl (by decide) rfl (fun ls hl => ?_)
      exact w_X7_layCases_155 hC (hk_42 := hk_42) _ hF hw (lv_sub hl [1, 2, 3, 4, 5, 0] rfl)
    · have hF := ifN hF b1
      refine lv_aload_n hC.1 hC.2.1 dX7_layCases_116 rfl (lv_at hl 0 rfl) ?_
      refine g7_casesThen hC hw q4_158 dX7_layCases_117 ?_
      refine lv_iconst (v := (0 : Int32)) hC.1 hC.2.1 dX7_layCases_120 (by decide) ?_
      refine lv_iload hC.1 hC.2.1 dX7_layCases_121 (lv_at hl 6 rfl) ?_
      refine lv_iload hC.1 hC.2.1 dX7_layCases_123 (lv_at hl 5 rfl) ?_
      refine lv_isub hC.1 hC.2.1 dX7_layCases_125 ?_
      obtain ⟨r3, h2, hF⟩ := ob1S hF
      refine k_Si (As := [.int (0 : Int32), .int (x6 - x5)]) (rest := [.ref (ad G 112)]) hC hw (c_X7_most (M := M) h2) ys_X7_most q5_113 ⟨rfl, rfl⟩ ⟨Nat.le_of_ble_eq_true rfl, Nat.le_of_ble_eq_true rfl⟩ ⟨Nat.zero_le _, Nat.zero_le _⟩ rfl rfl (Nat.le_of_ble_eq_true rfl) hl dX7_layCases_126 (fun H locs hw => ?_)
      refine lv_dup2_11 hC.1 hC.2.1 dX7_layCases_129 rfl rfl ?_
      obtain ⟨n4, hF⟩ := ifO hF
      refine r_lald hC.1 hC.2.1 hw (rfl : kd 112 = 2) n4 dX7_layCases_130 ?_
      refine lv_bipush (v := (12 : Int32)) hC.1 hC.2.1 dX7_layCases_131 (by decide) ?_
      refine lv_iload_n hC.1 hC.2.1 dX7_layCases_133 rfl (lv_at hl 3 rfl) ?_
      refine lv_isub hC.1 hC.2.1 dX7_layCases_134 ?_
      refine lv_i2l hC.1 hC.2.1 dX7_layCases_135 rfl ?_
      refine lv_aload_n hC.1 hC.2.1 dX7_layCases_136 rfl (lv_at hl 0 rfl) ?_
      refine g7_cases hC hw q4_157 dX7_layCases_137 ?_
      refine lv_iload hC.1 hC.2.1 dX7_layCases_140 (lv_at hl 6 rfl) ?_
      obtain ⟨n5, hF⟩ := ifO hF
      refine r_lald hC.1 hC.2.1 hw (rfl : kd 111 = 2) n5 dX7_layCases_142 ?_
      refine lv_lmul hC.1 hC.2.1 dX7_layCases_143 ?_
      refine lv_ladd hC.1 hC.2.1 dX7_layCases_144 ?_
      obtain ⟨n6, hF⟩ := ifO hF
      refine r_last hC.1 hC.2.1 hw (rfl : kd 112 = 2) n6 dX7_layCases_145 (fun H locs hw => ?_)
      obtain ⟨M7, hw, hF⟩ := lt1W hF hw
      refine lv_iinc (v := (x6 + (1 : Int32))) (lv' := [(6, .int (x6 + (1 : Int32))), (0, .ref (ad G 86)), (1, .int x1), (2, .int x2), (3, .int x3), (4, .int x4), (5, .int x5)]) hC.1 hC.2.1 dX7_layCases_146 hl (k := 6) rfl rfl (by decide) rfl (fun ls hl => ?_)
      refine lv_goto (tgt := 109) hC.1 hC.2.1 dX7_layCases_149 (by decide) ?_
      exact ih hF hw (lv_sub hl [1, 2, 3, 4, 5, 6, 0] rfl)
def F_X7_layCases_76 (fu : Nat) (k42 : Mm → Int32 → Int32 → Int32 → Int32 → Option Mm) : Nat → Mm → Int32 → Int32 → Int32 → Int32 → Int32 → Int32 → Option Mm
  | 0, _, _, _, _, _, _, _ => none
  | n + 1, M, x1, x2, x3, x4, x5, x6 =>
    if (100 : Int32) ≤ x6 then
      F_X7_layCases_109 fu k42 fu M x1 x2 x3 x4 x5 (0 : Int32)
    else
      if x6 < 0 ∨ ln 111 ≤ x6.toNatClampNeg then none else (
      if x6 < 0 ∨ ln 112 ≤ x6.toNatClampNeg then none else (
      lt1 (pL M 112 x6.toNatClampNeg (x3.toInt64 * (M.2 111 x6.toNatClampNeg))) (fun M4 =>
      F_X7_layCases_76 fu k42 n M4 x1 x2 x3 x4 x5 (x6 + (1 : Int32)))))
set_option maxRecDepth 100000 in
set_option maxHeartbeats 4000000 in
theorem w_X7_layCases_76 {p : Program} {l : Launch} {e : Env} {s : State} {m : MethodId} {args : Array Value} {below : List Frame} {meth : Method} {c : Code} {G : Gv} (hC : Cx p s m args meth c cX7_layCases 7 none RX7) {fu : Nat} {M' : Mm} {k42 : Mm → Int32 → Int32 → Int32 → Int32 → Option Mm} (hk_42 : ∀ {x1 : Int32} {x2 : Int32} {x3 : Int32} {x4 : Int32} {M : Mm} {H : Heap} {locs : List Loc} {ls : Array Slot}, k42 M x1 x2 x3 x4 = some M' → St G s H locs M → lv_has ls 7 [(0, .ref (ad G 86)), (1, .int x1), (2, .int x2), (3, .int x3), (4, .int x4)] → W p l e rm_X7_layCases s m args below meth c H locs 0 0 (MQ below (QV G M') args s 0 0 (zA G)) (F0 m 42 ls [])) : ∀ (n : Nat) {x1 : Int32} {x2 : Int32} {x3 : Int32} {x4 : Int32} {x5 : Int32} {x6 : Int32} {M : Mm} {H : Heap} {locs : List Loc} {ls : Array Slot}, F_X7_layCases_76 fu k42 n M x1 x2 x3 x4 x5 x6 = some M' → St G s H locs M → lv_has ls 7 [(0, .ref (ad G 86)), (1, .int x1), (2, .int x2), (3, .int x3), (4, .int x4), (5, .int x5), (6, .int x6)] → W p l e rm_X7_layCases s m args below meth c H locs 0 0 (MQ below (QV G M') args s 0 0 (zA G)) (F0 m 76 ls []) := by
  intro n
  induction n with
  | zero =>
    intro x1 x2 x3 x4 x5 x6 M H locs ls hF hw hl
    cases hF
  | succ n ih =>
    intro x1 x2 x3 x4 x5 x6 M H locs ls hF hw hl
    unfold F_X7_layCases_76 at hF
    refine lv_iload hC.1 hC.2.1 dX7_layCases_76 (lv_at hl 6 rfl) ?_
    refine lv_bipush (v := (100 : Int32)) hC.1 hC.2.1 dX7_layCases_78 (by decide) ?_
    refine lv_icmp_ge (tgt := 106) hC.1 hC.2.1 dX7_layCases_80 (by decide) (fun b1 => ?_) (fun b1 => ?_)
    · have hF := ifP hF b1
      refine lv_iconst (v := (0 : Int32)) hC.1 hC.2.1 dX7_layCases_106 (by decide) ?_
      refine lv_istore (lv' := [(6, .int (0 : Int32)), (0, .ref (ad G 86)), (1, .int x1), (2, .int x2), (3, .int x3), (4, .int x4), (5, .int x5)]) hC.1 hC.2.1 dX7_layCases_107 hl (by decide) rfl (fun ls hl => ?_)
      exact w_X7_layCases_109 hC (hk_42 := hk_42) _ hF hw (lv_sub hl [1, 2, 3, 4, 5, 6, 0] rfl)
    · have hF := ifN hF b1
      refine lv_aload_n hC.1 hC.2.1 dX7_layCases_83 rfl (lv_at hl 0 rfl) ?_
      refine g7_casesThen hC hw q4_158 dX7_layCases_84 ?_
      refine lv_iload hC.1 hC.2.1 dX7_layCases_87 (lv_at hl 6 rfl) ?_
      refine lv_iload_n hC.1 hC.2.1 dX7_layCases_89 rfl (lv_at hl 3 rfl) ?_
      refine lv_i2l hC.1 hC.2.1 dX7_layCases_90 rfl ?_
      refine lv_aload_n hC.1 hC.2.1 dX7_layCases_91 rfl (lv_at hl 0 rfl) ?_
      refine g7_cases hC hw q4_157 dX7_layCases_92 ?_
      refine lv_iload hC.1 hC.2.1 dX7_layCases_95 (lv_at hl 6 rfl) ?_
      obtain ⟨n2, hF⟩ := ifO hF
      refine r_lald hC.1 hC.2.1 hw (rfl : kd 111 = 2) n2 dX7_layCases_97 ?_
      refine lv_lmul hC.1 hC.2.1 dX7_layCases_98 ?_
      obtain ⟨n3, hF⟩ := ifO hF
      refine r_last hC.1 hC.2.1 hw (rfl : kd 112 = 2) n3 dX7_layCases_99 (fun H locs hw => ?_)
      obtain ⟨M4, hw, hF⟩ := lt1W hF hw
      refine lv_iinc (v := (x6 + (1 : Int32))) (lv' := [(6, .int (x6 + (1 : Int32))), (0, .ref (ad G 86)), (1, .int x1), (2, .int x2), (3, .int x3), (4, .int x4), (5, .int x5)]) hC.1 hC.2.1 dX7_layCases_100 hl (k := 6) rfl rfl (by decide) rfl (fun ls hl => ?_)
      refine lv_goto (tgt := 76) hC.1 hC.2.1 dX7_layCases_103 (by decide) ?_
      exact ih hF hw (lv_sub hl [1, 2, 3, 4, 5, 6, 0] rfl)
def F_X7_layCases_42 (fu : Nat) : Nat → Mm → Int32 → Int32 → Int32 → Int32 → Option Mm
  | 0, _, _, _, _, _ => none
  | n + 1, M, x1, x2, x3, x4 =>
    if x2 ≤ x4 then
      some M
    else
      if x1 < 0 ∨ ln 91 ≤ x1.toNatClampNeg then none else (
      if x1 < 0 ∨ ln 95 ≤ x1.toNatClampNeg then none else (
      ob1 (F_X7_melts fu M (M.1 91 x1.toNatClampNeg) (M.1 95 x1.toNatClampNeg) ((M.1 86 11) + x4)) (fun r5 =>
      F_X7_layCases_76 fu (F_X7_layCases_42 fu n) fu M x1 x2 x3 x4 r5 (0 : Int32))))
set_option maxRecDepth 100000 in
set_option maxHeartbeats 4000000 in
theorem w_X7_layCases_42 {p : Program} {l : Launch} {e : Env} {s : State} {m : MethodId} {args : Array Value} {below : List Frame} {meth : Method} {c : Code} {G : Gv} (hC : Cx p s m args meth c cX7_layCases 7 none RX7) {fu : Nat} {M' : Mm} : ∀ (n : Nat) {x1 : Int32} {x2 : Int32} {x3 : Int32} {x4 : Int32} {M : Mm} {H : Heap} {locs : List Loc} {ls : Array Slot}, F_X7_layCases_42 fu n M x1 x2 x3 x4 = some M' → St G s H locs M → lv_has ls 7 [(0, .ref (ad G 86)), (1, .int x1), (2, .int x2), (3, .int x3), (4, .int x4)] → W p l e rm_X7_layCases s m args below meth c H locs 0 0 (MQ below (QV G M') args s 0 0 (zA G)) (F0 m 42 ls []) := by
  intro n
  induction n with
  | zero =>
    intro x1 x2 x3 x4 M H locs ls hF hw hl
    cases hF
  | succ n ih =>
    intro x1 x2 x3 x4 M H locs ls hF hw hl
    unfold F_X7_layCases_42 at hF
    refine lv_iload hC.1 hC.2.1 dX7_layCases_42 (lv_at hl 4 rfl) ?_
    refine lv_iload_n hC.1 hC.2.1 dX7_layCases_44 rfl (lv_at hl 2 rfl) ?_
    refine lv_icmp_ge (tgt := 188) hC.1 hC.2.1 dX7_layCases_45 (by decide) (fun b1 => ?_) (fun b1 => ?_)
    · have hF := ifP hF b1
      exact r_vretE hC hw hF dX7_layCases_188
    · have hF := ifN hF b1
      refine lv_aload_n hC.1 hC.2.1 dX7_layCases_48 rfl (lv_at hl 0 rfl) ?_
      refine lv_aload_n hC.1 hC.2.1 dX7_layCases_49 rfl (lv_at hl 0 rfl) ?_
      refine g7_kindIs hC hw q4_127 dX7_layCases_50 ?_
      refine lv_iload_n hC.1 hC.2.1 dX7_layCases_53 rfl (lv_at hl 1 rfl) ?_
      obtain ⟨n2, hF⟩ := ifO hF
      refine r_iald hC.1 hC.2.1 hw (rfl : kd 91 = 1) n2 dX7_layCases_54 ?_
      refine lv_aload_n hC.1 hC.2.1 dX7_layCases_55 rfl (lv_at hl 0 rfl) ?_
      refine g7_shades hC hw q4_131 dX7_layCases_56 ?_
      refine lv_iload_n hC.1 hC.2.1 dX7_layCases_59 rfl (lv_at hl 1 rfl) ?_
      obtain ⟨n3, hF⟩ := ifO hF
      refine r_iald hC.1 hC.2.1 hw (rfl : kd 95 = 1) n3 dX7_layCases_60 ?_
      refine lv_aload_n hC.1 hC.2.1 dX7_layCases_61 rfl (lv_at hl 0 rfl) ?_
      refine g7_dayIs hC hw q4_133 dX7_layCases_62 ?_
      refine lv_iload hC.1 hC.2.1 dX7_layCases_65 (lv_at hl 4 rfl) ?_
      refine lv_iadd hC.1 hC.2.1 dX7_layCases_67 ?_
      obtain ⟨r5, h4, hF⟩ := ob1S hF
      refine k_Vi (As := [.int (M.1 91 x1.toNatClampNeg), .int (M.1 95 x1.toNatClampNeg), .int ((M.1 86 11) + x4)]) (rest := []) hC hw (c_X7_melts (M := M) h4) RC_X yv_X7_melts q5_109 ⟨rfl, rfl⟩ ⟨Nat.le_of_ble_eq_true rfl, Nat.le_of_ble_eq_true rfl⟩ ⟨Nat.zero_le _, Nat.zero_le _⟩ rfl rfl (Nat.le_of_ble_eq_true rfl) hl dX7_layCases_68 (fun H locs hw => ?_)
      refine lv_istore (lv' := [(5, .int r5), (0, .ref (ad G 86)), (1, .int x1), (2, .int x2), (3, .int x3), (4, .int x4)]) hC.1 hC.2.1 dX7_layCases_71 hl (by decide) rfl (fun ls hl => ?_)
      refine lv_iconst (v := (0 : Int32)) hC.1 hC.2.1 dX7_layCases_73 (by decide) ?_
      refine lv_istore (lv' := [(6, .int (0 : Int32)), (5, .int r5), (0, .ref (ad G 86)), (1, .int x1), (2, .int x2), (3, .int x3), (4, .int x4)]) hC.1 hC.2.1 dX7_layCases_74 hl (by decide) rfl (fun ls hl => ?_)
      exact w_X7_layCases_76 hC (hk_42 := ih) _ hF hw (lv_sub hl [2, 3, 4, 5, 6, 1, 0] rfl)
def F_X7_layCases_3 (fu : Nat) : Nat → Mm → Int32 → Int32 → Int32 → Int32 → Option Mm
  | 0, _, _, _, _, _ => none
  | n + 1, M, x1, x2, x3, x4 =>
    if (100 : Int32) ≤ x4 then
      F_X7_layCases_42 fu fu M x1 x2 x3 (0 : Int32)
    else
      if x1 < 0 ∨ ln 94 ≤ x1.toNatClampNeg then none else (
      if x4 = (M.1 94 x1.toNatClampNeg) then
        if x4 < 0 ∨ ln 111 ≤ x4.toNatClampNeg then none else (
        lt1 (pL M 111 x4.toNatClampNeg (1 : Int64)) (fun M7 =>
        F_X7_layCases_3 fu n M7 x1 x2 x3 (x4 + (1 : Int32))))
      else
        if x4 < 0 ∨ ln 111 ≤ x4.toNatClampNeg then none else (
        lt1 (pL M 111 x4.toNatClampNeg (0 : Int64)) (fun M5 =>
        F_X7_layCases_3 fu n M5 x1 x2 x3 (x4 + (1 : Int32)))))
set_option maxRecDepth 100000 in
set_option maxHeartbeats 4000000 in
theorem w_X7_layCases_3 {p : Program} {l : Launch} {e : Env} {s : State} {m : MethodId} {args : Array Value} {below : List Frame} {meth : Method} {c : Code} {G : Gv} (hC : Cx p s m args meth c cX7_layCases 7 none RX7) {fu : Nat} {M' : Mm} : ∀ (n : Nat) {x1 : Int32} {x2 : Int32} {x3 : Int32} {x4 : Int32} {M : Mm} {H : Heap} {locs : List Loc} {ls : Array Slot}, F_X7_layCases_3 fu n M x1 x2 x3 x4 = some M' → St G s H locs M → lv_has ls 7 [(0, .ref (ad G 86)), (1, .int x1), (2, .int x2), (3, .int x3), (4, .int x4)] → W p l e rm_X7_layCases s m args below meth c H locs 0 0 (MQ below (QV G M') args s 0 0 (zA G)) (F0 m 3 ls []) := by
  intro n
  induction n with
  | zero =>
    intro x1 x2 x3 x4 M H locs ls hF hw hl
    cases hF
  | succ n ih =>
    intro x1 x2 x3 x4 M H locs ls hF hw hl
    unfold F_X7_layCases_3 at hF
    refine lv_iload hC.1 hC.2.1 dX7_layCases_3 (lv_at hl 4 rfl) ?_
    refine lv_bipush (v := (100 : Int32)) hC.1 hC.2.1 dX7_layCases_5 (by decide) ?_
    refine lv_icmp_ge (tgt := 39) hC.1 hC.2.1 dX7_layCases_7 (by decide) (fun b1 => ?_) (fun b1 => ?_)
    · have hF := ifP hF b1
      refine lv_iconst (v := (0 : Int32)) hC.1 hC.2.1 dX7_layCases_39 (by decide) ?_
      refine lv_istore (lv' := [(4, .int (0 : Int32)), (0, .ref (ad G 86)), (1, .int x1), (2, .int x2), (3, .int x3)]) hC.1 hC.2.1 dX7_layCases_40 hl (by decide) rfl (fun ls hl => ?_)
      exact w_X7_layCases_42 hC _ hF hw (lv_sub hl [1, 2, 3, 4, 0] rfl)
    · have hF := ifN hF b1
      refine lv_aload_n hC.1 hC.2.1 dX7_layCases_10 rfl (lv_at hl 0 rfl) ?_
      refine g7_cases hC hw q4_157 dX7_layCases_11 ?_
      refine lv_iload hC.1 hC.2.1 dX7_layCases_14 (lv_at hl 4 rfl) ?_
      refine lv_iload hC.1 hC.2.1 dX7_layCases_16 (lv_at hl 4 rfl) ?_
      refine lv_aload_n hC.1 hC.2.1 dX7_layCases_18 rfl (lv_at hl 0 rfl) ?_
      refine g7_bulks hC hw q4_130 dX7_layCases_19 ?_
      refine lv_iload_n hC.1 hC.2.1 dX7_layCases_22 rfl (lv_at hl 1 rfl) ?_
      obtain ⟨n2, hF⟩ := ifO hF
      refine r_iald hC.1 hC.2.1 hw (rfl : kd 94 = 1) n2 dX7_layCases_23 ?_
      refine lv_icmp_ne (tgt := 31) hC.1 hC.2.1 dX7_layCases_24 (by decide) (fun b3 => ?_) (fun b3 => ?_)
      · have hF := ifN hF b3
        refine lv_lconst (v := (0 : Int64)) hC.1 hC.2.1 dX7_layCases_31 (by decide) ?_
        obtain ⟨n4, hF⟩ := ifO hF
        refine r_last hC.1 hC.2.1 hw (rfl : kd 111 = 2) n4 dX7_layCases_32 (fun H locs hw => ?_)
        obtain ⟨M5, hw, hF⟩ := lt1W hF hw
        refine lv_iinc (v := (x4 + (1 : Int32))) (lv' := [(4, .int (x4 + (1 : Int32))), (0, .ref (ad G 86)), (1, .int x1), (2, .int x2), (3, .int x3)]) hC.1 hC.2.1 dX7_layCases_33 hl (k := 4) rfl rfl (by decide) rfl (fun ls hl => ?_)
        refine lv_goto (tgt := 3) hC.1 hC.2.1 dX7_layCases_36 (by decide) ?_
        exact ih hF hw (lv_sub hl [1, 2, 3, 4, 0] rfl)
      · have hF := ifP hF b3
        refine lv_lconst (v := (1 : Int64)) hC.1 hC.2.1 dX7_layCases_27 (by decide) ?_
        refine lv_goto (tgt := 32) hC.1 hC.2.1 dX7_layCases_28 (by decide) ?_
        obtain ⟨n6, hF⟩ := ifO hF
        refine r_last hC.1 hC.2.1 hw (rfl : kd 111 = 2) n6 dX7_layCases_32 (fun H locs hw => ?_)
        obtain ⟨M7, hw, hF⟩ := lt1W hF hw
        refine lv_iinc (v := (x4 + (1 : Int32))) (lv' := [(4, .int (x4 + (1 : Int32))), (0, .ref (ad G 86)), (1, .int x1), (2, .int x2), (3, .int x3)]) hC.1 hC.2.1 dX7_layCases_33 hl (k := 4) rfl rfl (by decide) rfl (fun ls hl => ?_)
        refine lv_goto (tgt := 3) hC.1 hC.2.1 dX7_layCases_36 (by decide) ?_
        exact ih hF hw (lv_sub hl [1, 2, 3, 4, 0] rfl)
def F_X7_layCases (fu : Nat) (M : Mm) (x1 : Int32) (x2 : Int32) (x3 : Int32) : Option Mm :=
  F_X7_layCases_3 fu fu M x1 x2 x3 (0 : Int32)
set_option maxRecDepth 100000 in
set_option maxHeartbeats 4000000 in
theorem c_X7_layCases {l : Launch} {G : Gv} {fu : Nat} {M : Mm} {x1 : Int32} {x2 : Int32} {x3 : Int32} {M' : Mm} (hF : F_X7_layCases fu M x1 x2 x3 = some M') : Met l yX7_layCases (.code yX7_layCases cX7_layCases 7 none :: zU) rm_X7_layCases (va_Pc [.ref (ad G 86), .int x1, .int x2, .int x3] (Wd G M)) (QV G M') 0 0 (zA G) := by
  refine zMet (by decide) rfl (Nat.le_of_ble_eq_true rfl) ?_
  intro p e s m below meth c hC hw ls hl
  have hl : lv_has ls 7 [(0, .ref (ad G 86)), (1, .int x1), (2, .int x2), (3, .int x3)] := hl
  unfold F_X7_layCases at hF
  refine lv_iconst (v := (0 : Int32)) hC.1 hC.2.1 dX7_layCases_0 (by decide) ?_
  refine lv_istore (lv' := [(4, .int (0 : Int32)), (0, .ref (ad G 86)), (1, .int x1), (2, .int x2), (3, .int x3)]) hC.1 hC.2.1 dX7_layCases_1 hl (by decide) rfl (fun ls hl => ?_)
  exact w_X7_layCases_3 hC _ hF hw (lv_sub hl [1, 2, 3, 4, 0] rfl)
abbrev rm_X7_fraction : Room := { frames := 0, cells := 0, slots := 0, locals := 0 }
theorem yv_X7_fraction : YV yX7_fraction cX7_fraction 12 (some .int) 2 RX7 := ⟨⟨q6_120, qs_74, q1_8, q6_121⟩, by decide +kernel⟩
theorem dX7_fraction_0 : decode cX7_fraction 0 = .ok (.lconst 1, 1) := by decide +kernel
theorem dX7_fraction_1 : decode cX7_fraction 1 = .ok (.lstore 4, 2) := by decide +kernel
theorem dX7_fraction_3 : decode cX7_fraction 3 = .ok (.iconst 0, 1) := by decide +kernel
theorem dX7_fraction_4 : decode cX7_fraction 4 = .ok (.istore 6, 2) := by decide +kernel
theorem dX7_fraction_6 : decode cX7_fraction 6 = .ok (.iload 6, 2) := by decide +kernel
theorem dX7_fraction_8 : decode cX7_fraction 8 = .ok (.iload_n 3, 1) := by decide +kernel
theorem dX7_fraction_9 : decode cX7_fraction 9 = .ok (.if_icmp .ge 17, 3) := by decide +kernel
theorem dX7_fraction_12 : decode cX7_fraction 12 = .ok (.lload 4, 2) := by decide +kernel
theorem dX7_fraction_14 : decode cX7_fraction 14 = .ok (.ldc2_w 298, 3) := by decide +kernel
theorem dX7_fraction_17 : decode cX7_fraction 17 = .ok (.lmul, 1) := by decide +kernel
theorem dX7_fraction_18 : decode cX7_fraction 18 = .ok (.lstore 4, 2) := by decide +kernel
theorem dX7_fraction_20 : decode cX7_fraction 20 = .ok (.iinc 6 1, 3) := by decide +kernel
theorem dX7_fraction_23 : decode cX7_fraction 23 = .ok (.goto (-17), 3) := by decide +kernel
theorem dX7_fraction_26 : decode cX7_fraction 26 = .ok (.lload_n 1, 1) := by decide +kernel
theorem dX7_fraction_27 : decode cX7_fraction 27 = .ok (.lstore 6, 2) := by decide +kernel
theorem dX7_fraction_29 : decode cX7_fraction 29 = .ok (.lload 4, 2) := by decide +kernel
theorem dX7_fraction_31 : decode cX7_fraction 31 = .ok (.lstore 8, 2) := by decide +kernel
theorem dX7_fraction_33 : decode cX7_fraction 33 = .ok (.lload 8, 2) := by decide +kernel
theorem dX7_fraction_35 : decode cX7_fraction 35 = .ok (.lconst 0, 1) := by decide +kernel
theorem dX7_fraction_36 : decode cX7_fraction 36 = .ok (.lcmp, 1) := by decide +kernel
theorem dX7_fraction_37 : decode cX7_fraction 37 = .ok (.ifCond .eq 21, 3) := by decide +kernel
theorem dX7_fraction_40 : decode cX7_fraction 40 = .ok (.lload 6, 2) := by decide +kernel
theorem dX7_fraction_42 : decode cX7_fraction 42 = .ok (.lload 8, 2) := by decide +kernel
theorem dX7_fraction_44 : decode cX7_fraction 44 = .ok (.lrem, 1) := by decide +kernel
theorem dX7_fraction_45 : decode cX7_fraction 45 = .ok (.lstore 10, 2) := by decide +kernel
theorem dX7_fraction_47 : decode cX7_fraction 47 = .ok (.lload 8, 2) := by decide +kernel
theorem dX7_fraction_49 : decode cX7_fraction 49 = .ok (.lstore 6, 2) := by decide +kernel
theorem dX7_fraction_51 : decode cX7_fraction 51 = .ok (.lload 10, 2) := by decide +kernel
theorem dX7_fraction_53 : decode cX7_fraction 53 = .ok (.lstore 8, 2) := by decide +kernel
theorem dX7_fraction_55 : decode cX7_fraction 55 = .ok (.goto (-22), 3) := by decide +kernel
theorem dX7_fraction_58 : decode cX7_fraction 58 = .ok (.aload_n 0, 1) := by decide +kernel
theorem dX7_fraction_59 : decode cX7_fraction 59 = .ok (.lload_n 1, 1) := by decide +kernel
theorem dX7_fraction_60 : decode cX7_fraction 60 = .ok (.lload 6, 2) := by decide +kernel
theorem dX7_fraction_62 : decode cX7_fraction 62 = .ok (.ldiv, 1) := by decide +kernel
theorem dX7_fraction_63 : decode cX7_fraction 63 = .ok (.putfield 300, 3) := by decide +kernel
theorem dX7_fraction_66 : decode cX7_fraction 66 = .ok (.aload_n 0, 1) := by decide +kernel
theorem dX7_fraction_67 : decode cX7_fraction 67 = .ok (.lload 4, 2) := by decide +kernel
theorem dX7_fraction_69 : decode cX7_fraction 69 = .ok (.lload 6, 2) := by decide +kernel
theorem dX7_fraction_71 : decode cX7_fraction 71 = .ok (.ldiv, 1) := by decide +kernel
theorem dX7_fraction_72 : decode cX7_fraction 72 = .ok (.putfield 47, 3) := by decide +kernel
theorem dX7_fraction_75 : decode cX7_fraction 75 = .ok (.iconst 1, 1) := by decide +kernel
theorem dX7_fraction_76 : decode cX7_fraction 76 = .ok (.ireturn, 1) := by decide +kernel
def F_X7_fraction_33 (fu : Nat) : Nat → Mm → Int64 → Int64 → Int64 → Int64 → Option (Int32 × Mm)
  | 0, _, _, _, _, _ => none
  | n + 1, M, x1, x4, x6, x8 =>
    if (lg_cmp x8 (0 : Int64)) = 0 then
      if x6 = 0 then none else (
      lt1 (pL M 86 17 (x1 / x6)) (fun M3 =>
      if x6 = 0 then none else (
      lt1 (pL M3 86 18 (x4 / x6)) (fun M5 =>
      some ((1 : Int32), M5)))))
    else
      if x8 = 0 then none else (
      F_X7_fraction_33 fu n M x1 x4 x8 (x6 - x6 / x8 * x8))
set_option maxRecDepth 100000 in
set_option maxHeartbeats 4000000 in
theorem w_X7_fraction_33 {p : Program} {l : Launch} {e : Env} {s : State} {m : MethodId} {args : Array Value} {below : List Frame} {meth : Method} {c : Code} {G : Gv} (hC : Cx p s m args meth c cX7_fraction 12 (some .int) RX7) {fu : Nat} {r : Int32} {M' : Mm} : ∀ (n : Nat) {x1 : Int64} {x4 : Int64} {x6 : Int64} {x8 : Int64} {M : Mm} {H : Heap} {locs : List Loc} {ls : Array Slot}, F_X7_fraction_33 fu n M x1 x4 x6 x8 = some (r, M') → St G s H locs M → lv_has ls 12 [(0, .ref (ad G 86)), (1, .long x1), (4, .long x4), (6, .long x6), (8, .long x8)] → W p l e rm_X7_fraction s m args below meth c H locs 0 0 (MQ below (QI G r M') args s 0 0 (zA G)) (F0 m 33 ls []) := by
  intro n
  induction n with
  | zero =>
    intro x1 x4 x6 x8 M H locs ls hF hw hl
    cases hF
  | succ n ih =>
    intro x1 x4 x6 x8 M H locs ls hF hw hl
    unfold F_X7_fraction_33 at hF
    refine lv_lload hC.1 hC.2.1 dX7_fraction_33 (lv_at hl 4 rfl) ?_
    refine lv_lconst (v := (0 : Int64)) hC.1 hC.2.1 dX7_fraction_35 (by decide) ?_
    refine W.lcmp hC.1 hC.2.1 dX7_fraction_36 ?_
    refine lv_if_eq (tgt := 58) hC.1 hC.2.1 dX7_fraction_37 (by decide) (fun b1 => ?_) (fun b1 => ?_)
    · have hF := ifP hF b1
      refine lv_aload_n hC.1 hC.2.1 dX7_fraction_58 rfl (lv_at hl 0 rfl) ?_
      refine lv_lload_n hC.1 hC.2.1 dX7_fraction_59 rfl (lv_at hl 1 rfl) ?_
      refine lv_lload hC.1 hC.2.1 dX7_fraction_60 (lv_at hl 3 rfl) ?_
      obtain ⟨n2, hF⟩ := ifO hF
      refine lv_ldiv hC.1 hC.2.1 dX7_fraction_62 n2 ?_
      refine u7_above hC hw q4_139 dX7_fraction_63 (fun H locs hw => ?_)
      obtain ⟨M3, hw, hF⟩ := lt1W hF hw
      refine lv_aload_n hC.1 hC.2.1 dX7_fraction_66 rfl (lv_at hl 0 rfl) ?_
      refine lv_lload hC.1 hC.2.1 dX7_fraction_67 (lv_at hl 2 rfl) ?_
      refine lv_lload hC.1 hC.2.1 dX7_fraction_69 (lv_at hl 3 rfl) ?_
      obtain ⟨n4, hF⟩ := ifO hF
      refine lv_ldiv hC.1 hC.2.1 dX7_fraction_71 n4 ?_
      refine u7_below hC hw q4_140 dX7_fraction_72 (fun H locs hw => ?_)
      obtain ⟨M5, hw, hF⟩ := lt1W hF hw
      refine lv_iconst (v := (1 : Int32)) hC.1 hC.2.1 dX7_fraction_75 (by decide) ?_
      exact r_iretE hC hw hF dX7_fraction_76
    · have hF := ifN hF b1
      refine lv_lload hC.1 hC.2.1 dX7_fraction_40 (lv_at hl 3 rfl) ?_
      refine lv_lload hC.1 hC.2.1 dX7_fraction_42 (lv_at hl 4 rfl) ?_
      obtain ⟨n6, hF⟩ := ifO hF
      refine lv_lrem hC.1 hC.2.1 dX7_fraction_44 n6 ?_
      refine lv_lstore (lv' := [(10, .long (x6 - x6 / x8 * x8)), (0, .ref (ad G 86)), (1, .long x1), (4, .long x4), (6, .long x6), (8, .long x8)]) hC.1 hC.2.1 dX7_fraction_45 hl (by decide) rfl (fun ls hl => ?_)
      refine lv_lload hC.1 hC.2.1 dX7_fraction_47 (lv_at hl 5 rfl) ?_
      refine lv_lstore (lv' := [(6, .long x8), (10, .long (x6 - x6 / x8 * x8)), (0, .ref (ad G 86)), (1, .long x1), (4, .long x4), (8, .long x8)]) hC.1 hC.2.1 dX7_fraction_49 hl (by decide) rfl (fun ls hl => ?_)
      refine lv_lload hC.1 hC.2.1 dX7_fraction_51 (lv_at hl 1 rfl) ?_
      refine lv_lstore (lv' := [(8, .long (x6 - x6 / x8 * x8)), (6, .long x8), (10, .long (x6 - x6 / x8 * x8)), (0, .ref (ad G 86)), (1, .long x1), (4, .long x4)]) hC.1 hC.2.1 dX7_fraction_53 hl (by decide) rfl (fun ls hl => ?_)
      refine lv_goto (tgt := 33) hC.1 hC.2.1 dX7_fraction_55 (by decide) ?_
      exact ih hF hw (lv_sub hl [3, 4, 5, 1, 0] rfl)
def F_X7_fraction_6 (fu : Nat) : Nat → Mm → Int64 → Int32 → Int64 → Int32 → Option (Int32 × Mm)
  | 0, _, _, _, _, _ => none
  | n + 1, M, x1, x3, x4, x6 =>
    if x3 ≤ x6 then
      F_X7_fraction_33 fu fu M x1 x4 x1 x4
    else
      F_X7_fraction_6 fu n M x1 x3 (x4 * (12 : Int64)) (x6 + (1 : Int32))
set_option maxRecDepth 100000 in
set_option maxHeartbeats 4000000 in
theorem w_X7_fraction_6 {p : Program} {l : Launch} {e : Env} {s : State} {m : MethodId} {args : Array Value} {below : List Frame} {meth : Method} {c : Code} {G : Gv} (hC : Cx p s m args meth c cX7_fraction 12 (some .int) RX7) {fu : Nat} {r : Int32} {M' : Mm} : ∀ (n : Nat) {x1 : Int64} {x3 : Int32} {x4 : Int64} {x6 : Int32} {M : Mm} {H : Heap} {locs : List Loc} {ls : Array Slot}, F_X7_fraction_6 fu n M x1 x3 x4 x6 = some (r, M') → St G s H locs M → lv_has ls 12 [(0, .ref (ad G 86)), (1, .long x1), (3, .int x3), (4, .long x4), (6, .int x6)] → W p l e rm_X7_fraction s m args below meth c H locs 0 0 (MQ below (QI G r M') args s 0 0 (zA G)) (F0 m 6 ls []) := by
  intro n
  induction n with
  | zero =>
    intro x1 x3 x4 x6 M H locs ls hF hw hl
    cases hF
  | succ n ih =>
    intro x1 x3 x4 x6 M H locs ls hF hw hl
    unfold F_X7_fraction_6 at hF
    refine lv_iload hC.1 hC.2.1 dX7_fraction_6 (lv_at hl 4 rfl) ?_
    refine lv_iload_n hC.1 hC.2.1 dX7_fraction_8 rfl (lv_at hl 2 rfl) ?_
    refine lv_icmp_ge (tgt := 26) hC.1 hC.2.1 dX7_fraction_9 (by decide) (fun b1 => ?_) (fun b1 => ?_)
    · have hF := ifP hF b1
      refine lv_lload_n hC.1 hC.2.1 dX7_fraction_26 rfl (lv_at hl 1 rfl) ?_
      refine lv_lstore (lv' := [(6, .long x1), (0, .ref (ad G 86)), (1, .long x1), (3, .int x3), (4, .long x4)]) hC.1 hC.2.1 dX7_fraction_27 hl (by decide) rfl (fun ls hl => ?_)
      refine lv_lload hC.1 hC.2.1 dX7_fraction_29 (lv_at hl 4 rfl) ?_
      refine lv_lstore (lv' := [(8, .long x4), (6, .long x1), (0, .ref (ad G 86)), (1, .long x1), (3, .int x3), (4, .long x4)]) hC.1 hC.2.1 dX7_fraction_31 hl (by decide) rfl (fun ls hl => ?_)
      exact w_X7_fraction_33 hC _ hF hw (lv_sub hl [2, 3, 5, 1, 0] rfl)
    · have hF := ifN hF b1
      refine lv_lload hC.1 hC.2.1 dX7_fraction_12 (lv_at hl 3 rfl) ?_
      refine lv_ldc2 (v := (12 : Int64)) hC.1 hC.2.1 hC.2.2.2.1 (hC.2.2.2.2.1 _ q6_113) dX7_fraction_14 ?_
      refine lv_lmul hC.1 hC.2.1 dX7_fraction_17 ?_
      refine lv_lstore (lv' := [(4, .long (x4 * (12 : Int64))), (0, .ref (ad G 86)), (1, .long x1), (3, .int x3), (6, .int x6)]) hC.1 hC.2.1 dX7_fraction_18 hl (by decide) rfl (fun ls hl => ?_)
      refine lv_iinc (v := (x6 + (1 : Int32))) (lv' := [(6, .int (x6 + (1 : Int32))), (4, .long (x4 * (12 : Int64))), (0, .ref (ad G 86)), (1, .long x1), (3, .int x3)]) hC.1 hC.2.1 dX7_fraction_20 hl (k := 4) rfl rfl (by decide) rfl (fun ls hl => ?_)
      refine lv_goto (tgt := 6) hC.1 hC.2.1 dX7_fraction_23 (by decide) ?_
      exact ih hF hw (lv_sub hl [2, 3, 4, 1, 0] rfl)
def F_X7_fraction (fu : Nat) (M : Mm) (x1 : Int64) (x3 : Int32) : Option (Int32 × Mm) :=
  F_X7_fraction_6 fu fu M x1 x3 (1 : Int64) (0 : Int32)
set_option maxRecDepth 100000 in
set_option maxHeartbeats 4000000 in
theorem c_X7_fraction {l : Launch} {G : Gv} {fu : Nat} {M : Mm} {x1 : Int64} {x3 : Int32} {r : Int32} {M' : Mm} (hF : F_X7_fraction fu M x1 x3 = some (r, M')) : Met l yX7_fraction (.code yX7_fraction cX7_fraction 12 (some .int) :: zU) rm_X7_fraction (va_Pc [.ref (ad G 86), .long x1, .int x3] (Wd G M)) (QI G r M') 0 0 (zA G) := by
  refine zMet (by decide) rfl (Nat.le_of_ble_eq_true rfl) ?_
  intro p e s m below meth c hC hw ls hl
  have hl : lv_has ls 12 [(0, .ref (ad G 86)), (1, .long x1), (3, .int x3)] := hl
  unfold F_X7_fraction at hF
  refine lv_lconst (v := (1 : Int64)) hC.1 hC.2.1 dX7_fraction_0 (by decide) ?_
  refine lv_lstore (lv' := [(4, .long (1 : Int64)), (0, .ref (ad G 86)), (1, .long x1), (3, .int x3)]) hC.1 hC.2.1 dX7_fraction_1 hl (by decide) rfl (fun ls hl => ?_)
  refine lv_iconst (v := (0 : Int32)) hC.1 hC.2.1 dX7_fraction_3 (by decide) ?_
  refine lv_istore (lv' := [(6, .int (0 : Int32)), (4, .long (1 : Int64)), (0, .ref (ad G 86)), (1, .long x1), (3, .int x3)]) hC.1 hC.2.1 dX7_fraction_4 hl (by decide) rfl (fun ls hl => ?_)
  exact w_X7_fraction_6 hC _ hF hw (lv_sub hl [2, 3, 4, 1, 0] rfl)
abbrev rm_X7_isCloud : Room := { frames := 2, cells := 0, slots := 0, locals := 46 }
theorem yv_X7_isCloud : YV yX7_isCloud cX7_isCloud 4 (some .boolean) 3 RX7 := ⟨⟨q6_110, qs_72, q1_8, q6_111⟩, by decide +kernel⟩
theorem dX7_isCloud_0 : decode cX7_isCloud 0 = .ok (.aload_n 0, 1) := by decide +kernel
theorem dX7_isCloud_1 : decode cX7_isCloud 1 = .ok (.iload_n 1, 1) := by decide +kernel
theorem dX7_isCloud_2 : decode cX7_isCloud 2 = .ok (.invokevirtual 197, 3) := by decide +kernel
theorem dX7_isCloud_5 : decode cX7_isCloud 5 = .ok (.ifCond .eq 31, 3) := by decide +kernel
theorem dX7_isCloud_8 : decode cX7_isCloud 8 = .ok (.iload_n 2, 1) := by decide +kernel
theorem dX7_isCloud_9 : decode cX7_isCloud 9 = .ok (.i2l, 1) := by decide +kernel
theorem dX7_isCloud_10 : decode cX7_isCloud 10 = .ok (.lconst 0, 1) := by decide +kernel
theorem dX7_isCloud_11 : decode cX7_isCloud 11 = .ok (.ldc2_w 303, 3) := by decide +kernel
theorem dX7_isCloud_14 : decode cX7_isCloud 14 = .ok (.invokestatic 104, 3) := by decide +kernel
theorem dX7_isCloud_17 : decode cX7_isCloud 17 = .ok (.ifCond .eq 19, 3) := by decide +kernel
theorem dX7_isCloud_20 : decode cX7_isCloud 20 = .ok (.iload_n 3, 1) := by decide +kernel
theorem dX7_isCloud_21 : decode cX7_isCloud 21 = .ok (.i2l, 1) := by decide +kernel
theorem dX7_isCloud_22 : decode cX7_isCloud 22 = .ok (.lconst 0, 1) := by decide +kernel
theorem dX7_isCloud_23 : decode cX7_isCloud 23 = .ok (.ldc2_w 298, 3) := by decide +kernel
theorem dX7_isCloud_26 : decode cX7_isCloud 26 = .ok (.invokestatic 104, 3) := by decide +kernel
theorem dX7_isCloud_29 : decode cX7_isCloud 29 = .ok (.ifCond .eq 7, 3) := by decide +kernel
theorem dX7_isCloud_32 : decode cX7_isCloud 32 = .ok (.iconst 1, 1) := by decide +kernel
theorem dX7_isCloud_33 : decode cX7_isCloud 33 = .ok (.goto 4, 3) := by decide +kernel
theorem dX7_isCloud_36 : decode cX7_isCloud 36 = .ok (.iconst 0, 1) := by decide +kernel
theorem dX7_isCloud_37 : decode cX7_isCloud 37 = .ok (.ireturn, 1) := by decide +kernel
def F_X7_isCloud (fu : Nat) (M : Mm) (x1 : Int32) (x2 : Int32) (x3 : Int32) : Option Int32 :=
  ob1 (F_X7_isMan fu M x1) (fun r2 =>
  if r2 = 0 then
    some (0 : Int32)
  else
    ob1 (F_X7_in fu M x2.toInt64 (0 : Int64) (8 : Int64)) (fun r5 =>
    if r5 = 0 then
      some (0 : Int32)
    else
      ob1 (F_X7_in fu M x3.toInt64 (0 : Int64) (12 : Int64)) (fun r8 =>
      if r8 = 0 then
        some (0 : Int32)
      else
        some (1 : Int32))))
set_option maxRecDepth 100000 in
set_option maxHeartbeats 4000000 in
theorem c_X7_isCloud {l : Launch} {G : Gv} {fu : Nat} {M : Mm} {x1 : Int32} {x2 : Int32} {x3 : Int32} {r : Int32} (hF : F_X7_isCloud fu M x1 x2 x3 = some r) : Met l yX7_isCloud (.code yX7_isCloud cX7_isCloud 4 (some .boolean) :: zU) rm_X7_isCloud (va_Pc [.ref (ad G 86), .int x1, .int x2, .int x3] (Wd G M)) (QI G r M) 0 0 (zA G) := by
  refine zMet (by decide) rfl (Nat.le_of_ble_eq_true rfl) ?_
  intro p e s m below meth c hC hw ls hl
  have hl : lv_has ls 4 [(0, .ref (ad G 86)), (1, .int x1), (2, .int x2), (3, .int x3)] := hl
  unfold F_X7_isCloud at hF
  refine lv_aload_n hC.1 hC.2.1 dX7_isCloud_0 rfl (lv_at hl 0 rfl) ?_
  refine lv_iload_n hC.1 hC.2.1 dX7_isCloud_1 rfl (lv_at hl 1 rfl) ?_
  obtain ⟨r2, h1, hF⟩ := ob1S hF
  refine k_Vi (As := [.int x1]) (rest := []) hC hw (c_X7_isMan (M := M) h1) RC_X yv_X7_isMan q5_89 ⟨rfl, rfl⟩ ⟨Nat.le_of_ble_eq_true rfl, Nat.le_of_ble_eq_true rfl⟩ ⟨Nat.zero_le _, Nat.zero_le _⟩ rfl rfl (Nat.le_of_ble_eq_true rfl) hl dX7_isCloud_2 (fun H locs hw => ?_)
  refine lv_if_eq (tgt := 36) hC.1 hC.2.1 dX7_isCloud_5 (by decide) (fun b3 => ?_) (fun b3 => ?_)
  · have hF := ifP hF b3
    refine lv_iconst (v := (0 : Int32)) hC.1 hC.2.1 dX7_isCloud_36 (by decide) ?_
    exact r_zretP hC hw (by decide) hF dX7_isCloud_37
  · have hF := ifN hF b3
    refine lv_iload_n hC.1 hC.2.1 dX7_isCloud_8 rfl (lv_at hl 2 rfl) ?_
    refine lv_i2l hC.1 hC.2.1 dX7_isCloud_9 rfl ?_
    refine lv_lconst (v := (0 : Int64)) hC.1 hC.2.1 dX7_isCloud_10 (by decide) ?_
    refine lv_ldc2 (v := (8 : Int64)) hC.1 hC.2.1 hC.2.2.2.1 (hC.2.2.2.2.1 _ q6_112) dX7_isCloud_11 ?_
    obtain ⟨r5, h4, hF⟩ := ob1S hF
    refine k_Si (As := [.long x2.toInt64, .long (0 : Int64), .long (8 : Int64)]) (rest := []) hC hw (c_X7_in (M := M) h4) ys_X7_in q5_3 ⟨rfl, rfl⟩ ⟨Nat.le_of_ble_eq_true rfl, Nat.le_of_ble_eq_true rfl⟩ ⟨Nat.zero_le _, Nat.zero_le _⟩ rfl rfl (Nat.le_of_ble_eq_true rfl) hl dX7_isCloud_14 (fun H locs hw => ?_)
    refine lv_if_eq (tgt := 36) hC.1 hC.2.1 dX7_isCloud_17 (by decide) (fun b6 => ?_) (fun b6 => ?_)
    · have hF := ifP hF b6
      refine lv_iconst (v := (0 : Int32)) hC.1 hC.2.1 dX7_isCloud_36 (by decide) ?_
      exact r_zretP hC hw (by decide) hF dX7_isCloud_37
    · have hF := ifN hF b6
      refine lv_iload_n hC.1 hC.2.1 dX7_isCloud_20 rfl (lv_at hl 3 rfl) ?_
      refine lv_i2l hC.1 hC.2.1 dX7_isCloud_21 rfl ?_
      refine lv_lconst (v := (0 : Int64)) hC.1 hC.2.1 dX7_isCloud_22 (by decide) ?_
      refine lv_ldc2 (v := (12 : Int64)) hC.1 hC.2.1 hC.2.2.2.1 (hC.2.2.2.2.1 _ q6_113) dX7_isCloud_23 ?_
      obtain ⟨r8, h7, hF⟩ := ob1S hF
      refine k_Si (As := [.long x3.toInt64, .long (0 : Int64), .long (12 : Int64)]) (rest := []) hC hw (c_X7_in (M := M) h7) ys_X7_in q5_3 ⟨rfl, rfl⟩ ⟨Nat.le_of_ble_eq_true rfl, Nat.le_of_ble_eq_true rfl⟩ ⟨Nat.zero_le _, Nat.zero_le _⟩ rfl rfl (Nat.le_of_ble_eq_true rfl) hl dX7_isCloud_26 (fun H locs hw => ?_)
      refine lv_if_eq (tgt := 36) hC.1 hC.2.1 dX7_isCloud_29 (by decide) (fun b9 => ?_) (fun b9 => ?_)
      · have hF := ifP hF b9
        refine lv_iconst (v := (0 : Int32)) hC.1 hC.2.1 dX7_isCloud_36 (by decide) ?_
        exact r_zretP hC hw (by decide) hF dX7_isCloud_37
      · have hF := ifN hF b9
        refine lv_iconst (v := (1 : Int32)) hC.1 hC.2.1 dX7_isCloud_32 (by decide) ?_
        refine lv_goto (tgt := 37) hC.1 hC.2.1 dX7_isCloud_33 (by decide) ?_
        exact r_zretP hC hw (by decide) hF dX7_isCloud_37
abbrev rm_X7_odds : Room := { frames := 3, cells := 0, slots := 0, locals := 71 }
theorem yv_X7_odds : YV yX7_odds cX7_odds 7 (some .int) 3 RX7 := ⟨⟨q6_105, q6_106, q1_8, q6_107⟩, by decide +kernel⟩
theorem dX7_odds_0 : decode cX7_odds 0 = .ok (.aload_n 0, 1) := by decide +kernel
theorem dX7_odds_1 : decode cX7_odds 1 = .ok (.iload_n 1, 1) := by decide +kernel
theorem dX7_odds_2 : decode cX7_odds 2 = .ok (.iload_n 2, 1) := by decide +kernel
theorem dX7_odds_3 : decode cX7_odds 3 = .ok (.iload_n 3, 1) := by decide +kernel
theorem dX7_odds_4 : decode cX7_odds 4 = .ok (.invokevirtual 305, 3) := by decide +kernel
theorem dX7_odds_7 : decode cX7_odds 7 = .ok (.ifCond .ne 5, 3) := by decide +kernel
theorem dX7_odds_10 : decode cX7_odds 10 = .ok (.iconst (-1), 1) := by decide +kernel
theorem dX7_odds_11 : decode cX7_odds 11 = .ok (.ireturn, 1) := by decide +kernel
theorem dX7_odds_12 : decode cX7_odds 12 = .ok (.aload_n 0, 1) := by decide +kernel
theorem dX7_odds_13 : decode cX7_odds 13 = .ok (.iload_n 1, 1) := by decide +kernel
theorem dX7_odds_14 : decode cX7_odds 14 = .ok (.iload_n 2, 1) := by decide +kernel
theorem dX7_odds_15 : decode cX7_odds 15 = .ok (.iload_n 3, 1) := by decide +kernel
theorem dX7_odds_16 : decode cX7_odds 16 = .ok (.invokevirtual 309, 3) := by decide +kernel
theorem dX7_odds_19 : decode cX7_odds 19 = .ok (.lconst 0, 1) := by decide +kernel
theorem dX7_odds_20 : decode cX7_odds 20 = .ok (.lstore 4, 2) := by decide +kernel
theorem dX7_odds_22 : decode cX7_odds 22 = .ok (.iconst 1, 1) := by decide +kernel
theorem dX7_odds_23 : decode cX7_odds 23 = .ok (.istore 6, 2) := by decide +kernel
theorem dX7_odds_25 : decode cX7_odds 25 = .ok (.iload 6, 2) := by decide +kernel
theorem dX7_odds_27 : decode cX7_odds 27 = .ok (.bipush 100, 2) := by decide +kernel
theorem dX7_odds_29 : decode cX7_odds 29 = .ok (.if_icmp .ge 21, 3) := by decide +kernel
theorem dX7_odds_32 : decode cX7_odds 32 = .ok (.lload 4, 2) := by decide +kernel
theorem dX7_odds_34 : decode cX7_odds 34 = .ok (.aload_n 0, 1) := by decide +kernel
theorem dX7_odds_35 : decode cX7_odds 35 = .ok (.getfield 87, 3) := by decide +kernel
theorem dX7_odds_38 : decode cX7_odds 38 = .ok (.iload 6, 2) := by decide +kernel
theorem dX7_odds_40 : decode cX7_odds 40 = .ok (.laload, 1) := by decide +kernel
theorem dX7_odds_41 : decode cX7_odds 41 = .ok (.ladd, 1) := by decide +kernel
theorem dX7_odds_42 : decode cX7_odds 42 = .ok (.lstore 4, 2) := by decide +kernel
theorem dX7_odds_44 : decode cX7_odds 44 = .ok (.iinc 6 1, 3) := by decide +kernel
theorem dX7_odds_47 : decode cX7_odds 47 = .ok (.goto (-22), 3) := by decide +kernel
theorem dX7_odds_50 : decode cX7_odds 50 = .ok (.aload_n 0, 1) := by decide +kernel
theorem dX7_odds_51 : decode cX7_odds 51 = .ok (.lload 4, 2) := by decide +kernel
theorem dX7_odds_53 : decode cX7_odds 53 = .ok (.iload_n 2, 1) := by decide +kernel
theorem dX7_odds_54 : decode cX7_odds 54 = .ok (.invokevirtual 313, 3) := by decide +kernel
theorem dX7_odds_57 : decode cX7_odds 57 = .ok (.ireturn, 1) := by decide +kernel
def F_X7_odds_25 (fu : Nat) : Nat → Mm → Int32 → Int64 → Int32 → Option (Int32 × Mm)
  | 0, _, _, _, _ => none
  | n + 1, M, x2, x4, x6 =>
    if (100 : Int32) ≤ x6 then
      ob2 (F_X7_fraction fu M x4 x2) (fun r3 M4 =>
      some (r3, M4))
    else
      if x6 < 0 ∨ ln 111 ≤ x6.toNatClampNeg then none else (
      F_X7_odds_25 fu n M x2 (x4 + (M.2 111 x6.toNatClampNeg)) (x6 + (1 : Int32)))
set_option maxRecDepth 100000 in
set_option maxHeartbeats 4000000 in
theorem w_X7_odds_25 {p : Program} {l : Launch} {e : Env} {s : State} {m : MethodId} {args : Array Value} {below : List Frame} {meth : Method} {c : Code} {G : Gv} (hC : Cx p s m args meth c cX7_odds 7 (some .int) RX7) {fu : Nat} {r : Int32} {M' : Mm} : ∀ (n : Nat) {x2 : Int32} {x4 : Int64} {x6 : Int32} {M : Mm} {H : Heap} {locs : List Loc} {ls : Array Slot}, F_X7_odds_25 fu n M x2 x4 x6 = some (r, M') → St G s H locs M → lv_has ls 7 [(0, .ref (ad G 86)), (2, .int x2), (4, .long x4), (6, .int x6)] → W p l e rm_X7_odds s m args below meth c H locs 0 0 (MQ below (QI G r M') args s 0 0 (zA G)) (F0 m 25 ls []) := by
  intro n
  induction n with
  | zero =>
    intro x2 x4 x6 M H locs ls hF hw hl
    cases hF
  | succ n ih =>
    intro x2 x4 x6 M H locs ls hF hw hl
    unfold F_X7_odds_25 at hF
    refine lv_iload hC.1 hC.2.1 dX7_odds_25 (lv_at hl 3 rfl) ?_
    refine lv_bipush (v := (100 : Int32)) hC.1 hC.2.1 dX7_odds_27 (by decide) ?_
    refine lv_icmp_ge (tgt := 50) hC.1 hC.2.1 dX7_odds_29 (by decide) (fun b1 => ?_) (fun b1 => ?_)
    · have hF := ifP hF b1
      refine lv_aload_n hC.1 hC.2.1 dX7_odds_50 rfl (lv_at hl 0 rfl) ?_
      refine lv_lload hC.1 hC.2.1 dX7_odds_51 (lv_at hl 2 rfl) ?_
      refine lv_iload_n hC.1 hC.2.1 dX7_odds_53 rfl (lv_at hl 1 rfl) ?_
      obtain ⟨r3, M4, h2, hF⟩ := ob2S hF
      refine k_Vi (As := [.long x4, .int x2]) (rest := []) hC hw (c_X7_fraction (M := M) h2) RC_X yv_X7_fraction q6_118 ⟨rfl, rfl⟩ ⟨Nat.le_of_ble_eq_true rfl, Nat.le_of_ble_eq_true rfl⟩ ⟨Nat.zero_le _, Nat.zero_le _⟩ rfl rfl (Nat.le_of_ble_eq_true rfl) hl dX7_odds_54 (fun H locs hw => ?_)
      exact r_iretE hC hw hF dX7_odds_57
    · have hF := ifN hF b1
      refine lv_lload hC.1 hC.2.1 dX7_odds_32 (lv_at hl 2 rfl) ?_
      refine lv_aload_n hC.1 hC.2.1 dX7_odds_34 rfl (lv_at hl 0 rfl) ?_
      refine g7_cases hC hw q4_157 dX7_odds_35 ?_
      refine lv_iload hC.1 hC.2.1 dX7_odds_38 (lv_at hl 3 rfl) ?_
      obtain ⟨n5, hF⟩ := ifO hF
      refine r_lald hC.1 hC.2.1 hw (rfl : kd 111 = 2) n5 dX7_odds_40 ?_
      refine lv_ladd hC.1 hC.2.1 dX7_odds_41 ?_
      refine lv_lstore (lv' := [(4, .long (x4 + (M.2 111 x6.toNatClampNeg))), (0, .ref (ad G 86)), (2, .int x2), (6, .int x6)]) hC.1 hC.2.1 dX7_odds_42 hl (by decide) rfl (fun ls hl => ?_)
      refine lv_iinc (v := (x6 + (1 : Int32))) (lv' := [(6, .int (x6 + (1 : Int32))), (4, .long (x4 + (M.2 111 x6.toNatClampNeg))), (0, .ref (ad G 86)), (2, .int x2)]) hC.1 hC.2.1 dX7_odds_44 hl (k := 3) rfl rfl (by decide) rfl (fun ls hl => ?_)
      refine lv_goto (tgt := 25) hC.1 hC.2.1 dX7_odds_47 (by decide) ?_
      exact ih hF hw (lv_sub hl [2, 3, 1, 0] rfl)
def F_X7_odds (fu : Nat) (M : Mm) (x1 : Int32) (x2 : Int32) (x3 : Int32) : Option (Int32 × Mm) :=
  ob1 (F_X7_isCloud fu M x1 x2 x3) (fun r2 =>
  if r2 = 0 then
    some ((-1 : Int32), M)
  else
    ob1 (F_X7_layCases fu M x1 x2 x3) (fun M5 =>
    F_X7_odds_25 fu fu M5 x2 (0 : Int64) (1 : Int32)))
set_option maxRecDepth 100000 in
set_option maxHeartbeats 4000000 in
theorem c_X7_odds {l : Launch} {G : Gv} {fu : Nat} {M : Mm} {x1 : Int32} {x2 : Int32} {x3 : Int32} {r : Int32} {M' : Mm} (hF : F_X7_odds fu M x1 x2 x3 = some (r, M')) : Met l yX7_odds (.code yX7_odds cX7_odds 7 (some .int) :: zU) rm_X7_odds (va_Pc [.ref (ad G 86), .int x1, .int x2, .int x3] (Wd G M)) (QI G r M') 0 0 (zA G) := by
  refine zMet (by decide) rfl (Nat.le_of_ble_eq_true rfl) ?_
  intro p e s m below meth c hC hw ls hl
  have hl : lv_has ls 7 [(0, .ref (ad G 86)), (1, .int x1), (2, .int x2), (3, .int x3)] := hl
  unfold F_X7_odds at hF
  refine lv_aload_n hC.1 hC.2.1 dX7_odds_0 rfl (lv_at hl 0 rfl) ?_
  refine lv_iload_n hC.1 hC.2.1 dX7_odds_1 rfl (lv_at hl 1 rfl) ?_
  refine lv_iload_n hC.1 hC.2.1 dX7_odds_2 rfl (lv_at hl 2 rfl) ?_
  refine lv_iload_n hC.1 hC.2.1 dX7_odds_3 rfl (lv_at hl 3 rfl) ?_
  obtain ⟨r2, h1, hF⟩ := ob1S hF
  refine k_Vi (As := [.int x1, .int x2, .int x3]) (rest := []) hC hw (c_X7_isCloud (M := M) h1) RC_X yv_X7_isCloud q6_108 ⟨rfl, rfl⟩ ⟨Nat.le_of_ble_eq_true rfl, Nat.le_of_ble_eq_true rfl⟩ ⟨Nat.zero_le _, Nat.zero_le _⟩ rfl rfl (Nat.le_of_ble_eq_true rfl) hl dX7_odds_4 (fun H locs hw => ?_)
  refine lv_if_ne (tgt := 12) hC.1 hC.2.1 dX7_odds_7 (by decide) (fun b3 => ?_) (fun b3 => ?_)
  · have hF := ifN hF b3
    refine lv_aload_n hC.1 hC.2.1 dX7_odds_12 rfl (lv_at hl 0 rfl) ?_
    refine lv_iload_n hC.1 hC.2.1 dX7_odds_13 rfl (lv_at hl 1 rfl) ?_
    refine lv_iload_n hC.1 hC.2.1 dX7_odds_14 rfl (lv_at hl 2 rfl) ?_
    refine lv_iload_n hC.1 hC.2.1 dX7_odds_15 rfl (lv_at hl 3 rfl) ?_
    obtain ⟨M5, h4, hF⟩ := ob1S hF
    refine k_Vv (As := [.int x1, .int x2, .int x3]) (rest := []) hC hw (c_X7_layCases (M := M) h4) RC_X yv_X7_layCases q6_114 ⟨rfl, rfl⟩ ⟨Nat.le_of_ble_eq_true rfl, Nat.le_of_ble_eq_true rfl⟩ ⟨Nat.zero_le _, Nat.zero_le _⟩ rfl rfl (Nat.le_of_ble_eq_true rfl) hl dX7_odds_16 (fun H locs hw => ?_)
    refine lv_lconst (v := (0 : Int64)) hC.1 hC.2.1 dX7_odds_19 (by decide) ?_
    refine lv_lstore (lv' := [(4, .long (0 : Int64)), (0, .ref (ad G 86)), (1, .int x1), (2, .int x2), (3, .int x3)]) hC.1 hC.2.1 dX7_odds_20 hl (by decide) rfl (fun ls hl => ?_)
    refine lv_iconst (v := (1 : Int32)) hC.1 hC.2.1 dX7_odds_22 (by decide) ?_
    refine lv_istore (lv' := [(6, .int (1 : Int32)), (4, .long (0 : Int64)), (0, .ref (ad G 86)), (1, .int x1), (2, .int x2), (3, .int x3)]) hC.1 hC.2.1 dX7_odds_23 hl (by decide) rfl (fun ls hl => ?_)
    exact w_X7_odds_25 hC _ hF hw (lv_sub hl [2, 4, 1, 0] rfl)
  · have hF := ifP hF b3
    refine lv_iconst (v := (-1 : Int32)) hC.1 hC.2.1 dX7_odds_10 (by decide) ?_
    exact r_iretE hC hw hF dX7_odds_11
abbrev rm_X7_mid : Room := { frames := 3, cells := 0, slots := 0, locals := 71 }
theorem yv_X7_mid : YV yX7_mid cX7_mid 7 (some .int) 3 RX7 := ⟨⟨q6_123, q6_124, q1_8, q6_125⟩, by decide +kernel⟩
theorem dX7_mid_0 : decode cX7_mid 0 = .ok (.aload_n 0, 1) := by decide +kernel
theorem dX7_mid_1 : decode cX7_mid 1 = .ok (.iload_n 1, 1) := by decide +kernel
theorem dX7_mid_2 : decode cX7_mid 2 = .ok (.iload_n 2, 1) := by decide +kernel
theorem dX7_mid_3 : decode cX7_mid 3 = .ok (.iload_n 3, 1) := by decide +kernel
theorem dX7_mid_4 : decode cX7_mid 4 = .ok (.invokevirtual 305, 3) := by decide +kernel
theorem dX7_mid_7 : decode cX7_mid 7 = .ok (.ifCond .ne 5, 3) := by decide +kernel
theorem dX7_mid_10 : decode cX7_mid 10 = .ok (.iconst (-1), 1) := by decide +kernel
theorem dX7_mid_11 : decode cX7_mid 11 = .ok (.ireturn, 1) := by decide +kernel
theorem dX7_mid_12 : decode cX7_mid 12 = .ok (.aload_n 0, 1) := by decide +kernel
theorem dX7_mid_13 : decode cX7_mid 13 = .ok (.iload_n 1, 1) := by decide +kernel
theorem dX7_mid_14 : decode cX7_mid 14 = .ok (.iload_n 2, 1) := by decide +kernel
theorem dX7_mid_15 : decode cX7_mid 15 = .ok (.iload_n 3, 1) := by decide +kernel
theorem dX7_mid_16 : decode cX7_mid 16 = .ok (.invokevirtual 309, 3) := by decide +kernel
theorem dX7_mid_19 : decode cX7_mid 19 = .ok (.lconst 0, 1) := by decide +kernel
theorem dX7_mid_20 : decode cX7_mid 20 = .ok (.lstore 4, 2) := by decide +kernel
theorem dX7_mid_22 : decode cX7_mid 22 = .ok (.iconst 1, 1) := by decide +kernel
theorem dX7_mid_23 : decode cX7_mid 23 = .ok (.istore 6, 2) := by decide +kernel
theorem dX7_mid_25 : decode cX7_mid 25 = .ok (.iload 6, 2) := by decide +kernel
theorem dX7_mid_27 : decode cX7_mid 27 = .ok (.bipush 100, 2) := by decide +kernel
theorem dX7_mid_29 : decode cX7_mid 29 = .ok (.if_icmp .ge 25, 3) := by decide +kernel
theorem dX7_mid_32 : decode cX7_mid 32 = .ok (.lload 4, 2) := by decide +kernel
theorem dX7_mid_34 : decode cX7_mid 34 = .ok (.iload 6, 2) := by decide +kernel
theorem dX7_mid_36 : decode cX7_mid 36 = .ok (.i2l, 1) := by decide +kernel
theorem dX7_mid_37 : decode cX7_mid 37 = .ok (.aload_n 0, 1) := by decide +kernel
theorem dX7_mid_38 : decode cX7_mid 38 = .ok (.getfield 87, 3) := by decide +kernel
theorem dX7_mid_41 : decode cX7_mid 41 = .ok (.iload 6, 2) := by decide +kernel
theorem dX7_mid_43 : decode cX7_mid 43 = .ok (.laload, 1) := by decide +kernel
theorem dX7_mid_44 : decode cX7_mid 44 = .ok (.lmul, 1) := by decide +kernel
theorem dX7_mid_45 : decode cX7_mid 45 = .ok (.ladd, 1) := by decide +kernel
theorem dX7_mid_46 : decode cX7_mid 46 = .ok (.lstore 4, 2) := by decide +kernel
theorem dX7_mid_48 : decode cX7_mid 48 = .ok (.iinc 6 1, 3) := by decide +kernel
theorem dX7_mid_51 : decode cX7_mid 51 = .ok (.goto (-26), 3) := by decide +kernel
theorem dX7_mid_54 : decode cX7_mid 54 = .ok (.aload_n 0, 1) := by decide +kernel
theorem dX7_mid_55 : decode cX7_mid 55 = .ok (.lload 4, 2) := by decide +kernel
theorem dX7_mid_57 : decode cX7_mid 57 = .ok (.iload_n 2, 1) := by decide +kernel
theorem dX7_mid_58 : decode cX7_mid 58 = .ok (.invokevirtual 313, 3) := by decide +kernel
theorem dX7_mid_61 : decode cX7_mid 61 = .ok (.ireturn, 1) := by decide +kernel
def F_X7_mid_25 (fu : Nat) : Nat → Mm → Int32 → Int64 → Int32 → Option (Int32 × Mm)
  | 0, _, _, _, _ => none
  | n + 1, M, x2, x4, x6 =>
    if (100 : Int32) ≤ x6 then
      ob2 (F_X7_fraction fu M x4 x2) (fun r3 M4 =>
      some (r3, M4))
    else
      if x6 < 0 ∨ ln 111 ≤ x6.toNatClampNeg then none else (
      lt1 (x4 + (x6.toInt64 * (M.2 111 x6.toNatClampNeg))) (fun y6 =>
      F_X7_mid_25 fu n M x2 y6 (x6 + (1 : Int32))))
set_option maxRecDepth 100000 in
set_option maxHeartbeats 4000000 in
theorem w_X7_mid_25 {p : Program} {l : Launch} {e : Env} {s : State} {m : MethodId} {args : Array Value} {below : List Frame} {meth : Method} {c : Code} {G : Gv} (hC : Cx p s m args meth c cX7_mid 7 (some .int) RX7) {fu : Nat} {r : Int32} {M' : Mm} : ∀ (n : Nat) {x2 : Int32} {x4 : Int64} {x6 : Int32} {M : Mm} {H : Heap} {locs : List Loc} {ls : Array Slot}, F_X7_mid_25 fu n M x2 x4 x6 = some (r, M') → St G s H locs M → lv_has ls 7 [(0, .ref (ad G 86)), (2, .int x2), (4, .long x4), (6, .int x6)] → W p l e rm_X7_mid s m args below meth c H locs 0 0 (MQ below (QI G r M') args s 0 0 (zA G)) (F0 m 25 ls []) := by
  intro n
  induction n with
  | zero =>
    intro x2 x4 x6 M H locs ls hF hw hl
    cases hF
  | succ n ih =>
    intro x2 x4 x6 M H locs ls hF hw hl
    unfold F_X7_mid_25 at hF
    refine lv_iload hC.1 hC.2.1 dX7_mid_25 (lv_at hl 3 rfl) ?_
    refine lv_bipush (v := (100 : Int32)) hC.1 hC.2.1 dX7_mid_27 (by decide) ?_
    refine lv_icmp_ge (tgt := 54) hC.1 hC.2.1 dX7_mid_29 (by decide) (fun b1 => ?_) (fun b1 => ?_)
    · have hF := ifP hF b1
      refine lv_aload_n hC.1 hC.2.1 dX7_mid_54 rfl (lv_at hl 0 rfl) ?_
      refine lv_lload hC.1 hC.2.1 dX7_mid_55 (lv_at hl 2 rfl) ?_
      refine lv_iload_n hC.1 hC.2.1 dX7_mid_57 rfl (lv_at hl 1 rfl) ?_
      obtain ⟨r3, M4, h2, hF⟩ := ob2S hF
      refine k_Vi (As := [.long x4, .int x2]) (rest := []) hC hw (c_X7_fraction (M := M) h2) RC_X yv_X7_fraction q6_118 ⟨rfl, rfl⟩ ⟨Nat.le_of_ble_eq_true rfl, Nat.le_of_ble_eq_true rfl⟩ ⟨Nat.zero_le _, Nat.zero_le _⟩ rfl rfl (Nat.le_of_ble_eq_true rfl) hl dX7_mid_58 (fun H locs hw => ?_)
      exact r_iretE hC hw hF dX7_mid_61
    · have hF := ifN hF b1
      refine lv_lload hC.1 hC.2.1 dX7_mid_32 (lv_at hl 2 rfl) ?_
      refine lv_iload hC.1 hC.2.1 dX7_mid_34 (lv_at hl 3 rfl) ?_
      refine lv_i2l hC.1 hC.2.1 dX7_mid_36 rfl ?_
      refine lv_aload_n hC.1 hC.2.1 dX7_mid_37 rfl (lv_at hl 0 rfl) ?_
      refine g7_cases hC hw q4_157 dX7_mid_38 ?_
      refine lv_iload hC.1 hC.2.1 dX7_mid_41 (lv_at hl 3 rfl) ?_
      obtain ⟨n5, hF⟩ := ifO hF
      refine r_lald hC.1 hC.2.1 hw (rfl : kd 111 = 2) n5 dX7_mid_43 ?_
      refine lv_lmul hC.1 hC.2.1 dX7_mid_44 ?_
      refine lv_ladd hC.1 hC.2.1 dX7_mid_45 ?_
      refine lv_topl (fun y6 ey6 => ?_)
      have hF := lt1G hF ey6
      refine lv_lstore (lv' := [(4, .long y6), (0, .ref (ad G 86)), (2, .int x2), (6, .int x6)]) hC.1 hC.2.1 dX7_mid_46 hl (by decide) rfl (fun ls hl => ?_)
      refine lv_iinc (v := (x6 + (1 : Int32))) (lv' := [(6, .int (x6 + (1 : Int32))), (4, .long y6), (0, .ref (ad G 86)), (2, .int x2)]) hC.1 hC.2.1 dX7_mid_48 hl (k := 3) rfl rfl (by decide) rfl (fun ls hl => ?_)
      refine lv_goto (tgt := 25) hC.1 hC.2.1 dX7_mid_51 (by decide) ?_
      exact ih hF hw (lv_sub hl [2, 3, 1, 0] rfl)
def F_X7_mid (fu : Nat) (M : Mm) (x1 : Int32) (x2 : Int32) (x3 : Int32) : Option (Int32 × Mm) :=
  ob1 (F_X7_isCloud fu M x1 x2 x3) (fun r2 =>
  if r2 = 0 then
    some ((-1 : Int32), M)
  else
    ob1 (F_X7_layCases fu M x1 x2 x3) (fun M5 =>
    F_X7_mid_25 fu fu M5 x2 (0 : Int64) (1 : Int32)))
set_option maxRecDepth 100000 in
set_option maxHeartbeats 4000000 in
theorem c_X7_mid {l : Launch} {G : Gv} {fu : Nat} {M : Mm} {x1 : Int32} {x2 : Int32} {x3 : Int32} {r : Int32} {M' : Mm} (hF : F_X7_mid fu M x1 x2 x3 = some (r, M')) : Met l yX7_mid (.code yX7_mid cX7_mid 7 (some .int) :: zU) rm_X7_mid (va_Pc [.ref (ad G 86), .int x1, .int x2, .int x3] (Wd G M)) (QI G r M') 0 0 (zA G) := by
  refine zMet (by decide) rfl (Nat.le_of_ble_eq_true rfl) ?_
  intro p e s m below meth c hC hw ls hl
  have hl : lv_has ls 7 [(0, .ref (ad G 86)), (1, .int x1), (2, .int x2), (3, .int x3)] := hl
  unfold F_X7_mid at hF
  refine lv_aload_n hC.1 hC.2.1 dX7_mid_0 rfl (lv_at hl 0 rfl) ?_
  refine lv_iload_n hC.1 hC.2.1 dX7_mid_1 rfl (lv_at hl 1 rfl) ?_
  refine lv_iload_n hC.1 hC.2.1 dX7_mid_2 rfl (lv_at hl 2 rfl) ?_
  refine lv_iload_n hC.1 hC.2.1 dX7_mid_3 rfl (lv_at hl 3 rfl) ?_
  obtain ⟨r2, h1, hF⟩ := ob1S hF
  refine k_Vi (As := [.int x1, .int x2, .int x3]) (rest := []) hC hw (c_X7_isCloud (M := M) h1) RC_X yv_X7_isCloud q6_108 ⟨rfl, rfl⟩ ⟨Nat.le_of_ble_eq_true rfl, Nat.le_of_ble_eq_true rfl⟩ ⟨Nat.zero_le _, Nat.zero_le _⟩ rfl rfl (Nat.le_of_ble_eq_true rfl) hl dX7_mid_4 (fun H locs hw => ?_)
  refine lv_if_ne (tgt := 12) hC.1 hC.2.1 dX7_mid_7 (by decide) (fun b3 => ?_) (fun b3 => ?_)
  · have hF := ifN hF b3
    refine lv_aload_n hC.1 hC.2.1 dX7_mid_12 rfl (lv_at hl 0 rfl) ?_
    refine lv_iload_n hC.1 hC.2.1 dX7_mid_13 rfl (lv_at hl 1 rfl) ?_
    refine lv_iload_n hC.1 hC.2.1 dX7_mid_14 rfl (lv_at hl 2 rfl) ?_
    refine lv_iload_n hC.1 hC.2.1 dX7_mid_15 rfl (lv_at hl 3 rfl) ?_
    obtain ⟨M5, h4, hF⟩ := ob1S hF
    refine k_Vv (As := [.int x1, .int x2, .int x3]) (rest := []) hC hw (c_X7_layCases (M := M) h4) RC_X yv_X7_layCases q6_114 ⟨rfl, rfl⟩ ⟨Nat.le_of_ble_eq_true rfl, Nat.le_of_ble_eq_true rfl⟩ ⟨Nat.zero_le _, Nat.zero_le _⟩ rfl rfl (Nat.le_of_ble_eq_true rfl) hl dX7_mid_16 (fun H locs hw => ?_)
    refine lv_lconst (v := (0 : Int64)) hC.1 hC.2.1 dX7_mid_19 (by decide) ?_
    refine lv_lstore (lv' := [(4, .long (0 : Int64)), (0, .ref (ad G 86)), (1, .int x1), (2, .int x2), (3, .int x3)]) hC.1 hC.2.1 dX7_mid_20 hl (by decide) rfl (fun ls hl => ?_)
    refine lv_iconst (v := (1 : Int32)) hC.1 hC.2.1 dX7_mid_22 (by decide) ?_
    refine lv_istore (lv' := [(6, .int (1 : Int32)), (4, .long (0 : Int64)), (0, .ref (ad G 86)), (1, .int x1), (2, .int x2), (3, .int x3)]) hC.1 hC.2.1 dX7_mid_23 hl (by decide) rfl (fun ls hl => ?_)
    exact w_X7_mid_25 hC _ hF hw (lv_sub hl [2, 4, 1, 0] rfl)
  · have hF := ifP hF b3
    refine lv_iconst (v := (-1 : Int32)) hC.1 hC.2.1 dX7_mid_10 (by decide) ?_
    exact r_iretE hC hw hF dX7_mid_11
