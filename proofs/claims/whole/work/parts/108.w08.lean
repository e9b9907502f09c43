abbrev rm_X7_readsMan : Room := { frames := 2, cells := 0, slots := 0, locals := 49 }
theorem yv_X7_readsMan : YV yX7_readsMan cX7_readsMan 7 (some .boolean) 1 RX7 := ⟨⟨q5_76, qs_40, q1_8, q5_77⟩, by decide +kernel⟩
theorem dX7_readsMan_0 : decode cX7_readsMan 0 = .ok (.aload_n 0, 1) := by decide +kernel
theorem dX7_readsMan_1 : decode cX7_readsMan 1 = .ok (.iload_n 1, 1) := by decide +kernel
theorem dX7_readsMan_2 : decode cX7_readsMan 2 = .ok (.invokevirtual 135, 3) := by decide +kernel
theorem dX7_readsMan_5 : decode cX7_readsMan 5 = .ok (.invokestatic 145, 3) := by decide +kernel
theorem dX7_readsMan_8 : decode cX7_readsMan 8 = .ok (.istore_n 2, 1) := by decide +kernel
theorem dX7_readsMan_9 : decode cX7_readsMan 9 = .ok (.aload_n 0, 1) := by decide +kernel
theorem dX7_readsMan_10 : decode cX7_readsMan 10 = .ok (.getfield 148, 3) := by decide +kernel
theorem dX7_readsMan_13 : decode cX7_readsMan 13 = .ok (.bipush 6, 2) := by decide +kernel
theorem dX7_readsMan_15 : decode cX7_readsMan 15 = .ok (.if_icmp .eq 9, 3) := by decide +kernel
theorem dX7_readsMan_18 : decode cX7_readsMan 18 = .ok (.iload_n 2, 1) := by decide +kernel
theorem dX7_readsMan_19 : decode cX7_readsMan 19 = .ok (.bipush (-9), 2) := by decide +kernel
theorem dX7_readsMan_21 : decode cX7_readsMan 21 = .ok (.if_icmp .ne 5, 3) := by decide +kernel
theorem dX7_readsMan_24 : decode cX7_readsMan 24 = .ok (.iconst 0, 1) := by decide +kernel
theorem dX7_readsMan_25 : decode cX7_readsMan 25 = .ok (.ireturn, 1) := by decide +kernel
theorem dX7_readsMan_26 : decode cX7_readsMan 26 = .ok (.aload_n 0, 1) := by decide +kernel
theorem dX7_readsMan_27 : decode cX7_readsMan 27 = .ok (.dup, 1) := by decide +kernel
theorem dX7_readsMan_28 : decode cX7_readsMan 28 = .ok (.getfield 132, 3) := by decide +kernel
theorem dX7_readsMan_31 : decode cX7_readsMan 31 = .ok (.iconst 1, 1) := by decide +kernel
theorem dX7_readsMan_32 : decode cX7_readsMan 32 = .ok (.iadd, 1) := by decide +kernel
theorem dX7_readsMan_33 : decode cX7_readsMan 33 = .ok (.putfield 132, 3) := by decide +kernel
theorem dX7_readsMan_36 : decode cX7_readsMan 36 = .ok (.aload_n 0, 1) := by decide +kernel
theorem dX7_readsMan_37 : decode cX7_readsMan 37 = .ok (.iload_n 1, 1) := by decide +kernel
theorem dX7_readsMan_38 : decode cX7_readsMan 38 = .ok (.iconst 0, 1) := by decide +kernel
theorem dX7_readsMan_39 : decode cX7_readsMan 39 = .ok (.bipush 9, 2) := by decide +kernel
theorem dX7_readsMan_41 : decode cX7_readsMan 41 = .ok (.invokevirtual 138, 3) := by decide +kernel
theorem dX7_readsMan_44 : decode cX7_readsMan 44 = .ok (.istore_n 3, 1) := by decide +kernel
theorem dX7_readsMan_45 : decode cX7_readsMan 45 = .ok (.iload_n 3, 1) := by decide +kernel
theorem dX7_readsMan_46 : decode cX7_readsMan 46 = .ok (.bipush (-9), 2) := by decide +kernel
theorem dX7_readsMan_48 : decode cX7_readsMan 48 = .ok (.if_icmp .ne 5, 3) := by decide +kernel
theorem dX7_readsMan_51 : decode cX7_readsMan 51 = .ok (.iconst 0, 1) := by decide +kernel
theorem dX7_readsMan_52 : decode cX7_readsMan 52 = .ok (.ireturn, 1) := by decide +kernel
theorem dX7_readsMan_53 : decode cX7_readsMan 53 = .ok (.aload_n 0, 1) := by decide +kernel
theorem dX7_readsMan_54 : decode cX7_readsMan 54 = .ok (.iload_n 1, 1) := by decide +kernel
theorem dX7_readsMan_55 : decode cX7_readsMan 55 = .ok (.iload_n 3, 1) := by decide +kernel
theorem dX7_readsMan_56 : decode cX7_readsMan 56 = .ok (.ifCond .ne 7, 3) := by decide +kernel
theorem dX7_readsMan_59 : decode cX7_readsMan 59 = .ok (.iconst 1, 1) := by decide +kernel
theorem dX7_readsMan_60 : decode cX7_readsMan 60 = .ok (.goto 4, 3) := by decide +kernel
theorem dX7_readsMan_63 : decode cX7_readsMan 63 = .ok (.iconst 0, 1) := by decide +kernel
theorem dX7_readsMan_64 : decode cX7_readsMan 64 = .ok (.bipush 9, 2) := by decide +kernel
theorem dX7_readsMan_66 : decode cX7_readsMan 66 = .ok (.invokevirtual 138, 3) := by decide +kernel
theorem dX7_readsMan_69 : decode cX7_readsMan 69 = .ok (.istore 4, 2) := by decide +kernel
theorem dX7_readsMan_71 : decode cX7_readsMan 71 = .ok (.iload 4, 2) := by decide +kernel
theorem dX7_readsMan_73 : decode cX7_readsMan 73 = .ok (.bipush (-9), 2) := by decide +kernel
theorem dX7_readsMan_75 : decode cX7_readsMan 75 = .ok (.if_icmp .ne 5, 3) := by decide +kernel
theorem dX7_readsMan_78 : decode cX7_readsMan 78 = .ok (.iconst 0, 1) := by decide +kernel
theorem dX7_readsMan_79 : decode cX7_readsMan 79 = .ok (.ireturn, 1) := by decide +kernel
theorem dX7_readsMan_80 : decode cX7_readsMan 80 = .ok (.aload_n 0, 1) := by decide +kernel
theorem dX7_readsMan_81 : decode cX7_readsMan 81 = .ok (.iload_n 1, 1) := by decide +kernel
theorem dX7_readsMan_82 : decode cX7_readsMan 82 = .ok (.iconst 0, 1) := by decide +kernel
theorem dX7_readsMan_83 : decode cX7_readsMan 83 = .ok (.bipush 9, 2) := by decide +kernel
theorem dX7_readsMan_85 : decode cX7_readsMan 85 = .ok (.invokevirtual 138, 3) := by decide +kernel
theorem dX7_readsMan_88 : decode cX7_readsMan 88 = .ok (.istore 5, 2) := by decide +kernel
theorem dX7_readsMan_90 : decode cX7_readsMan 90 = .ok (.iload 5, 2) := by decide +kernel
theorem dX7_readsMan_92 : decode cX7_readsMan 92 = .ok (.bipush (-9), 2) := by decide +kernel
theorem dX7_readsMan_94 : decode cX7_readsMan 94 = .ok (.if_icmp .ne 5, 3) := by decide +kernel
theorem dX7_readsMan_97 : decode cX7_readsMan 97 = .ok (.iconst 0, 1) := by decide +kernel
theorem dX7_readsMan_98 : decode cX7_readsMan 98 = .ok (.ireturn, 1) := by decide +kernel
theorem dX7_readsMan_99 : decode cX7_readsMan 99 = .ok (.aload_n 0, 1) := by decide +kernel
theorem dX7_readsMan_100 : decode cX7_readsMan 100 = .ok (.iload_n 1, 1) := by decide +kernel
theorem dX7_readsMan_101 : decode cX7_readsMan 101 = .ok (.iconst 0, 1) := by decide +kernel
theorem dX7_readsMan_102 : decode cX7_readsMan 102 = .ok (.iconst 1, 1) := by decide +kernel
theorem dX7_readsMan_103 : decode cX7_readsMan 103 = .ok (.invokevirtual 138, 3) := by decide +kernel
theorem dX7_readsMan_106 : decode cX7_readsMan 106 = .ok (.istore 6, 2) := by decide +kernel
theorem dX7_readsMan_108 : decode cX7_readsMan 108 = .ok (.iload 6, 2) := by decide +kernel
theorem dX7_readsMan_110 : decode cX7_readsMan 110 = .ok (.bipush (-9), 2) := by decide +kernel
theorem dX7_readsMan_112 : decode cX7_readsMan 112 = .ok (.if_icmp .ne 5, 3) := by decide +kernel
theorem dX7_readsMan_115 : decode cX7_readsMan 115 = .ok (.iconst 0, 1) := by decide +kernel
theorem dX7_readsMan_116 : decode cX7_readsMan 116 = .ok (.ireturn, 1) := by decide +kernel
theorem dX7_readsMan_117 : decode cX7_readsMan 117 = .ok (.aload_n 0, 1) := by decide +kernel
theorem dX7_readsMan_118 : decode cX7_readsMan 118 = .ok (.getfield 57, 3) := by decide +kernel
theorem dX7_readsMan_121 : decode cX7_readsMan 121 = .ok (.aload_n 0, 1) := by decide +kernel
theorem dX7_readsMan_122 : decode cX7_readsMan 122 = .ok (.getfield 148, 3) := by decide +kernel
theorem dX7_readsMan_125 : decode cX7_readsMan 125 = .ok (.iload_n 2, 1) := by decide +kernel
theorem dX7_readsMan_126 : decode cX7_readsMan 126 = .ok (.iastore, 1) := by decide +kernel
theorem dX7_readsMan_127 : decode cX7_readsMan 127 = .ok (.aload_n 0, 1) := by decide +kernel
theorem dX7_readsMan_128 : decode cX7_readsMan 128 = .ok (.getfield 60, 3) := by decide +kernel
theorem dX7_readsMan_131 : decode cX7_readsMan 131 = .ok (.aload_n 0, 1) := by decide +kernel
theorem dX7_readsMan_132 : decode cX7_readsMan 132 = .ok (.getfield 148, 3) := by decide +kernel
theorem dX7_readsMan_135 : decode cX7_readsMan 135 = .ok (.bipush 10, 2) := by decide +kernel
theorem dX7_readsMan_137 : decode cX7_readsMan 137 = .ok (.iload_n 3, 1) := by decide +kernel
theorem dX7_readsMan_138 : decode cX7_readsMan 138 = .ok (.imul, 1) := by decide +kernel
theorem dX7_readsMan_139 : decode cX7_readsMan 139 = .ok (.iload 4, 2) := by decide +kernel
theorem dX7_readsMan_141 : decode cX7_readsMan 141 = .ok (.iadd, 1) := by decide +kernel
theorem dX7_readsMan_142 : decode cX7_readsMan 142 = .ok (.iastore, 1) := by decide +kernel
theorem dX7_readsMan_143 : decode cX7_readsMan 143 = .ok (.aload_n 0, 1) := by decide +kernel
theorem dX7_readsMan_144 : decode cX7_readsMan 144 = .ok (.getfield 63, 3) := by decide +kernel
theorem dX7_readsMan_147 : decode cX7_readsMan 147 = .ok (.aload_n 0, 1) := by decide +kernel
theorem dX7_readsMan_148 : decode cX7_readsMan 148 = .ok (.getfield 148, 3) := by decide +kernel
theorem dX7_readsMan_151 : decode cX7_readsMan 151 = .ok (.iload 5, 2) := by decide +kernel
theorem dX7_readsMan_153 : decode cX7_readsMan 153 = .ok (.iastore, 1) := by decide +kernel
theorem dX7_readsMan_154 : decode cX7_readsMan 154 = .ok (.aload_n 0, 1) := by decide +kernel
theorem dX7_readsMan_155 : decode cX7_readsMan 155 = .ok (.getfield 66, 3) := by decide +kernel
theorem dX7_readsMan_158 : decode cX7_readsMan 158 = .ok (.aload_n 0, 1) := by decide +kernel
theorem dX7_readsMan_159 : decode cX7_readsMan 159 = .ok (.getfield 148, 3) := by decide +kernel
theorem dX7_readsMan_162 : decode cX7_readsMan 162 = .ok (.iload 6, 2) := by decide +kernel
theorem dX7_readsMan_164 : decode cX7_readsMan 164 = .ok (.iastore, 1) := by decide +kernel
theorem dX7_readsMan_165 : decode cX7_readsMan 165 = .ok (.aload_n 0, 1) := by decide +kernel
theorem dX7_readsMan_166 : decode cX7_readsMan 166 = .ok (.dup, 1) := by decide +kernel
theorem dX7_readsMan_167 : decode cX7_readsMan 167 = .ok (.getfield 148, 3) := by decide +kernel
theorem dX7_readsMan_170 : decode cX7_readsMan 170 = .ok (.iconst 1, 1) := by decide +kernel
theorem dX7_readsMan_171 : decode cX7_readsMan 171 = .ok (.iadd, 1) := by decide +kernel
theorem dX7_readsMan_172 : decode cX7_readsMan 172 = .ok (.putfield 148, 3) := by decide +kernel
theorem dX7_readsMan_175 : decode cX7_readsMan 175 = .ok (.iconst 1, 1) := by decide +kernel
theorem dX7_readsMan_176 : decode cX7_readsMan 176 = .ok (.ireturn, 1) := by decide +kernel
def F_X7_readsMan_64 (fu : Nat) (M : Mm) (x1 : Int32) (x2 : Int32) (x3 : Int32) (t1 : Int32) (t2 : Int32) : Option (Int32 × Mm) :=
  ob2 (F_X7_figure fu M t1 t2 (9 : Int32)) (fun r2 M3 =>
  if r2 = (-9 : Int32) then
    some ((0 : Int32), M3)
  else
    ob2 (F_X7_figure fu M3 x1 (0 : Int32) (9 : Int32)) (fun r6 M7 =>
    if r6 = (-9 : Int32) then
      some ((0 : Int32), M7)
    else
      ob2 (F_X7_figure fu M7 x1 (0 : Int32) (1 : Int32)) (fun r10 M11 =>
      if r10 = (-9 : Int32) then
        some ((0 : Int32), M11)
      else
        if (M11.1 86 22) < 0 ∨ ln 101 ≤ (M11.1 86 22).toNatClampNeg then none else (
        lt1 (pI M11 101 (M11.1 86 22).toNatClampNeg x2) (fun M14 =>
        if (M14.1 86 22) < 0 ∨ ln 102 ≤ (M14.1 86 22).toNatClampNeg then none else (
        lt1 (pI M14 102 (M14.1 86 22).toNatClampNeg (((10 : Int32) * x3) + r2)) (fun M16 =>
        if (M16.1 86 22) < 0 ∨ ln 103 ≤ (M16.1 86 22).toNatClampNeg then none else (
        lt1 (pI M16 103 (M16.1 86 22).toNatClampNeg r6) (fun M18 =>
        if (M18.1 86 22) < 0 ∨ ln 104 ≤ (M18.1 86 22).toNatClampNeg then none else (
        lt1 (pI M18 104 (M18.1 86 22).toNatClampNeg r10) (fun M20 =>
        lt1 (pI M20 86 22 ((M20.1 86 22) + (1 : Int32))) (fun M21 =>
        some ((1 : Int32), M21)))))))))))))
set_option maxRecDepth 100000 in
set_option maxHeartbeats 4000000 in
theorem w_X7_readsMan_64 {p : Program} {l : Launch} {e : Env} {s : State} {m : MethodId} {args : Array Value} {below : List Frame} {meth : Method} {c : Code} {G : Gv} (hC : Cx p s m args meth c cX7_readsMan 7 (some .boolean) RX7) {fu : Nat} {r : Int32} {M' : Mm} {x1 : Int32} {x2 : Int32} {x3 : Int32} {t1 : Int32} {t2 : Int32} {M : Mm} {H : Heap} {locs : List Loc} {ls : Array Slot} (hF : F_X7_readsMan_64 fu M x1 x2 x3 t1 t2 = some (r, M')) (hw : St G s H locs M) (hl : lv_has ls 7 [(0, .ref (ad G 86)), (1, .int x1), (2, .int x2), (3, .int x3)]) : W p l e rm_X7_readsMan s m args below meth c H locs 0 0 (MQ below (QI G r M') args s 0 0 (zA G)) (F0 m 64 ls [.int t2, .int t1, .ref (ad G 86)]) := by
  unfold F_X7_readsMan_64 at hF
  refine lv_bipush (v := (9 : Int32)) hC.1 hC.2.1 dX7_readsMan_64 (by decide) ?_
  obtain ⟨r2, M3, h1, hF⟩ := ob2S hF
  refine k_Vi (As := [.int t1, .int t2, .int (9 : Int32)]) (rest := []) hC hw (c_X7_figure (M := M) h1) RC_X yv_X7_figure q5_70 ⟨rfl, rfl⟩ ⟨Nat.le_of_ble_eq_true rfl, Nat.le_of_ble_eq_true rfl⟩ ⟨Nat.zero_le _, Nat.zero_le _⟩ rfl rfl (Nat.le_of_ble_eq_true rfl) hl dX7_readsMan_66 (fun H locs hw => ?_)
  refine lv_istore (lv' := [(4, .int r2), (0, .ref (ad G 86)), (1, .int x1), (2, .int x2), (3, .int x3)]) hC.1 hC.2.1 dX7_readsMan_69 hl (by decide) rfl (fun ls hl => ?_)
  refine lv_iload hC.1 hC.2.1 dX7_readsMan_71 (lv_at hl 0 rfl) ?_
  refine lv_bipush (v := (-9 : Int32)) hC.1 hC.2.1 dX7_readsMan_73 (by decide) ?_
  refine lv_icmp_ne (tgt := 80) hC.1 hC.2.1 dX7_readsMan_75 (by decide) (fun b4 => ?_) (fun b4 => ?_)
  · have hF := ifN hF b4
    refine lv_aload_n hC.1 hC.2.1 dX7_readsMan_80 rfl (lv_at hl 1 rfl) ?_
    refine lv_iload_n hC.1 hC.2.1 dX7_readsMan_81 rfl (lv_at hl 2 rfl) ?_
    refine lv_iconst (v := (0 : Int32)) hC.1 hC.2.1 dX7_readsMan_82 (by decide) ?_
    refine lv_bipush (v := (9 : Int32)) hC.1 hC.2.1 dX7_readsMan_83 (by decide) ?_
    obtain ⟨r6, M7, h5, hF⟩ := ob2S hF
    refine k_Vi (As := [.int x1, .int (0 : Int32), .int (9 : Int32)]) (rest := []) hC hw (c_X7_figure (M := M3) h5) RC_X yv_X7_figure q5_70 ⟨rfl, rfl⟩ ⟨Nat.le_of_ble_eq_true rfl, Nat.le_of_ble_eq_true rfl⟩ ⟨Nat.zero_le _, Nat.zero_le _⟩ rfl rfl (Nat.le_of_ble_eq_true rfl) hl dX7_readsMan_85 (fun H locs hw => ?_)
    refine lv_istore (lv' := [(5, .int r6), (4, .int r2), (0, .ref (ad G 86)), (1, .int x1), (2, .int x2), (3, .int x3)]) hC.1 hC.2.1 dX7_readsMan_88 hl (by decide) rfl (fun ls hl => ?_)
    refine lv_iload hC.1 hC.2.1 dX7_readsMan_90 (lv_at hl 0 rfl) ?_
    refine lv_bipush (v := (-9 : Int32)) hC.1 hC.2.1 dX7_readsMan_92 (by decide) ?_
    refine lv_icmp_ne (tgt := 99) hC.1 hC.2.1 dX7_readsMan_94 (by decide) (fun b8 => ?_) (fun b8 => ?_)
    · have hF := ifN hF b8
      refine lv_aload_n hC.1 hC.2.1 dX7_readsMan_99 rfl (lv_at hl 2 rfl) ?_
      refine lv_iload_n hC.1 hC.2.1 dX7_readsMan_100 rfl (lv_at hl 3 rfl) ?_
      refine lv_iconst (v := (0 : Int32)) hC.1 hC.2.1 dX7_readsMan_101 (by decide) ?_
      refine lv_iconst (v := (1 : Int32)) hC.1 hC.2.1 dX7_readsMan_102 (by decide) ?_
      obtain ⟨r10, M11, h9, hF⟩ := ob2S hF
      refine k_Vi (As := [.int x1, .int (0 : Int32), .int (1 : Int32)]) (rest := []) hC hw (c_X7_figure (M := M7) h9) RC_X yv_X7_figure q5_70 ⟨rfl, rfl⟩ ⟨Nat.le_of_ble_eq_true rfl, Nat.le_of_ble_eq_true rfl⟩ ⟨Nat.zero_le _, Nat.zero_le _⟩ rfl rfl (Nat.le_of_ble_eq_true rfl) hl dX7_readsMan_103 (fun H locs hw => ?_)
      refine lv_istore (lv' := [(6, .int r10), (5, .int r6), (4, .int r2), (0, .ref (ad G 86)), (1, .int x1), (2, .int x2), (3, .int x3)]) hC.1 hC.2.1 dX7_readsMan_106 hl (by decide) rfl (fun ls hl => ?_)
      refine lv_iload hC.1 hC.2.1 dX7_readsMan_108 (lv_at hl 0 rfl) ?_
      refine lv_bipush (v := (-9 : Int32)) hC.1 hC.2.1 dX7_readsMan_110 (by decide) ?_
      refine lv_icmp_ne (tgt := 117) hC.1 hC.2.1 dX7_readsMan_112 (by decide) (fun b12 => ?_) (fun b12 => ?_)
      · have hF := ifN hF b12
        refine lv_aload_n hC.1 hC.2.1 dX7_readsMan_117 rfl (lv_at hl 3 rfl) ?_
        refine g7_readKinds hC hw q4_145 dX7_readsMan_118 ?_
        refine lv_aload_n hC.1 hC.2.1 dX7_readsMan_121 rfl (lv_at hl 3 rfl) ?_
        refine g7_readMen hC hw q4_144 dX7_readsMan_122 ?_
        refine lv_iload_n hC.1 hC.2.1 dX7_readsMan_125 rfl (lv_at hl 5 rfl) ?_
        obtain ⟨n13, hF⟩ := ifO hF
        refine r_iast hC.1 hC.2.1 hw (rfl : kd 101 = 1) n13 dX7_readsMan_126 (fun H locs hw => ?_)
        obtain ⟨M14, hw, hF⟩ := lt1W hF hw
        refine lv_aload_n hC.1 hC.2.1 dX7_readsMan_127 rfl (lv_at hl 3 rfl) ?_
        refine g7_readBulks hC hw q4_146 dX7_readsMan_128 ?_
        refine lv_aload_n hC.1 hC.2.1 dX7_readsMan_131 rfl (lv_at hl 3 rfl) ?_
        refine g7_readMen hC hw q4_144 dX7_readsMan_132 ?_
        refine lv_bipush (v := (10 : Int32)) hC.1 hC.2.1 dX7_readsMan_135 (by decide) ?_
        refine lv_iload_n hC.1 hC.2.1 dX7_readsMan_137 rfl (lv_at hl 6 rfl) ?_
        refine lv_imul hC.1 hC.2.1 dX7_readsMan_138 ?_
        refine lv_iload hC.1 hC.2.1 dX7_readsMan_139 (lv_at hl 2 rfl) ?_
        refine lv_iadd hC.1 hC.2.1 dX7_readsMan_141 ?_
        obtain ⟨n15, hF⟩ := ifO hF
        refine r_iast hC.1 hC.2.1 hw (rfl : kd 102 = 1) n15 dX7_readsMan_142 (fun H locs hw => ?_)
        obtain ⟨M16, hw, hF⟩ := lt1W hF hw
        refine lv_aload_n hC.1 hC.2.1 dX7_readsMan_143 rfl (lv_at hl 3 rfl) ?_
        refine g7_readShades hC hw q4_147 dX7_readsMan_144 ?_
        refine lv_aload_n hC.1 hC.2.1 dX7_readsMan_147 rfl (lv_at hl 3 rfl) ?_
        refine g7_readMen hC hw q4_144 dX7_readsMan_148 ?_
        refine lv_iload hC.1 hC.2.1 dX7_readsMan_151 (lv_at hl 1 rfl) ?_
        obtain ⟨n17, hF⟩ := ifO hF
        refine r_iast hC.1 hC.2.1 hw (rfl : kd 103 = 1) n17 dX7_readsMan_153 (fun H locs hw => ?_)
        obtain ⟨M18, hw, hF⟩ := lt1W hF hw
        refine lv_aload_n hC.1 hC.2.1 dX7_readsMan_154 rfl (lv_at hl 3 rfl) ?_
        refine g7_readOwn hC hw q4_148 dX7_readsMan_155 ?_
        refine lv_aload_n hC.1 hC.2.1 dX7_readsMan_158 rfl (lv_at hl 3 rfl) ?_
        refine g7_readMen hC hw q4_144 dX7_readsMan_159 ?_
        refine lv_iload hC.1 hC.2.1 dX7_readsMan_162 (lv_at hl 0 rfl) ?_
        obtain ⟨n19, hF⟩ := ifO hF
        refine r_iast hC.1 hC.2.1 hw (rfl : kd 104 = 1) n19 dX7_readsMan_164 (fun H locs hw => ?_)
        obtain ⟨M20, hw, hF⟩ := lt1W hF hw
        refine lv_aload_n hC.1 hC.2.1 dX7_readsMan_165 rfl (lv_at hl 3 rfl) ?_
        refine lv_dup hC.1 hC.2.1 dX7_readsMan_166 rfl ?_
        refine g7_readMen hC hw q4_144 dX7_readsMan_167 ?_
        refine lv_iconst (v := (1 : Int32)) hC.1 hC.2.1 dX7_readsMan_170 (by decide) ?_
        refine lv_iadd hC.1 hC.2.1 dX7_readsMan_171 ?_
        refine u7_readMen hC hw q4_144 dX7_readsMan_172 (fun H locs hw => ?_)
        obtain ⟨M21, hw, hF⟩ := lt1W hF hw
        refine lv_iconst (v := (1 : Int32)) hC.1 hC.2.1 dX7_readsMan_175 (by decide) ?_
        exact r_zretE hC hw (by decide) hF dX7_readsMan_176
      · have hF := ifP hF b12
        refine lv_iconst (v := (0 : Int32)) hC.1 hC.2.1 dX7_readsMan_115 (by decide) ?_
        exact r_zretE hC hw (by decide) hF dX7_readsMan_116
    · have hF := ifP hF b8
      refine lv_iconst (v := (0 : Int32)) hC.1 hC.2.1 dX7_readsMan_97 (by decide) ?_
      exact r_zretE hC hw (by decide) hF dX7_readsMan_98
  · have hF := ifP hF b4
    refine lv_iconst (v := (0 : Int32)) hC.1 hC.2.1 dX7_readsMan_78 (by decide) ?_
    exact r_zretE hC hw (by decide) hF dX7_readsMan_79
def F_X7_readsMan (fu : Nat) (M : Mm) (x1 : Int32) : Option (Int32 × Mm) :=
  ob1 (F_X7_charAt fu M x1) (fun r2 =>
  ob1 (F_X7_kindOf fu M r2) (fun r4 =>
  if (M.1 86 22) = (6 : Int32) then
    some ((0 : Int32), M)
  else
    if r4 = (-9 : Int32) then
      some ((0 : Int32), M)
    else
      lt1 (pI M 86 29 ((M.1 86 29) + (1 : Int32))) (fun M7 =>
      ob2 (F_X7_figure fu M7 x1 (0 : Int32) (9 : Int32)) (fun r9 M10 =>
      if r9 = (-9 : Int32) then
        some ((0 : Int32), M10)
      else
        if r9 = 0 then
          F_X7_readsMan_64 fu M10 x1 r4 r9 x1 (1 : Int32)
        else
          F_X7_readsMan_64 fu M10 x1 r4 r9 x1 (0 : Int32)))))
set_option maxRecDepth 100000 in
set_option maxHeartbeats 4000000 in
theorem c_X7_readsMan {l : Launch} {G : Gv} {fu : Nat} {M : Mm} {x1 : Int32} {r : Int32} {M' : Mm} (hF : F_X7_readsMan fu M x1 = some (r, M')) : Met l yX7_readsMan (.code yX7_readsMan cX7_readsMan 7 (some .boolean) :: zU) rm_X7_readsMan (va_Pc [.ref (ad G 86), .int x1] (Wd G M)) (QI G r M') 0 0 (zA G) := by
  refine zMet (by decide) rfl (Nat.le_of_ble_eq_true rfl) ?_
  intro p e s m below meth c hC hw ls hl
  have hl : lv_has ls 7 [(0, .ref (ad G 86)), (1, .int x1)] := hl
  unfold F_X7_readsMan at hF
  refine lv_aload_n hC.1 hC.2.1 dX7_readsMan_0 rfl (lv_at hl 0 rfl) ?_
  refine lv_iload_n hC.1 hC.2.1 dX7_readsMan_1 rfl (lv_at hl 1 rfl) ?_
  obtain ⟨r2, h1, hF⟩ := ob1S hF
  refine k_Vi (As := [.int x1]) (rest := []) hC hw (c_X7_charAt (M := M) h1) RC_X yv_X7_charAt q5_62 ⟨rfl, rfl⟩ ⟨Nat.le_of_ble_eq_true rfl, Nat.le_of_ble_eq_true rfl⟩ ⟨Nat.zero_le _, Nat.zero_le _⟩ rfl rfl (Nat.le_of_ble_eq_true rfl) hl dX7_readsMan_2 (fun H locs hw => ?_)
  obtain ⟨r4, h3, hF⟩ := ob1S hF
  refine k_Si (As := [.int r2]) (rest := []) hC hw (c_X7_kindOf (M := M) h3) ys_X7_kindOf q5_78 ⟨rfl, rfl⟩ ⟨Nat.le_of_ble_eq_true rfl, Nat.le_of_ble_eq_true rfl⟩ ⟨Nat.zero_le _, Nat.zero_le _⟩ rfl rfl (Nat.le_of_ble_eq_true rfl) hl dX7_readsMan_5 (fun H locs hw => ?_)
  refine lv_istore_n (lv' := [(2, .int r4), (0, .ref (ad G 86)), (1, .int x1)]) hC.1 hC.2.1 dX7_readsMan_8 rfl hl (by decide) rfl (fun ls hl => ?_)
  refine lv_aload_n hC.1 hC.2.1 dX7_readsMan_9 rfl (lv_at hl 1 rfl) ?_
  refine g7_readMen hC hw q4_144 dX7_readsMan_10 ?_
  refine lv_bipush (v := (6 : Int32)) hC.1 hC.2.1 dX7_readsMan_13 (by decide) ?_
  refine lv_icmp_eq (tgt := 24) hC.1 hC.2.1 dX7_readsMan_15 (by decide) (fun b5 => ?_) (fun b5 => ?_)
  · have hF := ifP hF b5
    refine lv_iconst (v := (0 : Int32)) hC.1 hC.2.1 dX7_readsMan_24 (by decide) ?_
    exact r_zretE hC hw (by decide) hF dX7_readsMan_25
  · have hF := ifN hF b5
    refine lv_iload_n hC.1 hC.2.1 dX7_readsMan_18 rfl (lv_at hl 0 rfl) ?_
    refine lv_bipush (v := (-9 : Int32)) hC.1 hC.2.1 dX7_readsMan_19 (by decide) ?_
    refine lv_icmp_ne (tgt := 26) hC.1 hC.2.1 dX7_readsMan_21 (by decide) (fun b6 => ?_) (fun b6 => ?_)
    · have hF := ifN hF b6
      refine lv_aload_n hC.1 hC.2.1 dX7_readsMan_26 rfl (lv_at hl 1 rfl) ?_
      refine lv_dup hC.1 hC.2.1 dX7_readsMan_27 rfl ?_
      refine g7_place hC hw q4_151 dX7_readsMan_28 ?_
      refine lv_iconst (v := (1 : Int32)) hC.1 hC.2.1 dX7_readsMan_31 (by decide) ?_
      refine lv_iadd hC.1 hC.2.1 dX7_readsMan_32 ?_
      refine u7_place hC hw q4_151 dX7_readsMan_33 (fun H locs hw => ?_)
      obtain ⟨M7, hw, hF⟩ := lt1W hF hw
      refine lv_aload_n hC.1 hC.2.1 dX7_readsMan_36 rfl (lv_at hl 1 rfl) ?_
      refine lv_iload_n hC.1 hC.2.1 dX7_readsMan_37 rfl (lv_at hl 2 rfl) ?_
      refine lv_iconst (v := (0 : Int32)) hC.1 hC.2.1 dX7_readsMan_38 (by decide) ?_
      refine lv_bipush (v := (9 : Int32)) hC.1 hC.2.1 dX7_readsMan_39 (by decide) ?_
      obtain ⟨r9, M10, h8, hF⟩ := ob2S hF
      refine k_Vi (As := [.int x1, .int (0 : Int32), .int (9 : Int32)]) (rest := []) hC hw (c_X7_figure (M := M7) h8) RC_X yv_X7_figure q5_70 ⟨rfl, rfl⟩ ⟨Nat.le_of_ble_eq_true rfl, Nat.le_of_ble_eq_true rfl⟩ ⟨Nat.zero_le _, Nat.zero_le _⟩ rfl rfl (Nat.le_of_ble_eq_true rfl) hl dX7_readsMan_41 (fun H locs hw => ?_)
      refine lv_istore_n (lv' := [(3, .int r9), (2, .int r4), (0, .ref (ad G 86)), (1, .int x1)]) hC.1 hC.2.1 dX7_readsMan_44 rfl hl (by decide) rfl (fun ls hl => ?_)
      refine lv_iload_n hC.1 hC.2.1 dX7_readsMan_45 rfl (lv_at hl 0 rfl) ?_
      refine lv_bipush (v := (-9 : Int32)) hC.1 hC.2.1 dX7_readsMan_46 (by decide) ?_
      refine lv_icmp_ne (tgt := 53) hC.1 hC.2.1 dX7_readsMan_48 (by decide) (fun b11 => ?_) (fun b11 => ?_)
      · have hF := ifN hF b11
        refine lv_aload_n hC.1 hC.2.1 dX7_readsMan_53 rfl (lv_at hl 2 rfl) ?_
        refine lv_iload_n hC.1 hC.2.1 dX7_readsMan_54 rfl (lv_at hl 3 rfl) ?_
        refine lv_iload_n hC.1 hC.2.1 dX7_readsMan_55 rfl (lv_at hl 0 rfl) ?_
        refine lv_if_ne (tgt := 63) hC.1 hC.2.1 dX7_readsMan_56 (by decide) (fun b12 => ?_) (fun b12 => ?_)
        · have hF := ifN hF b12
          refine lv_iconst (v := (0 : Int32)) hC.1 hC.2.1 dX7_readsMan_63 (by decide) ?_
          exact w_X7_readsMan_64 hC hF hw (lv_sub hl [2, 3, 1, 0] rfl)
        · have hF := ifP hF b12
          refine lv_iconst (v := (1 : Int32)) hC.1 hC.2.1 dX7_readsMan_59 (by decide) ?_
          refine lv_goto (tgt := 64) hC.1 hC.2.1 dX7_readsMan_60 (by decide) ?_
          exact w_X7_readsMan_64 hC hF hw (lv_sub hl [2, 3, 1, 0] rfl)
      · have hF := ifP hF b11
        refine lv_iconst (v := (0 : Int32)) hC.1 hC.2.1 dX7_readsMan_51 (by decide) ?_
        exact r_zretE hC hw (by decide) hF dX7_readsMan_52
    · have hF := ifP hF b6
      refine lv_iconst (v := (0 : Int32)) hC.1 hC.2.1 dX7_readsMan_24 (by decide) ?_
      exact r_zretE hC hw (by decide) hF dX7_readsMan_25
abbrev rm_X7_reads : Room := { frames := 3, cells := 0, slots := 0, locals := 75 }
theorem yv_X7_reads : YV yX7_reads cX7_reads 2 (some .int) 1 RX7 := ⟨⟨q5_56, qs_35, q1_8, q5_57⟩, by decide +kernel⟩
theorem dX7_reads_0 : decode cX7_reads 0 = .ok (.aload_n 0, 1) := by decide +kernel
theorem dX7_reads_1 : decode cX7_reads 1 = .ok (.iconst 0, 1) := by decide +kernel
theorem dX7_reads_2 : decode cX7_reads 2 = .ok (.putfield 132, 3) := by decide +kernel
theorem dX7_reads_5 : decode cX7_reads 5 = .ok (.aload_n 0, 1) := by decide +kernel
theorem dX7_reads_6 : decode cX7_reads 6 = .ok (.iconst 0, 1) := by decide +kernel
theorem dX7_reads_7 : decode cX7_reads 7 = .ok (.putfield 148, 3) := by decide +kernel
theorem dX7_reads_10 : decode cX7_reads 10 = .ok (.aload_n 0, 1) := by decide +kernel
theorem dX7_reads_11 : decode cX7_reads 11 = .ok (.iload_n 1, 1) := by decide +kernel
theorem dX7_reads_12 : decode cX7_reads 12 = .ok (.invokevirtual 151, 3) := by decide +kernel
theorem dX7_reads_15 : decode cX7_reads 15 = .ok (.aload_n 0, 1) := by decide +kernel
theorem dX7_reads_16 : decode cX7_reads 16 = .ok (.iload_n 1, 1) := by decide +kernel
theorem dX7_reads_17 : decode cX7_reads 17 = .ok (.invokevirtual 155, 3) := by decide +kernel
theorem dX7_reads_20 : decode cX7_reads 20 = .ok (.ifCond .ne 8, 3) := by decide +kernel
theorem dX7_reads_23 : decode cX7_reads 23 = .ok (.aload_n 0, 1) := by decide +kernel
theorem dX7_reads_24 : decode cX7_reads 24 = .ok (.getfield 132, 3) := by decide +kernel
theorem dX7_reads_27 : decode cX7_reads 27 = .ok (.ireturn, 1) := by decide +kernel
theorem dX7_reads_28 : decode cX7_reads 28 = .ok (.aload_n 0, 1) := by decide +kernel
theorem dX7_reads_29 : decode cX7_reads 29 = .ok (.iload_n 1, 1) := by decide +kernel
theorem dX7_reads_30 : decode cX7_reads 30 = .ok (.invokevirtual 151, 3) := by decide +kernel
theorem dX7_reads_33 : decode cX7_reads 33 = .ok (.aload_n 0, 1) := by decide +kernel
theorem dX7_reads_34 : decode cX7_reads 34 = .ok (.getfield 132, 3) := by decide +kernel
theorem dX7_reads_37 : decode cX7_reads 37 = .ok (.aload_n 0, 1) := by decide +kernel
theorem dX7_reads_38 : decode cX7_reads 38 = .ok (.getfield 19, 3) := by decide +kernel
theorem dX7_reads_41 : decode cX7_reads 41 = .ok (.iload_n 1, 1) := by decide +kernel
theorem dX7_reads_42 : decode cX7_reads 42 = .ok (.iaload, 1) := by decide +kernel
theorem dX7_reads_43 : decode cX7_reads 43 = .ok (.if_icmp .lt 10, 3) := by decide +kernel
theorem dX7_reads_46 : decode cX7_reads 46 = .ok (.aload_n 0, 1) := by decide +kernel
theorem dX7_reads_47 : decode cX7_reads 47 = .ok (.getfield 148, 3) := by decide +kernel
theorem dX7_reads_50 : decode cX7_reads 50 = .ok (.ifCond .ne 24, 3) := by decide +kernel
theorem dX7_reads_53 : decode cX7_reads 53 = .ok (.aload_n 0, 1) := by decide +kernel
theorem dX7_reads_54 : decode cX7_reads 54 = .ok (.iload_n 1, 1) := by decide +kernel
theorem dX7_reads_55 : decode cX7_reads 55 = .ok (.invokevirtual 158, 3) := by decide +kernel
theorem dX7_reads_58 : decode cX7_reads 58 = .ok (.ifCond .ne 8, 3) := by decide +kernel
theorem dX7_reads_61 : decode cX7_reads 61 = .ok (.aload_n 0, 1) := by decide +kernel
theorem dX7_reads_62 : decode cX7_reads 62 = .ok (.getfield 132, 3) := by decide +kernel
theorem dX7_reads_65 : decode cX7_reads 65 = .ok (.ireturn, 1) := by decide +kernel
theorem dX7_reads_66 : decode cX7_reads 66 = .ok (.aload_n 0, 1) := by decide +kernel
theorem dX7_reads_67 : decode cX7_reads 67 = .ok (.iload_n 1, 1) := by decide +kernel
theorem dX7_reads_68 : decode cX7_reads 68 = .ok (.invokevirtual 151, 3) := by decide +kernel
theorem dX7_reads_71 : decode cX7_reads 71 = .ok (.goto (-38), 3) := by decide +kernel
theorem dX7_reads_74 : decode cX7_reads 74 = .ok (.bipush (-9), 2) := by decide +kernel
theorem dX7_reads_76 : decode cX7_reads 76 = .ok (.ireturn, 1) := by decide +kernel
def F_X7_reads_53 (fu : Nat) (k33 : Mm → Int32 → Option (Int32 × Mm)) (M : Mm) (x1 : Int32) : Option (Int32 × Mm) :=
  ob2 (F_X7_readsMan fu M x1) (fun r2 M3 =>
  if r2 = 0 then
    some ((M3.1 86 29), M3)
  else
    ob1 (F_X7_skip fu M3 x1) (fun M6 =>
    k33 M6 x1))
set_option maxRecDepth 100000 in
set_option maxHeartbeats 4000000 in
theorem w_X7_reads_53 {p : Program} {l : Launch} {e : Env} {s : State} {m : MethodId} {args : Array Value} {below : List Frame} {meth : Method} {c : Code} {G : Gv} (hC : Cx p s m args meth c cX7_reads 2 (some .int) RX7) {fu : Nat} {r : Int32} {M' : Mm} {k33 : Mm → Int32 → Option (Int32 × Mm)} (hk_33 : ∀ {x1 : Int32} {M : Mm} {H : Heap} {locs : List Loc} {ls : Array Slot}, k33 M x1 = some (r, M') → St G s H locs M → lv_has ls 2 [(0, .ref (ad G 86)), (1, .int x1)] → W p l e rm_X7_reads s m args below meth c H locs 0 0 (MQ below (QI G r M') args s 0 0 (zA G)) (F0 m 33 ls [])) {x1 : Int32} {M : Mm} {H : Heap} {locs : List Loc} {ls : Array Slot} (hF : F_X7_reads_53 fu k33 M x1 = some (r, M')) (hw : St G s H locs M) (hl : lv_has ls 2 [(0, .ref (ad G 86)), (1, .int x1)]) : W p l e rm_X7_reads s m args below meth c H locs 0 0 (MQ below (QI G r M') args s 0 0 (zA G)) (F0 m 53 ls []) := by
  unfold F_X7_reads_53 at hF
  refine lv_aload_n hC.1 hC.2.1 dX7_reads_53 rfl (lv_at hl 0 rfl) ?_
  refine lv_iload_n hC.1 hC.2.1 dX7_reads_54 rfl (lv_at hl 1 rfl) ?_
  obtain ⟨r2, M3, h1, hF⟩ := ob2S hF
  refine k_Vi (As := [.int x1]) (rest := []) hC hw (c_X7_readsMan (M := M) h1) RC_X yv_X7_readsMan q5_74 ⟨rfl, rfl⟩ ⟨Nat.le_of_ble_eq_true rfl, Nat.le_of_ble_eq_true rfl⟩ ⟨Nat.zero_le _, Nat.zero_le _⟩ rfl rfl (Nat.le_of_ble_eq_true rfl) hl dX7_reads_55 (fun H locs hw => ?_)
  refine lv_if_ne (tgt := 66) hC.1 hC.2.1 dX7_reads_58 (by decide) (fun b4 => ?_) (fun b4 => ?_)
  · have hF := ifN hF b4
    refine lv_aload_n hC.1 hC.2.1 dX7_reads_66 rfl (lv_at hl 0 rfl) ?_
    refine lv_iload_n hC.1 hC.2.1 dX7_reads_67 rfl (lv_at hl 1 rfl) ?_
    obtain ⟨M6, h5, hF⟩ := ob1S hF
    refine k_Vv (As := [.int x1]) (rest := []) hC hw (c_X7_skip (M := M3) h5) RC_X yv_X7_skip q5_58 ⟨rfl, rfl⟩ ⟨Nat.le_of_ble_eq_true rfl, Nat.le_of_ble_eq_true rfl⟩ ⟨Nat.zero_le _, Nat.zero_le _⟩ rfl rfl (Nat.le_of_ble_eq_true rfl) hl dX7_reads_68 (fun H locs hw => ?_)
    refine lv_goto (tgt := 33) hC.1 hC.2.1 dX7_reads_71 (by decide) ?_
    exact hk_33 hF hw (lv_sub hl [0, 1] rfl)
  · have hF := ifP hF b4
    refine lv_aload_n hC.1 hC.2.1 dX7_reads_61 rfl (lv_at hl 0 rfl) ?_
    refine g7_place hC hw q4_151 dX7_reads_62 ?_
    exact r_iretE hC hw hF dX7_reads_65
def F_X7_reads_33 (fu : Nat) : Nat → Mm → Int32 → Option (Int32 × Mm)
  | 0, _, _ => none
  | n + 1, M, x1 =>
    if x1 < 0 ∨ ln 90 ≤ x1.toNatClampNeg then none else (
    if (M.1 86 29) < (M.1 90 x1.toNatClampNeg) then
      F_X7_reads_53 fu (F_X7_reads_33 fu n) M x1
    else
      if (M.1 86 22) = 0 then
        F_X7_reads_53 fu (F_X7_reads_33 fu n) M x1
      else
        some ((-9 : Int32), M))
set_option maxRecDepth 100000 in
set_option maxHeartbeats 4000000 in
theorem w_X7_reads_33 {p : Program} {l : Launch} {e : Env} {s : State} {m : MethodId} {args : Array Value} {below : List Frame} {meth : Method} {c : Code} {G : Gv} (hC : Cx p s m args meth c cX7_reads 2 (some .int) RX7) {fu : Nat} {r : Int32} {M' : Mm} : ∀ (n : Nat) {x1 : Int32} {M : Mm} {H : Heap} {locs : List Loc} {ls : Array Slot}, F_X7_reads_33 fu n M x1 = some (r, M') → St G s H locs M → lv_has ls 2 [(0, .ref (ad G 86)), (1, .int x1)] → W p l e rm_X7_reads s m args below meth c H locs 0 0 (MQ below (QI G r M') args s 0 0 (zA G)) (F0 m 33 ls []) := by
  intro n
  induction n with
  | zero =>
    intro x1 M H locs ls hF hw hl
    cases hF
  | succ n ih =>
    intro x1 M H locs ls hF hw hl
    unfold F_X7_reads_33 at hF
    refine lv_aload_n hC.1 hC.2.1 dX7_reads_33 rfl (lv_at hl 0 rfl) ?_
    refine g7_place hC hw q4_151 dX7_reads_34 ?_
    refine lv_aload_n hC.1 hC.2.1 dX7_reads_37 rfl (lv_at hl 0 rfl) ?_
    refine g7_textLong hC hw q4_125 dX7_reads_38 ?_
    refine lv_iload_n hC.1 hC.2.1 dX7_reads_41 rfl (lv_at hl 1 rfl) ?_
    obtain ⟨n1, hF⟩ := ifO hF
    refine r_iald hC.1 hC.2.1 hw (rfl : kd 90 = 1) n1 dX7_reads_42 ?_
    refine lv_icmp_lt (tgt := 53) hC.1 hC.2.1 dX7_reads_43 (by decide) (fun b2 => ?_) (fun b2 => ?_)
    · have hF := ifP hF b2
      exact w_X7_reads_53 hC (hk_33 := ih) hF hw (lv_sub hl [0, 1] rfl)
    · have hF := ifN hF b2
      refine lv_aload_n hC.1 hC.2.1 dX7_reads_46 rfl (lv_at hl 0 rfl) ?_
      refine g7_readMen hC hw q4_144 dX7_reads_47 ?_
      refine lv_if_ne (tgt := 74) hC.1 hC.2.1 dX7_reads_50 (by decide) (fun b3 => ?_) (fun b3 => ?_)
      · have hF := ifN hF b3
        refine lv_bipush (v := (-9 : Int32)) hC.1 hC.2.1 dX7_reads_74 (by decide) ?_
        exact r_iretE hC hw hF dX7_reads_76
      · have hF := ifP hF b3
        exact w_X7_reads_53 hC (hk_33 := ih) hF hw (lv_sub hl [0, 1] rfl)
def F_X7_reads (fu : Nat) (M : Mm) (x1 : Int32) : Option (Int32 × Mm) :=
  lt1 (pI M 86 29 (0 : Int32)) (fun M1 =>
  lt1 (pI M1 86 22 (0 : Int32)) (fun M2 =>
  ob1 (F_X7_skip fu M2 x1) (fun M4 =>
  ob2 (F_X7_readsSun fu M4 x1) (fun r6 M7 =>
  if r6 = 0 then
    some ((M7.1 86 29), M7)
  else
    ob1 (F_X7_skip fu M7 x1) (fun M10 =>
    F_X7_reads_33 fu fu M10 x1)))))
set_option maxRecDepth 100000 in
set_option maxHeartbeats 4000000 in
theorem c_X7_reads {l : Launch} {G : Gv} {fu : Nat} {M : Mm} {x1 : Int32} {r : Int32} {M' : Mm} (hF : F_X7_reads fu M x1 = some (r, M')) : Met l yX7_reads (.code yX7_reads cX7_reads 2 (some .int) :: zU) rm_X7_reads (va_Pc [.ref (ad G 86), .int x1] (Wd G M)) (QI G r M') 0 0 (zA G) := by
  refine zMet (by decide) rfl (Nat.le_of_ble_eq_true rfl) ?_
  intro p e s m below meth c hC hw ls hl
  have hl : lv_has ls 2 [(0, .ref (ad G 86)), (1, .int x1)] := hl
  unfold F_X7_reads at hF
  refine lv_aload_n hC.1 hC.2.1 dX7_reads_0 rfl (lv_at hl 0 rfl) ?_
  refine lv_iconst (v := (0 : Int32)) hC.1 hC.2.1 dX7_reads_1 (by decide) ?_
  refine u7_place hC hw q4_151 dX7_reads_2 (fun H locs hw => ?_)
  obtain ⟨M1, hw, hF⟩ := lt1W hF hw
  refine lv_aload_n hC.1 hC.2.1 dX7_reads_5 rfl (lv_at hl 0 rfl) ?_
  refine lv_iconst (v := (0 : Int32)) hC.1 hC.2.1 dX7_reads_6 (by decide) ?_
  refine u7_readMen hC hw q4_144 dX7_reads_7 (fun H locs hw => ?_)
  obtain ⟨M2, hw, hF⟩ := lt1W hF hw
  refine lv_aload_n hC.1 hC.2.1 dX7_reads_10 rfl (lv_at hl 0 rfl) ?_
  refine lv_iload_n hC.1 hC.2.1 dX7_reads_11 rfl (lv_at hl 1 rfl) ?_
  obtain ⟨M4, h3, hF⟩ := ob1S hF
  refine k_Vv (As := [.int x1]) (rest := []) hC hw (c_X7_skip (M := M2) h3) RC_X yv_X7_skip q5_58 ⟨rfl, rfl⟩ ⟨Nat.le_of_ble_eq_true rfl, Nat.le_of_ble_eq_true rfl⟩ ⟨Nat.zero_le _, Nat.zero_le _⟩ rfl rfl (Nat.le_of_ble_eq_true rfl) hl dX7_reads_12 (fun H locs hw => ?_)
  refine lv_aload_n hC.1 hC.2.1 dX7_reads_15 rfl (lv_at hl 0 rfl) ?_
  refine lv_iload_n hC.1 hC.2.1 dX7_reads_16 rfl (lv_at hl 1 rfl) ?_
  obtain ⟨r6, M7, h5, hF⟩ := ob2S hF
  refine k_Vi (As := [.int x1]) (rest := []) hC hw (c_X7_readsSun (M := M4) h5) RC_X yv_X7_readsSun q5_66 ⟨rfl, rfl⟩ ⟨Nat.le_of_ble_eq_true rfl, Nat.le_of_ble_eq_true rfl⟩ ⟨Nat.zero_le _, Nat.zero_le _⟩ rfl rfl (Nat.le_of_ble_eq_true rfl) hl dX7_reads_17 (fun H locs hw => ?_)
  refine lv_if_ne (tgt := 28) hC.1 hC.2.1 dX7_reads_20 (by decide) (fun b8 => ?_) (fun b8 => ?_)
  · have hF := ifN hF b8
    refine lv_aload_n hC.1 hC.2.1 dX7_reads_28 rfl (lv_at hl 0 rfl) ?_
    refine lv_iload_n hC.1 hC.2.1 dX7_reads_29 rfl (lv_at hl 1 rfl) ?_
    obtain ⟨M10, h9, hF⟩ := ob1S hF
    refine k_Vv (As := [.int x1]) (rest := []) hC hw (c_X7_skip (M := M7) h9) RC_X yv_X7_skip q5_58 ⟨rfl, rfl⟩ ⟨Nat.le_of_ble_eq_true rfl, Nat.le_of_ble_eq_true rfl⟩ ⟨Nat.zero_le _, Nat.zero_le _⟩ rfl rfl (Nat.le_of_ble_eq_true rfl) hl dX7_reads_30 (fun H locs hw => ?_)
    exact w_X7_reads_33 hC _ hF hw (lv_sub hl [0, 1] rfl)
  · have hF := ifP hF b8
    refine lv_aload_n hC.1 hC.2.1 dX7_reads_23 rfl (lv_at hl 0 rfl) ?_
    refine g7_place hC hw q4_151 dX7_reads_24 ?_
    exact r_iretE hC hw hF dX7_reads_27
abbrev rm_X7_fault : Room := { frames := 4, cells := 0, slots := 0, locals := 96 }
theorem yv_X7_fault : YV yX7_fault cX7_fault 2 (some .int) 1 RX7 := ⟨⟨q5_51, q5_52, q1_8, q5_53⟩, by decide +kernel⟩
theorem dX7_fault_0 : decode cX7_fault 0 = .ok (.iload_n 1, 1) := by decide +kernel
theorem dX7_fault_1 : decode cX7_fault 1 = .ok (.invokestatic 129, 3) := by decide +kernel
theorem dX7_fault_4 : decode cX7_fault 4 = .ok (.ifCond .ne 5, 3) := by decide +kernel
theorem dX7_fault_7 : decode cX7_fault 7 = .ok (.iconst (-1), 1) := by decide +kernel
theorem dX7_fault_8 : decode cX7_fault 8 = .ok (.ireturn, 1) := by decide +kernel
theorem dX7_fault_9 : decode cX7_fault 9 = .ok (.aload_n 0, 1) := by decide +kernel
theorem dX7_fault_10 : decode cX7_fault 10 = .ok (.getfield 19, 3) := by decide +kernel
theorem dX7_fault_13 : decode cX7_fault 13 = .ok (.iload_n 1, 1) := by decide +kernel
theorem dX7_fault_14 : decode cX7_fault 14 = .ok (.iaload, 1) := by decide +kernel
theorem dX7_fault_15 : decode cX7_fault 15 = .ok (.bipush (-9), 2) := by decide +kernel
theorem dX7_fault_17 : decode cX7_fault 17 = .ok (.if_icmp .ne 11, 3) := by decide +kernel
theorem dX7_fault_20 : decode cX7_fault 20 = .ok (.aload_n 0, 1) := by decide +kernel
theorem dX7_fault_21 : decode cX7_fault 21 = .ok (.iconst 1, 1) := by decide +kernel
theorem dX7_fault_22 : decode cX7_fault 22 = .ok (.invokevirtual 118, 3) := by decide +kernel
theorem dX7_fault_25 : decode cX7_fault 25 = .ok (.goto 8, 3) := by decide +kernel
theorem dX7_fault_28 : decode cX7_fault 28 = .ok (.aload_n 0, 1) := by decide +kernel
theorem dX7_fault_29 : decode cX7_fault 29 = .ok (.iload_n 1, 1) := by decide +kernel
theorem dX7_fault_30 : decode cX7_fault 30 = .ok (.invokevirtual 161, 3) := by decide +kernel
theorem dX7_fault_33 : decode cX7_fault 33 = .ok (.ireturn, 1) := by decide +kernel
def F_X7_fault (fu : Nat) (M : Mm) (x1 : Int32) : Option (Int32 × Mm) :=
  ob1 (F_X7_isText fu M x1) (fun r2 =>
  if r2 = 0 then
    some ((-1 : Int32), M)
  else
    if x1 < 0 ∨ ln 90 ≤ x1.toNatClampNeg then none else (
    if (M.1 90 x1.toNatClampNeg) = (-9 : Int32) then
      ob2 (F_X7_finds fu M (1 : Int32)) (fun r10 M11 =>
      some (r10, M11))
    else
      ob2 (F_X7_reads fu M x1) (fun r7 M8 =>
      some (r7, M8))))
set_option maxRecDepth 100000 in
set_option maxHeartbeats 4000000 in
theorem c_X7_fault {l : Launch} {G : Gv} {fu : Nat} {M : Mm} {x1 : Int32} {r : Int32} {M' : Mm} (hF : F_X7_fault fu M x1 = some (r, M')) : Met l yX7_fault (.code yX7_fault cX7_fault 2 (some .int) :: zU) rm_X7_fault (va_Pc [.ref (ad G 86), .int x1] (Wd G M)) (QI G r M') 0 0 (zA G) := by
  refine zMet (by decide) rfl (Nat.le_of_ble_eq_true rfl) ?_
  intro p e s m below meth c hC hw ls hl
  have hl : lv_has ls 2 [(0, .ref (ad G 86)), (1, .int x1)] := hl
  unfold F_X7_fault at hF
  refine lv_iload_n hC.1 hC.2.1 dX7_fault_0 rfl (lv_at hl 1 rfl) ?_
  obtain ⟨r2, h1, hF⟩ := ob1S hF
  refine k_Si (As := [.int x1]) (rest := []) hC hw (c_X7_isText (M := M) h1) ys_X7_isText q5_42 ⟨rfl, rfl⟩ ⟨Nat.le_of_ble_eq_true rfl, Nat.le_of_ble_eq_true rfl⟩ ⟨Nat.zero_le _, Nat.zero_le _⟩ rfl rfl (Nat.le_of_ble_eq_true rfl) hl dX7_fault_1 (fun H locs hw => ?_)
  refine lv_if_ne (tgt := 9) hC.1 hC.2.1 dX7_fault_4 (by decide) (fun b3 => ?_) (fun b3 => ?_)
  · have hF := ifN hF b3
    refine lv_aload_n hC.1 hC.2.1 dX7_fault_9 rfl (lv_at hl 0 rfl) ?_
    refine g7_textLong hC hw q4_125 dX7_fault_10 ?_
    refine lv_iload_n hC.1 hC.2.1 dX7_fault_13 rfl (lv_at hl 1 rfl) ?_
    obtain ⟨n4, hF⟩ := ifO hF
    refine r_iald hC.1 hC.2.1 hw (rfl : kd 90 = 1) n4 dX7_fault_14 ?_
    refine lv_bipush (v := (-9 : Int32)) hC.1 hC.2.1 dX7_fault_15 (by decide) ?_
    refine lv_icmp_ne (tgt := 28) hC.1 hC.2.1 dX7_fault_17 (by decide) (fun b5 => ?_) (fun b5 => ?_)
    · have hF := ifN hF b5
      refine lv_aload_n hC.1 hC.2.1 dX7_fault_28 rfl (lv_at hl 0 rfl) ?_
      refine lv_iload_n hC.1 hC.2.1 dX7_fault_29 rfl (lv_at hl 1 rfl) ?_
      obtain ⟨r7, M8, h6, hF⟩ := ob2S hF
      refine k_Vi (As := [.int x1]) (rest := []) hC hw (c_X7_reads (M := M) h6) RC_X yv_X7_reads q5_54 ⟨rfl, rfl⟩ ⟨Nat.le_of_ble_eq_true rfl, Nat.le_of_ble_eq_true rfl⟩ ⟨Nat.zero_le _, Nat.zero_le _⟩ rfl rfl (Nat.le_of_ble_eq_true rfl) hl dX7_fault_30 (fun H locs hw => ?_)
      exact r_iretE hC hw hF dX7_fault_33
    · have hF := ifP hF b5
      refine lv_aload_n hC.1 hC.2.1 dX7_fault_20 rfl (lv_at hl 0 rfl) ?_
      refine lv_iconst (v := (1 : Int32)) hC.1 hC.2.1 dX7_fault_21 (by decide) ?_
      obtain ⟨r10, M11, h9, hF⟩ := ob2S hF
      refine k_Vi (As := [.int (1 : Int32)]) (rest := []) hC hw (c_X7_finds (M := M) h9) RC_X yv_X7_finds q5_6 ⟨rfl, rfl⟩ ⟨Nat.le_of_ble_eq_true rfl, Nat.le_of_ble_eq_true rfl⟩ ⟨Nat.zero_le _, Nat.zero_le _⟩ rfl rfl (Nat.le_of_ble_eq_true rfl) hl dX7_fault_22 (fun H locs hw => ?_)
      refine lv_goto (tgt := 33) hC.1 hC.2.1 dX7_fault_25 (by decide) ?_
      exact r_iretE hC hw hF dX7_fault_33
  · have hF := ifP hF b3
    refine lv_iconst (v := (-1 : Int32)) hC.1 hC.2.1 dX7_fault_7 (by decide) ?_
    exact r_iretE hC hw hF dX7_fault_8
abbrev rm_X7_north : Room := { frames := 4, cells := 0, slots := 0, locals := 96 }
theorem yv_X7_north : YV yX7_north cX7_north 3 (some .int) 1 RX7 := ⟨⟨q5_82, q5_83, q1_8, q5_84⟩, by decide +kernel⟩
theorem dX7_north_0 : decode cX7_north 0 = .ok (.iload_n 1, 1) := by decide +kernel
theorem dX7_north_1 : decode cX7_north 1 = .ok (.invokestatic 129, 3) := by decide +kernel
theorem dX7_north_4 : decode cX7_north 4 = .ok (.ifCond .ne 5, 3) := by decide +kernel
theorem dX7_north_7 : decode cX7_north 7 = .ok (.iconst (-1), 1) := by decide +kernel
theorem dX7_north_8 : decode cX7_north 8 = .ok (.ireturn, 1) := by decide +kernel
theorem dX7_north_9 : decode cX7_north 9 = .ok (.aload_n 0, 1) := by decide +kernel
theorem dX7_north_10 : decode cX7_north 10 = .ok (.getfield 19, 3) := by decide +kernel
theorem dX7_north_13 : decode cX7_north 13 = .ok (.iload_n 1, 1) := by decide +kernel
theorem dX7_north_14 : decode cX7_north 14 = .ok (.iaload, 1) := by decide +kernel
theorem dX7_north_15 : decode cX7_north 15 = .ok (.bipush (-9), 2) := by decide +kernel
theorem dX7_north_17 : decode cX7_north 17 = .ok (.if_icmp .ne 9, 3) := by decide +kernel
theorem dX7_north_20 : decode cX7_north 20 = .ok (.aload_n 0, 1) := by decide +kernel
theorem dX7_north_21 : decode cX7_north 21 = .ok (.iconst 1, 1) := by decide +kernel
theorem dX7_north_22 : decode cX7_north 22 = .ok (.invokevirtual 118, 3) := by decide +kernel
theorem dX7_north_25 : decode cX7_north 25 = .ok (.ireturn, 1) := by decide +kernel
theorem dX7_north_26 : decode cX7_north 26 = .ok (.aload_n 0, 1) := by decide +kernel
theorem dX7_north_27 : decode cX7_north 27 = .ok (.iload_n 1, 1) := by decide +kernel
theorem dX7_north_28 : decode cX7_north 28 = .ok (.invokevirtual 161, 3) := by decide +kernel
theorem dX7_north_31 : decode cX7_north 31 = .ok (.bipush (-9), 2) := by decide +kernel
theorem dX7_north_33 : decode cX7_north 33 = .ok (.if_icmp .eq 6, 3) := by decide +kernel
theorem dX7_north_36 : decode cX7_north 36 = .ok (.bipush (-4), 2) := by decide +kernel
theorem dX7_north_38 : decode cX7_north 38 = .ok (.ireturn, 1) := by decide +kernel
theorem dX7_north_39 : decode cX7_north 39 = .ok (.aload_n 0, 1) := by decide +kernel
theorem dX7_north_40 : decode cX7_north 40 = .ok (.aload_n 0, 1) := by decide +kernel
theorem dX7_north_41 : decode cX7_north 41 = .ok (.getfield 148, 3) := by decide +kernel
theorem dX7_north_44 : decode cX7_north 44 = .ok (.putfield 101, 3) := by decide +kernel
theorem dX7_north_47 : decode cX7_north 47 = .ok (.iconst 0, 1) := by decide +kernel
theorem dX7_north_48 : decode cX7_north 48 = .ok (.istore_n 2, 1) := by decide +kernel
theorem dX7_north_49 : decode cX7_north 49 = .ok (.iload_n 2, 1) := by decide +kernel
theorem dX7_north_50 : decode cX7_north 50 = .ok (.aload_n 0, 1) := by decide +kernel
theorem dX7_north_51 : decode cX7_north 51 = .ok (.getfield 101, 3) := by decide +kernel
theorem dX7_north_54 : decode cX7_north 54 = .ok (.if_icmp .ge 57, 3) := by decide +kernel
theorem dX7_north_57 : decode cX7_north 57 = .ok (.aload_n 0, 1) := by decide +kernel
theorem dX7_north_58 : decode cX7_north 58 = .ok (.getfield 22, 3) := by decide +kernel
theorem dX7_north_61 : decode cX7_north 61 = .ok (.iload_n 2, 1) := by decide +kernel
theorem dX7_north_62 : decode cX7_north 62 = .ok (.aload_n 0, 1) := by decide +kernel
theorem dX7_north_63 : decode cX7_north 63 = .ok (.getfield 57, 3) := by decide +kernel
theorem dX7_north_66 : decode cX7_north 66 = .ok (.iload_n 2, 1) := by decide +kernel
theorem dX7_north_67 : decode cX7_north 67 = .ok (.iaload, 1) := by decide +kernel
theorem dX7_north_68 : decode cX7_north 68 = .ok (.iastore, 1) := by decide +kernel
theorem dX7_north_69 : decode cX7_north 69 = .ok (.aload_n 0, 1) := by decide +kernel
theorem dX7_north_70 : decode cX7_north 70 = .ok (.getfield 31, 3) := by decide +kernel
theorem dX7_north_73 : decode cX7_north 73 = .ok (.iload_n 2, 1) := by decide +kernel
theorem dX7_north_74 : decode cX7_north 74 = .ok (.aload_n 0, 1) := by decide +kernel
theorem dX7_north_75 : decode cX7_north 75 = .ok (.getfield 60, 3) := by decide +kernel
theorem dX7_north_78 : decode cX7_north 78 = .ok (.iload_n 2, 1) := by decide +kernel
theorem dX7_north_79 : decode cX7_north 79 = .ok (.iaload, 1) := by decide +kernel
theorem dX7_north_80 : decode cX7_north 80 = .ok (.iastore, 1) := by decide +kernel
theorem dX7_north_81 : decode cX7_north 81 = .ok (.aload_n 0, 1) := by decide +kernel
theorem dX7_north_82 : decode cX7_north 82 = .ok (.getfield 34, 3) := by decide +kernel
theorem dX7_north_85 : decode cX7_north 85 = .ok (.iload_n 2, 1) := by decide +kernel
theorem dX7_north_86 : decode cX7_north 86 = .ok (.aload_n 0, 1) := by decide +kernel
theorem dX7_north_87 : decode cX7_north 87 = .ok (.getfield 63, 3) := by decide +kernel
theorem dX7_north_90 : decode cX7_north 90 = .ok (.iload_n 2, 1) := by decide +kernel
theorem dX7_north_91 : decode cX7_north 91 = .ok (.iaload, 1) := by decide +kernel
theorem dX7_north_92 : decode cX7_north 92 = .ok (.iastore, 1) := by decide +kernel
theorem dX7_north_93 : decode cX7_north 93 = .ok (.aload_n 0, 1) := by decide +kernel
theorem dX7_north_94 : decode cX7_north 94 = .ok (.getfield 25, 3) := by decide +kernel
theorem dX7_north_97 : decode cX7_north 97 = .ok (.iload_n 2, 1) := by decide +kernel
theorem dX7_north_98 : decode cX7_north 98 = .ok (.aload_n 0, 1) := by decide +kernel
theorem dX7_north_99 : decode cX7_north 99 = .ok (.getfield 66, 3) := by decide +kernel
theorem dX7_north_102 : decode cX7_north 102 = .ok (.iload_n 2, 1) := by decide +kernel
theorem dX7_north_103 : decode cX7_north 103 = .ok (.iaload, 1) := by decide +kernel
theorem dX7_north_104 : decode cX7_north 104 = .ok (.iastore, 1) := by decide +kernel
theorem dX7_north_105 : decode cX7_north 105 = .ok (.iinc 2 1, 3) := by decide +kernel
theorem dX7_north_108 : decode cX7_north 108 = .ok (.goto (-59), 3) := by decide +kernel
theorem dX7_north_111 : decode cX7_north 111 = .ok (.iconst 0, 1) := by decide +kernel
theorem dX7_north_112 : decode cX7_north 112 = .ok (.istore_n 2, 1) := by decide +kernel
theorem dX7_north_113 : decode cX7_north 113 = .ok (.iload_n 2, 1) := by decide +kernel
theorem dX7_north_114 : decode cX7_north 114 = .ok (.bipush 8, 2) := by decide +kernel
theorem dX7_north_116 : decode cX7_north 116 = .ok (.if_icmp .ge 21, 3) := by decide +kernel
theorem dX7_north_119 : decode cX7_north 119 = .ok (.aload_n 0, 1) := by decide +kernel
theorem dX7_north_120 : decode cX7_north 120 = .ok (.getfield 28, 3) := by decide +kernel
theorem dX7_north_123 : decode cX7_north 123 = .ok (.iload_n 2, 1) := by decide +kernel
theorem dX7_north_124 : decode cX7_north 124 = .ok (.aload_n 0, 1) := by decide +kernel
theorem dX7_north_125 : decode cX7_north 125 = .ok (.getfield 69, 3) := by decide +kernel
theorem dX7_north_128 : decode cX7_north 128 = .ok (.iload_n 2, 1) := by decide +kernel
theorem dX7_north_129 : decode cX7_north 129 = .ok (.iaload, 1) := by decide +kernel
theorem dX7_north_130 : decode cX7_north 130 = .ok (.iastore, 1) := by decide +kernel
theorem dX7_north_131 : decode cX7_north 131 = .ok (.iinc 2 1, 3) := by decide +kernel
theorem dX7_north_134 : decode cX7_north 134 = .ok (.goto (-21), 3) := by decide +kernel
theorem dX7_north_137 : decode cX7_north 137 = .ok (.aload_n 0, 1) := by decide +kernel
theorem dX7_north_138 : decode cX7_north 138 = .ok (.aload_n 0, 1) := by decide +kernel
theorem dX7_north_139 : decode cX7_north 139 = .ok (.getfield 142, 3) := by decide +kernel
theorem dX7_north_142 : decode cX7_north 142 = .ok (.putfield 164, 3) := by decide +kernel
theorem dX7_north_145 : decode cX7_north 145 = .ok (.aload_n 0, 1) := by decide +kernel
theorem dX7_north_146 : decode cX7_north 146 = .ok (.iconst 0, 1) := by decide +kernel
theorem dX7_north_147 : decode cX7_north 147 = .ok (.putfield 167, 3) := by decide +kernel
theorem dX7_north_150 : decode cX7_north 150 = .ok (.aload_n 0, 1) := by decide +kernel
theorem dX7_north_151 : decode cX7_north 151 = .ok (.iconst 0, 1) := by decide +kernel
theorem dX7_north_152 : decode cX7_north 152 = .ok (.putfield 170, 3) := by decide +kernel
theorem dX7_north_155 : decode cX7_north 155 = .ok (.iconst 0, 1) := by decide +kernel
theorem dX7_north_156 : decode cX7_north 156 = .ok (.istore_n 2, 1) := by decide +kernel
theorem dX7_north_157 : decode cX7_north 157 = .ok (.iload_n 2, 1) := by decide +kernel
theorem dX7_north_158 : decode cX7_north 158 = .ok (.iconst 3, 1) := by decide +kernel
theorem dX7_north_159 : decode cX7_north 159 = .ok (.if_icmp .ge 16, 3) := by decide +kernel
theorem dX7_north_162 : decode cX7_north 162 = .ok (.aload_n 0, 1) := by decide +kernel
theorem dX7_north_163 : decode cX7_north 163 = .ok (.getfield 43, 3) := by decide +kernel
theorem dX7_north_166 : decode cX7_north 166 = .ok (.iload_n 2, 1) := by decide +kernel
theorem dX7_north_167 : decode cX7_north 167 = .ok (.iconst 0, 1) := by decide +kernel
theorem dX7_north_168 : decode cX7_north 168 = .ok (.bastore, 1) := by decide +kernel
theorem dX7_north_169 : decode cX7_north 169 = .ok (.iinc 2 1, 3) := by decide +kernel
theorem dX7_north_172 : decode cX7_north 172 = .ok (.goto (-15), 3) := by decide +kernel
theorem dX7_north_175 : decode cX7_north 175 = .ok (.aload_n 0, 1) := by decide +kernel
theorem dX7_north_176 : decode cX7_north 176 = .ok (.getfield 101, 3) := by decide +kernel
theorem dX7_north_179 : decode cX7_north 179 = .ok (.ireturn, 1) := by decide +kernel
def F_X7_north_157 (fu : Nat) : Nat → Mm → Int32 → Option (Int32 × Mm)
  | 0, _, _ => none
  | n + 1, M, x2 =>
    if (3 : Int32) ≤ x2 then
      some ((M.1 86 4), M)
    else
      if x2 < 0 ∨ ln 98 ≤ x2.toNatClampNeg then none else (
      lt1 (pI M 98 x2.toNatClampNeg (vp_nar .boolean (0 : Int32))) (fun M3 =>
      F_X7_north_157 fu n M3 (x2 + (1 : Int32))))
set_option maxRecDepth 100000 in
set_option maxHeartbeats 4000000 in
theorem w_X7_north_157 {p : Program} {l : Launch} {e : Env} {s : State} {m : MethodId} {args : Array Value} {below : List Frame} {meth : Method} {c : Code} {G : Gv} (hC : Cx p s m args meth c cX7_north 3 (some .int) RX7) {fu : Nat} {r : Int32} {M' : Mm} : ∀ (n : Nat) {x2 : Int32} {M : Mm} {H : Heap} {locs : List Loc} {ls : Array Slot}, F_X7_north_157 fu n M x2 = some (r, M') → St G s H locs M → lv_has ls 3 [(0, .ref (ad G 86)), (2, .int x2)] → W p l e rm_X7_north s m args below meth c H locs 0 0 (MQ below (QI G r M') args s 0 0 (zA G)) (F0 m 157 ls []) := by
  intro n
  induction n with
  | zero =>
    intro x2 M H locs ls hF hw hl
    cases hF
  | succ n ih =>
    intro x2 M H locs ls hF hw hl
    unfold F_X7_north_157 at hF
    refine lv_iload_n hC.1 hC.2.1 dX7_north_157 rfl (lv_at hl 1 rfl) ?_
    refine lv_iconst (v := (3 : Int32)) hC.1 hC.2.1 dX7_north_158 (by decide) ?_
    refine lv_icmp_ge (tgt := 175) hC.1 hC.2.1 dX7_north_159 (by decide) (fun b1 => ?_) (fun b1 => ?_)
    · have hF := ifP hF b1
      refine lv_aload_n hC.1 hC.2.1 dX7_north_175 rfl (lv_at hl 0 rfl) ?_
      refine g7_men hC hw q4_126 dX7_north_176 ?_
      exact r_iretE hC hw hF dX7_north_179
    · have hF := ifN hF b1
      refine lv_aload_n hC.1 hC.2.1 dX7_north_162 rfl (lv_at hl 0 rfl) ?_
      refine g7_isKept hC hw q4_137 dX7_north_163 ?_
      refine lv_iload_n hC.1 hC.2.1 dX7_north_166 rfl (lv_at hl 1 rfl) ?_
      refine lv_iconst (v := (0 : Int32)) hC.1 hC.2.1 dX7_north_167 (by decide) ?_
      obtain ⟨n2, hF⟩ := ifO hF
      refine r_zast hC.1 hC.2.1 hw (rfl : kd 98 = 3) n2 dX7_north_168 (fun H locs hw => ?_)
      obtain ⟨M3, hw, hF⟩ := lt1W hF hw
      refine lv_iinc (v := (x2 + (1 : Int32))) (lv' := [(2, .int (x2 + (1 : Int32))), (0, .ref (ad G 86))]) hC.1 hC.2.1 dX7_north_169 hl (k := 1) rfl rfl (by decide) rfl (fun ls hl => ?_)
      refine lv_goto (tgt := 157) hC.1 hC.2.1 dX7_north_172 (by decide) ?_
      exact ih hF hw (lv_sub hl [1, 0] rfl)
def F_X7_north_113 (fu : Nat) : Nat → Mm → Int32 → Option (Int32 × Mm)
  | 0, _, _ => none
  | n + 1, M, x2 =>
    if (8 : Int32) ≤ x2 then
      lt1 (pI M 86 10 (M.1 86 28)) (fun M2 =>
      lt1 (pI M2 86 11 (0 : Int32)) (fun M3 =>
      lt1 (pI M3 86 12 (0 : Int32)) (fun M4 =>
      F_X7_north_157 fu fu M4 (0 : Int32))))
    else
      if x2 < 0 ∨ ln 105 ≤ x2.toNatClampNeg then none else (
      if x2 < 0 ∨ ln 93 ≤ x2.toNatClampNeg then none else (
      lt1 (pI M 93 x2.toNatClampNeg (M.1 105 x2.toNatClampNeg)) (fun M7 =>
      F_X7_north_113 fu n M7 (x2 + (1 : Int32)))))
set_option maxRecDepth 100000 in
set_option maxHeartbeats 4000000 in
theorem w_X7_north_113 {p : Program} {l : Launch} {e : Env} {s : State} {m : MethodId} {args : Array Value} {below : List Frame} {meth : Method} {c : Code} {G : Gv} (hC : Cx p s m args meth c cX7_north 3 (some .int) RX7) {fu : Nat} {r : Int32} {M' : Mm} : ∀ (n : Nat) {x2 : Int32} {M : Mm} {H : Heap} {locs : List Loc} {ls : Array Slot}, F_X7_north_113 fu n M x2 = some (r, M') → St G s H locs M → lv_has ls 3 [(0, .ref (ad G 86)), (2, .int x2)] → W p l e rm_X7_north s m args below meth c H locs 0 0 (MQ below (QI G r M') args s 0 0 (zA G)) (F0 m 113 ls []) := by
  intro n
  induction n with
  | zero =>
    intro x2 M H locs ls hF hw hl
    cases hF
  | succ n ih =>
    intro x2 M H locs ls hF hw hl
    unfold F_X7_north_113 at hF
    refine lv_iload_n hC.1 hC.2.1 dX7_north_113 rfl (lv_at hl 1 rfl) ?_
    refine lv_bipush (v := (8 : Int32)) hC.1 hC.2.1 dX7_north_114 (by decide) ?_
    refine lv_icmp_ge (tgt := 137) hC.1 hC.2.1 dX7_north_116 (by decide) (fun b1 => ?_) (fun b1 => ?_)
    · have hF := ifP hF b1
      refine lv_aload_n hC.1 hC.2.1 dX7_north_137 rfl (lv_at hl 0 rfl) ?_
      refine lv_aload_n hC.1 hC.2.1 dX7_north_138 rfl (lv_at hl 0 rfl) ?_
      refine g7_readRight hC hw q4_150 dX7_north_139 ?_
      refine u7_rightIs hC hw q4_132 dX7_north_142 (fun H locs hw => ?_)
      obtain ⟨M2, hw, hF⟩ := lt1W hF hw
      refine lv_aload_n hC.1 hC.2.1 dX7_north_145 rfl (lv_at hl 0 rfl) ?_
      refine lv_iconst (v := (0 : Int32)) hC.1 hC.2.1 dX7_north_146 (by decide) ?_
      refine u7_dayIs hC hw q4_133 dX7_north_147 (fun H locs hw => ?_)
      obtain ⟨M3, hw, hF⟩ := lt1W hF hw
      refine lv_aload_n hC.1 hC.2.1 dX7_north_150 rfl (lv_at hl 0 rfl) ?_
      refine lv_iconst (v := (0 : Int32)) hC.1 hC.2.1 dX7_north_151 (by decide) ?_
      refine u7_deeds hC hw q4_134 dX7_north_152 (fun H locs hw => ?_)
      obtain ⟨M4, hw, hF⟩ := lt1W hF hw
      refine lv_iconst (v := (0 : Int32)) hC.1 hC.2.1 dX7_north_155 (by decide) ?_
      refine lv_istore_n (lv' := [(2, .int (0 : Int32)), (0, .ref (ad G 86))]) hC.1 hC.2.1 dX7_north_156 rfl hl (by decide) rfl (fun ls hl => ?_)
      exact w_X7_north_157 hC _ hF hw (lv_sub hl [1, 0] rfl)
    · have hF := ifN hF b1
      refine lv_aload_n hC.1 hC.2.1 dX7_north_119 rfl (lv_at hl 0 rfl) ?_
      refine g7_suns hC hw q4_129 dX7_north_120 ?_
      refine lv_iload_n hC.1 hC.2.1 dX7_north_123 rfl (lv_at hl 1 rfl) ?_
      refine lv_aload_n hC.1 hC.2.1 dX7_north_124 rfl (lv_at hl 0 rfl) ?_
      refine g7_readSuns hC hw q4_149 dX7_north_125 ?_
      refine lv_iload_n hC.1 hC.2.1 dX7_north_128 rfl (lv_at hl 1 rfl) ?_
      obtain ⟨n5, hF⟩ := ifO hF
      refine r_iald hC.1 hC.2.1 hw (rfl : kd 105 = 1) n5 dX7_north_129 ?_
      obtain ⟨n6, hF⟩ := ifO hF
      refine r_iast hC.1 hC.2.1 hw (rfl : kd 93 = 1) n6 dX7_north_130 (fun H locs hw => ?_)
      obtain ⟨M7, hw, hF⟩ := lt1W hF hw
      refine lv_iinc (v := (x2 + (1 : Int32))) (lv' := [(2, .int (x2 + (1 : Int32))), (0, .ref (ad G 86))]) hC.1 hC.2.1 dX7_north_131 hl (k := 1) rfl rfl (by decide) rfl (fun ls hl => ?_)
      refine lv_goto (tgt := 113) hC.1 hC.2.1 dX7_north_134 (by decide) ?_
      exact ih hF hw (lv_sub hl [1, 0] rfl)
def F_X7_north_49 (fu : Nat) : Nat → Mm → Int32 → Option (Int32 × Mm)
  | 0, _, _ => none
  | n + 1, M, x2 =>
    if (M.1 86 4) ≤ x2 then
      F_X7_north_113 fu fu M (0 : Int32)
    else
      if x2 < 0 ∨ ln 101 ≤ x2.toNatClampNeg then none else (
      if x2 < 0 ∨ ln 91 ≤ x2.toNatClampNeg then none else (
      lt1 (pI M 91 x2.toNatClampNeg (M.1 101 x2.toNatClampNeg)) (fun M4 =>
      if x2 < 0 ∨ ln 102 ≤ x2.toNatClampNeg then none else (
      if x2 < 0 ∨ ln 94 ≤ x2.toNatClampNeg then none else (
      lt1 (pI M4 94 x2.toNatClampNeg (M4.1 102 x2.toNatClampNeg)) (fun M7 =>
      if x2 < 0 ∨ ln 103 ≤ x2.toNatClampNeg then none else (
      if x2 < 0 ∨ ln 95 ≤ x2.toNatClampNeg then none else (
      lt1 (pI M7 95 x2.toNatClampNeg (M7.1 103 x2.toNatClampNeg)) (fun M10 =>
      if x2 < 0 ∨ ln 104 ≤ x2.toNatClampNeg then none else (
      if x2 < 0 ∨ ln 92 ≤ x2.toNatClampNeg then none else (
      lt1 (pI M10 92 x2.toNatClampNeg (M10.1 104 x2.toNatClampNeg)) (fun M13 =>
      F_X7_north_49 fu n M13 (x2 + (1 : Int32))))))))))))))
set_option maxRecDepth 100000 in
set_option maxHeartbeats 4000000 in
theorem w_X7_north_49 {p : Program} {l : Launch} {e : Env} {s : State} {m : MethodId} {args : Array Value} {below : List Frame} {meth : Method} {c : Code} {G : Gv} (hC : Cx p s m args meth c cX7_north 3 (some .int) RX7) {fu : Nat} {r : Int32} {M' : Mm} : ∀ (n : Nat) {x2 : Int32} {M : Mm} {H : Heap} {locs : List Loc} {ls : Array Slot}, F_X7_north_49 fu n M x2 = some (r, M') → St G s H locs M → lv_has ls 3 [(0, .ref (ad G 86)), (2, .int x2)] → W p l e rm_X7_north s m args below meth c H locs 0 0 (MQ below (QI G r M') args s 0 0 (zA G)) (F0 m 49 ls []) := by
  intro n
  induction n with
  | zero =>
    intro x2 M H locs ls hF hw hl
    cases hF
  | succ n ih =>
    intro x2 M H locs ls hF hw hl
    unfold F_X7_north_49 at hF
    refine lv_iload_n hC.1 hC.2.1 dX7_north_49 rfl (lv_at hl 1 rfl) ?_
    refine lv_aload_n hC.1 hC.2.1 dX7_north_50 rfl (lv_at hl 0 rfl) ?_
    refine g7_men hC hw q4_126 dX7_north_51 ?_
    refine lv_icmp_ge (tgt := 111) hC.1 hC.2.1 dX7_north_54 (by decide) (fun b1 => ?_) (fun b1 => ?_)
    · have hF := ifP hF b1
      refine lv_iconst (v := (0 : Int32)) hC.1 hC.2.1 dX7_north_111 (by decide) ?_
      refine lv_istore_n (lv' := [(2, .int (0 : Int32)), (0, .ref (ad G 86))]) hC.1 hC.2.1 dX7_north_112 rfl hl (by decide) rfl (fun ls hl => ?_)
      exact w_X7_north_113 hC _ hF hw (lv_sub hl [1, 0] rfl)
    · have hF := ifN hF b1
      refine lv_aload_n hC.1 hC.2.1 dX7_north_57 rfl (lv_at hl 0 rfl) ?_
      refine g7_kindIs hC hw q4_127 dX7_north_58 ?_
      refine lv_iload_n hC.1 hC.2.1 dX7_north_61 rfl (lv_at hl 1 rfl) ?_
      refine lv_aload_n hC.1 hC.2.1 dX7_north_62 rfl (lv_at hl 0 rfl) ?_
      refine g7_readKinds hC hw q4_145 dX7_north_63 ?_
      refine lv_iload_n hC.1 hC.2.1 dX7_north_66 rfl (lv_at hl 1 rfl) ?_
      obtain ⟨n2, hF⟩ := ifO hF
      refine r_iald hC.1 hC.2.1 hw (rfl : kd 101 = 1) n2 dX7_north_67 ?_
      obtain ⟨n3, hF⟩ := ifO hF
      refine r_iast hC.1 hC.2.1 hw (rfl : kd 91 = 1) n3 dX7_north_68 (fun H locs hw => ?_)
      obtain ⟨M4, hw, hF⟩ := lt1W hF hw
      refine lv_aload_n hC.1 hC.2.1 dX7_north_69 rfl (lv_at hl 0 rfl) ?_
      refine g7_bulks hC hw q4_130 dX7_north_70 ?_
      refine lv_iload_n hC.1 hC.2.1 dX7_north_73 rfl (lv_at hl 1 rfl) ?_
      refine lv_aload_n hC.1 hC.2.1 dX7_north_74 rfl (lv_at hl 0 rfl) ?_
      refine g7_readBulks hC hw q4_146 dX7_north_75 ?_
      refine lv_iload_n hC.1 hC.2.1 dX7_north_78 rfl (lv_at hl 1 rfl) ?_
      obtain ⟨n5, hF⟩ := ifO hF
      refine r_iald hC.1 hC.2.1 hw (rfl : kd 102 = 1) n5 dX7_north_79 ?_
      obtain ⟨n6, hF⟩ := ifO hF
      refine r_iast hC.1 hC.2.1 hw (rfl : kd 94 = 1) n6 dX7_north_80 (fun H locs hw => ?_)
      obtain ⟨M7, hw, hF⟩ := lt1W hF hw
      refine lv_aload_n hC.1 hC.2.1 dX7_north_81 rfl (lv_at hl 0 rfl) ?_
      refine g7_shades hC hw q4_131 dX7_north_82 ?_
      refine lv_iload_n hC.1 hC.2.1 dX7_north_85 rfl (lv_at hl 1 rfl) ?_
      refine lv_aload_n hC.1 hC.2.1 dX7_north_86 rfl (lv_at hl 0 rfl) ?_
      refine g7_readShades hC hw q4_147 dX7_north_87 ?_
      refine lv_iload_n hC.1 hC.2.1 dX7_north_90 rfl (lv_at hl 1 rfl) ?_
      obtain ⟨n8, hF⟩ := ifO hF
      refine r_iald hC.1 hC.2.1 hw (rfl : kd 103 = 1) n8 dX7_north_91 ?_
      obtain ⟨n9, hF⟩ := ifO hF
      refine r_iast hC.1 hC.2.1 hw (rfl : kd 95 = 1) n9 dX7_north_92 (fun H locs hw => ?_)
      obtain ⟨M10, hw, hF⟩ := lt1W hF hw
      refine lv_aload_n hC.1 hC.2.1 dX7_north_93 rfl (lv_at hl 0 rfl) ?_
      refine g7_own hC hw q4_128 dX7_north_94 ?_
      refine lv_iload_n hC.1 hC.2.1 dX7_north_97 rfl (lv_at hl 1 rfl) ?_
      refine lv_aload_n hC.1 hC.2.1 dX7_north_98 rfl (lv_at hl 0 rfl) ?_
      refine g7_readOwn hC hw q4_148 dX7_north_99 ?_
      refine lv_iload_n hC.1 hC.2.1 dX7_north_102 rfl (lv_at hl 1 rfl) ?_
      obtain ⟨n11, hF⟩ := ifO hF
      refine r_iald hC.1 hC.2.1 hw (rfl : kd 104 = 1) n11 dX7_north_103 ?_
      obtain ⟨n12, hF⟩ := ifO hF
      refine r_iast hC.1 hC.2.1 hw (rfl : kd 92 = 1) n12 dX7_north_104 (fun H locs hw => ?_)
      obtain ⟨M13, hw, hF⟩ := lt1W hF hw
      refine lv_iinc (v := (x2 + (1 : Int32))) (lv' := [(2, .int (x2 + (1 : Int32))), (0, .ref (ad G 86))]) hC.1 hC.2.1 dX7_north_105 hl (k := 1) rfl rfl (by decide) rfl (fun ls hl => ?_)
      refine lv_goto (tgt := 49) hC.1 hC.2.1 dX7_north_108 (by decide) ?_
      exact ih hF hw (lv_sub hl [1, 0] rfl)
def F_X7_north (fu : Nat) (M : Mm) (x1 : Int32) : Option (Int32 × Mm) :=
  ob1 (F_X7_isText fu M x1) (fun r2 =>
  if r2 = 0 then
    some ((-1 : Int32), M)
  else
    if x1 < 0 ∨ ln 90 ≤ x1.toNatClampNeg then none else (
    if (M.1 90 x1.toNatClampNeg) = (-9 : Int32) then
      ob2 (F_X7_finds fu M (1 : Int32)) (fun r12 M13 =>
      some (r12, M13))
    else
      ob2 (F_X7_reads fu M x1) (fun r7 M8 =>
      if r7 = (-9 : Int32) then
        lt1 (pI M8 86 4 (M8.1 86 22)) (fun M10 =>
        F_X7_north_49 fu fu M10 (0 : Int32))
      else
        some ((-4 : Int32), M8))))
set_option maxRecDepth 100000 in
set_option maxHeartbeats 4000000 in
theorem c_X7_north {l : Launch} {G : Gv} {fu : Nat} {M : Mm} {x1 : Int32} {r : Int32} {M' : Mm} (hF : F_X7_north fu M x1 = some (r, M')) : Met l yX7_north (.code yX7_north cX7_north 3 (some .int) :: zU) rm_X7_north (va_Pc [.ref (ad G 86), .int x1] (Wd G M)) (QI G r M') 0 0 (zA G) := by
  refine zMet (by decide) rfl (Nat.le_of_ble_eq_true rfl) ?_
  intro p e s m below meth c hC hw ls hl
  have hl : lv_has ls 3 [(0, .ref (ad G 86)), (1, .int x1)] := hl
  unfold F_X7_north at hF
  refine lv_iload_n hC.1 hC.2.1 dX7_north_0 rfl (lv_at hl 1 rfl) ?_
  obtain ⟨r2, h1, hF⟩ := ob1S hF
  refine k_Si (As := [.int x1]) (rest := []) hC hw (c_X7_isText (M := M) h1) ys_X7_isText q5_42 ⟨rfl, rfl⟩ ⟨Nat.le_of_ble_eq_true rfl, Nat.le_of_ble_eq_true rfl⟩ ⟨Nat.zero_le _, Nat.zero_le _⟩ rfl rfl (Nat.le_of_ble_eq_true rfl) hl dX7_north_1 (fun H locs hw => ?_)
  refine lv_if_ne (tgt := 9) hC.1 hC.2.1 dX7_north_4 (by decide) (fun b3 => ?_) (fun b3 => ?_)
  · have hF := ifN hF b3
    refine lv_aload_n hC.1 hC.2.1 dX7_north_9 rfl (lv_at hl 0 rfl) ?_
    refine g7_textLong hC hw q4_125 dX7_north_10 ?_
    refine lv_iload_n hC.1 hC.2.1 dX7_north_13 rfl (lv_at hl 1 rfl) ?_
    obtain ⟨n4, hF⟩ := ifO hF
    refine r_iald hC.1 hC.2.1 hw (rfl : kd 90 = 1) n4 dX7_north_14 ?_
    refine lv_bipush (v := (-9 : Int32)) hC.1 hC.2.1 dX7_north_15 (by decide) ?_
    refine lv_icmp_ne (tgt := 26) hC.1 hC.2.1 dX7_north_17 (by decide) (fun b5 => ?_) (fun b5 => ?_)
    · have hF := ifN hF b5
      refine lv_aload_n hC.1 hC.2.1 dX7_north_26 rfl (lv_at hl 0 rfl) ?_
      refine lv_iload_n hC.1 hC.2.1 dX7_north_27 rfl (lv_at hl 1 rfl) ?_
      obtain ⟨r7, M8, h6, hF⟩ := ob2S hF
      refine k_Vi (As := [.int x1]) (rest := []) hC hw (c_X7_reads (M := M) h6) RC_X yv_X7_reads q5_54 ⟨rfl, rfl⟩ ⟨Nat.le_of_ble_eq_true rfl, Nat.le_of_ble_eq_true rfl⟩ ⟨Nat.zero_le _, Nat.zero_le _⟩ rfl rfl (Nat.le_of_ble_eq_true rfl) hl dX7_north_28 (fun H locs hw => ?_)
      refine lv_bipush (v := (-9 : Int32)) hC.1 hC.2.1 dX7_north_31 (by decide) ?_
      refine lv_icmp_eq (tgt := 39) hC.1 hC.2.1 dX7_north_33 (by decide) (fun b9 => ?_) (fun b9 => ?_)
      · have hF := ifP hF b9
        refine lv_aload_n hC.1 hC.2.1 dX7_north_39 rfl (lv_at hl 0 rfl) ?_
        refine lv_aload_n hC.1 hC.2.1 dX7_north_40 rfl (lv_at hl 0 rfl) ?_
        refine g7_readMen hC hw q4_144 dX7_north_41 ?_
        refine u7_men hC hw q4_126 dX7_north_44 (fun H locs hw => ?_)
        obtain ⟨M10, hw, hF⟩ := lt1W hF hw
        refine lv_iconst (v := (0 : Int32)) hC.1 hC.2.1 dX7_north_47 (by decide) ?_
        refine lv_istore_n (lv' := [(2, .int (0 : Int32)), (0, .ref (ad G 86)), (1, .int x1)]) hC.1 hC.2.1 dX7_north_48 rfl hl (by decide) rfl (fun ls hl => ?_)
        exact w_X7_north_49 hC _ hF hw (lv_sub hl [1, 0] rfl)
      · have hF := ifN hF b9
        refine lv_bipush (v := (-4 : Int32)) hC.1 hC.2.1 dX7_north_36 (by decide) ?_
        exact r_iretE hC hw hF dX7_north_38
    · have hF := ifP hF b5
      refine lv_aload_n hC.1 hC.2.1 dX7_north_20 rfl (lv_at hl 0 rfl) ?_
      refine lv_iconst (v := (1 : Int32)) hC.1 hC.2.1 dX7_north_21 (by decide) ?_
      obtain ⟨r12, M13, h11, hF⟩ := ob2S hF
      refine k_Vi (As := [.int (1 : Int32)]) (rest := []) hC hw (c_X7_finds (M := M) h11) RC_X yv_X7_finds q5_6 ⟨rfl, rfl⟩ ⟨Nat.le_of_ble_eq_true rfl, Nat.le_of_ble_eq_true rfl⟩ ⟨Nat.zero_le _, Nat.zero_le _⟩ rfl rfl (Nat.le_of_ble_eq_true rfl) hl dX7_north_22 (fun H locs hw => ?_)
      exact r_iretE hC hw hF dX7_north_25
  · have hF := ifP hF b3
    refine lv_iconst (v := (-1 : Int32)) hC.1 hC.2.1 dX7_north_7 (by decide) ?_
    exact r_iretE hC hw hF dX7_north_8
abbrev rm_X7_isHatted : Room := { frames := 0, cells := 0, slots := 0, locals := 0 }
theorem ys_X7_isHatted : YS yX7_isHatted cX7_isHatted 1 (some .boolean) 1 := ⟨⟨q5_125, q1_8, q5_126⟩, by decide +kernel⟩
theorem dX7_isHatted_0 : decode cX7_isHatted 0 = .ok (.iload_n 0, 1) := by decide +kernel
theorem dX7_isHatted_1 : decode cX7_isHatted 1 = .ok (.iconst 1, 1) := by decide +kernel
theorem dX7_isHatted_2 : decode cX7_isHatted 2 = .ok (.if_icmp .eq 13, 3) := by decide +kernel
theorem dX7_isHatted_5 : decode cX7_isHatted 5 = .ok (.iload_n 0, 1) := by decide +kernel
theorem dX7_isHatted_6 : decode cX7_isHatted 6 = .ok (.iconst 4, 1) := by decide +kernel
theorem dX7_isHatted_7 : decode cX7_isHatted 7 = .ok (.if_icmp .eq 8, 3) := by decide +kernel
theorem dX7_isHatted_10 : decode cX7_isHatted 10 = .ok (.iload_n 0, 1) := by decide +kernel
theorem dX7_isHatted_11 : decode cX7_isHatted 11 = .ok (.iconst 5, 1) := by decide +kernel
theorem dX7_isHatted_12 : decode cX7_isHatted 12 = .ok (.if_icmp .ne 7, 3) := by decide +kernel
theorem dX7_isHatted_15 : decode cX7_isHatted 15 = .ok (.iconst 1, 1) := by decide +kernel
theorem dX7_isHatted_16 : decode cX7_isHatted 16 = .ok (.goto 4, 3) := by decide +kernel
theorem dX7_isHatted_19 : decode cX7_isHatted 19 = .ok (.iconst 0, 1) := by decide +kernel
theorem dX7_isHatted_20 : decode cX7_isHatted 20 = .ok (.ireturn, 1) := by decide +kernel
def F_X7_isHatted (fu : Nat) (M : Mm) (x0 : Int32) : Option Int32 :=
  if x0 = (1 : Int32) then
    some (1 : Int32)
  else
    if x0 = (4 : Int32) then
      some (1 : Int32)
    else
      if x0 = (5 : Int32) then
        some (1 : Int32)
      else
        some (0 : Int32)
set_option maxRecDepth 100000 in
set_option maxHeartbeats 4000000 in
theorem c_X7_isHatted {l : Launch} {G : Gv} {fu : Nat} {M : Mm} {x0 : Int32} {r : Int32} (hF : F_X7_isHatted fu M x0 = some r) : Met l yX7_isHatted (.code yX7_isHatted cX7_isHatted 1 (some .boolean) :: zU) rm_X7_isHatted (va_Pc [.int x0] (Wd G M)) (QI G r M) 0 0 (zA G) := by
  refine zMet (by decide) rfl (Nat.le_of_ble_eq_true rfl) ?_
  intro p e s m below meth c hC hw ls hl
  have hl : lv_has ls 1 [(0, .int x0)] := hl
  unfold F_X7_isHatted at hF
  refine lv_iload_n hC.1 hC.2.1 dX7_isHatted_0 rfl (lv_at hl 0 rfl) ?_
  refine lv_iconst (v := (1 : Int32)) hC.1 hC.2.1 dX7_isHatted_1 (by decide) ?_
  refine lv_icmp_eq (tgt := 15) hC.1 hC.2.1 dX7_isHatted_2 (by decide) (fun b1 => ?_) (fun b1 => ?_)
  · have hF := ifP hF b1
    refine lv_iconst (v := (1 : Int32)) hC.1 hC.2.1 dX7_isHatted_15 (by decide) ?_
    refine lv_goto (tgt := 20) hC.1 hC.2.1 dX7_isHatted_16 (by decide) ?_
    exact r_zretP hC hw (by decide) hF dX7_isHatted_20
  · have hF := ifN hF b1
    refine lv_iload_n hC.1 hC.2.1 dX7_isHatted_5 rfl (lv_at hl 0 rfl) ?_
    refine lv_iconst (v := (4 : Int32)) hC.1 hC.2.1 dX7_isHatted_6 (by decide) ?_
    refine lv_icmp_eq (tgt := 15) hC.1 hC.2.1 dX7_isHatted_7 (by decide) (fun b2 => ?_) (fun b2 => ?_)
    · have hF := ifP hF b2
      refine lv_iconst (v := (1 : Int32)) hC.1 hC.2.1 dX7_isHatted_15 (by decide) ?_
      refine lv_goto (tgt := 20) hC.1 hC.2.1 dX7_isHatted_16 (by decide) ?_
      exact r_zretP hC hw (by decide) hF dX7_isHatted_20
    · have hF := ifN hF b2
      refine lv_iload_n hC.1 hC.2.1 dX7_isHatted_10 rfl (lv_at hl 0 rfl) ?_
      refine lv_iconst (v := (5 : Int32)) hC.1 hC.2.1 dX7_isHatted_11 (by decide) ?_
      refine lv_icmp_ne (tgt := 19) hC.1 hC.2.1 dX7_isHatted_12 (by decide) (fun b3 => ?_) (fun b3 => ?_)
      · have hF := ifN hF b3
        refine lv_iconst (v := (0 : Int32)) hC.1 hC.2.1 dX7_isHatted_19 (by decide) ?_
        exact r_zretP hC hw (by decide) hF dX7_isHatted_20
      · have hF := ifP hF b3
        refine lv_iconst (v := (1 : Int32)) hC.1 hC.2.1 dX7_isHatted_15 (by decide) ?_
        refine lv_goto (tgt := 20) hC.1 hC.2.1 dX7_isHatted_16 (by decide) ?_
        exact r_zretP hC hw (by decide) hF dX7_isHatted_20
abbrev rm_X7_melts : Room := { frames := 1, cells := 0, slots := 0, locals := 21 }
theorem yv_X7_melts : YV yX7_melts cX7_melts 5 (some .int) 3 RX7 := ⟨⟨q5_111, qs_46, q1_8, q5_112⟩, by decide +kernel⟩
theorem dX7_melts_0 : decode cX7_melts 0 = .ok (.iconst 0, 1) := by decide +kernel
theorem dX7_melts_1 : decode cX7_melts 1 = .ok (.aload_n 0, 1) := by decide +kernel
theorem dX7_melts_2 : decode cX7_melts 2 = .ok (.getfield 28, 3) := by decide +kernel
theorem dX7_melts_5 : decode cX7_melts 5 = .ok (.iload_n 3, 1) := by decide +kernel
theorem dX7_melts_6 : decode cX7_melts 6 = .ok (.bipush 8, 2) := by decide +kernel
theorem dX7_melts_8 : decode cX7_melts 8 = .ok (.irem, 1) := by decide +kernel
theorem dX7_melts_9 : decode cX7_melts 9 = .ok (.iaload, 1) := by decide +kernel
theorem dX7_melts_10 : decode cX7_melts 10 = .ok (.iload_n 2, 1) := by decide +kernel
theorem dX7_melts_11 : decode cX7_melts 11 = .ok (.isub, 1) := by decide +kernel
theorem dX7_melts_12 : decode cX7_melts 12 = .ok (.invokestatic 173, 3) := by decide +kernel
theorem dX7_melts_15 : decode cX7_melts 15 = .ok (.istore 4, 2) := by decide +kernel
theorem dX7_melts_17 : decode cX7_melts 17 = .ok (.iload_n 1, 1) := by decide +kernel
theorem dX7_melts_18 : decode cX7_melts 18 = .ok (.tableswitch 72 1 5 #[63, 34, 39, 63, 44], 34) := by decide +kernel
theorem dX7_melts_52 : decode cX7_melts 52 = .ok (.iload 4, 2) := by decide +kernel
theorem dX7_melts_54 : decode cX7_melts 54 = .ok (.iconst 2, 1) := by decide +kernel
theorem dX7_melts_55 : decode cX7_melts 55 = .ok (.idiv, 1) := by decide +kernel
theorem dX7_melts_56 : decode cX7_melts 56 = .ok (.ireturn, 1) := by decide +kernel
theorem dX7_melts_57 : decode cX7_melts 57 = .ok (.iload 4, 2) := by decide +kernel
theorem dX7_melts_59 : decode cX7_melts 59 = .ok (.iconst 1, 1) := by decide +kernel
theorem dX7_melts_60 : decode cX7_melts 60 = .ok (.iadd, 1) := by decide +kernel
theorem dX7_melts_61 : decode cX7_melts 61 = .ok (.ireturn, 1) := by decide +kernel
theorem dX7_melts_62 : decode cX7_melts 62 = .ok (.iload_n 3, 1) := by decide +kernel
theorem dX7_melts_63 : decode cX7_melts 63 = .ok (.iconst 2, 1) := by decide +kernel
theorem dX7_melts_64 : decode cX7_melts 64 = .ok (.irem, 1) := by decide +kernel
theorem dX7_melts_65 : decode cX7_melts 65 = .ok (.ifCond .ne 7, 3) := by decide +kernel
theorem dX7_melts_68 : decode cX7_melts 68 = .ok (.iconst 0, 1) := by decide +kernel
theorem dX7_melts_69 : decode cX7_melts 69 = .ok (.goto 11, 3) := by decide +kernel
theorem dX7_melts_72 : decode cX7_melts 72 = .ok (.iconst 0, 1) := by decide +kernel
theorem dX7_melts_73 : decode cX7_melts 73 = .ok (.iload 4, 2) := by decide +kernel
theorem dX7_melts_75 : decode cX7_melts 75 = .ok (.iconst 1, 1) := by decide +kernel
theorem dX7_melts_76 : decode cX7_melts 76 = .ok (.isub, 1) := by decide +kernel
theorem dX7_melts_77 : decode cX7_melts 77 = .ok (.invokestatic 173, 3) := by decide +kernel
theorem dX7_melts_80 : decode cX7_melts 80 = .ok (.ireturn, 1) := by decide +kernel
theorem dX7_melts_81 : decode cX7_melts 81 = .ok (.iconst 0, 1) := by decide +kernel
theorem dX7_melts_82 : decode cX7_melts 82 = .ok (.iload 4, 2) := by decide +kernel
theorem dX7_melts_84 : decode cX7_melts 84 = .ok (.iconst 1, 1) := by decide +kernel
theorem dX7_melts_85 : decode cX7_melts 85 = .ok (.isub, 1) := by decide +kernel
theorem dX7_melts_86 : decode cX7_melts 86 = .ok (.invokestatic 173, 3) := by decide +kernel
theorem dX7_melts_89 : decode cX7_melts 89 = .ok (.ireturn, 1) := by decide +kernel
theorem dX7_melts_90 : decode cX7_melts 90 = .ok (.iload 4, 2) := by decide +kernel
theorem dX7_melts_92 : decode cX7_melts 92 = .ok (.ireturn, 1) := by decide +kernel
def F_X7_melts (fu : Nat) (M : Mm) (x1 : Int32) (x2 : Int32) (x3 : Int32) : Option Int32 :=
  if (x3 - x3 / (8 : Int32) * (8 : Int32)) < 0 ∨ ln 93 ≤ (x3 - x3 / (8 : Int32) * (8 : Int32)).toNatClampNeg then none else (
  ob1 (F_X7_most fu M (0 : Int32) ((M.1 93 (x3 - x3 / (8 : Int32) * (8 : Int32)).toNatClampNeg) - x2)) (fun r3 =>
  if x1 = (1 : Int32) then
    ob1 (F_X7_most fu M (0 : Int32) (r3 - (1 : Int32))) (fun r6 =>
    some r6)
  else
  if x1 = (2 : Int32) then
    some (r3 / (2 : Int32))
  else
  if x1 = (3 : Int32) then
    some (r3 + (1 : Int32))
  else
  if x1 = (4 : Int32) then
    ob1 (F_X7_most fu M (0 : Int32) (r3 - (1 : Int32))) (fun r11 =>
    some r11)
  else
  if x1 = (5 : Int32) then
    if (x3 - x3 / (2 : Int32) * (2 : Int32)) = 0 then
      some (0 : Int32)
    else
      ob1 (F_X7_most fu M (0 : Int32) (r3 - (1 : Int32))) (fun r15 =>
      some r15)
  else
  some r3))
set_option maxRecDepth 100000 in
set_option maxHeartbeats 4000000 in
theorem c_X7_melts {l : Launch} {G : Gv} {fu : Nat} {M : Mm} {x1 : Int32} {x2 : Int32} {x3 : Int32} {r : Int32} (hF : F_X7_melts fu M x1 x2 x3 = some r) : Met l yX7_melts (.code yX7_melts cX7_melts 5 (some .int) :: zU) rm_X7_melts (va_Pc [.ref (ad G 86), .int x1, .int x2, .int x3] (Wd G M)) (QI G r M) 0 0 (zA G) := by
  refine zMet (by decide) rfl (Nat.le_of_ble_eq_true rfl) ?_
  intro p e s m below meth c hC hw ls hl
  have hl : lv_has ls 5 [(0, .ref (ad G 86)), (1, .int x1), (2, .int x2), (3, .int x3)] := hl
  unfold F_X7_melts at hF
  refine lv_iconst (v := (0 : Int32)) hC.1 hC.2.1 dX7_melts_0 (by decide) ?_
  refine lv_aload_n hC.1 hC.2.1 dX7_melts_1 rfl (lv_at hl 0 rfl) ?_
  refine g7_suns hC hw q4_129 dX7_melts_2 ?_
  refine lv_iload_n hC.1 hC.2.1 dX7_melts_5 rfl (lv_at hl 3 rfl) ?_
  refine lv_bipush (v := (8 : Int32)) hC.1 hC.2.1 dX7_melts_6 (by decide) ?_
  refine lv_irem hC.1 hC.2.1 dX7_melts_8 (by decide) ?_
  obtain ⟨n1, hF⟩ := ifO hF
  refine r_iald hC.1 hC.2.1 hw (rfl : kd 93 = 1) n1 dX7_melts_9 ?_
  refine lv_iload_n hC.1 hC.2.1 dX7_melts_10 rfl (lv_at hl 2 rfl) ?_
  refine lv_isub hC.1 hC.2.1 dX7_melts_11 ?_
  obtain ⟨r3, h2, hF⟩ := ob1S hF
  refine k_Si (As := [.int (0 : Int32), .int ((M.1 93 (x3 - x3 / (8 : Int32) * (8 : Int32)).toNatClampNeg) - x2)]) (rest := []) hC hw (c_X7_most (M := M) h2) ys_X7_most q5_113 ⟨rfl, rfl⟩ ⟨Nat.le_of_ble_eq_true rfl, Nat.le_of_ble_eq_true rfl⟩ ⟨Nat.zero_le _, Nat.zero_le _⟩ rfl rfl (Nat.le_of_ble_eq_true rfl) hl dX7_melts_12 (fun H locs hw => ?_)
  refine lv_istore (lv' := [(4, .int r3), (0, .ref (ad G 86)), (1, .int x1), (2, .int x2), (3, .int x3)]) hC.1 hC.2.1 dX7_melts_15 hl (by decide) rfl (fun ls hl => ?_)
  refine lv_iload_n hC.1 hC.2.1 dX7_melts_17 rfl (lv_at hl 2 rfl) ?_
  rcases Classical.em (x1 = (1 : Int32)) with w4 | w4
  · have hF := ifP hF w4
    refine r_swI (v := (1 : Int32)) (off := 63) (tgt := 81) hC.1 hC.2.1 w4 dX7_melts_18 (by decide) (by decide) rfl (by decide) ?_
    refine lv_iconst (v := (0 : Int32)) hC.1 hC.2.1 dX7_melts_81 (by decide) ?_
    refine lv_iload hC.1 hC.2.1 dX7_melts_82 (lv_at hl 0 rfl) ?_
    refine lv_iconst (v := (1 : Int32)) hC.1 hC.2.1 dX7_melts_84 (by decide) ?_
    refine lv_isub hC.1 hC.2.1 dX7_melts_85 ?_
    obtain ⟨r6, h5, hF⟩ := ob1S hF
    refine k_Si (As := [.int (0 : Int32), .int (r3 - (1 : Int32))]) (rest := []) hC hw (c_X7_most (M := M) h5) ys_X7_most q5_113 ⟨rfl, rfl⟩ ⟨Nat.le_of_ble_eq_true rfl, Nat.le_of_ble_eq_true rfl⟩ ⟨Nat.zero_le _, Nat.zero_le _⟩ rfl rfl (Nat.le_of_ble_eq_true rfl) hl dX7_melts_86 (fun H locs hw => ?_)
    exact r_iretP hC hw hF dX7_melts_89
  have hF := ifN hF w4
  rcases Classical.em (x1 = (2 : Int32)) with w7 | w7
  · have hF := ifP hF w7
    refine r_swI (v := (2 : Int32)) (off := 34) (tgt := 52) hC.1 hC.2.1 w7 dX7_melts_18 (by decide) (by decide) rfl (by decide) ?_
    refine lv_iload hC.1 hC.2.1 dX7_melts_52 (lv_at hl 0 rfl) ?_
    refine lv_iconst (v := (2 : Int32)) hC.1 hC.2.1 dX7_melts_54 (by decide) ?_
    refine lv_idiv hC.1 hC.2.1 dX7_melts_55 (by decide) ?_
    exact r_iretP hC hw hF dX7_melts_56
  have hF := ifN hF w7
  rcases Classical.em (x1 = (3 : Int32)) with w8 | w8
  · have hF := ifP hF w8
    refine r_swI (v := (3 : Int32)) (off := 39) (tgt := 57) hC.1 hC.2.1 w8 dX7_melts_18 (by decide) (by decide) rfl (by decide) ?_
    refine lv_iload hC.1 hC.2.1 dX7_melts_57 (lv_at hl 0 rfl) ?_
    refine lv_iconst (v := (1 : Int32)) hC.1 hC.2.1 dX7_melts_59 (by decide) ?_
    refine lv_iadd hC.1 hC.2.1 dX7_melts_60 ?_
    exact r_iretP hC hw hF dX7_melts_61
  have hF := ifN hF w8
  rcases Classical.em (x1 = (4 : Int32)) with w9 | w9
  · have hF := ifP hF w9
    refine r_swI (v := (4 : Int32)) (off := 63) (tgt := 81) hC.1 hC.2.1 w9 dX7_melts_18 (by decide) (by decide) rfl (by decide) ?_
    refine lv_iconst (v := (0 : Int32)) hC.1 hC.2.1 dX7_melts_81 (by decide) ?_
    refine lv_iload hC.1 hC.2.1 dX7_melts_82 (lv_at hl 0 rfl) ?_
    refine lv_iconst (v := (1 : Int32)) hC.1 hC.2.1 dX7_melts_84 (by decide) ?_
    refine lv_isub hC.1 hC.2.1 dX7_melts_85 ?_
    obtain ⟨r11, h10, hF⟩ := ob1S hF
    refine k_Si (As := [.int (0 : Int32), .int (r3 - (1 : Int32))]) (rest := []) hC hw (c_X7_most (M := M) h10) ys_X7_most q5_113 ⟨rfl, rfl⟩ ⟨Nat.le_of_ble_eq_true rfl, Nat.le_of_ble_eq_true rfl⟩ ⟨Nat.zero_le _, Nat.zero_le _⟩ rfl rfl (Nat.le_of_ble_eq_true rfl) hl dX7_melts_86 (fun H locs hw => ?_)
    exact r_iretP hC hw hF dX7_melts_89
  have hF := ifN hF w9
  rcases Classical.em (x1 = (5 : Int32)) with w12 | w12
  · have hF := ifP hF w12
    refine r_swI (v := (5 : Int32)) (off := 44) (tgt := 62) hC.1 hC.2.1 w12 dX7_melts_18 (by decide) (by decide) rfl (by decide) ?_
    refine lv_iload_n hC.1 hC.2.1 dX7_melts_62 rfl (lv_at hl 4 rfl) ?_
    refine lv_iconst (v := (2 : Int32)) hC.1 hC.2.1 dX7_melts_63 (by decide) ?_
    refine lv_irem hC.1 hC.2.1 dX7_melts_64 (by decide) ?_
    refine lv_if_ne (tgt := 72) hC.1 hC.2.1 dX7_melts_65 (by decide) (fun b13 => ?_) (fun b13 => ?_)
    · have hF := ifN hF b13
      refine lv_iconst (v := (0 : Int32)) hC.1 hC.2.1 dX7_melts_72 (by decide) ?_
      refine lv_iload hC.1 hC.2.1 dX7_melts_73 (lv_at hl 0 rfl) ?_
      refine lv_iconst (v := (1 : Int32)) hC.1 hC.2.1 dX7_melts_75 (by decide) ?_
      refine lv_isub hC.1 hC.2.1 dX7_melts_76 ?_
      obtain ⟨r15, h14, hF⟩ := ob1S hF
      refine k_Si (As := [.int (0 : Int32), .int (r3 - (1 : Int32))]) (rest := []) hC hw (c_X7_most (M := M) h14) ys_X7_most q5_113 ⟨rfl, rfl⟩ ⟨Nat.le_of_ble_eq_true rfl, Nat.le_of_ble_eq_true rfl⟩ ⟨Nat.zero_le _, Nat.zero_le _⟩ rfl rfl (Nat.le_of_ble_eq_true rfl) hl dX7_melts_77 (fun H locs hw => ?_)
      exact r_iretP hC hw hF dX7_melts_80
    · have hF := ifP hF b13
      refine lv_iconst (v := (0 : Int32)) hC.1 hC.2.1 dX7_melts_68 (by decide) ?_
      refine lv_goto (tgt := 80) hC.1 hC.2.1 dX7_melts_69 (by decide) ?_
      exact r_iretP hC hw hF dX7_melts_80
  have hF := ifN hF w12
  refine r_swD (tgt := 90) (vs := [(1 : Int32), (2 : Int32), (3 : Int32), (4 : Int32), (5 : Int32)]) hC.1 hC.2.1 (List.forall_mem_cons.mpr ⟨w4, List.forall_mem_cons.mpr ⟨w7, List.forall_mem_cons.mpr ⟨w8, List.forall_mem_cons.mpr ⟨w9, List.forall_mem_cons.mpr ⟨w12, fun v hv => absurd hv List.not_mem_nil⟩⟩⟩⟩⟩) dX7_melts_18 (by decide) rfl (by decide) ?_
  refine lv_iload hC.1 hC.2.1 dX7_melts_90 (lv_at hl 0 rfl) ?_
  exact r_iretP hC hw hF dX7_melts_92
abbrev rm_X7_bulkAfter : Room := { frames := 2, cells := 0, slots := 0, locals := 45 }
theorem yv_X7_bulkAfter : YV yX7_bulkAfter cX7_bulkAfter 7 (some .int) 4 RX7 := ⟨⟨q5_107, qs_45, q1_8, q5_108⟩, by decide +kernel⟩
theorem dX7_bulkAfter_0 : decode cX7_bulkAfter 0 = .ok (.iload_n 2, 1) := by decide +kernel
theorem dX7_bulkAfter_1 : decode cX7_bulkAfter 1 = .ok (.istore 5, 2) := by decide +kernel
theorem dX7_bulkAfter_3 : decode cX7_bulkAfter 3 = .ok (.iconst 0, 1) := by decide +kernel
theorem dX7_bulkAfter_4 : decode cX7_bulkAfter 4 = .ok (.istore 6, 2) := by decide +kernel
theorem dX7_bulkAfter_6 : decode cX7_bulkAfter 6 = .ok (.iload 6, 2) := by decide +kernel
theorem dX7_bulkAfter_8 : decode cX7_bulkAfter 8 = .ok (.iload 4, 2) := by decide +kernel
theorem dX7_bulkAfter_10 : decode cX7_bulkAfter 10 = .ok (.if_icmp .ge 31, 3) := by decide +kernel
theorem dX7_bulkAfter_13 : decode cX7_bulkAfter 13 = .ok (.iconst 0, 1) := by decide +kernel
theorem dX7_bulkAfter_14 : decode cX7_bulkAfter 14 = .ok (.iload 5, 2) := by decide +kernel
theorem dX7_bulkAfter_16 : decode cX7_bulkAfter 16 = .ok (.aload_n 0, 1) := by decide +kernel
theorem dX7_bulkAfter_17 : decode cX7_bulkAfter 17 = .ok (.iload_n 1, 1) := by decide +kernel
theorem dX7_bulkAfter_18 : decode cX7_bulkAfter 18 = .ok (.iload_n 3, 1) := by decide +kernel
theorem dX7_bulkAfter_19 : decode cX7_bulkAfter 19 = .ok (.aload_n 0, 1) := by decide +kernel
theorem dX7_bulkAfter_20 : decode cX7_bulkAfter 20 = .ok (.getfield 167, 3) := by decide +kernel
theorem dX7_bulkAfter_23 : decode cX7_bulkAfter 23 = .ok (.iload 6, 2) := by decide +kernel
theorem dX7_bulkAfter_25 : decode cX7_bulkAfter 25 = .ok (.iadd, 1) := by decide +kernel
theorem dX7_bulkAfter_26 : decode cX7_bulkAfter 26 = .ok (.invokevirtual 177, 3) := by decide +kernel
theorem dX7_bulkAfter_29 : decode cX7_bulkAfter 29 = .ok (.isub, 1) := by decide +kernel
theorem dX7_bulkAfter_30 : decode cX7_bulkAfter 30 = .ok (.invokestatic 173, 3) := by decide +kernel
theorem dX7_bulkAfter_33 : decode cX7_bulkAfter 33 = .ok (.istore 5, 2) := by decide +kernel
theorem dX7_bulkAfter_35 : decode cX7_bulkAfter 35 = .ok (.iinc 6 1, 3) := by decide +kernel
theorem dX7_bulkAfter_38 : decode cX7_bulkAfter 38 = .ok (.goto (-32), 3) := by decide +kernel
theorem dX7_bulkAfter_41 : decode cX7_bulkAfter 41 = .ok (.iload 5, 2) := by decide +kernel
theorem dX7_bulkAfter_43 : decode cX7_bulkAfter 43 = .ok (.ireturn, 1) := by decide +kernel
def F_X7_bulkAfter_6 (fu : Nat) (M : Mm) : Nat → Int32 → Int32 → Int32 → Int32 → Int32 → Option Int32
  | 0, _, _, _, _, _ => none
  | n + 1, x1, x3, x4, x5, x6 =>
    if x4 ≤ x6 then
      some x5
    else
      ob1 (F_X7_melts fu M x1 x3 ((M.1 86 11) + x6)) (fun r3 =>
      ob1 (F_X7_most fu M (0 : Int32) (x5 - r3)) (fun r5 =>
      F_X7_bulkAfter_6 fu M n x1 x3 x4 r5 (x6 + (1 : Int32))))
set_option maxRecDepth 100000 in
set_option maxHeartbeats 4000000 in
theorem w_X7_bulkAfter_6 {p : Program} {l : Launch} {e : Env} {s : State} {m : MethodId} {args : Array Value} {below : List Frame} {meth : Method} {c : Code} {G : Gv} (hC : Cx p s m args meth c cX7_bulkAfter 7 (some .int) RX7) {fu : Nat} {r : Int32} {M : Mm} : ∀ (n : Nat) {x1 : Int32} {x3 : Int32} {x4 : Int32} {x5 : Int32} {x6 : Int32} {H : Heap} {locs : List Loc} {ls : Array Slot}, F_X7_bulkAfter_6 fu M n x1 x3 x4 x5 x6 = some r → St G s H locs M → lv_has ls 7 [(0, .ref (ad G 86)), (1, .int x1), (3, .int x3), (4, .int x4), (5, .int x5), (6, .int x6)] → W p l e rm_X7_bulkAfter s m args below meth c H locs 0 0 (MQ below (QI G r M) args s 0 0 (zA G)) (F0 m 6 ls []) := by
  intro n
  induction n with
  | zero =>
    intro x1 x3 x4 x5 x6 H locs ls hF hw hl
    cases hF
  | succ n ih =>
    intro x1 x3 x4 x5 x6 H locs ls hF hw hl
    unfold F_X7_bulkAfter_6 at hF
    refine lv_iload hC.1 hC.2.1 dX7_bulkAfter_6 (lv_at hl 5 rfl) ?_
    refine lv_iload hC.1 hC.2.1 dX7_bulkAfter_8 (lv_at hl 3 rfl) ?_
    refine lv_icmp_ge (tgt := 41) hC.1 hC.2.1 dX7_bulkAfter_10 (by decide) (fun b1 => ?_) (fun b1 => ?_)
    · have hF := ifP hF b1
      refine lv_iload hC.1 hC.2.1 dX7_bulkAfter_41 (lv_at hl 4 rfl) ?_
      exact r_iretP hC hw hF dX7_bulkAfter_43
    · have hF := ifN hF b1
      refine lv_iconst (v := (0 : Int32)) hC.1 hC.2.1 dX7_bulkAfter_13 (by decide) ?_
      refine lv_iload hC.1 hC.2.1 dX7_bulkAfter_14 (lv_at hl 4 rfl) ?_
      refine lv_aload_n hC.1 hC.2.1 dX7_bulkAfter_16 rfl (lv_at hl 0 rfl) ?_
      refine lv_iload_n hC.1 hC.2.1 dX7_bulkAfter_17 rfl (lv_at hl 1 rfl) ?_
      refine lv_iload_n hC.1 hC.2.1 dX7_bulkAfter_18 rfl (lv_at hl 2 rfl) ?_
      refine lv_aload_n hC.1 hC.2.1 dX7_bulkAfter_19 rfl (lv_at hl 0 rfl) ?_
      refine g7_dayIs hC hw q4_133 dX7_bulkAfter_20 ?_
      refine lv_iload hC.1 hC.2.1 dX7_bulkAfter_23 (lv_at hl 5 rfl) ?_
      refine lv_iadd hC.1 hC.2.1 dX7_bulkAfter_25 ?_
      obtain ⟨r3, h2, hF⟩ := ob1S hF
      refine k_Vi (As := [.int x1, .int x3, .int ((M.1 86 11) + x6)]) (rest := [.int x5, .int (0 : Int32)]) hC hw (c_X7_melts (M := M) h2) RC_X yv_X7_melts q5_109 ⟨rfl, rfl⟩ ⟨Nat.le_of_ble_eq_true rfl, Nat.le_of_ble_eq_true rfl⟩ ⟨Nat.zero_le _, Nat.zero_le _⟩ rfl rfl (Nat.le_of_ble_eq_true rfl) hl dX7_bulkAfter_26 (fun H locs hw => ?_)
      refine lv_isub hC.1 hC.2.1 dX7_bulkAfter_29 ?_
      obtain ⟨r5, h4, hF⟩ := ob1S hF
      refine k_Si (As := [.int (0 : Int32), .int (x5 - r3)]) (rest := []) hC hw (c_X7_most (M := M) h4) ys_X7_most q5_113 ⟨rfl, rfl⟩ ⟨Nat.le_of_ble_eq_true rfl, Nat.le_of_ble_eq_true rfl⟩ ⟨Nat.zero_le _, Nat.zero_le _⟩ rfl rfl (Nat.le_of_ble_eq_true rfl) hl dX7_bulkAfter_30 (fun H locs hw => ?_)
      refine lv_istore (lv' := [(5, .int r5), (0, .ref (ad G 86)), (1, .int x1), (3, .int x3), (4, .int x4), (6, .int x6)]) hC.1 hC.2.1 dX7_bulkAfter_33 hl (by decide) rfl (fun ls hl => ?_)
      refine lv_iinc (v := (x6 + (1 : Int32))) (lv' := [(6, .int (x6 + (1 : Int32))), (5, .int r5), (0, .ref (ad G 86)), (1, .int x1), (3, .int x3), (4, .int x4)]) hC.1 hC.2.1 dX7_bulkAfter_35 hl (k := 5) rfl rfl (by decide) rfl (fun ls hl => ?_)
      refine lv_goto (tgt := 6) hC.1 hC.2.1 dX7_bulkAfter_38 (by decide) ?_
      exact ih hF hw (lv_sub hl [2, 3, 4, 5, 1, 0] rfl)
def F_X7_bulkAfter (fu : Nat) (M : Mm) (x1 : Int32) (x2 : Int32) (x3 : Int32) (x4 : Int32) : Option Int32 :=
  F_X7_bulkAfter_6 fu M fu x1 x3 x4 x2 (0 : Int32)
set_option maxRecDepth 100000 in
set_option maxHeartbeats 4000000 in
theorem c_X7_bulkAfter {l : Launch} {G : Gv} {fu : Nat} {M : Mm} {x1 : Int32} {x2 : Int32} {x3 : Int32} {x4 : Int32} {r : Int32} (hF : F_X7_bulkAfter fu M x1 x2 x3 x4 = some r) : Met l yX7_bulkAfter (.code yX7_bulkAfter cX7_bulkAfter 7 (some .int) :: zU) rm_X7_bulkAfter (va_Pc [.ref (ad G 86), .int x1, .int x2, .int x3, .int x4] (Wd G M)) (QI G r M) 0 0 (zA G) := by
  refine zMet (by decide) rfl (Nat.le_of_ble_eq_true rfl) ?_
  intro p e s m below meth c hC hw ls hl
  have hl : lv_has ls 7 [(0, .ref (ad G 86)), (1, .int x1), (2, .int x2), (3, .int x3), (4, .int x4)] := hl
  unfold F_X7_bulkAfter at hF
  refine lv_iload_n hC.1 hC.2.1 dX7_bulkAfter_0 rfl (lv_at hl 2 rfl) ?_
  refine lv_istore (lv' := [(5, .int x2), (0, .ref (ad G 86)), (1, .int x1), (2, .int x2), (3, .int x3), (4, .int x4)]) hC.1 hC.2.1 dX7_bulkAfter_1 hl (by decide) rfl (fun ls hl => ?_)
  refine lv_iconst (v := (0 : Int32)) hC.1 hC.2.1 dX7_bulkAfter_3 (by decide) ?_
  refine lv_istore (lv' := [(6, .int (0 : Int32)), (5, .int x2), (0, .ref (ad G 86)), (1, .int x1), (2, .int x2), (3, .int x3), (4, .int x4)]) hC.1 hC.2.1 dX7_bulkAfter_4 hl (by decide) rfl (fun ls hl => ?_)
  exact w_X7_bulkAfter_6 hC _ hF hw (lv_sub hl [2, 3, 5, 6, 1, 0] rfl)
abbrev rm_X7_bulkThen : Room := { frames := 3, cells := 0, slots := 0, locals := 71 }
theorem yv_X7_bulkThen : YV yX7_bulkThen cX7_bulkThen 3 (some .int) 2 RX7 := ⟨⟨q5_103, qs_44, q1_8, q5_104⟩, by decide +kernel⟩
theorem dX7_bulkThen_0 : decode cX7_bulkThen 0 = .ok (.aload_n 0, 1) := by decide +kernel
theorem dX7_bulkThen_1 : decode cX7_bulkThen 1 = .ok (.aload_n 0, 1) := by decide +kernel
theorem dX7_bulkThen_2 : decode cX7_bulkThen 2 = .ok (.getfield 22, 3) := by decide +kernel
theorem dX7_bulkThen_5 : decode cX7_bulkThen 5 = .ok (.iload_n 1, 1) := by decide +kernel
theorem dX7_bulkThen_6 : decode cX7_bulkThen 6 = .ok (.iaload, 1) := by decide +kernel
theorem dX7_bulkThen_7 : decode cX7_bulkThen 7 = .ok (.aload_n 0, 1) := by decide +kernel
theorem dX7_bulkThen_8 : decode cX7_bulkThen 8 = .ok (.getfield 31, 3) := by decide +kernel
theorem dX7_bulkThen_11 : decode cX7_bulkThen 11 = .ok (.iload_n 1, 1) := by decide +kernel
theorem dX7_bulkThen_12 : decode cX7_bulkThen 12 = .ok (.iaload, 1) := by decide +kernel
theorem dX7_bulkThen_13 : decode cX7_bulkThen 13 = .ok (.aload_n 0, 1) := by decide +kernel
theorem dX7_bulkThen_14 : decode cX7_bulkThen 14 = .ok (.getfield 34, 3) := by decide +kernel
theorem dX7_bulkThen_17 : decode cX7_bulkThen 17 = .ok (.iload_n 1, 1) := by decide +kernel
theorem dX7_bulkThen_18 : decode cX7_bulkThen 18 = .ok (.iaload, 1) := by decide +kernel
theorem dX7_bulkThen_19 : decode cX7_bulkThen 19 = .ok (.iload_n 2, 1) := by decide +kernel
theorem dX7_bulkThen_20 : decode cX7_bulkThen 20 = .ok (.invokevirtual 180, 3) := by decide +kernel
theorem dX7_bulkThen_23 : decode cX7_bulkThen 23 = .ok (.ireturn, 1) := by decide +kernel
def F_X7_bulkThen (fu : Nat) (M : Mm) (x1 : Int32) (x2 : Int32) : Option Int32 :=
  if x1 < 0 ∨ ln 91 ≤ x1.toNatClampNeg then none else (
  if x1 < 0 ∨ ln 94 ≤ x1.toNatClampNeg then none else (
  if x1 < 0 ∨ ln 95 ≤ x1.toNatClampNeg then none else (
  ob1 (F_X7_bulkAfter fu M (M.1 91 x1.toNatClampNeg) (M.1 94 x1.toNatClampNeg) (M.1 95 x1.toNatClampNeg) x2) (fun r5 =>
  some r5))))
set_option maxRecDepth 100000 in
set_option maxHeartbeats 4000000 in
theorem c_X7_bulkThen {l : Launch} {G : Gv} {fu : Nat} {M : Mm} {x1 : Int32} {x2 : Int32} {r : Int32} (hF : F_X7_bulkThen fu M x1 x2 = some r) : Met l yX7_bulkThen (.code yX7_bulkThen cX7_bulkThen 3 (some .int) :: zU) rm_X7_bulkThen (va_Pc [.ref (ad G 86), .int x1, .int x2] (Wd G M)) (QI G r M) 0 0 (zA G) := by
  refine zMet (by decide) rfl (Nat.le_of_ble_eq_true rfl) ?_
  intro p e s m below meth c hC hw ls hl
  have hl : lv_has ls 3 [(0, .ref (ad G 86)), (1, .int x1), (2, .int x2)] := hl
  unfold F_X7_bulkThen at hF
  refine lv_aload_n hC.1 hC.2.1 dX7_bulkThen_0 rfl (lv_at hl 0 rfl) ?_
  refine lv_aload_n hC.1 hC.2.1 dX7_bulkThen_1 rfl (lv_at hl 0 rfl) ?_
  refine g7_kindIs hC hw q4_127 dX7_bulkThen_2 ?_
  refine lv_iload_n hC.1 hC.2.1 dX7_bulkThen_5 rfl (lv_at hl 1 rfl) ?_
  obtain ⟨n1, hF⟩ := ifO hF
  refine r_iald hC.1 hC.2.1 hw (rfl : kd 91 = 1) n1 dX7_bulkThen_6 ?_
  refine lv_aload_n hC.1 hC.2.1 dX7_bulkThen_7 rfl (lv_at hl 0 rfl) ?_
  refine g7_bulks hC hw q4_130 dX7_bulkThen_8 ?_
  refine lv_iload_n hC.1 hC.2.1 dX7_bulkThen_11 rfl (lv_at hl 1 rfl) ?_
  obtain ⟨n2, hF⟩ := ifO hF
  refine r_iald hC.1 hC.2.1 hw (rfl : kd 94 = 1) n2 dX7_bulkThen_12 ?_
  refine lv_aload_n hC.1 hC.2.1 dX7_bulkThen_13 rfl (lv_at hl 0 rfl) ?_
  refine g7_shades hC hw q4_131 dX7_bulkThen_14 ?_
  refine lv_iload_n hC.1 hC.2.1 dX7_bulkThen_17 rfl (lv_at hl 1 rfl) ?_
  obtain ⟨n3, hF⟩ := ifO hF
  refine r_iald hC.1 hC.2.1 hw (rfl : kd 95 = 1) n3 dX7_bulkThen_18 ?_
  refine lv_iload_n hC.1 hC.2.1 dX7_bulkThen_19 rfl (lv_at hl 2 rfl) ?_
  obtain ⟨r5, h4, hF⟩ := ob1S hF
  refine k_Vi (As := [.int (M.1 91 x1.toNatClampNeg), .int (M.1 94 x1.toNatClampNeg), .int (M.1 95 x1.toNatClampNeg), .int x2]) (rest := []) hC hw (c_X7_bulkAfter (M := M) h4) RC_X yv_X7_bulkAfter q5_105 ⟨rfl, rfl⟩ ⟨Nat.le_of_ble_eq_true rfl, Nat.le_of_ble_eq_true rfl⟩ ⟨Nat.zero_le _, Nat.zero_le _⟩ rfl rfl (Nat.le_of_ble_eq_true rfl) hl dX7_bulkThen_20 (fun H locs hw => ?_)
  exact r_iretP hC hw hF dX7_bulkThen_23
abbrev rm_X7_mayVote : Room := { frames := 0, cells := 0, slots := 0, locals := 0 }
theorem yv_X7_mayVote : YV yX7_mayVote cX7_mayVote 3 (some .boolean) 2 RX7 := ⟨⟨q5_95, qs_42, q1_8, q5_96⟩, by decide +kernel⟩
theorem dX7_mayVote_0 : decode cX7_mayVote 0 = .ok (.aload_n 0, 1) := by decide +kernel
theorem dX7_mayVote_1 : decode cX7_mayVote 1 = .ok (.getfield 22, 3) := by decide +kernel
theorem dX7_mayVote_4 : decode cX7_mayVote 4 = .ok (.iload_n 1, 1) := by decide +kernel
theorem dX7_mayVote_5 : decode cX7_mayVote 5 = .ok (.iaload, 1) := by decide +kernel
theorem dX7_mayVote_6 : decode cX7_mayVote 6 = .ok (.iconst 4, 1) := by decide +kernel
theorem dX7_mayVote_7 : decode cX7_mayVote 7 = .ok (.if_icmp .ne 15, 3) := by decide +kernel
theorem dX7_mayVote_10 : decode cX7_mayVote 10 = .ok (.iload_n 2, 1) := by decide +kernel
theorem dX7_mayVote_11 : decode cX7_mayVote 11 = .ok (.ifCond .le 7, 3) := by decide +kernel
theorem dX7_mayVote_14 : decode cX7_mayVote 14 = .ok (.iconst 1, 1) := by decide +kernel
theorem dX7_mayVote_15 : decode cX7_mayVote 15 = .ok (.goto 20, 3) := by decide +kernel
theorem dX7_mayVote_18 : decode cX7_mayVote 18 = .ok (.iconst 0, 1) := by decide +kernel
theorem dX7_mayVote_19 : decode cX7_mayVote 19 = .ok (.goto 16, 3) := by decide +kernel
theorem dX7_mayVote_22 : decode cX7_mayVote 22 = .ok (.iload_n 2, 1) := by decide +kernel
theorem dX7_mayVote_23 : decode cX7_mayVote 23 = .ok (.aload_n 0, 1) := by decide +kernel
theorem dX7_mayVote_24 : decode cX7_mayVote 24 = .ok (.getfield 164, 3) := by decide +kernel
theorem dX7_mayVote_27 : decode cX7_mayVote 27 = .ok (.if_icmp .lt 7, 3) := by decide +kernel
theorem dX7_mayVote_30 : decode cX7_mayVote 30 = .ok (.iconst 1, 1) := by decide +kernel
theorem dX7_mayVote_31 : decode cX7_mayVote 31 = .ok (.goto 4, 3) := by decide +kernel
theorem dX7_mayVote_34 : decode cX7_mayVote 34 = .ok (.iconst 0, 1) := by decide +kernel
theorem dX7_mayVote_35 : decode cX7_mayVote 35 = .ok (.ireturn, 1) := by decide +kernel
def F_X7_mayVote (fu : Nat) (M : Mm) (x1 : Int32) (x2 : Int32) : Option Int32 :=
  if x1 < 0 ∨ ln 91 ≤ x1.toNatClampNeg then none else (
  if (M.1 91 x1.toNatClampNeg) = (4 : Int32) then
    if x2 ≤ 0 then
      some (0 : Int32)
    else
      some (1 : Int32)
  else
    if x2 < (M.1 86 10) then
      some (0 : Int32)
    else
      some (1 : Int32))
set_option maxRecDepth 100000 in
set_option maxHeartbeats 4000000 in
theorem c_X7_mayVote {l : Launch} {G : Gv} {fu : Nat} {M : Mm} {x1 : Int32} {x2 : Int32} {r : Int32} (hF : F_X7_mayVote fu M x1 x2 = some r) : Met l yX7_mayVote (.code yX7_mayVote cX7_mayVote 3 (some .boolean) :: zU) rm_X7_mayVote (va_Pc [.ref (ad G 86), .int x1, .int x2] (Wd G M)) (QI G r M) 0 0 (zA G) := by
  refine zMet (by decide) rfl (Nat.le_of_ble_eq_true rfl) ?_
  intro p e s m below meth c hC hw ls hl
  have hl : lv_has ls 3 [(0, .ref (ad G 86)), (1, .int x1), (2, .int x2)] := hl
  unfold F_X7_mayVote at hF
  refine lv_aload_n hC.1 hC.2.1 dX7_mayVote_0 rfl (lv_at hl 0 rfl) ?_
  refine g7_kindIs hC hw q4_127 dX7_mayVote_1 ?_
  refine lv_iload_n hC.1 hC.2.1 dX7_mayVote_4 rfl (lv_at hl 1 rfl) ?_
  obtain ⟨n1, hF⟩ := ifO hF
  refine r_iald hC.1 hC.2.1 hw (rfl : kd 91 = 1) n1 dX7_mayVote_5 ?_
  refine lv_iconst (v := (4 : Int32)) hC.1 hC.2.1 dX7_mayVote_6 (by decide) ?_
  refine lv_icmp_ne (tgt := 22) hC.1 hC.2.1 dX7_mayVote_7 (by decide) (fun b2 => ?_) (fun b2 => ?_)
  · have hF := ifN hF b2
    refine lv_iload_n hC.1 hC.2.1 dX7_mayVote_22 rfl (lv_at hl 2 rfl) ?_
    refine lv_aload_n hC.1 hC.2.1 dX7_mayVote_23 rfl (lv_at hl 0 rfl) ?_
    refine g7_rightIs hC hw q4_132 dX7_mayVote_24 ?_
    refine lv_icmp_lt (tgt := 34) hC.1 hC.2.1 dX7_mayVote_27 (by decide) (fun b3 => ?_) (fun b3 => ?_)
    · have hF := ifP hF b3
      refine lv_iconst (v := (0 : Int32)) hC.1 hC.2.1 dX7_mayVote_34 (by decide) ?_
      exact r_zretP hC hw (by decide) hF dX7_mayVote_35
    · have hF := ifN hF b3
      refine lv_iconst (v := (1 : Int32)) hC.1 hC.2.1 dX7_mayVote_30 (by decide) ?_
      refine lv_goto (tgt := 35) hC.1 hC.2.1 dX7_mayVote_31 (by decide) ?_
      exact r_zretP hC hw (by decide) hF dX7_mayVote_35
  · have hF := ifP hF b2
    refine lv_iload_n hC.1 hC.2.1 dX7_mayVote_10 rfl (lv_at hl 2 rfl) ?_
    refine lv_if_le (tgt := 18) hC.1 hC.2.1 dX7_mayVote_11 (by decide) (fun b4 => ?_) (fun b4 => ?_)
    · have hF := ifP hF b4
      refine lv_iconst (v := (0 : Int32)) hC.1 hC.2.1 dX7_mayVote_18 (by decide) ?_
      refine lv_goto (tgt := 35) hC.1 hC.2.1 dX7_mayVote_19 (by decide) ?_
      exact r_zretP hC hw (by decide) hF dX7_mayVote_35
    · have hF := ifN hF b4
      refine lv_iconst (v := (1 : Int32)) hC.1 hC.2.1 dX7_mayVote_14 (by decide) ?_
      refine lv_goto (tgt := 35) hC.1 hC.2.1 dX7_mayVote_15 (by decide) ?_
      exact r_zretP hC hw (by decide) hF dX7_mayVote_35
abbrev rm_X7_votesBy : Room := { frames := 0, cells := 0, slots := 0, locals := 0 }
theorem yv_X7_votesBy : YV yX7_votesBy cX7_votesBy 4 (some .int) 2 RX7 := ⟨⟨q5_118, qs_47, q1_8, q5_119⟩, by decide +kernel⟩
theorem dX7_votesBy_0 : decode cX7_votesBy 0 = .ok (.iload_n 2, 1) := by decide +kernel
theorem dX7_votesBy_1 : decode cX7_votesBy 1 = .ok (.iload_n 1, 1) := by decide +kernel
theorem dX7_votesBy_2 : decode cX7_votesBy 2 = .ok (.ishr, 1) := by decide +kernel
theorem dX7_votesBy_3 : decode cX7_votesBy 3 = .ok (.iconst 1, 1) := by decide +kernel
theorem dX7_votesBy_4 : decode cX7_votesBy 4 = .ok (.iand, 1) := by decide +kernel
theorem dX7_votesBy_5 : decode cX7_votesBy 5 = .ok (.ifCond .ne 6, 3) := by decide +kernel
theorem dX7_votesBy_8 : decode cX7_votesBy 8 = .ok (.bipush (-9), 2) := by decide +kernel
theorem dX7_votesBy_10 : decode cX7_votesBy 10 = .ok (.ireturn, 1) := by decide +kernel
theorem dX7_votesBy_11 : decode cX7_votesBy 11 = .ok (.iload_n 1, 1) := by decide +kernel
theorem dX7_votesBy_12 : decode cX7_votesBy 12 = .ok (.istore_n 3, 1) := by decide +kernel
theorem dX7_votesBy_13 : decode cX7_votesBy 13 = .ok (.aload_n 0, 1) := by decide +kernel
theorem dX7_votesBy_14 : decode cX7_votesBy 14 = .ok (.getfield 22, 3) := by decide +kernel
theorem dX7_votesBy_17 : decode cX7_votesBy 17 = .ok (.iload_n 3, 1) := by decide +kernel
theorem dX7_votesBy_18 : decode cX7_votesBy 18 = .ok (.iaload, 1) := by decide +kernel
theorem dX7_votesBy_19 : decode cX7_votesBy 19 = .ok (.iconst 2, 1) := by decide +kernel
theorem dX7_votesBy_20 : decode cX7_votesBy 20 = .ok (.if_icmp .ne 24, 3) := by decide +kernel
theorem dX7_votesBy_23 : decode cX7_votesBy 23 = .ok (.iload_n 3, 1) := by decide +kernel
theorem dX7_votesBy_24 : decode cX7_votesBy 24 = .ok (.ifCond .le 20, 3) := by decide +kernel
theorem dX7_votesBy_27 : decode cX7_votesBy 27 = .ok (.iload_n 2, 1) := by decide +kernel
theorem dX7_votesBy_28 : decode cX7_votesBy 28 = .ok (.iload_n 3, 1) := by decide +kernel
theorem dX7_votesBy_29 : decode cX7_votesBy 29 = .ok (.iconst 1, 1) := by decide +kernel
theorem dX7_votesBy_30 : decode cX7_votesBy 30 = .ok (.isub, 1) := by decide +kernel
theorem dX7_votesBy_31 : decode cX7_votesBy 31 = .ok (.ishr, 1) := by decide +kernel
theorem dX7_votesBy_32 : decode cX7_votesBy 32 = .ok (.iconst 1, 1) := by decide +kernel
theorem dX7_votesBy_33 : decode cX7_votesBy 33 = .ok (.iand, 1) := by decide +kernel
theorem dX7_votesBy_34 : decode cX7_votesBy 34 = .ok (.iconst 1, 1) := by decide +kernel
theorem dX7_votesBy_35 : decode cX7_votesBy 35 = .ok (.if_icmp .ne 9, 3) := by decide +kernel
theorem dX7_votesBy_38 : decode cX7_votesBy 38 = .ok (.iinc 3 (-1), 3) := by decide +kernel
theorem dX7_votesBy_41 : decode cX7_votesBy 41 = .ok (.goto (-28), 3) := by decide +kernel
theorem dX7_votesBy_44 : decode cX7_votesBy 44 = .ok (.aload_n 0, 1) := by decide +kernel
theorem dX7_votesBy_45 : decode cX7_votesBy 45 = .ok (.getfield 22, 3) := by decide +kernel
theorem dX7_votesBy_48 : decode cX7_votesBy 48 = .ok (.iload_n 3, 1) := by decide +kernel
theorem dX7_votesBy_49 : decode cX7_votesBy 49 = .ok (.iaload, 1) := by decide +kernel
theorem dX7_votesBy_50 : decode cX7_votesBy 50 = .ok (.iconst 3, 1) := by decide +kernel
theorem dX7_votesBy_51 : decode cX7_votesBy 51 = .ok (.if_icmp .ne 7, 3) := by decide +kernel
theorem dX7_votesBy_54 : decode cX7_votesBy 54 = .ok (.iconst 1, 1) := by decide +kernel
theorem dX7_votesBy_55 : decode cX7_votesBy 55 = .ok (.goto 9, 3) := by decide +kernel
theorem dX7_votesBy_58 : decode cX7_votesBy 58 = .ok (.aload_n 0, 1) := by decide +kernel
theorem dX7_votesBy_59 : decode cX7_votesBy 59 = .ok (.getfield 25, 3) := by decide +kernel
theorem dX7_votesBy_62 : decode cX7_votesBy 62 = .ok (.iload_n 3, 1) := by decide +kernel
theorem dX7_votesBy_63 : decode cX7_votesBy 63 = .ok (.iaload, 1) := by decide +kernel
theorem dX7_votesBy_64 : decode cX7_votesBy 64 = .ok (.ireturn, 1) := by decide +kernel
def F_X7_votesBy_44 (fu : Nat) (M : Mm) (x3 : Int32) : Option Int32 :=
  if x3 < 0 ∨ ln 91 ≤ x3.toNatClampNeg then none else (
  if (M.1 91 x3.toNatClampNeg) = (3 : Int32) then
    some (1 : Int32)
  else
    if x3 < 0 ∨ ln 92 ≤ x3.toNatClampNeg then none else (
    some (M.1 92 x3.toNatClampNeg)))
set_option maxRecDepth 100000 in
set_option maxHeartbeats 4000000 in
theorem w_X7_votesBy_44 {p : Program} {l : Launch} {e : Env} {s : State} {m : MethodId} {args : Array Value} {below : List Frame} {meth : Method} {c : Code} {G : Gv} (hC : Cx p s m args meth c cX7_votesBy 4 (some .int) RX7) {fu : Nat} {r : Int32} {M : Mm} {x3 : Int32} {H : Heap} {locs : List Loc} {ls : Array Slot} (hF : F_X7_votesBy_44 fu M x3 = some r) (hw : St G s H locs M) (hl : lv_has ls 4 [(0, .ref (ad G 86)), (3, .int x3)]) : W p l e rm_X7_votesBy s m args below meth c H locs 0 0 (MQ below (QI G r M) args s 0 0 (zA G)) (F0 m 44 ls []) := by
  unfold F_X7_votesBy_44 at hF
  refine lv_aload_n hC.1 hC.2.1 dX7_votesBy_44 rfl (lv_at hl 0 rfl) ?_
  refine g7_kindIs hC hw q4_127 dX7_votesBy_45 ?_
  refine lv_iload_n hC.1 hC.2.1 dX7_votesBy_48 rfl (lv_at hl 1 rfl) ?_
  obtain ⟨n1, hF⟩ := ifO hF
  refine r_iald hC.1 hC.2.1 hw (rfl : kd 91 = 1) n1 dX7_votesBy_49 ?_
  refine lv_iconst (v := (3 : Int32)) hC.1 hC.2.1 dX7_votesBy_50 (by decide) ?_
  refine lv_icmp_ne (tgt := 58) hC.1 hC.2.1 dX7_votesBy_51 (by decide) (fun b2 => ?_) (fun b2 => ?_)
  · have hF := ifN hF b2
    refine lv_aload_n hC.1 hC.2.1 dX7_votesBy_58 rfl (lv_at hl 0 rfl) ?_
    refine g7_own hC hw q4_128 dX7_votesBy_59 ?_
    refine lv_iload_n hC.1 hC.2.1 dX7_votesBy_62 rfl (lv_at hl 1 rfl) ?_
    obtain ⟨n3, hF⟩ := ifO hF
    refine r_iald hC.1 hC.2.1 hw (rfl : kd 92 = 1) n3 dX7_votesBy_63 ?_
    exact r_iretP hC hw hF dX7_votesBy_64
  · have hF := ifP hF b2
    refine lv_iconst (v := (1 : Int32)) hC.1 hC.2.1 dX7_votesBy_54 (by decide) ?_
    refine lv_goto (tgt := 64) hC.1 hC.2.1 dX7_votesBy_55 (by decide) ?_
    exact r_iretP hC hw hF dX7_votesBy_64
def F_X7_votesBy_13 (fu : Nat) (M : Mm) : Nat → Int32 → Int32 → Option Int32
  | 0, _, _ => none
  | n + 1, x2, x3 =>
    if x3 < 0 ∨ ln 91 ≤ x3.toNatClampNeg then none else (
    if (M.1 91 x3.toNatClampNeg) = (2 : Int32) then
      if x3 ≤ 0 then
        F_X7_votesBy_44 fu M x3
      else
        if ((x2 >>> ((x3 - (1 : Int32)) &&& 31)) &&& (1 : Int32)) = (1 : Int32) then
          F_X7_votesBy_13 fu M n x2 (x3 + (-1 : Int32))
        else
          F_X7_votesBy_44 fu M x3
    else
      F_X7_votesBy_44 fu M x3)
set_option maxRecDepth 100000 in
set_option maxHeartbeats 4000000 in
theorem w_X7_votesBy_13 {p : Program} {l : Launch} {e : Env} {s : State} {m : MethodId} {args : Array Value} {below : List Frame} {meth : Method} {c : Code} {G : Gv} (hC : Cx p s m args meth c cX7_votesBy 4 (some .int) RX7) {fu : Nat} {r : Int32} {M : Mm} : ∀ (n : Nat) {x2 : Int32} {x3 : Int32} {H : Heap} {locs : List Loc} {ls : Array Slot}, F_X7_votesBy_13 fu M n x2 x3 = some r → St G s H locs M → lv_has ls 4 [(0, .ref (ad G 86)), (2, .int x2), (3, .int x3)] → W p l e rm_X7_votesBy s m args below meth c H locs 0 0 (MQ below (QI G r M) args s 0 0 (zA G)) (F0 m 13 ls []) := by
  intro n
  induction n with
  | zero =>
    intro x2 x3 H locs ls hF hw hl
    cases hF
  | succ n ih =>
    intro x2 x3 H locs ls hF hw hl
    unfold F_X7_votesBy_13 at hF
    refine lv_aload_n hC.1 hC.2.1 dX7_votesBy_13 rfl (lv_at hl 0 rfl) ?_
    refine g7_kindIs hC hw q4_127 dX7_votesBy_14 ?_
    refine lv_iload_n hC.1 hC.2.1 dX7_votesBy_17 rfl (lv_at hl 2 rfl) ?_
    obtain ⟨n1, hF⟩ := ifO hF
    refine r_iald hC.1 hC.2.1 hw (rfl : kd 91 = 1) n1 dX7_votesBy_18 ?_
    refine lv_iconst (v := (2 : Int32)) hC.1 hC.2.1 dX7_votesBy_19 (by decide) ?_
    refine lv_icmp_ne (tgt := 44) hC.1 hC.2.1 dX7_votesBy_20 (by decide) (fun b2 => ?_) (fun b2 => ?_)
    · have hF := ifN hF b2
      exact w_X7_votesBy_44 hC hF hw (lv_sub hl [0, 2] rfl)
    · have hF := ifP hF b2
      refine lv_iload_n hC.1 hC.2.1 dX7_votesBy_23 rfl (lv_at hl 2 rfl) ?_
      refine lv_if_le (tgt := 44) hC.1 hC.2.1 dX7_votesBy_24 (by decide) (fun b3 => ?_) (fun b3 => ?_)
      · have hF := ifP hF b3
        exact w_X7_votesBy_44 hC hF hw (lv_sub hl [0, 2] rfl)
      · have hF := ifN hF b3
        refine lv_iload_n hC.1 hC.2.1 dX7_votesBy_27 rfl (lv_at hl 1 rfl) ?_
        refine lv_iload_n hC.1 hC.2.1 dX7_votesBy_28 rfl (lv_at hl 2 rfl) ?_
        refine lv_iconst (v := (1 : Int32)) hC.1 hC.2.1 dX7_votesBy_29 (by decide) ?_
        refine lv_isub hC.1 hC.2.1 dX7_votesBy_30 ?_
        refine lv_ishr hC.1 hC.2.1 dX7_votesBy_31 ?_
        refine lv_iconst (v := (1 : Int32)) hC.1 hC.2.1 dX7_votesBy_32 (by decide) ?_
        refine lv_iand hC.1 hC.2.1 dX7_votesBy_33 ?_
        refine lv_iconst (v := (1 : Int32)) hC.1 hC.2.1 dX7_votesBy_34 (by decide) ?_
        refine lv_icmp_ne (tgt := 44) hC.1 hC.2.1 dX7_votesBy_35 (by decide) (fun b4 => ?_) (fun b4 => ?_)
        · have hF := ifN hF b4
          exact w_X7_votesBy_44 hC hF hw (lv_sub hl [0, 2] rfl)
        · have hF := ifP hF b4
          refine lv_iinc (v := (x3 + (-1 : Int32))) (lv' := [(3, .int (x3 + (-1 : Int32))), (0, .ref (ad G 86)), (2, .int x2)]) hC.1 hC.2.1 dX7_votesBy_38 hl (k := 2) rfl rfl (by decide) rfl (fun ls hl => ?_)
          refine lv_goto (tgt := 13) hC.1 hC.2.1 dX7_votesBy_41 (by decide) ?_
          exact ih hF hw (lv_sub hl [1, 2, 0] rfl)
def F_X7_votesBy (fu : Nat) (M : Mm) (x1 : Int32) (x2 : Int32) : Option Int32 :=
  if ((x2 >>> (x1 &&& 31)) &&& (1 : Int32)) = 0 then
    some (-9 : Int32)
  else
    F_X7_votesBy_13 fu M fu x2 x1
set_option maxRecDepth 100000 in
set_option maxHeartbeats 4000000 in
theorem c_X7_votesBy {l : Launch} {G : Gv} {fu : Nat} {M : Mm} {x1 : Int32} {x2 : Int32} {r : Int32} (hF : F_X7_votesBy fu M x1 x2 = some r) : Met l yX7_votesBy (.code yX7_votesBy cX7_votesBy 4 (some .int) :: zU) rm_X7_votesBy (va_Pc [.ref (ad G 86), .int x1, .int x2] (Wd G M)) (QI G r M) 0 0 (zA G) := by
  refine zMet (by decide) rfl (Nat.le_of_ble_eq_true rfl) ?_
  intro p e s m below meth c hC hw ls hl
  have hl : lv_has ls 4 [(0, .ref (ad G 86)), (1, .int x1), (2, .int x2)] := hl
  unfold F_X7_votesBy at hF
  refine lv_iload_n hC.1 hC.2.1 dX7_votesBy_0 rfl (lv_at hl 2 rfl) ?_
  refine lv_iload_n hC.1 hC.2.1 dX7_votesBy_1 rfl (lv_at hl 1 rfl) ?_
  refine lv_ishr hC.1 hC.2.1 dX7_votesBy_2 ?_
  refine lv_iconst (v := (1 : Int32)) hC.1 hC.2.1 dX7_votesBy_3 (by decide) ?_
  refine lv_iand hC.1 hC.2.1 dX7_votesBy_4 ?_
  refine lv_if_ne (tgt := 11) hC.1 hC.2.1 dX7_votesBy_5 (by decide) (fun b1 => ?_) (fun b1 => ?_)
  · have hF := ifN hF b1
    refine lv_iload_n hC.1 hC.2.1 dX7_votesBy_11 rfl (lv_at hl 1 rfl) ?_
    refine lv_istore_n (lv' := [(3, .int x1), (0, .ref (ad G 86)), (1, .int x1), (2, .int x2)]) hC.1 hC.2.1 dX7_votesBy_12 rfl hl (by decide) rfl (fun ls hl => ?_)
    exact w_X7_votesBy_13 hC _ hF hw (lv_sub hl [1, 3, 0] rfl)
  · have hF := ifP hF b1
    refine lv_bipush (v := (-9 : Int32)) hC.1 hC.2.1 dX7_votesBy_8 (by decide) ?_
    exact r_iretP hC hw hF dX7_votesBy_10
abbrev rm_X7_whoThen : Room := { frames := 4, cells := 0, slots := 0, locals := 93 }
theorem yv_X7_whoThen : YV yX7_whoThen cX7_whoThen 4 (some .int) 1 RX7 := ⟨⟨q5_99, qs_43, q1_8, q5_100⟩, by decide +kernel⟩
theorem dX7_whoThen_0 : decode cX7_whoThen 0 = .ok (.iconst 0, 1) := by decide +kernel
theorem dX7_whoThen_1 : decode cX7_whoThen 1 = .ok (.istore_n 2, 1) := by decide +kernel
theorem dX7_whoThen_2 : decode cX7_whoThen 2 = .ok (.iconst 0, 1) := by decide +kernel
theorem dX7_whoThen_3 : decode cX7_whoThen 3 = .ok (.istore_n 3, 1) := by decide +kernel
theorem dX7_whoThen_4 : decode cX7_whoThen 4 = .ok (.iload_n 3, 1) := by decide +kernel
theorem dX7_whoThen_5 : decode cX7_whoThen 5 = .ok (.aload_n 0, 1) := by decide +kernel
theorem dX7_whoThen_6 : decode cX7_whoThen 6 = .ok (.getfield 101, 3) := by decide +kernel
theorem dX7_whoThen_9 : decode cX7_whoThen 9 = .ok (.if_icmp .ge 33, 3) := by decide +kernel
theorem dX7_whoThen_12 : decode cX7_whoThen 12 = .ok (.iload_n 2, 1) := by decide +kernel
theorem dX7_whoThen_13 : decode cX7_whoThen 13 = .ok (.aload_n 0, 1) := by decide +kernel
theorem dX7_whoThen_14 : decode cX7_whoThen 14 = .ok (.iload_n 3, 1) := by decide +kernel
theorem dX7_whoThen_15 : decode cX7_whoThen 15 = .ok (.aload_n 0, 1) := by decide +kernel
theorem dX7_whoThen_16 : decode cX7_whoThen 16 = .ok (.iload_n 3, 1) := by decide +kernel
theorem dX7_whoThen_17 : decode cX7_whoThen 17 = .ok (.iload_n 1, 1) := by decide +kernel
theorem dX7_whoThen_18 : decode cX7_whoThen 18 = .ok (.invokevirtual 184, 3) := by decide +kernel
theorem dX7_whoThen_21 : decode cX7_whoThen 21 = .ok (.invokevirtual 187, 3) := by decide +kernel
theorem dX7_whoThen_24 : decode cX7_whoThen 24 = .ok (.ifCond .eq 9, 3) := by decide +kernel
theorem dX7_whoThen_27 : decode cX7_whoThen 27 = .ok (.iconst 1, 1) := by decide +kernel
theorem dX7_whoThen_28 : decode cX7_whoThen 28 = .ok (.iload_n 3, 1) := by decide +kernel
theorem dX7_whoThen_29 : decode cX7_whoThen 29 = .ok (.ishl, 1) := by decide +kernel
theorem dX7_whoThen_30 : decode cX7_whoThen 30 = .ok (.goto 4, 3) := by decide +kernel
theorem dX7_whoThen_33 : decode cX7_whoThen 33 = .ok (.iconst 0, 1) := by decide +kernel
theorem dX7_whoThen_34 : decode cX7_whoThen 34 = .ok (.ior, 1) := by decide +kernel
theorem dX7_whoThen_35 : decode cX7_whoThen 35 = .ok (.istore_n 2, 1) := by decide +kernel
theorem dX7_whoThen_36 : decode cX7_whoThen 36 = .ok (.iinc 3 1, 3) := by decide +kernel
theorem dX7_whoThen_39 : decode cX7_whoThen 39 = .ok (.goto (-35), 3) := by decide +kernel
theorem dX7_whoThen_42 : decode cX7_whoThen 42 = .ok (.iload_n 2, 1) := by decide +kernel
theorem dX7_whoThen_43 : decode cX7_whoThen 43 = .ok (.ireturn, 1) := by decide +kernel
def F_X7_whoThen_4 (fu : Nat) (M : Mm) : Nat → Int32 → Int32 → Int32 → Option Int32
  | 0, _, _, _ => none
  | n + 1, x1, x2, x3 =>
    if (M.1 86 4) ≤ x3 then
      some x2
    else
      ob1 (F_X7_bulkThen fu M x3 x1) (fun r3 =>
      ob1 (F_X7_mayVote fu M x3 r3) (fun r5 =>
      if r5 = 0 then
        F_X7_whoThen_4 fu M n x1 (x2 ||| (0 : Int32)) (x3 + (1 : Int32))
      else
        F_X7_whoThen_4 fu M n x1 (x2 ||| ((1 : Int32) <<< (x3 &&& 31))) (x3 + (1 : Int32))))
set_option maxRecDepth 100000 in
set_option maxHeartbeats 4000000 in
theorem w_X7_whoThen_4 {p : Program} {l : Launch} {e : Env} {s : State} {m : MethodId} {args : Array Value} {below : List Frame} {meth : Method} {c : Code} {G : Gv} (hC : Cx p s m args meth c cX7_whoThen 4 (some .int) RX7) {fu : Nat} {r : Int32} {M : Mm} : ∀ (n : Nat) {x1 : Int32} {x2 : Int32} {x3 : Int32} {H : Heap} {locs : List Loc} {ls : Array Slot}, F_X7_whoThen_4 fu M n x1 x2 x3 = some r → St G s H locs M → lv_has ls 4 [(0, .ref (ad G 86)), (1, .int x1), (2, .int x2), (3, .int x3)] → W p l e rm_X7_whoThen s m args below meth c H locs 0 0 (MQ below (QI G r M) args s 0 0 (zA G)) (F0 m 4 ls []) := by
  intro n
  induction n with
  | zero =>
    intro x1 x2 x3 H locs ls hF hw hl
    cases hF
  | succ n ih =>
    intro x1 x2 x3 H locs ls hF hw hl
    unfold F_X7_whoThen_4 at hF
    refine lv_iload_n hC.1 hC.2.1 dX7_whoThen_4 rfl (lv_at hl 3 rfl) ?_
    refine lv_aload_n hC.1 hC.2.1 dX7_whoThen_5 rfl (lv_at hl 0 rfl) ?_
    refine g7_men hC hw q4_126 dX7_whoThen_6 ?_
    refine lv_icmp_ge (tgt := 42) hC.1 hC.2.1 dX7_whoThen_9 (by decide) (fun b1 => ?_) (fun b1 => ?_)
    · have hF := ifP hF b1
      refine lv_iload_n hC.1 hC.2.1 dX7_whoThen_42 rfl (lv_at hl 2 rfl) ?_
      exact r_iretP hC hw hF dX7_whoThen_43
    · have hF := ifN hF b1
      refine lv_iload_n hC.1 hC.2.1 dX7_whoThen_12 rfl (lv_at hl 2 rfl) ?_
      refine lv_aload_n hC.1 hC.2.1 dX7_whoThen_13 rfl (lv_at hl 0 rfl) ?_
      refine lv_iload_n hC.1 hC.2.1 dX7_whoThen_14 rfl (lv_at hl 3 rfl) ?_
      refine lv_aload_n hC.1 hC.2.1 dX7_whoThen_15 rfl (lv_at hl 0 rfl) ?_
      refine lv_iload_n hC.1 hC.2.1 dX7_whoThen_16 rfl (lv_at hl 3 rfl) ?_
      refine lv_iload_n hC.1 hC.2.1 dX7_whoThen_17 rfl (lv_at hl 1 rfl) ?_
      obtain ⟨r3, h2, hF⟩ := ob1S hF
      refine k_Vi (As := [.int x3, .int x1]) (rest := [.int x3, .ref (ad G 86), .int x2]) hC hw (c_X7_bulkThen (M := M) h2) RC_X yv_X7_bulkThen q5_101 ⟨rfl, rfl⟩ ⟨Nat.le_of_ble_eq_true rfl, Nat.le_of_ble_eq_true rfl⟩ ⟨Nat.zero_le _, Nat.zero_le _⟩ rfl rfl (Nat.le_of_ble_eq_true rfl) hl dX7_whoThen_18 (fun H locs hw => ?_)
      obtain ⟨r5, h4, hF⟩ := ob1S hF
      refine k_Vi (As := [.int x3, .int r3]) (rest := [.int x2]) hC hw (c_X7_mayVote (M := M) h4) RC_X yv_X7_mayVote q5_93 ⟨rfl, rfl⟩ ⟨Nat.le_of_ble_eq_true rfl, Nat.le_of_ble_eq_true rfl⟩ ⟨Nat.zero_le _, Nat.zero_le _⟩ rfl rfl (Nat.le_of_ble_eq_true rfl) hl dX7_whoThen_21 (fun H locs hw => ?_)
      refine lv_if_eq (tgt := 33) hC.1 hC.2.1 dX7_whoThen_24 (by decide) (fun b6 => ?_) (fun b6 => ?_)
      · have hF := ifP hF b6
        refine lv_iconst (v := (0 : Int32)) hC.1 hC.2.1 dX7_whoThen_33 (by decide) ?_
        refine lv_ior hC.1 hC.2.1 dX7_whoThen_34 ?_
        refine lv_istore_n (lv' := [(2, .int (x2 ||| (0 : Int32))), (0, .ref (ad G 86)), (1, .int x1), (3, .int x3)]) hC.1 hC.2.1 dX7_whoThen_35 rfl hl (by decide) rfl (fun ls hl => ?_)
        refine lv_iinc (v := (x3 + (1 : Int32))) (lv' := [(3, .int (x3 + (1 : Int32))), (2, .int (x2 ||| (0 : Int32))), (0, .ref (ad G 86)), (1, .int x1)]) hC.1 hC.2.1 dX7_whoThen_36 hl (k := 3) rfl rfl (by decide) rfl (fun ls hl => ?_)
        refine lv_goto (tgt := 4) hC.1 hC.2.1 dX7_whoThen_39 (by decide) ?_
        exact ih hF hw (lv_sub hl [2, 3, 1, 0] rfl)
      · have hF := ifN hF b6
        refine lv_iconst (v := (1 : Int32)) hC.1 hC.2.1 dX7_whoThen_27 (by decide) ?_
        refine lv_iload_n hC.1 hC.2.1 dX7_whoThen_28 rfl (lv_at hl 3 rfl) ?_
        refine lv_ishl hC.1 hC.2.1 dX7_whoThen_29 ?_
        refine lv_goto (tgt := 34) hC.1 hC.2.1 dX7_whoThen_30 (by decide) ?_
        refine lv_ior hC.1 hC.2.1 dX7_whoThen_34 ?_
        refine lv_istore_n (lv' := [(2, .int (x2 ||| ((1 : Int32) <<< (x3 &&& 31)))), (0, .ref (ad G 86)), (1, .int x1), (3, .int x3)]) hC.1 hC.2.1 dX7_whoThen_35 rfl hl (by decide) rfl (fun ls hl => ?_)
        refine lv_iinc (v := (x3 + (1 : Int32))) (lv' := [(3, .int (x3 + (1 : Int32))), (2, .int (x2 ||| ((1 : Int32) <<< (x3 &&& 31)))), (0, .ref (ad G 86)), (1, .int x1)]) hC.1 hC.2.1 dX7_whoThen_36 hl (k := 3) rfl rfl (by decide) rfl (fun ls hl => ?_)
        refine lv_goto (tgt := 4) hC.1 hC.2.1 dX7_whoThen_39 (by decide) ?_
        exact ih hF hw (lv_sub hl [2, 3, 1, 0] rfl)
def F_X7_whoThen (fu : Nat) (M : Mm) (x1 : Int32) : Option Int32 :=
  F_X7_whoThen_4 fu M fu x1 (0 : Int32) (0 : Int32)
set_option maxRecDepth 100000 in
set_option maxHeartbeats 4000000 in
theorem c_X7_whoThen {l : Launch} {G : Gv} {fu : Nat} {M : Mm} {x1 : Int32} {r : Int32} (hF : F_X7_whoThen fu M x1 = some r) : Met l yX7_whoThen (.code yX7_whoThen cX7_whoThen 4 (some .int) :: zU) rm_X7_whoThen (va_Pc [.ref (ad G 86), .int x1] (Wd G M)) (QI G r M) 0 0 (zA G) := by
  refine zMet (by decide) rfl (Nat.le_of_ble_eq_true rfl) ?_
  intro p e s m below meth c hC hw ls hl
  have hl : lv_has ls 4 [(0, .ref (ad G 86)), (1, .int x1)] := hl
  unfold F_X7_whoThen at hF
  refine lv_iconst (v := (0 : Int32)) hC.1 hC.2.1 dX7_whoThen_0 (by decide) ?_
  refine lv_istore_n (lv' := [(2, .int (0 : Int32)), (0, .ref (ad G 86)), (1, .int x1)]) hC.1 hC.2.1 dX7_whoThen_1 rfl hl (by decide) rfl (fun ls hl => ?_)
  refine lv_iconst (v := (0 : Int32)) hC.1 hC.2.1 dX7_whoThen_2 (by decide) ?_
  refine lv_istore_n (lv' := [(3, .int (0 : Int32)), (2, .int (0 : Int32)), (0, .ref (ad G 86)), (1, .int x1)]) hC.1 hC.2.1 dX7_whoThen_3 rfl hl (by decide) rfl (fun ls hl => ?_)
  exact w_X7_whoThen_4 hC _ hF hw (lv_sub hl [2, 3, 1, 0] rfl)
abbrev rm_X7_manyFor : Room := { frames := 1, cells := 0, slots := 0, locals := 23 }
theorem yv_X7_manyFor : YV yX7_manyFor cX7_manyFor 5 (some .int) 2 RX7 := ⟨⟨q5_218, qs_55, q1_8, q5_219⟩, by decide +kernel⟩
theorem dX7_manyFor_0 : decode cX7_manyFor 0 = .ok (.iconst 0, 1) := by decide +kernel
theorem dX7_manyFor_1 : decode cX7_manyFor 1 = .ok (.istore_n 3, 1) := by decide +kernel
theorem dX7_manyFor_2 : decode cX7_manyFor 2 = .ok (.iconst 0, 1) := by decide +kernel
theorem dX7_manyFor_3 : decode cX7_manyFor 3 = .ok (.istore 4, 2) := by decide +kernel
theorem dX7_manyFor_5 : decode cX7_manyFor 5 = .ok (.iload 4, 2) := by decide +kernel
theorem dX7_manyFor_7 : decode cX7_manyFor 7 = .ok (.aload_n 0, 1) := by decide +kernel
theorem dX7_manyFor_8 : decode cX7_manyFor 8 = .ok (.getfield 101, 3) := by decide +kernel
theorem dX7_manyFor_11 : decode cX7_manyFor 11 = .ok (.if_icmp .ge 28, 3) := by decide +kernel
theorem dX7_manyFor_14 : decode cX7_manyFor 14 = .ok (.iload_n 3, 1) := by decide +kernel
theorem dX7_manyFor_15 : decode cX7_manyFor 15 = .ok (.aload_n 0, 1) := by decide +kernel
theorem dX7_manyFor_16 : decode cX7_manyFor 16 = .ok (.iload 4, 2) := by decide +kernel
theorem dX7_manyFor_18 : decode cX7_manyFor 18 = .ok (.iload_n 2, 1) := by decide +kernel
theorem dX7_manyFor_19 : decode cX7_manyFor 19 = .ok (.invokevirtual 191, 3) := by decide +kernel
theorem dX7_manyFor_22 : decode cX7_manyFor 22 = .ok (.iload_n 1, 1) := by decide +kernel
theorem dX7_manyFor_23 : decode cX7_manyFor 23 = .ok (.if_icmp .ne 7, 3) := by decide +kernel
theorem dX7_manyFor_26 : decode cX7_manyFor 26 = .ok (.iconst 1, 1) := by decide +kernel
theorem dX7_manyFor_27 : decode cX7_manyFor 27 = .ok (.goto 4, 3) := by decide +kernel
theorem dX7_manyFor_30 : decode cX7_manyFor 30 = .ok (.iconst 0, 1) := by decide +kernel
theorem dX7_manyFor_31 : decode cX7_manyFor 31 = .ok (.iadd, 1) := by decide +kernel
theorem dX7_manyFor_32 : decode cX7_manyFor 32 = .ok (.istore_n 3, 1) := by decide +kernel
theorem dX7_manyFor_33 : decode cX7_manyFor 33 = .ok (.iinc 4 1, 3) := by decide +kernel
theorem dX7_manyFor_36 : decode cX7_manyFor 36 = .ok (.goto (-31), 3) := by decide +kernel
theorem dX7_manyFor_39 : decode cX7_manyFor 39 = .ok (.iload_n 3, 1) := by decide +kernel
theorem dX7_manyFor_40 : decode cX7_manyFor 40 = .ok (.ireturn, 1) := by decide +kernel
def F_X7_manyFor_5 (fu : Nat) (M : Mm) : Nat → Int32 → Int32 → Int32 → Int32 → Option Int32
  | 0, _, _, _, _ => none
  | n + 1, x1, x2, x3, x4 =>
    if (M.1 86 4) ≤ x4 then
      some x3
    else
      ob1 (F_X7_votesBy fu M x4 x2) (fun r3 =>
      if r3 = x1 then
        F_X7_manyFor_5 fu M n x1 x2 (x3 + (1 : Int32)) (x4 + (1 : Int32))
      else
        F_X7_manyFor_5 fu M n x1 x2 (x3 + (0 : Int32)) (x4 + (1 : Int32)))
set_option maxRecDepth 100000 in
set_option maxHeartbeats 4000000 in
theorem w_X7_manyFor_5 {p : Program} {l : Launch} {e : Env} {s : State} {m : MethodId} {args : Array Value} {below : List Frame} {meth : Method} {c : Code} {G : Gv} (hC : Cx p s m args meth c cX7_manyFor 5 (some .int) RX7) {fu : Nat} {r : Int32} {M : Mm} : ∀ (n : Nat) {x1 : Int32} {x2 : Int32} {x3 : Int32} {x4 : Int32} {H : Heap} {locs : List Loc} {ls : Array Slot}, F_X7_manyFor_5 fu M n x1 x2 x3 x4 = some r → St G s H locs M → lv_has ls 5 [(0, .ref (ad G 86)), (1, .int x1), (2, .int x2), (3, .int x3), (4, .int x4)] → W p l e rm_X7_manyFor s m args below meth c H locs 0 0 (MQ below (QI G r M) args s 0 0 (zA G)) (F0 m 5 ls []) := by
  intro n
  induction n with
  | zero =>
    intro x1 x2 x3 x4 H locs ls hF hw hl
    cases hF
  | succ n ih =>
    intro x1 x2 x3 x4 H locs ls hF hw hl
    unfold F_X7_manyFor_5 at hF
    refine lv_iload hC.1 hC.2.1 dX7_manyFor_5 (lv_at hl 4 rfl) ?_
    refine lv_aload_n hC.1 hC.2.1 dX7_manyFor_7 rfl (lv_at hl 0 rfl) ?_
    refine g7_men hC hw q4_126 dX7_manyFor_8 ?_
    refine lv_icmp_ge (tgt := 39) hC.1 hC.2.1 dX7_manyFor_11 (by decide) (fun b1 => ?_) (fun b1 => ?_)
    · have hF := ifP hF b1
      refine lv_iload_n hC.1 hC.2.1 dX7_manyFor_39 rfl (lv_at hl 3 rfl) ?_
      exact r_iretP hC hw hF dX7_manyFor_40
    · have hF := ifN hF b1
      refine lv_iload_n hC.1 hC.2.1 dX7_manyFor_14 rfl (lv_at hl 3 rfl) ?_
      refine lv_aload_n hC.1 hC.2.1 dX7_manyFor_15 rfl (lv_at hl 0 rfl) ?_
      refine lv_iload hC.1 hC.2.1 dX7_manyFor_16 (lv_at hl 4 rfl) ?_
      refine lv_iload_n hC.1 hC.2.1 dX7_manyFor_18 rfl (lv_at hl 2 rfl) ?_
      obtain ⟨r3, h2, hF⟩ := ob1S hF
      refine k_Vi (As := [.int x4, .int x2]) (rest := [.int x3]) hC hw (c_X7_votesBy (M := M) h2) RC_X yv_X7_votesBy q5_116 ⟨rfl, rfl⟩ ⟨Nat.le_of_ble_eq_true rfl, Nat.le_of_ble_eq_true rfl⟩ ⟨Nat.zero_le _, Nat.zero_le _⟩ rfl rfl (Nat.le_of_ble_eq_true rfl) hl dX7_manyFor_19 (fun H locs hw => ?_)
      refine lv_iload_n hC.1 hC.2.1 dX7_manyFor_22 rfl (lv_at hl 1 rfl) ?_
      refine lv_icmp_ne (tgt := 30) hC.1 hC.2.1 dX7_manyFor_23 (by decide) (fun b4 => ?_) (fun b4 => ?_)
      · have hF := ifN hF b4
        refine lv_iconst (v := (0 : Int32)) hC.1 hC.2.1 dX7_manyFor_30 (by decide) ?_
        refine lv_iadd hC.1 hC.2.1 dX7_manyFor_31 ?_
        refine lv_istore_n (lv' := [(3, .int (x3 + (0 : Int32))), (0, .ref (ad G 86)), (1, .int x1), (2, .int x2), (4, .int x4)]) hC.1 hC.2.1 dX7_manyFor_32 rfl hl (by decide) rfl (fun ls hl => ?_)
        refine lv_iinc (v := (x4 + (1 : Int32))) (lv' := [(4, .int (x4 + (1 : Int32))), (3, .int (x3 + (0 : Int32))), (0, .ref (ad G 86)), (1, .int x1), (2, .int x2)]) hC.1 hC.2.1 dX7_manyFor_33 hl (k := 4) rfl rfl (by decide) rfl (fun ls hl => ?_)
        refine lv_goto (tgt := 5) hC.1 hC.2.1 dX7_manyFor_36 (by decide) ?_
        exact ih hF hw (lv_sub hl [2, 3, 4, 1, 0] rfl)
      · have hF := ifP hF b4
        refine lv_iconst (v := (1 : Int32)) hC.1 hC.2.1 dX7_manyFor_26 (by decide) ?_
        refine lv_goto (tgt := 31) hC.1 hC.2.1 dX7_manyFor_27 (by decide) ?_
        refine lv_iadd hC.1 hC.2.1 dX7_manyFor_31 ?_
        refine lv_istore_n (lv' := [(3, .int (x3 + (1 : Int32))), (0, .ref (ad G 86)), (1, .int x1), (2, .int x2), (4, .int x4)]) hC.1 hC.2.1 dX7_manyFor_32 rfl hl (by decide) rfl (fun ls hl => ?_)
        refine lv_iinc (v := (x4 + (1 : Int32))) (lv' := [(4, .int (x4 + (1 : Int32))), (3, .int (x3 + (1 : Int32))), (0, .ref (ad G 86)), (1, .int x1), (2, .int x2)]) hC.1 hC.2.1 dX7_manyFor_33 hl (k := 4) rfl rfl (by decide) rfl (fun ls hl => ?_)
        refine lv_goto (tgt := 5) hC.1 hC.2.1 dX7_manyFor_36 (by decide) ?_
        exact ih hF hw (lv_sub hl [2, 3, 4, 1, 0] rfl)
def F_X7_manyFor (fu : Nat) (M : Mm) (x1 : Int32) (x2 : Int32) : Option Int32 :=
  F_X7_manyFor_5 fu M fu x1 x2 (0 : Int32) (0 : Int32)
set_option maxRecDepth 100000 in
set_option maxHeartbeats 4000000 in
theorem c_X7_manyFor {l : Launch} {G : Gv} {fu : Nat} {M : Mm} {x1 : Int32} {x2 : Int32} {r : Int32} (hF : F_X7_manyFor fu M x1 x2 = some r) : Met l yX7_manyFor (.code yX7_manyFor cX7_manyFor 5 (some .int) :: zU) rm_X7_manyFor (va_Pc [.ref (ad G 86), .int x1, .int x2] (Wd G M)) (QI G r M) 0 0 (zA G) := by
  refine zMet (by decide) rfl (Nat.le_of_ble_eq_true rfl) ?_
  intro p e s m below meth c hC hw ls hl
  have hl : lv_has ls 5 [(0, .ref (ad G 86)), (1, .int x1), (2, .int x2)] := hl
  unfold F_X7_manyFor at hF
  refine lv_iconst (v := (0 : Int32)) hC.1 hC.2.1 dX7_manyFor_0 (by decide) ?_
  refine lv_istore_n (lv' := [(3, .int (0 : Int32)), (0, .ref (ad G 86)), (1, .int x1), (2, .int x2)]) hC.1 hC.2.1 dX7_manyFor_1 rfl hl (by decide) rfl (fun ls hl => ?_)
  refine lv_iconst (v := (0 : Int32)) hC.1 hC.2.1 dX7_manyFor_2 (by decide) ?_
  refine lv_istore (lv' := [(4, .int (0 : Int32)), (3, .int (0 : Int32)), (0, .ref (ad G 86)), (1, .int x1), (2, .int x2)]) hC.1 hC.2.1 dX7_manyFor_3 hl (by decide) rfl (fun ls hl => ?_)
  exact w_X7_manyFor_5 hC _ hF hw (lv_sub hl [2, 3, 4, 1, 0] rfl)
abbrev rm_X7_isCarried : Room := { frames := 2, cells := 0, slots := 0, locals := 47 }
theorem yv_X7_isCarried : YV yX7_isCarried cX7_isCarried 2 (some .boolean) 1 RX7 := ⟨⟨q5_226, qs_56, q1_8, q5_227⟩, by decide +kernel⟩
theorem dX7_isCarried_0 : decode cX7_isCarried 0 = .ok (.aload_n 0, 1) := by decide +kernel
theorem dX7_isCarried_1 : decode cX7_isCarried 1 = .ok (.iconst 1, 1) := by decide +kernel
theorem dX7_isCarried_2 : decode cX7_isCarried 2 = .ok (.iload_n 1, 1) := by decide +kernel
theorem dX7_isCarried_3 : decode cX7_isCarried 3 = .ok (.invokevirtual 194, 3) := by decide +kernel
theorem dX7_isCarried_6 : decode cX7_isCarried 6 = .ok (.aload_n 0, 1) := by decide +kernel
theorem dX7_isCarried_7 : decode cX7_isCarried 7 = .ok (.iconst 0, 1) := by decide +kernel
theorem dX7_isCarried_8 : decode cX7_isCarried 8 = .ok (.iload_n 1, 1) := by decide +kernel
theorem dX7_isCarried_9 : decode cX7_isCarried 9 = .ok (.invokevirtual 194, 3) := by decide +kernel
theorem dX7_isCarried_12 : decode cX7_isCarried 12 = .ok (.if_icmp .le 7, 3) := by decide +kernel
theorem dX7_isCarried_15 : decode cX7_isCarried 15 = .ok (.iconst 1, 1) := by decide +kernel
theorem dX7_isCarried_16 : decode cX7_isCarried 16 = .ok (.goto 4, 3) := by decide +kernel
theorem dX7_isCarried_19 : decode cX7_isCarried 19 = .ok (.iconst 0, 1) := by decide +kernel
theorem dX7_isCarried_20 : decode cX7_isCarried 20 = .ok (.ireturn, 1) := by decide +kernel
def F_X7_isCarried (fu : Nat) (M : Mm) (x1 : Int32) : Option Int32 :=
  ob1 (F_X7_manyFor fu M (1 : Int32) x1) (fun r2 =>
  ob1 (F_X7_manyFor fu M (0 : Int32) x1) (fun r4 =>
  if r2 ≤ r4 then
    some (0 : Int32)
  else
    some (1 : Int32)))
set_option maxRecDepth 100000 in
set_option maxHeartbeats 4000000 in
theorem c_X7_isCarried {l : Launch} {G : Gv} {fu : Nat} {M : Mm} {x1 : Int32} {r : Int32} (hF : F_X7_isCarried fu M x1 = some r) : Met l yX7_isCarried (.code yX7_isCarried cX7_isCarried 2 (some .boolean) :: zU) rm_X7_isCarried (va_Pc [.ref (ad G 86), .int x1] (Wd G M)) (QI G r M) 0 0 (zA G) := by
  refine zMet (by decide) rfl (Nat.le_of_ble_eq_true rfl) ?_
  intro p e s m below meth c hC hw ls hl
  have hl : lv_has ls 2 [(0, .ref (ad G 86)), (1, .int x1)] := hl
  unfold F_X7_isCarried at hF
  refine lv_aload_n hC.1 hC.2.1 dX7_isCarried_0 rfl (lv_at hl 0 rfl) ?_
  refine lv_iconst (v := (1 : Int32)) hC.1 hC.2.1 dX7_isCarried_1 (by decide) ?_
  refine lv_iload_n hC.1 hC.2.1 dX7_isCarried_2 rfl (lv_at hl 1 rfl) ?_
  obtain ⟨r2, h1, hF⟩ := ob1S hF
  refine k_Vi (As := [.int (1 : Int32), .int x1]) (rest := []) hC hw (c_X7_manyFor (M := M) h1) RC_X yv_X7_manyFor q5_216 ⟨rfl, rfl⟩ ⟨Nat.le_of_ble_eq_true rfl, Nat.le_of_ble_eq_true rfl⟩ ⟨Nat.zero_le _, Nat.zero_le _⟩ rfl rfl (Nat.le_of_ble_eq_true rfl) hl dX7_isCarried_3 (fun H locs hw => ?_)
  refine lv_aload_n hC.1 hC.2.1 dX7_isCarried_6 rfl (lv_at hl 0 rfl) ?_
  refine lv_iconst (v := (0 : Int32)) hC.1 hC.2.1 dX7_isCarried_7 (by decide) ?_
  refine lv_iload_n hC.1 hC.2.1 dX7_isCarried_8 rfl (lv_at hl 1 rfl) ?_
  obtain ⟨r4, h3, hF⟩ := ob1S hF
  refine k_Vi (As := [.int (0 : Int32), .int x1]) (rest := [.int r2]) hC hw (c_X7_manyFor (M := M) h3) RC_X yv_X7_manyFor q5_216 ⟨rfl, rfl⟩ ⟨Nat.le_of_ble_eq_true rfl, Nat.le_of_ble_eq_true rfl⟩ ⟨Nat.zero_le _, Nat.zero_le _⟩ rfl rfl (Nat.le_of_ble_eq_true rfl) hl dX7_isCarried_9 (fun H locs hw => ?_)
  refine lv_icmp_le (tgt := 19) hC.1 hC.2.1 dX7_isCarried_12 (by decide) (fun b5 => ?_) (fun b5 => ?_)
  · have hF := ifP hF b5
    refine lv_iconst (v := (0 : Int32)) hC.1 hC.2.1 dX7_isCarried_19 (by decide) ?_
    exact r_zretP hC hw (by decide) hF dX7_isCarried_20
  · have hF := ifN hF b5
    refine lv_iconst (v := (1 : Int32)) hC.1 hC.2.1 dX7_isCarried_15 (by decide) ?_
    refine lv_goto (tgt := 20) hC.1 hC.2.1 dX7_isCarried_16 (by decide) ?_
    exact r_zretP hC hw (by decide) hF dX7_isCarried_20
abbrev rm_X7_goneIn : Room := { frames := 2, cells := 0, slots := 0, locals := 45 }
theorem yv_X7_goneIn : YV yX7_goneIn cX7_goneIn 4 (some .int) 1 RX7 := ⟨⟨q5_133, qs_49, q1_8, q5_134⟩, by decide +kernel⟩
theorem dX7_goneIn_0 : decode cX7_goneIn 0 = .ok (.aload_n 0, 1) := by decide +kernel
theorem dX7_goneIn_1 : decode cX7_goneIn 1 = .ok (.getfield 31, 3) := by decide +kernel
theorem dX7_goneIn_4 : decode cX7_goneIn 4 = .ok (.iload_n 1, 1) := by decide +kernel
theorem dX7_goneIn_5 : decode cX7_goneIn 5 = .ok (.iaload, 1) := by decide +kernel
theorem dX7_goneIn_6 : decode cX7_goneIn 6 = .ok (.istore_n 2, 1) := by decide +kernel
theorem dX7_goneIn_7 : decode cX7_goneIn 7 = .ok (.iconst 0, 1) := by decide +kernel
theorem dX7_goneIn_8 : decode cX7_goneIn 8 = .ok (.istore_n 3, 1) := by decide +kernel
theorem dX7_goneIn_9 : decode cX7_goneIn 9 = .ok (.iload_n 3, 1) := by decide +kernel
theorem dX7_goneIn_10 : decode cX7_goneIn 10 = .ok (.bipush 60, 2) := by decide +kernel
theorem dX7_goneIn_12 : decode cX7_goneIn 12 = .ok (.if_icmp .gt 44, 3) := by decide +kernel
theorem dX7_goneIn_15 : decode cX7_goneIn 15 = .ok (.iload_n 2, 1) := by decide +kernel
theorem dX7_goneIn_16 : decode cX7_goneIn 16 = .ok (.ifCond .ne 5, 3) := by decide +kernel
theorem dX7_goneIn_19 : decode cX7_goneIn 19 = .ok (.iload_n 3, 1) := by decide +kernel
theorem dX7_goneIn_20 : decode cX7_goneIn 20 = .ok (.ireturn, 1) := by decide +kernel
theorem dX7_goneIn_21 : decode cX7_goneIn 21 = .ok (.iconst 0, 1) := by decide +kernel
theorem dX7_goneIn_22 : decode cX7_goneIn 22 = .ok (.iload_n 2, 1) := by decide +kernel
theorem dX7_goneIn_23 : decode cX7_goneIn 23 = .ok (.aload_n 0, 1) := by decide +kernel
theorem dX7_goneIn_24 : decode cX7_goneIn 24 = .ok (.aload_n 0, 1) := by decide +kernel
theorem dX7_goneIn_25 : decode cX7_goneIn 25 = .ok (.getfield 22, 3) := by decide +kernel
theorem dX7_goneIn_28 : decode cX7_goneIn 28 = .ok (.iload_n 1, 1) := by decide +kernel
theorem dX7_goneIn_29 : decode cX7_goneIn 29 = .ok (.iaload, 1) := by decide +kernel
theorem dX7_goneIn_30 : decode cX7_goneIn 30 = .ok (.aload_n 0, 1) := by decide +kernel
theorem dX7_goneIn_31 : decode cX7_goneIn 31 = .ok (.getfield 34, 3) := by decide +kernel
theorem dX7_goneIn_34 : decode cX7_goneIn 34 = .ok (.iload_n 1, 1) := by decide +kernel
theorem dX7_goneIn_35 : decode cX7_goneIn 35 = .ok (.iaload, 1) := by decide +kernel
theorem dX7_goneIn_36 : decode cX7_goneIn 36 = .ok (.aload_n 0, 1) := by decide +kernel
theorem dX7_goneIn_37 : decode cX7_goneIn 37 = .ok (.getfield 167, 3) := by decide +kernel
theorem dX7_goneIn_40 : decode cX7_goneIn 40 = .ok (.iload_n 3, 1) := by decide +kernel
theorem dX7_goneIn_41 : decode cX7_goneIn 41 = .ok (.iadd, 1) := by decide +kernel
theorem dX7_goneIn_42 : decode cX7_goneIn 42 = .ok (.invokevirtual 177, 3) := by decide +kernel
theorem dX7_goneIn_45 : decode cX7_goneIn 45 = .ok (.isub, 1) := by decide +kernel
theorem dX7_goneIn_46 : decode cX7_goneIn 46 = .ok (.invokestatic 173, 3) := by decide +kernel
theorem dX7_goneIn_49 : decode cX7_goneIn 49 = .ok (.istore_n 2, 1) := by decide +kernel
theorem dX7_goneIn_50 : decode cX7_goneIn 50 = .ok (.iinc 3 1, 3) := by decide +kernel
theorem dX7_goneIn_53 : decode cX7_goneIn 53 = .ok (.goto (-44), 3) := by decide +kernel
theorem dX7_goneIn_56 : decode cX7_goneIn 56 = .ok (.bipush (-9), 2) := by decide +kernel
theorem dX7_goneIn_58 : decode cX7_goneIn 58 = .ok (.ireturn, 1) := by decide +kernel
def F_X7_goneIn_9 (fu : Nat) (M : Mm) : Nat → Int32 → Int32 → Int32 → Option Int32
  | 0, _, _, _ => none
  | n + 1, x1, x2, x3 =>
    if (60 : Int32) < x3 then
      some (-9 : Int32)
    else
      if x2 = 0 then
        some x3
      else
        if x1 < 0 ∨ ln 91 ≤ x1.toNatClampNeg then none else (
        if x1 < 0 ∨ ln 95 ≤ x1.toNatClampNeg then none else (
        ob1 (F_X7_melts fu M (M.1 91 x1.toNatClampNeg) (M.1 95 x1.toNatClampNeg) ((M.1 86 11) + x3)) (fun r6 =>
        ob1 (F_X7_most fu M (0 : Int32) (x2 - r6)) (fun r8 =>
        F_X7_goneIn_9 fu M n x1 r8 (x3 + (1 : Int32))))))
set_option maxRecDepth 100000 in
set_option maxHeartbeats 4000000 in
theorem w_X7_goneIn_9 {p : Program} {l : Launch} {e : Env} {s : State} {m : MethodId} {args : Array Value} {below : List Frame} {meth : Method} {c : Code} {G : Gv} (hC : Cx p s m args meth c cX7_goneIn 4 (some .int) RX7) {fu : Nat} {r : Int32} {M : Mm} : ∀ (n : Nat) {x1 : Int32} {x2 : Int32} {x3 : Int32} {H : Heap} {locs : List Loc} {ls : Array Slot}, F_X7_goneIn_9 fu M n x1 x2 x3 = some r → St G s H locs M → lv_has ls 4 [(0, .ref (ad G 86)), (1, .int x1), (2, .int x2), (3, .int x3)] → W p l e rm_X7_goneIn s m args below meth c H locs 0 0 (MQ below (QI G r M) args s 0 0 (zA G)) (F0 m 9 ls []) := by
  intro n
  induction n with
  | zero =>
    intro x1 x2 x3 H locs ls hF hw hl
    cases hF
  | succ n ih =>
    intro x1 x2 x3 H locs ls hF hw hl
    unfold F_X7_goneIn_9 at hF
    refine lv_iload_n hC.1 hC.2.1 dX7_goneIn_9 rfl (lv_at hl 3 rfl) ?_
    refine lv_bipush (v := (60 : Int32)) hC.1 hC.2.1 dX7_goneIn_10 (by decide) ?_
    refine lv_icmp_gt (tgt := 56) hC.1 hC.2.1 dX7_goneIn_12 (by decide) (fun b1 => ?_) (fun b1 => ?_)
    · have hF := ifP hF b1
      refine lv_bipush (v := (-9 : Int32)) hC.1 hC.2.1 dX7_goneIn_56 (by decide) ?_
      exact r_iretP hC hw hF dX7_goneIn_58
    · have hF := ifN hF b1
      refine lv_iload_n hC.1 hC.2.1 dX7_goneIn_15 rfl (lv_at hl 2 rfl) ?_
      refine lv_if_ne (tgt := 21) hC.1 hC.2.1 dX7_goneIn_16 (by decide) (fun b2 => ?_) (fun b2 => ?_)
      · have hF := ifN hF b2
        refine lv_iconst (v := (0 : Int32)) hC.1 hC.2.1 dX7_goneIn_21 (by decide) ?_
        refine lv_iload_n hC.1 hC.2.1 dX7_goneIn_22 rfl (lv_at hl 2 rfl) ?_
        refine lv_aload_n hC.1 hC.2.1 dX7_goneIn_23 rfl (lv_at hl 0 rfl) ?_
        refine lv_aload_n hC.1 hC.2.1 dX7_goneIn_24 rfl (lv_at hl 0 rfl) ?_
        refine g7_kindIs hC hw q4_127 dX7_goneIn_25 ?_
        refine lv_iload_n hC.1 hC.2.1 dX7_goneIn_28 rfl (lv_at hl 1 rfl) ?_
        obtain ⟨n3, hF⟩ := ifO hF
        refine r_iald hC.1 hC.2.1 hw (rfl : kd 91 = 1) n3 dX7_goneIn_29 ?_
        refine lv_aload_n hC.1 hC.2.1 dX7_goneIn_30 rfl (lv_at hl 0 rfl) ?_
        refine g7_shades hC hw q4_131 dX7_goneIn_31 ?_
        refine lv_iload_n hC.1 hC.2.1 dX7_goneIn_34 rfl (lv_at hl 1 rfl) ?_
        obtain ⟨n4, hF⟩ := ifO hF
        refine r_iald hC.1 hC.2.1 hw (rfl : kd 95 = 1) n4 dX7_goneIn_35 ?_
        refine lv_aload_n hC.1 hC.2.1 dX7_goneIn_36 rfl (lv_at hl 0 rfl) ?_
        refine g7_dayIs hC hw q4_133 dX7_goneIn_37 ?_
        refine lv_iload_n hC.1 hC.2.1 dX7_goneIn_40 rfl (lv_at hl 3 rfl) ?_
        refine lv_iadd hC.1 hC.2.1 dX7_goneIn_41 ?_
        obtain ⟨r6, h5, hF⟩ := ob1S hF
        refine k_Vi (As := [.int (M.1 91 x1.toNatClampNeg), .int (M.1 95 x1.toNatClampNeg), .int ((M.1 86 11) + x3)]) (rest := [.int x2, .int (0 : Int32)]) hC hw (c_X7_melts (M := M) h5) RC_X yv_X7_melts q5_109 ⟨rfl, rfl⟩ ⟨Nat.le_of_ble_eq_true rfl, Nat.le_of_ble_eq_true rfl⟩ ⟨Nat.zero_le _, Nat.zero_le _⟩ rfl rfl (Nat.le_of_ble_eq_true rfl) hl dX7_goneIn_42 (fun H locs hw => ?_)
        refine lv_isub hC.1 hC.2.1 dX7_goneIn_45 ?_
        obtain ⟨r8, h7, hF⟩ := ob1S hF
        refine k_Si (As := [.int (0 : Int32), .int (x2 - r6)]) (rest := []) hC hw (c_X7_most (M := M) h7) ys_X7_most q5_113 ⟨rfl, rfl⟩ ⟨Nat.le_of_ble_eq_true rfl, Nat.le_of_ble_eq_true rfl⟩ ⟨Nat.zero_le _, Nat.zero_le _⟩ rfl rfl (Nat.le_of_ble_eq_true rfl) hl dX7_goneIn_46 (fun H locs hw => ?_)
        refine lv_istore_n (lv' := [(2, .int r8), (0, .ref (ad G 86)), (1, .int x1), (3, .int x3)]) hC.1 hC.2.1 dX7_goneIn_49 rfl hl (by decide) rfl (fun ls hl => ?_)
        refine lv_iinc (v := (x3 + (1 : Int32))) (lv' := [(3, .int (x3 + (1 : Int32))), (2, .int r8), (0, .ref (ad G 86)), (1, .int x1)]) hC.1 hC.2.1 dX7_goneIn_50 hl (k := 3) rfl rfl (by decide) rfl (fun ls hl => ?_)
        refine lv_goto (tgt := 9) hC.1 hC.2.1 dX7_goneIn_53 (by decide) ?_
        exact ih hF hw (lv_sub hl [2, 3, 1, 0] rfl)
      · have hF := ifP hF b2
        refine lv_iload_n hC.1 hC.2.1 dX7_goneIn_19 rfl (lv_at hl 3 rfl) ?_
        exact r_iretP hC hw hF dX7_goneIn_20
def F_X7_goneIn (fu : Nat) (M : Mm) (x1 : Int32) : Option Int32 :=
  if x1 < 0 ∨ ln 94 ≤ x1.toNatClampNeg then none else (
  F_X7_goneIn_9 fu M fu x1 (M.1 94 x1.toNatClampNeg) (0 : Int32))
set_option maxRecDepth 100000 in
set_option maxHeartbeats 4000000 in
theorem c_X7_goneIn {l : Launch} {G : Gv} {fu : Nat} {M : Mm} {x1 : Int32} {r : Int32} (hF : F_X7_goneIn fu M x1 = some r) : Met l yX7_goneIn (.code yX7_goneIn cX7_goneIn 4 (some .int) :: zU) rm_X7_goneIn (va_Pc [.ref (ad G 86), .int x1] (Wd G M)) (QI G r M) 0 0 (zA G) := by
  refine zMet (by decide) rfl (Nat.le_of_ble_eq_true rfl) ?_
  intro p e s m below meth c hC hw ls hl
  have hl : lv_has ls 4 [(0, .ref (ad G 86)), (1, .int x1)] := hl
  unfold F_X7_goneIn at hF
  refine lv_aload_n hC.1 hC.2.1 dX7_goneIn_0 rfl (lv_at hl 0 rfl) ?_
  refine g7_bulks hC hw q4_130 dX7_goneIn_1 ?_
  refine lv_iload_n hC.1 hC.2.1 dX7_goneIn_4 rfl (lv_at hl 1 rfl) ?_
  obtain ⟨n1, hF⟩ := ifO hF
  refine r_iald hC.1 hC.2.1 hw (rfl : kd 94 = 1) n1 dX7_goneIn_5 ?_
  refine lv_istore_n (lv' := [(2, .int (M.1 94 x1.toNatClampNeg)), (0, .ref (ad G 86)), (1, .int x1)]) hC.1 hC.2.1 dX7_goneIn_6 rfl hl (by decide) rfl (fun ls hl => ?_)
  refine lv_iconst (v := (0 : Int32)) hC.1 hC.2.1 dX7_goneIn_7 (by decide) ?_
  refine lv_istore_n (lv' := [(3, .int (0 : Int32)), (2, .int (M.1 94 x1.toNatClampNeg)), (0, .ref (ad G 86)), (1, .int x1)]) hC.1 hC.2.1 dX7_goneIn_8 rfl hl (by decide) rfl (fun ls hl => ?_)
  exact w_X7_goneIn_9 hC _ hF hw (lv_sub hl [2, 3, 1, 0] rfl)
abbrev rm_X7_here : Room := { frames := 0, cells := 0, slots := 0, locals := 0 }
theorem yv_X7_here : YV yX7_here cX7_here 3 (some .int) 0 RX7 := ⟨⟨q5_167, qs_54, q1_8, q5_168⟩, by decide +kernel⟩
theorem dX7_here_0 : decode cX7_here 0 = .ok (.iconst 0, 1) := by decide +kernel
theorem dX7_here_1 : decode cX7_here 1 = .ok (.istore_n 1, 1) := by decide +kernel
theorem dX7_here_2 : decode cX7_here 2 = .ok (.iconst 0, 1) := by decide +kernel
theorem dX7_here_3 : decode cX7_here 3 = .ok (.istore_n 2, 1) := by decide +kernel
theorem dX7_here_4 : decode cX7_here 4 = .ok (.iload_n 2, 1) := by decide +kernel
theorem dX7_here_5 : decode cX7_here 5 = .ok (.aload_n 0, 1) := by decide +kernel
theorem dX7_here_6 : decode cX7_here 6 = .ok (.getfield 101, 3) := by decide +kernel
theorem dX7_here_9 : decode cX7_here 9 = .ok (.if_icmp .ge 28, 3) := by decide +kernel
theorem dX7_here_12 : decode cX7_here 12 = .ok (.iload_n 1, 1) := by decide +kernel
theorem dX7_here_13 : decode cX7_here 13 = .ok (.aload_n 0, 1) := by decide +kernel
theorem dX7_here_14 : decode cX7_here 14 = .ok (.getfield 31, 3) := by decide +kernel
theorem dX7_here_17 : decode cX7_here 17 = .ok (.iload_n 2, 1) := by decide +kernel
theorem dX7_here_18 : decode cX7_here 18 = .ok (.iaload, 1) := by decide +kernel
theorem dX7_here_19 : decode cX7_here 19 = .ok (.ifCond .le 9, 3) := by decide +kernel
theorem dX7_here_22 : decode cX7_here 22 = .ok (.iconst 1, 1) := by decide +kernel
theorem dX7_here_23 : decode cX7_here 23 = .ok (.iload_n 2, 1) := by decide +kernel
theorem dX7_here_24 : decode cX7_here 24 = .ok (.ishl, 1) := by decide +kernel
theorem dX7_here_25 : decode cX7_here 25 = .ok (.goto 4, 3) := by decide +kernel
theorem dX7_here_28 : decode cX7_here 28 = .ok (.iconst 0, 1) := by decide +kernel
theorem dX7_here_29 : decode cX7_here 29 = .ok (.ior, 1) := by decide +kernel
theorem dX7_here_30 : decode cX7_here 30 = .ok (.istore_n 1, 1) := by decide +kernel
theorem dX7_here_31 : decode cX7_here 31 = .ok (.iinc 2 1, 3) := by decide +kernel
theorem dX7_here_34 : decode cX7_here 34 = .ok (.goto (-30), 3) := by decide +kernel
theorem dX7_here_37 : decode cX7_here 37 = .ok (.iload_n 1, 1) := by decide +kernel
theorem dX7_here_38 : decode cX7_here 38 = .ok (.ireturn, 1) := by decide +kernel
def F_X7_here_4 (fu : Nat) (M : Mm) : Nat → Int32 → Int32 → Option Int32
  | 0, _, _ => none
  | n + 1, x1, x2 =>
    if (M.1 86 4) ≤ x2 then
      some x1
    else
      if x2 < 0 ∨ ln 94 ≤ x2.toNatClampNeg then none else (
      if (M.1 94 x2.toNatClampNeg) ≤ 0 then
        F_X7_here_4 fu M n (x1 ||| (0 : Int32)) (x2 + (1 : Int32))
      else
        F_X7_here_4 fu M n (x1 ||| ((1 : Int32) <<< (x2 &&& 31))) (x2 + (1 : Int32)))
set_option maxRecDepth 100000 in
set_option maxHeartbeats 4000000 in
theorem w_X7_here_4 {p : Program} {l : Launch} {e : Env} {s : State} {m : MethodId} {args : Array Value} {below : List Frame} {meth : Method} {c : Code} {G : Gv} (hC : Cx p s m args meth c cX7_here 3 (some .int) RX7) {fu : Nat} {r : Int32} {M : Mm} : ∀ (n : Nat) {x1 : Int32} {x2 : Int32} {H : Heap} {locs : List Loc} {ls : Array Slot}, F_X7_here_4 fu M n x1 x2 = some r → St G s H locs M → lv_has ls 3 [(0, .ref (ad G 86)), (1, .int x1), (2, .int x2)] → W p l e rm_X7_here s m args below meth c H locs 0 0 (MQ below (QI G r M) args s 0 0 (zA G)) (F0 m 4 ls []) := by
  intro n
  induction n with
  | zero =>
    intro x1 x2 H locs ls hF hw hl
    cases hF
  | succ n ih =>
    intro x1 x2 H locs ls hF hw hl
    unfold F_X7_here_4 at hF
    refine lv_iload_n hC.1 hC.2.1 dX7_here_4 rfl (lv_at hl 2 rfl) ?_
    refine lv_aload_n hC.1 hC.2.1 dX7_here_5 rfl (lv_at hl 0 rfl) ?_
    refine g7_men hC hw q4_126 dX7_here_6 ?_
    refine lv_icmp_ge (tgt := 37) hC.1 hC.2.1 dX7_here_9 (by decide) (fun b1 => ?_) (fun b1 => ?_)
    · have hF := ifP hF b1
      refine lv_iload_n hC.1 hC.2.1 dX7_here_37 rfl (lv_at hl 1 rfl) ?_
      exact r_iretP hC hw hF dX7_here_38
    · have hF := ifN hF b1
      refine lv_iload_n hC.1 hC.2.1 dX7_here_12 rfl (lv_at hl 1 rfl) ?_
      refine lv_aload_n hC.1 hC.2.1 dX7_here_13 rfl (lv_at hl 0 rfl) ?_
      refine g7_bulks hC hw q4_130 dX7_here_14 ?_
      refine lv_iload_n hC.1 hC.2.1 dX7_here_17 rfl (lv_at hl 2 rfl) ?_
      obtain ⟨n2, hF⟩ := ifO hF
      refine r_iald hC.1 hC.2.1 hw (rfl : kd 94 = 1) n2 dX7_here_18 ?_
      refine lv_if_le (tgt := 28) hC.1 hC.2.1 dX7_here_19 (by decide) (fun b3 => ?_) (fun b3 => ?_)
      · have hF := ifP hF b3
        refine lv_iconst (v := (0 : Int32)) hC.1 hC.2.1 dX7_here_28 (by decide) ?_
        refine lv_ior hC.1 hC.2.1 dX7_here_29 ?_
        refine lv_istore_n (lv' := [(1, .int (x1 ||| (0 : Int32))), (0, .ref (ad G 86)), (2, .int x2)]) hC.1 hC.2.1 dX7_here_30 rfl hl (by decide) rfl (fun ls hl => ?_)
        refine lv_iinc (v := (x2 + (1 : Int32))) (lv' := [(2, .int (x2 + (1 : Int32))), (1, .int (x1 ||| (0 : Int32))), (0, .ref (ad G 86))]) hC.1 hC.2.1 dX7_here_31 hl (k := 2) rfl rfl (by decide) rfl (fun ls hl => ?_)
        refine lv_goto (tgt := 4) hC.1 hC.2.1 dX7_here_34 (by decide) ?_
        exact ih hF hw (lv_sub hl [2, 1, 0] rfl)
      · have hF := ifN hF b3
        refine lv_iconst (v := (1 : Int32)) hC.1 hC.2.1 dX7_here_22 (by decide) ?_
        refine lv_iload_n hC.1 hC.2.1 dX7_here_23 rfl (lv_at hl 2 rfl) ?_
        refine lv_ishl hC.1 hC.2.1 dX7_here_24 ?_
        refine lv_goto (tgt := 29) hC.1 hC.2.1 dX7_here_25 (by decide) ?_
        refine lv_ior hC.1 hC.2.1 dX7_here_29 ?_
        refine lv_istore_n (lv' := [(1, .int (x1 ||| ((1 : Int32) <<< (x2 &&& 31)))), (0, .ref (ad G 86)), (2, .int x2)]) hC.1 hC.2.1 dX7_here_30 rfl hl (by decide) rfl (fun ls hl => ?_)
        refine lv_iinc (v := (x2 + (1 : Int32))) (lv' := [(2, .int (x2 + (1 : Int32))), (1, .int (x1 ||| ((1 : Int32) <<< (x2 &&& 31)))), (0, .ref (ad G 86))]) hC.1 hC.2.1 dX7_here_31 hl (k := 2) rfl rfl (by decide) rfl (fun ls hl => ?_)
        refine lv_goto (tgt := 4) hC.1 hC.2.1 dX7_here_34 (by decide) ?_
        exact ih hF hw (lv_sub hl [2, 1, 0] rfl)
def F_X7_here (fu : Nat) (M : Mm) : Option Int32 :=
  F_X7_here_4 fu M fu (0 : Int32) (0 : Int32)
set_option maxRecDepth 100000 in
set_option maxHeartbeats 4000000 in
theorem c_X7_here {l : Launch} {G : Gv} {fu : Nat} {M : Mm} {r : Int32} (hF : F_X7_here fu M = some r) : Met l yX7_here (.code yX7_here cX7_here 3 (some .int) :: zU) rm_X7_here (va_Pc [.ref (ad G 86)] (Wd G M)) (QI G r M) 0 0 (zA G) := by
  refine zMet (by decide) rfl (Nat.le_of_ble_eq_true rfl) ?_
  intro p e s m below meth c hC hw ls hl
  have hl : lv_has ls 3 [(0, .ref (ad G 86))] := hl
  unfold F_X7_here at hF
  refine lv_iconst (v := (0 : Int32)) hC.1 hC.2.1 dX7_here_0 (by decide) ?_
  refine lv_istore_n (lv' := [(1, .int (0 : Int32)), (0, .ref (ad G 86))]) hC.1 hC.2.1 dX7_here_1 rfl hl (by decide) rfl (fun ls hl => ?_)
  refine lv_iconst (v := (0 : Int32)) hC.1 hC.2.1 dX7_here_2 (by decide) ?_
  refine lv_istore_n (lv' := [(2, .int (0 : Int32)), (1, .int (0 : Int32)), (0, .ref (ad G 86))]) hC.1 hC.2.1 dX7_here_3 rfl hl (by decide) rfl (fun ls hl => ?_)
  exact w_X7_here_4 hC _ hF hw (lv_sub hl [2, 1, 0] rfl)
abbrev rm_X7_man : Room := { frames := 5, cells := 0, slots := 0, locals := 116 }
theorem yv_X7_man : YV yX7_man cX7_man 3 (some .int) 2 RX7 := ⟨⟨q5_86, q5_87, q1_8, q5_88⟩, by decide +kernel⟩
theorem dX7_man_0 : decode cX7_man 0 = .ok (.aload_n 0, 1) := by decide +kernel
theorem dX7_man_1 : decode cX7_man 1 = .ok (.iload_n 1, 1) := by decide +kernel
theorem dX7_man_2 : decode cX7_man 2 = .ok (.invokevirtual 197, 3) := by decide +kernel
theorem dX7_man_5 : decode cX7_man 5 = .ok (.ifCond .eq 15, 3) := by decide +kernel
theorem dX7_man_8 : decode cX7_man 8 = .ok (.iload_n 2, 1) := by decide +kernel
theorem dX7_man_9 : decode cX7_man 9 = .ok (.i2l, 1) := by decide +kernel
theorem dX7_man_10 : decode cX7_man 10 = .ok (.lconst 0, 1) := by decide +kernel
theorem dX7_man_11 : decode cX7_man 11 = .ok (.ldc2_w 108, 3) := by decide +kernel
theorem dX7_man_14 : decode cX7_man 14 = .ok (.invokestatic 104, 3) := by decide +kernel
theorem dX7_man_17 : decode cX7_man 17 = .ok (.ifCond .ne 5, 3) := by decide +kernel
theorem dX7_man_20 : decode cX7_man 20 = .ok (.iconst (-1), 1) := by decide +kernel
theorem dX7_man_21 : decode cX7_man 21 = .ok (.ireturn, 1) := by decide +kernel
theorem dX7_man_22 : decode cX7_man 22 = .ok (.iload_n 2, 1) := by decide +kernel
theorem dX7_man_23 : decode cX7_man 23 = .ok (.tableswitch 101 0 4 #[33, 44, 55, 66, 77], 33) := by decide +kernel
theorem dX7_man_56 : decode cX7_man 56 = .ok (.aload_n 0, 1) := by decide +kernel
theorem dX7_man_57 : decode cX7_man 57 = .ok (.aload_n 0, 1) := by decide +kernel
theorem dX7_man_58 : decode cX7_man 58 = .ok (.getfield 22, 3) := by decide +kernel
theorem dX7_man_61 : decode cX7_man 61 = .ok (.iload_n 1, 1) := by decide +kernel
theorem dX7_man_62 : decode cX7_man 62 = .ok (.iaload, 1) := by decide +kernel
theorem dX7_man_63 : decode cX7_man 63 = .ok (.invokevirtual 126, 3) := by decide +kernel
theorem dX7_man_66 : decode cX7_man 66 = .ok (.ireturn, 1) := by decide +kernel
theorem dX7_man_67 : decode cX7_man 67 = .ok (.aload_n 0, 1) := by decide +kernel
theorem dX7_man_68 : decode cX7_man 68 = .ok (.aload_n 0, 1) := by decide +kernel
theorem dX7_man_69 : decode cX7_man 69 = .ok (.getfield 31, 3) := by decide +kernel
theorem dX7_man_72 : decode cX7_man 72 = .ok (.iload_n 1, 1) := by decide +kernel
theorem dX7_man_73 : decode cX7_man 73 = .ok (.iaload, 1) := by decide +kernel
theorem dX7_man_74 : decode cX7_man 74 = .ok (.invokevirtual 126, 3) := by decide +kernel
theorem dX7_man_77 : decode cX7_man 77 = .ok (.ireturn, 1) := by decide +kernel
theorem dX7_man_78 : decode cX7_man 78 = .ok (.aload_n 0, 1) := by decide +kernel
theorem dX7_man_79 : decode cX7_man 79 = .ok (.aload_n 0, 1) := by decide +kernel
theorem dX7_man_80 : decode cX7_man 80 = .ok (.getfield 34, 3) := by decide +kernel
theorem dX7_man_83 : decode cX7_man 83 = .ok (.iload_n 1, 1) := by decide +kernel
theorem dX7_man_84 : decode cX7_man 84 = .ok (.iaload, 1) := by decide +kernel
theorem dX7_man_85 : decode cX7_man 85 = .ok (.invokevirtual 126, 3) := by decide +kernel
theorem dX7_man_88 : decode cX7_man 88 = .ok (.ireturn, 1) := by decide +kernel
theorem dX7_man_89 : decode cX7_man 89 = .ok (.aload_n 0, 1) := by decide +kernel
theorem dX7_man_90 : decode cX7_man 90 = .ok (.aload_n 0, 1) := by decide +kernel
theorem dX7_man_91 : decode cX7_man 91 = .ok (.getfield 25, 3) := by decide +kernel
theorem dX7_man_94 : decode cX7_man 94 = .ok (.iload_n 1, 1) := by decide +kernel
theorem dX7_man_95 : decode cX7_man 95 = .ok (.iaload, 1) := by decide +kernel
theorem dX7_man_96 : decode cX7_man 96 = .ok (.invokevirtual 126, 3) := by decide +kernel
theorem dX7_man_99 : decode cX7_man 99 = .ok (.ireturn, 1) := by decide +kernel
theorem dX7_man_100 : decode cX7_man 100 = .ok (.aload_n 0, 1) := by decide +kernel
theorem dX7_man_101 : decode cX7_man 101 = .ok (.aload_n 0, 1) := by decide +kernel
theorem dX7_man_102 : decode cX7_man 102 = .ok (.iload_n 1, 1) := by decide +kernel
theorem dX7_man_103 : decode cX7_man 103 = .ok (.aload_n 0, 1) := by decide +kernel
theorem dX7_man_104 : decode cX7_man 104 = .ok (.getfield 31, 3) := by decide +kernel
theorem dX7_man_107 : decode cX7_man 107 = .ok (.iload_n 1, 1) := by decide +kernel
theorem dX7_man_108 : decode cX7_man 108 = .ok (.iaload, 1) := by decide +kernel
theorem dX7_man_109 : decode cX7_man 109 = .ok (.invokevirtual 187, 3) := by decide +kernel
theorem dX7_man_112 : decode cX7_man 112 = .ok (.ifCond .eq 7, 3) := by decide +kernel
theorem dX7_man_115 : decode cX7_man 115 = .ok (.iconst 1, 1) := by decide +kernel
theorem dX7_man_116 : decode cX7_man 116 = .ok (.goto 4, 3) := by decide +kernel
theorem dX7_man_119 : decode cX7_man 119 = .ok (.iconst 0, 1) := by decide +kernel
theorem dX7_man_120 : decode cX7_man 120 = .ok (.invokevirtual 126, 3) := by decide +kernel
theorem dX7_man_123 : decode cX7_man 123 = .ok (.ireturn, 1) := by decide +kernel
theorem dX7_man_124 : decode cX7_man 124 = .ok (.aload_n 0, 1) := by decide +kernel
theorem dX7_man_125 : decode cX7_man 125 = .ok (.aload_n 0, 1) := by decide +kernel
theorem dX7_man_126 : decode cX7_man 126 = .ok (.iload_n 1, 1) := by decide +kernel
theorem dX7_man_127 : decode cX7_man 127 = .ok (.aload_n 0, 1) := by decide +kernel
theorem dX7_man_128 : decode cX7_man 128 = .ok (.iconst 0, 1) := by decide +kernel
theorem dX7_man_129 : decode cX7_man 129 = .ok (.invokevirtual 200, 3) := by decide +kernel
theorem dX7_man_132 : decode cX7_man 132 = .ok (.invokevirtual 191, 3) := by decide +kernel
theorem dX7_man_135 : decode cX7_man 135 = .ok (.invokevirtual 126, 3) := by decide +kernel
theorem dX7_man_138 : decode cX7_man 138 = .ok (.ireturn, 1) := by decide +kernel
def F_X7_man_120 (fu : Nat) (M : Mm) (t1 : Int32) : Option (Int32 × Mm) :=
  ob2 (F_X7_tells fu M t1) (fun r2 M3 =>
  some (r2, M3))
set_option maxRecDepth 100000 in
set_option maxHeartbeats 4000000 in
theorem w_X7_man_120 {p : Program} {l : Launch} {e : Env} {s : State} {m : MethodId} {args : Array Value} {below : List Frame} {meth : Method} {c : Code} {G : Gv} (hC : Cx p s m args meth c cX7_man 3 (some .int) RX7) {fu : Nat} {r : Int32} {M' : Mm} {t1 : Int32} {M : Mm} {H : Heap} {locs : List Loc} {ls : Array Slot} (hF : F_X7_man_120 fu M t1 = some (r, M')) (hw : St G s H locs M) (hl : lv_has ls 3 []) : W p l e rm_X7_man s m args below meth c H locs 0 0 (MQ below (QI G r M') args s 0 0 (zA G)) (F0 m 120 ls [.int t1, .ref (ad G 86)]) := by
  unfold F_X7_man_120 at hF
  obtain ⟨r2, M3, h1, hF⟩ := ob2S hF
  refine k_Vi (As := [.int t1]) (rest := []) hC hw (c_X7_tells (M := M) h1) RC_X yv_X7_tells q5_18 ⟨rfl, rfl⟩ ⟨Nat.le_of_ble_eq_true rfl, Nat.le_of_ble_eq_true rfl⟩ ⟨Nat.zero_le _, Nat.zero_le _⟩ rfl rfl (Nat.le_of_ble_eq_true rfl) hl dX7_man_120 (fun H locs hw => ?_)
  exact r_iretE hC hw hF dX7_man_123
def F_X7_man (fu : Nat) (M : Mm) (x1 : Int32) (x2 : Int32) : Option (Int32 × Mm) :=
  ob1 (F_X7_isMan fu M x1) (fun r2 =>
  if r2 = 0 then
    some ((-1 : Int32), M)
  else
    ob1 (F_X7_in fu M x2.toInt64 (0 : Int64) (5 : Int64)) (fun r5 =>
    if r5 = 0 then
      some ((-1 : Int32), M)
    else
      if x2 = (0 : Int32) then
        if x1 < 0 ∨ ln 91 ≤ x1.toNatClampNeg then none else (
        ob2 (F_X7_tells fu M (M.1 91 x1.toNatClampNeg)) (fun r10 M11 =>
        some (r10, M11)))
      else
      if x2 = (1 : Int32) then
        if x1 < 0 ∨ ln 94 ≤ x1.toNatClampNeg then none else (
        ob2 (F_X7_tells fu M (M.1 94 x1.toNatClampNeg)) (fun r15 M16 =>
        some (r15, M16)))
      else
      if x2 = (2 : Int32) then
        if x1 < 0 ∨ ln 95 ≤ x1.toNatClampNeg then none else (
        ob2 (F_X7_tells fu M (M.1 95 x1.toNatClampNeg)) (fun r20 M21 =>
        some (r20, M21)))
      else
      if x2 = (3 : Int32) then
        if x1 < 0 ∨ ln 92 ≤ x1.toNatClampNeg then none else (
        ob2 (F_X7_tells fu M (M.1 92 x1.toNatClampNeg)) (fun r25 M26 =>
        some (r25, M26)))
      else
      if x2 = (4 : Int32) then
        if x1 < 0 ∨ ln 94 ≤ x1.toNatClampNeg then none else (
        ob1 (F_X7_mayVote fu M x1 (M.1 94 x1.toNatClampNeg)) (fun r30 =>
        if r30 = 0 then
          F_X7_man_120 fu M (0 : Int32)
        else
          F_X7_man_120 fu M (1 : Int32)))
      else
      ob1 (F_X7_whoThen fu M (0 : Int32)) (fun r33 =>
      ob1 (F_X7_votesBy fu M x1 r33) (fun r35 =>
      ob2 (F_X7_tells fu M r35) (fun r37 M38 =>
      some (r37, M38))))))
set_option maxRecDepth 100000 in
set_option maxHeartbeats 4000000 in
theorem c_X7_man {l : Launch} {G : Gv} {fu : Nat} {M : Mm} {x1 : Int32} {x2 : Int32} {r : Int32} {M' : Mm} (hF : F_X7_man fu M x1 x2 = some (r, M')) : Met l yX7_man (.code yX7_man cX7_man 3 (some .int) :: zU) rm_X7_man (va_Pc [.ref (ad G 86), .int x1, .int x2] (Wd G M)) (QI G r M') 0 0 (zA G) := by
  refine zMet (by decide) rfl (Nat.le_of_ble_eq_true rfl) ?_
  intro p e s m below meth c hC hw ls hl
  have hl : lv_has ls 3 [(0, .ref (ad G 86)), (1, .int x1), (2, .int x2)] := hl
  unfold F_X7_man at hF
  refine lv_aload_n hC.1 hC.2.1 dX7_man_0 rfl (lv_at hl 0 rfl) ?_
  refine lv_iload_n hC.1 hC.2.1 dX7_man_1 rfl (lv_at hl 1 rfl) ?_
  obtain ⟨r2, h1, hF⟩ := ob1S hF
  refine k_Vi (As := [.int x1]) (rest := []) hC hw (c_X7_isMan (M := M) h1) RC_X yv_X7_isMan q5_89 ⟨rfl, rfl⟩ ⟨Nat.le_of_ble_eq_true rfl, Nat.le_of_ble_eq_true rfl⟩ ⟨Nat.zero_le _, Nat.zero_le _⟩ rfl rfl (Nat.le_of_ble_eq_true rfl) hl dX7_man_2 (fun H locs hw => ?_)
  refine lv_if_eq (tgt := 20) hC.1 hC.2.1 dX7_man_5 (by decide) (fun b3 => ?_) (fun b3 => ?_)
  · have hF := ifP hF b3
    refine lv_iconst (v := (-1 : Int32)) hC.1 hC.2.1 dX7_man_20 (by decide) ?_
    exact r_iretE hC hw hF dX7_man_21
  · have hF := ifN hF b3
    refine lv_iload_n hC.1 hC.2.1 dX7_man_8 rfl (lv_at hl 2 rfl) ?_
    refine lv_i2l hC.1 hC.2.1 dX7_man_9 rfl ?_
    refine lv_lconst (v := (0 : Int64)) hC.1 hC.2.1 dX7_man_10 (by decide) ?_
    refine lv_ldc2 (v := (5 : Int64)) hC.1 hC.2.1 hC.2.2.2.1 (hC.2.2.2.2.1 _ q5_2) dX7_man_11 ?_
    obtain ⟨r5, h4, hF⟩ := ob1S hF
    refine k_Si (As := [.long x2.toInt64, .long (0 : Int64), .long (5 : Int64)]) (rest := []) hC hw (c_X7_in (M := M) h4) ys_X7_in q5_3 ⟨rfl, rfl⟩ ⟨Nat.le_of_ble_eq_true rfl, Nat.le_of_ble_eq_true rfl⟩ ⟨Nat.zero_le _, Nat.zero_le _⟩ rfl rfl (Nat.le_of_ble_eq_true rfl) hl dX7_man_14 (fun H locs hw => ?_)
    refine lv_if_ne (tgt := 22) hC.1 hC.2.1 dX7_man_17 (by decide) (fun b6 => ?_) (fun b6 => ?_)
    · have hF := ifN hF b6
      refine lv_iload_n hC.1 hC.2.1 dX7_man_22 rfl (lv_at hl 2 rfl) ?_
      rcases Classical.em (x2 = (0 : Int32)) with w7 | w7
      · have hF := ifP hF w7
        refine r_swI (v := (0 : Int32)) (off := 33) (tgt := 56) hC.1 hC.2.1 w7 dX7_man_23 (by decide) (by decide) rfl (by decide) ?_
        refine lv_aload_n hC.1 hC.2.1 dX7_man_56 rfl (lv_at hl 0 rfl) ?_
        refine lv_aload_n hC.1 hC.2.1 dX7_man_57 rfl (lv_at hl 0 rfl) ?_
        refine g7_kindIs hC hw q4_127 dX7_man_58 ?_
        refine lv_iload_n hC.1 hC.2.1 dX7_man_61 rfl (lv_at hl 1 rfl) ?_
        obtain ⟨n8, hF⟩ := ifO hF
        refine r_iald hC.1 hC.2.1 hw (rfl : kd 91 = 1) n8 dX7_man_62 ?_
        obtain ⟨r10, M11, h9, hF⟩ := ob2S hF
        refine k_Vi (As := [.int (M.1 91 x1.toNatClampNeg)]) (rest := []) hC hw (c_X7_tells (M := M) h9) RC_X yv_X7_tells q5_18 ⟨rfl, rfl⟩ ⟨Nat.le_of_ble_eq_true rfl, Nat.le_of_ble_eq_true rfl⟩ ⟨Nat.zero_le _, Nat.zero_le _⟩ rfl rfl (Nat.le_of_ble_eq_true rfl) hl dX7_man_63 (fun H locs hw => ?_)
        exact r_iretE hC hw hF dX7_man_66
      have hF := ifN hF w7
      rcases Classical.em (x2 = (1 : Int32)) with w12 | w12
      · have hF := ifP hF w12
        refine r_swI (v := (1 : Int32)) (off := 44) (tgt := 67) hC.1 hC.2.1 w12 dX7_man_23 (by decide) (by decide) rfl (by decide) ?_
        refine lv_aload_n hC.1 hC.2.1 dX7_man_67 rfl (lv_at hl 0 rfl) ?_
        refine lv_aload_n hC.1 hC.2.1 dX7_man_68 rfl (lv_at hl 0 rfl) ?_
        refine g7_bulks hC hw q4_130 dX7_man_69 ?_
        refine lv_iload_n hC.1 hC.2.1 dX7_man_72 rfl (lv_at hl 1 rfl) ?_
        obtain ⟨n13, hF⟩ := ifO hF
        refine r_iald hC.1 hC.2.1 hw (rfl : kd 94 = 1) n13 dX7_man_73 ?_
        obtain ⟨r15, M16, h14, hF⟩ := ob2S hF
        refine k_Vi (As := [.int (M.1 94 x1.toNatClampNeg)]) (rest := []) hC hw (c_X7_tells (M := M) h14) RC_X yv_X7_tells q5_18 ⟨rfl, rfl⟩ ⟨Nat.le_of_ble_eq_true rfl, Nat.le_of_ble_eq_true rfl⟩ ⟨Nat.zero_le _, Nat.zero_le _⟩ rfl rfl (Nat.le_of_ble_eq_true rfl) hl dX7_man_74 (fun H locs hw => ?_)
        exact r_iretE hC hw hF dX7_man_77
      have hF := ifN hF w12
      rcases Classical.em (x2 = (2 : Int32)) with w17 | w17
      · have hF := ifP hF w17
        refine r_swI (v := (2 : Int32)) (off := 55) (tgt := 78) hC.1 hC.2.1 w17 dX7_man_23 (by decide) (by decide) rfl (by decide) ?_
        refine lv_aload_n hC.1 hC.2.1 dX7_man_78 rfl (lv_at hl 0 rfl) ?_
        refine lv_aload_n hC.1 hC.2.1 dX7_man_79 rfl (lv_at hl 0 rfl) ?_
        refine g7_shades hC hw q4_131 dX7_man_80 ?_
        refine lv_iload_n hC.1 hC.2.1 dX7_man_83 rfl (lv_at hl 1 rfl) ?_
        obtain ⟨n18, hF⟩ := ifO hF
        refine r_iald hC.1 hC.2.1 hw (rfl : kd 95 = 1) n18 dX7_man_84 ?_
        obtain ⟨r20, M21, h19, hF⟩ := ob2S hF
        refine k_Vi (As := [.int (M.1 95 x1.toNatClampNeg)]) (rest := []) hC hw (c_X7_tells (M := M) h19) RC_X yv_X7_tells q5_18 ⟨rfl, rfl⟩ ⟨Nat.le_of_ble_eq_true rfl, Nat.le_of_ble_eq_true rfl⟩ ⟨Nat.zero_le _, Nat.zero_le _⟩ rfl rfl (Nat.le_of_ble_eq_true rfl) hl dX7_man_85 (fun H locs hw => ?_)
        exact r_iretE hC hw hF dX7_man_88
      have hF := ifN hF w17
      rcases Classical.em (x2 = (3 : Int32)) with w22 | w22
      · have hF := ifP hF w22
        refine r_swI (v := (3 : Int32)) (off := 66) (tgt := 89) hC.1 hC.2.1 w22 dX7_man_23 (by decide) (by decide) rfl (by decide) ?_
        refine lv_aload_n hC.1 hC.2.1 dX7_man_89 rfl (lv_at hl 0 rfl) ?_
        refine lv_aload_n hC.1 hC.2.1 dX7_man_90 rfl (lv_at hl 0 rfl) ?_
        refine g7_own hC hw q4_128 dX7_man_91 ?_
        refine lv_iload_n hC.1 hC.2.1 dX7_man_94 rfl (lv_at hl 1 rfl) ?_
        obtain ⟨n23, hF⟩ := ifO hF
        refine r_iald hC.1 hC.2.1 hw (rfl : kd 92 = 1) n23 dX7_man_95 ?_
        obtain ⟨r25, M26, h24, hF⟩ := ob2S hF
        refine k_Vi (As := [.int (M.1 92 x1.toNatClampNeg)]) (rest := []) hC hw (c_X7_tells (M := M) h24) RC_X yv_X7_tells q5_18 ⟨rfl, rfl⟩ ⟨Nat.le_of_ble_eq_true rfl, Nat.le_of_ble_eq_true rfl⟩ ⟨Nat.zero_le _, Nat.zero_le _⟩ rfl rfl (Nat.le_of_ble_eq_true rfl) hl dX7_man_96 (fun H locs hw => ?_)
        exact r_iretE hC hw hF dX7_man_99
      have hF := ifN hF w22
      rcases Classical.em (x2 = (4 : Int32)) with w27 | w27
      · have hF := ifP hF w27
        refine r_swI (v := (4 : Int32)) (off := 77) (tgt := 100) hC.1 hC.2.1 w27 dX7_man_23 (by decide) (by decide) rfl (by decide) ?_
        refine lv_aload_n hC.1 hC.2.1 dX7_man_100 rfl (lv_at hl 0 rfl) ?_
        refine lv_aload_n hC.1 hC.2.1 dX7_man_101 rfl (lv_at hl 0 rfl) ?_
        refine lv_iload_n hC.1 hC.2.1 dX7_man_102 rfl (lv_at hl 1 rfl) ?_
        refine lv_aload_n hC.1 hC.2.1 dX7_man_103 rfl (lv_at hl 0 rfl) ?_
        refine g7_bulks hC hw q4_130 dX7_man_104 ?_
        refine lv_iload_n hC.1 hC.2.1 dX7_man_107 rfl (lv_at hl 1 rfl) ?_
        obtain ⟨n28, hF⟩ := ifO hF
        refine r_iald hC.1 hC.2.1 hw (rfl : kd 94 = 1) n28 dX7_man_108 ?_
        obtain ⟨r30, h29, hF⟩ := ob1S hF
        refine k_Vi (As := [.int x1, .int (M.1 94 x1.toNatClampNeg)]) (rest := [.ref (ad G 86)]) hC hw (c_X7_mayVote (M := M) h29) RC_X yv_X7_mayVote q5_93 ⟨rfl, rfl⟩ ⟨Nat.le_of_ble_eq_true rfl, Nat.le_of_ble_eq_true rfl⟩ ⟨Nat.zero_le _, Nat.zero_le _⟩ rfl rfl (Nat.le_of_ble_eq_true rfl) hl dX7_man_109 (fun H locs hw => ?_)
        refine lv_if_eq (tgt := 119) hC.1 hC.2.1 dX7_man_112 (by decide) (fun b31 => ?_) (fun b31 => ?_)
        · have hF := ifP hF b31
          refine lv_iconst (v := (0 : Int32)) hC.1 hC.2.1 dX7_man_119 (by decide) ?_
          exact w_X7_man_120 hC hF hw (lv_sub hl [] rfl)
        · have hF := ifN hF b31
          refine lv_iconst (v := (1 : Int32)) hC.1 hC.2.1 dX7_man_115 (by decide) ?_
          refine lv_goto (tgt := 120) hC.1 hC.2.1 dX7_man_116 (by decide) ?_
          exact w_X7_man_120 hC hF hw (lv_sub hl [] rfl)
      have hF := ifN hF w27
      refine r_swD (tgt := 124) (vs := [(0 : Int32), (1 : Int32), (2 : Int32), (3 : Int32), (4 : Int32)]) hC.1 hC.2.1 (List.forall_mem_cons.mpr ⟨w7, List.forall_mem_cons.mpr ⟨w12, List.forall_mem_cons.mpr ⟨w17, List.forall_mem_cons.mpr ⟨w22, List.forall_mem_cons.mpr ⟨w27, fun v hv => absurd hv List.not_mem_nil⟩⟩⟩⟩⟩) dX7_man_23 (by decide) rfl (by decide) ?_
      refine lv_aload_n hC.1 hC.2.1 dX7_man_124 rfl (lv_at hl 0 rfl) ?_
      refine lv_aload_n hC.1 hC.2.1 dX7_man_125 rfl (lv_at hl 0 rfl) ?_
      refine lv_iload_n hC.1 hC.2.1 dX7_man_126 rfl (lv_at hl 1 rfl) ?_
      refine lv_aload_n hC.1 hC.2.1 dX7_man_127 rfl (lv_at hl 0 rfl) ?_
      refine lv_iconst (v := (0 : Int32)) hC.1 hC.2.1 dX7_man_128 (by decide) ?_
      obtain ⟨r33, h32, hF⟩ := ob1S hF
      refine k_Vi (As := [.int (0 : Int32)]) (rest := [.int x1, .ref (ad G 86), .ref (ad G 86)]) hC hw (c_X7_whoThen (M := M) h32) RC_X yv_X7_whoThen q5_97 ⟨rfl, rfl⟩ ⟨Nat.le_of_ble_eq_true rfl, Nat.le_of_ble_eq_true rfl⟩ ⟨Nat.zero_le _, Nat.zero_le _⟩ rfl rfl (Nat.le_of_ble_eq_true rfl) hl dX7_man_129 (fun H locs hw => ?_)
      obtain ⟨r35, h34, hF⟩ := ob1S hF
      refine k_Vi (As := [.int x1, .int r33]) (rest := [.ref (ad G 86)]) hC hw (c_X7_votesBy (M := M) h34) RC_X yv_X7_votesBy q5_116 ⟨rfl, rfl⟩ ⟨Nat.le_of_ble_eq_true rfl, Nat.le_of_ble_eq_true rfl⟩ ⟨Nat.zero_le _, Nat.zero_le _⟩ rfl rfl (Nat.le_of_ble_eq_true rfl) hl dX7_man_132 (fun H locs hw => ?_)
      obtain ⟨r37, M38, h36, hF⟩ := ob2S hF
      refine k_Vi (As := [.int r35]) (rest := []) hC hw (c_X7_tells (M := M) h36) RC_X yv_X7_tells q5_18 ⟨rfl, rfl⟩ ⟨Nat.le_of_ble_eq_true rfl, Nat.le_of_ble_eq_true rfl⟩ ⟨Nat.zero_le _, Nat.zero_le _⟩ rfl rfl (Nat.le_of_ble_eq_true rfl) hl dX7_man_135 (fun H locs hw => ?_)
      exact r_iretE hC hw hF dX7_man_138
    · have hF := ifP hF b6
      refine lv_iconst (v := (-1 : Int32)) hC.1 hC.2.1 dX7_man_20 (by decide) ?_
      exact r_iretE hC hw hF dX7_man_21
