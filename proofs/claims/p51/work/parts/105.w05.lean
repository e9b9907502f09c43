abbrev rm_L_lay : Room := { frames := 1, cells := 0, slots := 0, locals := 21 }
theorem ys_L_lay : YS yL_lay cL_lay 5 none 2 := ⟨⟨q3_145, q1_0, q3_146⟩, by decide +kernel⟩
theorem dL_lay_0 : decode cL_lay 0 = .ok (.aload_n 1, 1) := by decide +kernel
theorem dL_lay_1 : decode cL_lay 1 = .ok (.bipush 34, 2) := by decide +kernel
theorem dL_lay_3 : decode cL_lay 3 = .ok (.iconst 1, 1) := by decide +kernel
theorem dL_lay_4 : decode cL_lay 4 = .ok (.aload_n 0, 1) := by decide +kernel
theorem dL_lay_5 : decode cL_lay 5 = .ok (.iconst 0, 1) := by decide +kernel
theorem dL_lay_6 : decode cL_lay 6 = .ok (.invokestatic 9, 3) := by decide +kernel
theorem dL_lay_9 : decode cL_lay 9 = .ok (.bipush 6, 2) := by decide +kernel
theorem dL_lay_11 : decode cL_lay 11 = .ok (.invokestatic 15, 3) := by decide +kernel
theorem dL_lay_14 : decode cL_lay 14 = .ok (.iadd, 1) := by decide +kernel
theorem dL_lay_15 : decode cL_lay 15 = .ok (.iastore, 1) := by decide +kernel
theorem dL_lay_16 : decode cL_lay 16 = .ok (.aload_n 1, 1) := by decide +kernel
theorem dL_lay_17 : decode cL_lay 17 = .ok (.bipush 32, 2) := by decide +kernel
theorem dL_lay_19 : decode cL_lay 19 = .ok (.iconst 1, 1) := by decide +kernel
theorem dL_lay_20 : decode cL_lay 20 = .ok (.aload_n 0, 1) := by decide +kernel
theorem dL_lay_21 : decode cL_lay 21 = .ok (.iconst 0, 1) := by decide +kernel
theorem dL_lay_22 : decode cL_lay 22 = .ok (.invokestatic 9, 3) := by decide +kernel
theorem dL_lay_25 : decode cL_lay 25 = .ok (.iconst 4, 1) := by decide +kernel
theorem dL_lay_26 : decode cL_lay 26 = .ok (.ishr, 1) := by decide +kernel
theorem dL_lay_27 : decode cL_lay 27 = .ok (.bipush 9, 2) := by decide +kernel
theorem dL_lay_29 : decode cL_lay 29 = .ok (.invokestatic 15, 3) := by decide +kernel
theorem dL_lay_32 : decode cL_lay 32 = .ok (.iadd, 1) := by decide +kernel
theorem dL_lay_33 : decode cL_lay 33 = .ok (.iastore, 1) := by decide +kernel
theorem dL_lay_34 : decode cL_lay 34 = .ok (.aload_n 1, 1) := by decide +kernel
theorem dL_lay_35 : decode cL_lay 35 = .ok (.bipush 33, 2) := by decide +kernel
theorem dL_lay_37 : decode cL_lay 37 = .ok (.iconst 0, 1) := by decide +kernel
theorem dL_lay_38 : decode cL_lay 38 = .ok (.iastore, 1) := by decide +kernel
theorem dL_lay_39 : decode cL_lay 39 = .ok (.aload_n 0, 1) := by decide +kernel
theorem dL_lay_40 : decode cL_lay 40 = .ok (.iconst 0, 1) := by decide +kernel
theorem dL_lay_41 : decode cL_lay 41 = .ok (.invokestatic 9, 3) := by decide +kernel
theorem dL_lay_44 : decode cL_lay 44 = .ok (.bipush 10, 2) := by decide +kernel
theorem dL_lay_46 : decode cL_lay 46 = .ok (.ishr, 1) := by decide +kernel
theorem dL_lay_47 : decode cL_lay 47 = .ok (.iconst 2, 1) := by decide +kernel
theorem dL_lay_48 : decode cL_lay 48 = .ok (.invokestatic 15, 3) := by decide +kernel
theorem dL_lay_51 : decode cL_lay 51 = .ok (.ifCond .ne 7, 3) := by decide +kernel
theorem dL_lay_54 : decode cL_lay 54 = .ok (.iconst 1, 1) := by decide +kernel
theorem dL_lay_55 : decode cL_lay 55 = .ok (.goto 4, 3) := by decide +kernel
theorem dL_lay_58 : decode cL_lay 58 = .ok (.iconst 0, 1) := by decide +kernel
theorem dL_lay_59 : decode cL_lay 59 = .ok (.istore_n 2, 1) := by decide +kernel
theorem dL_lay_60 : decode cL_lay 60 = .ok (.iconst 0, 1) := by decide +kernel
theorem dL_lay_61 : decode cL_lay 61 = .ok (.istore_n 3, 1) := by decide +kernel
theorem dL_lay_62 : decode cL_lay 62 = .ok (.iload_n 3, 1) := by decide +kernel
theorem dL_lay_63 : decode cL_lay 63 = .ok (.bipush 8, 2) := by decide +kernel
theorem dL_lay_65 : decode cL_lay 65 = .ok (.if_icmp .ge 37, 3) := by decide +kernel
theorem dL_lay_68 : decode cL_lay 68 = .ok (.aload_n 1, 1) := by decide +kernel
theorem dL_lay_69 : decode cL_lay 69 = .ok (.bipush 24, 2) := by decide +kernel
theorem dL_lay_71 : decode cL_lay 71 = .ok (.iload_n 3, 1) := by decide +kernel
theorem dL_lay_72 : decode cL_lay 72 = .ok (.iadd, 1) := by decide +kernel
theorem dL_lay_73 : decode cL_lay 73 = .ok (.aload_n 0, 1) := by decide +kernel
theorem dL_lay_74 : decode cL_lay 74 = .ok (.iconst 1, 1) := by decide +kernel
theorem dL_lay_75 : decode cL_lay 75 = .ok (.invokestatic 9, 3) := by decide +kernel
theorem dL_lay_78 : decode cL_lay 78 = .ok (.iconst 3, 1) := by decide +kernel
theorem dL_lay_79 : decode cL_lay 79 = .ok (.iload_n 3, 1) := by decide +kernel
theorem dL_lay_80 : decode cL_lay 80 = .ok (.imul, 1) := by decide +kernel
theorem dL_lay_81 : decode cL_lay 81 = .ok (.ishr, 1) := by decide +kernel
theorem dL_lay_82 : decode cL_lay 82 = .ok (.iload_n 2, 1) := by decide +kernel
theorem dL_lay_83 : decode cL_lay 83 = .ok (.ifCond .eq 7, 3) := by decide +kernel
theorem dL_lay_86 : decode cL_lay 86 = .ok (.iconst 4, 1) := by decide +kernel
theorem dL_lay_87 : decode cL_lay 87 = .ok (.goto 5, 3) := by decide +kernel
theorem dL_lay_90 : decode cL_lay 90 = .ok (.bipush 10, 2) := by decide +kernel
theorem dL_lay_92 : decode cL_lay 92 = .ok (.invokestatic 15, 3) := by decide +kernel
theorem dL_lay_95 : decode cL_lay 95 = .ok (.iastore, 1) := by decide +kernel
theorem dL_lay_96 : decode cL_lay 96 = .ok (.iinc 3 1, 3) := by decide +kernel
theorem dL_lay_99 : decode cL_lay 99 = .ok (.goto (-37), 3) := by decide +kernel
theorem dL_lay_102 : decode cL_lay 102 = .ok (.iconst 0, 1) := by decide +kernel
theorem dL_lay_103 : decode cL_lay 103 = .ok (.istore_n 3, 1) := by decide +kernel
theorem dL_lay_104 : decode cL_lay 104 = .ok (.iload_n 3, 1) := by decide +kernel
theorem dL_lay_105 : decode cL_lay 105 = .ok (.aload_n 1, 1) := by decide +kernel
theorem dL_lay_106 : decode cL_lay 106 = .ok (.bipush 34, 2) := by decide +kernel
theorem dL_lay_108 : decode cL_lay 108 = .ok (.iaload, 1) := by decide +kernel
theorem dL_lay_109 : decode cL_lay 109 = .ok (.if_icmp .ge 107, 3) := by decide +kernel
theorem dL_lay_112 : decode cL_lay 112 = .ok (.aload_n 0, 1) := by decide +kernel
theorem dL_lay_113 : decode cL_lay 113 = .ok (.iconst 2, 1) := by decide +kernel
theorem dL_lay_114 : decode cL_lay 114 = .ok (.iload_n 3, 1) := by decide +kernel
theorem dL_lay_115 : decode cL_lay 115 = .ok (.iadd, 1) := by decide +kernel
theorem dL_lay_116 : decode cL_lay 116 = .ok (.invokestatic 9, 3) := by decide +kernel
theorem dL_lay_119 : decode cL_lay 119 = .ok (.istore 4, 2) := by decide +kernel
theorem dL_lay_121 : decode cL_lay 121 = .ok (.aload_n 1, 1) := by decide +kernel
theorem dL_lay_122 : decode cL_lay 122 = .ok (.iload_n 3, 1) := by decide +kernel
theorem dL_lay_123 : decode cL_lay 123 = .ok (.iload 4, 2) := by decide +kernel
theorem dL_lay_125 : decode cL_lay 125 = .ok (.bipush 6, 2) := by decide +kernel
theorem dL_lay_127 : decode cL_lay 127 = .ok (.invokestatic 15, 3) := by decide +kernel
theorem dL_lay_130 : decode cL_lay 130 = .ok (.iastore, 1) := by decide +kernel
theorem dL_lay_131 : decode cL_lay 131 = .ok (.aload_n 1, 1) := by decide +kernel
theorem dL_lay_132 : decode cL_lay 132 = .ok (.bipush 6, 2) := by decide +kernel
theorem dL_lay_134 : decode cL_lay 134 = .ok (.iload_n 3, 1) := by decide +kernel
theorem dL_lay_135 : decode cL_lay 135 = .ok (.iadd, 1) := by decide +kernel
theorem dL_lay_136 : decode cL_lay 136 = .ok (.iconst 1, 1) := by decide +kernel
theorem dL_lay_137 : decode cL_lay 137 = .ok (.iload 4, 2) := by decide +kernel
theorem dL_lay_139 : decode cL_lay 139 = .ok (.iconst 4, 1) := by decide +kernel
theorem dL_lay_140 : decode cL_lay 140 = .ok (.ishr, 1) := by decide +kernel
theorem dL_lay_141 : decode cL_lay 141 = .ok (.iload 4, 2) := by decide +kernel
theorem dL_lay_143 : decode cL_lay 143 = .ok (.bipush 20, 2) := by decide +kernel
theorem dL_lay_145 : decode cL_lay 145 = .ok (.ishr, 1) := by decide +kernel
theorem dL_lay_146 : decode cL_lay 146 = .ok (.iconst 3, 1) := by decide +kernel
theorem dL_lay_147 : decode cL_lay 147 = .ok (.invokestatic 15, 3) := by decide +kernel
theorem dL_lay_150 : decode cL_lay 150 = .ok (.ifCond .ne 8, 3) := by decide +kernel
theorem dL_lay_153 : decode cL_lay 153 = .ok (.bipush 99, 2) := by decide +kernel
theorem dL_lay_155 : decode cL_lay 155 = .ok (.goto 5, 3) := by decide +kernel
theorem dL_lay_158 : decode cL_lay 158 = .ok (.bipush 15, 2) := by decide +kernel
theorem dL_lay_160 : decode cL_lay 160 = .ok (.invokestatic 15, 3) := by decide +kernel
theorem dL_lay_163 : decode cL_lay 163 = .ok (.iadd, 1) := by decide +kernel
theorem dL_lay_164 : decode cL_lay 164 = .ok (.iastore, 1) := by decide +kernel
theorem dL_lay_165 : decode cL_lay 165 = .ok (.aload_n 1, 1) := by decide +kernel
theorem dL_lay_166 : decode cL_lay 166 = .ok (.bipush 12, 2) := by decide +kernel
theorem dL_lay_168 : decode cL_lay 168 = .ok (.iload_n 3, 1) := by decide +kernel
theorem dL_lay_169 : decode cL_lay 169 = .ok (.iadd, 1) := by decide +kernel
theorem dL_lay_170 : decode cL_lay 170 = .ok (.iload 4, 2) := by decide +kernel
theorem dL_lay_172 : decode cL_lay 172 = .ok (.bipush 11, 2) := by decide +kernel
theorem dL_lay_174 : decode cL_lay 174 = .ok (.ishr, 1) := by decide +kernel
theorem dL_lay_175 : decode cL_lay 175 = .ok (.iload 4, 2) := by decide +kernel
theorem dL_lay_177 : decode cL_lay 177 = .ok (.bipush 21, 2) := by decide +kernel
theorem dL_lay_179 : decode cL_lay 179 = .ok (.ishr, 1) := by decide +kernel
theorem dL_lay_180 : decode cL_lay 180 = .ok (.iconst 2, 1) := by decide +kernel
theorem dL_lay_181 : decode cL_lay 181 = .ok (.invokestatic 15, 3) := by decide +kernel
theorem dL_lay_184 : decode cL_lay 184 = .ok (.ifCond .ne 8, 3) := by decide +kernel
theorem dL_lay_187 : decode cL_lay 187 = .ok (.bipush 10, 2) := by decide +kernel
theorem dL_lay_189 : decode cL_lay 189 = .ok (.goto 4, 3) := by decide +kernel
theorem dL_lay_192 : decode cL_lay 192 = .ok (.iconst 3, 1) := by decide +kernel
theorem dL_lay_193 : decode cL_lay 193 = .ok (.invokestatic 15, 3) := by decide +kernel
theorem dL_lay_196 : decode cL_lay 196 = .ok (.iastore, 1) := by decide +kernel
theorem dL_lay_197 : decode cL_lay 197 = .ok (.aload_n 1, 1) := by decide +kernel
theorem dL_lay_198 : decode cL_lay 198 = .ok (.bipush 18, 2) := by decide +kernel
theorem dL_lay_200 : decode cL_lay 200 = .ok (.iload_n 3, 1) := by decide +kernel
theorem dL_lay_201 : decode cL_lay 201 = .ok (.iadd, 1) := by decide +kernel
theorem dL_lay_202 : decode cL_lay 202 = .ok (.iload 4, 2) := by decide +kernel
theorem dL_lay_204 : decode cL_lay 204 = .ok (.bipush 15, 2) := by decide +kernel
theorem dL_lay_206 : decode cL_lay 206 = .ok (.ishr, 1) := by decide +kernel
theorem dL_lay_207 : decode cL_lay 207 = .ok (.iconst 1, 1) := by decide +kernel
theorem dL_lay_208 : decode cL_lay 208 = .ok (.iand, 1) := by decide +kernel
theorem dL_lay_209 : decode cL_lay 209 = .ok (.iastore, 1) := by decide +kernel
theorem dL_lay_210 : decode cL_lay 210 = .ok (.iinc 3 1, 3) := by decide +kernel
theorem dL_lay_213 : decode cL_lay 213 = .ok (.goto (-109), 3) := by decide +kernel
theorem dL_lay_216 : decode cL_lay 216 = .ok (.return_, 1) := by decide +kernel
def F_L_lay_92 (L : Nat) (xs : Nat → Int32) (fu : Nat) (k62 : Mm → Int32 → Int32 → Option Mm) (M : Mm) (x2 : Int32) (x3 : Int32) (t1 : Int32) (t2 : Int32) (t3 : Int32) : Option Mm :=
  ob1 (F_L_up fu M t2 t3) (fun r2 =>
  if t1 < 0 ∨ ln 86 ≤ t1.toNatClampNeg then none else (
  lt1 (pI M 86 t1.toNatClampNeg r2) (fun M4 =>
  k62 M4 x2 (x3 + (1 : Int32)))))
set_option maxRecDepth 100000 in
set_option maxHeartbeats 4000000 in
theorem w_L_lay_92 {p : Program} {l : Launch} {e : Env} {s : State} {m : MethodId} {args : Array Value} {below : List Frame} {meth : Method} {c : Code} {G : Gv} (hC : Cx p s m args meth c cL_lay 5 none RL) {b L : Nat} {xs : Nat → Int32} (hX : va_X b L xs s s.heap) (hbl : b < s.heap.size) (hbA : ¬ zA G b) {fu : Nat} {M' : Mm} {k62 : Mm → Int32 → Int32 → Option Mm} (hk_62 : ∀ {x2 : Int32} {x3 : Int32} {M : Mm} {H : Heap} {locs : List Loc} {ls : Array Slot}, k62 M x2 x3 = some M' → St G s H locs M → lv_has ls 5 [(0, .ref b), (1, .ref (ad G 86)), (2, .int x2), (3, .int x3)] → W p l e rm_L_lay s m args below meth c H locs 0 0 (MQ below (QV G M') args s 0 0 (zA G)) (F0 m 62 ls [])) {x2 : Int32} {x3 : Int32} {t1 : Int32} {t2 : Int32} {t3 : Int32} {M : Mm} {H : Heap} {locs : List Loc} {ls : Array Slot} (hF : F_L_lay_92 L xs fu k62 M x2 x3 t1 t2 t3 = some M') (hw : St G s H locs M) (hl : lv_has ls 5 [(0, .ref b), (1, .ref (ad G 86)), (2, .int x2), (3, .int x3)]) : W p l e rm_L_lay s m args below meth c H locs 0 0 (MQ below (QV G M') args s 0 0 (zA G)) (F0 m 92 ls [.int t3, .int t2, .int t1, .ref (ad G 86)]) := by
  unfold F_L_lay_92 at hF
  obtain ⟨r2, h1, hF⟩ := ob1S hF
  refine k_Si (As := [.int t2, .int t3]) (rest := [.int t1, .ref (ad G 86)]) hC hw (c_L_up (M := M) h1) ys_L_up q3_137 ⟨rfl, rfl⟩ ⟨Nat.le_of_ble_eq_true rfl, Nat.le_of_ble_eq_true rfl⟩ ⟨Nat.zero_le _, Nat.zero_le _⟩ rfl rfl (Nat.le_of_ble_eq_true rfl) hl dL_lay_92 (fun H locs hw => ?_)
  obtain ⟨n3, hF⟩ := ifO hF
  refine r_iast hC.1 hC.2.1 hw (rfl : kd 86 = 1) n3 dL_lay_95 (fun H locs hw => ?_)
  obtain ⟨M4, hw, hF⟩ := lt1W hF hw
  refine lv_iinc (v := (x3 + (1 : Int32))) (lv' := [(3, .int (x3 + (1 : Int32))), (0, .ref b), (1, .ref (ad G 86)), (2, .int x2)]) hC.1 hC.2.1 dL_lay_96 hl (k := 3) rfl rfl (by decide) rfl (fun ls hl => ?_)
  refine lv_goto (tgt := 62) hC.1 hC.2.1 dL_lay_99 (by decide) ?_
  exact hk_62 hF hw (lv_sub hl [1, 2, 3, 0] rfl)
def F_L_lay_193 (L : Nat) (xs : Nat → Int32) (fu : Nat) (k104 : Mm → Int32 → Option Mm) (M : Mm) (x3 : Int32) (x4 : Int32) (t1 : Int32) (t2 : Int32) (t3 : Int32) : Option Mm :=
  ob1 (F_L_up fu M t2 t3) (fun r2 =>
  if t1 < 0 ∨ ln 86 ≤ t1.toNatClampNeg then none else (
  lt1 (pI M 86 t1.toNatClampNeg r2) (fun M4 =>
  if ((18 : Int32) + x3) < 0 ∨ ln 86 ≤ ((18 : Int32) + x3).toNatClampNeg then none else (
  lt1 (pI M4 86 ((18 : Int32) + x3).toNatClampNeg ((x4 >>> ((15 : Int32) &&& 31)) &&& (1 : Int32))) (fun M6 =>
  k104 M6 (x3 + (1 : Int32)))))))
set_option maxRecDepth 100000 in
set_option maxHeartbeats 4000000 in
theorem w_L_lay_193 {p : Program} {l : Launch} {e : Env} {s : State} {m : MethodId} {args : Array Value} {below : List Frame} {meth : Method} {c : Code} {G : Gv} (hC : Cx p s m args meth c cL_lay 5 none RL) {b L : Nat} {xs : Nat → Int32} (hX : va_X b L xs s s.heap) (hbl : b < s.heap.size) (hbA : ¬ zA G b) {fu : Nat} {M' : Mm} {k104 : Mm → Int32 → Option Mm} (hk_104 : ∀ {x3 : Int32} {M : Mm} {H : Heap} {locs : List Loc} {ls : Array Slot}, k104 M x3 = some M' → St G s H locs M → lv_has ls 5 [(0, .ref b), (1, .ref (ad G 86)), (3, .int x3)] → W p l e rm_L_lay s m args below meth c H locs 0 0 (MQ below (QV G M') args s 0 0 (zA G)) (F0 m 104 ls [])) {x3 : Int32} {x4 : Int32} {t1 : Int32} {t2 : Int32} {t3 : Int32} {M : Mm} {H : Heap} {locs : List Loc} {ls : Array Slot} (hF : F_L_lay_193 L xs fu k104 M x3 x4 t1 t2 t3 = some M') (hw : St G s H locs M) (hl : lv_has ls 5 [(0, .ref b), (1, .ref (ad G 86)), (3, .int x3), (4, .int x4)]) : W p l e rm_L_lay s m args below meth c H locs 0 0 (MQ below (QV G M') args s 0 0 (zA G)) (F0 m 193 ls [.int t3, .int t2, .int t1, .ref (ad G 86)]) := by
  unfold F_L_lay_193 at hF
  obtain ⟨r2, h1, hF⟩ := ob1S hF
  refine k_Si (As := [.int t2, .int t3]) (rest := [.int t1, .ref (ad G 86)]) hC hw (c_L_up (M := M) h1) ys_L_up q3_137 ⟨rfl, rfl⟩ ⟨Nat.le_of_ble_eq_true rfl, Nat.le_of_ble_eq_true rfl⟩ ⟨Nat.zero_le _, Nat.zero_le _⟩ rfl rfl (Nat.le_of_ble_eq_true rfl) hl dL_lay_193 (fun H locs hw => ?_)
  obtain ⟨n3, hF⟩ := ifO hF
  refine r_iast hC.1 hC.2.1 hw (rfl : kd 86 = 1) n3 dL_lay_196 (fun H locs hw => ?_)
  obtain ⟨M4, hw, hF⟩ := lt1W hF hw
  refine lv_aload_n hC.1 hC.2.1 dL_lay_197 rfl (lv_at hl 1 rfl) ?_
  refine lv_bipush (v := (18 : Int32)) hC.1 hC.2.1 dL_lay_198 (by decide) ?_
  refine lv_iload_n hC.1 hC.2.1 dL_lay_200 rfl (lv_at hl 2 rfl) ?_
  refine lv_iadd hC.1 hC.2.1 dL_lay_201 ?_
  refine lv_iload hC.1 hC.2.1 dL_lay_202 (lv_at hl 3 rfl) ?_
  refine lv_bipush (v := (15 : Int32)) hC.1 hC.2.1 dL_lay_204 (by decide) ?_
  refine lv_ishr hC.1 hC.2.1 dL_lay_206 ?_
  refine lv_iconst (v := (1 : Int32)) hC.1 hC.2.1 dL_lay_207 (by decide) ?_
  refine lv_iand hC.1 hC.2.1 dL_lay_208 ?_
  obtain ⟨n5, hF⟩ := ifO hF
  refine r_iast hC.1 hC.2.1 hw (rfl : kd 86 = 1) n5 dL_lay_209 (fun H locs hw => ?_)
  obtain ⟨M6, hw, hF⟩ := lt1W hF hw
  refine lv_iinc (v := (x3 + (1 : Int32))) (lv' := [(3, .int (x3 + (1 : Int32))), (0, .ref b), (1, .ref (ad G 86)), (4, .int x4)]) hC.1 hC.2.1 dL_lay_210 hl (k := 2) rfl rfl (by decide) rfl (fun ls hl => ?_)
  refine lv_goto (tgt := 104) hC.1 hC.2.1 dL_lay_213 (by decide) ?_
  exact hk_104 hF hw (lv_sub hl [1, 2, 0] rfl)
def F_L_lay_160 (L : Nat) (xs : Nat → Int32) (fu : Nat) (k104 : Mm → Int32 → Option Mm) (M : Mm) (x3 : Int32) (x4 : Int32) (t1 : Int32) (t2 : Int32) (t3 : Int32) (t4 : Int32) : Option Mm :=
  ob1 (F_L_up fu M t3 t4) (fun r2 =>
  if t1 < 0 ∨ ln 86 ≤ t1.toNatClampNeg then none else (
  lt1 (pI M 86 t1.toNatClampNeg (t2 + r2)) (fun M4 =>
  ob1 (F_L_up fu M4 (x4 >>> ((21 : Int32) &&& 31)) (2 : Int32)) (fun r6 =>
  if r6 = 0 then
    F_L_lay_193 L xs fu k104 M4 x3 x4 ((12 : Int32) + x3) (x4 >>> ((11 : Int32) &&& 31)) (10 : Int32)
  else
    F_L_lay_193 L xs fu k104 M4 x3 x4 ((12 : Int32) + x3) (x4 >>> ((11 : Int32) &&& 31)) (3 : Int32)))))
set_option maxRecDepth 100000 in
set_option maxHeartbeats 4000000 in
theorem w_L_lay_160 {p : Program} {l : Launch} {e : Env} {s : State} {m : MethodId} {args : Array Value} {below : List Frame} {meth : Method} {c : Code} {G : Gv} (hC : Cx p s m args meth c cL_lay 5 none RL) {b L : Nat} {xs : Nat → Int32} (hX : va_X b L xs s s.heap) (hbl : b < s.heap.size) (hbA : ¬ zA G b) {fu : Nat} {M' : Mm} {k104 : Mm → Int32 → Option Mm} (hk_104 : ∀ {x3 : Int32} {M : Mm} {H : Heap} {locs : List Loc} {ls : Array Slot}, k104 M x3 = some M' → St G s H locs M → lv_has ls 5 [(0, .ref b), (1, .ref (ad G 86)), (3, .int x3)] → W p l e rm_L_lay s m args below meth c H locs 0 0 (MQ below (QV G M') args s 0 0 (zA G)) (F0 m 104 ls [])) {x3 : Int32} {x4 : Int32} {t1 : Int32} {t2 : Int32} {t3 : Int32} {t4 : Int32} {M : Mm} {H : Heap} {locs : List Loc} {ls : Array Slot} (hF : F_L_lay_160 L xs fu k104 M x3 x4 t1 t2 t3 t4 = some M') (hw : St G s H locs M) (hl : lv_has ls 5 [(0, .ref b), (1, .ref (ad G 86)), (3, .int x3), (4, .int x4)]) : W p l e rm_L_lay s m args below meth c H locs 0 0 (MQ below (QV G M') args s 0 0 (zA G)) (F0 m 160 ls [.int t4, .int t3, .int t2, .int t1, .ref (ad G 86)]) := by
  unfold F_L_lay_160 at hF
  obtain ⟨r2, h1, hF⟩ := ob1S hF
  refine k_Si (As := [.int t3, .int t4]) (rest := [.int t2, .int t1, .ref (ad G 86)]) hC hw (c_L_up (M := M) h1) ys_L_up q3_137 ⟨rfl, rfl⟩ ⟨Nat.le_of_ble_eq_true rfl, Nat.le_of_ble_eq_true rfl⟩ ⟨Nat.zero_le _, Nat.zero_le _⟩ rfl rfl (Nat.le_of_ble_eq_true rfl) hl dL_lay_160 (fun H locs hw => ?_)
  refine lv_iadd hC.1 hC.2.1 dL_lay_163 ?_
  obtain ⟨n3, hF⟩ := ifO hF
  refine r_iast hC.1 hC.2.1 hw (rfl : kd 86 = 1) n3 dL_lay_164 (fun H locs hw => ?_)
  obtain ⟨M4, hw, hF⟩ := lt1W hF hw
  refine lv_aload_n hC.1 hC.2.1 dL_lay_165 rfl (lv_at hl 1 rfl) ?_
  refine lv_bipush (v := (12 : Int32)) hC.1 hC.2.1 dL_lay_166 (by decide) ?_
  refine lv_iload_n hC.1 hC.2.1 dL_lay_168 rfl (lv_at hl 2 rfl) ?_
  refine lv_iadd hC.1 hC.2.1 dL_lay_169 ?_
  refine lv_iload hC.1 hC.2.1 dL_lay_170 (lv_at hl 3 rfl) ?_
  refine lv_bipush (v := (11 : Int32)) hC.1 hC.2.1 dL_lay_172 (by decide) ?_
  refine lv_ishr hC.1 hC.2.1 dL_lay_174 ?_
  refine lv_iload hC.1 hC.2.1 dL_lay_175 (lv_at hl 3 rfl) ?_
  refine lv_bipush (v := (21 : Int32)) hC.1 hC.2.1 dL_lay_177 (by decide) ?_
  refine lv_ishr hC.1 hC.2.1 dL_lay_179 ?_
  refine lv_iconst (v := (2 : Int32)) hC.1 hC.2.1 dL_lay_180 (by decide) ?_
  obtain ⟨r6, h5, hF⟩ := ob1S hF
  refine k_Si (As := [.int (x4 >>> ((21 : Int32) &&& 31)), .int (2 : Int32)]) (rest := [.int (x4 >>> ((11 : Int32) &&& 31)), .int ((12 : Int32) + x3), .ref (ad G 86)]) hC hw (c_L_up (M := M4) h5) ys_L_up q3_137 ⟨rfl, rfl⟩ ⟨Nat.le_of_ble_eq_true rfl, Nat.le_of_ble_eq_true rfl⟩ ⟨Nat.zero_le _, Nat.zero_le _⟩ rfl rfl (Nat.le_of_ble_eq_true rfl) hl dL_lay_181 (fun H locs hw => ?_)
  refine lv_if_ne (tgt := 192) hC.1 hC.2.1 dL_lay_184 (by decide) (fun b7 => ?_) (fun b7 => ?_)
  · have hF := ifN hF b7
    refine lv_iconst (v := (3 : Int32)) hC.1 hC.2.1 dL_lay_192 (by decide) ?_
    exact w_L_lay_193 hC hX hbl hbA (hk_104 := hk_104) hF hw (lv_sub hl [0, 1, 2, 3] rfl)
  · have hF := ifP hF b7
    refine lv_bipush (v := (10 : Int32)) hC.1 hC.2.1 dL_lay_187 (by decide) ?_
    refine lv_goto (tgt := 193) hC.1 hC.2.1 dL_lay_189 (by decide) ?_
    exact w_L_lay_193 hC hX hbl hbA (hk_104 := hk_104) hF hw (lv_sub hl [0, 1, 2, 3] rfl)
def F_L_lay_104 (L : Nat) (xs : Nat → Int32) (fu : Nat) : Nat → Mm → Int32 → Option Mm
  | 0, _, _ => none
  | n + 1, M, x3 =>
    if (34 : Int32) < 0 ∨ ln 86 ≤ (34 : Int32).toNatClampNeg then none else (
    if (M.1 86 (34 : Int32).toNatClampNeg) ≤ x3 then
      some M
    else
      ob1 (F_L_cell L xs fu M ((2 : Int32) + x3)) (fun r4 =>
      ob1 (F_L_up fu M r4 (6 : Int32)) (fun r6 =>
      if x3 < 0 ∨ ln 86 ≤ x3.toNatClampNeg then none else (
      lt1 (pI M 86 x3.toNatClampNeg r6) (fun M8 =>
      ob1 (F_L_up fu M8 (r4 >>> ((20 : Int32) &&& 31)) (3 : Int32)) (fun r10 =>
      if r10 = 0 then
        F_L_lay_160 L xs fu (F_L_lay_104 L xs fu n) M8 x3 r4 ((6 : Int32) + x3) (1 : Int32) (r4 >>> ((4 : Int32) &&& 31)) (99 : Int32)
      else
        F_L_lay_160 L xs fu (F_L_lay_104 L xs fu n) M8 x3 r4 ((6 : Int32) + x3) (1 : Int32) (r4 >>> ((4 : Int32) &&& 31)) (15 : Int32)))))))
set_option maxRecDepth 100000 in
set_option maxHeartbeats 4000000 in
theorem w_L_lay_104 {p : Program} {l : Launch} {e : Env} {s : State} {m : MethodId} {args : Array Value} {below : List Frame} {meth : Method} {c : Code} {G : Gv} (hC : Cx p s m args meth c cL_lay 5 none RL) {b L : Nat} {xs : Nat → Int32} (hX : va_X b L xs s s.heap) (hbl : b < s.heap.size) (hbA : ¬ zA G b) {fu : Nat} {M' : Mm} : ∀ (n : Nat) {x3 : Int32} {M : Mm} {H : Heap} {locs : List Loc} {ls : Array Slot}, F_L_lay_104 L xs fu n M x3 = some M' → St G s H locs M → lv_has ls 5 [(0, .ref b), (1, .ref (ad G 86)), (3, .int x3)] → W p l e rm_L_lay s m args below meth c H locs 0 0 (MQ below (QV G M') args s 0 0 (zA G)) (F0 m 104 ls []) := by
  intro n
  induction n with
  | zero =>
    intro x3 M H locs ls hF hw hl
    cases hF
  | succ n ih =>
    intro x3 M H locs ls hF hw hl
    unfold F_L_lay_104 at hF
    refine lv_iload_n hC.1 hC.2.1 dL_lay_104 rfl (lv_at hl 2 rfl) ?_
    refine lv_aload_n hC.1 hC.2.1 dL_lay_105 rfl (lv_at hl 1 rfl) ?_
    refine lv_bipush (v := (34 : Int32)) hC.1 hC.2.1 dL_lay_106 (by decide) ?_
    obtain ⟨n1, hF⟩ := ifO hF
    refine r_iald hC.1 hC.2.1 hw (rfl : kd 86 = 1) n1 dL_lay_108 ?_
    refine lv_icmp_ge (tgt := 216) hC.1 hC.2.1 dL_lay_109 (by decide) (fun b2 => ?_) (fun b2 => ?_)
    · have hF := ifP hF b2
      exact r_vretE hC hw hF dL_lay_216
    · have hF := ifN hF b2
      refine lv_aload_n hC.1 hC.2.1 dL_lay_112 rfl (lv_at hl 0 rfl) ?_
      refine lv_iconst (v := (2 : Int32)) hC.1 hC.2.1 dL_lay_113 (by decide) ?_
      refine lv_iload_n hC.1 hC.2.1 dL_lay_114 rfl (lv_at hl 2 rfl) ?_
      refine lv_iadd hC.1 hC.2.1 dL_lay_115 ?_
      obtain ⟨r4, h3, hF⟩ := ob1S hF
      refine k_Xi (As := [.ref b, .int ((2 : Int32) + x3)]) (rest := []) hC hX hbl hbA hw (c_L_cell (M := M) h3) ys_L_cell q3_133 ⟨rfl, rfl⟩ ⟨Nat.le_of_ble_eq_true rfl, Nat.le_of_ble_eq_true rfl⟩ ⟨Nat.zero_le _, Nat.zero_le _⟩ rfl rfl (Nat.le_of_ble_eq_true rfl) hl dL_lay_116 (fun H locs hw => ?_)
      refine lv_istore (lv' := [(4, .int r4), (0, .ref b), (1, .ref (ad G 86)), (3, .int x3)]) hC.1 hC.2.1 dL_lay_119 hl (by decide) rfl (fun ls hl => ?_)
      refine lv_aload_n hC.1 hC.2.1 dL_lay_121 rfl (lv_at hl 2 rfl) ?_
      refine lv_iload_n hC.1 hC.2.1 dL_lay_122 rfl (lv_at hl 3 rfl) ?_
      refine lv_iload hC.1 hC.2.1 dL_lay_123 (lv_at hl 0 rfl) ?_
      refine lv_bipush (v := (6 : Int32)) hC.1 hC.2.1 dL_lay_125 (by decide) ?_
      obtain ⟨r6, h5, hF⟩ := ob1S hF
      refine k_Si (As := [.int r4, .int (6 : Int32)]) (rest := [.int x3, .ref (ad G 86)]) hC hw (c_L_up (M := M) h5) ys_L_up q3_137 ⟨rfl, rfl⟩ ⟨Nat.le_of_ble_eq_true rfl, Nat.le_of_ble_eq_true rfl⟩ ⟨Nat.zero_le _, Nat.zero_le _⟩ rfl rfl (Nat.le_of_ble_eq_true rfl) hl dL_lay_127 (fun H locs hw => ?_)
      obtain ⟨n7, hF⟩ := ifO hF
      refine r_iast hC.1 hC.2.1 hw (rfl : kd 86 = 1) n7 dL_lay_130 (fun H locs hw => ?_)
      obtain ⟨M8, hw, hF⟩ := lt1W hF hw
      refine lv_aload_n hC.1 hC.2.1 dL_lay_131 rfl (lv_at hl 2 rfl) ?_
      refine lv_bipush (v := (6 : Int32)) hC.1 hC.2.1 dL_lay_132 (by decide) ?_
      refine lv_iload_n hC.1 hC.2.1 dL_lay_134 rfl (lv_at hl 3 rfl) ?_
      refine lv_iadd hC.1 hC.2.1 dL_lay_135 ?_
      refine lv_iconst (v := (1 : Int32)) hC.1 hC.2.1 dL_lay_136 (by decide) ?_
      refine lv_iload hC.1 hC.2.1 dL_lay_137 (lv_at hl 0 rfl) ?_
      refine lv_iconst (v := (4 : Int32)) hC.1 hC.2.1 dL_lay_139 (by decide) ?_
      refine lv_ishr hC.1 hC.2.1 dL_lay_140 ?_
      refine lv_iload hC.1 hC.2.1 dL_lay_141 (lv_at hl 0 rfl) ?_
      refine lv_bipush (v := (20 : Int32)) hC.1 hC.2.1 dL_lay_143 (by decide) ?_
      refine lv_ishr hC.1 hC.2.1 dL_lay_145 ?_
      refine lv_iconst (v := (3 : Int32)) hC.1 hC.2.1 dL_lay_146 (by decide) ?_
      obtain ⟨r10, h9, hF⟩ := ob1S hF
      refine k_Si (As := [.int (r4 >>> ((20 : Int32) &&& 31)), .int (3 : Int32)]) (rest := [.int (r4 >>> ((4 : Int32) &&& 31)), .int (1 : Int32), .int ((6 : Int32) + x3), .ref (ad G 86)]) hC hw (c_L_up (M := M8) h9) ys_L_up q3_137 ⟨rfl, rfl⟩ ⟨Nat.le_of_ble_eq_true rfl, Nat.le_of_ble_eq_true rfl⟩ ⟨Nat.zero_le _, Nat.zero_le _⟩ rfl rfl (Nat.le_of_ble_eq_true rfl) hl dL_lay_147 (fun H locs hw => ?_)
      refine lv_if_ne (tgt := 158) hC.1 hC.2.1 dL_lay_150 (by decide) (fun b11 => ?_) (fun b11 => ?_)
      · have hF := ifN hF b11
        refine lv_bipush (v := (15 : Int32)) hC.1 hC.2.1 dL_lay_158 (by decide) ?_
        exact w_L_lay_160 hC hX hbl hbA (hk_104 := ih) hF hw (lv_sub hl [1, 2, 3, 0] rfl)
      · have hF := ifP hF b11
        refine lv_bipush (v := (99 : Int32)) hC.1 hC.2.1 dL_lay_153 (by decide) ?_
        refine lv_goto (tgt := 160) hC.1 hC.2.1 dL_lay_155 (by decide) ?_
        exact w_L_lay_160 hC hX hbl hbA (hk_104 := ih) hF hw (lv_sub hl [1, 2, 3, 0] rfl)
def F_L_lay_62 (L : Nat) (xs : Nat → Int32) (fu : Nat) : Nat → Mm → Int32 → Int32 → Option Mm
  | 0, _, _, _ => none
  | n + 1, M, x2, x3 =>
    if (8 : Int32) ≤ x3 then
      F_L_lay_104 L xs fu fu M (0 : Int32)
    else
      ob1 (F_L_cell L xs fu M (1 : Int32)) (fun r3 =>
      if x2 = 0 then
        F_L_lay_92 L xs fu (F_L_lay_62 L xs fu n) M x2 x3 ((24 : Int32) + x3) (r3 >>> (((3 : Int32) * x3) &&& 31)) (10 : Int32)
      else
        F_L_lay_92 L xs fu (F_L_lay_62 L xs fu n) M x2 x3 ((24 : Int32) + x3) (r3 >>> (((3 : Int32) * x3) &&& 31)) (4 : Int32))
set_option maxRecDepth 100000 in
set_option maxHeartbeats 4000000 in
theorem w_L_lay_62 {p : Program} {l : Launch} {e : Env} {s : State} {m : MethodId} {args : Array Value} {below : List Frame} {meth : Method} {c : Code} {G : Gv} (hC : Cx p s m args meth c cL_lay 5 none RL) {b L : Nat} {xs : Nat → Int32} (hX : va_X b L xs s s.heap) (hbl : b < s.heap.size) (hbA : ¬ zA G b) {fu : Nat} {M' : Mm} : ∀ (n : Nat) {x2 : Int32} {x3 : Int32} {M : Mm} {H : Heap} {locs : List Loc} {ls : Array Slot}, F_L_lay_62 L xs fu n M x2 x3 = some M' → St G s H locs M → lv_has ls 5 [(0, .ref b), (1, .ref (ad G 86)), (2, .int x2), (3, .int x3)] → W p l e rm_L_lay s m args below meth c H locs 0 0 (MQ below (QV G M') args s 0 0 (zA G)) (F0 m 62 ls []) := by
  intro n
  induction n with
  | zero =>
    intro x2 x3 M H locs ls hF hw hl
    cases hF
  | succ n ih =>
    intro x2 x3 M H locs ls hF hw hl
    unfold F_L_lay_62 at hF
    refine lv_iload_n hC.1 hC.2.1 dL_lay_62 rfl (lv_at hl 3 rfl) ?_
    refine lv_bipush (v := (8 : Int32)) hC.1 hC.2.1 dL_lay_63 (by decide) ?_
    refine lv_icmp_ge (tgt := 102) hC.1 hC.2.1 dL_lay_65 (by decide) (fun b1 => ?_) (fun b1 => ?_)
    · have hF := ifP hF b1
      refine lv_iconst (v := (0 : Int32)) hC.1 hC.2.1 dL_lay_102 (by decide) ?_
      refine lv_istore_n (lv' := [(3, .int (0 : Int32)), (0, .ref b), (1, .ref (ad G 86)), (2, .int x2)]) hC.1 hC.2.1 dL_lay_103 rfl hl (by decide) rfl (fun ls hl => ?_)
      exact w_L_lay_104 hC hX hbl hbA _ hF hw (lv_sub hl [1, 2, 0] rfl)
    · have hF := ifN hF b1
      refine lv_aload_n hC.1 hC.2.1 dL_lay_68 rfl (lv_at hl 1 rfl) ?_
      refine lv_bipush (v := (24 : Int32)) hC.1 hC.2.1 dL_lay_69 (by decide) ?_
      refine lv_iload_n hC.1 hC.2.1 dL_lay_71 rfl (lv_at hl 3 rfl) ?_
      refine lv_iadd hC.1 hC.2.1 dL_lay_72 ?_
      refine lv_aload_n hC.1 hC.2.1 dL_lay_73 rfl (lv_at hl 0 rfl) ?_
      refine lv_iconst (v := (1 : Int32)) hC.1 hC.2.1 dL_lay_74 (by decide) ?_
      obtain ⟨r3, h2, hF⟩ := ob1S hF
      refine k_Xi (As := [.ref b, .int (1 : Int32)]) (rest := [.int ((24 : Int32) + x3), .ref (ad G 86)]) hC hX hbl hbA hw (c_L_cell (M := M) h2) ys_L_cell q3_133 ⟨rfl, rfl⟩ ⟨Nat.le_of_ble_eq_true rfl, Nat.le_of_ble_eq_true rfl⟩ ⟨Nat.zero_le _, Nat.zero_le _⟩ rfl rfl (Nat.le_of_ble_eq_true rfl) hl dL_lay_75 (fun H locs hw => ?_)
      refine lv_iconst (v := (3 : Int32)) hC.1 hC.2.1 dL_lay_78 (by decide) ?_
      refine lv_iload_n hC.1 hC.2.1 dL_lay_79 rfl (lv_at hl 3 rfl) ?_
      refine lv_imul hC.1 hC.2.1 dL_lay_80 ?_
      refine lv_ishr hC.1 hC.2.1 dL_lay_81 ?_
      refine lv_iload_n hC.1 hC.2.1 dL_lay_82 rfl (lv_at hl 2 rfl) ?_
      refine lv_if_eq (tgt := 90) hC.1 hC.2.1 dL_lay_83 (by decide) (fun b4 => ?_) (fun b4 => ?_)
      · have hF := ifP hF b4
        refine lv_bipush (v := (10 : Int32)) hC.1 hC.2.1 dL_lay_90 (by decide) ?_
        exact w_L_lay_92 hC hX hbl hbA (hk_62 := ih) hF hw (lv_sub hl [0, 1, 2, 3] rfl)
      · have hF := ifN hF b4
        refine lv_iconst (v := (4 : Int32)) hC.1 hC.2.1 dL_lay_86 (by decide) ?_
        refine lv_goto (tgt := 92) hC.1 hC.2.1 dL_lay_87 (by decide) ?_
        exact w_L_lay_92 hC hX hbl hbA (hk_62 := ih) hF hw (lv_sub hl [0, 1, 2, 3] rfl)
def F_L_lay (L : Nat) (xs : Nat → Int32) (fu : Nat) (M : Mm) : Option Mm :=
  ob1 (F_L_cell L xs fu M (0 : Int32)) (fun r2 =>
  ob1 (F_L_up fu M r2 (6 : Int32)) (fun r4 =>
  if (34 : Int32) < 0 ∨ ln 86 ≤ (34 : Int32).toNatClampNeg then none else (
  lt1 (pI M 86 (34 : Int32).toNatClampNeg ((1 : Int32) + r4)) (fun M6 =>
  ob1 (F_L_cell L xs fu M6 (0 : Int32)) (fun r8 =>
  ob1 (F_L_up fu M6 (r8 >>> ((4 : Int32) &&& 31)) (9 : Int32)) (fun r10 =>
  if (32 : Int32) < 0 ∨ ln 86 ≤ (32 : Int32).toNatClampNeg then none else (
  lt1 (pI M6 86 (32 : Int32).toNatClampNeg ((1 : Int32) + r10)) (fun M12 =>
  if (33 : Int32) < 0 ∨ ln 86 ≤ (33 : Int32).toNatClampNeg then none else (
  lt1 (pI M12 86 (33 : Int32).toNatClampNeg (0 : Int32)) (fun M14 =>
  ob1 (F_L_cell L xs fu M14 (0 : Int32)) (fun r16 =>
  ob1 (F_L_up fu M14 (r16 >>> ((10 : Int32) &&& 31)) (2 : Int32)) (fun r18 =>
  if r18 = 0 then
    F_L_lay_62 L xs fu fu M14 (1 : Int32) (0 : Int32)
  else
    F_L_lay_62 L xs fu fu M14 (0 : Int32) (0 : Int32)))))))))))))
set_option maxRecDepth 100000 in
set_option maxHeartbeats 4000000 in
theorem c_L_lay {l : Launch} {G : Gv} {fu : Nat} {b L : Nat} {xs : Nat → Int32} {M : Mm} {M' : Mm} (hF : F_L_lay L xs fu M = some M') : Met l yL_lay (.code yL_lay cL_lay 5 none :: zU) rm_L_lay (va_Pc [.ref b, .ref (ad G 86)] (WdX G M b L xs)) (QV G M') 0 0 (zA G) := by
  refine zMetX (by decide) rfl (Nat.le_of_ble_eq_true rfl) ?_
  intro p e s m below meth c hC hX hbl hbA hw ls hl
  have hl : lv_has ls 5 [(0, .ref b), (1, .ref (ad G 86))] := hl
  unfold F_L_lay at hF
  refine lv_aload_n hC.1 hC.2.1 dL_lay_0 rfl (lv_at hl 1 rfl) ?_
  refine lv_bipush (v := (34 : Int32)) hC.1 hC.2.1 dL_lay_1 (by decide) ?_
  refine lv_iconst (v := (1 : Int32)) hC.1 hC.2.1 dL_lay_3 (by decide) ?_
  refine lv_aload_n hC.1 hC.2.1 dL_lay_4 rfl (lv_at hl 0 rfl) ?_
  refine lv_iconst (v := (0 : Int32)) hC.1 hC.2.1 dL_lay_5 (by decide) ?_
  obtain ⟨r2, h1, hF⟩ := ob1S hF
  refine k_Xi (As := [.ref b, .int (0 : Int32)]) (rest := [.int (1 : Int32), .int (34 : Int32), .ref (ad G 86)]) hC hX hbl hbA hw (c_L_cell (M := M) h1) ys_L_cell q3_133 ⟨rfl, rfl⟩ ⟨Nat.le_of_ble_eq_true rfl, Nat.le_of_ble_eq_true rfl⟩ ⟨Nat.zero_le _, Nat.zero_le _⟩ rfl rfl (Nat.le_of_ble_eq_true rfl) hl dL_lay_6 (fun H locs hw => ?_)
  refine lv_bipush (v := (6 : Int32)) hC.1 hC.2.1 dL_lay_9 (by decide) ?_
  obtain ⟨r4, h3, hF⟩ := ob1S hF
  refine k_Si (As := [.int r2, .int (6 : Int32)]) (rest := [.int (1 : Int32), .int (34 : Int32), .ref (ad G 86)]) hC hw (c_L_up (M := M) h3) ys_L_up q3_137 ⟨rfl, rfl⟩ ⟨Nat.le_of_ble_eq_true rfl, Nat.le_of_ble_eq_true rfl⟩ ⟨Nat.zero_le _, Nat.zero_le _⟩ rfl rfl (Nat.le_of_ble_eq_true rfl) hl dL_lay_11 (fun H locs hw => ?_)
  refine lv_iadd hC.1 hC.2.1 dL_lay_14 ?_
  obtain ⟨n5, hF⟩ := ifO hF
  refine r_iast hC.1 hC.2.1 hw (rfl : kd 86 = 1) n5 dL_lay_15 (fun H locs hw => ?_)
  obtain ⟨M6, hw, hF⟩ := lt1W hF hw
  refine lv_aload_n hC.1 hC.2.1 dL_lay_16 rfl (lv_at hl 1 rfl) ?_
  refine lv_bipush (v := (32 : Int32)) hC.1 hC.2.1 dL_lay_17 (by decide) ?_
  refine lv_iconst (v := (1 : Int32)) hC.1 hC.2.1 dL_lay_19 (by decide) ?_
  refine lv_aload_n hC.1 hC.2.1 dL_lay_20 rfl (lv_at hl 0 rfl) ?_
  refine lv_iconst (v := (0 : Int32)) hC.1 hC.2.1 dL_lay_21 (by decide) ?_
  obtain ⟨r8, h7, hF⟩ := ob1S hF
  refine k_Xi (As := [.ref b, .int (0 : Int32)]) (rest := [.int (1 : Int32), .int (32 : Int32), .ref (ad G 86)]) hC hX hbl hbA hw (c_L_cell (M := M6) h7) ys_L_cell q3_133 ⟨rfl, rfl⟩ ⟨Nat.le_of_ble_eq_true rfl, Nat.le_of_ble_eq_true rfl⟩ ⟨Nat.zero_le _, Nat.zero_le _⟩ rfl rfl (Nat.le_of_ble_eq_true rfl) hl dL_lay_22 (fun H locs hw => ?_)
  refine lv_iconst (v := (4 : Int32)) hC.1 hC.2.1 dL_lay_25 (by decide) ?_
  refine lv_ishr hC.1 hC.2.1 dL_lay_26 ?_
  refine lv_bipush (v := (9 : Int32)) hC.1 hC.2.1 dL_lay_27 (by decide) ?_
  obtain ⟨r10, h9, hF⟩ := ob1S hF
  refine k_Si (As := [.int (r8 >>> ((4 : Int32) &&& 31)), .int (9 : Int32)]) (rest := [.int (1 : Int32), .int (32 : Int32), .ref (ad G 86)]) hC hw (c_L_up (M := M6) h9) ys_L_up q3_137 ⟨rfl, rfl⟩ ⟨Nat.le_of_ble_eq_true rfl, Nat.le_of_ble_eq_true rfl⟩ ⟨Nat.zero_le _, Nat.zero_le _⟩ rfl rfl (Nat.le_of_ble_eq_true rfl) hl dL_lay_29 (fun H locs hw => ?_)
  refine lv_iadd hC.1 hC.2.1 dL_lay_32 ?_
  obtain ⟨n11, hF⟩ := ifO hF
  refine r_iast hC.1 hC.2.1 hw (rfl : kd 86 = 1) n11 dL_lay_33 (fun H locs hw => ?_)
  obtain ⟨M12, hw, hF⟩ := lt1W hF hw
  refine lv_aload_n hC.1 hC.2.1 dL_lay_34 rfl (lv_at hl 1 rfl) ?_
  refine lv_bipush (v := (33 : Int32)) hC.1 hC.2.1 dL_lay_35 (by decide) ?_
  refine lv_iconst (v := (0 : Int32)) hC.1 hC.2.1 dL_lay_37 (by decide) ?_
  obtain ⟨n13, hF⟩ := ifO hF
  refine r_iast hC.1 hC.2.1 hw (rfl : kd 86 = 1) n13 dL_lay_38 (fun H locs hw => ?_)
  obtain ⟨M14, hw, hF⟩ := lt1W hF hw
  refine lv_aload_n hC.1 hC.2.1 dL_lay_39 rfl (lv_at hl 0 rfl) ?_
  refine lv_iconst (v := (0 : Int32)) hC.1 hC.2.1 dL_lay_40 (by decide) ?_
  obtain ⟨r16, h15, hF⟩ := ob1S hF
  refine k_Xi (As := [.ref b, .int (0 : Int32)]) (rest := []) hC hX hbl hbA hw (c_L_cell (M := M14) h15) ys_L_cell q3_133 ⟨rfl, rfl⟩ ⟨Nat.le_of_ble_eq_true rfl, Nat.le_of_ble_eq_true rfl⟩ ⟨Nat.zero_le _, Nat.zero_le _⟩ rfl rfl (Nat.le_of_ble_eq_true rfl) hl dL_lay_41 (fun H locs hw => ?_)
  refine lv_bipush (v := (10 : Int32)) hC.1 hC.2.1 dL_lay_44 (by decide) ?_
  refine lv_ishr hC.1 hC.2.1 dL_lay_46 ?_
  refine lv_iconst (v := (2 : Int32)) hC.1 hC.2.1 dL_lay_47 (by decide) ?_
  obtain ⟨r18, h17, hF⟩ := ob1S hF
  refine k_Si (As := [.int (r16 >>> ((10 : Int32) &&& 31)), .int (2 : Int32)]) (rest := []) hC hw (c_L_up (M := M14) h17) ys_L_up q3_137 ⟨rfl, rfl⟩ ⟨Nat.le_of_ble_eq_true rfl, Nat.le_of_ble_eq_true rfl⟩ ⟨Nat.zero_le _, Nat.zero_le _⟩ rfl rfl (Nat.le_of_ble_eq_true rfl) hl dL_lay_48 (fun H locs hw => ?_)
  refine lv_if_ne (tgt := 58) hC.1 hC.2.1 dL_lay_51 (by decide) (fun b19 => ?_) (fun b19 => ?_)
  · have hF := ifN hF b19
    refine lv_iconst (v := (0 : Int32)) hC.1 hC.2.1 dL_lay_58 (by decide) ?_
    refine lv_istore_n (lv' := [(2, .int (0 : Int32)), (0, .ref b), (1, .ref (ad G 86))]) hC.1 hC.2.1 dL_lay_59 rfl hl (by decide) rfl (fun ls hl => ?_)
    refine lv_iconst (v := (0 : Int32)) hC.1 hC.2.1 dL_lay_60 (by decide) ?_
    refine lv_istore_n (lv' := [(3, .int (0 : Int32)), (2, .int (0 : Int32)), (0, .ref b), (1, .ref (ad G 86))]) hC.1 hC.2.1 dL_lay_61 rfl hl (by decide) rfl (fun ls hl => ?_)
    exact w_L_lay_62 hC hX hbl hbA _ hF hw (lv_sub hl [2, 3, 1, 0] rfl)
  · have hF := ifP hF b19
    refine lv_iconst (v := (1 : Int32)) hC.1 hC.2.1 dL_lay_54 (by decide) ?_
    refine lv_goto (tgt := 59) hC.1 hC.2.1 dL_lay_55 (by decide) ?_
    refine lv_istore_n (lv' := [(2, .int (1 : Int32)), (0, .ref b), (1, .ref (ad G 86))]) hC.1 hC.2.1 dL_lay_59 rfl hl (by decide) rfl (fun ls hl => ?_)
    refine lv_iconst (v := (0 : Int32)) hC.1 hC.2.1 dL_lay_60 (by decide) ?_
    refine lv_istore_n (lv' := [(3, .int (0 : Int32)), (2, .int (1 : Int32)), (0, .ref b), (1, .ref (ad G 86))]) hC.1 hC.2.1 dL_lay_61 rfl hl (by decide) rfl (fun ls hl => ?_)
    exact w_L_lay_62 hC hX hbl hbA _ hF hw (lv_sub hl [2, 3, 1, 0] rfl)
abbrev rm_L_made : Room := { frames := 5, cells := 0, slots := 0, locals := 112 }
theorem ys_L_made : YS yL_made cL_made 6 (some .boolean) 2 := ⟨⟨q3_148, q1_0, q3_149⟩, by decide +kernel⟩
theorem dL_made_0 : decode cL_made 0 = .ok (.bipush 10, 2) := by decide +kernel
theorem dL_made_2 : decode cL_made 2 = .ok (.iconst 5, 1) := by decide +kernel
theorem dL_made_3 : decode cL_made 3 = .ok (.aload_n 1, 1) := by decide +kernel
theorem dL_made_4 : decode cL_made 4 = .ok (.bipush 34, 2) := by decide +kernel
theorem dL_made_6 : decode cL_made 6 = .ok (.iaload, 1) := by decide +kernel
theorem dL_made_7 : decode cL_made 7 = .ok (.imul, 1) := by decide +kernel
theorem dL_made_8 : decode cL_made 8 = .ok (.iadd, 1) := by decide +kernel
theorem dL_made_9 : decode cL_made 9 = .ok (.istore_n 2, 1) := by decide +kernel
theorem dL_made_10 : decode cL_made 10 = .ok (.aload_n 0, 1) := by decide +kernel
theorem dL_made_11 : decode cL_made 11 = .ok (.iconst 0, 1) := by decide +kernel
theorem dL_made_12 : decode cL_made 12 = .ok (.iload_n 2, 1) := by decide +kernel
theorem dL_made_13 : decode cL_made 13 = .ok (.invokevirtual 19, 3) := by decide +kernel
theorem dL_made_16 : decode cL_made 16 = .ok (.iload_n 2, 1) := by decide +kernel
theorem dL_made_17 : decode cL_made 17 = .ok (.if_icmp .ne 41, 3) := by decide +kernel
theorem dL_made_20 : decode cL_made 20 = .ok (.aload_n 0, 1) := by decide +kernel
theorem dL_made_21 : decode cL_made 21 = .ok (.iconst 0, 1) := by decide +kernel
theorem dL_made_22 : decode cL_made 22 = .ok (.iconst 0, 1) := by decide +kernel
theorem dL_made_23 : decode cL_made 23 = .ok (.bipush 122, 2) := by decide +kernel
theorem dL_made_25 : decode cL_made 25 = .ok (.invokevirtual 24, 3) := by decide +kernel
theorem dL_made_28 : decode cL_made 28 = .ok (.sipush 1032, 3) := by decide +kernel
theorem dL_made_31 : decode cL_made 31 = .ok (.if_icmp .ne 27, 3) := by decide +kernel
theorem dL_made_34 : decode cL_made 34 = .ok (.aload_n 0, 1) := by decide +kernel
theorem dL_made_35 : decode cL_made 35 = .ok (.iconst 0, 1) := by decide +kernel
theorem dL_made_36 : decode cL_made 36 = .ok (.bipush 9, 2) := by decide +kernel
theorem dL_made_38 : decode cL_made 38 = .ok (.bipush 48, 2) := by decide +kernel
theorem dL_made_40 : decode cL_made 40 = .ok (.aload_n 1, 1) := by decide +kernel
theorem dL_made_41 : decode cL_made 41 = .ok (.bipush 32, 2) := by decide +kernel
theorem dL_made_43 : decode cL_made 43 = .ok (.iaload, 1) := by decide +kernel
theorem dL_made_44 : decode cL_made 44 = .ok (.iadd, 1) := by decide +kernel
theorem dL_made_45 : decode cL_made 45 = .ok (.invokevirtual 24, 3) := by decide +kernel
theorem dL_made_48 : decode cL_made 48 = .ok (.sipush 1032, 3) := by decide +kernel
theorem dL_made_51 : decode cL_made 51 = .ok (.if_icmp .ne 7, 3) := by decide +kernel
theorem dL_made_54 : decode cL_made 54 = .ok (.iconst 1, 1) := by decide +kernel
theorem dL_made_55 : decode cL_made 55 = .ok (.goto 4, 3) := by decide +kernel
theorem dL_made_58 : decode cL_made 58 = .ok (.iconst 0, 1) := by decide +kernel
theorem dL_made_59 : decode cL_made 59 = .ok (.istore_n 3, 1) := by decide +kernel
theorem dL_made_60 : decode cL_made 60 = .ok (.iconst 0, 1) := by decide +kernel
theorem dL_made_61 : decode cL_made 61 = .ok (.istore 4, 2) := by decide +kernel
theorem dL_made_63 : decode cL_made 63 = .ok (.iload 4, 2) := by decide +kernel
theorem dL_made_65 : decode cL_made 65 = .ok (.bipush 8, 2) := by decide +kernel
theorem dL_made_67 : decode cL_made 67 = .ok (.if_icmp .ge 44, 3) := by decide +kernel
theorem dL_made_70 : decode cL_made 70 = .ok (.iload_n 3, 1) := by decide +kernel
theorem dL_made_71 : decode cL_made 71 = .ok (.ifCond .eq 32, 3) := by decide +kernel
theorem dL_made_74 : decode cL_made 74 = .ok (.aload_n 0, 1) := by decide +kernel
theorem dL_made_75 : decode cL_made 75 = .ok (.iconst 0, 1) := by decide +kernel
theorem dL_made_76 : decode cL_made 76 = .ok (.iconst 1, 1) := by decide +kernel
theorem dL_made_77 : decode cL_made 77 = .ok (.iload 4, 2) := by decide +kernel
theorem dL_made_79 : decode cL_made 79 = .ok (.iadd, 1) := by decide +kernel
theorem dL_made_80 : decode cL_made 80 = .ok (.bipush 48, 2) := by decide +kernel
theorem dL_made_82 : decode cL_made 82 = .ok (.aload_n 1, 1) := by decide +kernel
theorem dL_made_83 : decode cL_made 83 = .ok (.bipush 24, 2) := by decide +kernel
theorem dL_made_85 : decode cL_made 85 = .ok (.iload 4, 2) := by decide +kernel
theorem dL_made_87 : decode cL_made 87 = .ok (.iadd, 1) := by decide +kernel
theorem dL_made_88 : decode cL_made 88 = .ok (.iaload, 1) := by decide +kernel
theorem dL_made_89 : decode cL_made 89 = .ok (.iadd, 1) := by decide +kernel
theorem dL_made_90 : decode cL_made 90 = .ok (.invokevirtual 24, 3) := by decide +kernel
theorem dL_made_93 : decode cL_made 93 = .ok (.sipush 1032, 3) := by decide +kernel
theorem dL_made_96 : decode cL_made 96 = .ok (.if_icmp .ne 7, 3) := by decide +kernel
theorem dL_made_99 : decode cL_made 99 = .ok (.iconst 1, 1) := by decide +kernel
theorem dL_made_100 : decode cL_made 100 = .ok (.goto 4, 3) := by decide +kernel
theorem dL_made_103 : decode cL_made 103 = .ok (.iconst 0, 1) := by decide +kernel
theorem dL_made_104 : decode cL_made 104 = .ok (.istore_n 3, 1) := by decide +kernel
theorem dL_made_105 : decode cL_made 105 = .ok (.iinc 4 1, 3) := by decide +kernel
theorem dL_made_108 : decode cL_made 108 = .ok (.goto (-45), 3) := by decide +kernel
theorem dL_made_111 : decode cL_made 111 = .ok (.iconst 0, 1) := by decide +kernel
theorem dL_made_112 : decode cL_made 112 = .ok (.istore 4, 2) := by decide +kernel
theorem dL_made_114 : decode cL_made 114 = .ok (.iload 4, 2) := by decide +kernel
theorem dL_made_116 : decode cL_made 116 = .ok (.aload_n 1, 1) := by decide +kernel
theorem dL_made_117 : decode cL_made 117 = .ok (.bipush 34, 2) := by decide +kernel
theorem dL_made_119 : decode cL_made 119 = .ok (.iaload, 1) := by decide +kernel
theorem dL_made_120 : decode cL_made 120 = .ok (.if_icmp .ge 154, 3) := by decide +kernel
theorem dL_made_123 : decode cL_made 123 = .ok (.bipush 10, 2) := by decide +kernel
theorem dL_made_125 : decode cL_made 125 = .ok (.iconst 5, 1) := by decide +kernel
theorem dL_made_126 : decode cL_made 126 = .ok (.iload 4, 2) := by decide +kernel
theorem dL_made_128 : decode cL_made 128 = .ok (.imul, 1) := by decide +kernel
theorem dL_made_129 : decode cL_made 129 = .ok (.iadd, 1) := by decide +kernel
theorem dL_made_130 : decode cL_made 130 = .ok (.istore 5, 2) := by decide +kernel
theorem dL_made_132 : decode cL_made 132 = .ok (.iload_n 3, 1) := by decide +kernel
theorem dL_made_133 : decode cL_made 133 = .ok (.ifCond .eq 133, 3) := by decide +kernel
theorem dL_made_136 : decode cL_made 136 = .ok (.aload_n 0, 1) := by decide +kernel
theorem dL_made_137 : decode cL_made 137 = .ok (.iconst 0, 1) := by decide +kernel
theorem dL_made_138 : decode cL_made 138 = .ok (.iload 5, 2) := by decide +kernel
theorem dL_made_140 : decode cL_made 140 = .ok (.aload_n 1, 1) := by decide +kernel
theorem dL_made_141 : decode cL_made 141 = .ok (.iload 4, 2) := by decide +kernel
theorem dL_made_143 : decode cL_made 143 = .ok (.iaload, 1) := by decide +kernel
theorem dL_made_144 : decode cL_made 144 = .ok (.invokestatic 28, 3) := by decide +kernel
theorem dL_made_147 : decode cL_made 147 = .ok (.invokevirtual 24, 3) := by decide +kernel
theorem dL_made_150 : decode cL_made 150 = .ok (.sipush 1032, 3) := by decide +kernel
theorem dL_made_153 : decode cL_made 153 = .ok (.if_icmp .ne 113, 3) := by decide +kernel
theorem dL_made_156 : decode cL_made 156 = .ok (.aload_n 0, 1) := by decide +kernel
theorem dL_made_157 : decode cL_made 157 = .ok (.iconst 0, 1) := by decide +kernel
theorem dL_made_158 : decode cL_made 158 = .ok (.iload 5, 2) := by decide +kernel
theorem dL_made_160 : decode cL_made 160 = .ok (.iconst 1, 1) := by decide +kernel
theorem dL_made_161 : decode cL_made 161 = .ok (.iadd, 1) := by decide +kernel
theorem dL_made_162 : decode cL_made 162 = .ok (.bipush 48, 2) := by decide +kernel
theorem dL_made_164 : decode cL_made 164 = .ok (.aload_n 1, 1) := by decide +kernel
theorem dL_made_165 : decode cL_made 165 = .ok (.bipush 6, 2) := by decide +kernel
theorem dL_made_167 : decode cL_made 167 = .ok (.iload 4, 2) := by decide +kernel
theorem dL_made_169 : decode cL_made 169 = .ok (.iadd, 1) := by decide +kernel
theorem dL_made_170 : decode cL_made 170 = .ok (.iaload, 1) := by decide +kernel
theorem dL_made_171 : decode cL_made 171 = .ok (.bipush 10, 2) := by decide +kernel
theorem dL_made_173 : decode cL_made 173 = .ok (.idiv, 1) := by decide +kernel
theorem dL_made_174 : decode cL_made 174 = .ok (.iadd, 1) := by decide +kernel
theorem dL_made_175 : decode cL_made 175 = .ok (.invokevirtual 24, 3) := by decide +kernel
theorem dL_made_178 : decode cL_made 178 = .ok (.sipush 1032, 3) := by decide +kernel
theorem dL_made_181 : decode cL_made 181 = .ok (.if_icmp .ne 85, 3) := by decide +kernel
theorem dL_made_184 : decode cL_made 184 = .ok (.aload_n 0, 1) := by decide +kernel
theorem dL_made_185 : decode cL_made 185 = .ok (.iconst 0, 1) := by decide +kernel
theorem dL_made_186 : decode cL_made 186 = .ok (.iload 5, 2) := by decide +kernel
theorem dL_made_188 : decode cL_made 188 = .ok (.iconst 2, 1) := by decide +kernel
theorem dL_made_189 : decode cL_made 189 = .ok (.iadd, 1) := by decide +kernel
theorem dL_made_190 : decode cL_made 190 = .ok (.bipush 48, 2) := by decide +kernel
theorem dL_made_192 : decode cL_made 192 = .ok (.aload_n 1, 1) := by decide +kernel
theorem dL_made_193 : decode cL_made 193 = .ok (.bipush 6, 2) := by decide +kernel
theorem dL_made_195 : decode cL_made 195 = .ok (.iload 4, 2) := by decide +kernel
theorem dL_made_197 : decode cL_made 197 = .ok (.iadd, 1) := by decide +kernel
theorem dL_made_198 : decode cL_made 198 = .ok (.iaload, 1) := by decide +kernel
theorem dL_made_199 : decode cL_made 199 = .ok (.bipush 10, 2) := by decide +kernel
theorem dL_made_201 : decode cL_made 201 = .ok (.irem, 1) := by decide +kernel
theorem dL_made_202 : decode cL_made 202 = .ok (.iadd, 1) := by decide +kernel
theorem dL_made_203 : decode cL_made 203 = .ok (.invokevirtual 24, 3) := by decide +kernel
theorem dL_made_206 : decode cL_made 206 = .ok (.sipush 1032, 3) := by decide +kernel
theorem dL_made_209 : decode cL_made 209 = .ok (.if_icmp .ne 57, 3) := by decide +kernel
theorem dL_made_212 : decode cL_made 212 = .ok (.aload_n 0, 1) := by decide +kernel
theorem dL_made_213 : decode cL_made 213 = .ok (.iconst 0, 1) := by decide +kernel
theorem dL_made_214 : decode cL_made 214 = .ok (.iload 5, 2) := by decide +kernel
theorem dL_made_216 : decode cL_made 216 = .ok (.iconst 3, 1) := by decide +kernel
theorem dL_made_217 : decode cL_made 217 = .ok (.iadd, 1) := by decide +kernel
theorem dL_made_218 : decode cL_made 218 = .ok (.bipush 48, 2) := by decide +kernel
theorem dL_made_220 : decode cL_made 220 = .ok (.aload_n 1, 1) := by decide +kernel
theorem dL_made_221 : decode cL_made 221 = .ok (.bipush 12, 2) := by decide +kernel
theorem dL_made_223 : decode cL_made 223 = .ok (.iload 4, 2) := by decide +kernel
theorem dL_made_225 : decode cL_made 225 = .ok (.iadd, 1) := by decide +kernel
theorem dL_made_226 : decode cL_made 226 = .ok (.iaload, 1) := by decide +kernel
theorem dL_made_227 : decode cL_made 227 = .ok (.iadd, 1) := by decide +kernel
theorem dL_made_228 : decode cL_made 228 = .ok (.invokevirtual 24, 3) := by decide +kernel
theorem dL_made_231 : decode cL_made 231 = .ok (.sipush 1032, 3) := by decide +kernel
theorem dL_made_234 : decode cL_made 234 = .ok (.if_icmp .ne 32, 3) := by decide +kernel
theorem dL_made_237 : decode cL_made 237 = .ok (.aload_n 0, 1) := by decide +kernel
theorem dL_made_238 : decode cL_made 238 = .ok (.iconst 0, 1) := by decide +kernel
theorem dL_made_239 : decode cL_made 239 = .ok (.iload 5, 2) := by decide +kernel
theorem dL_made_241 : decode cL_made 241 = .ok (.iconst 4, 1) := by decide +kernel
theorem dL_made_242 : decode cL_made 242 = .ok (.iadd, 1) := by decide +kernel
theorem dL_made_243 : decode cL_made 243 = .ok (.bipush 48, 2) := by decide +kernel
theorem dL_made_245 : decode cL_made 245 = .ok (.aload_n 1, 1) := by decide +kernel
theorem dL_made_246 : decode cL_made 246 = .ok (.bipush 18, 2) := by decide +kernel
theorem dL_made_248 : decode cL_made 248 = .ok (.iload 4, 2) := by decide +kernel
theorem dL_made_250 : decode cL_made 250 = .ok (.iadd, 1) := by decide +kernel
theorem dL_made_251 : decode cL_made 251 = .ok (.iaload, 1) := by decide +kernel
theorem dL_made_252 : decode cL_made 252 = .ok (.iadd, 1) := by decide +kernel
theorem dL_made_253 : decode cL_made 253 = .ok (.invokevirtual 24, 3) := by decide +kernel
theorem dL_made_256 : decode cL_made 256 = .ok (.sipush 1032, 3) := by decide +kernel
theorem dL_made_259 : decode cL_made 259 = .ok (.if_icmp .ne 7, 3) := by decide +kernel
theorem dL_made_262 : decode cL_made 262 = .ok (.iconst 1, 1) := by decide +kernel
theorem dL_made_263 : decode cL_made 263 = .ok (.goto 4, 3) := by decide +kernel
theorem dL_made_266 : decode cL_made 266 = .ok (.iconst 0, 1) := by decide +kernel
theorem dL_made_267 : decode cL_made 267 = .ok (.istore_n 3, 1) := by decide +kernel
theorem dL_made_268 : decode cL_made 268 = .ok (.iinc 4 1, 3) := by decide +kernel
theorem dL_made_271 : decode cL_made 271 = .ok (.goto (-157), 3) := by decide +kernel
theorem dL_made_274 : decode cL_made 274 = .ok (.iload_n 3, 1) := by decide +kernel
theorem dL_made_275 : decode cL_made 275 = .ok (.ifCond .eq 29, 3) := by decide +kernel
theorem dL_made_278 : decode cL_made 278 = .ok (.aload_n 0, 1) := by decide +kernel
theorem dL_made_279 : decode cL_made 279 = .ok (.iconst 0, 1) := by decide +kernel
theorem dL_made_280 : decode cL_made 280 = .ok (.invokevirtual 32, 3) := by decide +kernel
theorem dL_made_283 : decode cL_made 283 = .ok (.bipush (-9), 2) := by decide +kernel
theorem dL_made_285 : decode cL_made 285 = .ok (.if_icmp .ne 19, 3) := by decide +kernel
theorem dL_made_288 : decode cL_made 288 = .ok (.aload_n 0, 1) := by decide +kernel
theorem dL_made_289 : decode cL_made 289 = .ok (.iconst 0, 1) := by decide +kernel
theorem dL_made_290 : decode cL_made 290 = .ok (.invokevirtual 35, 3) := by decide +kernel
theorem dL_made_293 : decode cL_made 293 = .ok (.aload_n 1, 1) := by decide +kernel
theorem dL_made_294 : decode cL_made 294 = .ok (.bipush 34, 2) := by decide +kernel
theorem dL_made_296 : decode cL_made 296 = .ok (.iaload, 1) := by decide +kernel
theorem dL_made_297 : decode cL_made 297 = .ok (.if_icmp .ne 7, 3) := by decide +kernel
theorem dL_made_300 : decode cL_made 300 = .ok (.iconst 1, 1) := by decide +kernel
theorem dL_made_301 : decode cL_made 301 = .ok (.goto 4, 3) := by decide +kernel
theorem dL_made_304 : decode cL_made 304 = .ok (.iconst 0, 1) := by decide +kernel
theorem dL_made_305 : decode cL_made 305 = .ok (.ireturn, 1) := by decide +kernel
def F_L_made_114 (fu : Nat) : Nat → Mm → Int32 → Int32 → Option (Int32 × Mm)
  | 0, _, _, _ => none
  | n + 1, M, x3, x4 =>
    if (34 : Int32) < 0 ∨ ln 86 ≤ (34 : Int32).toNatClampNeg then none else (
    if (M.1 86 (34 : Int32).toNatClampNeg) ≤ x4 then
      if x3 = 0 then
        some ((0 : Int32), M)
      else
        ob2 (F_X6_fault fu M (0 : Int32)) (fun r5 M6 =>
        if r5 = (-9 : Int32) then
          ob2 (F_X6_north fu M6 (0 : Int32)) (fun r9 M10 =>
          if (34 : Int32) < 0 ∨ ln 86 ≤ (34 : Int32).toNatClampNeg then none else (
          if r9 = (M10.1 86 (34 : Int32).toNatClampNeg) then
            some ((1 : Int32), M10)
          else
            some ((0 : Int32), M10)))
        else
          some ((0 : Int32), M6))
    else
      if x3 = 0 then
        F_L_made_114 fu n M (0 : Int32) (x4 + (1 : Int32))
      else
        if x4 < 0 ∨ ln 86 ≤ x4.toNatClampNeg then none else (
        ob1 (F_L_letter fu M (M.1 86 x4.toNatClampNeg)) (fun r16 =>
        ob2 (F_X6_put fu M (0 : Int32) ((10 : Int32) + ((5 : Int32) * x4)) r16) (fun r18 M19 =>
        if r18 = (1032 : Int32) then
          if ((6 : Int32) + x4) < 0 ∨ ln 86 ≤ ((6 : Int32) + x4).toNatClampNeg then none else (
          ob2 (F_X6_put fu M19 (0 : Int32) (((10 : Int32) + ((5 : Int32) * x4)) + (1 : Int32)) ((48 : Int32) + ((M19.1 86 ((6 : Int32) + x4).toNatClampNeg) / (10 : Int32)))) (fun r23 M24 =>
          if r23 = (1032 : Int32) then
            if ((6 : Int32) + x4) < 0 ∨ ln 86 ≤ ((6 : Int32) + x4).toNatClampNeg then none else (
            ob2 (F_X6_put fu M24 (0 : Int32) (((10 : Int32) + ((5 : Int32) * x4)) + (2 : Int32)) ((48 : Int32) + ((M24.1 86 ((6 : Int32) + x4).toNatClampNeg) - (M24.1 86 ((6 : Int32) + x4).toNatClampNeg) / (10 : Int32) * (10 : Int32)))) (fun r28 M29 =>
            if r28 = (1032 : Int32) then
              if ((12 : Int32) + x4) < 0 ∨ ln 86 ≤ ((12 : Int32) + x4).toNatClampNeg then none else (
              ob2 (F_X6_put fu M29 (0 : Int32) (((10 : Int32) + ((5 : Int32) * x4)) + (3 : Int32)) ((48 : Int32) + (M29.1 86 ((12 : Int32) + x4).toNatClampNeg))) (fun r33 M34 =>
              if r33 = (1032 : Int32) then
                if ((18 : Int32) + x4) < 0 ∨ ln 86 ≤ ((18 : Int32) + x4).toNatClampNeg then none else (
                ob2 (F_X6_put fu M34 (0 : Int32) (((10 : Int32) + ((5 : Int32) * x4)) + (4 : Int32)) ((48 : Int32) + (M34.1 86 ((18 : Int32) + x4).toNatClampNeg))) (fun r38 M39 =>
                if r38 = (1032 : Int32) then
                  F_L_made_114 fu n M39 (1 : Int32) (x4 + (1 : Int32))
                else
                  F_L_made_114 fu n M39 (0 : Int32) (x4 + (1 : Int32))))
              else
                F_L_made_114 fu n M34 (0 : Int32) (x4 + (1 : Int32))))
            else
              F_L_made_114 fu n M29 (0 : Int32) (x4 + (1 : Int32))))
          else
            F_L_made_114 fu n M24 (0 : Int32) (x4 + (1 : Int32))))
        else
          F_L_made_114 fu n M19 (0 : Int32) (x4 + (1 : Int32))))))
set_option maxRecDepth 100000 in
set_option maxHeartbeats 4000000 in
theorem w_L_made_114 {p : Program} {l : Launch} {e : Env} {s : State} {m : MethodId} {args : Array Value} {below : List Frame} {meth : Method} {c : Code} {G : Gv} (hC : Cx p s m args meth c cL_made 6 (some .boolean) RL) {fu : Nat} {r : Int32} {M' : Mm} : ∀ (n : Nat) {x3 : Int32} {x4 : Int32} {M : Mm} {H : Heap} {locs : List Loc} {ls : Array Slot}, F_L_made_114 fu n M x3 x4 = some (r, M') → St G s H locs M → lv_has ls 6 [(0, .ref (ad G 0)), (1, .ref (ad G 86)), (3, .int x3), (4, .int x4)] → W p l e rm_L_made s m args below meth c H locs 0 0 (MQ below (QI G r M') args s 0 0 (zA G)) (F0 m 114 ls []) := by
  intro n
  induction n with
  | zero =>
    intro x3 x4 M H locs ls hF hw hl
    cases hF
  | succ n ih =>
    intro x3 x4 M H locs ls hF hw hl
    unfold F_L_made_114 at hF
    refine lv_iload hC.1 hC.2.1 dL_made_114 (lv_at hl 3 rfl) ?_
    refine lv_aload_n hC.1 hC.2.1 dL_made_116 rfl (lv_at hl 1 rfl) ?_
    refine lv_bipush (v := (34 : Int32)) hC.1 hC.2.1 dL_made_117 (by decide) ?_
    obtain ⟨n1, hF⟩ := ifO hF
    refine r_iald hC.1 hC.2.1 hw (rfl : kd 86 = 1) n1 dL_made_119 ?_
    refine lv_icmp_ge (tgt := 274) hC.1 hC.2.1 dL_made_120 (by decide) (fun b2 => ?_) (fun b2 => ?_)
    · have hF := ifP hF b2
      refine lv_iload_n hC.1 hC.2.1 dL_made_274 rfl (lv_at hl 2 rfl) ?_
      refine lv_if_eq (tgt := 304) hC.1 hC.2.1 dL_made_275 (by decide) (fun b3 => ?_) (fun b3 => ?_)
      · have hF := ifP hF b3
        refine lv_iconst (v := (0 : Int32)) hC.1 hC.2.1 dL_made_304 (by decide) ?_
        exact r_zretE hC hw (by decide) hF dL_made_305
      · have hF := ifN hF b3
        refine lv_aload_n hC.1 hC.2.1 dL_made_278 rfl (lv_at hl 0 rfl) ?_
        refine lv_iconst (v := (0 : Int32)) hC.1 hC.2.1 dL_made_279 (by decide) ?_
        obtain ⟨r5, M6, h4, hF⟩ := ob2S hF
        refine k_Vi (As := [.int (0 : Int32)]) (rest := []) hC hw (c_X6_fault (M := M) h4) RC_S yv_X6_fault q3_173 ⟨rfl, rfl⟩ ⟨Nat.le_of_ble_eq_true rfl, Nat.le_of_ble_eq_true rfl⟩ ⟨Nat.zero_le _, Nat.zero_le _⟩ rfl rfl (Nat.le_of_ble_eq_true rfl) hl dL_made_280 (fun H locs hw => ?_)
        refine lv_bipush (v := (-9 : Int32)) hC.1 hC.2.1 dL_made_283 (by decide) ?_
        refine lv_icmp_ne (tgt := 304) hC.1 hC.2.1 dL_made_285 (by decide) (fun b7 => ?_) (fun b7 => ?_)
        · have hF := ifN hF b7
          refine lv_iconst (v := (0 : Int32)) hC.1 hC.2.1 dL_made_304 (by decide) ?_
          exact r_zretE hC hw (by decide) hF dL_made_305
        · have hF := ifP hF b7
          refine lv_aload_n hC.1 hC.2.1 dL_made_288 rfl (lv_at hl 0 rfl) ?_
          refine lv_iconst (v := (0 : Int32)) hC.1 hC.2.1 dL_made_289 (by decide) ?_
          obtain ⟨r9, M10, h8, hF⟩ := ob2S hF
          refine k_Vi (As := [.int (0 : Int32)]) (rest := []) hC hw (c_X6_north (M := M6) h8) RC_S yv_X6_north q3_203 ⟨rfl, rfl⟩ ⟨Nat.le_of_ble_eq_true rfl, Nat.le_of_ble_eq_true rfl⟩ ⟨Nat.zero_le _, Nat.zero_le _⟩ rfl rfl (Nat.le_of_ble_eq_true rfl) hl dL_made_290 (fun H locs hw => ?_)
          refine lv_aload_n hC.1 hC.2.1 dL_made_293 rfl (lv_at hl 1 rfl) ?_
          refine lv_bipush (v := (34 : Int32)) hC.1 hC.2.1 dL_made_294 (by decide) ?_
          obtain ⟨n11, hF⟩ := ifO hF
          refine r_iald hC.1 hC.2.1 hw (rfl : kd 86 = 1) n11 dL_made_296 ?_
          refine lv_icmp_ne (tgt := 304) hC.1 hC.2.1 dL_made_297 (by decide) (fun b12 => ?_) (fun b12 => ?_)
          · have hF := ifN hF b12
            refine lv_iconst (v := (0 : Int32)) hC.1 hC.2.1 dL_made_304 (by decide) ?_
            exact r_zretE hC hw (by decide) hF dL_made_305
          · have hF := ifP hF b12
            refine lv_iconst (v := (1 : Int32)) hC.1 hC.2.1 dL_made_300 (by decide) ?_
            refine lv_goto (tgt := 305) hC.1 hC.2.1 dL_made_301 (by decide) ?_
            exact r_zretE hC hw (by decide) hF dL_made_305
    · have hF := ifN hF b2
      refine lv_bipush (v := (10 : Int32)) hC.1 hC.2.1 dL_made_123 (by decide) ?_
      refine lv_iconst (v := (5 : Int32)) hC.1 hC.2.1 dL_made_125 (by decide) ?_
      refine lv_iload hC.1 hC.2.1 dL_made_126 (lv_at hl 3 rfl) ?_
      refine lv_imul hC.1 hC.2.1 dL_made_128 ?_
      refine lv_iadd hC.1 hC.2.1 dL_made_129 ?_
      refine lv_istore (lv' := [(5, .int ((10 : Int32) + ((5 : Int32) * x4))), (0, .ref (ad G 0)), (1, .ref (ad G 86)), (3, .int x3), (4, .int x4)]) hC.1 hC.2.1 dL_made_130 hl (by decide) rfl (fun ls hl => ?_)
      refine lv_iload_n hC.1 hC.2.1 dL_made_132 rfl (lv_at hl 3 rfl) ?_
      refine lv_if_eq (tgt := 266) hC.1 hC.2.1 dL_made_133 (by decide) (fun b13 => ?_) (fun b13 => ?_)
      · have hF := ifP hF b13
        refine lv_iconst (v := (0 : Int32)) hC.1 hC.2.1 dL_made_266 (by decide) ?_
        refine lv_istore_n (lv' := [(3, .int (0 : Int32)), (5, .int ((10 : Int32) + ((5 : Int32) * x4))), (0, .ref (ad G 0)), (1, .ref (ad G 86)), (4, .int x4)]) hC.1 hC.2.1 dL_made_267 rfl hl (by decide) rfl (fun ls hl => ?_)
        refine lv_iinc (v := (x4 + (1 : Int32))) (lv' := [(4, .int (x4 + (1 : Int32))), (3, .int (0 : Int32)), (5, .int ((10 : Int32) + ((5 : Int32) * x4))), (0, .ref (ad G 0)), (1, .ref (ad G 86))]) hC.1 hC.2.1 dL_made_268 hl (k := 4) rfl rfl (by decide) rfl (fun ls hl => ?_)
        refine lv_goto (tgt := 114) hC.1 hC.2.1 dL_made_271 (by decide) ?_
        exact ih hF hw (lv_sub hl [3, 4, 1, 0] rfl)
      · have hF := ifN hF b13
        refine lv_aload_n hC.1 hC.2.1 dL_made_136 rfl (lv_at hl 1 rfl) ?_
        refine lv_iconst (v := (0 : Int32)) hC.1 hC.2.1 dL_made_137 (by decide) ?_
        refine lv_iload hC.1 hC.2.1 dL_made_138 (lv_at hl 0 rfl) ?_
        refine lv_aload_n hC.1 hC.2.1 dL_made_140 rfl (lv_at hl 2 rfl) ?_
        refine lv_iload hC.1 hC.2.1 dL_made_141 (lv_at hl 4 rfl) ?_
        obtain ⟨n14, hF⟩ := ifO hF
        refine r_iald hC.1 hC.2.1 hw (rfl : kd 86 = 1) n14 dL_made_143 ?_
        obtain ⟨r16, h15, hF⟩ := ob1S hF
        refine k_Si (As := [.int (M.1 86 x4.toNatClampNeg)]) (rest := [.int ((10 : Int32) + ((5 : Int32) * x4)), .int (0 : Int32), .ref (ad G 0)]) hC hw (c_L_letter (M := M) h15) ys_L_letter q3_170 ⟨rfl, rfl⟩ ⟨Nat.le_of_ble_eq_true rfl, Nat.le_of_ble_eq_true rfl⟩ ⟨Nat.zero_le _, Nat.zero_le _⟩ rfl rfl (Nat.le_of_ble_eq_true rfl) hl dL_made_144 (fun H locs hw => ?_)
        obtain ⟨r18, M19, h17, hF⟩ := ob2S hF
        refine k_Vi (As := [.int (0 : Int32), .int ((10 : Int32) + ((5 : Int32) * x4)), .int r16]) (rest := []) hC hw (c_X6_put (M := M) h17) RC_S yv_X6_put q3_158 ⟨rfl, rfl⟩ ⟨Nat.le_of_ble_eq_true rfl, Nat.le_of_ble_eq_true rfl⟩ ⟨Nat.zero_le _, Nat.zero_le _⟩ rfl rfl (Nat.le_of_ble_eq_true rfl) hl dL_made_147 (fun H locs hw => ?_)
        refine lv_sipush (v := (1032 : Int32)) hC.1 hC.2.1 dL_made_150 (by decide) ?_
        refine lv_icmp_ne (tgt := 266) hC.1 hC.2.1 dL_made_153 (by decide) (fun b20 => ?_) (fun b20 => ?_)
        · have hF := ifN hF b20
          refine lv_iconst (v := (0 : Int32)) hC.1 hC.2.1 dL_made_266 (by decide) ?_
          refine lv_istore_n (lv' := [(3, .int (0 : Int32)), (5, .int ((10 : Int32) + ((5 : Int32) * x4))), (0, .ref (ad G 0)), (1, .ref (ad G 86)), (4, .int x4)]) hC.1 hC.2.1 dL_made_267 rfl hl (by decide) rfl (fun ls hl => ?_)
          refine lv_iinc (v := (x4 + (1 : Int32))) (lv' := [(4, .int (x4 + (1 : Int32))), (3, .int (0 : Int32)), (5, .int ((10 : Int32) + ((5 : Int32) * x4))), (0, .ref (ad G 0)), (1, .ref (ad G 86))]) hC.1 hC.2.1 dL_made_268 hl (k := 4) rfl rfl (by decide) rfl (fun ls hl => ?_)
          refine lv_goto (tgt := 114) hC.1 hC.2.1 dL_made_271 (by decide) ?_
          exact ih hF hw (lv_sub hl [3, 4, 1, 0] rfl)
        · have hF := ifP hF b20
          refine lv_aload_n hC.1 hC.2.1 dL_made_156 rfl (lv_at hl 1 rfl) ?_
          refine lv_iconst (v := (0 : Int32)) hC.1 hC.2.1 dL_made_157 (by decide) ?_
          refine lv_iload hC.1 hC.2.1 dL_made_158 (lv_at hl 0 rfl) ?_
          refine lv_iconst (v := (1 : Int32)) hC.1 hC.2.1 dL_made_160 (by decide) ?_
          refine lv_iadd hC.1 hC.2.1 dL_made_161 ?_
          refine lv_bipush (v := (48 : Int32)) hC.1 hC.2.1 dL_made_162 (by decide) ?_
          refine lv_aload_n hC.1 hC.2.1 dL_made_164 rfl (lv_at hl 2 rfl) ?_
          refine lv_bipush (v := (6 : Int32)) hC.1 hC.2.1 dL_made_165 (by decide) ?_
          refine lv_iload hC.1 hC.2.1 dL_made_167 (lv_at hl 4 rfl) ?_
          refine lv_iadd hC.1 hC.2.1 dL_made_169 ?_
          obtain ⟨n21, hF⟩ := ifO hF
          refine r_iald hC.1 hC.2.1 hw (rfl : kd 86 = 1) n21 dL_made_170 ?_
          refine lv_bipush (v := (10 : Int32)) hC.1 hC.2.1 dL_made_171 (by decide) ?_
          refine lv_idiv hC.1 hC.2.1 dL_made_173 (by decide) ?_
          refine lv_iadd hC.1 hC.2.1 dL_made_174 ?_
          obtain ⟨r23, M24, h22, hF⟩ := ob2S hF
          refine k_Vi (As := [.int (0 : Int32), .int (((10 : Int32) + ((5 : Int32) * x4)) + (1 : Int32)), .int ((48 : Int32) + ((M19.1 86 ((6 : Int32) + x4).toNatClampNeg) / (10 : Int32)))]) (rest := []) hC hw (c_X6_put (M := M19) h22) RC_S yv_X6_put q3_158 ⟨rfl, rfl⟩ ⟨Nat.le_of_ble_eq_true rfl, Nat.le_of_ble_eq_true rfl⟩ ⟨Nat.zero_le _, Nat.zero_le _⟩ rfl rfl (Nat.le_of_ble_eq_true rfl) hl dL_made_175 (fun H locs hw => ?_)
          refine lv_sipush (v := (1032 : Int32)) hC.1 hC.2.1 dL_made_178 (by decide) ?_
          refine lv_icmp_ne (tgt := 266) hC.1 hC.2.1 dL_made_181 (by decide) (fun b25 => ?_) (fun b25 => ?_)
          · have hF := ifN hF b25
            refine lv_iconst (v := (0 : Int32)) hC.1 hC.2.1 dL_made_266 (by decide) ?_
            refine lv_istore_n (lv' := [(3, .int (0 : Int32)), (5, .int ((10 : Int32) + ((5 : Int32) * x4))), (0, .ref (ad G 0)), (1, .ref (ad G 86)), (4, .int x4)]) hC.1 hC.2.1 dL_made_267 rfl hl (by decide) rfl (fun ls hl => ?_)
            refine lv_iinc (v := (x4 + (1 : Int32))) (lv' := [(4, .int (x4 + (1 : Int32))), (3, .int (0 : Int32)), (5, .int ((10 : Int32) + ((5 : Int32) * x4))), (0, .ref (ad G 0)), (1, .ref (ad G 86))]) hC.1 hC.2.1 dL_made_268 hl (k := 4) rfl rfl (by decide) rfl (fun ls hl => ?_)
            refine lv_goto (tgt := 114) hC.1 hC.2.1 dL_made_271 (by decide) ?_
            exact ih hF hw (lv_sub hl [3, 4, 1, 0] rfl)
          · have hF := ifP hF b25
            refine lv_aload_n hC.1 hC.2.1 dL_made_184 rfl (lv_at hl 1 rfl) ?_
            refine lv_iconst (v := (0 : Int32)) hC.1 hC.2.1 dL_made_185 (by decide) ?_
            refine lv_iload hC.1 hC.2.1 dL_made_186 (lv_at hl 0 rfl) ?_
            refine lv_iconst (v := (2 : Int32)) hC.1 hC.2.1 dL_made_188 (by decide) ?_
            refine lv_iadd hC.1 hC.2.1 dL_made_189 ?_
            refine lv_bipush (v := (48 : Int32)) hC.1 hC.2.1 dL_made_190 (by decide) ?_
            refine lv_aload_n hC.1 hC.2.1 dL_made_192 rfl (lv_at hl 2 rfl) ?_
            refine lv_bipush (v := (6 : Int32)) hC.1 hC.2.1 dL_made_193 (by decide) ?_
            refine lv_iload hC.1 hC.2.1 dL_made_195 (lv_at hl 4 rfl) ?_
            refine lv_iadd hC.1 hC.2.1 dL_made_197 ?_
            obtain ⟨n26, hF⟩ := ifO hF
            refine r_iald hC.1 hC.2.1 hw (rfl : kd 86 = 1) n26 dL_made_198 ?_
            refine lv_bipush (v := (10 : Int32)) hC.1 hC.2.1 dL_made_199 (by decide) ?_
            refine lv_irem hC.1 hC.2.1 dL_made_201 (by decide) ?_
            refine lv_iadd hC.1 hC.2.1 dL_made_202 ?_
            obtain ⟨r28, M29, h27, hF⟩ := ob2S hF
            refine k_Vi (As := [.int (0 : Int32), .int (((10 : Int32) + ((5 : Int32) * x4)) + (2 : Int32)), .int ((48 : Int32) + ((M24.1 86 ((6 : Int32) + x4).toNatClampNeg) - (M24.1 86 ((6 : Int32) + x4).toNatClampNeg) / (10 : Int32) * (10 : Int32)))]) (rest := []) hC hw (c_X6_put (M := M24) h27) RC_S yv_X6_put q3_158 ⟨rfl, rfl⟩ ⟨Nat.le_of_ble_eq_true rfl, Nat.le_of_ble_eq_true rfl⟩ ⟨Nat.zero_le _, Nat.zero_le _⟩ rfl rfl (Nat.le_of_ble_eq_true rfl) hl dL_made_203 (fun H locs hw => ?_)
            refine lv_sipush (v := (1032 : Int32)) hC.1 hC.2.1 dL_made_206 (by decide) ?_
            refine lv_icmp_ne (tgt := 266) hC.1 hC.2.1 dL_made_209 (by decide) (fun b30 => ?_) (fun b30 => ?_)
            · have hF := ifN hF b30
              refine lv_iconst (v := (0 : Int32)) hC.1 hC.2.1 dL_made_266 (by decide) ?_
              refine lv_istore_n (lv' := [(3, .int (0 : Int32)), (5, .int ((10 : Int32) + ((5 : Int32) * x4))), (0, .ref (ad G 0)), (1, .ref (ad G 86)), (4, .int x4)]) hC.1 hC.2.1 dL_made_267 rfl hl (by decide) rfl (fun ls hl => ?_)
              refine lv_iinc (v := (x4 + (1 : Int32))) (lv' := [(4, .int (x4 + (1 : Int32))), (3, .int (0 : Int32)), (5, .int ((10 : Int32) + ((5 : Int32) * x4))), (0, .ref (ad G 0)), (1, .ref (ad G 86))]) hC.1 hC.2.1 dL_made_268 hl (k := 4) rfl rfl (by decide) rfl (fun ls hl => ?_)
              refine lv_goto (tgt := 114) hC.1 hC.2.1 dL_made_271 (by decide) ?_
              exact ih hF hw (lv_sub hl [3, 4, 1, 0] rfl)
            · have hF := ifP hF b30
              refine lv_aload_n hC.1 hC.2.1 dL_made_212 rfl (lv_at hl 1 rfl) ?_
              refine lv_iconst (v := (0 : Int32)) hC.1 hC.2.1 dL_made_213 (by decide) ?_
              refine lv_iload hC.1 hC.2.1 dL_made_214 (lv_at hl 0 rfl) ?_
              refine lv_iconst (v := (3 : Int32)) hC.1 hC.2.1 dL_made_216 (by decide) ?_
              refine lv_iadd hC.1 hC.2.1 dL_made_217 ?_
              refine lv_bipush (v := (48 : Int32)) hC.1 hC.2.1 dL_made_218 (by decide) ?_
              refine lv_aload_n hC.1 hC.2.1 dL_made_220 rfl (lv_at hl 2 rfl) ?_
              refine lv_bipush (v := (12 : Int32)) hC.1 hC.2.1 dL_made_221 (by decide) ?_
              refine lv_iload hC.1 hC.2.1 dL_made_223 (lv_at hl 4 rfl) ?_
              refine lv_iadd hC.1 hC.2.1 dL_made_225 ?_
              obtain ⟨n31, hF⟩ := ifO hF
              refine r_iald hC.1 hC.2.1 hw (rfl : kd 86 = 1) n31 dL_made_226 ?_
              refine lv_iadd hC.1 hC.2.1 dL_made_227 ?_
              obtain ⟨r33, M34, h32, hF⟩ := ob2S hF
              refine k_Vi (As := [.int (0 : Int32), .int (((10 : Int32) + ((5 : Int32) * x4)) + (3 : Int32)), .int ((48 : Int32) + (M29.1 86 ((12 : Int32) + x4).toNatClampNeg))]) (rest := []) hC hw (c_X6_put (M := M29) h32) RC_S yv_X6_put q3_158 ⟨rfl, rfl⟩ ⟨Nat.le_of_ble_eq_true rfl, Nat.le_of_ble_eq_true rfl⟩ ⟨Nat.zero_le _, Nat.zero_le _⟩ rfl rfl (Nat.le_of_ble_eq_true rfl) hl dL_made_228 (fun H locs hw => ?_)
              refine lv_sipush (v := (1032 : Int32)) hC.1 hC.2.1 dL_made_231 (by decide) ?_
              refine lv_icmp_ne (tgt := 266) hC.1 hC.2.1 dL_made_234 (by decide) (fun b35 => ?_) (fun b35 => ?_)
              · have hF := ifN hF b35
                refine lv_iconst (v := (0 : Int32)) hC.1 hC.2.1 dL_made_266 (by decide) ?_
                refine lv_istore_n (lv' := [(3, .int (0 : Int32)), (5, .int ((10 : Int32) + ((5 : Int32) * x4))), (0, .ref (ad G 0)), (1, .ref (ad G 86)), (4, .int x4)]) hC.1 hC.2.1 dL_made_267 rfl hl (by decide) rfl (fun ls hl => ?_)
                refine lv_iinc (v := (x4 + (1 : Int32))) (lv' := [(4, .int (x4 + (1 : Int32))), (3, .int (0 : Int32)), (5, .int ((10 : Int32) + ((5 : Int32) * x4))), (0, .ref (ad G 0)), (1, .ref (ad G 86))]) hC.1 hC.2.1 dL_made_268 hl (k := 4) rfl rfl (by decide) rfl (fun ls hl => ?_)
                refine lv_goto (tgt := 114) hC.1 hC.2.1 dL_made_271 (by decide) ?_
                exact ih hF hw (lv_sub hl [3, 4, 1, 0] rfl)
              · have hF := ifP hF b35
                refine lv_aload_n hC.1 hC.2.1 dL_made_237 rfl (lv_at hl 1 rfl) ?_
                refine lv_iconst (v := (0 : Int32)) hC.1 hC.2.1 dL_made_238 (by decide) ?_
                refine lv_iload hC.1 hC.2.1 dL_made_239 (lv_at hl 0 rfl) ?_
                refine lv_iconst (v := (4 : Int32)) hC.1 hC.2.1 dL_made_241 (by decide) ?_
                refine lv_iadd hC.1 hC.2.1 dL_made_242 ?_
                refine lv_bipush (v := (48 : Int32)) hC.1 hC.2.1 dL_made_243 (by decide) ?_
                refine lv_aload_n hC.1 hC.2.1 dL_made_245 rfl (lv_at hl 2 rfl) ?_
                refine lv_bipush (v := (18 : Int32)) hC.1 hC.2.1 dL_made_246 (by decide) ?_
                refine lv_iload hC.1 hC.2.1 dL_made_248 (lv_at hl 4 rfl) ?_
                refine lv_iadd hC.1 hC.2.1 dL_made_250 ?_
                obtain ⟨n36, hF⟩ := ifO hF
                refine r_iald hC.1 hC.2.1 hw (rfl : kd 86 = 1) n36 dL_made_251 ?_
                refine lv_iadd hC.1 hC.2.1 dL_made_252 ?_
                obtain ⟨r38, M39, h37, hF⟩ := ob2S hF
                refine k_Vi (As := [.int (0 : Int32), .int (((10 : Int32) + ((5 : Int32) * x4)) + (4 : Int32)), .int ((48 : Int32) + (M34.1 86 ((18 : Int32) + x4).toNatClampNeg))]) (rest := []) hC hw (c_X6_put (M := M34) h37) RC_S yv_X6_put q3_158 ⟨rfl, rfl⟩ ⟨Nat.le_of_ble_eq_true rfl, Nat.le_of_ble_eq_true rfl⟩ ⟨Nat.zero_le _, Nat.zero_le _⟩ rfl rfl (Nat.le_of_ble_eq_true rfl) hl dL_made_253 (fun H locs hw => ?_)
                refine lv_sipush (v := (1032 : Int32)) hC.1 hC.2.1 dL_made_256 (by decide) ?_
                refine lv_icmp_ne (tgt := 266) hC.1 hC.2.1 dL_made_259 (by decide) (fun b40 => ?_) (fun b40 => ?_)
                · have hF := ifN hF b40
                  refine lv_iconst (v := (0 : Int32)) hC.1 hC.2.1 dL_made_266 (by decide) ?_
                  refine lv_istore_n (lv' := [(3, .int (0 : Int32)), (5, .int ((10 : Int32) + ((5 : Int32) * x4))), (0, .ref (ad G 0)), (1, .ref (ad G 86)), (4, .int x4)]) hC.1 hC.2.1 dL_made_267 rfl hl (by decide) rfl (fun ls hl => ?_)
                  refine lv_iinc (v := (x4 + (1 : Int32))) (lv' := [(4, .int (x4 + (1 : Int32))), (3, .int (0 : Int32)), (5, .int ((10 : Int32) + ((5 : Int32) * x4))), (0, .ref (ad G 0)), (1, .ref (ad G 86))]) hC.1 hC.2.1 dL_made_268 hl (k := 4) rfl rfl (by decide) rfl (fun ls hl => ?_)
                  refine lv_goto (tgt := 114) hC.1 hC.2.1 dL_made_271 (by decide) ?_
                  exact ih hF hw (lv_sub hl [3, 4, 1, 0] rfl)
                · have hF := ifP hF b40
                  refine lv_iconst (v := (1 : Int32)) hC.1 hC.2.1 dL_made_262 (by decide) ?_
                  refine lv_goto (tgt := 267) hC.1 hC.2.1 dL_made_263 (by decide) ?_
                  refine lv_istore_n (lv' := [(3, .int (1 : Int32)), (5, .int ((10 : Int32) + ((5 : Int32) * x4))), (0, .ref (ad G 0)), (1, .ref (ad G 86)), (4, .int x4)]) hC.1 hC.2.1 dL_made_267 rfl hl (by decide) rfl (fun ls hl => ?_)
                  refine lv_iinc (v := (x4 + (1 : Int32))) (lv' := [(4, .int (x4 + (1 : Int32))), (3, .int (1 : Int32)), (5, .int ((10 : Int32) + ((5 : Int32) * x4))), (0, .ref (ad G 0)), (1, .ref (ad G 86))]) hC.1 hC.2.1 dL_made_268 hl (k := 4) rfl rfl (by decide) rfl (fun ls hl => ?_)
                  refine lv_goto (tgt := 114) hC.1 hC.2.1 dL_made_271 (by decide) ?_
                  exact ih hF hw (lv_sub hl [3, 4, 1, 0] rfl)
def F_L_made_63 (fu : Nat) : Nat → Mm → Int32 → Int32 → Option (Int32 × Mm)
  | 0, _, _, _ => none
  | n + 1, M, x3, x4 =>
    if (8 : Int32) ≤ x4 then
      F_L_made_114 fu fu M x3 (0 : Int32)
    else
      if x3 = 0 then
        F_L_made_63 fu n M (0 : Int32) (x4 + (1 : Int32))
      else
        if ((24 : Int32) + x4) < 0 ∨ ln 86 ≤ ((24 : Int32) + x4).toNatClampNeg then none else (
        ob2 (F_X6_put fu M (0 : Int32) ((1 : Int32) + x4) ((48 : Int32) + (M.1 86 ((24 : Int32) + x4).toNatClampNeg))) (fun r5 M6 =>
        if r5 = (1032 : Int32) then
          F_L_made_63 fu n M6 (1 : Int32) (x4 + (1 : Int32))
        else
          F_L_made_63 fu n M6 (0 : Int32) (x4 + (1 : Int32))))
set_option maxRecDepth 100000 in
set_option maxHeartbeats 4000000 in
theorem w_L_made_63 {p : Program} {l : Launch} {e : Env} {s : State} {m : MethodId} {args : Array Value} {below : List Frame} {meth : Method} {c : Code} {G : Gv} (hC : Cx p s m args meth c cL_made 6 (some .boolean) RL) {fu : Nat} {r : Int32} {M' : Mm} : ∀ (n : Nat) {x3 : Int32} {x4 : Int32} {M : Mm} {H : Heap} {locs : List Loc} {ls : Array Slot}, F_L_made_63 fu n M x3 x4 = some (r, M') → St G s H locs M → lv_has ls 6 [(0, .ref (ad G 0)), (1, .ref (ad G 86)), (3, .int x3), (4, .int x4)] → W p l e rm_L_made s m args below meth c H locs 0 0 (MQ below (QI G r M') args s 0 0 (zA G)) (F0 m 63 ls []) := by
  intro n
  induction n with
  | zero =>
    intro x3 x4 M H locs ls hF hw hl
    cases hF
  | succ n ih =>
    intro x3 x4 M H locs ls hF hw hl
    unfold F_L_made_63 at hF
    refine lv_iload hC.1 hC.2.1 dL_made_63 (lv_at hl 3 rfl) ?_
    refine lv_bipush (v := (8 : Int32)) hC.1 hC.2.1 dL_made_65 (by decide) ?_
    refine lv_icmp_ge (tgt := 111) hC.1 hC.2.1 dL_made_67 (by decide) (fun b1 => ?_) (fun b1 => ?_)
    · have hF := ifP hF b1
      refine lv_iconst (v := (0 : Int32)) hC.1 hC.2.1 dL_made_111 (by decide) ?_
      refine lv_istore (lv' := [(4, .int (0 : Int32)), (0, .ref (ad G 0)), (1, .ref (ad G 86)), (3, .int x3)]) hC.1 hC.2.1 dL_made_112 hl (by decide) rfl (fun ls hl => ?_)
      exact w_L_made_114 hC _ hF hw (lv_sub hl [1, 2, 3, 0] rfl)
    · have hF := ifN hF b1
      refine lv_iload_n hC.1 hC.2.1 dL_made_70 rfl (lv_at hl 2 rfl) ?_
      refine lv_if_eq (tgt := 103) hC.1 hC.2.1 dL_made_71 (by decide) (fun b2 => ?_) (fun b2 => ?_)
      · have hF := ifP hF b2
        refine lv_iconst (v := (0 : Int32)) hC.1 hC.2.1 dL_made_103 (by decide) ?_
        refine lv_istore_n (lv' := [(3, .int (0 : Int32)), (0, .ref (ad G 0)), (1, .ref (ad G 86)), (4, .int x4)]) hC.1 hC.2.1 dL_made_104 rfl hl (by decide) rfl (fun ls hl => ?_)
        refine lv_iinc (v := (x4 + (1 : Int32))) (lv' := [(4, .int (x4 + (1 : Int32))), (3, .int (0 : Int32)), (0, .ref (ad G 0)), (1, .ref (ad G 86))]) hC.1 hC.2.1 dL_made_105 hl (k := 3) rfl rfl (by decide) rfl (fun ls hl => ?_)
        refine lv_goto (tgt := 63) hC.1 hC.2.1 dL_made_108 (by decide) ?_
        exact ih hF hw (lv_sub hl [2, 3, 1, 0] rfl)
      · have hF := ifN hF b2
        refine lv_aload_n hC.1 hC.2.1 dL_made_74 rfl (lv_at hl 0 rfl) ?_
        refine lv_iconst (v := (0 : Int32)) hC.1 hC.2.1 dL_made_75 (by decide) ?_
        refine lv_iconst (v := (1 : Int32)) hC.1 hC.2.1 dL_made_76 (by decide) ?_
        refine lv_iload hC.1 hC.2.1 dL_made_77 (lv_at hl 3 rfl) ?_
        refine lv_iadd hC.1 hC.2.1 dL_made_79 ?_
        refine lv_bipush (v := (48 : Int32)) hC.1 hC.2.1 dL_made_80 (by decide) ?_
        refine lv_aload_n hC.1 hC.2.1 dL_made_82 rfl (lv_at hl 1 rfl) ?_
        refine lv_bipush (v := (24 : Int32)) hC.1 hC.2.1 dL_made_83 (by decide) ?_
        refine lv_iload hC.1 hC.2.1 dL_made_85 (lv_at hl 3 rfl) ?_
        refine lv_iadd hC.1 hC.2.1 dL_made_87 ?_
        obtain ⟨n3, hF⟩ := ifO hF
        refine r_iald hC.1 hC.2.1 hw (rfl : kd 86 = 1) n3 dL_made_88 ?_
        refine lv_iadd hC.1 hC.2.1 dL_made_89 ?_
        obtain ⟨r5, M6, h4, hF⟩ := ob2S hF
        refine k_Vi (As := [.int (0 : Int32), .int ((1 : Int32) + x4), .int ((48 : Int32) + (M.1 86 ((24 : Int32) + x4).toNatClampNeg))]) (rest := []) hC hw (c_X6_put (M := M) h4) RC_S yv_X6_put q3_158 ⟨rfl, rfl⟩ ⟨Nat.le_of_ble_eq_true rfl, Nat.le_of_ble_eq_true rfl⟩ ⟨Nat.zero_le _, Nat.zero_le _⟩ rfl rfl (Nat.le_of_ble_eq_true rfl) hl dL_made_90 (fun H locs hw => ?_)
        refine lv_sipush (v := (1032 : Int32)) hC.1 hC.2.1 dL_made_93 (by decide) ?_
        refine lv_icmp_ne (tgt := 103) hC.1 hC.2.1 dL_made_96 (by decide) (fun b7 => ?_) (fun b7 => ?_)
        · have hF := ifN hF b7
          refine lv_iconst (v := (0 : Int32)) hC.1 hC.2.1 dL_made_103 (by decide) ?_
          refine lv_istore_n (lv' := [(3, .int (0 : Int32)), (0, .ref (ad G 0)), (1, .ref (ad G 86)), (4, .int x4)]) hC.1 hC.2.1 dL_made_104 rfl hl (by decide) rfl (fun ls hl => ?_)
          refine lv_iinc (v := (x4 + (1 : Int32))) (lv' := [(4, .int (x4 + (1 : Int32))), (3, .int (0 : Int32)), (0, .ref (ad G 0)), (1, .ref (ad G 86))]) hC.1 hC.2.1 dL_made_105 hl (k := 3) rfl rfl (by decide) rfl (fun ls hl => ?_)
          refine lv_goto (tgt := 63) hC.1 hC.2.1 dL_made_108 (by decide) ?_
          exact ih hF hw (lv_sub hl [2, 3, 1, 0] rfl)
        · have hF := ifP hF b7
          refine lv_iconst (v := (1 : Int32)) hC.1 hC.2.1 dL_made_99 (by decide) ?_
          refine lv_goto (tgt := 104) hC.1 hC.2.1 dL_made_100 (by decide) ?_
          refine lv_istore_n (lv' := [(3, .int (1 : Int32)), (0, .ref (ad G 0)), (1, .ref (ad G 86)), (4, .int x4)]) hC.1 hC.2.1 dL_made_104 rfl hl (by decide) rfl (fun ls hl => ?_)
          refine lv_iinc (v := (x4 + (1 : Int32))) (lv' := [(4, .int (x4 + (1 : Int32))), (3, .int (1 : Int32)), (0, .ref (ad G 0)), (1, .ref (ad G 86))]) hC.1 hC.2.1 dL_made_105 hl (k := 3) rfl rfl (by decide) rfl (fun ls hl => ?_)
          refine lv_goto (tgt := 63) hC.1 hC.2.1 dL_made_108 (by decide) ?_
          exact ih hF hw (lv_sub hl [2, 3, 1, 0] rfl)
def F_L_made (fu : Nat) (M : Mm) : Option (Int32 × Mm) :=
  if (34 : Int32) < 0 ∨ ln 86 ≤ (34 : Int32).toNatClampNeg then none else (
  lt1 ((10 : Int32) + ((5 : Int32) * (M.1 86 (34 : Int32).toNatClampNeg))) (fun y2 =>
  ob2 (F_X6_text fu M (0 : Int32) y2) (fun r4 M5 =>
  if r4 = y2 then
    ob2 (F_X6_put fu M5 (0 : Int32) (0 : Int32) (122 : Int32)) (fun r8 M9 =>
    if r8 = (1032 : Int32) then
      if (32 : Int32) < 0 ∨ ln 86 ≤ (32 : Int32).toNatClampNeg then none else (
      ob2 (F_X6_put fu M9 (0 : Int32) (9 : Int32) ((48 : Int32) + (M9.1 86 (32 : Int32).toNatClampNeg))) (fun r13 M14 =>
      if r13 = (1032 : Int32) then
        F_L_made_63 fu fu M14 (1 : Int32) (0 : Int32)
      else
        F_L_made_63 fu fu M14 (0 : Int32) (0 : Int32)))
    else
      F_L_made_63 fu fu M9 (0 : Int32) (0 : Int32))
  else
    F_L_made_63 fu fu M5 (0 : Int32) (0 : Int32))))
set_option maxRecDepth 100000 in
set_option maxHeartbeats 4000000 in
theorem c_L_made {l : Launch} {G : Gv} {fu : Nat} {M : Mm} {r : Int32} {M' : Mm} (hF : F_L_made fu M = some (r, M')) : Met l yL_made (.code yL_made cL_made 6 (some .boolean) :: zU) rm_L_made (va_Pc [.ref (ad G 0), .ref (ad G 86)] (Wd G M)) (QI G r M') 0 0 (zA G) := by
  refine zMet (by decide) rfl (Nat.le_of_ble_eq_true rfl) ?_
  intro p e s m below meth c hC hw ls hl
  have hl : lv_has ls 6 [(0, .ref (ad G 0)), (1, .ref (ad G 86))] := hl
  unfold F_L_made at hF
  refine lv_bipush (v := (10 : Int32)) hC.1 hC.2.1 dL_made_0 (by decide) ?_
  refine lv_iconst (v := (5 : Int32)) hC.1 hC.2.1 dL_made_2 (by decide) ?_
  refine lv_aload_n hC.1 hC.2.1 dL_made_3 rfl (lv_at hl 1 rfl) ?_
  refine lv_bipush (v := (34 : Int32)) hC.1 hC.2.1 dL_made_4 (by decide) ?_
  obtain ⟨n1, hF⟩ := ifO hF
  refine r_iald hC.1 hC.2.1 hw (rfl : kd 86 = 1) n1 dL_made_6 ?_
  refine lv_imul hC.1 hC.2.1 dL_made_7 ?_
  refine lv_iadd hC.1 hC.2.1 dL_made_8 ?_
  refine lv_topi (fun y2 ey2 => ?_)
  have hF := lt1G hF ey2
  refine lv_istore_n (lv' := [(2, .int y2), (0, .ref (ad G 0)), (1, .ref (ad G 86))]) hC.1 hC.2.1 dL_made_9 rfl hl (by decide) rfl (fun ls hl => ?_)
  refine lv_aload_n hC.1 hC.2.1 dL_made_10 rfl (lv_at hl 1 rfl) ?_
  refine lv_iconst (v := (0 : Int32)) hC.1 hC.2.1 dL_made_11 (by decide) ?_
  refine lv_iload_n hC.1 hC.2.1 dL_made_12 rfl (lv_at hl 0 rfl) ?_
  obtain ⟨r4, M5, h3, hF⟩ := ob2S hF
  refine k_Vi (As := [.int (0 : Int32), .int y2]) (rest := []) hC hw (c_X6_text (M := M) h3) RC_S yv_X6_text q3_150 ⟨rfl, rfl⟩ ⟨Nat.le_of_ble_eq_true rfl, Nat.le_of_ble_eq_true rfl⟩ ⟨Nat.zero_le _, Nat.zero_le _⟩ rfl rfl (Nat.le_of_ble_eq_true rfl) hl dL_made_13 (fun H locs hw => ?_)
  refine lv_iload_n hC.1 hC.2.1 dL_made_16 rfl (lv_at hl 0 rfl) ?_
  refine lv_icmp_ne (tgt := 58) hC.1 hC.2.1 dL_made_17 (by decide) (fun b6 => ?_) (fun b6 => ?_)
  · have hF := ifN hF b6
    refine lv_iconst (v := (0 : Int32)) hC.1 hC.2.1 dL_made_58 (by decide) ?_
    refine lv_istore_n (lv' := [(3, .int (0 : Int32)), (2, .int y2), (0, .ref (ad G 0)), (1, .ref (ad G 86))]) hC.1 hC.2.1 dL_made_59 rfl hl (by decide) rfl (fun ls hl => ?_)
    refine lv_iconst (v := (0 : Int32)) hC.1 hC.2.1 dL_made_60 (by decide) ?_
    refine lv_istore (lv' := [(4, .int (0 : Int32)), (3, .int (0 : Int32)), (2, .int y2), (0, .ref (ad G 0)), (1, .ref (ad G 86))]) hC.1 hC.2.1 dL_made_61 hl (by decide) rfl (fun ls hl => ?_)
    exact w_L_made_63 hC _ hF hw (lv_sub hl [3, 4, 1, 0] rfl)
  · have hF := ifP hF b6
    refine lv_aload_n hC.1 hC.2.1 dL_made_20 rfl (lv_at hl 1 rfl) ?_
    refine lv_iconst (v := (0 : Int32)) hC.1 hC.2.1 dL_made_21 (by decide) ?_
    refine lv_iconst (v := (0 : Int32)) hC.1 hC.2.1 dL_made_22 (by decide) ?_
    refine lv_bipush (v := (122 : Int32)) hC.1 hC.2.1 dL_made_23 (by decide) ?_
    obtain ⟨r8, M9, h7, hF⟩ := ob2S hF
    refine k_Vi (As := [.int (0 : Int32), .int (0 : Int32), .int (122 : Int32)]) (rest := []) hC hw (c_X6_put (M := M5) h7) RC_S yv_X6_put q3_158 ⟨rfl, rfl⟩ ⟨Nat.le_of_ble_eq_true rfl, Nat.le_of_ble_eq_true rfl⟩ ⟨Nat.zero_le _, Nat.zero_le _⟩ rfl rfl (Nat.le_of_ble_eq_true rfl) hl dL_made_25 (fun H locs hw => ?_)
    refine lv_sipush (v := (1032 : Int32)) hC.1 hC.2.1 dL_made_28 (by decide) ?_
    refine lv_icmp_ne (tgt := 58) hC.1 hC.2.1 dL_made_31 (by decide) (fun b10 => ?_) (fun b10 => ?_)
    · have hF := ifN hF b10
      refine lv_iconst (v := (0 : Int32)) hC.1 hC.2.1 dL_made_58 (by decide) ?_
      refine lv_istore_n (lv' := [(3, .int (0 : Int32)), (2, .int y2), (0, .ref (ad G 0)), (1, .ref (ad G 86))]) hC.1 hC.2.1 dL_made_59 rfl hl (by decide) rfl (fun ls hl => ?_)
      refine lv_iconst (v := (0 : Int32)) hC.1 hC.2.1 dL_made_60 (by decide) ?_
      refine lv_istore (lv' := [(4, .int (0 : Int32)), (3, .int (0 : Int32)), (2, .int y2), (0, .ref (ad G 0)), (1, .ref (ad G 86))]) hC.1 hC.2.1 dL_made_61 hl (by decide) rfl (fun ls hl => ?_)
      exact w_L_made_63 hC _ hF hw (lv_sub hl [3, 4, 1, 0] rfl)
    · have hF := ifP hF b10
      refine lv_aload_n hC.1 hC.2.1 dL_made_34 rfl (lv_at hl 1 rfl) ?_
      refine lv_iconst (v := (0 : Int32)) hC.1 hC.2.1 dL_made_35 (by decide) ?_
      refine lv_bipush (v := (9 : Int32)) hC.1 hC.2.1 dL_made_36 (by decide) ?_
      refine lv_bipush (v := (48 : Int32)) hC.1 hC.2.1 dL_made_38 (by decide) ?_
      refine lv_aload_n hC.1 hC.2.1 dL_made_40 rfl (lv_at hl 2 rfl) ?_
      refine lv_bipush (v := (32 : Int32)) hC.1 hC.2.1 dL_made_41 (by decide) ?_
      obtain ⟨n11, hF⟩ := ifO hF
      refine r_iald hC.1 hC.2.1 hw (rfl : kd 86 = 1) n11 dL_made_43 ?_
      refine lv_iadd hC.1 hC.2.1 dL_made_44 ?_
      obtain ⟨r13, M14, h12, hF⟩ := ob2S hF
      refine k_Vi (As := [.int (0 : Int32), .int (9 : Int32), .int ((48 : Int32) + (M9.1 86 (32 : Int32).toNatClampNeg))]) (rest := []) hC hw (c_X6_put (M := M9) h12) RC_S yv_X6_put q3_158 ⟨rfl, rfl⟩ ⟨Nat.le_of_ble_eq_true rfl, Nat.le_of_ble_eq_true rfl⟩ ⟨Nat.zero_le _, Nat.zero_le _⟩ rfl rfl (Nat.le_of_ble_eq_true rfl) hl dL_made_45 (fun H locs hw => ?_)
      refine lv_sipush (v := (1032 : Int32)) hC.1 hC.2.1 dL_made_48 (by decide) ?_
      refine lv_icmp_ne (tgt := 58) hC.1 hC.2.1 dL_made_51 (by decide) (fun b15 => ?_) (fun b15 => ?_)
      · have hF := ifN hF b15
        refine lv_iconst (v := (0 : Int32)) hC.1 hC.2.1 dL_made_58 (by decide) ?_
        refine lv_istore_n (lv' := [(3, .int (0 : Int32)), (2, .int y2), (0, .ref (ad G 0)), (1, .ref (ad G 86))]) hC.1 hC.2.1 dL_made_59 rfl hl (by decide) rfl (fun ls hl => ?_)
        refine lv_iconst (v := (0 : Int32)) hC.1 hC.2.1 dL_made_60 (by decide) ?_
        refine lv_istore (lv' := [(4, .int (0 : Int32)), (3, .int (0 : Int32)), (2, .int y2), (0, .ref (ad G 0)), (1, .ref (ad G 86))]) hC.1 hC.2.1 dL_made_61 hl (by decide) rfl (fun ls hl => ?_)
        exact w_L_made_63 hC _ hF hw (lv_sub hl [3, 4, 1, 0] rfl)
      · have hF := ifP hF b15
        refine lv_iconst (v := (1 : Int32)) hC.1 hC.2.1 dL_made_54 (by decide) ?_
        refine lv_goto (tgt := 59) hC.1 hC.2.1 dL_made_55 (by decide) ?_
        refine lv_istore_n (lv' := [(3, .int (1 : Int32)), (2, .int y2), (0, .ref (ad G 0)), (1, .ref (ad G 86))]) hC.1 hC.2.1 dL_made_59 rfl hl (by decide) rfl (fun ls hl => ?_)
        refine lv_iconst (v := (0 : Int32)) hC.1 hC.2.1 dL_made_60 (by decide) ?_
        refine lv_istore (lv' := [(4, .int (0 : Int32)), (3, .int (1 : Int32)), (2, .int y2), (0, .ref (ad G 0)), (1, .ref (ad G 86))]) hC.1 hC.2.1 dL_made_61 hl (by decide) rfl (fun ls hl => ?_)
        exact w_L_made_63 hC _ hF hw (lv_sub hl [3, 4, 1, 0] rfl)
