abbrev rm_X6_bribe : Room := { frames := 6, cells := 0, slots := 0, locals := 150 }
theorem yv_X6_bribe : YV yX6_bribe cX6_bribe 9 (some .int) 3 RX6 := ⟨⟨q3_129, q3_130, q1_1, q3_131⟩, by decide +kernel⟩
theorem dX6_bribe_0 : decode cX6_bribe 0 = .ok (.aload_n 0, 1) := by decide +kernel
theorem dX6_bribe_1 : decode cX6_bribe 1 = .ok (.iload_n 3, 1) := by decide +kernel
theorem dX6_bribe_2 : decode cX6_bribe 2 = .ok (.invokevirtual 78, 3) := by decide +kernel
theorem dX6_bribe_5 : decode cX6_bribe 5 = .ok (.astore 4, 2) := by decide +kernel
theorem dX6_bribe_7 : decode cX6_bribe 7 = .ok (.aload 4, 2) := by decide +kernel
theorem dX6_bribe_9 : decode cX6_bribe 9 = .ok (.ifnull 19, 3) := by decide +kernel
theorem dX6_bribe_12 : decode cX6_bribe 12 = .ok (.iload_n 1, 1) := by decide +kernel
theorem dX6_bribe_13 : decode cX6_bribe 13 = .ok (.ifCond .eq 8, 3) := by decide +kernel
theorem dX6_bribe_16 : decode cX6_bribe 16 = .ok (.iload_n 1, 1) := by decide +kernel
theorem dX6_bribe_17 : decode cX6_bribe 17 = .ok (.iconst 1, 1) := by decide +kernel
theorem dX6_bribe_18 : decode cX6_bribe 18 = .ok (.if_icmp .ne 10, 3) := by decide +kernel
theorem dX6_bribe_21 : decode cX6_bribe 21 = .ok (.iload_n 2, 1) := by decide +kernel
theorem dX6_bribe_22 : decode cX6_bribe 22 = .ok (.invokestatic 230, 3) := by decide +kernel
theorem dX6_bribe_25 : decode cX6_bribe 25 = .ok (.ifCond .ne 5, 3) := by decide +kernel
theorem dX6_bribe_28 : decode cX6_bribe 28 = .ok (.iconst (-1), 1) := by decide +kernel
theorem dX6_bribe_29 : decode cX6_bribe 29 = .ok (.ireturn, 1) := by decide +kernel
theorem dX6_bribe_30 : decode cX6_bribe 30 = .ok (.aload_n 0, 1) := by decide +kernel
theorem dX6_bribe_31 : decode cX6_bribe 31 = .ok (.getfield 24, 3) := by decide +kernel
theorem dX6_bribe_34 : decode cX6_bribe 34 = .ok (.getfield 152, 3) := by decide +kernel
theorem dX6_bribe_37 : decode cX6_bribe 37 = .ok (.ifCond .ne 6, 3) := by decide +kernel
theorem dX6_bribe_40 : decode cX6_bribe 40 = .ok (.bipush (-4), 2) := by decide +kernel
theorem dX6_bribe_42 : decode cX6_bribe 42 = .ok (.ireturn, 1) := by decide +kernel
theorem dX6_bribe_43 : decode cX6_bribe 43 = .ok (.iconst 0, 1) := by decide +kernel
theorem dX6_bribe_44 : decode cX6_bribe 44 = .ok (.istore 5, 2) := by decide +kernel
theorem dX6_bribe_46 : decode cX6_bribe 46 = .ok (.iload 5, 2) := by decide +kernel
theorem dX6_bribe_48 : decode cX6_bribe 48 = .ok (.aload_n 0, 1) := by decide +kernel
theorem dX6_bribe_49 : decode cX6_bribe 49 = .ok (.getfield 24, 3) := by decide +kernel
theorem dX6_bribe_52 : decode cX6_bribe 52 = .ok (.getfield 152, 3) := by decide +kernel
theorem dX6_bribe_55 : decode cX6_bribe 55 = .ok (.if_icmp .ge 49, 3) := by decide +kernel
theorem dX6_bribe_58 : decode cX6_bribe 58 = .ok (.aload_n 0, 1) := by decide +kernel
theorem dX6_bribe_59 : decode cX6_bribe 59 = .ok (.getfield 67, 3) := by decide +kernel
theorem dX6_bribe_62 : decode cX6_bribe 62 = .ok (.iload 5, 2) := by decide +kernel
theorem dX6_bribe_64 : decode cX6_bribe 64 = .ok (.aload_n 0, 1) := by decide +kernel
theorem dX6_bribe_65 : decode cX6_bribe 65 = .ok (.getfield 24, 3) := by decide +kernel
theorem dX6_bribe_68 : decode cX6_bribe 68 = .ok (.iload 5, 2) := by decide +kernel
theorem dX6_bribe_70 : decode cX6_bribe 70 = .ok (.iload_n 2, 1) := by decide +kernel
theorem dX6_bribe_71 : decode cX6_bribe 71 = .ok (.iconst 1, 1) := by decide +kernel
theorem dX6_bribe_72 : decode cX6_bribe 72 = .ok (.invokevirtual 262, 3) := by decide +kernel
theorem dX6_bribe_75 : decode cX6_bribe 75 = .ok (.invokestatic 105, 3) := by decide +kernel
theorem dX6_bribe_78 : decode cX6_bribe 78 = .ok (.aload_n 0, 1) := by decide +kernel
theorem dX6_bribe_79 : decode cX6_bribe 79 = .ok (.getfield 70, 3) := by decide +kernel
theorem dX6_bribe_82 : decode cX6_bribe 82 = .ok (.iload 5, 2) := by decide +kernel
theorem dX6_bribe_84 : decode cX6_bribe 84 = .ok (.aload_n 0, 1) := by decide +kernel
theorem dX6_bribe_85 : decode cX6_bribe 85 = .ok (.getfield 24, 3) := by decide +kernel
theorem dX6_bribe_88 : decode cX6_bribe 88 = .ok (.iload 5, 2) := by decide +kernel
theorem dX6_bribe_90 : decode cX6_bribe 90 = .ok (.iload_n 2, 1) := by decide +kernel
theorem dX6_bribe_91 : decode cX6_bribe 91 = .ok (.iconst 0, 1) := by decide +kernel
theorem dX6_bribe_92 : decode cX6_bribe 92 = .ok (.invokevirtual 262, 3) := by decide +kernel
theorem dX6_bribe_95 : decode cX6_bribe 95 = .ok (.invokestatic 105, 3) := by decide +kernel
theorem dX6_bribe_98 : decode cX6_bribe 98 = .ok (.iinc 5 1, 3) := by decide +kernel
theorem dX6_bribe_101 : decode cX6_bribe 101 = .ok (.goto (-55), 3) := by decide +kernel
theorem dX6_bribe_104 : decode cX6_bribe 104 = .ok (.bipush (-9), 2) := by decide +kernel
theorem dX6_bribe_106 : decode cX6_bribe 106 = .ok (.istore 5, 2) := by decide +kernel
theorem dX6_bribe_108 : decode cX6_bribe 108 = .ok (.iconst 0, 1) := by decide +kernel
theorem dX6_bribe_109 : decode cX6_bribe 109 = .ok (.istore 6, 2) := by decide +kernel
theorem dX6_bribe_111 : decode cX6_bribe 111 = .ok (.iconst 0, 1) := by decide +kernel
theorem dX6_bribe_112 : decode cX6_bribe 112 = .ok (.istore 7, 2) := by decide +kernel
theorem dX6_bribe_114 : decode cX6_bribe 114 = .ok (.iload 7, 2) := by decide +kernel
theorem dX6_bribe_116 : decode cX6_bribe 116 = .ok (.iconst 1, 1) := by decide +kernel
theorem dX6_bribe_117 : decode cX6_bribe 117 = .ok (.aload_n 0, 1) := by decide +kernel
theorem dX6_bribe_118 : decode cX6_bribe 118 = .ok (.getfield 24, 3) := by decide +kernel
theorem dX6_bribe_121 : decode cX6_bribe 121 = .ok (.getfield 152, 3) := by decide +kernel
theorem dX6_bribe_124 : decode cX6_bribe 124 = .ok (.ishl, 1) := by decide +kernel
theorem dX6_bribe_125 : decode cX6_bribe 125 = .ok (.if_icmp .ge 68, 3) := by decide +kernel
theorem dX6_bribe_128 : decode cX6_bribe 128 = .ok (.aload_n 0, 1) := by decide +kernel
theorem dX6_bribe_129 : decode cX6_bribe 129 = .ok (.iload 7, 2) := by decide +kernel
theorem dX6_bribe_131 : decode cX6_bribe 131 = .ok (.invokevirtual 266, 3) := by decide +kernel
theorem dX6_bribe_134 : decode cX6_bribe 134 = .ok (.istore 8, 2) := by decide +kernel
theorem dX6_bribe_136 : decode cX6_bribe 136 = .ok (.iload 8, 2) := by decide +kernel
theorem dX6_bribe_138 : decode cX6_bribe 138 = .ok (.bipush (-9), 2) := by decide +kernel
theorem dX6_bribe_140 : decode cX6_bribe 140 = .ok (.if_icmp .eq 47, 3) := by decide +kernel
theorem dX6_bribe_143 : decode cX6_bribe 143 = .ok (.iload 5, 2) := by decide +kernel
theorem dX6_bribe_145 : decode cX6_bribe 145 = .ok (.bipush (-9), 2) := by decide +kernel
theorem dX6_bribe_147 : decode cX6_bribe 147 = .ok (.if_icmp .eq 10, 3) := by decide +kernel
theorem dX6_bribe_150 : decode cX6_bribe 150 = .ok (.iload 8, 2) := by decide +kernel
theorem dX6_bribe_152 : decode cX6_bribe 152 = .ok (.iload 5, 2) := by decide +kernel
theorem dX6_bribe_154 : decode cX6_bribe 154 = .ok (.if_icmp .ge 33, 3) := by decide +kernel
theorem dX6_bribe_157 : decode cX6_bribe 157 = .ok (.aload_n 0, 1) := by decide +kernel
theorem dX6_bribe_158 : decode cX6_bribe 158 = .ok (.getfield 24, 3) := by decide +kernel
theorem dX6_bribe_161 : decode cX6_bribe 161 = .ok (.iload 7, 2) := by decide +kernel
theorem dX6_bribe_163 : decode cX6_bribe 163 = .ok (.invokevirtual 246, 3) := by decide +kernel
theorem dX6_bribe_166 : decode cX6_bribe 166 = .ok (.iload_n 1, 1) := by decide +kernel
theorem dX6_bribe_167 : decode cX6_bribe 167 = .ok (.iconst 1, 1) := by decide +kernel
theorem dX6_bribe_168 : decode cX6_bribe 168 = .ok (.if_icmp .ne 7, 3) := by decide +kernel
theorem dX6_bribe_171 : decode cX6_bribe 171 = .ok (.iconst 1, 1) := by decide +kernel
theorem dX6_bribe_172 : decode cX6_bribe 172 = .ok (.goto 4, 3) := by decide +kernel
theorem dX6_bribe_175 : decode cX6_bribe 175 = .ok (.iconst 0, 1) := by decide +kernel
theorem dX6_bribe_176 : decode cX6_bribe 176 = .ok (.if_icmp .ne 11, 3) := by decide +kernel
theorem dX6_bribe_179 : decode cX6_bribe 179 = .ok (.iload 8, 2) := by decide +kernel
theorem dX6_bribe_181 : decode cX6_bribe 181 = .ok (.istore 5, 2) := by decide +kernel
theorem dX6_bribe_183 : decode cX6_bribe 183 = .ok (.iload 7, 2) := by decide +kernel
theorem dX6_bribe_185 : decode cX6_bribe 185 = .ok (.istore 6, 2) := by decide +kernel
theorem dX6_bribe_187 : decode cX6_bribe 187 = .ok (.iinc 7 1, 3) := by decide +kernel
theorem dX6_bribe_190 : decode cX6_bribe 190 = .ok (.goto (-76), 3) := by decide +kernel
theorem dX6_bribe_193 : decode cX6_bribe 193 = .ok (.iload 5, 2) := by decide +kernel
theorem dX6_bribe_195 : decode cX6_bribe 195 = .ok (.bipush (-9), 2) := by decide +kernel
theorem dX6_bribe_197 : decode cX6_bribe 197 = .ok (.if_icmp .ne 6, 3) := by decide +kernel
theorem dX6_bribe_200 : decode cX6_bribe 200 = .ok (.bipush (-9), 2) := by decide +kernel
theorem dX6_bribe_202 : decode cX6_bribe 202 = .ok (.ireturn, 1) := by decide +kernel
theorem dX6_bribe_203 : decode cX6_bribe 203 = .ok (.iconst 0, 1) := by decide +kernel
theorem dX6_bribe_204 : decode cX6_bribe 204 = .ok (.istore 7, 2) := by decide +kernel
theorem dX6_bribe_206 : decode cX6_bribe 206 = .ok (.iload 7, 2) := by decide +kernel
theorem dX6_bribe_208 : decode cX6_bribe 208 = .ok (.aload_n 0, 1) := by decide +kernel
theorem dX6_bribe_209 : decode cX6_bribe 209 = .ok (.getfield 24, 3) := by decide +kernel
theorem dX6_bribe_212 : decode cX6_bribe 212 = .ok (.getfield 152, 3) := by decide +kernel
theorem dX6_bribe_215 : decode cX6_bribe 215 = .ok (.if_icmp .ge 26, 3) := by decide +kernel
theorem dX6_bribe_218 : decode cX6_bribe 218 = .ok (.aload_n 0, 1) := by decide +kernel
theorem dX6_bribe_219 : decode cX6_bribe 219 = .ok (.getfield 64, 3) := by decide +kernel
theorem dX6_bribe_222 : decode cX6_bribe 222 = .ok (.iload 7, 2) := by decide +kernel
theorem dX6_bribe_224 : decode cX6_bribe 224 = .ok (.aload_n 0, 1) := by decide +kernel
theorem dX6_bribe_225 : decode cX6_bribe 225 = .ok (.iload 6, 2) := by decide +kernel
theorem dX6_bribe_227 : decode cX6_bribe 227 = .ok (.iload 7, 2) := by decide +kernel
theorem dX6_bribe_229 : decode cX6_bribe 229 = .ok (.invokevirtual 269, 3) := by decide +kernel
theorem dX6_bribe_232 : decode cX6_bribe 232 = .ok (.invokestatic 105, 3) := by decide +kernel
theorem dX6_bribe_235 : decode cX6_bribe 235 = .ok (.iinc 7 1, 3) := by decide +kernel
theorem dX6_bribe_238 : decode cX6_bribe 238 = .ok (.goto (-32), 3) := by decide +kernel
theorem dX6_bribe_241 : decode cX6_bribe 241 = .ok (.aload 4, 2) := by decide +kernel
theorem dX6_bribe_243 : decode cX6_bribe 243 = .ok (.aload_n 0, 1) := by decide +kernel
theorem dX6_bribe_244 : decode cX6_bribe 244 = .ok (.getfield 64, 3) := by decide +kernel
theorem dX6_bribe_247 : decode cX6_bribe 247 = .ok (.aload_n 0, 1) := by decide +kernel
theorem dX6_bribe_248 : decode cX6_bribe 248 = .ok (.getfield 24, 3) := by decide +kernel
theorem dX6_bribe_251 : decode cX6_bribe 251 = .ok (.getfield 152, 3) := by decide +kernel
theorem dX6_bribe_254 : decode cX6_bribe 254 = .ok (.invokevirtual 258, 3) := by decide +kernel
theorem dX6_bribe_257 : decode cX6_bribe 257 = .ok (.iload 5, 2) := by decide +kernel
theorem dX6_bribe_259 : decode cX6_bribe 259 = .ok (.ireturn, 1) := by decide +kernel
def F_X6_bribe_176 (fu : Nat) (k114 : Mm → Int32 → Nat → Int32 → Int32 → Int32 → Option (Int32 × Mm)) (M : Mm) (x1 : Int32) (c4 : Nat) (x5 : Int32) (x6 : Int32) (x7 : Int32) (x8 : Int32) (t0 : Int32) (t1 : Int32) : Option (Int32 × Mm) :=
  if t0 = t1 then
    k114 M x1 c4 x8 x7 (x7 + (1 : Int32))
  else
    k114 M x1 c4 x5 x6 (x7 + (1 : Int32))
set_option maxRecDepth 100000 in
set_option maxHeartbeats 4000000 in
theorem w_X6_bribe_176 {p : Program} {l : Launch} {e : Env} {s : State} {m : MethodId} {args : Array Value} {below : List Frame} {meth : Method} {c : Code} {G : Gv} (hC : Cx p s m args meth c cX6_bribe 9 (some .int) RX6) {fu : Nat} {r : Int32} {M' : Mm} {k114 : Mm → Int32 → Nat → Int32 → Int32 → Int32 → Option (Int32 × Mm)} (hk_114 : ∀ {x1 : Int32} {c4 : Nat} {x5 : Int32} {x6 : Int32} {x7 : Int32} {M : Mm} {H : Heap} {locs : List Loc} {ls : Array Slot} (hk4 : kd c4 = 12), k114 M x1 c4 x5 x6 x7 = some (r, M') → St G s H locs M → lv_has ls 9 [(0, .ref (ad G 0)), (1, .int x1), (4, .ref (ad G c4)), (5, .int x5), (6, .int x6), (7, .int x7)] → W p l e rm_X6_bribe s m args below meth c H locs 0 0 (MQ below (QI G r M') args s 0 0 (zA G)) (F0 m 114 ls [])) {x1 : Int32} {c4 : Nat} {x5 : Int32} {x6 : Int32} {x7 : Int32} {x8 : Int32} {t0 : Int32} {t1 : Int32} {M : Mm} {H : Heap} {locs : List Loc} {ls : Array Slot} (hk4 : kd c4 = 12) (hF : F_X6_bribe_176 fu k114 M x1 c4 x5 x6 x7 x8 t0 t1 = some (r, M')) (hw : St G s H locs M) (hl : lv_has ls 9 [(0, .ref (ad G 0)), (1, .int x1), (4, .ref (ad G c4)), (5, .int x5), (6, .int x6), (7, .int x7), (8, .int x8)]) : W p l e rm_X6_bribe s m args below meth c H locs 0 0 (MQ below (QI G r M') args s 0 0 (zA G)) (F0 m 176 ls [.int t1, .int t0]) := by
  unfold F_X6_bribe_176 at hF
  refine lv_icmp_ne (tgt := 187) hC.1 hC.2.1 dX6_bribe_176 (by decide) (fun b1 => ?_) (fun b1 => ?_)
  · have hF := ifN hF b1
    refine lv_iinc (v := (x7 + (1 : Int32))) (lv' := [(7, .int (x7 + (1 : Int32))), (0, .ref (ad G 0)), (1, .int x1), (4, .ref (ad G c4)), (5, .int x5), (6, .int x6), (8, .int x8)]) hC.1 hC.2.1 dX6_bribe_187 hl (k := 5) rfl rfl (by decide) rfl (fun ls hl => ?_)
    refine lv_goto (tgt := 114) hC.1 hC.2.1 dX6_bribe_190 (by decide) ?_
    exact hk_114 hk4 hF hw (lv_sub hl [1, 2, 3, 4, 5, 0] rfl)
  · have hF := ifP hF b1
    refine lv_iload hC.1 hC.2.1 dX6_bribe_179 (lv_at hl 6 rfl) ?_
    refine lv_istore (lv' := [(5, .int x8), (0, .ref (ad G 0)), (1, .int x1), (4, .ref (ad G c4)), (6, .int x6), (7, .int x7), (8, .int x8)]) hC.1 hC.2.1 dX6_bribe_181 hl (by decide) rfl (fun ls hl => ?_)
    refine lv_iload hC.1 hC.2.1 dX6_bribe_183 (lv_at hl 5 rfl) ?_
    refine lv_istore (lv' := [(6, .int x7), (5, .int x8), (0, .ref (ad G 0)), (1, .int x1), (4, .ref (ad G c4)), (7, .int x7), (8, .int x8)]) hC.1 hC.2.1 dX6_bribe_185 hl (by decide) rfl (fun ls hl => ?_)
    refine lv_iinc (v := (x7 + (1 : Int32))) (lv' := [(7, .int (x7 + (1 : Int32))), (6, .int x7), (5, .int x8), (0, .ref (ad G 0)), (1, .int x1), (4, .ref (ad G c4)), (8, .int x8)]) hC.1 hC.2.1 dX6_bribe_187 hl (k := 5) rfl rfl (by decide) rfl (fun ls hl => ?_)
    refine lv_goto (tgt := 114) hC.1 hC.2.1 dX6_bribe_190 (by decide) ?_
    exact hk_114 hk4 hF hw (lv_sub hl [3, 4, 5, 2, 1, 0] rfl)
def F_X6_bribe_157 (fu : Nat) (k114 : Mm → Int32 → Nat → Int32 → Int32 → Int32 → Option (Int32 × Mm)) (M : Mm) (x1 : Int32) (c4 : Nat) (x5 : Int32) (x6 : Int32) (x7 : Int32) (x8 : Int32) : Option (Int32 × Mm) :=
  ob1 (F_X2_isCarriedBy fu M 24 x7) (fun r2 =>
  if x1 = (1 : Int32) then
    F_X6_bribe_176 fu k114 M x1 c4 x5 x6 x7 x8 r2 (1 : Int32)
  else
    F_X6_bribe_176 fu k114 M x1 c4 x5 x6 x7 x8 r2 (0 : Int32))
set_option maxRecDepth 100000 in
set_option maxHeartbeats 4000000 in
theorem w_X6_bribe_157 {p : Program} {l : Launch} {e : Env} {s : State} {m : MethodId} {args : Array Value} {below : List Frame} {meth : Method} {c : Code} {G : Gv} (hC : Cx p s m args meth c cX6_bribe 9 (some .int) RX6) {fu : Nat} {r : Int32} {M' : Mm} {k114 : Mm → Int32 → Nat → Int32 → Int32 → Int32 → Option (Int32 × Mm)} (hk_114 : ∀ {x1 : Int32} {c4 : Nat} {x5 : Int32} {x6 : Int32} {x7 : Int32} {M : Mm} {H : Heap} {locs : List Loc} {ls : Array Slot} (hk4 : kd c4 = 12), k114 M x1 c4 x5 x6 x7 = some (r, M') → St G s H locs M → lv_has ls 9 [(0, .ref (ad G 0)), (1, .int x1), (4, .ref (ad G c4)), (5, .int x5), (6, .int x6), (7, .int x7)] → W p l e rm_X6_bribe s m args below meth c H locs 0 0 (MQ below (QI G r M') args s 0 0 (zA G)) (F0 m 114 ls [])) {x1 : Int32} {c4 : Nat} {x5 : Int32} {x6 : Int32} {x7 : Int32} {x8 : Int32} {M : Mm} {H : Heap} {locs : List Loc} {ls : Array Slot} (hk4 : kd c4 = 12) (hF : F_X6_bribe_157 fu k114 M x1 c4 x5 x6 x7 x8 = some (r, M')) (hw : St G s H locs M) (hl : lv_has ls 9 [(0, .ref (ad G 0)), (1, .int x1), (4, .ref (ad G c4)), (5, .int x5), (6, .int x6), (7, .int x7), (8, .int x8)]) : W p l e rm_X6_bribe s m args below meth c H locs 0 0 (MQ below (QI G r M') args s 0 0 (zA G)) (F0 m 157 ls []) := by
  unfold F_X6_bribe_157 at hF
  refine lv_aload_n hC.1 hC.2.1 dX6_bribe_157 rfl (lv_at hl 0 rfl) ?_
  refine g6_north hC hw q1_202 dX6_bribe_158 ?_
  refine lv_iload hC.1 hC.2.1 dX6_bribe_161 (lv_at hl 5 rfl) ?_
  obtain ⟨r2, h1, hF⟩ := ob1S hF
  refine k_Vi (As := [.int x7]) (rest := []) hC hw (c_X2_isCarriedBy (M := M) (rfl : kd 24 = 11) h1) (RC_N (rfl : kd 24 = 11)) yv_X2_isCarriedBy q3_93 ⟨rfl, rfl⟩ ⟨Nat.le_of_ble_eq_true rfl, Nat.le_of_ble_eq_true rfl⟩ ⟨Nat.zero_le _, Nat.zero_le _⟩ rfl rfl (Nat.le_of_ble_eq_true rfl) hl dX6_bribe_163 (fun H locs hw => ?_)
  refine lv_iload_n hC.1 hC.2.1 dX6_bribe_166 rfl (lv_at hl 1 rfl) ?_
  refine lv_iconst (v := (1 : Int32)) hC.1 hC.2.1 dX6_bribe_167 (by decide) ?_
  refine lv_icmp_ne (tgt := 175) hC.1 hC.2.1 dX6_bribe_168 (by decide) (fun b3 => ?_) (fun b3 => ?_)
  · have hF := ifN hF b3
    refine lv_iconst (v := (0 : Int32)) hC.1 hC.2.1 dX6_bribe_175 (by decide) ?_
    exact w_X6_bribe_176 hC (hk_114 := hk_114) hk4 hF hw (lv_sub hl [0, 1, 2, 3, 4, 5, 6] rfl)
  · have hF := ifP hF b3
    refine lv_iconst (v := (1 : Int32)) hC.1 hC.2.1 dX6_bribe_171 (by decide) ?_
    refine lv_goto (tgt := 176) hC.1 hC.2.1 dX6_bribe_172 (by decide) ?_
    exact w_X6_bribe_176 hC (hk_114 := hk_114) hk4 hF hw (lv_sub hl [0, 1, 2, 3, 4, 5, 6] rfl)
def F_X6_bribe_206 (fu : Nat) : Nat → Mm → Nat → Int32 → Int32 → Int32 → Option (Int32 × Mm)
  | 0, _, _, _, _, _ => none
  | n + 1, M, c4, x5, x6, x7 =>
    if (M.1 24 0) ≤ x7 then
      ob1 (F_X4_take fu M c4 82 (M.1 24 0)) (fun M3 =>
      some (x5, M3))
    else
      ob1 (F_X6_shadeByVoters fu M x6 x7) (fun r5 =>
      ob1 (F_X6_write fu M 82 x7 r5) (fun M7 =>
      F_X6_bribe_206 fu n M7 c4 x5 x6 (x7 + (1 : Int32))))
set_option maxRecDepth 100000 in
set_option maxHeartbeats 4000000 in
theorem w_X6_bribe_206 {p : Program} {l : Launch} {e : Env} {s : State} {m : MethodId} {args : Array Value} {below : List Frame} {meth : Method} {c : Code} {G : Gv} (hC : Cx p s m args meth c cX6_bribe 9 (some .int) RX6) {fu : Nat} {r : Int32} {M' : Mm} : ∀ (n : Nat) {c4 : Nat} {x5 : Int32} {x6 : Int32} {x7 : Int32} {M : Mm} {H : Heap} {locs : List Loc} {ls : Array Slot} (hk4 : kd c4 = 12), F_X6_bribe_206 fu n M c4 x5 x6 x7 = some (r, M') → St G s H locs M → lv_has ls 9 [(0, .ref (ad G 0)), (4, .ref (ad G c4)), (5, .int x5), (6, .int x6), (7, .int x7)] → W p l e rm_X6_bribe s m args below meth c H locs 0 0 (MQ below (QI G r M') args s 0 0 (zA G)) (F0 m 206 ls []) := by
  intro n
  induction n with
  | zero =>
    intro c4 x5 x6 x7 M H locs ls hk4 hF hw hl
    cases hF
  | succ n ih =>
    intro c4 x5 x6 x7 M H locs ls hk4 hF hw hl
    unfold F_X6_bribe_206 at hF
    refine lv_iload hC.1 hC.2.1 dX6_bribe_206 (lv_at hl 4 rfl) ?_
    refine lv_aload_n hC.1 hC.2.1 dX6_bribe_208 rfl (lv_at hl 0 rfl) ?_
    refine g6_north hC hw q1_202 dX6_bribe_209 ?_
    refine g2_men hC hw (rfl : kd 24 = 11) q1_32 dX6_bribe_212 ?_
    refine lv_icmp_ge (tgt := 241) hC.1 hC.2.1 dX6_bribe_215 (by decide) (fun b1 => ?_) (fun b1 => ?_)
    · have hF := ifP hF b1
      refine lv_aload hC.1 hC.2.1 dX6_bribe_241 (lv_at hl 1 rfl) ?_
      refine lv_aload_n hC.1 hC.2.1 dX6_bribe_243 rfl (lv_at hl 0 rfl) ?_
      refine g6_plan hC hw q1_213 dX6_bribe_244 ?_
      refine lv_aload_n hC.1 hC.2.1 dX6_bribe_247 rfl (lv_at hl 0 rfl) ?_
      refine g6_north hC hw q1_202 dX6_bribe_248 ?_
      refine g2_men hC hw (rfl : kd 24 = 11) q1_32 dX6_bribe_251 ?_
      obtain ⟨M3, h2, hF⟩ := ob1S hF
      refine k_Vv (As := [.ref (ad G 82), .int (M.1 24 0)]) (rest := []) hC hw (c_X4_take (M := M) hk4 (rfl : kd 82 = 1) h2) (RC_R hk4) yv_X4_take q3_123 ⟨rfl, rfl⟩ ⟨Nat.le_of_ble_eq_true rfl, Nat.le_of_ble_eq_true rfl⟩ ⟨Nat.zero_le _, Nat.zero_le _⟩ rfl rfl (Nat.le_of_ble_eq_true rfl) hl dX6_bribe_254 (fun H locs hw => ?_)
      refine lv_iload hC.1 hC.2.1 dX6_bribe_257 (lv_at hl 2 rfl) ?_
      exact r_iretE hC hw hF dX6_bribe_259
    · have hF := ifN hF b1
      refine lv_aload_n hC.1 hC.2.1 dX6_bribe_218 rfl (lv_at hl 0 rfl) ?_
      refine g6_plan hC hw q1_213 dX6_bribe_219 ?_
      refine lv_iload hC.1 hC.2.1 dX6_bribe_222 (lv_at hl 4 rfl) ?_
      refine lv_aload_n hC.1 hC.2.1 dX6_bribe_224 rfl (lv_at hl 0 rfl) ?_
      refine lv_iload hC.1 hC.2.1 dX6_bribe_225 (lv_at hl 3 rfl) ?_
      refine lv_iload hC.1 hC.2.1 dX6_bribe_227 (lv_at hl 4 rfl) ?_
      obtain ⟨r5, h4, hF⟩ := ob1S hF
      refine k_Vi (As := [.int x6, .int x7]) (rest := [.int x7, .ref (ad G 82)]) hC hw (c_X6_shadeByVoters (M := M) h4) RC_S yv_X6_shadeByVoters q3_140 ⟨rfl, rfl⟩ ⟨Nat.le_of_ble_eq_true rfl, Nat.le_of_ble_eq_true rfl⟩ ⟨Nat.zero_le _, Nat.zero_le _⟩ rfl rfl (Nat.le_of_ble_eq_true rfl) hl dX6_bribe_229 (fun H locs hw => ?_)
      obtain ⟨M7, h6, hF⟩ := ob1S hF
      refine k_Sv (As := [.ref (ad G 82), .int x7, .int r5]) (rest := []) hC hw (c_X6_write (M := M) (rfl : kd 82 = 1) h6) ys_X6_write q2_27 ⟨rfl, rfl⟩ ⟨Nat.le_of_ble_eq_true rfl, Nat.le_of_ble_eq_true rfl⟩ ⟨Nat.zero_le _, Nat.zero_le _⟩ rfl rfl (Nat.le_of_ble_eq_true rfl) hl dX6_bribe_232 (fun H locs hw => ?_)
      refine lv_iinc (v := (x7 + (1 : Int32))) (lv' := [(7, .int (x7 + (1 : Int32))), (0, .ref (ad G 0)), (4, .ref (ad G c4)), (5, .int x5), (6, .int x6)]) hC.1 hC.2.1 dX6_bribe_235 hl (k := 4) rfl rfl (by decide) rfl (fun ls hl => ?_)
      refine lv_goto (tgt := 206) hC.1 hC.2.1 dX6_bribe_238 (by decide) ?_
      exact ih hk4 hF hw (lv_sub hl [1, 2, 3, 4, 0] rfl)
def F_X6_bribe_114 (fu : Nat) : Nat → Mm → Int32 → Nat → Int32 → Int32 → Int32 → Option (Int32 × Mm)
  | 0, _, _, _, _, _, _ => none
  | n + 1, M, x1, c4, x5, x6, x7 =>
    if ((1 : Int32) <<< ((M.1 24 0) &&& 31)) ≤ x7 then
      if x5 = (-9 : Int32) then
        some ((-9 : Int32), M)
      else
        F_X6_bribe_206 fu fu M c4 x5 x6 (0 : Int32)
    else
      ob1 (F_X6_costOfVoters fu M x7) (fun r4 =>
      if r4 = (-9 : Int32) then
        F_X6_bribe_114 fu n M x1 c4 x5 x6 (x7 + (1 : Int32))
      else
        if x5 = (-9 : Int32) then
          F_X6_bribe_157 fu (F_X6_bribe_114 fu n) M x1 c4 x5 x6 x7 r4
        else
          if x5 ≤ r4 then
            F_X6_bribe_114 fu n M x1 c4 x5 x6 (x7 + (1 : Int32))
          else
            F_X6_bribe_157 fu (F_X6_bribe_114 fu n) M x1 c4 x5 x6 x7 r4)
set_option maxRecDepth 100000 in
set_option maxHeartbeats 4000000 in
theorem w_X6_bribe_114 {p : Program} {l : Launch} {e : Env} {s : State} {m : MethodId} {args : Array Value} {below : List Frame} {meth : Method} {c : Code} {G : Gv} (hC : Cx p s m args meth c cX6_bribe 9 (some .int) RX6) {fu : Nat} {r : Int32} {M' : Mm} : ∀ (n : Nat) {x1 : Int32} {c4 : Nat} {x5 : Int32} {x6 : Int32} {x7 : Int32} {M : Mm} {H : Heap} {locs : List Loc} {ls : Array Slot} (hk4 : kd c4 = 12), F_X6_bribe_114 fu n M x1 c4 x5 x6 x7 = some (r, M') → St G s H locs M → lv_has ls 9 [(0, .ref (ad G 0)), (1, .int x1), (4, .ref (ad G c4)), (5, .int x5), (6, .int x6), (7, .int x7)] → W p l e rm_X6_bribe s m args below meth c H locs 0 0 (MQ below (QI G r M') args s 0 0 (zA G)) (F0 m 114 ls []) := by
  intro n
  induction n with
  | zero =>
    intro x1 c4 x5 x6 x7 M H locs ls hk4 hF hw hl
    cases hF
  | succ n ih =>
    intro x1 c4 x5 x6 x7 M H locs ls hk4 hF hw hl
    unfold F_X6_bribe_114 at hF
    refine lv_iload hC.1 hC.2.1 dX6_bribe_114 (lv_at hl 5 rfl) ?_
    refine lv_iconst (v := (1 : Int32)) hC.1 hC.2.1 dX6_bribe_116 (by decide) ?_
    refine lv_aload_n hC.1 hC.2.1 dX6_bribe_117 rfl (lv_at hl 0 rfl) ?_
    refine g6_north hC hw q1_202 dX6_bribe_118 ?_
    refine g2_men hC hw (rfl : kd 24 = 11) q1_32 dX6_bribe_121 ?_
    refine lv_ishl hC.1 hC.2.1 dX6_bribe_124 ?_
    refine lv_icmp_ge (tgt := 193) hC.1 hC.2.1 dX6_bribe_125 (by decide) (fun b1 => ?_) (fun b1 => ?_)
    · have hF := ifP hF b1
      refine lv_iload hC.1 hC.2.1 dX6_bribe_193 (lv_at hl 3 rfl) ?_
      refine lv_bipush (v := (-9 : Int32)) hC.1 hC.2.1 dX6_bribe_195 (by decide) ?_
      refine lv_icmp_ne (tgt := 203) hC.1 hC.2.1 dX6_bribe_197 (by decide) (fun b2 => ?_) (fun b2 => ?_)
      · have hF := ifN hF b2
        refine lv_iconst (v := (0 : Int32)) hC.1 hC.2.1 dX6_bribe_203 (by decide) ?_
        refine lv_istore (lv' := [(7, .int (0 : Int32)), (0, .ref (ad G 0)), (1, .int x1), (4, .ref (ad G c4)), (5, .int x5), (6, .int x6)]) hC.1 hC.2.1 dX6_bribe_204 hl (by decide) rfl (fun ls hl => ?_)
        exact w_X6_bribe_206 hC _ hk4 hF hw (lv_sub hl [1, 3, 4, 5, 0] rfl)
      · have hF := ifP hF b2
        refine lv_bipush (v := (-9 : Int32)) hC.1 hC.2.1 dX6_bribe_200 (by decide) ?_
        exact r_iretE hC hw hF dX6_bribe_202
    · have hF := ifN hF b1
      refine lv_aload_n hC.1 hC.2.1 dX6_bribe_128 rfl (lv_at hl 0 rfl) ?_
      refine lv_iload hC.1 hC.2.1 dX6_bribe_129 (lv_at hl 5 rfl) ?_
      obtain ⟨r4, h3, hF⟩ := ob1S hF
      refine k_Vi (As := [.int x7]) (rest := []) hC hw (c_X6_costOfVoters (M := M) h3) RC_S yv_X6_costOfVoters q3_136 ⟨rfl, rfl⟩ ⟨Nat.le_of_ble_eq_true rfl, Nat.le_of_ble_eq_true rfl⟩ ⟨Nat.zero_le _, Nat.zero_le _⟩ rfl rfl (Nat.le_of_ble_eq_true rfl) hl dX6_bribe_131 (fun H locs hw => ?_)
      refine lv_istore (lv' := [(8, .int r4), (0, .ref (ad G 0)), (1, .int x1), (4, .ref (ad G c4)), (5, .int x5), (6, .int x6), (7, .int x7)]) hC.1 hC.2.1 dX6_bribe_134 hl (by decide) rfl (fun ls hl => ?_)
      refine lv_iload hC.1 hC.2.1 dX6_bribe_136 (lv_at hl 0 rfl) ?_
      refine lv_bipush (v := (-9 : Int32)) hC.1 hC.2.1 dX6_bribe_138 (by decide) ?_
      refine lv_icmp_eq (tgt := 187) hC.1 hC.2.1 dX6_bribe_140 (by decide) (fun b5 => ?_) (fun b5 => ?_)
      · have hF := ifP hF b5
        refine lv_iinc (v := (x7 + (1 : Int32))) (lv' := [(7, .int (x7 + (1 : Int32))), (8, .int r4), (0, .ref (ad G 0)), (1, .int x1), (4, .ref (ad G c4)), (5, .int x5), (6, .int x6)]) hC.1 hC.2.1 dX6_bribe_187 hl (k := 6) rfl rfl (by decide) rfl (fun ls hl => ?_)
        refine lv_goto (tgt := 114) hC.1 hC.2.1 dX6_bribe_190 (by decide) ?_
        exact ih hk4 hF hw (lv_sub hl [2, 3, 4, 5, 6, 0] rfl)
      · have hF := ifN hF b5
        refine lv_iload hC.1 hC.2.1 dX6_bribe_143 (lv_at hl 4 rfl) ?_
        refine lv_bipush (v := (-9 : Int32)) hC.1 hC.2.1 dX6_bribe_145 (by decide) ?_
        refine lv_icmp_eq (tgt := 157) hC.1 hC.2.1 dX6_bribe_147 (by decide) (fun b6 => ?_) (fun b6 => ?_)
        · have hF := ifP hF b6
          exact w_X6_bribe_157 hC (hk_114 := ih) hk4 hF hw (lv_sub hl [1, 2, 3, 4, 5, 6, 0] rfl)
        · have hF := ifN hF b6
          refine lv_iload hC.1 hC.2.1 dX6_bribe_150 (lv_at hl 0 rfl) ?_
          refine lv_iload hC.1 hC.2.1 dX6_bribe_152 (lv_at hl 4 rfl) ?_
          refine lv_icmp_ge (tgt := 187) hC.1 hC.2.1 dX6_bribe_154 (by decide) (fun b7 => ?_) (fun b7 => ?_)
          · have hF := ifP hF b7
            refine lv_iinc (v := (x7 + (1 : Int32))) (lv' := [(7, .int (x7 + (1 : Int32))), (8, .int r4), (0, .ref (ad G 0)), (1, .int x1), (4, .ref (ad G c4)), (5, .int x5), (6, .int x6)]) hC.1 hC.2.1 dX6_bribe_187 hl (k := 6) rfl rfl (by decide) rfl (fun ls hl => ?_)
            refine lv_goto (tgt := 114) hC.1 hC.2.1 dX6_bribe_190 (by decide) ?_
            exact ih hk4 hF hw (lv_sub hl [2, 3, 4, 5, 6, 0] rfl)
          · have hF := ifN hF b7
            exact w_X6_bribe_157 hC (hk_114 := ih) hk4 hF hw (lv_sub hl [1, 2, 3, 4, 5, 6, 0] rfl)
def F_X6_bribe_46 (fu : Nat) : Nat → Mm → Int32 → Int32 → Nat → Int32 → Option (Int32 × Mm)
  | 0, _, _, _, _, _ => none
  | n + 1, M, x1, x2, c4, x5 =>
    if (M.1 24 0) ≤ x5 then
      F_X6_bribe_114 fu fu M x1 c4 (-9 : Int32) (0 : Int32) (0 : Int32)
    else
      ob1 (F_X2_nearestShade fu M 24 x5 x2 (1 : Int32)) (fun r3 =>
      ob1 (F_X6_write fu M 83 x5 r3) (fun M5 =>
      ob1 (F_X2_nearestShade fu M5 24 x5 x2 (0 : Int32)) (fun r7 =>
      ob1 (F_X6_write fu M5 84 x5 r7) (fun M9 =>
      F_X6_bribe_46 fu n M9 x1 x2 c4 (x5 + (1 : Int32))))))
set_option maxRecDepth 100000 in
set_option maxHeartbeats 4000000 in
theorem w_X6_bribe_46 {p : Program} {l : Launch} {e : Env} {s : State} {m : MethodId} {args : Array Value} {below : List Frame} {meth : Method} {c : Code} {G : Gv} (hC : Cx p s m args meth c cX6_bribe 9 (some .int) RX6) {fu : Nat} {r : Int32} {M' : Mm} : ∀ (n : Nat) {x1 : Int32} {x2 : Int32} {c4 : Nat} {x5 : Int32} {M : Mm} {H : Heap} {locs : List Loc} {ls : Array Slot} (hk4 : kd c4 = 12), F_X6_bribe_46 fu n M x1 x2 c4 x5 = some (r, M') → St G s H locs M → lv_has ls 9 [(0, .ref (ad G 0)), (1, .int x1), (2, .int x2), (4, .ref (ad G c4)), (5, .int x5)] → W p l e rm_X6_bribe s m args below meth c H locs 0 0 (MQ below (QI G r M') args s 0 0 (zA G)) (F0 m 46 ls []) := by
  intro n
  induction n with
  | zero =>
    intro x1 x2 c4 x5 M H locs ls hk4 hF hw hl
    cases hF
  | succ n ih =>
    intro x1 x2 c4 x5 M H locs ls hk4 hF hw hl
    unfold F_X6_bribe_46 at hF
    refine lv_iload hC.1 hC.2.1 dX6_bribe_46 (lv_at hl 4 rfl) ?_
    refine lv_aload_n hC.1 hC.2.1 dX6_bribe_48 rfl (lv_at hl 0 rfl) ?_
    refine g6_north hC hw q1_202 dX6_bribe_49 ?_
    refine g2_men hC hw (rfl : kd 24 = 11) q1_32 dX6_bribe_52 ?_
    refine lv_icmp_ge (tgt := 104) hC.1 hC.2.1 dX6_bribe_55 (by decide) (fun b1 => ?_) (fun b1 => ?_)
    · have hF := ifP hF b1
      refine lv_bipush (v := (-9 : Int32)) hC.1 hC.2.1 dX6_bribe_104 (by decide) ?_
      refine lv_istore (lv' := [(5, .int (-9 : Int32)), (0, .ref (ad G 0)), (1, .int x1), (2, .int x2), (4, .ref (ad G c4))]) hC.1 hC.2.1 dX6_bribe_106 hl (by decide) rfl (fun ls hl => ?_)
      refine lv_iconst (v := (0 : Int32)) hC.1 hC.2.1 dX6_bribe_108 (by decide) ?_
      refine lv_istore (lv' := [(6, .int (0 : Int32)), (5, .int (-9 : Int32)), (0, .ref (ad G 0)), (1, .int x1), (2, .int x2), (4, .ref (ad G c4))]) hC.1 hC.2.1 dX6_bribe_109 hl (by decide) rfl (fun ls hl => ?_)
      refine lv_iconst (v := (0 : Int32)) hC.1 hC.2.1 dX6_bribe_111 (by decide) ?_
      refine lv_istore (lv' := [(7, .int (0 : Int32)), (6, .int (0 : Int32)), (5, .int (-9 : Int32)), (0, .ref (ad G 0)), (1, .int x1), (2, .int x2), (4, .ref (ad G c4))]) hC.1 hC.2.1 dX6_bribe_112 hl (by decide) rfl (fun ls hl => ?_)
      exact w_X6_bribe_114 hC _ hk4 hF hw (lv_sub hl [3, 4, 6, 2, 1, 0] rfl)
    · have hF := ifN hF b1
      refine lv_aload_n hC.1 hC.2.1 dX6_bribe_58 rfl (lv_at hl 0 rfl) ?_
      refine g6_shadesWith hC hw q1_214 dX6_bribe_59 ?_
      refine lv_iload hC.1 hC.2.1 dX6_bribe_62 (lv_at hl 4 rfl) ?_
      refine lv_aload_n hC.1 hC.2.1 dX6_bribe_64 rfl (lv_at hl 0 rfl) ?_
      refine g6_north hC hw q1_202 dX6_bribe_65 ?_
      refine lv_iload hC.1 hC.2.1 dX6_bribe_68 (lv_at hl 4 rfl) ?_
      refine lv_iload_n hC.1 hC.2.1 dX6_bribe_70 rfl (lv_at hl 2 rfl) ?_
      refine lv_iconst (v := (1 : Int32)) hC.1 hC.2.1 dX6_bribe_71 (by decide) ?_
      obtain ⟨r3, h2, hF⟩ := ob1S hF
      refine k_Vi (As := [.int x5, .int x2, .int (1 : Int32)]) (rest := [.int x5, .ref (ad G 83)]) hC hw (c_X2_nearestShade (M := M) (rfl : kd 24 = 11) h2) (RC_N (rfl : kd 24 = 11)) yv_X2_nearestShade q3_132 ⟨rfl, rfl⟩ ⟨Nat.le_of_ble_eq_true rfl, Nat.le_of_ble_eq_true rfl⟩ ⟨Nat.zero_le _, Nat.zero_le _⟩ rfl rfl (Nat.le_of_ble_eq_true rfl) hl dX6_bribe_72 (fun H locs hw => ?_)
      obtain ⟨M5, h4, hF⟩ := ob1S hF
      refine k_Sv (As := [.ref (ad G 83), .int x5, .int r3]) (rest := []) hC hw (c_X6_write (M := M) (rfl : kd 83 = 1) h4) ys_X6_write q2_27 ⟨rfl, rfl⟩ ⟨Nat.le_of_ble_eq_true rfl, Nat.le_of_ble_eq_true rfl⟩ ⟨Nat.zero_le _, Nat.zero_le _⟩ rfl rfl (Nat.le_of_ble_eq_true rfl) hl dX6_bribe_75 (fun H locs hw => ?_)
      refine lv_aload_n hC.1 hC.2.1 dX6_bribe_78 rfl (lv_at hl 0 rfl) ?_
      refine g6_shadesWithout hC hw q1_215 dX6_bribe_79 ?_
      refine lv_iload hC.1 hC.2.1 dX6_bribe_82 (lv_at hl 4 rfl) ?_
      refine lv_aload_n hC.1 hC.2.1 dX6_bribe_84 rfl (lv_at hl 0 rfl) ?_
      refine g6_north hC hw q1_202 dX6_bribe_85 ?_
      refine lv_iload hC.1 hC.2.1 dX6_bribe_88 (lv_at hl 4 rfl) ?_
      refine lv_iload_n hC.1 hC.2.1 dX6_bribe_90 rfl (lv_at hl 2 rfl) ?_
      refine lv_iconst (v := (0 : Int32)) hC.1 hC.2.1 dX6_bribe_91 (by decide) ?_
      obtain ⟨r7, h6, hF⟩ := ob1S hF
      refine k_Vi (As := [.int x5, .int x2, .int (0 : Int32)]) (rest := [.int x5, .ref (ad G 84)]) hC hw (c_X2_nearestShade (M := M5) (rfl : kd 24 = 11) h6) (RC_N (rfl : kd 24 = 11)) yv_X2_nearestShade q3_132 ⟨rfl, rfl⟩ ⟨Nat.le_of_ble_eq_true rfl, Nat.le_of_ble_eq_true rfl⟩ ⟨Nat.zero_le _, Nat.zero_le _⟩ rfl rfl (Nat.le_of_ble_eq_true rfl) hl dX6_bribe_92 (fun H locs hw => ?_)
      obtain ⟨M9, h8, hF⟩ := ob1S hF
      refine k_Sv (As := [.ref (ad G 84), .int x5, .int r7]) (rest := []) hC hw (c_X6_write (M := M5) (rfl : kd 84 = 1) h8) ys_X6_write q2_27 ⟨rfl, rfl⟩ ⟨Nat.le_of_ble_eq_true rfl, Nat.le_of_ble_eq_true rfl⟩ ⟨Nat.zero_le _, Nat.zero_le _⟩ rfl rfl (Nat.le_of_ble_eq_true rfl) hl dX6_bribe_95 (fun H locs hw => ?_)
      refine lv_iinc (v := (x5 + (1 : Int32))) (lv' := [(5, .int (x5 + (1 : Int32))), (0, .ref (ad G 0)), (1, .int x1), (2, .int x2), (4, .ref (ad G c4))]) hC.1 hC.2.1 dX6_bribe_98 hl (k := 4) rfl rfl (by decide) rfl (fun ls hl => ?_)
      refine lv_goto (tgt := 46) hC.1 hC.2.1 dX6_bribe_101 (by decide) ?_
      exact ih hk4 hF hw (lv_sub hl [1, 2, 3, 4, 0] rfl)
def F_X6_bribe_21 (fu : Nat) (M : Mm) (x1 : Int32) (x2 : Int32) (c4 : Nat) : Option (Int32 × Mm) :=
  ob1 (F_X6_isAhead fu M x2) (fun r2 =>
  if r2 = 0 then
    some ((-1 : Int32), M)
  else
    if (M.1 24 0) = 0 then
      some ((-4 : Int32), M)
    else
      F_X6_bribe_46 fu fu M x1 x2 c4 (0 : Int32))
set_option maxRecDepth 100000 in
set_option maxHeartbeats 4000000 in
theorem w_X6_bribe_21 {p : Program} {l : Launch} {e : Env} {s : State} {m : MethodId} {args : Array Value} {below : List Frame} {meth : Method} {c : Code} {G : Gv} (hC : Cx p s m args meth c cX6_bribe 9 (some .int) RX6) {fu : Nat} {r : Int32} {M' : Mm} {x1 : Int32} {x2 : Int32} {c4 : Nat} {M : Mm} {H : Heap} {locs : List Loc} {ls : Array Slot} (hk4 : kd c4 = 12) (hF : F_X6_bribe_21 fu M x1 x2 c4 = some (r, M')) (hw : St G s H locs M) (hl : lv_has ls 9 [(0, .ref (ad G 0)), (1, .int x1), (2, .int x2), (4, .ref (ad G c4))]) : W p l e rm_X6_bribe s m args below meth c H locs 0 0 (MQ below (QI G r M') args s 0 0 (zA G)) (F0 m 21 ls []) := by
  unfold F_X6_bribe_21 at hF
  refine lv_iload_n hC.1 hC.2.1 dX6_bribe_21 rfl (lv_at hl 2 rfl) ?_
  obtain ⟨r2, h1, hF⟩ := ob1S hF
  refine k_Si (As := [.int x2]) (rest := []) hC hw (c_X6_isAhead (M := M) h1) ys_X6_isAhead q3_53 ⟨rfl, rfl⟩ ⟨Nat.le_of_ble_eq_true rfl, Nat.le_of_ble_eq_true rfl⟩ ⟨Nat.zero_le _, Nat.zero_le _⟩ rfl rfl (Nat.le_of_ble_eq_true rfl) hl dX6_bribe_22 (fun H locs hw => ?_)
  refine lv_if_ne (tgt := 30) hC.1 hC.2.1 dX6_bribe_25 (by decide) (fun b3 => ?_) (fun b3 => ?_)
  · have hF := ifN hF b3
    refine lv_aload_n hC.1 hC.2.1 dX6_bribe_30 rfl (lv_at hl 0 rfl) ?_
    refine g6_north hC hw q1_202 dX6_bribe_31 ?_
    refine g2_men hC hw (rfl : kd 24 = 11) q1_32 dX6_bribe_34 ?_
    refine lv_if_ne (tgt := 43) hC.1 hC.2.1 dX6_bribe_37 (by decide) (fun b4 => ?_) (fun b4 => ?_)
    · have hF := ifN hF b4
      refine lv_iconst (v := (0 : Int32)) hC.1 hC.2.1 dX6_bribe_43 (by decide) ?_
      refine lv_istore (lv' := [(5, .int (0 : Int32)), (0, .ref (ad G 0)), (1, .int x1), (2, .int x2), (4, .ref (ad G c4))]) hC.1 hC.2.1 dX6_bribe_44 hl (by decide) rfl (fun ls hl => ?_)
      exact w_X6_bribe_46 hC _ hk4 hF hw (lv_sub hl [1, 2, 3, 4, 0] rfl)
    · have hF := ifP hF b4
      refine lv_bipush (v := (-4 : Int32)) hC.1 hC.2.1 dX6_bribe_40 (by decide) ?_
      exact r_iretE hC hw hF dX6_bribe_42
  · have hF := ifP hF b3
    refine lv_iconst (v := (-1 : Int32)) hC.1 hC.2.1 dX6_bribe_28 (by decide) ?_
    exact r_iretE hC hw hF dX6_bribe_29
def F_X6_bribe (fu : Nat) (M : Mm) (x1 : Int32) (x2 : Int32) (x3 : Int32) : Option (Int32 × Mm) :=
  ob1 (F_X6_rowOf fu M x3) (fun r2 =>
  op1 r2 (
    some ((-1 : Int32), M)) (fun c3 =>
    if ¬ kd c3 = 12 then none else (
    if x1 = 0 then
      F_X6_bribe_21 fu M x1 x2 c3
    else
      if x1 = (1 : Int32) then
        F_X6_bribe_21 fu M x1 x2 c3
      else
        some ((-1 : Int32), M))))
set_option maxRecDepth 100000 in
set_option maxHeartbeats 4000000 in
theorem c_X6_bribe {l : Launch} {G : Gv} {fu : Nat} {M : Mm} {x1 : Int32} {x2 : Int32} {x3 : Int32} {r : Int32} {M' : Mm} (hF : F_X6_bribe fu M x1 x2 x3 = some (r, M')) : Met l yX6_bribe (.code yX6_bribe cX6_bribe 9 (some .int) :: zU) rm_X6_bribe (va_Pc [.ref (ad G 0), .int x1, .int x2, .int x3] (Wd G M)) (QI G r M') 0 0 (zA G) := by
  refine zMet (by decide) rfl (Nat.le_of_ble_eq_true rfl) ?_
  intro p e s m below meth c hC hw ls hl
  have hl : lv_has ls 9 [(0, .ref (ad G 0)), (1, .int x1), (2, .int x2), (3, .int x3)] := hl
  unfold F_X6_bribe at hF
  refine lv_aload_n hC.1 hC.2.1 dX6_bribe_0 rfl (lv_at hl 0 rfl) ?_
  refine lv_iload_n hC.1 hC.2.1 dX6_bribe_1 rfl (lv_at hl 3 rfl) ?_
  obtain ⟨r2, h1, hF⟩ := ob1S hF
  refine k_Vq (As := [.int x3]) (rest := []) hC hw (c_X6_rowOf (M := M) h1) RC_S yv_X6_rowOf q2_16 ⟨rfl, rfl⟩ ⟨Nat.le_of_ble_eq_true rfl, Nat.le_of_ble_eq_true rfl⟩ ⟨Nat.zero_le _, Nat.zero_le _⟩ rfl rfl (Nat.le_of_ble_eq_true rfl) hl dX6_bribe_2 (fun H locs hw => ?_)
  cases r2 with
  | none =>
    have hF := op1N hF
    refine topN ?_
    refine lv_astoreN (lv' := [(4, .null), (0, .ref (ad G 0)), (1, .int x1), (2, .int x2), (3, .int x3)]) hC.1 hC.2.1 dX6_bribe_5 hl (by decide) rfl (fun ls hl => ?_)
    refine lv_aloadN hC.1 hC.2.1 dX6_bribe_7 (lv_at hl 0 rfl) ?_
    refine lv_ifnullN (tgt := 28) hC.1 hC.2.1 dX6_bribe_9 (by decide) ?_
    refine lv_iconst (v := (-1 : Int32)) hC.1 hC.2.1 dX6_bribe_28 (by decide) ?_
    exact r_iretE hC hw hF dX6_bribe_29
  | some c3 =>
    obtain ⟨g4, hF⟩ := ifO (op1C hF)
    have g4 := Decidable.not_not.mp g4
    refine topC ?_
    refine lv_astore (lv' := [(4, .ref (ad G c3)), (0, .ref (ad G 0)), (1, .int x1), (2, .int x2), (3, .int x3)]) hC.1 hC.2.1 dX6_bribe_5 hl (by decide) rfl (fun ls hl => ?_)
    refine lv_aload hC.1 hC.2.1 dX6_bribe_7 (lv_at hl 0 rfl) ?_
    refine lv_ifnull hC.1 hC.2.1 dX6_bribe_9 ?_
    refine lv_iload_n hC.1 hC.2.1 dX6_bribe_12 rfl (lv_at hl 2 rfl) ?_
    refine lv_if_eq (tgt := 21) hC.1 hC.2.1 dX6_bribe_13 (by decide) (fun b5 => ?_) (fun b5 => ?_)
    · have hF := ifP hF b5
      exact w_X6_bribe_21 hC g4 hF hw (lv_sub hl [1, 2, 3, 0] rfl)
    · have hF := ifN hF b5
      refine lv_iload_n hC.1 hC.2.1 dX6_bribe_16 rfl (lv_at hl 2 rfl) ?_
      refine lv_iconst (v := (1 : Int32)) hC.1 hC.2.1 dX6_bribe_17 (by decide) ?_
      refine lv_icmp_ne (tgt := 28) hC.1 hC.2.1 dX6_bribe_18 (by decide) (fun b6 => ?_) (fun b6 => ?_)
      · have hF := ifN hF b6
        refine lv_iconst (v := (-1 : Int32)) hC.1 hC.2.1 dX6_bribe_28 (by decide) ?_
        exact r_iretE hC hw hF dX6_bribe_29
      · have hF := ifP hF b6
        exact w_X6_bribe_21 hC g4 hF hw (lv_sub hl [1, 2, 3, 0] rfl)
abbrev rm_X6_carry : Room := { frames := 3, cells := 0, slots := 0, locals := 79 }
theorem yv_X6_carry : YV yX6_carry cX6_carry 6 (some .int) 2 RX6 := ⟨⟨q3_148, q3_149, q1_1, q3_150⟩, by decide +kernel⟩
theorem dX6_carry_0 : decode cX6_carry 0 = .ok (.aload_n 0, 1) := by decide +kernel
theorem dX6_carry_1 : decode cX6_carry 1 = .ok (.getfield 24, 3) := by decide +kernel
theorem dX6_carry_4 : decode cX6_carry 4 = .ok (.iload_n 1, 1) := by decide +kernel
theorem dX6_carry_5 : decode cX6_carry 5 = .ok (.invokevirtual 155, 3) := by decide +kernel
theorem dX6_carry_8 : decode cX6_carry 8 = .ok (.ifCond .eq 10, 3) := by decide +kernel
theorem dX6_carry_11 : decode cX6_carry 11 = .ok (.iload_n 2, 1) := by decide +kernel
theorem dX6_carry_12 : decode cX6_carry 12 = .ok (.invokestatic 230, 3) := by decide +kernel
theorem dX6_carry_15 : decode cX6_carry 15 = .ok (.ifCond .ne 5, 3) := by decide +kernel
theorem dX6_carry_18 : decode cX6_carry 18 = .ok (.iconst (-1), 1) := by decide +kernel
theorem dX6_carry_19 : decode cX6_carry 19 = .ok (.ireturn, 1) := by decide +kernel
theorem dX6_carry_20 : decode cX6_carry 20 = .ok (.aload_n 0, 1) := by decide +kernel
theorem dX6_carry_21 : decode cX6_carry 21 = .ok (.getfield 24, 3) := by decide +kernel
theorem dX6_carry_24 : decode cX6_carry 24 = .ok (.getfield 169, 3) := by decide +kernel
theorem dX6_carry_27 : decode cX6_carry 27 = .ok (.iload_n 1, 1) := by decide +kernel
theorem dX6_carry_28 : decode cX6_carry 28 = .ok (.invokestatic 101, 3) := by decide +kernel
theorem dX6_carry_31 : decode cX6_carry 31 = .ok (.istore_n 3, 1) := by decide +kernel
theorem dX6_carry_32 : decode cX6_carry 32 = .ok (.iload_n 3, 1) := by decide +kernel
theorem dX6_carry_33 : decode cX6_carry 33 = .ok (.ifCond .ne 6, 3) := by decide +kernel
theorem dX6_carry_36 : decode cX6_carry 36 = .ok (.bipush (-9), 2) := by decide +kernel
theorem dX6_carry_38 : decode cX6_carry 38 = .ok (.ireturn, 1) := by decide +kernel
theorem dX6_carry_39 : decode cX6_carry 39 = .ok (.aload_n 0, 1) := by decide +kernel
theorem dX6_carry_40 : decode cX6_carry 40 = .ok (.getfield 24, 3) := by decide +kernel
theorem dX6_carry_43 : decode cX6_carry 43 = .ok (.aload_n 0, 1) := by decide +kernel
theorem dX6_carry_44 : decode cX6_carry 44 = .ok (.getfield 24, 3) := by decide +kernel
theorem dX6_carry_47 : decode cX6_carry 47 = .ok (.getfield 163, 3) := by decide +kernel
theorem dX6_carry_50 : decode cX6_carry 50 = .ok (.iload_n 1, 1) := by decide +kernel
theorem dX6_carry_51 : decode cX6_carry 51 = .ok (.invokestatic 101, 3) := by decide +kernel
theorem dX6_carry_54 : decode cX6_carry 54 = .ok (.aload_n 0, 1) := by decide +kernel
theorem dX6_carry_55 : decode cX6_carry 55 = .ok (.getfield 24, 3) := by decide +kernel
theorem dX6_carry_58 : decode cX6_carry 58 = .ok (.getfield 214, 3) := by decide +kernel
theorem dX6_carry_61 : decode cX6_carry 61 = .ok (.iload_n 1, 1) := by decide +kernel
theorem dX6_carry_62 : decode cX6_carry 62 = .ok (.invokestatic 101, 3) := by decide +kernel
theorem dX6_carry_65 : decode cX6_carry 65 = .ok (.iload_n 2, 1) := by decide +kernel
theorem dX6_carry_66 : decode cX6_carry 66 = .ok (.invokevirtual 272, 3) := by decide +kernel
theorem dX6_carry_69 : decode cX6_carry 69 = .ok (.istore 4, 2) := by decide +kernel
theorem dX6_carry_71 : decode cX6_carry 71 = .ok (.iconst 0, 1) := by decide +kernel
theorem dX6_carry_72 : decode cX6_carry 72 = .ok (.istore 5, 2) := by decide +kernel
theorem dX6_carry_74 : decode cX6_carry 74 = .ok (.iload 5, 2) := by decide +kernel
theorem dX6_carry_76 : decode cX6_carry 76 = .ok (.bipush 99, 2) := by decide +kernel
theorem dX6_carry_78 : decode cX6_carry 78 = .ok (.iload_n 3, 1) := by decide +kernel
theorem dX6_carry_79 : decode cX6_carry 79 = .ok (.isub, 1) := by decide +kernel
theorem dX6_carry_80 : decode cX6_carry 80 = .ok (.if_icmp .gt 37, 3) := by decide +kernel
theorem dX6_carry_83 : decode cX6_carry 83 = .ok (.aload_n 0, 1) := by decide +kernel
theorem dX6_carry_84 : decode cX6_carry 84 = .ok (.getfield 24, 3) := by decide +kernel
theorem dX6_carry_87 : decode cX6_carry 87 = .ok (.iload_n 1, 1) := by decide +kernel
theorem dX6_carry_88 : decode cX6_carry 88 = .ok (.iload_n 3, 1) := by decide +kernel
theorem dX6_carry_89 : decode cX6_carry 89 = .ok (.iload 5, 2) := by decide +kernel
theorem dX6_carry_91 : decode cX6_carry 91 = .ok (.iadd, 1) := by decide +kernel
theorem dX6_carry_92 : decode cX6_carry 92 = .ok (.iload 4, 2) := by decide +kernel
theorem dX6_carry_94 : decode cX6_carry 94 = .ok (.isub, 1) := by decide +kernel
theorem dX6_carry_95 : decode cX6_carry 95 = .ok (.aload_n 0, 1) := by decide +kernel
theorem dX6_carry_96 : decode cX6_carry 96 = .ok (.getfield 24, 3) := by decide +kernel
theorem dX6_carry_99 : decode cX6_carry 99 = .ok (.getfield 195, 3) := by decide +kernel
theorem dX6_carry_102 : decode cX6_carry 102 = .ok (.invokevirtual 276, 3) := by decide +kernel
theorem dX6_carry_105 : decode cX6_carry 105 = .ok (.ifCond .eq 6, 3) := by decide +kernel
theorem dX6_carry_108 : decode cX6_carry 108 = .ok (.iload 5, 2) := by decide +kernel
theorem dX6_carry_110 : decode cX6_carry 110 = .ok (.ireturn, 1) := by decide +kernel
theorem dX6_carry_111 : decode cX6_carry 111 = .ok (.iinc 5 1, 3) := by decide +kernel
theorem dX6_carry_114 : decode cX6_carry 114 = .ok (.goto (-40), 3) := by decide +kernel
theorem dX6_carry_117 : decode cX6_carry 117 = .ok (.bipush (-9), 2) := by decide +kernel
theorem dX6_carry_119 : decode cX6_carry 119 = .ok (.ireturn, 1) := by decide +kernel
def F_X6_carry_74 (fu : Nat) (M : Mm) : Nat → Int32 → Int32 → Int32 → Int32 → Option Int32
  | 0, _, _, _, _ => none
  | n + 1, x1, x3, x4, x5 =>
    if ((99 : Int32) - x3) < x5 then
      some (-9 : Int32)
    else
      ob1 (F_X2_hasRight fu M 24 x1 ((x3 + x5) - x4) (M.1 24 1)) (fun r3 =>
      if r3 = 0 then
        F_X6_carry_74 fu M n x1 x3 x4 (x5 + (1 : Int32))
      else
        some x5)
set_option maxRecDepth 100000 in
set_option maxHeartbeats 4000000 in
theorem w_X6_carry_74 {p : Program} {l : Launch} {e : Env} {s : State} {m : MethodId} {args : Array Value} {below : List Frame} {meth : Method} {c : Code} {G : Gv} (hC : Cx p s m args meth c cX6_carry 6 (some .int) RX6) {fu : Nat} {r : Int32} {M : Mm} : ∀ (n : Nat) {x1 : Int32} {x3 : Int32} {x4 : Int32} {x5 : Int32} {H : Heap} {locs : List Loc} {ls : Array Slot}, F_X6_carry_74 fu M n x1 x3 x4 x5 = some r → St G s H locs M → lv_has ls 6 [(0, .ref (ad G 0)), (1, .int x1), (3, .int x3), (4, .int x4), (5, .int x5)] → W p l e rm_X6_carry s m args below meth c H locs 0 0 (MQ below (QI G r M) args s 0 0 (zA G)) (F0 m 74 ls []) := by
  intro n
  induction n with
  | zero =>
    intro x1 x3 x4 x5 H locs ls hF hw hl
    cases hF
  | succ n ih =>
    intro x1 x3 x4 x5 H locs ls hF hw hl
    unfold F_X6_carry_74 at hF
    refine lv_iload hC.1 hC.2.1 dX6_carry_74 (lv_at hl 4 rfl) ?_
    refine lv_bipush (v := (99 : Int32)) hC.1 hC.2.1 dX6_carry_76 (by decide) ?_
    refine lv_iload_n hC.1 hC.2.1 dX6_carry_78 rfl (lv_at hl 2 rfl) ?_
    refine lv_isub hC.1 hC.2.1 dX6_carry_79 ?_
    refine lv_icmp_gt (tgt := 117) hC.1 hC.2.1 dX6_carry_80 (by decide) (fun b1 => ?_) (fun b1 => ?_)
    · have hF := ifP hF b1
      refine lv_bipush (v := (-9 : Int32)) hC.1 hC.2.1 dX6_carry_117 (by decide) ?_
      exact r_iretP hC hw hF dX6_carry_119
    · have hF := ifN hF b1
      refine lv_aload_n hC.1 hC.2.1 dX6_carry_83 rfl (lv_at hl 0 rfl) ?_
      refine g6_north hC hw q1_202 dX6_carry_84 ?_
      refine lv_iload_n hC.1 hC.2.1 dX6_carry_87 rfl (lv_at hl 1 rfl) ?_
      refine lv_iload_n hC.1 hC.2.1 dX6_carry_88 rfl (lv_at hl 2 rfl) ?_
      refine lv_iload hC.1 hC.2.1 dX6_carry_89 (lv_at hl 4 rfl) ?_
      refine lv_iadd hC.1 hC.2.1 dX6_carry_91 ?_
      refine lv_iload hC.1 hC.2.1 dX6_carry_92 (lv_at hl 3 rfl) ?_
      refine lv_isub hC.1 hC.2.1 dX6_carry_94 ?_
      refine lv_aload_n hC.1 hC.2.1 dX6_carry_95 rfl (lv_at hl 0 rfl) ?_
      refine g6_north hC hw q1_202 dX6_carry_96 ?_
      refine g2_rightNow hC hw (rfl : kd 24 = 11) q1_34 dX6_carry_99 ?_
      obtain ⟨r3, h2, hF⟩ := ob1S hF
      refine k_Vi (As := [.int x1, .int ((x3 + x5) - x4), .int (M.1 24 1)]) (rest := []) hC hw (c_X2_hasRight (M := M) (rfl : kd 24 = 11) h2) (RC_N (rfl : kd 24 = 11)) yv_X2_hasRight q3_152 ⟨rfl, rfl⟩ ⟨Nat.le_of_ble_eq_true rfl, Nat.le_of_ble_eq_true rfl⟩ ⟨Nat.zero_le _, Nat.zero_le _⟩ rfl rfl (Nat.le_of_ble_eq_true rfl) hl dX6_carry_102 (fun H locs hw => ?_)
      refine lv_if_eq (tgt := 111) hC.1 hC.2.1 dX6_carry_105 (by decide) (fun b4 => ?_) (fun b4 => ?_)
      · have hF := ifP hF b4
        refine lv_iinc (v := (x5 + (1 : Int32))) (lv' := [(5, .int (x5 + (1 : Int32))), (0, .ref (ad G 0)), (1, .int x1), (3, .int x3), (4, .int x4)]) hC.1 hC.2.1 dX6_carry_111 hl (k := 4) rfl rfl (by decide) rfl (fun ls hl => ?_)
        refine lv_goto (tgt := 74) hC.1 hC.2.1 dX6_carry_114 (by decide) ?_
        exact ih hF hw (lv_sub hl [1, 2, 3, 4, 0] rfl)
      · have hF := ifN hF b4
        refine lv_iload hC.1 hC.2.1 dX6_carry_108 (lv_at hl 4 rfl) ?_
        exact r_iretP hC hw hF dX6_carry_110
def F_X6_carry (fu : Nat) (M : Mm) (x1 : Int32) (x2 : Int32) : Option Int32 :=
  ob1 (F_X2_isMan fu M 24 x1) (fun r2 =>
  if r2 = 0 then
    some (-1 : Int32)
  else
    ob1 (F_X6_isAhead fu M x2) (fun r5 =>
    if r5 = 0 then
      some (-1 : Int32)
    else
      ob1 (F_X6_read fu M 28 x1) (fun r8 =>
      if r8 = 0 then
        some (-9 : Int32)
      else
        ob1 (F_X6_read fu M 26 x1) (fun r11 =>
        ob1 (F_X6_read fu M 29 x1) (fun r13 =>
        ob1 (F_X2_meltedIn fu M 24 r11 r13 x2) (fun r15 =>
        F_X6_carry_74 fu M fu x1 r8 r15 (0 : Int32)))))))
set_option maxRecDepth 100000 in
set_option maxHeartbeats 4000000 in
theorem c_X6_carry {l : Launch} {G : Gv} {fu : Nat} {M : Mm} {x1 : Int32} {x2 : Int32} {r : Int32} (hF : F_X6_carry fu M x1 x2 = some r) : Met l yX6_carry (.code yX6_carry cX6_carry 6 (some .int) :: zU) rm_X6_carry (va_Pc [.ref (ad G 0), .int x1, .int x2] (Wd G M)) (QI G r M) 0 0 (zA G) := by
  refine zMet (by decide) rfl (Nat.le_of_ble_eq_true rfl) ?_
  intro p e s m below meth c hC hw ls hl
  have hl : lv_has ls 6 [(0, .ref (ad G 0)), (1, .int x1), (2, .int x2)] := hl
  unfold F_X6_carry at hF
  refine lv_aload_n hC.1 hC.2.1 dX6_carry_0 rfl (lv_at hl 0 rfl) ?_
  refine g6_north hC hw q1_202 dX6_carry_1 ?_
  refine lv_iload_n hC.1 hC.2.1 dX6_carry_4 rfl (lv_at hl 1 rfl) ?_
  obtain ⟨r2, h1, hF⟩ := ob1S hF
  refine k_Vi (As := [.int x1]) (rest := []) hC hw (c_X2_isMan (M := M) (rfl : kd 24 = 11) h1) (RC_N (rfl : kd 24 = 11)) yv_X2_isMan q2_147 ⟨rfl, rfl⟩ ⟨Nat.le_of_ble_eq_true rfl, Nat.le_of_ble_eq_true rfl⟩ ⟨Nat.zero_le _, Nat.zero_le _⟩ rfl rfl (Nat.le_of_ble_eq_true rfl) hl dX6_carry_5 (fun H locs hw => ?_)
  refine lv_if_eq (tgt := 18) hC.1 hC.2.1 dX6_carry_8 (by decide) (fun b3 => ?_) (fun b3 => ?_)
  · have hF := ifP hF b3
    refine lv_iconst (v := (-1 : Int32)) hC.1 hC.2.1 dX6_carry_18 (by decide) ?_
    exact r_iretP hC hw hF dX6_carry_19
  · have hF := ifN hF b3
    refine lv_iload_n hC.1 hC.2.1 dX6_carry_11 rfl (lv_at hl 2 rfl) ?_
    obtain ⟨r5, h4, hF⟩ := ob1S hF
    refine k_Si (As := [.int x2]) (rest := []) hC hw (c_X6_isAhead (M := M) h4) ys_X6_isAhead q3_53 ⟨rfl, rfl⟩ ⟨Nat.le_of_ble_eq_true rfl, Nat.le_of_ble_eq_true rfl⟩ ⟨Nat.zero_le _, Nat.zero_le _⟩ rfl rfl (Nat.le_of_ble_eq_true rfl) hl dX6_carry_12 (fun H locs hw => ?_)
    refine lv_if_ne (tgt := 20) hC.1 hC.2.1 dX6_carry_15 (by decide) (fun b6 => ?_) (fun b6 => ?_)
    · have hF := ifN hF b6
      refine lv_aload_n hC.1 hC.2.1 dX6_carry_20 rfl (lv_at hl 0 rfl) ?_
      refine g6_north hC hw q1_202 dX6_carry_21 ?_
      refine g2_bulkOf hC hw (rfl : kd 24 = 11) q1_45 dX6_carry_24 ?_
      refine lv_iload_n hC.1 hC.2.1 dX6_carry_27 rfl (lv_at hl 1 rfl) ?_
      obtain ⟨r8, h7, hF⟩ := ob1S hF
      refine k_Si (As := [.ref (ad G 28), .int x1]) (rest := []) hC hw (c_X6_read (M := M) (rfl : kd 28 = 1) h7) ys_X6_read q2_24 ⟨rfl, rfl⟩ ⟨Nat.le_of_ble_eq_true rfl, Nat.le_of_ble_eq_true rfl⟩ ⟨Nat.zero_le _, Nat.zero_le _⟩ rfl rfl (Nat.le_of_ble_eq_true rfl) hl dX6_carry_28 (fun H locs hw => ?_)
      refine lv_istore_n (lv' := [(3, .int r8), (0, .ref (ad G 0)), (1, .int x1), (2, .int x2)]) hC.1 hC.2.1 dX6_carry_31 rfl hl (by decide) rfl (fun ls hl => ?_)
      refine lv_iload_n hC.1 hC.2.1 dX6_carry_32 rfl (lv_at hl 0 rfl) ?_
      refine lv_if_ne (tgt := 39) hC.1 hC.2.1 dX6_carry_33 (by decide) (fun b9 => ?_) (fun b9 => ?_)
      · have hF := ifN hF b9
        refine lv_aload_n hC.1 hC.2.1 dX6_carry_39 rfl (lv_at hl 1 rfl) ?_
        refine g6_north hC hw q1_202 dX6_carry_40 ?_
        refine lv_aload_n hC.1 hC.2.1 dX6_carry_43 rfl (lv_at hl 1 rfl) ?_
        refine g6_north hC hw q1_202 dX6_carry_44 ?_
        refine g2_kindOf hC hw (rfl : kd 24 = 11) q1_41 dX6_carry_47 ?_
        refine lv_iload_n hC.1 hC.2.1 dX6_carry_50 rfl (lv_at hl 2 rfl) ?_
        obtain ⟨r11, h10, hF⟩ := ob1S hF
        refine k_Si (As := [.ref (ad G 26), .int x1]) (rest := [.ref (ad G 24)]) hC hw (c_X6_read (M := M) (rfl : kd 26 = 1) h10) ys_X6_read q2_24 ⟨rfl, rfl⟩ ⟨Nat.le_of_ble_eq_true rfl, Nat.le_of_ble_eq_true rfl⟩ ⟨Nat.zero_le _, Nat.zero_le _⟩ rfl rfl (Nat.le_of_ble_eq_true rfl) hl dX6_carry_51 (fun H locs hw => ?_)
        refine lv_aload_n hC.1 hC.2.1 dX6_carry_54 rfl (lv_at hl 1 rfl) ?_
        refine g6_north hC hw q1_202 dX6_carry_55 ?_
        refine g2_shadeOf hC hw (rfl : kd 24 = 11) q1_48 dX6_carry_58 ?_
        refine lv_iload_n hC.1 hC.2.1 dX6_carry_61 rfl (lv_at hl 2 rfl) ?_
        obtain ⟨r13, h12, hF⟩ := ob1S hF
        refine k_Si (As := [.ref (ad G 29), .int x1]) (rest := [.int r11, .ref (ad G 24)]) hC hw (c_X6_read (M := M) (rfl : kd 29 = 1) h12) ys_X6_read q2_24 ⟨rfl, rfl⟩ ⟨Nat.le_of_ble_eq_true rfl, Nat.le_of_ble_eq_true rfl⟩ ⟨Nat.zero_le _, Nat.zero_le _⟩ rfl rfl (Nat.le_of_ble_eq_true rfl) hl dX6_carry_62 (fun H locs hw => ?_)
        refine lv_iload_n hC.1 hC.2.1 dX6_carry_65 rfl (lv_at hl 3 rfl) ?_
        obtain ⟨r15, h14, hF⟩ := ob1S hF
        refine k_Vi (As := [.int r11, .int r13, .int x2]) (rest := []) hC hw (c_X2_meltedIn (M := M) (rfl : kd 24 = 11) h14) (RC_N (rfl : kd 24 = 11)) yv_X2_meltedIn q3_151 ⟨rfl, rfl⟩ ⟨Nat.le_of_ble_eq_true rfl, Nat.le_of_ble_eq_true rfl⟩ ⟨Nat.zero_le _, Nat.zero_le _⟩ rfl rfl (Nat.le_of_ble_eq_true rfl) hl dX6_carry_66 (fun H locs hw => ?_)
        refine lv_istore (lv' := [(4, .int r15), (3, .int r8), (0, .ref (ad G 0)), (1, .int x1), (2, .int x2)]) hC.1 hC.2.1 dX6_carry_69 hl (by decide) rfl (fun ls hl => ?_)
        refine lv_iconst (v := (0 : Int32)) hC.1 hC.2.1 dX6_carry_71 (by decide) ?_
        refine lv_istore (lv' := [(5, .int (0 : Int32)), (4, .int r15), (3, .int r8), (0, .ref (ad G 0)), (1, .int x1), (2, .int x2)]) hC.1 hC.2.1 dX6_carry_72 hl (by decide) rfl (fun ls hl => ?_)
        exact w_X6_carry_74 hC _ hF hw (lv_sub hl [3, 4, 2, 1, 0] rfl)
      · have hF := ifP hF b9
        refine lv_bipush (v := (-9 : Int32)) hC.1 hC.2.1 dX6_carry_36 (by decide) ?_
        exact r_iretP hC hw hF dX6_carry_38
    · have hF := ifP hF b6
      refine lv_iconst (v := (-1 : Int32)) hC.1 hC.2.1 dX6_carry_18 (by decide) ?_
      exact r_iretP hC hw hF dX6_carry_19
abbrev rm_X6_countedOn : Room := { frames := 1, cells := 0, slots := 0, locals := 21 }
theorem yv_X6_countedOn : YV yX6_countedOn cX6_countedOn 3 (some .int) 2 RX6 := ⟨⟨q3_172, qs_20, q1_1, q3_173⟩, by decide +kernel⟩
theorem dX6_countedOn_0 : decode cX6_countedOn 0 = .ok (.aload_n 0, 1) := by decide +kernel
theorem dX6_countedOn_1 : decode cX6_countedOn 1 = .ok (.getfield 61, 3) := by decide +kernel
theorem dX6_countedOn_4 : decode cX6_countedOn 4 = .ok (.iload_n 2, 1) := by decide +kernel
theorem dX6_countedOn_5 : decode cX6_countedOn 5 = .ok (.invokestatic 101, 3) := by decide +kernel
theorem dX6_countedOn_8 : decode cX6_countedOn 8 = .ok (.iload_n 1, 1) := by decide +kernel
theorem dX6_countedOn_9 : decode cX6_countedOn 9 = .ok (.invokestatic 252, 3) := by decide +kernel
theorem dX6_countedOn_12 : decode cX6_countedOn 12 = .ok (.ifCond .eq 7, 3) := by decide +kernel
theorem dX6_countedOn_15 : decode cX6_countedOn 15 = .ok (.iconst 1, 1) := by decide +kernel
theorem dX6_countedOn_16 : decode cX6_countedOn 16 = .ok (.goto 4, 3) := by decide +kernel
theorem dX6_countedOn_19 : decode cX6_countedOn 19 = .ok (.iconst 0, 1) := by decide +kernel
theorem dX6_countedOn_20 : decode cX6_countedOn 20 = .ok (.ireturn, 1) := by decide +kernel
def F_X6_countedOn (fu : Nat) (M : Mm) (x1 : Int32) (x2 : Int32) : Option Int32 :=
  ob1 (F_X6_read fu M 81 x2) (fun r2 =>
  ob1 (F_X6_isIn fu M r2 x1) (fun r4 =>
  if r4 = 0 then
    some (0 : Int32)
  else
    some (1 : Int32)))
set_option maxRecDepth 100000 in
set_option maxHeartbeats 4000000 in
theorem c_X6_countedOn {l : Launch} {G : Gv} {fu : Nat} {M : Mm} {x1 : Int32} {x2 : Int32} {r : Int32} (hF : F_X6_countedOn fu M x1 x2 = some r) : Met l yX6_countedOn (.code yX6_countedOn cX6_countedOn 3 (some .int) :: zU) rm_X6_countedOn (va_Pc [.ref (ad G 0), .int x1, .int x2] (Wd G M)) (QI G r M) 0 0 (zA G) := by
  refine zMet (by decide) rfl (Nat.le_of_ble_eq_true rfl) ?_
  intro p e s m below meth c hC hw ls hl
  have hl : lv_has ls 3 [(0, .ref (ad G 0)), (1, .int x1), (2, .int x2)] := hl
  unfold F_X6_countedOn at hF
  refine lv_aload_n hC.1 hC.2.1 dX6_countedOn_0 rfl (lv_at hl 0 rfl) ?_
  refine g6_ahead hC hw q1_212 dX6_countedOn_1 ?_
  refine lv_iload_n hC.1 hC.2.1 dX6_countedOn_4 rfl (lv_at hl 2 rfl) ?_
  obtain ⟨r2, h1, hF⟩ := ob1S hF
  refine k_Si (As := [.ref (ad G 81), .int x2]) (rest := []) hC hw (c_X6_read (M := M) (rfl : kd 81 = 1) h1) ys_X6_read q2_24 ⟨rfl, rfl⟩ ⟨Nat.le_of_ble_eq_true rfl, Nat.le_of_ble_eq_true rfl⟩ ⟨Nat.zero_le _, Nat.zero_le _⟩ rfl rfl (Nat.le_of_ble_eq_true rfl) hl dX6_countedOn_5 (fun H locs hw => ?_)
  refine lv_iload_n hC.1 hC.2.1 dX6_countedOn_8 rfl (lv_at hl 1 rfl) ?_
  obtain ⟨r4, h3, hF⟩ := ob1S hF
  refine k_Si (As := [.int r2, .int x1]) (rest := []) hC hw (c_X6_isIn (M := M) h3) ys_X6_isIn q3_118 ⟨rfl, rfl⟩ ⟨Nat.le_of_ble_eq_true rfl, Nat.le_of_ble_eq_true rfl⟩ ⟨Nat.zero_le _, Nat.zero_le _⟩ rfl rfl (Nat.le_of_ble_eq_true rfl) hl dX6_countedOn_9 (fun H locs hw => ?_)
  refine lv_if_eq (tgt := 19) hC.1 hC.2.1 dX6_countedOn_12 (by decide) (fun b5 => ?_) (fun b5 => ?_)
  · have hF := ifP hF b5
    refine lv_iconst (v := (0 : Int32)) hC.1 hC.2.1 dX6_countedOn_19 (by decide) ?_
    exact r_iretP hC hw hF dX6_countedOn_20
  · have hF := ifN hF b5
    refine lv_iconst (v := (1 : Int32)) hC.1 hC.2.1 dX6_countedOn_15 (by decide) ?_
    refine lv_goto (tgt := 20) hC.1 hC.2.1 dX6_countedOn_16 (by decide) ?_
    exact r_iretP hC hw hF dX6_countedOn_20
abbrev rm_X6_countedFrom : Room := { frames := 2, cells := 0, slots := 0, locals := 43 }
theorem yv_X6_countedFrom : YV yX6_countedFrom cX6_countedFrom 3 (some .int) 2 RX6 := ⟨⟨q3_168, qs_19, q1_1, q3_169⟩, by decide +kernel⟩
theorem dX6_countedFrom_0 : decode cX6_countedFrom 0 = .ok (.aload_n 0, 1) := by decide +kernel
theorem dX6_countedFrom_1 : decode cX6_countedFrom 1 = .ok (.iload_n 2, 1) := by decide +kernel
theorem dX6_countedFrom_2 : decode cX6_countedFrom 2 = .ok (.iload_n 1, 1) := by decide +kernel
theorem dX6_countedFrom_3 : decode cX6_countedFrom 3 = .ok (.invokestatic 209, 3) := by decide +kernel
theorem dX6_countedFrom_6 : decode cX6_countedFrom 6 = .ok (.invokevirtual 290, 3) := by decide +kernel
theorem dX6_countedFrom_9 : decode cX6_countedFrom 9 = .ok (.aload_n 0, 1) := by decide +kernel
theorem dX6_countedFrom_10 : decode cX6_countedFrom 10 = .ok (.getfield 73, 3) := by decide +kernel
theorem dX6_countedFrom_13 : decode cX6_countedFrom 13 = .ok (.iload_n 1, 1) := by decide +kernel
theorem dX6_countedFrom_14 : decode cX6_countedFrom 14 = .ok (.iconst 1, 1) := by decide +kernel
theorem dX6_countedFrom_15 : decode cX6_countedFrom 15 = .ok (.iload_n 2, 1) := by decide +kernel
theorem dX6_countedFrom_16 : decode cX6_countedFrom 16 = .ok (.ishl, 1) := by decide +kernel
theorem dX6_countedFrom_17 : decode cX6_countedFrom 17 = .ok (.ior, 1) := by decide +kernel
theorem dX6_countedFrom_18 : decode cX6_countedFrom 18 = .ok (.invokestatic 101, 3) := by decide +kernel
theorem dX6_countedFrom_21 : decode cX6_countedFrom 21 = .ok (.iadd, 1) := by decide +kernel
theorem dX6_countedFrom_22 : decode cX6_countedFrom 22 = .ok (.ireturn, 1) := by decide +kernel
def F_X6_countedFrom (fu : Nat) (M : Mm) (x1 : Int32) (x2 : Int32) : Option Int32 :=
  ob1 (F_J6_bitCount_0f7a4 fu M x1) (fun r2 =>
  ob1 (F_X6_countedOn fu M x2 r2) (fun r4 =>
  ob1 (F_X6_read fu M 85 (x1 ||| ((1 : Int32) <<< (x2 &&& 31)))) (fun r6 =>
  some (r4 + r6))))
set_option maxRecDepth 100000 in
set_option maxHeartbeats 4000000 in
theorem c_X6_countedFrom {l : Launch} {G : Gv} {fu : Nat} {M : Mm} {x1 : Int32} {x2 : Int32} {r : Int32} (hF : F_X6_countedFrom fu M x1 x2 = some r) : Met l yX6_countedFrom (.code yX6_countedFrom cX6_countedFrom 3 (some .int) :: zU) rm_X6_countedFrom (va_Pc [.ref (ad G 0), .int x1, .int x2] (Wd G M)) (QI G r M) 0 0 (zA G) := by
  refine zMet (by decide) rfl (Nat.le_of_ble_eq_true rfl) ?_
  intro p e s m below meth c hC hw ls hl
  have hl : lv_has ls 3 [(0, .ref (ad G 0)), (1, .int x1), (2, .int x2)] := hl
  unfold F_X6_countedFrom at hF
  refine lv_aload_n hC.1 hC.2.1 dX6_countedFrom_0 rfl (lv_at hl 0 rfl) ?_
  refine lv_iload_n hC.1 hC.2.1 dX6_countedFrom_1 rfl (lv_at hl 2 rfl) ?_
  refine lv_iload_n hC.1 hC.2.1 dX6_countedFrom_2 rfl (lv_at hl 1 rfl) ?_
  obtain ⟨r2, h1, hF⟩ := ob1S hF
  refine k_Si (As := [.int x1]) (rest := [.int x2, .ref (ad G 0)]) hC hw (c_J6_bitCount_0f7a4 (M := M) h1) ys_J6_bitCount_0f7a4 q3_11 ⟨rfl, rfl⟩ ⟨Nat.le_of_ble_eq_true rfl, Nat.le_of_ble_eq_true rfl⟩ ⟨Nat.zero_le _, Nat.zero_le _⟩ rfl rfl (Nat.le_of_ble_eq_true rfl) hl dX6_countedFrom_3 (fun H locs hw => ?_)
  obtain ⟨r4, h3, hF⟩ := ob1S hF
  refine k_Vi (As := [.int x2, .int r2]) (rest := []) hC hw (c_X6_countedOn (M := M) h3) RC_S yv_X6_countedOn q3_170 ⟨rfl, rfl⟩ ⟨Nat.le_of_ble_eq_true rfl, Nat.le_of_ble_eq_true rfl⟩ ⟨Nat.zero_le _, Nat.zero_le _⟩ rfl rfl (Nat.le_of_ble_eq_true rfl) hl dX6_countedFrom_6 (fun H locs hw => ?_)
  refine lv_aload_n hC.1 hC.2.1 dX6_countedFrom_9 rfl (lv_at hl 0 rfl) ?_
  refine g6_mostCounted hC hw q1_216 dX6_countedFrom_10 ?_
  refine lv_iload_n hC.1 hC.2.1 dX6_countedFrom_13 rfl (lv_at hl 1 rfl) ?_
  refine lv_iconst (v := (1 : Int32)) hC.1 hC.2.1 dX6_countedFrom_14 (by decide) ?_
  refine lv_iload_n hC.1 hC.2.1 dX6_countedFrom_15 rfl (lv_at hl 2 rfl) ?_
  refine lv_ishl hC.1 hC.2.1 dX6_countedFrom_16 ?_
  refine lv_ior hC.1 hC.2.1 dX6_countedFrom_17 ?_
  obtain ⟨r6, h5, hF⟩ := ob1S hF
  refine k_Si (As := [.ref (ad G 85), .int (x1 ||| ((1 : Int32) <<< (x2 &&& 31)))]) (rest := [.int r4]) hC hw (c_X6_read (M := M) (rfl : kd 85 = 1) h5) ys_X6_read q2_24 ⟨rfl, rfl⟩ ⟨Nat.le_of_ble_eq_true rfl, Nat.le_of_ble_eq_true rfl⟩ ⟨Nat.zero_le _, Nat.zero_le _⟩ rfl rfl (Nat.le_of_ble_eq_true rfl) hl dX6_countedFrom_18 (fun H locs hw => ?_)
  refine lv_iadd hC.1 hC.2.1 dX6_countedFrom_21 ?_
  exact r_iretP hC hw hF dX6_countedFrom_22
abbrev rm_X6_fillMostCounted : Room := { frames := 3, cells := 0, slots := 0, locals := 65 }
theorem yv_X6_fillMostCounted : YV yX6_fillMostCounted cX6_fillMostCounted 4 none 0 RX6 := ⟨⟨q3_164, qs_18, q1_1, q3_165⟩, by decide +kernel⟩
theorem dX6_fillMostCounted_0 : decode cX6_fillMostCounted 0 = .ok (.iconst 1, 1) := by decide +kernel
theorem dX6_fillMostCounted_1 : decode cX6_fillMostCounted 1 = .ok (.aload_n 0, 1) := by decide +kernel
theorem dX6_fillMostCounted_2 : decode cX6_fillMostCounted 2 = .ok (.getfield 24, 3) := by decide +kernel
theorem dX6_fillMostCounted_5 : decode cX6_fillMostCounted 5 = .ok (.getfield 152, 3) := by decide +kernel
theorem dX6_fillMostCounted_8 : decode cX6_fillMostCounted 8 = .ok (.ishl, 1) := by decide +kernel
theorem dX6_fillMostCounted_9 : decode cX6_fillMostCounted 9 = .ok (.iconst 1, 1) := by decide +kernel
theorem dX6_fillMostCounted_10 : decode cX6_fillMostCounted 10 = .ok (.isub, 1) := by decide +kernel
theorem dX6_fillMostCounted_11 : decode cX6_fillMostCounted 11 = .ok (.istore_n 1, 1) := by decide +kernel
theorem dX6_fillMostCounted_12 : decode cX6_fillMostCounted 12 = .ok (.iload_n 1, 1) := by decide +kernel
theorem dX6_fillMostCounted_13 : decode cX6_fillMostCounted 13 = .ok (.ifCond .lt 58, 3) := by decide +kernel
theorem dX6_fillMostCounted_16 : decode cX6_fillMostCounted 16 = .ok (.iconst 0, 1) := by decide +kernel
theorem dX6_fillMostCounted_17 : decode cX6_fillMostCounted 17 = .ok (.istore_n 2, 1) := by decide +kernel
theorem dX6_fillMostCounted_18 : decode cX6_fillMostCounted 18 = .ok (.iconst 0, 1) := by decide +kernel
theorem dX6_fillMostCounted_19 : decode cX6_fillMostCounted 19 = .ok (.istore_n 3, 1) := by decide +kernel
theorem dX6_fillMostCounted_20 : decode cX6_fillMostCounted 20 = .ok (.iload_n 3, 1) := by decide +kernel
theorem dX6_fillMostCounted_21 : decode cX6_fillMostCounted 21 = .ok (.aload_n 0, 1) := by decide +kernel
theorem dX6_fillMostCounted_22 : decode cX6_fillMostCounted 22 = .ok (.getfield 24, 3) := by decide +kernel
theorem dX6_fillMostCounted_25 : decode cX6_fillMostCounted 25 = .ok (.getfield 152, 3) := by decide +kernel
theorem dX6_fillMostCounted_28 : decode cX6_fillMostCounted 28 = .ok (.if_icmp .ge 28, 3) := by decide +kernel
theorem dX6_fillMostCounted_31 : decode cX6_fillMostCounted 31 = .ok (.iload_n 1, 1) := by decide +kernel
theorem dX6_fillMostCounted_32 : decode cX6_fillMostCounted 32 = .ok (.iload_n 3, 1) := by decide +kernel
theorem dX6_fillMostCounted_33 : decode cX6_fillMostCounted 33 = .ok (.invokestatic 252, 3) := by decide +kernel
theorem dX6_fillMostCounted_36 : decode cX6_fillMostCounted 36 = .ok (.ifCond .ne 14, 3) := by decide +kernel
theorem dX6_fillMostCounted_39 : decode cX6_fillMostCounted 39 = .ok (.iload_n 2, 1) := by decide +kernel
theorem dX6_fillMostCounted_40 : decode cX6_fillMostCounted 40 = .ok (.aload_n 0, 1) := by decide +kernel
theorem dX6_fillMostCounted_41 : decode cX6_fillMostCounted 41 = .ok (.iload_n 1, 1) := by decide +kernel
theorem dX6_fillMostCounted_42 : decode cX6_fillMostCounted 42 = .ok (.iload_n 3, 1) := by decide +kernel
theorem dX6_fillMostCounted_43 : decode cX6_fillMostCounted 43 = .ok (.invokevirtual 381, 3) := by decide +kernel
theorem dX6_fillMostCounted_46 : decode cX6_fillMostCounted 46 = .ok (.invokestatic 384, 3) := by decide +kernel
theorem dX6_fillMostCounted_49 : decode cX6_fillMostCounted 49 = .ok (.istore_n 2, 1) := by decide +kernel
theorem dX6_fillMostCounted_50 : decode cX6_fillMostCounted 50 = .ok (.iinc 3 1, 3) := by decide +kernel
theorem dX6_fillMostCounted_53 : decode cX6_fillMostCounted 53 = .ok (.goto (-33), 3) := by decide +kernel
theorem dX6_fillMostCounted_56 : decode cX6_fillMostCounted 56 = .ok (.aload_n 0, 1) := by decide +kernel
theorem dX6_fillMostCounted_57 : decode cX6_fillMostCounted 57 = .ok (.getfield 73, 3) := by decide +kernel
theorem dX6_fillMostCounted_60 : decode cX6_fillMostCounted 60 = .ok (.iload_n 1, 1) := by decide +kernel
theorem dX6_fillMostCounted_61 : decode cX6_fillMostCounted 61 = .ok (.iload_n 2, 1) := by decide +kernel
theorem dX6_fillMostCounted_62 : decode cX6_fillMostCounted 62 = .ok (.invokestatic 105, 3) := by decide +kernel
theorem dX6_fillMostCounted_65 : decode cX6_fillMostCounted 65 = .ok (.iinc 1 (-1), 3) := by decide +kernel
theorem dX6_fillMostCounted_68 : decode cX6_fillMostCounted 68 = .ok (.goto (-56), 3) := by decide +kernel
theorem dX6_fillMostCounted_71 : decode cX6_fillMostCounted 71 = .ok (.return_, 1) := by decide +kernel
def F_X6_fillMostCounted_20 (fu : Nat) (k12 : Mm → Int32 → Option Mm) : Nat → Mm → Int32 → Int32 → Int32 → Option Mm
  | 0, _, _, _, _ => none
  | n + 1, M, x1, x2, x3 =>
    if (M.1 24 0) ≤ x3 then
      ob1 (F_X6_write fu M 85 x1 x2) (fun M3 =>
      k12 M3 (x1 + (-1 : Int32)))
    else
      ob1 (F_X6_isIn fu M x1 x3) (fun r5 =>
      if r5 = 0 then
        ob1 (F_X6_countedFrom fu M x1 x3) (fun r8 =>
        F_X6_fillMostCounted_20 fu k12 n M x1 (zmx x2 r8) (x3 + (1 : Int32)))
      else
        F_X6_fillMostCounted_20 fu k12 n M x1 x2 (x3 + (1 : Int32)))
set_option maxRecDepth 100000 in
set_option maxHeartbeats 4000000 in
theorem w_X6_fillMostCounted_20 {p : Program} {l : Launch} {e : Env} {s : State} {m : MethodId} {args : Array Value} {below : List Frame} {meth : Method} {c : Code} {G : Gv} (hC : Cx p s m args meth c cX6_fillMostCounted 4 none RX6) {fu : Nat} {M' : Mm} {k12 : Mm → Int32 → Option Mm} (hk_12 : ∀ {x1 : Int32} {M : Mm} {H : Heap} {locs : List Loc} {ls : Array Slot}, k12 M x1 = some M' → St G s H locs M → lv_has ls 4 [(0, .ref (ad G 0)), (1, .int x1)] → W p l e rm_X6_fillMostCounted s m args below meth c H locs 0 0 (MQ below (QV G M') args s 0 0 (zA G)) (F0 m 12 ls [])) : ∀ (n : Nat) {x1 : Int32} {x2 : Int32} {x3 : Int32} {M : Mm} {H : Heap} {locs : List Loc} {ls : Array Slot}, F_X6_fillMostCounted_20 fu k12 n M x1 x2 x3 = some M' → St G s H locs M → lv_has ls 4 [(0, .ref (ad G 0)), (1, .int x1), (2, .int x2), (3, .int x3)] → W p l e rm_X6_fillMostCounted s m args below meth c H locs 0 0 (MQ below (QV G M') args s 0 0 (zA G)) (F0 m 20 ls []) := by
  intro n
  induction n with
  | zero =>
    intro x1 x2 x3 M H locs ls hF hw hl
    cases hF
  | succ n ih =>
    intro x1 x2 x3 M H locs ls hF hw hl
    unfold F_X6_fillMostCounted_20 at hF
    refine lv_iload_n hC.1 hC.2.1 dX6_fillMostCounted_20 rfl (lv_at hl 3 rfl) ?_
    refine lv_aload_n hC.1 hC.2.1 dX6_fillMostCounted_21 rfl (lv_at hl 0 rfl) ?_
    refine g6_north hC hw q1_202 dX6_fillMostCounted_22 ?_
    refine g2_men hC hw (rfl : kd 24 = 11) q1_32 dX6_fillMostCounted_25 ?_
    refine lv_icmp_ge (tgt := 56) hC.1 hC.2.1 dX6_fillMostCounted_28 (by decide) (fun b1 => ?_) (fun b1 => ?_)
    · have hF := ifP hF b1
      refine lv_aload_n hC.1 hC.2.1 dX6_fillMostCounted_56 rfl (lv_at hl 0 rfl) ?_
      refine g6_mostCounted hC hw q1_216 dX6_fillMostCounted_57 ?_
      refine lv_iload_n hC.1 hC.2.1 dX6_fillMostCounted_60 rfl (lv_at hl 1 rfl) ?_
      refine lv_iload_n hC.1 hC.2.1 dX6_fillMostCounted_61 rfl (lv_at hl 2 rfl) ?_
      obtain ⟨M3, h2, hF⟩ := ob1S hF
      refine k_Sv (As := [.ref (ad G 85), .int x1, .int x2]) (rest := []) hC hw (c_X6_write (M := M) (rfl : kd 85 = 1) h2) ys_X6_write q2_27 ⟨rfl, rfl⟩ ⟨Nat.le_of_ble_eq_true rfl, Nat.le_of_ble_eq_true rfl⟩ ⟨Nat.zero_le _, Nat.zero_le _⟩ rfl rfl (Nat.le_of_ble_eq_true rfl) hl dX6_fillMostCounted_62 (fun H locs hw => ?_)
      refine lv_iinc (v := (x1 + (-1 : Int32))) (lv' := [(1, .int (x1 + (-1 : Int32))), (0, .ref (ad G 0)), (2, .int x2), (3, .int x3)]) hC.1 hC.2.1 dX6_fillMostCounted_65 hl (k := 1) rfl rfl (by decide) rfl (fun ls hl => ?_)
      refine lv_goto (tgt := 12) hC.1 hC.2.1 dX6_fillMostCounted_68 (by decide) ?_
      exact hk_12 hF hw (lv_sub hl [1, 0] rfl)
    · have hF := ifN hF b1
      refine lv_iload_n hC.1 hC.2.1 dX6_fillMostCounted_31 rfl (lv_at hl 1 rfl) ?_
      refine lv_iload_n hC.1 hC.2.1 dX6_fillMostCounted_32 rfl (lv_at hl 3 rfl) ?_
      obtain ⟨r5, h4, hF⟩ := ob1S hF
      refine k_Si (As := [.int x1, .int x3]) (rest := []) hC hw (c_X6_isIn (M := M) h4) ys_X6_isIn q3_118 ⟨rfl, rfl⟩ ⟨Nat.le_of_ble_eq_true rfl, Nat.le_of_ble_eq_true rfl⟩ ⟨Nat.zero_le _, Nat.zero_le _⟩ rfl rfl (Nat.le_of_ble_eq_true rfl) hl dX6_fillMostCounted_33 (fun H locs hw => ?_)
      refine lv_if_ne (tgt := 50) hC.1 hC.2.1 dX6_fillMostCounted_36 (by decide) (fun b6 => ?_) (fun b6 => ?_)
      · have hF := ifN hF b6
        refine lv_iinc (v := (x3 + (1 : Int32))) (lv' := [(3, .int (x3 + (1 : Int32))), (0, .ref (ad G 0)), (1, .int x1), (2, .int x2)]) hC.1 hC.2.1 dX6_fillMostCounted_50 hl (k := 3) rfl rfl (by decide) rfl (fun ls hl => ?_)
        refine lv_goto (tgt := 20) hC.1 hC.2.1 dX6_fillMostCounted_53 (by decide) ?_
        exact ih hF hw (lv_sub hl [1, 2, 3, 0] rfl)
      · have hF := ifP hF b6
        refine lv_iload_n hC.1 hC.2.1 dX6_fillMostCounted_39 rfl (lv_at hl 2 rfl) ?_
        refine lv_aload_n hC.1 hC.2.1 dX6_fillMostCounted_40 rfl (lv_at hl 0 rfl) ?_
        refine lv_iload_n hC.1 hC.2.1 dX6_fillMostCounted_41 rfl (lv_at hl 1 rfl) ?_
        refine lv_iload_n hC.1 hC.2.1 dX6_fillMostCounted_42 rfl (lv_at hl 3 rfl) ?_
        obtain ⟨r8, h7, hF⟩ := ob1S hF
        refine k_Vi (As := [.int x1, .int x3]) (rest := [.int x2]) hC hw (c_X6_countedFrom (M := M) h7) RC_S yv_X6_countedFrom q3_166 ⟨rfl, rfl⟩ ⟨Nat.le_of_ble_eq_true rfl, Nat.le_of_ble_eq_true rfl⟩ ⟨Nat.zero_le _, Nat.zero_le _⟩ rfl rfl (Nat.le_of_ble_eq_true rfl) hl dX6_fillMostCounted_43 (fun H locs hw => ?_)
        refine r_max ⟨hC.1, hC.2.1, by rw [hC.2.2.1]; exact hl.1.symm, hC.2.2.2.1, hC.2.2.2.2.1⟩ q3_174 ⟨Nat.le_of_ble_eq_true rfl, Nat.le_of_ble_eq_true rfl⟩ ⟨Nat.zero_le _, Nat.zero_le _⟩ dX6_fillMostCounted_46 ?_
        refine lv_istore_n (lv' := [(2, .int (zmx x2 r8)), (0, .ref (ad G 0)), (1, .int x1), (3, .int x3)]) hC.1 hC.2.1 dX6_fillMostCounted_49 rfl hl (by decide) rfl (fun ls hl => ?_)
        refine lv_iinc (v := (x3 + (1 : Int32))) (lv' := [(3, .int (x3 + (1 : Int32))), (2, .int (zmx x2 r8)), (0, .ref (ad G 0)), (1, .int x1)]) hC.1 hC.2.1 dX6_fillMostCounted_50 hl (k := 3) rfl rfl (by decide) rfl (fun ls hl => ?_)
        refine lv_goto (tgt := 20) hC.1 hC.2.1 dX6_fillMostCounted_53 (by decide) ?_
        exact ih hF hw (lv_sub hl [2, 3, 1, 0] rfl)
def F_X6_fillMostCounted_12 (fu : Nat) : Nat → Mm → Int32 → Option Mm
  | 0, _, _ => none
  | n + 1, M, x1 =>
    if x1 < 0 then
      some M
    else
      F_X6_fillMostCounted_20 fu (F_X6_fillMostCounted_12 fu n) fu M x1 (0 : Int32) (0 : Int32)
set_option maxRecDepth 100000 in
set_option maxHeartbeats 4000000 in
theorem w_X6_fillMostCounted_12 {p : Program} {l : Launch} {e : Env} {s : State} {m : MethodId} {args : Array Value} {below : List Frame} {meth : Method} {c : Code} {G : Gv} (hC : Cx p s m args meth c cX6_fillMostCounted 4 none RX6) {fu : Nat} {M' : Mm} : ∀ (n : Nat) {x1 : Int32} {M : Mm} {H : Heap} {locs : List Loc} {ls : Array Slot}, F_X6_fillMostCounted_12 fu n M x1 = some M' → St G s H locs M → lv_has ls 4 [(0, .ref (ad G 0)), (1, .int x1)] → W p l e rm_X6_fillMostCounted s m args below meth c H locs 0 0 (MQ below (QV G M') args s 0 0 (zA G)) (F0 m 12 ls []) := by
  intro n
  induction n with
  | zero =>
    intro x1 M H locs ls hF hw hl
    cases hF
  | succ n ih =>
    intro x1 M H locs ls hF hw hl
    unfold F_X6_fillMostCounted_12 at hF
    refine lv_iload_n hC.1 hC.2.1 dX6_fillMostCounted_12 rfl (lv_at hl 1 rfl) ?_
    refine lv_if_lt (tgt := 71) hC.1 hC.2.1 dX6_fillMostCounted_13 (by decide) (fun b1 => ?_) (fun b1 => ?_)
    · have hF := ifP hF b1
      exact r_vretE hC hw hF dX6_fillMostCounted_71
    · have hF := ifN hF b1
      refine lv_iconst (v := (0 : Int32)) hC.1 hC.2.1 dX6_fillMostCounted_16 (by decide) ?_
      refine lv_istore_n (lv' := [(2, .int (0 : Int32)), (0, .ref (ad G 0)), (1, .int x1)]) hC.1 hC.2.1 dX6_fillMostCounted_17 rfl hl (by decide) rfl (fun ls hl => ?_)
      refine lv_iconst (v := (0 : Int32)) hC.1 hC.2.1 dX6_fillMostCounted_18 (by decide) ?_
      refine lv_istore_n (lv' := [(3, .int (0 : Int32)), (2, .int (0 : Int32)), (0, .ref (ad G 0)), (1, .int x1)]) hC.1 hC.2.1 dX6_fillMostCounted_19 rfl hl (by decide) rfl (fun ls hl => ?_)
      exact w_X6_fillMostCounted_20 hC (hk_12 := ih) _ hF hw (lv_sub hl [2, 3, 1, 0] rfl)
def F_X6_fillMostCounted (fu : Nat) (M : Mm) : Option Mm :=
  lt1 (((1 : Int32) <<< ((M.1 24 0) &&& 31)) - (1 : Int32)) (fun y1 =>
  F_X6_fillMostCounted_12 fu fu M y1)
set_option maxRecDepth 100000 in
set_option maxHeartbeats 4000000 in
theorem c_X6_fillMostCounted {l : Launch} {G : Gv} {fu : Nat} {M : Mm} {M' : Mm} (hF : F_X6_fillMostCounted fu M = some M') : Met l yX6_fillMostCounted (.code yX6_fillMostCounted cX6_fillMostCounted 4 none :: zU) rm_X6_fillMostCounted (va_Pc [.ref (ad G 0)] (Wd G M)) (QV G M') 0 0 (zA G) := by
  refine zMet (by decide) rfl (Nat.le_of_ble_eq_true rfl) ?_
  intro p e s m below meth c hC hw ls hl
  have hl : lv_has ls 4 [(0, .ref (ad G 0))] := hl
  unfold F_X6_fillMostCounted at hF
  refine lv_iconst (v := (1 : Int32)) hC.1 hC.2.1 dX6_fillMostCounted_0 (by decide) ?_
  refine lv_aload_n hC.1 hC.2.1 dX6_fillMostCounted_1 rfl (lv_at hl 0 rfl) ?_
  refine g6_north hC hw q1_202 dX6_fillMostCounted_2 ?_
  refine g2_men hC hw (rfl : kd 24 = 11) q1_32 dX6_fillMostCounted_5 ?_
  refine lv_ishl hC.1 hC.2.1 dX6_fillMostCounted_8 ?_
  refine lv_iconst (v := (1 : Int32)) hC.1 hC.2.1 dX6_fillMostCounted_9 (by decide) ?_
  refine lv_isub hC.1 hC.2.1 dX6_fillMostCounted_10 ?_
  refine lv_topi (fun y1 ey1 => ?_)
  have hF := lt1G hF ey1
  refine lv_istore_n (lv' := [(1, .int y1), (0, .ref (ad G 0))]) hC.1 hC.2.1 dX6_fillMostCounted_11 rfl hl (by decide) rfl (fun ls hl => ?_)
  exact w_X6_fillMostCounted_12 hC _ hF hw (lv_sub hl [1, 0] rfl)
abbrev rm_X6_nextCounted : Room := { frames := 3, cells := 0, slots := 0, locals := 65 }
theorem yv_X6_nextCounted : YV yX6_nextCounted cX6_nextCounted 4 (some .int) 1 RX6 := ⟨⟨q3_177, qs_21, q1_1, q3_178⟩, by decide +kernel⟩
theorem dX6_nextCounted_0 : decode cX6_nextCounted 0 = .ok (.aload_n 0, 1) := by decide +kernel
theorem dX6_nextCounted_1 : decode cX6_nextCounted 1 = .ok (.getfield 73, 3) := by decide +kernel
theorem dX6_nextCounted_4 : decode cX6_nextCounted 4 = .ok (.iload_n 1, 1) := by decide +kernel
theorem dX6_nextCounted_5 : decode cX6_nextCounted 5 = .ok (.invokestatic 101, 3) := by decide +kernel
theorem dX6_nextCounted_8 : decode cX6_nextCounted 8 = .ok (.istore_n 2, 1) := by decide +kernel
theorem dX6_nextCounted_9 : decode cX6_nextCounted 9 = .ok (.iconst 0, 1) := by decide +kernel
theorem dX6_nextCounted_10 : decode cX6_nextCounted 10 = .ok (.istore_n 3, 1) := by decide +kernel
theorem dX6_nextCounted_11 : decode cX6_nextCounted 11 = .ok (.iload_n 3, 1) := by decide +kernel
theorem dX6_nextCounted_12 : decode cX6_nextCounted 12 = .ok (.aload_n 0, 1) := by decide +kernel
theorem dX6_nextCounted_13 : decode cX6_nextCounted 13 = .ok (.getfield 24, 3) := by decide +kernel
theorem dX6_nextCounted_16 : decode cX6_nextCounted 16 = .ok (.getfield 152, 3) := by decide +kernel
theorem dX6_nextCounted_19 : decode cX6_nextCounted 19 = .ok (.if_icmp .ge 29, 3) := by decide +kernel
theorem dX6_nextCounted_22 : decode cX6_nextCounted 22 = .ok (.iload_n 1, 1) := by decide +kernel
theorem dX6_nextCounted_23 : decode cX6_nextCounted 23 = .ok (.iload_n 3, 1) := by decide +kernel
theorem dX6_nextCounted_24 : decode cX6_nextCounted 24 = .ok (.invokestatic 252, 3) := by decide +kernel
theorem dX6_nextCounted_27 : decode cX6_nextCounted 27 = .ok (.ifCond .ne 15, 3) := by decide +kernel
theorem dX6_nextCounted_30 : decode cX6_nextCounted 30 = .ok (.aload_n 0, 1) := by decide +kernel
theorem dX6_nextCounted_31 : decode cX6_nextCounted 31 = .ok (.iload_n 1, 1) := by decide +kernel
theorem dX6_nextCounted_32 : decode cX6_nextCounted 32 = .ok (.iload_n 3, 1) := by decide +kernel
theorem dX6_nextCounted_33 : decode cX6_nextCounted 33 = .ok (.invokevirtual 381, 3) := by decide +kernel
theorem dX6_nextCounted_36 : decode cX6_nextCounted 36 = .ok (.iload_n 2, 1) := by decide +kernel
theorem dX6_nextCounted_37 : decode cX6_nextCounted 37 = .ok (.if_icmp .ne 5, 3) := by decide +kernel
theorem dX6_nextCounted_40 : decode cX6_nextCounted 40 = .ok (.iload_n 3, 1) := by decide +kernel
theorem dX6_nextCounted_41 : decode cX6_nextCounted 41 = .ok (.ireturn, 1) := by decide +kernel
theorem dX6_nextCounted_42 : decode cX6_nextCounted 42 = .ok (.iinc 3 1, 3) := by decide +kernel
theorem dX6_nextCounted_45 : decode cX6_nextCounted 45 = .ok (.goto (-34), 3) := by decide +kernel
theorem dX6_nextCounted_48 : decode cX6_nextCounted 48 = .ok (.iconst 0, 1) := by decide +kernel
theorem dX6_nextCounted_49 : decode cX6_nextCounted 49 = .ok (.ireturn, 1) := by decide +kernel
def F_X6_nextCounted_11 (fu : Nat) (M : Mm) : Nat → Int32 → Int32 → Int32 → Option Int32
  | 0, _, _, _ => none
  | n + 1, x1, x2, x3 =>
    if (M.1 24 0) ≤ x3 then
      some (0 : Int32)
    else
      ob1 (F_X6_isIn fu M x1 x3) (fun r3 =>
      if r3 = 0 then
        ob1 (F_X6_countedFrom fu M x1 x3) (fun r6 =>
        if r6 = x2 then
          some x3
        else
          F_X6_nextCounted_11 fu M n x1 x2 (x3 + (1 : Int32)))
      else
        F_X6_nextCounted_11 fu M n x1 x2 (x3 + (1 : Int32)))
set_option maxRecDepth 100000 in
set_option maxHeartbeats 4000000 in
theorem w_X6_nextCounted_11 {p : Program} {l : Launch} {e : Env} {s : State} {m : MethodId} {args : Array Value} {below : List Frame} {meth : Method} {c : Code} {G : Gv} (hC : Cx p s m args meth c cX6_nextCounted 4 (some .int) RX6) {fu : Nat} {r : Int32} {M : Mm} : ∀ (n : Nat) {x1 : Int32} {x2 : Int32} {x3 : Int32} {H : Heap} {locs : List Loc} {ls : Array Slot}, F_X6_nextCounted_11 fu M n x1 x2 x3 = some r → St G s H locs M → lv_has ls 4 [(0, .ref (ad G 0)), (1, .int x1), (2, .int x2), (3, .int x3)] → W p l e rm_X6_nextCounted s m args below meth c H locs 0 0 (MQ below (QI G r M) args s 0 0 (zA G)) (F0 m 11 ls []) := by
  intro n
  induction n with
  | zero =>
    intro x1 x2 x3 H locs ls hF hw hl
    cases hF
  | succ n ih =>
    intro x1 x2 x3 H locs ls hF hw hl
    unfold F_X6_nextCounted_11 at hF
    refine lv_iload_n hC.1 hC.2.1 dX6_nextCounted_11 rfl (lv_at hl 3 rfl) ?_
    refine lv_aload_n hC.1 hC.2.1 dX6_nextCounted_12 rfl (lv_at hl 0 rfl) ?_
    refine g6_north hC hw q1_202 dX6_nextCounted_13 ?_
    refine g2_men hC hw (rfl : kd 24 = 11) q1_32 dX6_nextCounted_16 ?_
    refine lv_icmp_ge (tgt := 48) hC.1 hC.2.1 dX6_nextCounted_19 (by decide) (fun b1 => ?_) (fun b1 => ?_)
    · have hF := ifP hF b1
      refine lv_iconst (v := (0 : Int32)) hC.1 hC.2.1 dX6_nextCounted_48 (by decide) ?_
      exact r_iretP hC hw hF dX6_nextCounted_49
    · have hF := ifN hF b1
      refine lv_iload_n hC.1 hC.2.1 dX6_nextCounted_22 rfl (lv_at hl 1 rfl) ?_
      refine lv_iload_n hC.1 hC.2.1 dX6_nextCounted_23 rfl (lv_at hl 3 rfl) ?_
      obtain ⟨r3, h2, hF⟩ := ob1S hF
      refine k_Si (As := [.int x1, .int x3]) (rest := []) hC hw (c_X6_isIn (M := M) h2) ys_X6_isIn q3_118 ⟨rfl, rfl⟩ ⟨Nat.le_of_ble_eq_true rfl, Nat.le_of_ble_eq_true rfl⟩ ⟨Nat.zero_le _, Nat.zero_le _⟩ rfl rfl (Nat.le_of_ble_eq_true rfl) hl dX6_nextCounted_24 (fun H locs hw => ?_)
      refine lv_if_ne (tgt := 42) hC.1 hC.2.1 dX6_nextCounted_27 (by decide) (fun b4 => ?_) (fun b4 => ?_)
      · have hF := ifN hF b4
        refine lv_iinc (v := (x3 + (1 : Int32))) (lv' := [(3, .int (x3 + (1 : Int32))), (0, .ref (ad G 0)), (1, .int x1), (2, .int x2)]) hC.1 hC.2.1 dX6_nextCounted_42 hl (k := 3) rfl rfl (by decide) rfl (fun ls hl => ?_)
        refine lv_goto (tgt := 11) hC.1 hC.2.1 dX6_nextCounted_45 (by decide) ?_
        exact ih hF hw (lv_sub hl [1, 2, 3, 0] rfl)
      · have hF := ifP hF b4
        refine lv_aload_n hC.1 hC.2.1 dX6_nextCounted_30 rfl (lv_at hl 0 rfl) ?_
        refine lv_iload_n hC.1 hC.2.1 dX6_nextCounted_31 rfl (lv_at hl 1 rfl) ?_
        refine lv_iload_n hC.1 hC.2.1 dX6_nextCounted_32 rfl (lv_at hl 3 rfl) ?_
        obtain ⟨r6, h5, hF⟩ := ob1S hF
        refine k_Vi (As := [.int x1, .int x3]) (rest := []) hC hw (c_X6_countedFrom (M := M) h5) RC_S yv_X6_countedFrom q3_166 ⟨rfl, rfl⟩ ⟨Nat.le_of_ble_eq_true rfl, Nat.le_of_ble_eq_true rfl⟩ ⟨Nat.zero_le _, Nat.zero_le _⟩ rfl rfl (Nat.le_of_ble_eq_true rfl) hl dX6_nextCounted_33 (fun H locs hw => ?_)
        refine lv_iload_n hC.1 hC.2.1 dX6_nextCounted_36 rfl (lv_at hl 2 rfl) ?_
        refine lv_icmp_ne (tgt := 42) hC.1 hC.2.1 dX6_nextCounted_37 (by decide) (fun b7 => ?_) (fun b7 => ?_)
        · have hF := ifN hF b7
          refine lv_iinc (v := (x3 + (1 : Int32))) (lv' := [(3, .int (x3 + (1 : Int32))), (0, .ref (ad G 0)), (1, .int x1), (2, .int x2)]) hC.1 hC.2.1 dX6_nextCounted_42 hl (k := 3) rfl rfl (by decide) rfl (fun ls hl => ?_)
          refine lv_goto (tgt := 11) hC.1 hC.2.1 dX6_nextCounted_45 (by decide) ?_
          exact ih hF hw (lv_sub hl [1, 2, 3, 0] rfl)
        · have hF := ifP hF b7
          refine lv_iload_n hC.1 hC.2.1 dX6_nextCounted_40 rfl (lv_at hl 3 rfl) ?_
          exact r_iretP hC hw hF dX6_nextCounted_41
def F_X6_nextCounted (fu : Nat) (M : Mm) (x1 : Int32) : Option Int32 :=
  ob1 (F_X6_read fu M 85 x1) (fun r2 =>
  F_X6_nextCounted_11 fu M fu x1 r2 (0 : Int32))
set_option maxRecDepth 100000 in
set_option maxHeartbeats 4000000 in
theorem c_X6_nextCounted {l : Launch} {G : Gv} {fu : Nat} {M : Mm} {x1 : Int32} {r : Int32} (hF : F_X6_nextCounted fu M x1 = some r) : Met l yX6_nextCounted (.code yX6_nextCounted cX6_nextCounted 4 (some .int) :: zU) rm_X6_nextCounted (va_Pc [.ref (ad G 0), .int x1] (Wd G M)) (QI G r M) 0 0 (zA G) := by
  refine zMet (by decide) rfl (Nat.le_of_ble_eq_true rfl) ?_
  intro p e s m below meth c hC hw ls hl
  have hl : lv_has ls 4 [(0, .ref (ad G 0)), (1, .int x1)] := hl
  unfold F_X6_nextCounted at hF
  refine lv_aload_n hC.1 hC.2.1 dX6_nextCounted_0 rfl (lv_at hl 0 rfl) ?_
  refine g6_mostCounted hC hw q1_216 dX6_nextCounted_1 ?_
  refine lv_iload_n hC.1 hC.2.1 dX6_nextCounted_4 rfl (lv_at hl 1 rfl) ?_
  obtain ⟨r2, h1, hF⟩ := ob1S hF
  refine k_Si (As := [.ref (ad G 85), .int x1]) (rest := []) hC hw (c_X6_read (M := M) (rfl : kd 85 = 1) h1) ys_X6_read q2_24 ⟨rfl, rfl⟩ ⟨Nat.le_of_ble_eq_true rfl, Nat.le_of_ble_eq_true rfl⟩ ⟨Nat.zero_le _, Nat.zero_le _⟩ rfl rfl (Nat.le_of_ble_eq_true rfl) hl dX6_nextCounted_5 (fun H locs hw => ?_)
  refine lv_istore_n (lv' := [(2, .int r2), (0, .ref (ad G 0)), (1, .int x1)]) hC.1 hC.2.1 dX6_nextCounted_8 rfl hl (by decide) rfl (fun ls hl => ?_)
  refine lv_iconst (v := (0 : Int32)) hC.1 hC.2.1 dX6_nextCounted_9 (by decide) ?_
  refine lv_istore_n (lv' := [(3, .int (0 : Int32)), (2, .int r2), (0, .ref (ad G 0)), (1, .int x1)]) hC.1 hC.2.1 dX6_nextCounted_10 rfl hl (by decide) rfl (fun ls hl => ?_)
  exact w_X6_nextCounted_11 hC _ hF hw (lv_sub hl [2, 3, 1, 0] rfl)
abbrev rm_X6_census : Room := { frames := 5, cells := 0, slots := 0, locals := 122 }
theorem yv_X6_census : YV yX6_census cX6_census 6 (some .int) 1 RX6 := ⟨⟨q3_154, q3_155, q1_1, q3_156⟩, by decide +kernel⟩
theorem dX6_census_0 : decode cX6_census 0 = .ok (.aload_n 0, 1) := by decide +kernel
theorem dX6_census_1 : decode cX6_census 1 = .ok (.iload_n 1, 1) := by decide +kernel
theorem dX6_census_2 : decode cX6_census 2 = .ok (.invokevirtual 78, 3) := by decide +kernel
theorem dX6_census_5 : decode cX6_census 5 = .ok (.astore_n 2, 1) := by decide +kernel
theorem dX6_census_6 : decode cX6_census 6 = .ok (.aload_n 2, 1) := by decide +kernel
theorem dX6_census_7 : decode cX6_census 7 = .ok (.ifnonnull 5, 3) := by decide +kernel
theorem dX6_census_10 : decode cX6_census 10 = .ok (.iconst (-1), 1) := by decide +kernel
theorem dX6_census_11 : decode cX6_census 11 = .ok (.ireturn, 1) := by decide +kernel
theorem dX6_census_12 : decode cX6_census 12 = .ok (.aload_n 0, 1) := by decide +kernel
theorem dX6_census_13 : decode cX6_census 13 = .ok (.getfield 24, 3) := by decide +kernel
theorem dX6_census_16 : decode cX6_census 16 = .ok (.getfield 152, 3) := by decide +kernel
theorem dX6_census_19 : decode cX6_census 19 = .ok (.ifCond .ne 6, 3) := by decide +kernel
theorem dX6_census_22 : decode cX6_census 22 = .ok (.bipush (-4), 2) := by decide +kernel
theorem dX6_census_24 : decode cX6_census 24 = .ok (.ireturn, 1) := by decide +kernel
theorem dX6_census_25 : decode cX6_census 25 = .ok (.aload_n 0, 1) := by decide +kernel
theorem dX6_census_26 : decode cX6_census 26 = .ok (.getfield 24, 3) := by decide +kernel
theorem dX6_census_29 : decode cX6_census 29 = .ok (.aload_n 0, 1) := by decide +kernel
theorem dX6_census_30 : decode cX6_census 30 = .ok (.getfield 61, 3) := by decide +kernel
theorem dX6_census_33 : decode cX6_census 33 = .ok (.invokevirtual 280, 3) := by decide +kernel
theorem dX6_census_36 : decode cX6_census 36 = .ok (.aload_n 0, 1) := by decide +kernel
theorem dX6_census_37 : decode cX6_census 37 = .ok (.invokevirtual 284, 3) := by decide +kernel
theorem dX6_census_40 : decode cX6_census 40 = .ok (.iconst 0, 1) := by decide +kernel
theorem dX6_census_41 : decode cX6_census 41 = .ok (.istore_n 3, 1) := by decide +kernel
theorem dX6_census_42 : decode cX6_census 42 = .ok (.iconst 0, 1) := by decide +kernel
theorem dX6_census_43 : decode cX6_census 43 = .ok (.istore 4, 2) := by decide +kernel
theorem dX6_census_45 : decode cX6_census 45 = .ok (.iload 4, 2) := by decide +kernel
theorem dX6_census_47 : decode cX6_census 47 = .ok (.aload_n 0, 1) := by decide +kernel
theorem dX6_census_48 : decode cX6_census 48 = .ok (.getfield 24, 3) := by decide +kernel
theorem dX6_census_51 : decode cX6_census 51 = .ok (.getfield 152, 3) := by decide +kernel
theorem dX6_census_54 : decode cX6_census 54 = .ok (.if_icmp .ge 34, 3) := by decide +kernel
theorem dX6_census_57 : decode cX6_census 57 = .ok (.aload_n 0, 1) := by decide +kernel
theorem dX6_census_58 : decode cX6_census 58 = .ok (.iload_n 3, 1) := by decide +kernel
theorem dX6_census_59 : decode cX6_census 59 = .ok (.invokevirtual 287, 3) := by decide +kernel
theorem dX6_census_62 : decode cX6_census 62 = .ok (.istore 5, 2) := by decide +kernel
theorem dX6_census_64 : decode cX6_census 64 = .ok (.aload_n 0, 1) := by decide +kernel
theorem dX6_census_65 : decode cX6_census 65 = .ok (.getfield 64, 3) := by decide +kernel
theorem dX6_census_68 : decode cX6_census 68 = .ok (.iload 4, 2) := by decide +kernel
theorem dX6_census_70 : decode cX6_census 70 = .ok (.iload 5, 2) := by decide +kernel
theorem dX6_census_72 : decode cX6_census 72 = .ok (.invokestatic 105, 3) := by decide +kernel
theorem dX6_census_75 : decode cX6_census 75 = .ok (.iload_n 3, 1) := by decide +kernel
theorem dX6_census_76 : decode cX6_census 76 = .ok (.iconst 1, 1) := by decide +kernel
theorem dX6_census_77 : decode cX6_census 77 = .ok (.iload 5, 2) := by decide +kernel
theorem dX6_census_79 : decode cX6_census 79 = .ok (.ishl, 1) := by decide +kernel
theorem dX6_census_80 : decode cX6_census 80 = .ok (.ior, 1) := by decide +kernel
theorem dX6_census_81 : decode cX6_census 81 = .ok (.istore_n 3, 1) := by decide +kernel
theorem dX6_census_82 : decode cX6_census 82 = .ok (.iinc 4 1, 3) := by decide +kernel
theorem dX6_census_85 : decode cX6_census 85 = .ok (.goto (-40), 3) := by decide +kernel
theorem dX6_census_88 : decode cX6_census 88 = .ok (.aload_n 2, 1) := by decide +kernel
theorem dX6_census_89 : decode cX6_census 89 = .ok (.aload_n 0, 1) := by decide +kernel
theorem dX6_census_90 : decode cX6_census 90 = .ok (.getfield 64, 3) := by decide +kernel
theorem dX6_census_93 : decode cX6_census 93 = .ok (.aload_n 0, 1) := by decide +kernel
theorem dX6_census_94 : decode cX6_census 94 = .ok (.getfield 24, 3) := by decide +kernel
theorem dX6_census_97 : decode cX6_census 97 = .ok (.getfield 152, 3) := by decide +kernel
theorem dX6_census_100 : decode cX6_census 100 = .ok (.invokevirtual 258, 3) := by decide +kernel
theorem dX6_census_103 : decode cX6_census 103 = .ok (.aload_n 0, 1) := by decide +kernel
theorem dX6_census_104 : decode cX6_census 104 = .ok (.getfield 73, 3) := by decide +kernel
theorem dX6_census_107 : decode cX6_census 107 = .ok (.iconst 0, 1) := by decide +kernel
theorem dX6_census_108 : decode cX6_census 108 = .ok (.invokestatic 101, 3) := by decide +kernel
theorem dX6_census_111 : decode cX6_census 111 = .ok (.ireturn, 1) := by decide +kernel
def F_X6_census_45 (fu : Nat) : Nat → Mm → Nat → Int32 → Int32 → Option (Int32 × Mm)
  | 0, _, _, _, _ => none
  | n + 1, M, c2, x3, x4 =>
    if (M.1 24 0) ≤ x4 then
      ob1 (F_X4_take fu M c2 82 (M.1 24 0)) (fun M3 =>
      ob1 (F_X6_read fu M3 85 (0 : Int32)) (fun r5 =>
      some (r5, M3)))
    else
      ob1 (F_X6_nextCounted fu M x3) (fun r7 =>
      ob1 (F_X6_write fu M 82 x4 r7) (fun M9 =>
      F_X6_census_45 fu n M9 c2 (x3 ||| ((1 : Int32) <<< (r7 &&& 31))) (x4 + (1 : Int32))))
set_option maxRecDepth 100000 in
set_option maxHeartbeats 4000000 in
theorem w_X6_census_45 {p : Program} {l : Launch} {e : Env} {s : State} {m : MethodId} {args : Array Value} {below : List Frame} {meth : Method} {c : Code} {G : Gv} (hC : Cx p s m args meth c cX6_census 6 (some .int) RX6) {fu : Nat} {r : Int32} {M' : Mm} : ∀ (n : Nat) {c2 : Nat} {x3 : Int32} {x4 : Int32} {M : Mm} {H : Heap} {locs : List Loc} {ls : Array Slot} (hk2 : kd c2 = 12), F_X6_census_45 fu n M c2 x3 x4 = some (r, M') → St G s H locs M → lv_has ls 6 [(0, .ref (ad G 0)), (2, .ref (ad G c2)), (3, .int x3), (4, .int x4)] → W p l e rm_X6_census s m args below meth c H locs 0 0 (MQ below (QI G r M') args s 0 0 (zA G)) (F0 m 45 ls []) := by
  intro n
  induction n with
  | zero =>
    intro c2 x3 x4 M H locs ls hk2 hF hw hl
    cases hF
  | succ n ih =>
    intro c2 x3 x4 M H locs ls hk2 hF hw hl
    unfold F_X6_census_45 at hF
    refine lv_iload hC.1 hC.2.1 dX6_census_45 (lv_at hl 3 rfl) ?_
    refine lv_aload_n hC.1 hC.2.1 dX6_census_47 rfl (lv_at hl 0 rfl) ?_
    refine g6_north hC hw q1_202 dX6_census_48 ?_
    refine g2_men hC hw (rfl : kd 24 = 11) q1_32 dX6_census_51 ?_
    refine lv_icmp_ge (tgt := 88) hC.1 hC.2.1 dX6_census_54 (by decide) (fun b1 => ?_) (fun b1 => ?_)
    · have hF := ifP hF b1
      refine lv_aload_n hC.1 hC.2.1 dX6_census_88 rfl (lv_at hl 1 rfl) ?_
      refine lv_aload_n hC.1 hC.2.1 dX6_census_89 rfl (lv_at hl 0 rfl) ?_
      refine g6_plan hC hw q1_213 dX6_census_90 ?_
      refine lv_aload_n hC.1 hC.2.1 dX6_census_93 rfl (lv_at hl 0 rfl) ?_
      refine g6_north hC hw q1_202 dX6_census_94 ?_
      refine g2_men hC hw (rfl : kd 24 = 11) q1_32 dX6_census_97 ?_
      obtain ⟨M3, h2, hF⟩ := ob1S hF
      refine k_Vv (As := [.ref (ad G 82), .int (M.1 24 0)]) (rest := []) hC hw (c_X4_take (M := M) hk2 (rfl : kd 82 = 1) h2) (RC_R hk2) yv_X4_take q3_123 ⟨rfl, rfl⟩ ⟨Nat.le_of_ble_eq_true rfl, Nat.le_of_ble_eq_true rfl⟩ ⟨Nat.zero_le _, Nat.zero_le _⟩ rfl rfl (Nat.le_of_ble_eq_true rfl) hl dX6_census_100 (fun H locs hw => ?_)
      refine lv_aload_n hC.1 hC.2.1 dX6_census_103 rfl (lv_at hl 0 rfl) ?_
      refine g6_mostCounted hC hw q1_216 dX6_census_104 ?_
      refine lv_iconst (v := (0 : Int32)) hC.1 hC.2.1 dX6_census_107 (by decide) ?_
      obtain ⟨r5, h4, hF⟩ := ob1S hF
      refine k_Si (As := [.ref (ad G 85), .int (0 : Int32)]) (rest := []) hC hw (c_X6_read (M := M3) (rfl : kd 85 = 1) h4) ys_X6_read q2_24 ⟨rfl, rfl⟩ ⟨Nat.le_of_ble_eq_true rfl, Nat.le_of_ble_eq_true rfl⟩ ⟨Nat.zero_le _, Nat.zero_le _⟩ rfl rfl (Nat.le_of_ble_eq_true rfl) hl dX6_census_108 (fun H locs hw => ?_)
      exact r_iretE hC hw hF dX6_census_111
    · have hF := ifN hF b1
      refine lv_aload_n hC.1 hC.2.1 dX6_census_57 rfl (lv_at hl 0 rfl) ?_
      refine lv_iload_n hC.1 hC.2.1 dX6_census_58 rfl (lv_at hl 2 rfl) ?_
      obtain ⟨r7, h6, hF⟩ := ob1S hF
      refine k_Vi (As := [.int x3]) (rest := []) hC hw (c_X6_nextCounted (M := M) h6) RC_S yv_X6_nextCounted q3_175 ⟨rfl, rfl⟩ ⟨Nat.le_of_ble_eq_true rfl, Nat.le_of_ble_eq_true rfl⟩ ⟨Nat.zero_le _, Nat.zero_le _⟩ rfl rfl (Nat.le_of_ble_eq_true rfl) hl dX6_census_59 (fun H locs hw => ?_)
      refine lv_istore (lv' := [(5, .int r7), (0, .ref (ad G 0)), (2, .ref (ad G c2)), (3, .int x3), (4, .int x4)]) hC.1 hC.2.1 dX6_census_62 hl (by decide) rfl (fun ls hl => ?_)
      refine lv_aload_n hC.1 hC.2.1 dX6_census_64 rfl (lv_at hl 1 rfl) ?_
      refine g6_plan hC hw q1_213 dX6_census_65 ?_
      refine lv_iload hC.1 hC.2.1 dX6_census_68 (lv_at hl 4 rfl) ?_
      refine lv_iload hC.1 hC.2.1 dX6_census_70 (lv_at hl 0 rfl) ?_
      obtain ⟨M9, h8, hF⟩ := ob1S hF
      refine k_Sv (As := [.ref (ad G 82), .int x4, .int r7]) (rest := []) hC hw (c_X6_write (M := M) (rfl : kd 82 = 1) h8) ys_X6_write q2_27 ⟨rfl, rfl⟩ ⟨Nat.le_of_ble_eq_true rfl, Nat.le_of_ble_eq_true rfl⟩ ⟨Nat.zero_le _, Nat.zero_le _⟩ rfl rfl (Nat.le_of_ble_eq_true rfl) hl dX6_census_72 (fun H locs hw => ?_)
      refine lv_iload_n hC.1 hC.2.1 dX6_census_75 rfl (lv_at hl 3 rfl) ?_
      refine lv_iconst (v := (1 : Int32)) hC.1 hC.2.1 dX6_census_76 (by decide) ?_
      refine lv_iload hC.1 hC.2.1 dX6_census_77 (lv_at hl 0 rfl) ?_
      refine lv_ishl hC.1 hC.2.1 dX6_census_79 ?_
      refine lv_ior hC.1 hC.2.1 dX6_census_80 ?_
      refine lv_istore_n (lv' := [(3, .int (x3 ||| ((1 : Int32) <<< (r7 &&& 31)))), (5, .int r7), (0, .ref (ad G 0)), (2, .ref (ad G c2)), (4, .int x4)]) hC.1 hC.2.1 dX6_census_81 rfl hl (by decide) rfl (fun ls hl => ?_)
      refine lv_iinc (v := (x4 + (1 : Int32))) (lv' := [(4, .int (x4 + (1 : Int32))), (3, .int (x3 ||| ((1 : Int32) <<< (r7 &&& 31)))), (5, .int r7), (0, .ref (ad G 0)), (2, .ref (ad G c2))]) hC.1 hC.2.1 dX6_census_82 hl (k := 4) rfl rfl (by decide) rfl (fun ls hl => ?_)
      refine lv_goto (tgt := 45) hC.1 hC.2.1 dX6_census_85 (by decide) ?_
      exact ih hk2 hF hw (lv_sub hl [3, 4, 1, 0] rfl)
def F_X6_census (fu : Nat) (M : Mm) (x1 : Int32) : Option (Int32 × Mm) :=
  ob1 (F_X6_rowOf fu M x1) (fun r2 =>
  op1 r2 (
    some ((-1 : Int32), M)) (fun c3 =>
    if ¬ kd c3 = 12 then none else (
    if (M.1 24 0) = 0 then
      some ((-4 : Int32), M)
    else
      ob1 (F_X2_foreseeLiving fu M 24 81) (fun M7 =>
      ob1 (F_X6_fillMostCounted fu M7) (fun M9 =>
      F_X6_census_45 fu fu M9 c3 (0 : Int32) (0 : Int32))))))
set_option maxRecDepth 100000 in
set_option maxHeartbeats 4000000 in
theorem c_X6_census {l : Launch} {G : Gv} {fu : Nat} {M : Mm} {x1 : Int32} {r : Int32} {M' : Mm} (hF : F_X6_census fu M x1 = some (r, M')) : Met l yX6_census (.code yX6_census cX6_census 6 (some .int) :: zU) rm_X6_census (va_Pc [.ref (ad G 0), .int x1] (Wd G M)) (QI G r M') 0 0 (zA G) := by
  refine zMet (by decide) rfl (Nat.le_of_ble_eq_true rfl) ?_
  intro p e s m below meth c hC hw ls hl
  have hl : lv_has ls 6 [(0, .ref (ad G 0)), (1, .int x1)] := hl
  unfold F_X6_census at hF
  refine lv_aload_n hC.1 hC.2.1 dX6_census_0 rfl (lv_at hl 0 rfl) ?_
  refine lv_iload_n hC.1 hC.2.1 dX6_census_1 rfl (lv_at hl 1 rfl) ?_
  obtain ⟨r2, h1, hF⟩ := ob1S hF
  refine k_Vq (As := [.int x1]) (rest := []) hC hw (c_X6_rowOf (M := M) h1) RC_S yv_X6_rowOf q2_16 ⟨rfl, rfl⟩ ⟨Nat.le_of_ble_eq_true rfl, Nat.le_of_ble_eq_true rfl⟩ ⟨Nat.zero_le _, Nat.zero_le _⟩ rfl rfl (Nat.le_of_ble_eq_true rfl) hl dX6_census_2 (fun H locs hw => ?_)
  cases r2 with
  | none =>
    have hF := op1N hF
    refine topN ?_
    refine lv_astore_nN (lv' := [(2, .null), (0, .ref (ad G 0)), (1, .int x1)]) hC.1 hC.2.1 dX6_census_5 rfl hl (by decide) rfl (fun ls hl => ?_)
    refine lv_aload_nN hC.1 hC.2.1 dX6_census_6 rfl (lv_at hl 0 rfl) ?_
    refine lv_ifnonnullN hC.1 hC.2.1 dX6_census_7 ?_
    refine lv_iconst (v := (-1 : Int32)) hC.1 hC.2.1 dX6_census_10 (by decide) ?_
    exact r_iretE hC hw hF dX6_census_11
  | some c3 =>
    obtain ⟨g4, hF⟩ := ifO (op1C hF)
    have g4 := Decidable.not_not.mp g4
    refine topC ?_
    refine lv_astore_n (lv' := [(2, .ref (ad G c3)), (0, .ref (ad G 0)), (1, .int x1)]) hC.1 hC.2.1 dX6_census_5 rfl hl (by decide) rfl (fun ls hl => ?_)
    refine lv_aload_n hC.1 hC.2.1 dX6_census_6 rfl (lv_at hl 0 rfl) ?_
    refine lv_ifnonnull (tgt := 12) hC.1 hC.2.1 dX6_census_7 (by decide) ?_
    refine lv_aload_n hC.1 hC.2.1 dX6_census_12 rfl (lv_at hl 1 rfl) ?_
    refine g6_north hC hw q1_202 dX6_census_13 ?_
    refine g2_men hC hw (rfl : kd 24 = 11) q1_32 dX6_census_16 ?_
    refine lv_if_ne (tgt := 25) hC.1 hC.2.1 dX6_census_19 (by decide) (fun b5 => ?_) (fun b5 => ?_)
    · have hF := ifN hF b5
      refine lv_aload_n hC.1 hC.2.1 dX6_census_25 rfl (lv_at hl 1 rfl) ?_
      refine g6_north hC hw q1_202 dX6_census_26 ?_
      refine lv_aload_n hC.1 hC.2.1 dX6_census_29 rfl (lv_at hl 1 rfl) ?_
      refine g6_ahead hC hw q1_212 dX6_census_30 ?_
      obtain ⟨M7, h6, hF⟩ := ob1S hF
      refine k_Vv (As := [.ref (ad G 81)]) (rest := []) hC hw (c_X2_foreseeLiving (M := M) (rfl : kd 24 = 11) (rfl : kd 81 = 1) h6) (RC_N (rfl : kd 24 = 11)) yv_X2_foreseeLiving q3_157 ⟨rfl, rfl⟩ ⟨Nat.le_of_ble_eq_true rfl, Nat.le_of_ble_eq_true rfl⟩ ⟨Nat.zero_le _, Nat.zero_le _⟩ rfl rfl (Nat.le_of_ble_eq_true rfl) hl dX6_census_33 (fun H locs hw => ?_)
      refine lv_aload_n hC.1 hC.2.1 dX6_census_36 rfl (lv_at hl 1 rfl) ?_
      obtain ⟨M9, h8, hF⟩ := ob1S hF
      refine k_Vv (As := []) (rest := []) hC hw (c_X6_fillMostCounted (M := M7) h8) RC_S yv_X6_fillMostCounted q3_162 ⟨rfl, rfl⟩ ⟨Nat.le_of_ble_eq_true rfl, Nat.le_of_ble_eq_true rfl⟩ ⟨Nat.zero_le _, Nat.zero_le _⟩ rfl rfl (Nat.le_of_ble_eq_true rfl) hl dX6_census_37 (fun H locs hw => ?_)
      refine lv_iconst (v := (0 : Int32)) hC.1 hC.2.1 dX6_census_40 (by decide) ?_
      refine lv_istore_n (lv' := [(3, .int (0 : Int32)), (2, .ref (ad G c3)), (0, .ref (ad G 0)), (1, .int x1)]) hC.1 hC.2.1 dX6_census_41 rfl hl (by decide) rfl (fun ls hl => ?_)
      refine lv_iconst (v := (0 : Int32)) hC.1 hC.2.1 dX6_census_42 (by decide) ?_
      refine lv_istore (lv' := [(4, .int (0 : Int32)), (3, .int (0 : Int32)), (2, .ref (ad G c3)), (0, .ref (ad G 0)), (1, .int x1)]) hC.1 hC.2.1 dX6_census_43 hl (by decide) rfl (fun ls hl => ?_)
      exact w_X6_census_45 hC _ g4 hF hw (lv_sub hl [3, 2, 1, 0] rfl)
    · have hF := ifP hF b5
      refine lv_bipush (v := (-4 : Int32)) hC.1 hC.2.1 dX6_census_22 (by decide) ?_
      exact r_iretE hC hw hF dX6_census_24
abbrev rm_X6_counted : Room := { frames := 5, cells := 0, slots := 0, locals := 122 }
theorem yv_X6_counted : YV yX6_counted cX6_counted 7 (some .int) 1 RX6 := ⟨⟨q3_180, q3_181, q1_1, q3_182⟩, by decide +kernel⟩
theorem dX6_counted_0 : decode cX6_counted 0 = .ok (.aload_n 0, 1) := by decide +kernel
theorem dX6_counted_1 : decode cX6_counted 1 = .ok (.iload_n 1, 1) := by decide +kernel
theorem dX6_counted_2 : decode cX6_counted 2 = .ok (.invokevirtual 78, 3) := by decide +kernel
theorem dX6_counted_5 : decode cX6_counted 5 = .ok (.astore_n 2, 1) := by decide +kernel
theorem dX6_counted_6 : decode cX6_counted 6 = .ok (.aload_n 2, 1) := by decide +kernel
theorem dX6_counted_7 : decode cX6_counted 7 = .ok (.ifnonnull 5, 3) := by decide +kernel
theorem dX6_counted_10 : decode cX6_counted 10 = .ok (.iconst (-1), 1) := by decide +kernel
theorem dX6_counted_11 : decode cX6_counted 11 = .ok (.ireturn, 1) := by decide +kernel
theorem dX6_counted_12 : decode cX6_counted 12 = .ok (.aload_n 0, 1) := by decide +kernel
theorem dX6_counted_13 : decode cX6_counted 13 = .ok (.getfield 24, 3) := by decide +kernel
theorem dX6_counted_16 : decode cX6_counted 16 = .ok (.getfield 152, 3) := by decide +kernel
theorem dX6_counted_19 : decode cX6_counted 19 = .ok (.ifCond .ne 6, 3) := by decide +kernel
theorem dX6_counted_22 : decode cX6_counted 22 = .ok (.bipush (-4), 2) := by decide +kernel
theorem dX6_counted_24 : decode cX6_counted 24 = .ok (.ireturn, 1) := by decide +kernel
theorem dX6_counted_25 : decode cX6_counted 25 = .ok (.aload_n 2, 1) := by decide +kernel
theorem dX6_counted_26 : decode cX6_counted 26 = .ok (.getfield 90, 3) := by decide +kernel
theorem dX6_counted_29 : decode cX6_counted 29 = .ok (.ifCond .ne 9, 3) := by decide +kernel
theorem dX6_counted_32 : decode cX6_counted 32 = .ok (.aload_n 0, 1) := by decide +kernel
theorem dX6_counted_33 : decode cX6_counted 33 = .ok (.iconst 1, 1) := by decide +kernel
theorem dX6_counted_34 : decode cX6_counted 34 = .ok (.invokevirtual 82, 3) := by decide +kernel
theorem dX6_counted_37 : decode cX6_counted 37 = .ok (.ireturn, 1) := by decide +kernel
theorem dX6_counted_38 : decode cX6_counted 38 = .ok (.aload_n 2, 1) := by decide +kernel
theorem dX6_counted_39 : decode cX6_counted 39 = .ok (.getfield 94, 3) := by decide +kernel
theorem dX6_counted_42 : decode cX6_counted 42 = .ok (.aload_n 0, 1) := by decide +kernel
theorem dX6_counted_43 : decode cX6_counted 43 = .ok (.getfield 24, 3) := by decide +kernel
theorem dX6_counted_46 : decode cX6_counted 46 = .ok (.getfield 152, 3) := by decide +kernel
theorem dX6_counted_49 : decode cX6_counted 49 = .ok (.if_icmp .eq 9, 3) := by decide +kernel
theorem dX6_counted_52 : decode cX6_counted 52 = .ok (.aload_n 0, 1) := by decide +kernel
theorem dX6_counted_53 : decode cX6_counted 53 = .ok (.iconst 5, 1) := by decide +kernel
theorem dX6_counted_54 : decode cX6_counted 54 = .ok (.invokevirtual 82, 3) := by decide +kernel
theorem dX6_counted_57 : decode cX6_counted 57 = .ok (.ireturn, 1) := by decide +kernel
theorem dX6_counted_58 : decode cX6_counted 58 = .ok (.aload_n 0, 1) := by decide +kernel
theorem dX6_counted_59 : decode cX6_counted 59 = .ok (.getfield 24, 3) := by decide +kernel
theorem dX6_counted_62 : decode cX6_counted 62 = .ok (.aload_n 0, 1) := by decide +kernel
theorem dX6_counted_63 : decode cX6_counted 63 = .ok (.getfield 61, 3) := by decide +kernel
theorem dX6_counted_66 : decode cX6_counted 66 = .ok (.invokevirtual 280, 3) := by decide +kernel
theorem dX6_counted_69 : decode cX6_counted 69 = .ok (.iconst 0, 1) := by decide +kernel
theorem dX6_counted_70 : decode cX6_counted 70 = .ok (.istore_n 3, 1) := by decide +kernel
theorem dX6_counted_71 : decode cX6_counted 71 = .ok (.iconst 0, 1) := by decide +kernel
theorem dX6_counted_72 : decode cX6_counted 72 = .ok (.istore 4, 2) := by decide +kernel
theorem dX6_counted_74 : decode cX6_counted 74 = .ok (.iconst 0, 1) := by decide +kernel
theorem dX6_counted_75 : decode cX6_counted 75 = .ok (.istore 5, 2) := by decide +kernel
theorem dX6_counted_77 : decode cX6_counted 77 = .ok (.iload 5, 2) := by decide +kernel
theorem dX6_counted_79 : decode cX6_counted 79 = .ok (.aload_n 0, 1) := by decide +kernel
theorem dX6_counted_80 : decode cX6_counted 80 = .ok (.getfield 24, 3) := by decide +kernel
theorem dX6_counted_83 : decode cX6_counted 83 = .ok (.getfield 152, 3) := by decide +kernel
theorem dX6_counted_86 : decode cX6_counted 86 = .ok (.if_icmp .ge 67, 3) := by decide +kernel
theorem dX6_counted_89 : decode cX6_counted 89 = .ok (.aload_n 2, 1) := by decide +kernel
theorem dX6_counted_90 : decode cX6_counted 90 = .ok (.getfield 98, 3) := by decide +kernel
theorem dX6_counted_93 : decode cX6_counted 93 = .ok (.iload 5, 2) := by decide +kernel
theorem dX6_counted_95 : decode cX6_counted 95 = .ok (.invokestatic 101, 3) := by decide +kernel
theorem dX6_counted_98 : decode cX6_counted 98 = .ok (.istore 6, 2) := by decide +kernel
theorem dX6_counted_100 : decode cX6_counted 100 = .ok (.aload_n 0, 1) := by decide +kernel
theorem dX6_counted_101 : decode cX6_counted 101 = .ok (.getfield 24, 3) := by decide +kernel
theorem dX6_counted_104 : decode cX6_counted 104 = .ok (.iload 6, 2) := by decide +kernel
theorem dX6_counted_106 : decode cX6_counted 106 = .ok (.invokevirtual 155, 3) := by decide +kernel
theorem dX6_counted_109 : decode cX6_counted 109 = .ok (.ifCond .eq 12, 3) := by decide +kernel
theorem dX6_counted_112 : decode cX6_counted 112 = .ok (.iload_n 3, 1) := by decide +kernel
theorem dX6_counted_113 : decode cX6_counted 113 = .ok (.iload 6, 2) := by decide +kernel
theorem dX6_counted_115 : decode cX6_counted 115 = .ok (.invokestatic 252, 3) := by decide +kernel
theorem dX6_counted_118 : decode cX6_counted 118 = .ok (.ifCond .eq 9, 3) := by decide +kernel
theorem dX6_counted_121 : decode cX6_counted 121 = .ok (.aload_n 0, 1) := by decide +kernel
theorem dX6_counted_122 : decode cX6_counted 122 = .ok (.iconst 3, 1) := by decide +kernel
theorem dX6_counted_123 : decode cX6_counted 123 = .ok (.invokevirtual 82, 3) := by decide +kernel
theorem dX6_counted_126 : decode cX6_counted 126 = .ok (.ireturn, 1) := by decide +kernel
theorem dX6_counted_127 : decode cX6_counted 127 = .ok (.iload_n 3, 1) := by decide +kernel
theorem dX6_counted_128 : decode cX6_counted 128 = .ok (.iconst 1, 1) := by decide +kernel
theorem dX6_counted_129 : decode cX6_counted 129 = .ok (.iload 6, 2) := by decide +kernel
theorem dX6_counted_131 : decode cX6_counted 131 = .ok (.ishl, 1) := by decide +kernel
theorem dX6_counted_132 : decode cX6_counted 132 = .ok (.ior, 1) := by decide +kernel
theorem dX6_counted_133 : decode cX6_counted 133 = .ok (.istore_n 3, 1) := by decide +kernel
theorem dX6_counted_134 : decode cX6_counted 134 = .ok (.iload 4, 2) := by decide +kernel
theorem dX6_counted_136 : decode cX6_counted 136 = .ok (.aload_n 0, 1) := by decide +kernel
theorem dX6_counted_137 : decode cX6_counted 137 = .ok (.iload 6, 2) := by decide +kernel
theorem dX6_counted_139 : decode cX6_counted 139 = .ok (.iload 5, 2) := by decide +kernel
theorem dX6_counted_141 : decode cX6_counted 141 = .ok (.invokevirtual 290, 3) := by decide +kernel
theorem dX6_counted_144 : decode cX6_counted 144 = .ok (.iadd, 1) := by decide +kernel
theorem dX6_counted_145 : decode cX6_counted 145 = .ok (.istore 4, 2) := by decide +kernel
theorem dX6_counted_147 : decode cX6_counted 147 = .ok (.iinc 5 1, 3) := by decide +kernel
theorem dX6_counted_150 : decode cX6_counted 150 = .ok (.goto (-73), 3) := by decide +kernel
theorem dX6_counted_153 : decode cX6_counted 153 = .ok (.iload 4, 2) := by decide +kernel
theorem dX6_counted_155 : decode cX6_counted 155 = .ok (.ireturn, 1) := by decide +kernel
def F_X6_counted_121 (fu : Nat) (M : Mm) : Option (Int32 × Mm) :=
  ob2 (F_X6_found fu M (3 : Int32)) (fun r2 M3 =>
  some (r2, M3))
set_option maxRecDepth 100000 in
set_option maxHeartbeats 4000000 in
theorem w_X6_counted_121 {p : Program} {l : Launch} {e : Env} {s : State} {m : MethodId} {args : Array Value} {below : List Frame} {meth : Method} {c : Code} {G : Gv} (hC : Cx p s m args meth c cX6_counted 7 (some .int) RX6) {fu : Nat} {r : Int32} {M' : Mm} {M : Mm} {H : Heap} {locs : List Loc} {ls : Array Slot} (hF : F_X6_counted_121 fu M = some (r, M')) (hw : St G s H locs M) (hl : lv_has ls 7 [(0, .ref (ad G 0))]) : W p l e rm_X6_counted s m args below meth c H locs 0 0 (MQ below (QI G r M') args s 0 0 (zA G)) (F0 m 121 ls []) := by
  unfold F_X6_counted_121 at hF
  refine lv_aload_n hC.1 hC.2.1 dX6_counted_121 rfl (lv_at hl 0 rfl) ?_
  refine lv_iconst (v := (3 : Int32)) hC.1 hC.2.1 dX6_counted_122 (by decide) ?_
  obtain ⟨r2, M3, h1, hF⟩ := ob2S hF
  refine k_Vi (As := [.int (3 : Int32)]) (rest := []) hC hw (c_X6_found (M := M) h1) RC_S yv_X6_found q2_20 ⟨rfl, rfl⟩ ⟨Nat.le_of_ble_eq_true rfl, Nat.le_of_ble_eq_true rfl⟩ ⟨Nat.zero_le _, Nat.zero_le _⟩ rfl rfl (Nat.le_of_ble_eq_true rfl) hl dX6_counted_123 (fun H locs hw => ?_)
  exact r_iretE hC hw hF dX6_counted_126
def F_X6_counted_77 (fu : Nat) : Nat → Mm → Nat → Int32 → Int32 → Int32 → Option (Int32 × Mm)
  | 0, _, _, _, _, _ => none
  | n + 1, M, c2, x3, x4, x5 =>
    if (M.1 24 0) ≤ x5 then
      some (x4, M)
    else
      ob1 (F_X6_read fu M (c2 + 6) x5) (fun r3 =>
      ob1 (F_X2_isMan fu M 24 r3) (fun r5 =>
      if r5 = 0 then
        F_X6_counted_121 fu M
      else
        ob1 (F_X6_isIn fu M x3 r3) (fun r8 =>
        if r8 = 0 then
          ob1 (F_X6_countedOn fu M r3 x5) (fun r11 =>
          F_X6_counted_77 fu n M c2 (x3 ||| ((1 : Int32) <<< (r3 &&& 31))) (x4 + r11) (x5 + (1 : Int32)))
        else
          F_X6_counted_121 fu M)))
set_option maxRecDepth 100000 in
set_option maxHeartbeats 4000000 in
theorem w_X6_counted_77 {p : Program} {l : Launch} {e : Env} {s : State} {m : MethodId} {args : Array Value} {below : List Frame} {meth : Method} {c : Code} {G : Gv} (hC : Cx p s m args meth c cX6_counted 7 (some .int) RX6) {fu : Nat} {r : Int32} {M' : Mm} : ∀ (n : Nat) {c2 : Nat} {x3 : Int32} {x4 : Int32} {x5 : Int32} {M : Mm} {H : Heap} {locs : List Loc} {ls : Array Slot} (hk2 : kd c2 = 12), F_X6_counted_77 fu n M c2 x3 x4 x5 = some (r, M') → St G s H locs M → lv_has ls 7 [(0, .ref (ad G 0)), (2, .ref (ad G c2)), (3, .int x3), (4, .int x4), (5, .int x5)] → W p l e rm_X6_counted s m args below meth c H locs 0 0 (MQ below (QI G r M') args s 0 0 (zA G)) (F0 m 77 ls []) := by
  intro n
  induction n with
  | zero =>
    intro c2 x3 x4 x5 M H locs ls hk2 hF hw hl
    cases hF
  | succ n ih =>
    intro c2 x3 x4 x5 M H locs ls hk2 hF hw hl
    unfold F_X6_counted_77 at hF
    refine lv_iload hC.1 hC.2.1 dX6_counted_77 (lv_at hl 4 rfl) ?_
    refine lv_aload_n hC.1 hC.2.1 dX6_counted_79 rfl (lv_at hl 0 rfl) ?_
    refine g6_north hC hw q1_202 dX6_counted_80 ?_
    refine g2_men hC hw (rfl : kd 24 = 11) q1_32 dX6_counted_83 ?_
    refine lv_icmp_ge (tgt := 153) hC.1 hC.2.1 dX6_counted_86 (by decide) (fun b1 => ?_) (fun b1 => ?_)
    · have hF := ifP hF b1
      refine lv_iload hC.1 hC.2.1 dX6_counted_153 (lv_at hl 3 rfl) ?_
      exact r_iretE hC hw hF dX6_counted_155
    · have hF := ifN hF b1
      refine lv_aload_n hC.1 hC.2.1 dX6_counted_89 rfl (lv_at hl 1 rfl) ?_
      refine g4_cells hC hw hk2 q1_173 dX6_counted_90 ?_
      refine lv_iload hC.1 hC.2.1 dX6_counted_93 (lv_at hl 4 rfl) ?_
      obtain ⟨r3, h2, hF⟩ := ob1S hF
      refine k_Si (As := [.ref (ad G (c2 + 6)), .int x5]) (rest := []) hC hw (c_X6_read (M := M) (kdRc hk2) h2) ys_X6_read q2_24 ⟨rfl, rfl⟩ ⟨Nat.le_of_ble_eq_true rfl, Nat.le_of_ble_eq_true rfl⟩ ⟨Nat.zero_le _, Nat.zero_le _⟩ rfl rfl (Nat.le_of_ble_eq_true rfl) hl dX6_counted_95 (fun H locs hw => ?_)
      refine lv_istore (lv' := [(6, .int r3), (0, .ref (ad G 0)), (2, .ref (ad G c2)), (3, .int x3), (4, .int x4), (5, .int x5)]) hC.1 hC.2.1 dX6_counted_98 hl (by decide) rfl (fun ls hl => ?_)
      refine lv_aload_n hC.1 hC.2.1 dX6_counted_100 rfl (lv_at hl 1 rfl) ?_
      refine g6_north hC hw q1_202 dX6_counted_101 ?_
      refine lv_iload hC.1 hC.2.1 dX6_counted_104 (lv_at hl 0 rfl) ?_
      obtain ⟨r5, h4, hF⟩ := ob1S hF
      refine k_Vi (As := [.int r3]) (rest := []) hC hw (c_X2_isMan (M := M) (rfl : kd 24 = 11) h4) (RC_N (rfl : kd 24 = 11)) yv_X2_isMan q2_147 ⟨rfl, rfl⟩ ⟨Nat.le_of_ble_eq_true rfl, Nat.le_of_ble_eq_true rfl⟩ ⟨Nat.zero_le _, Nat.zero_le _⟩ rfl rfl (Nat.le_of_ble_eq_true rfl) hl dX6_counted_106 (fun H locs hw => ?_)
      refine lv_if_eq (tgt := 121) hC.1 hC.2.1 dX6_counted_109 (by decide) (fun b6 => ?_) (fun b6 => ?_)
      · have hF := ifP hF b6
        exact w_X6_counted_121 hC hF hw (lv_sub hl [1] rfl)
      · have hF := ifN hF b6
        refine lv_iload_n hC.1 hC.2.1 dX6_counted_112 rfl (lv_at hl 3 rfl) ?_
        refine lv_iload hC.1 hC.2.1 dX6_counted_113 (lv_at hl 0 rfl) ?_
        obtain ⟨r8, h7, hF⟩ := ob1S hF
        refine k_Si (As := [.int x3, .int r3]) (rest := []) hC hw (c_X6_isIn (M := M) h7) ys_X6_isIn q3_118 ⟨rfl, rfl⟩ ⟨Nat.le_of_ble_eq_true rfl, Nat.le_of_ble_eq_true rfl⟩ ⟨Nat.zero_le _, Nat.zero_le _⟩ rfl rfl (Nat.le_of_ble_eq_true rfl) hl dX6_counted_115 (fun H locs hw => ?_)
        refine lv_if_eq (tgt := 127) hC.1 hC.2.1 dX6_counted_118 (by decide) (fun b9 => ?_) (fun b9 => ?_)
        · have hF := ifP hF b9
          refine lv_iload_n hC.1 hC.2.1 dX6_counted_127 rfl (lv_at hl 3 rfl) ?_
          refine lv_iconst (v := (1 : Int32)) hC.1 hC.2.1 dX6_counted_128 (by decide) ?_
          refine lv_iload hC.1 hC.2.1 dX6_counted_129 (lv_at hl 0 rfl) ?_
          refine lv_ishl hC.1 hC.2.1 dX6_counted_131 ?_
          refine lv_ior hC.1 hC.2.1 dX6_counted_132 ?_
          refine lv_istore_n (lv' := [(3, .int (x3 ||| ((1 : Int32) <<< (r3 &&& 31)))), (6, .int r3), (0, .ref (ad G 0)), (2, .ref (ad G c2)), (4, .int x4), (5, .int x5)]) hC.1 hC.2.1 dX6_counted_133 rfl hl (by decide) rfl (fun ls hl => ?_)
          refine lv_iload hC.1 hC.2.1 dX6_counted_134 (lv_at hl 4 rfl) ?_
          refine lv_aload_n hC.1 hC.2.1 dX6_counted_136 rfl (lv_at hl 2 rfl) ?_
          refine lv_iload hC.1 hC.2.1 dX6_counted_137 (lv_at hl 1 rfl) ?_
          refine lv_iload hC.1 hC.2.1 dX6_counted_139 (lv_at hl 5 rfl) ?_
          obtain ⟨r11, h10, hF⟩ := ob1S hF
          refine k_Vi (As := [.int r3, .int x5]) (rest := [.int x4]) hC hw (c_X6_countedOn (M := M) h10) RC_S yv_X6_countedOn q3_170 ⟨rfl, rfl⟩ ⟨Nat.le_of_ble_eq_true rfl, Nat.le_of_ble_eq_true rfl⟩ ⟨Nat.zero_le _, Nat.zero_le _⟩ rfl rfl (Nat.le_of_ble_eq_true rfl) hl dX6_counted_141 (fun H locs hw => ?_)
          refine lv_iadd hC.1 hC.2.1 dX6_counted_144 ?_
          refine lv_istore (lv' := [(4, .int (x4 + r11)), (3, .int (x3 ||| ((1 : Int32) <<< (r3 &&& 31)))), (6, .int r3), (0, .ref (ad G 0)), (2, .ref (ad G c2)), (5, .int x5)]) hC.1 hC.2.1 dX6_counted_145 hl (by decide) rfl (fun ls hl => ?_)
          refine lv_iinc (v := (x5 + (1 : Int32))) (lv' := [(5, .int (x5 + (1 : Int32))), (4, .int (x4 + r11)), (3, .int (x3 ||| ((1 : Int32) <<< (r3 &&& 31)))), (6, .int r3), (0, .ref (ad G 0)), (2, .ref (ad G c2))]) hC.1 hC.2.1 dX6_counted_147 hl (k := 5) rfl rfl (by decide) rfl (fun ls hl => ?_)
          refine lv_goto (tgt := 77) hC.1 hC.2.1 dX6_counted_150 (by decide) ?_
          exact ih hk2 hF hw (lv_sub hl [4, 5, 2, 1, 0] rfl)
        · have hF := ifN hF b9
          exact w_X6_counted_121 hC hF hw (lv_sub hl [1] rfl)
def F_X6_counted (fu : Nat) (M : Mm) (x1 : Int32) : Option (Int32 × Mm) :=
  ob1 (F_X6_rowOf fu M x1) (fun r2 =>
  op1 r2 (
    some ((-1 : Int32), M)) (fun c3 =>
    if ¬ kd c3 = 12 then none else (
    if (M.1 24 0) = 0 then
      some ((-4 : Int32), M)
    else
      if (M.1 c3 0) = 0 then
        ob2 (F_X6_found fu M (1 : Int32)) (fun r14 M15 =>
        some (r14, M15))
      else
        if (M.1 c3 1) = (M.1 24 0) then
          ob1 (F_X2_foreseeLiving fu M 24 81) (fun M9 =>
          F_X6_counted_77 fu fu M9 c3 (0 : Int32) (0 : Int32) (0 : Int32))
        else
          ob2 (F_X6_found fu M (5 : Int32)) (fun r11 M12 =>
          some (r11, M12)))))
set_option maxRecDepth 100000 in
set_option maxHeartbeats 4000000 in
theorem c_X6_counted {l : Launch} {G : Gv} {fu : Nat} {M : Mm} {x1 : Int32} {r : Int32} {M' : Mm} (hF : F_X6_counted fu M x1 = some (r, M')) : Met l yX6_counted (.code yX6_counted cX6_counted 7 (some .int) :: zU) rm_X6_counted (va_Pc [.ref (ad G 0), .int x1] (Wd G M)) (QI G r M') 0 0 (zA G) := by
  refine zMet (by decide) rfl (Nat.le_of_ble_eq_true rfl) ?_
  intro p e s m below meth c hC hw ls hl
  have hl : lv_has ls 7 [(0, .ref (ad G 0)), (1, .int x1)] := hl
  unfold F_X6_counted at hF
  refine lv_aload_n hC.1 hC.2.1 dX6_counted_0 rfl (lv_at hl 0 rfl) ?_
  refine lv_iload_n hC.1 hC.2.1 dX6_counted_1 rfl (lv_at hl 1 rfl) ?_
  obtain ⟨r2, h1, hF⟩ := ob1S hF
  refine k_Vq (As := [.int x1]) (rest := []) hC hw (c_X6_rowOf (M := M) h1) RC_S yv_X6_rowOf q2_16 ⟨rfl, rfl⟩ ⟨Nat.le_of_ble_eq_true rfl, Nat.le_of_ble_eq_true rfl⟩ ⟨Nat.zero_le _, Nat.zero_le _⟩ rfl rfl (Nat.le_of_ble_eq_true rfl) hl dX6_counted_2 (fun H locs hw => ?_)
  cases r2 with
  | none =>
    have hF := op1N hF
    refine topN ?_
    refine lv_astore_nN (lv' := [(2, .null), (0, .ref (ad G 0)), (1, .int x1)]) hC.1 hC.2.1 dX6_counted_5 rfl hl (by decide) rfl (fun ls hl => ?_)
    refine lv_aload_nN hC.1 hC.2.1 dX6_counted_6 rfl (lv_at hl 0 rfl) ?_
    refine lv_ifnonnullN hC.1 hC.2.1 dX6_counted_7 ?_
    refine lv_iconst (v := (-1 : Int32)) hC.1 hC.2.1 dX6_counted_10 (by decide) ?_
    exact r_iretE hC hw hF dX6_counted_11
  | some c3 =>
    obtain ⟨g4, hF⟩ := ifO (op1C hF)
    have g4 := Decidable.not_not.mp g4
    refine topC ?_
    refine lv_astore_n (lv' := [(2, .ref (ad G c3)), (0, .ref (ad G 0)), (1, .int x1)]) hC.1 hC.2.1 dX6_counted_5 rfl hl (by decide) rfl (fun ls hl => ?_)
    refine lv_aload_n hC.1 hC.2.1 dX6_counted_6 rfl (lv_at hl 0 rfl) ?_
    refine lv_ifnonnull (tgt := 12) hC.1 hC.2.1 dX6_counted_7 (by decide) ?_
    refine lv_aload_n hC.1 hC.2.1 dX6_counted_12 rfl (lv_at hl 1 rfl) ?_
    refine g6_north hC hw q1_202 dX6_counted_13 ?_
    refine g2_men hC hw (rfl : kd 24 = 11) q1_32 dX6_counted_16 ?_
    refine lv_if_ne (tgt := 25) hC.1 hC.2.1 dX6_counted_19 (by decide) (fun b5 => ?_) (fun b5 => ?_)
    · have hF := ifN hF b5
      refine lv_aload_n hC.1 hC.2.1 dX6_counted_25 rfl (lv_at hl 0 rfl) ?_
      refine g4_there hC hw g4 q1_169 dX6_counted_26 ?_
      refine lv_if_ne (tgt := 38) hC.1 hC.2.1 dX6_counted_29 (by decide) (fun b6 => ?_) (fun b6 => ?_)
      · have hF := ifN hF b6
        refine lv_aload_n hC.1 hC.2.1 dX6_counted_38 rfl (lv_at hl 0 rfl) ?_
        refine g4_size hC hw g4 q1_171 dX6_counted_39 ?_
        refine lv_aload_n hC.1 hC.2.1 dX6_counted_42 rfl (lv_at hl 1 rfl) ?_
        refine g6_north hC hw q1_202 dX6_counted_43 ?_
        refine g2_men hC hw (rfl : kd 24 = 11) q1_32 dX6_counted_46 ?_
        refine lv_icmp_eq (tgt := 58) hC.1 hC.2.1 dX6_counted_49 (by decide) (fun b7 => ?_) (fun b7 => ?_)
        · have hF := ifP hF b7
          refine lv_aload_n hC.1 hC.2.1 dX6_counted_58 rfl (lv_at hl 1 rfl) ?_
          refine g6_north hC hw q1_202 dX6_counted_59 ?_
          refine lv_aload_n hC.1 hC.2.1 dX6_counted_62 rfl (lv_at hl 1 rfl) ?_
          refine g6_ahead hC hw q1_212 dX6_counted_63 ?_
          obtain ⟨M9, h8, hF⟩ := ob1S hF
          refine k_Vv (As := [.ref (ad G 81)]) (rest := []) hC hw (c_X2_foreseeLiving (M := M) (rfl : kd 24 = 11) (rfl : kd 81 = 1) h8) (RC_N (rfl : kd 24 = 11)) yv_X2_foreseeLiving q3_157 ⟨rfl, rfl⟩ ⟨Nat.le_of_ble_eq_true rfl, Nat.le_of_ble_eq_true rfl⟩ ⟨Nat.zero_le _, Nat.zero_le _⟩ rfl rfl (Nat.le_of_ble_eq_true rfl) hl dX6_counted_66 (fun H locs hw => ?_)
          refine lv_iconst (v := (0 : Int32)) hC.1 hC.2.1 dX6_counted_69 (by decide) ?_
          refine lv_istore_n (lv' := [(3, .int (0 : Int32)), (2, .ref (ad G c3)), (0, .ref (ad G 0)), (1, .int x1)]) hC.1 hC.2.1 dX6_counted_70 rfl hl (by decide) rfl (fun ls hl => ?_)
          refine lv_iconst (v := (0 : Int32)) hC.1 hC.2.1 dX6_counted_71 (by decide) ?_
          refine lv_istore (lv' := [(4, .int (0 : Int32)), (3, .int (0 : Int32)), (2, .ref (ad G c3)), (0, .ref (ad G 0)), (1, .int x1)]) hC.1 hC.2.1 dX6_counted_72 hl (by decide) rfl (fun ls hl => ?_)
          refine lv_iconst (v := (0 : Int32)) hC.1 hC.2.1 dX6_counted_74 (by decide) ?_
          refine lv_istore (lv' := [(5, .int (0 : Int32)), (4, .int (0 : Int32)), (3, .int (0 : Int32)), (2, .ref (ad G c3)), (0, .ref (ad G 0)), (1, .int x1)]) hC.1 hC.2.1 dX6_counted_75 hl (by decide) rfl (fun ls hl => ?_)
          exact w_X6_counted_77 hC _ g4 hF hw (lv_sub hl [4, 3, 2, 1, 0] rfl)
        · have hF := ifN hF b7
          refine lv_aload_n hC.1 hC.2.1 dX6_counted_52 rfl (lv_at hl 1 rfl) ?_
          refine lv_iconst (v := (5 : Int32)) hC.1 hC.2.1 dX6_counted_53 (by decide) ?_
          obtain ⟨r11, M12, h10, hF⟩ := ob2S hF
          refine k_Vi (As := [.int (5 : Int32)]) (rest := []) hC hw (c_X6_found (M := M) h10) RC_S yv_X6_found q2_20 ⟨rfl, rfl⟩ ⟨Nat.le_of_ble_eq_true rfl, Nat.le_of_ble_eq_true rfl⟩ ⟨Nat.zero_le _, Nat.zero_le _⟩ rfl rfl (Nat.le_of_ble_eq_true rfl) hl dX6_counted_54 (fun H locs hw => ?_)
          exact r_iretE hC hw hF dX6_counted_57
      · have hF := ifP hF b6
        refine lv_aload_n hC.1 hC.2.1 dX6_counted_32 rfl (lv_at hl 1 rfl) ?_
        refine lv_iconst (v := (1 : Int32)) hC.1 hC.2.1 dX6_counted_33 (by decide) ?_
        obtain ⟨r14, M15, h13, hF⟩ := ob2S hF
        refine k_Vi (As := [.int (1 : Int32)]) (rest := []) hC hw (c_X6_found (M := M) h13) RC_S yv_X6_found q2_20 ⟨rfl, rfl⟩ ⟨Nat.le_of_ble_eq_true rfl, Nat.le_of_ble_eq_true rfl⟩ ⟨Nat.zero_le _, Nat.zero_le _⟩ rfl rfl (Nat.le_of_ble_eq_true rfl) hl dX6_counted_34 (fun H locs hw => ?_)
        exact r_iretE hC hw hF dX6_counted_37
    · have hF := ifP hF b5
      refine lv_bipush (v := (-4 : Int32)) hC.1 hC.2.1 dX6_counted_22 (by decide) ?_
      exact r_iretE hC hw hF dX6_counted_24
abbrev rm_X6_refusalOfSeen : Room := { frames := 2, cells := 0, slots := 0, locals := 43 }
theorem yv_X6_refusalOfSeen : YV yX6_refusalOfSeen cX6_refusalOfSeen 6 (some .int) 2 RX6 := ⟨⟨q3_189, qs_22, q1_1, q3_190⟩, by decide +kernel⟩
theorem dX6_refusalOfSeen_0 : decode cX6_refusalOfSeen 0 = .ok (.aload_n 0, 1) := by decide +kernel
theorem dX6_refusalOfSeen_1 : decode cX6_refusalOfSeen 1 = .ok (.iload_n 2, 1) := by decide +kernel
theorem dX6_refusalOfSeen_2 : decode cX6_refusalOfSeen 2 = .ok (.invokevirtual 78, 3) := by decide +kernel
theorem dX6_refusalOfSeen_5 : decode cX6_refusalOfSeen 5 = .ok (.astore_n 3, 1) := by decide +kernel
theorem dX6_refusalOfSeen_6 : decode cX6_refusalOfSeen 6 = .ok (.aload_n 3, 1) := by decide +kernel
theorem dX6_refusalOfSeen_7 : decode cX6_refusalOfSeen 7 = .ok (.ifnull 14, 3) := by decide +kernel
theorem dX6_refusalOfSeen_10 : decode cX6_refusalOfSeen 10 = .ok (.aload_n 0, 1) := by decide +kernel
theorem dX6_refusalOfSeen_11 : decode cX6_refusalOfSeen 11 = .ok (.getfield 24, 3) := by decide +kernel
theorem dX6_refusalOfSeen_14 : decode cX6_refusalOfSeen 14 = .ok (.iload_n 1, 1) := by decide +kernel
theorem dX6_refusalOfSeen_15 : decode cX6_refusalOfSeen 15 = .ok (.invokevirtual 155, 3) := by decide +kernel
theorem dX6_refusalOfSeen_18 : decode cX6_refusalOfSeen 18 = .ok (.ifCond .ne 5, 3) := by decide +kernel
theorem dX6_refusalOfSeen_21 : decode cX6_refusalOfSeen 21 = .ok (.iconst (-1), 1) := by decide +kernel
theorem dX6_refusalOfSeen_22 : decode cX6_refusalOfSeen 22 = .ok (.ireturn, 1) := by decide +kernel
theorem dX6_refusalOfSeen_23 : decode cX6_refusalOfSeen 23 = .ok (.aload_n 3, 1) := by decide +kernel
theorem dX6_refusalOfSeen_24 : decode cX6_refusalOfSeen 24 = .ok (.getfield 90, 3) := by decide +kernel
theorem dX6_refusalOfSeen_27 : decode cX6_refusalOfSeen 27 = .ok (.ifCond .ne 9, 3) := by decide +kernel
theorem dX6_refusalOfSeen_30 : decode cX6_refusalOfSeen 30 = .ok (.aload_n 0, 1) := by decide +kernel
theorem dX6_refusalOfSeen_31 : decode cX6_refusalOfSeen 31 = .ok (.iconst 1, 1) := by decide +kernel
theorem dX6_refusalOfSeen_32 : decode cX6_refusalOfSeen 32 = .ok (.invokevirtual 82, 3) := by decide +kernel
theorem dX6_refusalOfSeen_35 : decode cX6_refusalOfSeen 35 = .ok (.ireturn, 1) := by decide +kernel
theorem dX6_refusalOfSeen_36 : decode cX6_refusalOfSeen 36 = .ok (.aload_n 3, 1) := by decide +kernel
theorem dX6_refusalOfSeen_37 : decode cX6_refusalOfSeen 37 = .ok (.getfield 94, 3) := by decide +kernel
theorem dX6_refusalOfSeen_40 : decode cX6_refusalOfSeen 40 = .ok (.iconst 2, 1) := by decide +kernel
theorem dX6_refusalOfSeen_41 : decode cX6_refusalOfSeen 41 = .ok (.irem, 1) := by decide +kernel
theorem dX6_refusalOfSeen_42 : decode cX6_refusalOfSeen 42 = .ok (.ifCond .eq 9, 3) := by decide +kernel
theorem dX6_refusalOfSeen_45 : decode cX6_refusalOfSeen 45 = .ok (.aload_n 0, 1) := by decide +kernel
theorem dX6_refusalOfSeen_46 : decode cX6_refusalOfSeen 46 = .ok (.iconst 5, 1) := by decide +kernel
theorem dX6_refusalOfSeen_47 : decode cX6_refusalOfSeen 47 = .ok (.invokevirtual 82, 3) := by decide +kernel
theorem dX6_refusalOfSeen_50 : decode cX6_refusalOfSeen 50 = .ok (.ireturn, 1) := by decide +kernel
theorem dX6_refusalOfSeen_51 : decode cX6_refusalOfSeen 51 = .ok (.iconst 0, 1) := by decide +kernel
theorem dX6_refusalOfSeen_52 : decode cX6_refusalOfSeen 52 = .ok (.istore 4, 2) := by decide +kernel
theorem dX6_refusalOfSeen_54 : decode cX6_refusalOfSeen 54 = .ok (.iload 4, 2) := by decide +kernel
theorem dX6_refusalOfSeen_56 : decode cX6_refusalOfSeen 56 = .ok (.iconst 1, 1) := by decide +kernel
theorem dX6_refusalOfSeen_57 : decode cX6_refusalOfSeen 57 = .ok (.iadd, 1) := by decide +kernel
theorem dX6_refusalOfSeen_58 : decode cX6_refusalOfSeen 58 = .ok (.aload_n 3, 1) := by decide +kernel
theorem dX6_refusalOfSeen_59 : decode cX6_refusalOfSeen 59 = .ok (.getfield 94, 3) := by decide +kernel
theorem dX6_refusalOfSeen_62 : decode cX6_refusalOfSeen 62 = .ok (.if_icmp .ge 55, 3) := by decide +kernel
theorem dX6_refusalOfSeen_65 : decode cX6_refusalOfSeen 65 = .ok (.aload_n 3, 1) := by decide +kernel
theorem dX6_refusalOfSeen_66 : decode cX6_refusalOfSeen 66 = .ok (.getfield 98, 3) := by decide +kernel
theorem dX6_refusalOfSeen_69 : decode cX6_refusalOfSeen 69 = .ok (.iload 4, 2) := by decide +kernel
theorem dX6_refusalOfSeen_71 : decode cX6_refusalOfSeen 71 = .ok (.iconst 1, 1) := by decide +kernel
theorem dX6_refusalOfSeen_72 : decode cX6_refusalOfSeen 72 = .ok (.iadd, 1) := by decide +kernel
theorem dX6_refusalOfSeen_73 : decode cX6_refusalOfSeen 73 = .ok (.invokestatic 101, 3) := by decide +kernel
theorem dX6_refusalOfSeen_76 : decode cX6_refusalOfSeen 76 = .ok (.istore 5, 2) := by decide +kernel
theorem dX6_refusalOfSeen_78 : decode cX6_refusalOfSeen 78 = .ok (.aload_n 3, 1) := by decide +kernel
theorem dX6_refusalOfSeen_79 : decode cX6_refusalOfSeen 79 = .ok (.getfield 98, 3) := by decide +kernel
theorem dX6_refusalOfSeen_82 : decode cX6_refusalOfSeen 82 = .ok (.iload 4, 2) := by decide +kernel
theorem dX6_refusalOfSeen_84 : decode cX6_refusalOfSeen 84 = .ok (.invokestatic 101, 3) := by decide +kernel
theorem dX6_refusalOfSeen_87 : decode cX6_refusalOfSeen 87 = .ok (.invokestatic 230, 3) := by decide +kernel
theorem dX6_refusalOfSeen_90 : decode cX6_refusalOfSeen 90 = .ok (.ifCond .eq 15, 3) := by decide +kernel
theorem dX6_refusalOfSeen_93 : decode cX6_refusalOfSeen 93 = .ok (.iload 5, 2) := by decide +kernel
theorem dX6_refusalOfSeen_95 : decode cX6_refusalOfSeen 95 = .ok (.ifCond .lt 10, 3) := by decide +kernel
theorem dX6_refusalOfSeen_98 : decode cX6_refusalOfSeen 98 = .ok (.iload 5, 2) := by decide +kernel
theorem dX6_refusalOfSeen_100 : decode cX6_refusalOfSeen 100 = .ok (.bipush 99, 2) := by decide +kernel
theorem dX6_refusalOfSeen_102 : decode cX6_refusalOfSeen 102 = .ok (.if_icmp .le 9, 3) := by decide +kernel
theorem dX6_refusalOfSeen_105 : decode cX6_refusalOfSeen 105 = .ok (.aload_n 0, 1) := by decide +kernel
theorem dX6_refusalOfSeen_106 : decode cX6_refusalOfSeen 106 = .ok (.iconst 3, 1) := by decide +kernel
theorem dX6_refusalOfSeen_107 : decode cX6_refusalOfSeen 107 = .ok (.invokevirtual 82, 3) := by decide +kernel
theorem dX6_refusalOfSeen_110 : decode cX6_refusalOfSeen 110 = .ok (.ireturn, 1) := by decide +kernel
theorem dX6_refusalOfSeen_111 : decode cX6_refusalOfSeen 111 = .ok (.iinc 4 2, 3) := by decide +kernel
theorem dX6_refusalOfSeen_114 : decode cX6_refusalOfSeen 114 = .ok (.goto (-60), 3) := by decide +kernel
theorem dX6_refusalOfSeen_117 : decode cX6_refusalOfSeen 117 = .ok (.iconst 0, 1) := by decide +kernel
theorem dX6_refusalOfSeen_118 : decode cX6_refusalOfSeen 118 = .ok (.ireturn, 1) := by decide +kernel
def F_X6_refusalOfSeen_105 (fu : Nat) (M : Mm) : Option (Int32 × Mm) :=
  ob2 (F_X6_found fu M (3 : Int32)) (fun r2 M3 =>
  some (r2, M3))
set_option maxRecDepth 100000 in
set_option maxHeartbeats 4000000 in
theorem w_X6_refusalOfSeen_105 {p : Program} {l : Launch} {e : Env} {s : State} {m : MethodId} {args : Array Value} {below : List Frame} {meth : Method} {c : Code} {G : Gv} (hC : Cx p s m args meth c cX6_refusalOfSeen 6 (some .int) RX6) {fu : Nat} {r : Int32} {M' : Mm} {M : Mm} {H : Heap} {locs : List Loc} {ls : Array Slot} (hF : F_X6_refusalOfSeen_105 fu M = some (r, M')) (hw : St G s H locs M) (hl : lv_has ls 6 [(0, .ref (ad G 0))]) : W p l e rm_X6_refusalOfSeen s m args below meth c H locs 0 0 (MQ below (QI G r M') args s 0 0 (zA G)) (F0 m 105 ls []) := by
  unfold F_X6_refusalOfSeen_105 at hF
  refine lv_aload_n hC.1 hC.2.1 dX6_refusalOfSeen_105 rfl (lv_at hl 0 rfl) ?_
  refine lv_iconst (v := (3 : Int32)) hC.1 hC.2.1 dX6_refusalOfSeen_106 (by decide) ?_
  obtain ⟨r2, M3, h1, hF⟩ := ob2S hF
  refine k_Vi (As := [.int (3 : Int32)]) (rest := []) hC hw (c_X6_found (M := M) h1) RC_S yv_X6_found q2_20 ⟨rfl, rfl⟩ ⟨Nat.le_of_ble_eq_true rfl, Nat.le_of_ble_eq_true rfl⟩ ⟨Nat.zero_le _, Nat.zero_le _⟩ rfl rfl (Nat.le_of_ble_eq_true rfl) hl dX6_refusalOfSeen_107 (fun H locs hw => ?_)
  exact r_iretE hC hw hF dX6_refusalOfSeen_110
def F_X6_refusalOfSeen_54 (fu : Nat) : Nat → Mm → Nat → Int32 → Option (Int32 × Mm)
  | 0, _, _, _ => none
  | n + 1, M, c3, x4 =>
    if (M.1 c3 1) ≤ (x4 + (1 : Int32)) then
      some ((0 : Int32), M)
    else
      ob1 (F_X6_read fu M (c3 + 6) (x4 + (1 : Int32))) (fun r3 =>
      ob1 (F_X6_read fu M (c3 + 6) x4) (fun r5 =>
      ob1 (F_X6_isAhead fu M r5) (fun r7 =>
      if r7 = 0 then
        F_X6_refusalOfSeen_105 fu M
      else
        if r3 < 0 then
          F_X6_refusalOfSeen_105 fu M
        else
          if r3 ≤ (99 : Int32) then
            F_X6_refusalOfSeen_54 fu n M c3 (x4 + (2 : Int32))
          else
            F_X6_refusalOfSeen_105 fu M)))
set_option maxRecDepth 100000 in
set_option maxHeartbeats 4000000 in
theorem w_X6_refusalOfSeen_54 {p : Program} {l : Launch} {e : Env} {s : State} {m : MethodId} {args : Array Value} {below : List Frame} {meth : Method} {c : Code} {G : Gv} (hC : Cx p s m args meth c cX6_refusalOfSeen 6 (some .int) RX6) {fu : Nat} {r : Int32} {M' : Mm} : ∀ (n : Nat) {c3 : Nat} {x4 : Int32} {M : Mm} {H : Heap} {locs : List Loc} {ls : Array Slot} (hk3 : kd c3 = 12), F_X6_refusalOfSeen_54 fu n M c3 x4 = some (r, M') → St G s H locs M → lv_has ls 6 [(0, .ref (ad G 0)), (3, .ref (ad G c3)), (4, .int x4)] → W p l e rm_X6_refusalOfSeen s m args below meth c H locs 0 0 (MQ below (QI G r M') args s 0 0 (zA G)) (F0 m 54 ls []) := by
  intro n
  induction n with
  | zero =>
    intro c3 x4 M H locs ls hk3 hF hw hl
    cases hF
  | succ n ih =>
    intro c3 x4 M H locs ls hk3 hF hw hl
    unfold F_X6_refusalOfSeen_54 at hF
    refine lv_iload hC.1 hC.2.1 dX6_refusalOfSeen_54 (lv_at hl 2 rfl) ?_
    refine lv_iconst (v := (1 : Int32)) hC.1 hC.2.1 dX6_refusalOfSeen_56 (by decide) ?_
    refine lv_iadd hC.1 hC.2.1 dX6_refusalOfSeen_57 ?_
    refine lv_aload_n hC.1 hC.2.1 dX6_refusalOfSeen_58 rfl (lv_at hl 1 rfl) ?_
    refine g4_size hC hw hk3 q1_171 dX6_refusalOfSeen_59 ?_
    refine lv_icmp_ge (tgt := 117) hC.1 hC.2.1 dX6_refusalOfSeen_62 (by decide) (fun b1 => ?_) (fun b1 => ?_)
    · have hF := ifP hF b1
      refine lv_iconst (v := (0 : Int32)) hC.1 hC.2.1 dX6_refusalOfSeen_117 (by decide) ?_
      exact r_iretE hC hw hF dX6_refusalOfSeen_118
    · have hF := ifN hF b1
      refine lv_aload_n hC.1 hC.2.1 dX6_refusalOfSeen_65 rfl (lv_at hl 1 rfl) ?_
      refine g4_cells hC hw hk3 q1_173 dX6_refusalOfSeen_66 ?_
      refine lv_iload hC.1 hC.2.1 dX6_refusalOfSeen_69 (lv_at hl 2 rfl) ?_
      refine lv_iconst (v := (1 : Int32)) hC.1 hC.2.1 dX6_refusalOfSeen_71 (by decide) ?_
      refine lv_iadd hC.1 hC.2.1 dX6_refusalOfSeen_72 ?_
      obtain ⟨r3, h2, hF⟩ := ob1S hF
      refine k_Si (As := [.ref (ad G (c3 + 6)), .int (x4 + (1 : Int32))]) (rest := []) hC hw (c_X6_read (M := M) (kdRc hk3) h2) ys_X6_read q2_24 ⟨rfl, rfl⟩ ⟨Nat.le_of_ble_eq_true rfl, Nat.le_of_ble_eq_true rfl⟩ ⟨Nat.zero_le _, Nat.zero_le _⟩ rfl rfl (Nat.le_of_ble_eq_true rfl) hl dX6_refusalOfSeen_73 (fun H locs hw => ?_)
      refine lv_istore (lv' := [(5, .int r3), (0, .ref (ad G 0)), (3, .ref (ad G c3)), (4, .int x4)]) hC.1 hC.2.1 dX6_refusalOfSeen_76 hl (by decide) rfl (fun ls hl => ?_)
      refine lv_aload_n hC.1 hC.2.1 dX6_refusalOfSeen_78 rfl (lv_at hl 2 rfl) ?_
      refine g4_cells hC hw hk3 q1_173 dX6_refusalOfSeen_79 ?_
      refine lv_iload hC.1 hC.2.1 dX6_refusalOfSeen_82 (lv_at hl 3 rfl) ?_
      obtain ⟨r5, h4, hF⟩ := ob1S hF
      refine k_Si (As := [.ref (ad G (c3 + 6)), .int x4]) (rest := []) hC hw (c_X6_read (M := M) (kdRc hk3) h4) ys_X6_read q2_24 ⟨rfl, rfl⟩ ⟨Nat.le_of_ble_eq_true rfl, Nat.le_of_ble_eq_true rfl⟩ ⟨Nat.zero_le _, Nat.zero_le _⟩ rfl rfl (Nat.le_of_ble_eq_true rfl) hl dX6_refusalOfSeen_84 (fun H locs hw => ?_)
      obtain ⟨r7, h6, hF⟩ := ob1S hF
      refine k_Si (As := [.int r5]) (rest := []) hC hw (c_X6_isAhead (M := M) h6) ys_X6_isAhead q3_53 ⟨rfl, rfl⟩ ⟨Nat.le_of_ble_eq_true rfl, Nat.le_of_ble_eq_true rfl⟩ ⟨Nat.zero_le _, Nat.zero_le _⟩ rfl rfl (Nat.le_of_ble_eq_true rfl) hl dX6_refusalOfSeen_87 (fun H locs hw => ?_)
      refine lv_if_eq (tgt := 105) hC.1 hC.2.1 dX6_refusalOfSeen_90 (by decide) (fun b8 => ?_) (fun b8 => ?_)
      · have hF := ifP hF b8
        exact w_X6_refusalOfSeen_105 hC hF hw (lv_sub hl [1] rfl)
      · have hF := ifN hF b8
        refine lv_iload hC.1 hC.2.1 dX6_refusalOfSeen_93 (lv_at hl 0 rfl) ?_
        refine lv_if_lt (tgt := 105) hC.1 hC.2.1 dX6_refusalOfSeen_95 (by decide) (fun b9 => ?_) (fun b9 => ?_)
        · have hF := ifP hF b9
          exact w_X6_refusalOfSeen_105 hC hF hw (lv_sub hl [1] rfl)
        · have hF := ifN hF b9
          refine lv_iload hC.1 hC.2.1 dX6_refusalOfSeen_98 (lv_at hl 0 rfl) ?_
          refine lv_bipush (v := (99 : Int32)) hC.1 hC.2.1 dX6_refusalOfSeen_100 (by decide) ?_
          refine lv_icmp_le (tgt := 111) hC.1 hC.2.1 dX6_refusalOfSeen_102 (by decide) (fun b10 => ?_) (fun b10 => ?_)
          · have hF := ifP hF b10
            refine lv_iinc (v := (x4 + (2 : Int32))) (lv' := [(4, .int (x4 + (2 : Int32))), (5, .int r3), (0, .ref (ad G 0)), (3, .ref (ad G c3))]) hC.1 hC.2.1 dX6_refusalOfSeen_111 hl (k := 3) rfl rfl (by decide) rfl (fun ls hl => ?_)
            refine lv_goto (tgt := 54) hC.1 hC.2.1 dX6_refusalOfSeen_114 (by decide) ?_
            exact ih hk3 hF hw (lv_sub hl [2, 3, 0] rfl)
          · have hF := ifN hF b10
            exact w_X6_refusalOfSeen_105 hC hF hw (lv_sub hl [1] rfl)
def F_X6_refusalOfSeen (fu : Nat) (M : Mm) (x1 : Int32) (x2 : Int32) : Option (Int32 × Mm) :=
  ob1 (F_X6_rowOf fu M x2) (fun r2 =>
  op1 r2 (
    some ((-1 : Int32), M)) (fun c3 =>
    if ¬ kd c3 = 12 then none else (
    ob1 (F_X2_isMan fu M 24 x1) (fun r6 =>
    if r6 = 0 then
      some ((-1 : Int32), M)
    else
      if (M.1 c3 0) = 0 then
        ob2 (F_X6_found fu M (1 : Int32)) (fun r14 M15 =>
        some (r14, M15))
      else
        if ((M.1 c3 1) - (M.1 c3 1) / (2 : Int32) * (2 : Int32)) = 0 then
          F_X6_refusalOfSeen_54 fu fu M c3 (0 : Int32)
        else
          ob2 (F_X6_found fu M (5 : Int32)) (fun r11 M12 =>
          some (r11, M12))))))
set_option maxRecDepth 100000 in
set_option maxHeartbeats 4000000 in
theorem c_X6_refusalOfSeen {l : Launch} {G : Gv} {fu : Nat} {M : Mm} {x1 : Int32} {x2 : Int32} {r : Int32} {M' : Mm} (hF : F_X6_refusalOfSeen fu M x1 x2 = some (r, M')) : Met l yX6_refusalOfSeen (.code yX6_refusalOfSeen cX6_refusalOfSeen 6 (some .int) :: zU) rm_X6_refusalOfSeen (va_Pc [.ref (ad G 0), .int x1, .int x2] (Wd G M)) (QI G r M') 0 0 (zA G) := by
  refine zMet (by decide) rfl (Nat.le_of_ble_eq_true rfl) ?_
  intro p e s m below meth c hC hw ls hl
  have hl : lv_has ls 6 [(0, .ref (ad G 0)), (1, .int x1), (2, .int x2)] := hl
  unfold F_X6_refusalOfSeen at hF
  refine lv_aload_n hC.1 hC.2.1 dX6_refusalOfSeen_0 rfl (lv_at hl 0 rfl) ?_
  refine lv_iload_n hC.1 hC.2.1 dX6_refusalOfSeen_1 rfl (lv_at hl 2 rfl) ?_
  obtain ⟨r2, h1, hF⟩ := ob1S hF
  refine k_Vq (As := [.int x2]) (rest := []) hC hw (c_X6_rowOf (M := M) h1) RC_S yv_X6_rowOf q2_16 ⟨rfl, rfl⟩ ⟨Nat.le_of_ble_eq_true rfl, Nat.le_of_ble_eq_true rfl⟩ ⟨Nat.zero_le _, Nat.zero_le _⟩ rfl rfl (Nat.le_of_ble_eq_true rfl) hl dX6_refusalOfSeen_2 (fun H locs hw => ?_)
  cases r2 with
  | none =>
    have hF := op1N hF
    refine topN ?_
    refine lv_astore_nN (lv' := [(3, .null), (0, .ref (ad G 0)), (1, .int x1), (2, .int x2)]) hC.1 hC.2.1 dX6_refusalOfSeen_5 rfl hl (by decide) rfl (fun ls hl => ?_)
    refine lv_aload_nN hC.1 hC.2.1 dX6_refusalOfSeen_6 rfl (lv_at hl 0 rfl) ?_
    refine lv_ifnullN (tgt := 21) hC.1 hC.2.1 dX6_refusalOfSeen_7 (by decide) ?_
    refine lv_iconst (v := (-1 : Int32)) hC.1 hC.2.1 dX6_refusalOfSeen_21 (by decide) ?_
    exact r_iretE hC hw hF dX6_refusalOfSeen_22
  | some c3 =>
    obtain ⟨g4, hF⟩ := ifO (op1C hF)
    have g4 := Decidable.not_not.mp g4
    refine topC ?_
    refine lv_astore_n (lv' := [(3, .ref (ad G c3)), (0, .ref (ad G 0)), (1, .int x1), (2, .int x2)]) hC.1 hC.2.1 dX6_refusalOfSeen_5 rfl hl (by decide) rfl (fun ls hl => ?_)
    refine lv_aload_n hC.1 hC.2.1 dX6_refusalOfSeen_6 rfl (lv_at hl 0 rfl) ?_
    refine lv_ifnull hC.1 hC.2.1 dX6_refusalOfSeen_7 ?_
    refine lv_aload_n hC.1 hC.2.1 dX6_refusalOfSeen_10 rfl (lv_at hl 1 rfl) ?_
    refine g6_north hC hw q1_202 dX6_refusalOfSeen_11 ?_
    refine lv_iload_n hC.1 hC.2.1 dX6_refusalOfSeen_14 rfl (lv_at hl 2 rfl) ?_
    obtain ⟨r6, h5, hF⟩ := ob1S hF
    refine k_Vi (As := [.int x1]) (rest := []) hC hw (c_X2_isMan (M := M) (rfl : kd 24 = 11) h5) (RC_N (rfl : kd 24 = 11)) yv_X2_isMan q2_147 ⟨rfl, rfl⟩ ⟨Nat.le_of_ble_eq_true rfl, Nat.le_of_ble_eq_true rfl⟩ ⟨Nat.zero_le _, Nat.zero_le _⟩ rfl rfl (Nat.le_of_ble_eq_true rfl) hl dX6_refusalOfSeen_15 (fun H locs hw => ?_)
    refine lv_if_ne (tgt := 23) hC.1 hC.2.1 dX6_refusalOfSeen_18 (by decide) (fun b7 => ?_) (fun b7 => ?_)
    · have hF := ifN hF b7
      refine lv_aload_n hC.1 hC.2.1 dX6_refusalOfSeen_23 rfl (lv_at hl 0 rfl) ?_
      refine g4_there hC hw g4 q1_169 dX6_refusalOfSeen_24 ?_
      refine lv_if_ne (tgt := 36) hC.1 hC.2.1 dX6_refusalOfSeen_27 (by decide) (fun b8 => ?_) (fun b8 => ?_)
      · have hF := ifN hF b8
        refine lv_aload_n hC.1 hC.2.1 dX6_refusalOfSeen_36 rfl (lv_at hl 0 rfl) ?_
        refine g4_size hC hw g4 q1_171 dX6_refusalOfSeen_37 ?_
        refine lv_iconst (v := (2 : Int32)) hC.1 hC.2.1 dX6_refusalOfSeen_40 (by decide) ?_
        refine lv_irem hC.1 hC.2.1 dX6_refusalOfSeen_41 (by decide) ?_
        refine lv_if_eq (tgt := 51) hC.1 hC.2.1 dX6_refusalOfSeen_42 (by decide) (fun b9 => ?_) (fun b9 => ?_)
        · have hF := ifP hF b9
          refine lv_iconst (v := (0 : Int32)) hC.1 hC.2.1 dX6_refusalOfSeen_51 (by decide) ?_
          refine lv_istore (lv' := [(4, .int (0 : Int32)), (3, .ref (ad G c3)), (0, .ref (ad G 0)), (1, .int x1), (2, .int x2)]) hC.1 hC.2.1 dX6_refusalOfSeen_52 hl (by decide) rfl (fun ls hl => ?_)
          exact w_X6_refusalOfSeen_54 hC _ g4 hF hw (lv_sub hl [2, 1, 0] rfl)
        · have hF := ifN hF b9
          refine lv_aload_n hC.1 hC.2.1 dX6_refusalOfSeen_45 rfl (lv_at hl 1 rfl) ?_
          refine lv_iconst (v := (5 : Int32)) hC.1 hC.2.1 dX6_refusalOfSeen_46 (by decide) ?_
          obtain ⟨r11, M12, h10, hF⟩ := ob2S hF
          refine k_Vi (As := [.int (5 : Int32)]) (rest := []) hC hw (c_X6_found (M := M) h10) RC_S yv_X6_found q2_20 ⟨rfl, rfl⟩ ⟨Nat.le_of_ble_eq_true rfl, Nat.le_of_ble_eq_true rfl⟩ ⟨Nat.zero_le _, Nat.zero_le _⟩ rfl rfl (Nat.le_of_ble_eq_true rfl) hl dX6_refusalOfSeen_47 (fun H locs hw => ?_)
          exact r_iretE hC hw hF dX6_refusalOfSeen_50
      · have hF := ifP hF b8
        refine lv_aload_n hC.1 hC.2.1 dX6_refusalOfSeen_30 rfl (lv_at hl 1 rfl) ?_
        refine lv_iconst (v := (1 : Int32)) hC.1 hC.2.1 dX6_refusalOfSeen_31 (by decide) ?_
        obtain ⟨r14, M15, h13, hF⟩ := ob2S hF
        refine k_Vi (As := [.int (1 : Int32)]) (rest := []) hC hw (c_X6_found (M := M) h13) RC_S yv_X6_found q2_20 ⟨rfl, rfl⟩ ⟨Nat.le_of_ble_eq_true rfl, Nat.le_of_ble_eq_true rfl⟩ ⟨Nat.zero_le _, Nat.zero_le _⟩ rfl rfl (Nat.le_of_ble_eq_true rfl) hl dX6_refusalOfSeen_32 (fun H locs hw => ?_)
        exact r_iretE hC hw hF dX6_refusalOfSeen_35
    · have hF := ifP hF b7
      refine lv_iconst (v := (-1 : Int32)) hC.1 hC.2.1 dX6_refusalOfSeen_21 (by decide) ?_
      exact r_iretE hC hw hF dX6_refusalOfSeen_22
abbrev rm_X6_isAsSeen : Room := { frames := 1, cells := 0, slots := 0, locals := 30 }
theorem yv_X6_isAsSeen : YV yX6_isAsSeen cX6_isAsSeen 5 (some .boolean) 2 RX6 := ⟨⟨q3_197, qs_23, q1_1, q3_198⟩, by decide +kernel⟩
theorem dX6_isAsSeen_0 : decode cX6_isAsSeen 0 = .ok (.iconst 0, 1) := by decide +kernel
theorem dX6_isAsSeen_1 : decode cX6_isAsSeen 1 = .ok (.istore_n 3, 1) := by decide +kernel
theorem dX6_isAsSeen_2 : decode cX6_isAsSeen 2 = .ok (.iload_n 3, 1) := by decide +kernel
theorem dX6_isAsSeen_3 : decode cX6_isAsSeen 3 = .ok (.iconst 1, 1) := by decide +kernel
theorem dX6_isAsSeen_4 : decode cX6_isAsSeen 4 = .ok (.iadd, 1) := by decide +kernel
theorem dX6_isAsSeen_5 : decode cX6_isAsSeen 5 = .ok (.aload_n 1, 1) := by decide +kernel
theorem dX6_isAsSeen_6 : decode cX6_isAsSeen 6 = .ok (.getfield 94, 3) := by decide +kernel
theorem dX6_isAsSeen_9 : decode cX6_isAsSeen 9 = .ok (.if_icmp .ge 49, 3) := by decide +kernel
theorem dX6_isAsSeen_12 : decode cX6_isAsSeen 12 = .ok (.iconst 0, 1) := by decide +kernel
theorem dX6_isAsSeen_13 : decode cX6_isAsSeen 13 = .ok (.iload_n 2, 1) := by decide +kernel
theorem dX6_isAsSeen_14 : decode cX6_isAsSeen 14 = .ok (.aload_n 0, 1) := by decide +kernel
theorem dX6_isAsSeen_15 : decode cX6_isAsSeen 15 = .ok (.getfield 61, 3) := by decide +kernel
theorem dX6_isAsSeen_18 : decode cX6_isAsSeen 18 = .ok (.aload_n 1, 1) := by decide +kernel
theorem dX6_isAsSeen_19 : decode cX6_isAsSeen 19 = .ok (.getfield 98, 3) := by decide +kernel
theorem dX6_isAsSeen_22 : decode cX6_isAsSeen 22 = .ok (.iload_n 3, 1) := by decide +kernel
theorem dX6_isAsSeen_23 : decode cX6_isAsSeen 23 = .ok (.invokestatic 101, 3) := by decide +kernel
theorem dX6_isAsSeen_26 : decode cX6_isAsSeen 26 = .ok (.invokestatic 101, 3) := by decide +kernel
theorem dX6_isAsSeen_29 : decode cX6_isAsSeen 29 = .ok (.isub, 1) := by decide +kernel
theorem dX6_isAsSeen_30 : decode cX6_isAsSeen 30 = .ok (.invokestatic 384, 3) := by decide +kernel
theorem dX6_isAsSeen_33 : decode cX6_isAsSeen 33 = .ok (.istore 4, 2) := by decide +kernel
theorem dX6_isAsSeen_35 : decode cX6_isAsSeen 35 = .ok (.iload 4, 2) := by decide +kernel
theorem dX6_isAsSeen_37 : decode cX6_isAsSeen 37 = .ok (.aload_n 1, 1) := by decide +kernel
theorem dX6_isAsSeen_38 : decode cX6_isAsSeen 38 = .ok (.getfield 98, 3) := by decide +kernel
theorem dX6_isAsSeen_41 : decode cX6_isAsSeen 41 = .ok (.iload_n 3, 1) := by decide +kernel
theorem dX6_isAsSeen_42 : decode cX6_isAsSeen 42 = .ok (.iconst 1, 1) := by decide +kernel
theorem dX6_isAsSeen_43 : decode cX6_isAsSeen 43 = .ok (.iadd, 1) := by decide +kernel
theorem dX6_isAsSeen_44 : decode cX6_isAsSeen 44 = .ok (.invokestatic 101, 3) := by decide +kernel
theorem dX6_isAsSeen_47 : decode cX6_isAsSeen 47 = .ok (.if_icmp .eq 5, 3) := by decide +kernel
theorem dX6_isAsSeen_50 : decode cX6_isAsSeen 50 = .ok (.iconst 0, 1) := by decide +kernel
theorem dX6_isAsSeen_51 : decode cX6_isAsSeen 51 = .ok (.ireturn, 1) := by decide +kernel
theorem dX6_isAsSeen_52 : decode cX6_isAsSeen 52 = .ok (.iinc 3 2, 3) := by decide +kernel
theorem dX6_isAsSeen_55 : decode cX6_isAsSeen 55 = .ok (.goto (-53), 3) := by decide +kernel
theorem dX6_isAsSeen_58 : decode cX6_isAsSeen 58 = .ok (.iconst 1, 1) := by decide +kernel
theorem dX6_isAsSeen_59 : decode cX6_isAsSeen 59 = .ok (.ireturn, 1) := by decide +kernel
def F_X6_isAsSeen_2 (fu : Nat) (M : Mm) : Nat → Nat → Int32 → Int32 → Option Int32
  | 0, _, _, _ => none
  | n + 1, c1, x2, x3 =>
    if (M.1 c1 1) ≤ (x3 + (1 : Int32)) then
      some (1 : Int32)
    else
      ob1 (F_X6_read fu M (c1 + 6) x3) (fun r3 =>
      ob1 (F_X6_read fu M 81 r3) (fun r5 =>
      ob1 (F_X6_read fu M (c1 + 6) (x3 + (1 : Int32))) (fun r7 =>
      if (zmx (0 : Int32) (x2 - r5)) = r7 then
        F_X6_isAsSeen_2 fu M n c1 x2 (x3 + (2 : Int32))
      else
        some (0 : Int32))))
set_option maxRecDepth 100000 in
set_option maxHeartbeats 4000000 in
theorem w_X6_isAsSeen_2 {p : Program} {l : Launch} {e : Env} {s : State} {m : MethodId} {args : Array Value} {below : List Frame} {meth : Method} {c : Code} {G : Gv} (hC : Cx p s m args meth c cX6_isAsSeen 5 (some .boolean) RX6) {fu : Nat} {r : Int32} {M : Mm} : ∀ (n : Nat) {c1 : Nat} {x2 : Int32} {x3 : Int32} {H : Heap} {locs : List Loc} {ls : Array Slot} (hk1 : kd c1 = 12), F_X6_isAsSeen_2 fu M n c1 x2 x3 = some r → St G s H locs M → lv_has ls 5 [(0, .ref (ad G 0)), (1, .ref (ad G c1)), (2, .int x2), (3, .int x3)] → W p l e rm_X6_isAsSeen s m args below meth c H locs 0 0 (MQ below (QI G r M) args s 0 0 (zA G)) (F0 m 2 ls []) := by
  intro n
  induction n with
  | zero =>
    intro c1 x2 x3 H locs ls hk1 hF hw hl
    cases hF
  | succ n ih =>
    intro c1 x2 x3 H locs ls hk1 hF hw hl
    unfold F_X6_isAsSeen_2 at hF
    refine lv_iload_n hC.1 hC.2.1 dX6_isAsSeen_2 rfl (lv_at hl 3 rfl) ?_
    refine lv_iconst (v := (1 : Int32)) hC.1 hC.2.1 dX6_isAsSeen_3 (by decide) ?_
    refine lv_iadd hC.1 hC.2.1 dX6_isAsSeen_4 ?_
    refine lv_aload_n hC.1 hC.2.1 dX6_isAsSeen_5 rfl (lv_at hl 1 rfl) ?_
    refine g4_size hC hw hk1 q1_171 dX6_isAsSeen_6 ?_
    refine lv_icmp_ge (tgt := 58) hC.1 hC.2.1 dX6_isAsSeen_9 (by decide) (fun b1 => ?_) (fun b1 => ?_)
    · have hF := ifP hF b1
      refine lv_iconst (v := (1 : Int32)) hC.1 hC.2.1 dX6_isAsSeen_58 (by decide) ?_
      exact r_zretP hC hw (by decide) hF dX6_isAsSeen_59
    · have hF := ifN hF b1
      refine lv_iconst (v := (0 : Int32)) hC.1 hC.2.1 dX6_isAsSeen_12 (by decide) ?_
      refine lv_iload_n hC.1 hC.2.1 dX6_isAsSeen_13 rfl (lv_at hl 2 rfl) ?_
      refine lv_aload_n hC.1 hC.2.1 dX6_isAsSeen_14 rfl (lv_at hl 0 rfl) ?_
      refine g6_ahead hC hw q1_212 dX6_isAsSeen_15 ?_
      refine lv_aload_n hC.1 hC.2.1 dX6_isAsSeen_18 rfl (lv_at hl 1 rfl) ?_
      refine g4_cells hC hw hk1 q1_173 dX6_isAsSeen_19 ?_
      refine lv_iload_n hC.1 hC.2.1 dX6_isAsSeen_22 rfl (lv_at hl 3 rfl) ?_
      obtain ⟨r3, h2, hF⟩ := ob1S hF
      refine k_Si (As := [.ref (ad G (c1 + 6)), .int x3]) (rest := [.ref (ad G 81), .int x2, .int (0 : Int32)]) hC hw (c_X6_read (M := M) (kdRc hk1) h2) ys_X6_read q2_24 ⟨rfl, rfl⟩ ⟨Nat.le_of_ble_eq_true rfl, Nat.le_of_ble_eq_true rfl⟩ ⟨Nat.zero_le _, Nat.zero_le _⟩ rfl rfl (Nat.le_of_ble_eq_true rfl) hl dX6_isAsSeen_23 (fun H locs hw => ?_)
      obtain ⟨r5, h4, hF⟩ := ob1S hF
      refine k_Si (As := [.ref (ad G 81), .int r3]) (rest := [.int x2, .int (0 : Int32)]) hC hw (c_X6_read (M := M) (rfl : kd 81 = 1) h4) ys_X6_read q2_24 ⟨rfl, rfl⟩ ⟨Nat.le_of_ble_eq_true rfl, Nat.le_of_ble_eq_true rfl⟩ ⟨Nat.zero_le _, Nat.zero_le _⟩ rfl rfl (Nat.le_of_ble_eq_true rfl) hl dX6_isAsSeen_26 (fun H locs hw => ?_)
      refine lv_isub hC.1 hC.2.1 dX6_isAsSeen_29 ?_
      refine r_max ⟨hC.1, hC.2.1, by rw [hC.2.2.1]; exact hl.1.symm, hC.2.2.2.1, hC.2.2.2.2.1⟩ q3_174 ⟨Nat.le_of_ble_eq_true rfl, Nat.le_of_ble_eq_true rfl⟩ ⟨Nat.zero_le _, Nat.zero_le _⟩ dX6_isAsSeen_30 ?_
      refine lv_istore (lv' := [(4, .int (zmx (0 : Int32) (x2 - r5))), (0, .ref (ad G 0)), (1, .ref (ad G c1)), (2, .int x2), (3, .int x3)]) hC.1 hC.2.1 dX6_isAsSeen_33 hl (by decide) rfl (fun ls hl => ?_)
      refine lv_iload hC.1 hC.2.1 dX6_isAsSeen_35 (lv_at hl 0 rfl) ?_
      refine lv_aload_n hC.1 hC.2.1 dX6_isAsSeen_37 rfl (lv_at hl 2 rfl) ?_
      refine g4_cells hC hw hk1 q1_173 dX6_isAsSeen_38 ?_
      refine lv_iload_n hC.1 hC.2.1 dX6_isAsSeen_41 rfl (lv_at hl 4 rfl) ?_
      refine lv_iconst (v := (1 : Int32)) hC.1 hC.2.1 dX6_isAsSeen_42 (by decide) ?_
      refine lv_iadd hC.1 hC.2.1 dX6_isAsSeen_43 ?_
      obtain ⟨r7, h6, hF⟩ := ob1S hF
      refine k_Si (As := [.ref (ad G (c1 + 6)), .int (x3 + (1 : Int32))]) (rest := [.int (zmx (0 : Int32) (x2 - r5))]) hC hw (c_X6_read (M := M) (kdRc hk1) h6) ys_X6_read q2_24 ⟨rfl, rfl⟩ ⟨Nat.le_of_ble_eq_true rfl, Nat.le_of_ble_eq_true rfl⟩ ⟨Nat.zero_le _, Nat.zero_le _⟩ rfl rfl (Nat.le_of_ble_eq_true rfl) hl dX6_isAsSeen_44 (fun H locs hw => ?_)
      refine lv_icmp_eq (tgt := 52) hC.1 hC.2.1 dX6_isAsSeen_47 (by decide) (fun b8 => ?_) (fun b8 => ?_)
      · have hF := ifP hF b8
        refine lv_iinc (v := (x3 + (2 : Int32))) (lv' := [(3, .int (x3 + (2 : Int32))), (4, .int (zmx (0 : Int32) (x2 - r5))), (0, .ref (ad G 0)), (1, .ref (ad G c1)), (2, .int x2)]) hC.1 hC.2.1 dX6_isAsSeen_52 hl (k := 4) rfl rfl (by decide) rfl (fun ls hl => ?_)
        refine lv_goto (tgt := 2) hC.1 hC.2.1 dX6_isAsSeen_55 (by decide) ?_
        exact ih hk1 hF hw (lv_sub hl [2, 3, 4, 0] rfl)
      · have hF := ifN hF b8
        refine lv_iconst (v := (0 : Int32)) hC.1 hC.2.1 dX6_isAsSeen_50 (by decide) ?_
        exact r_zretP hC hw (by decide) hF dX6_isAsSeen_51
def F_X6_isAsSeen (fu : Nat) (M : Mm) (c1 : Nat) (x2 : Int32) : Option Int32 :=
  F_X6_isAsSeen_2 fu M fu c1 x2 (0 : Int32)
set_option maxRecDepth 100000 in
set_option maxHeartbeats 4000000 in
theorem c_X6_isAsSeen {l : Launch} {G : Gv} {fu : Nat} {M : Mm} {c1 : Nat} {x2 : Int32} (hk1 : kd c1 = 12) {r : Int32} (hF : F_X6_isAsSeen fu M c1 x2 = some r) : Met l yX6_isAsSeen (.code yX6_isAsSeen cX6_isAsSeen 5 (some .boolean) :: zU) rm_X6_isAsSeen (va_Pc [.ref (ad G 0), .ref (ad G c1), .int x2] (Wd G M)) (QI G r M) 0 0 (zA G) := by
  refine zMet (by decide) rfl (Nat.le_of_ble_eq_true rfl) ?_
  intro p e s m below meth c hC hw ls hl
  have hl : lv_has ls 5 [(0, .ref (ad G 0)), (1, .ref (ad G c1)), (2, .int x2)] := hl
  unfold F_X6_isAsSeen at hF
  refine lv_iconst (v := (0 : Int32)) hC.1 hC.2.1 dX6_isAsSeen_0 (by decide) ?_
  refine lv_istore_n (lv' := [(3, .int (0 : Int32)), (0, .ref (ad G 0)), (1, .ref (ad G c1)), (2, .int x2)]) hC.1 hC.2.1 dX6_isAsSeen_1 rfl hl (by decide) rfl (fun ls hl => ?_)
  exact w_X6_isAsSeen_2 hC _ hk1 hF hw (lv_sub hl [1, 2, 3, 0] rfl)
abbrev rm_X6_fits : Room := { frames := 3, cells := 0, slots := 0, locals := 79 }
theorem yv_X6_fits : YV yX6_fits cX6_fits 8 (some .int) 2 RX6 := ⟨⟨q3_184, q3_185, q1_1, q3_186⟩, by decide +kernel⟩
theorem dX6_fits_0 : decode cX6_fits 0 = .ok (.aload_n 0, 1) := by decide +kernel
theorem dX6_fits_1 : decode cX6_fits 1 = .ok (.iload_n 1, 1) := by decide +kernel
theorem dX6_fits_2 : decode cX6_fits 2 = .ok (.iload_n 2, 1) := by decide +kernel
theorem dX6_fits_3 : decode cX6_fits 3 = .ok (.invokevirtual 293, 3) := by decide +kernel
theorem dX6_fits_6 : decode cX6_fits 6 = .ok (.istore_n 3, 1) := by decide +kernel
theorem dX6_fits_7 : decode cX6_fits 7 = .ok (.aload_n 0, 1) := by decide +kernel
theorem dX6_fits_8 : decode cX6_fits 8 = .ok (.iload_n 2, 1) := by decide +kernel
theorem dX6_fits_9 : decode cX6_fits 9 = .ok (.invokevirtual 78, 3) := by decide +kernel
theorem dX6_fits_12 : decode cX6_fits 12 = .ok (.astore 4, 2) := by decide +kernel
theorem dX6_fits_14 : decode cX6_fits 14 = .ok (.iload_n 3, 1) := by decide +kernel
theorem dX6_fits_15 : decode cX6_fits 15 = .ok (.ifCond .ne 8, 3) := by decide +kernel
theorem dX6_fits_18 : decode cX6_fits 18 = .ok (.aload 4, 2) := by decide +kernel
theorem dX6_fits_20 : decode cX6_fits 20 = .ok (.ifnonnull 5, 3) := by decide +kernel
theorem dX6_fits_23 : decode cX6_fits 23 = .ok (.iload_n 3, 1) := by decide +kernel
theorem dX6_fits_24 : decode cX6_fits 24 = .ok (.ireturn, 1) := by decide +kernel
theorem dX6_fits_25 : decode cX6_fits 25 = .ok (.aload_n 0, 1) := by decide +kernel
theorem dX6_fits_26 : decode cX6_fits 26 = .ok (.getfield 24, 3) := by decide +kernel
theorem dX6_fits_29 : decode cX6_fits 29 = .ok (.aload_n 0, 1) := by decide +kernel
theorem dX6_fits_30 : decode cX6_fits 30 = .ok (.getfield 24, 3) := by decide +kernel
theorem dX6_fits_33 : decode cX6_fits 33 = .ok (.getfield 163, 3) := by decide +kernel
theorem dX6_fits_36 : decode cX6_fits 36 = .ok (.iload_n 1, 1) := by decide +kernel
theorem dX6_fits_37 : decode cX6_fits 37 = .ok (.invokestatic 101, 3) := by decide +kernel
theorem dX6_fits_40 : decode cX6_fits 40 = .ok (.aload_n 0, 1) := by decide +kernel
theorem dX6_fits_41 : decode cX6_fits 41 = .ok (.getfield 24, 3) := by decide +kernel
theorem dX6_fits_44 : decode cX6_fits 44 = .ok (.getfield 214, 3) := by decide +kernel
theorem dX6_fits_47 : decode cX6_fits 47 = .ok (.iload_n 1, 1) := by decide +kernel
theorem dX6_fits_48 : decode cX6_fits 48 = .ok (.invokestatic 101, 3) := by decide +kernel
theorem dX6_fits_51 : decode cX6_fits 51 = .ok (.aload_n 0, 1) := by decide +kernel
theorem dX6_fits_52 : decode cX6_fits 52 = .ok (.getfield 61, 3) := by decide +kernel
theorem dX6_fits_55 : decode cX6_fits 55 = .ok (.invokevirtual 296, 3) := by decide +kernel
theorem dX6_fits_58 : decode cX6_fits 58 = .ok (.iconst 0, 1) := by decide +kernel
theorem dX6_fits_59 : decode cX6_fits 59 = .ok (.istore 5, 2) := by decide +kernel
theorem dX6_fits_61 : decode cX6_fits 61 = .ok (.bipush (-9), 2) := by decide +kernel
theorem dX6_fits_63 : decode cX6_fits 63 = .ok (.istore 6, 2) := by decide +kernel
theorem dX6_fits_65 : decode cX6_fits 65 = .ok (.bipush 99, 2) := by decide +kernel
theorem dX6_fits_67 : decode cX6_fits 67 = .ok (.istore 7, 2) := by decide +kernel
theorem dX6_fits_69 : decode cX6_fits 69 = .ok (.iload 7, 2) := by decide +kernel
theorem dX6_fits_71 : decode cX6_fits 71 = .ok (.ifCond .lt 27, 3) := by decide +kernel
theorem dX6_fits_74 : decode cX6_fits 74 = .ok (.aload_n 0, 1) := by decide +kernel
theorem dX6_fits_75 : decode cX6_fits 75 = .ok (.aload 4, 2) := by decide +kernel
theorem dX6_fits_77 : decode cX6_fits 77 = .ok (.iload 7, 2) := by decide +kernel
theorem dX6_fits_79 : decode cX6_fits 79 = .ok (.invokevirtual 300, 3) := by decide +kernel
theorem dX6_fits_82 : decode cX6_fits 82 = .ok (.ifCond .eq 10, 3) := by decide +kernel
theorem dX6_fits_85 : decode cX6_fits 85 = .ok (.iinc 5 1, 3) := by decide +kernel
theorem dX6_fits_88 : decode cX6_fits 88 = .ok (.iload 7, 2) := by decide +kernel
theorem dX6_fits_90 : decode cX6_fits 90 = .ok (.istore 6, 2) := by decide +kernel
theorem dX6_fits_92 : decode cX6_fits 92 = .ok (.iinc 7 (-1), 3) := by decide +kernel
theorem dX6_fits_95 : decode cX6_fits 95 = .ok (.goto (-26), 3) := by decide +kernel
theorem dX6_fits_98 : decode cX6_fits 98 = .ok (.aload_n 0, 1) := by decide +kernel
theorem dX6_fits_99 : decode cX6_fits 99 = .ok (.iload 6, 2) := by decide +kernel
theorem dX6_fits_101 : decode cX6_fits 101 = .ok (.putfield 220, 3) := by decide +kernel
theorem dX6_fits_104 : decode cX6_fits 104 = .ok (.iload 5, 2) := by decide +kernel
theorem dX6_fits_106 : decode cX6_fits 106 = .ok (.ireturn, 1) := by decide +kernel
def F_X6_fits_69 (fu : Nat) : Nat → Mm → Nat → Int32 → Int32 → Int32 → Option (Int32 × Mm)
  | 0, _, _, _, _, _ => none
  | n + 1, M, c4, x5, x6, x7 =>
    if x7 < 0 then
      lt1 (pI M 0 9 x6) (fun M2 =>
      some (x5, M2))
    else
      ob1 (F_X6_isAsSeen fu M c4 x7) (fun r4 =>
      if r4 = 0 then
        F_X6_fits_69 fu n M c4 x5 x6 (x7 + (-1 : Int32))
      else
        F_X6_fits_69 fu n M c4 (x5 + (1 : Int32)) x7 (x7 + (-1 : Int32)))
set_option maxRecDepth 100000 in
set_option maxHeartbeats 4000000 in
theorem w_X6_fits_69 {p : Program} {l : Launch} {e : Env} {s : State} {m : MethodId} {args : Array Value} {below : List Frame} {meth : Method} {c : Code} {G : Gv} (hC : Cx p s m args meth c cX6_fits 8 (some .int) RX6) {fu : Nat} {r : Int32} {M' : Mm} : ∀ (n : Nat) {c4 : Nat} {x5 : Int32} {x6 : Int32} {x7 : Int32} {M : Mm} {H : Heap} {locs : List Loc} {ls : Array Slot} (hk4 : kd c4 = 12), F_X6_fits_69 fu n M c4 x5 x6 x7 = some (r, M') → St G s H locs M → lv_has ls 8 [(0, .ref (ad G 0)), (4, .ref (ad G c4)), (5, .int x5), (6, .int x6), (7, .int x7)] → W p l e rm_X6_fits s m args below meth c H locs 0 0 (MQ below (QI G r M') args s 0 0 (zA G)) (F0 m 69 ls []) := by
  intro n
  induction n with
  | zero =>
    intro c4 x5 x6 x7 M H locs ls hk4 hF hw hl
    cases hF
  | succ n ih =>
    intro c4 x5 x6 x7 M H locs ls hk4 hF hw hl
    unfold F_X6_fits_69 at hF
    refine lv_iload hC.1 hC.2.1 dX6_fits_69 (lv_at hl 4 rfl) ?_
    refine lv_if_lt (tgt := 98) hC.1 hC.2.1 dX6_fits_71 (by decide) (fun b1 => ?_) (fun b1 => ?_)
    · have hF := ifP hF b1
      refine lv_aload_n hC.1 hC.2.1 dX6_fits_98 rfl (lv_at hl 0 rfl) ?_
      refine lv_iload hC.1 hC.2.1 dX6_fits_99 (lv_at hl 3 rfl) ?_
      refine u6_told hC hw q1_209 dX6_fits_101 (fun H locs hw => ?_)
      obtain ⟨M2, hw, hF⟩ := lt1W hF hw
      refine lv_iload hC.1 hC.2.1 dX6_fits_104 (lv_at hl 2 rfl) ?_
      exact r_iretE hC hw hF dX6_fits_106
    · have hF := ifN hF b1
      refine lv_aload_n hC.1 hC.2.1 dX6_fits_74 rfl (lv_at hl 0 rfl) ?_
      refine lv_aload hC.1 hC.2.1 dX6_fits_75 (lv_at hl 1 rfl) ?_
      refine lv_iload hC.1 hC.2.1 dX6_fits_77 (lv_at hl 4 rfl) ?_
      obtain ⟨r4, h3, hF⟩ := ob1S hF
      refine k_Vi (As := [.ref (ad G c4), .int x7]) (rest := []) hC hw (c_X6_isAsSeen (M := M) hk4 h3) RC_S yv_X6_isAsSeen q3_195 ⟨rfl, rfl⟩ ⟨Nat.le_of_ble_eq_true rfl, Nat.le_of_ble_eq_true rfl⟩ ⟨Nat.zero_le _, Nat.zero_le _⟩ rfl rfl (Nat.le_of_ble_eq_true rfl) hl dX6_fits_79 (fun H locs hw => ?_)
      refine lv_if_eq (tgt := 92) hC.1 hC.2.1 dX6_fits_82 (by decide) (fun b5 => ?_) (fun b5 => ?_)
      · have hF := ifP hF b5
        refine lv_iinc (v := (x7 + (-1 : Int32))) (lv' := [(7, .int (x7 + (-1 : Int32))), (0, .ref (ad G 0)), (4, .ref (ad G c4)), (5, .int x5), (6, .int x6)]) hC.1 hC.2.1 dX6_fits_92 hl (k := 4) rfl rfl (by decide) rfl (fun ls hl => ?_)
        refine lv_goto (tgt := 69) hC.1 hC.2.1 dX6_fits_95 (by decide) ?_
        exact ih hk4 hF hw (lv_sub hl [1, 2, 3, 4, 0] rfl)
      · have hF := ifN hF b5
        refine lv_iinc (v := (x5 + (1 : Int32))) (lv' := [(5, .int (x5 + (1 : Int32))), (0, .ref (ad G 0)), (4, .ref (ad G c4)), (6, .int x6), (7, .int x7)]) hC.1 hC.2.1 dX6_fits_85 hl (k := 2) rfl rfl (by decide) rfl (fun ls hl => ?_)
        refine lv_iload hC.1 hC.2.1 dX6_fits_88 (lv_at hl 4 rfl) ?_
        refine lv_istore (lv' := [(6, .int x7), (5, .int (x5 + (1 : Int32))), (0, .ref (ad G 0)), (4, .ref (ad G c4)), (7, .int x7)]) hC.1 hC.2.1 dX6_fits_90 hl (by decide) rfl (fun ls hl => ?_)
        refine lv_iinc (v := (x7 + (-1 : Int32))) (lv' := [(7, .int (x7 + (-1 : Int32))), (6, .int x7), (5, .int (x5 + (1 : Int32))), (0, .ref (ad G 0)), (4, .ref (ad G c4))]) hC.1 hC.2.1 dX6_fits_92 hl (k := 4) rfl rfl (by decide) rfl (fun ls hl => ?_)
        refine lv_goto (tgt := 69) hC.1 hC.2.1 dX6_fits_95 (by decide) ?_
        exact ih hk4 hF hw (lv_sub hl [3, 4, 2, 1, 0] rfl)
def F_X6_fits (fu : Nat) (M : Mm) (x1 : Int32) (x2 : Int32) : Option (Int32 × Mm) :=
  ob2 (F_X6_refusalOfSeen fu M x1 x2) (fun r2 M3 =>
  ob1 (F_X6_rowOf fu M3 x2) (fun r5 =>
  op1 r5 (
    if r2 = 0 then
      some (r2, M3)
    else
      some (r2, M3)) (fun c6 =>
    if ¬ kd c6 = 12 then none else (
    if r2 = 0 then
      ob1 (F_X6_read fu M3 26 x1) (fun r11 =>
      ob1 (F_X6_read fu M3 29 x1) (fun r13 =>
      ob1 (F_X2_foreseeMelted fu M3 24 r11 r13 81) (fun M15 =>
      F_X6_fits_69 fu fu M15 c6 (0 : Int32) (-9 : Int32) (99 : Int32))))
    else
      some (r2, M3)))))
set_option maxRecDepth 100000 in
set_option maxHeartbeats 4000000 in
theorem c_X6_fits {l : Launch} {G : Gv} {fu : Nat} {M : Mm} {x1 : Int32} {x2 : Int32} {r : Int32} {M' : Mm} (hF : F_X6_fits fu M x1 x2 = some (r, M')) : Met l yX6_fits (.code yX6_fits cX6_fits 8 (some .int) :: zU) rm_X6_fits (va_Pc [.ref (ad G 0), .int x1, .int x2] (Wd G M)) (QI G r M') 0 0 (zA G) := by
  refine zMet (by decide) rfl (Nat.le_of_ble_eq_true rfl) ?_
  intro p e s m below meth c hC hw ls hl
  have hl : lv_has ls 8 [(0, .ref (ad G 0)), (1, .int x1), (2, .int x2)] := hl
  unfold F_X6_fits at hF
  refine lv_aload_n hC.1 hC.2.1 dX6_fits_0 rfl (lv_at hl 0 rfl) ?_
  refine lv_iload_n hC.1 hC.2.1 dX6_fits_1 rfl (lv_at hl 1 rfl) ?_
  refine lv_iload_n hC.1 hC.2.1 dX6_fits_2 rfl (lv_at hl 2 rfl) ?_
  obtain ⟨r2, M3, h1, hF⟩ := ob2S hF
  refine k_Vi (As := [.int x1, .int x2]) (rest := []) hC hw (c_X6_refusalOfSeen (M := M) h1) RC_S yv_X6_refusalOfSeen q3_187 ⟨rfl, rfl⟩ ⟨Nat.le_of_ble_eq_true rfl, Nat.le_of_ble_eq_true rfl⟩ ⟨Nat.zero_le _, Nat.zero_le _⟩ rfl rfl (Nat.le_of_ble_eq_true rfl) hl dX6_fits_3 (fun H locs hw => ?_)
  refine lv_istore_n (lv' := [(3, .int r2), (0, .ref (ad G 0)), (1, .int x1), (2, .int x2)]) hC.1 hC.2.1 dX6_fits_6 rfl hl (by decide) rfl (fun ls hl => ?_)
  refine lv_aload_n hC.1 hC.2.1 dX6_fits_7 rfl (lv_at hl 1 rfl) ?_
  refine lv_iload_n hC.1 hC.2.1 dX6_fits_8 rfl (lv_at hl 3 rfl) ?_
  obtain ⟨r5, h4, hF⟩ := ob1S hF
  refine k_Vq (As := [.int x2]) (rest := []) hC hw (c_X6_rowOf (M := M3) h4) RC_S yv_X6_rowOf q2_16 ⟨rfl, rfl⟩ ⟨Nat.le_of_ble_eq_true rfl, Nat.le_of_ble_eq_true rfl⟩ ⟨Nat.zero_le _, Nat.zero_le _⟩ rfl rfl (Nat.le_of_ble_eq_true rfl) hl dX6_fits_9 (fun H locs hw => ?_)
  cases r5 with
  | none =>
    have hF := op1N hF
    refine topN ?_
    refine lv_astoreN (lv' := [(4, .null), (3, .int r2), (0, .ref (ad G 0)), (1, .int x1), (2, .int x2)]) hC.1 hC.2.1 dX6_fits_12 hl (by decide) rfl (fun ls hl => ?_)
    refine lv_iload_n hC.1 hC.2.1 dX6_fits_14 rfl (lv_at hl 1 rfl) ?_
    refine lv_if_ne (tgt := 23) hC.1 hC.2.1 dX6_fits_15 (by decide) (fun b8 => ?_) (fun b8 => ?_)
    · have hF := ifN hF b8
      refine lv_iload_n hC.1 hC.2.1 dX6_fits_23 rfl (lv_at hl 1 rfl) ?_
      exact r_iretE hC hw hF dX6_fits_24
    · have hF := ifP hF b8
      refine lv_aloadN hC.1 hC.2.1 dX6_fits_18 (lv_at hl 0 rfl) ?_
      refine lv_ifnonnullN hC.1 hC.2.1 dX6_fits_20 ?_
      refine lv_iload_n hC.1 hC.2.1 dX6_fits_23 rfl (lv_at hl 1 rfl) ?_
      exact r_iretE hC hw hF dX6_fits_24
  | some c6 =>
    obtain ⟨g7, hF⟩ := ifO (op1C hF)
    have g7 := Decidable.not_not.mp g7
    refine topC ?_
    refine lv_astore (lv' := [(4, .ref (ad G c6)), (3, .int r2), (0, .ref (ad G 0)), (1, .int x1), (2, .int x2)]) hC.1 hC.2.1 dX6_fits_12 hl (by decide) rfl (fun ls hl => ?_)
    refine lv_iload_n hC.1 hC.2.1 dX6_fits_14 rfl (lv_at hl 1 rfl) ?_
    refine lv_if_ne (tgt := 23) hC.1 hC.2.1 dX6_fits_15 (by decide) (fun b9 => ?_) (fun b9 => ?_)
    · have hF := ifN hF b9
      refine lv_iload_n hC.1 hC.2.1 dX6_fits_23 rfl (lv_at hl 1 rfl) ?_
      exact r_iretE hC hw hF dX6_fits_24
    · have hF := ifP hF b9
      refine lv_aload hC.1 hC.2.1 dX6_fits_18 (lv_at hl 0 rfl) ?_
      refine lv_ifnonnull (tgt := 25) hC.1 hC.2.1 dX6_fits_20 (by decide) ?_
      refine lv_aload_n hC.1 hC.2.1 dX6_fits_25 rfl (lv_at hl 2 rfl) ?_
      refine g6_north hC hw q1_202 dX6_fits_26 ?_
      refine lv_aload_n hC.1 hC.2.1 dX6_fits_29 rfl (lv_at hl 2 rfl) ?_
      refine g6_north hC hw q1_202 dX6_fits_30 ?_
      refine g2_kindOf hC hw (rfl : kd 24 = 11) q1_41 dX6_fits_33 ?_
      refine lv_iload_n hC.1 hC.2.1 dX6_fits_36 rfl (lv_at hl 3 rfl) ?_
      obtain ⟨r11, h10, hF⟩ := ob1S hF
      refine k_Si (As := [.ref (ad G 26), .int x1]) (rest := [.ref (ad G 24)]) hC hw (c_X6_read (M := M3) (rfl : kd 26 = 1) h10) ys_X6_read q2_24 ⟨rfl, rfl⟩ ⟨Nat.le_of_ble_eq_true rfl, Nat.le_of_ble_eq_true rfl⟩ ⟨Nat.zero_le _, Nat.zero_le _⟩ rfl rfl (Nat.le_of_ble_eq_true rfl) hl dX6_fits_37 (fun H locs hw => ?_)
      refine lv_aload_n hC.1 hC.2.1 dX6_fits_40 rfl (lv_at hl 2 rfl) ?_
      refine g6_north hC hw q1_202 dX6_fits_41 ?_
      refine g2_shadeOf hC hw (rfl : kd 24 = 11) q1_48 dX6_fits_44 ?_
      refine lv_iload_n hC.1 hC.2.1 dX6_fits_47 rfl (lv_at hl 3 rfl) ?_
      obtain ⟨r13, h12, hF⟩ := ob1S hF
      refine k_Si (As := [.ref (ad G 29), .int x1]) (rest := [.int r11, .ref (ad G 24)]) hC hw (c_X6_read (M := M3) (rfl : kd 29 = 1) h12) ys_X6_read q2_24 ⟨rfl, rfl⟩ ⟨Nat.le_of_ble_eq_true rfl, Nat.le_of_ble_eq_true rfl⟩ ⟨Nat.zero_le _, Nat.zero_le _⟩ rfl rfl (Nat.le_of_ble_eq_true rfl) hl dX6_fits_48 (fun H locs hw => ?_)
      refine lv_aload_n hC.1 hC.2.1 dX6_fits_51 rfl (lv_at hl 2 rfl) ?_
      refine g6_ahead hC hw q1_212 dX6_fits_52 ?_
      obtain ⟨M15, h14, hF⟩ := ob1S hF
      refine k_Vv (As := [.int r11, .int r13, .ref (ad G 81)]) (rest := []) hC hw (c_X2_foreseeMelted (M := M3) (rfl : kd 24 = 11) (rfl : kd 81 = 1) h14) (RC_N (rfl : kd 24 = 11)) yv_X2_foreseeMelted q3_191 ⟨rfl, rfl⟩ ⟨Nat.le_of_ble_eq_true rfl, Nat.le_of_ble_eq_true rfl⟩ ⟨Nat.zero_le _, Nat.zero_le _⟩ rfl rfl (Nat.le_of_ble_eq_true rfl) hl dX6_fits_55 (fun H locs hw => ?_)
      refine lv_iconst (v := (0 : Int32)) hC.1 hC.2.1 dX6_fits_58 (by decide) ?_
      refine lv_istore (lv' := [(5, .int (0 : Int32)), (4, .ref (ad G c6)), (3, .int r2), (0, .ref (ad G 0)), (1, .int x1), (2, .int x2)]) hC.1 hC.2.1 dX6_fits_59 hl (by decide) rfl (fun ls hl => ?_)
      refine lv_bipush (v := (-9 : Int32)) hC.1 hC.2.1 dX6_fits_61 (by decide) ?_
      refine lv_istore (lv' := [(6, .int (-9 : Int32)), (5, .int (0 : Int32)), (4, .ref (ad G c6)), (3, .int r2), (0, .ref (ad G 0)), (1, .int x1), (2, .int x2)]) hC.1 hC.2.1 dX6_fits_63 hl (by decide) rfl (fun ls hl => ?_)
      refine lv_bipush (v := (99 : Int32)) hC.1 hC.2.1 dX6_fits_65 (by decide) ?_
      refine lv_istore (lv' := [(7, .int (99 : Int32)), (6, .int (-9 : Int32)), (5, .int (0 : Int32)), (4, .ref (ad G c6)), (3, .int r2), (0, .ref (ad G 0)), (1, .int x1), (2, .int x2)]) hC.1 hC.2.1 dX6_fits_67 hl (by decide) rfl (fun ls hl => ?_)
      exact w_X6_fits_69 hC _ g7 hF hw (lv_sub hl [5, 3, 2, 1, 0] rfl)
