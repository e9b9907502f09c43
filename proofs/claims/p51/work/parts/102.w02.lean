abbrev rm_X3_takesFigure : Room := { frames := 1, cells := 0, slots := 0, locals := 22 }
theorem yv_X3_takesFigure : YV yX3_takesFigure cX3_takesFigure 3 (some .boolean) 1 RX3 := ⟨⟨q3_200, qs_27, q1_3, q3_201⟩, by decide +kernel⟩
theorem dX3_takesFigure_0 : decode cX3_takesFigure 0 = .ok (.iconst 1, 1) := by decide +kernel
theorem dX3_takesFigure_1 : decode cX3_takesFigure 1 = .ok (.istore_n 2, 1) := by decide +kernel
theorem dX3_takesFigure_2 : decode cX3_takesFigure 2 = .ok (.aload_n 0, 1) := by decide +kernel
theorem dX3_takesFigure_3 : decode cX3_takesFigure 3 = .ok (.getfield 27, 3) := by decide +kernel
theorem dX3_takesFigure_6 : decode cX3_takesFigure 6 = .ok (.tableswitch 172 9 14 #[38, 172, 56, 74, 121, 136], 38) := by decide +kernel
theorem dX3_takesFigure_44 : decode cX3_takesFigure 44 = .ok (.iload_n 1, 1) := by decide +kernel
theorem dX3_takesFigure_45 : decode cX3_takesFigure 45 = .ok (.ifCond .le 7, 3) := by decide +kernel
theorem dX3_takesFigure_48 : decode cX3_takesFigure 48 = .ok (.iconst 1, 1) := by decide +kernel
theorem dX3_takesFigure_49 : decode cX3_takesFigure 49 = .ok (.goto 4, 3) := by decide +kernel
theorem dX3_takesFigure_52 : decode cX3_takesFigure 52 = .ok (.iconst 0, 1) := by decide +kernel
theorem dX3_takesFigure_53 : decode cX3_takesFigure 53 = .ok (.istore_n 2, 1) := by decide +kernel
theorem dX3_takesFigure_54 : decode cX3_takesFigure 54 = .ok (.aload_n 0, 1) := by decide +kernel
theorem dX3_takesFigure_55 : decode cX3_takesFigure 55 = .ok (.iload_n 1, 1) := by decide +kernel
theorem dX3_takesFigure_56 : decode cX3_takesFigure 56 = .ok (.putfield 63, 3) := by decide +kernel
theorem dX3_takesFigure_59 : decode cX3_takesFigure 59 = .ok (.goto 133, 3) := by decide +kernel
theorem dX3_takesFigure_62 : decode cX3_takesFigure 62 = .ok (.aload_n 0, 1) := by decide +kernel
theorem dX3_takesFigure_63 : decode cX3_takesFigure 63 = .ok (.getfield 18, 3) := by decide +kernel
theorem dX3_takesFigure_66 : decode cX3_takesFigure 66 = .ok (.aload_n 0, 1) := by decide +kernel
theorem dX3_takesFigure_67 : decode cX3_takesFigure 67 = .ok (.getfield 31, 3) := by decide +kernel
theorem dX3_takesFigure_70 : decode cX3_takesFigure 70 = .ok (.bipush 10, 2) := by decide +kernel
theorem dX3_takesFigure_72 : decode cX3_takesFigure 72 = .ok (.iload_n 1, 1) := by decide +kernel
theorem dX3_takesFigure_73 : decode cX3_takesFigure 73 = .ok (.imul, 1) := by decide +kernel
theorem dX3_takesFigure_74 : decode cX3_takesFigure 74 = .ok (.invokestatic 59, 3) := by decide +kernel
theorem dX3_takesFigure_77 : decode cX3_takesFigure 77 = .ok (.goto 115, 3) := by decide +kernel
theorem dX3_takesFigure_80 : decode cX3_takesFigure 80 = .ok (.aload_n 0, 1) := by decide +kernel
theorem dX3_takesFigure_81 : decode cX3_takesFigure 81 = .ok (.getfield 18, 3) := by decide +kernel
theorem dX3_takesFigure_84 : decode cX3_takesFigure 84 = .ok (.aload_n 0, 1) := by decide +kernel
theorem dX3_takesFigure_85 : decode cX3_takesFigure 85 = .ok (.getfield 31, 3) := by decide +kernel
theorem dX3_takesFigure_88 : decode cX3_takesFigure 88 = .ok (.aload_n 0, 1) := by decide +kernel
theorem dX3_takesFigure_89 : decode cX3_takesFigure 89 = .ok (.getfield 18, 3) := by decide +kernel
theorem dX3_takesFigure_92 : decode cX3_takesFigure 92 = .ok (.aload_n 0, 1) := by decide +kernel
theorem dX3_takesFigure_93 : decode cX3_takesFigure 93 = .ok (.getfield 31, 3) := by decide +kernel
theorem dX3_takesFigure_96 : decode cX3_takesFigure 96 = .ok (.invokestatic 66, 3) := by decide +kernel
theorem dX3_takesFigure_99 : decode cX3_takesFigure 99 = .ok (.iload_n 1, 1) := by decide +kernel
theorem dX3_takesFigure_100 : decode cX3_takesFigure 100 = .ok (.iadd, 1) := by decide +kernel
theorem dX3_takesFigure_101 : decode cX3_takesFigure 101 = .ok (.invokestatic 59, 3) := by decide +kernel
theorem dX3_takesFigure_104 : decode cX3_takesFigure 104 = .ok (.aload_n 0, 1) := by decide +kernel
theorem dX3_takesFigure_105 : decode cX3_takesFigure 105 = .ok (.getfield 18, 3) := by decide +kernel
theorem dX3_takesFigure_108 : decode cX3_takesFigure 108 = .ok (.aload_n 0, 1) := by decide +kernel
theorem dX3_takesFigure_109 : decode cX3_takesFigure 109 = .ok (.getfield 31, 3) := by decide +kernel
theorem dX3_takesFigure_112 : decode cX3_takesFigure 112 = .ok (.invokestatic 66, 3) := by decide +kernel
theorem dX3_takesFigure_115 : decode cX3_takesFigure 115 = .ok (.ifCond .le 7, 3) := by decide +kernel
theorem dX3_takesFigure_118 : decode cX3_takesFigure 118 = .ok (.iconst 1, 1) := by decide +kernel
theorem dX3_takesFigure_119 : decode cX3_takesFigure 119 = .ok (.goto 4, 3) := by decide +kernel
theorem dX3_takesFigure_122 : decode cX3_takesFigure 122 = .ok (.iconst 0, 1) := by decide +kernel
theorem dX3_takesFigure_123 : decode cX3_takesFigure 123 = .ok (.istore_n 2, 1) := by decide +kernel
theorem dX3_takesFigure_124 : decode cX3_takesFigure 124 = .ok (.goto 68, 3) := by decide +kernel
theorem dX3_takesFigure_127 : decode cX3_takesFigure 127 = .ok (.aload_n 0, 1) := by decide +kernel
theorem dX3_takesFigure_128 : decode cX3_takesFigure 128 = .ok (.getfield 21, 3) := by decide +kernel
theorem dX3_takesFigure_131 : decode cX3_takesFigure 131 = .ok (.aload_n 0, 1) := by decide +kernel
theorem dX3_takesFigure_132 : decode cX3_takesFigure 132 = .ok (.getfield 31, 3) := by decide +kernel
theorem dX3_takesFigure_135 : decode cX3_takesFigure 135 = .ok (.iload_n 1, 1) := by decide +kernel
theorem dX3_takesFigure_136 : decode cX3_takesFigure 136 = .ok (.invokestatic 59, 3) := by decide +kernel
theorem dX3_takesFigure_139 : decode cX3_takesFigure 139 = .ok (.goto 53, 3) := by decide +kernel
theorem dX3_takesFigure_142 : decode cX3_takesFigure 142 = .ok (.iload_n 1, 1) := by decide +kernel
theorem dX3_takesFigure_143 : decode cX3_takesFigure 143 = .ok (.iconst 1, 1) := by decide +kernel
theorem dX3_takesFigure_144 : decode cX3_takesFigure 144 = .ok (.if_icmp .gt 7, 3) := by decide +kernel
theorem dX3_takesFigure_147 : decode cX3_takesFigure 147 = .ok (.iconst 1, 1) := by decide +kernel
theorem dX3_takesFigure_148 : decode cX3_takesFigure 148 = .ok (.goto 4, 3) := by decide +kernel
theorem dX3_takesFigure_151 : decode cX3_takesFigure 151 = .ok (.iconst 0, 1) := by decide +kernel
theorem dX3_takesFigure_152 : decode cX3_takesFigure 152 = .ok (.istore_n 2, 1) := by decide +kernel
theorem dX3_takesFigure_153 : decode cX3_takesFigure 153 = .ok (.aload_n 0, 1) := by decide +kernel
theorem dX3_takesFigure_154 : decode cX3_takesFigure 154 = .ok (.getfield 24, 3) := by decide +kernel
theorem dX3_takesFigure_157 : decode cX3_takesFigure 157 = .ok (.aload_n 0, 1) := by decide +kernel
theorem dX3_takesFigure_158 : decode cX3_takesFigure 158 = .ok (.getfield 31, 3) := by decide +kernel
theorem dX3_takesFigure_161 : decode cX3_takesFigure 161 = .ok (.iload_n 1, 1) := by decide +kernel
theorem dX3_takesFigure_162 : decode cX3_takesFigure 162 = .ok (.invokestatic 59, 3) := by decide +kernel
theorem dX3_takesFigure_165 : decode cX3_takesFigure 165 = .ok (.aload_n 0, 1) := by decide +kernel
theorem dX3_takesFigure_166 : decode cX3_takesFigure 166 = .ok (.dup, 1) := by decide +kernel
theorem dX3_takesFigure_167 : decode cX3_takesFigure 167 = .ok (.getfield 31, 3) := by decide +kernel
theorem dX3_takesFigure_170 : decode cX3_takesFigure 170 = .ok (.iconst 1, 1) := by decide +kernel
theorem dX3_takesFigure_171 : decode cX3_takesFigure 171 = .ok (.iadd, 1) := by decide +kernel
theorem dX3_takesFigure_172 : decode cX3_takesFigure 172 = .ok (.putfield 31, 3) := by decide +kernel
theorem dX3_takesFigure_175 : decode cX3_takesFigure 175 = .ok (.goto 17, 3) := by decide +kernel
theorem dX3_takesFigure_178 : decode cX3_takesFigure 178 = .ok (.aload_n 0, 1) := by decide +kernel
theorem dX3_takesFigure_179 : decode cX3_takesFigure 179 = .ok (.getfield 9, 3) := by decide +kernel
theorem dX3_takesFigure_182 : decode cX3_takesFigure 182 = .ok (.aload_n 0, 1) := by decide +kernel
theorem dX3_takesFigure_183 : decode cX3_takesFigure 183 = .ok (.getfield 27, 3) := by decide +kernel
theorem dX3_takesFigure_186 : decode cX3_takesFigure 186 = .ok (.iconst 1, 1) := by decide +kernel
theorem dX3_takesFigure_187 : decode cX3_takesFigure 187 = .ok (.isub, 1) := by decide +kernel
theorem dX3_takesFigure_188 : decode cX3_takesFigure 188 = .ok (.iload_n 1, 1) := by decide +kernel
theorem dX3_takesFigure_189 : decode cX3_takesFigure 189 = .ok (.invokestatic 59, 3) := by decide +kernel
theorem dX3_takesFigure_192 : decode cX3_takesFigure 192 = .ok (.aload_n 0, 1) := by decide +kernel
theorem dX3_takesFigure_193 : decode cX3_takesFigure 193 = .ok (.aload_n 0, 1) := by decide +kernel
theorem dX3_takesFigure_194 : decode cX3_takesFigure 194 = .ok (.getfield 27, 3) := by decide +kernel
theorem dX3_takesFigure_197 : decode cX3_takesFigure 197 = .ok (.bipush 14, 2) := by decide +kernel
theorem dX3_takesFigure_199 : decode cX3_takesFigure 199 = .ok (.if_icmp .ne 8, 3) := by decide +kernel
theorem dX3_takesFigure_202 : decode cX3_takesFigure 202 = .ok (.bipush 10, 2) := by decide +kernel
theorem dX3_takesFigure_204 : decode cX3_takesFigure 204 = .ok (.goto 9, 3) := by decide +kernel
theorem dX3_takesFigure_207 : decode cX3_takesFigure 207 = .ok (.aload_n 0, 1) := by decide +kernel
theorem dX3_takesFigure_208 : decode cX3_takesFigure 208 = .ok (.getfield 27, 3) := by decide +kernel
theorem dX3_takesFigure_211 : decode cX3_takesFigure 211 = .ok (.iconst 1, 1) := by decide +kernel
theorem dX3_takesFigure_212 : decode cX3_takesFigure 212 = .ok (.iadd, 1) := by decide +kernel
theorem dX3_takesFigure_213 : decode cX3_takesFigure 213 = .ok (.putfield 27, 3) := by decide +kernel
theorem dX3_takesFigure_216 : decode cX3_takesFigure 216 = .ok (.iload_n 2, 1) := by decide +kernel
theorem dX3_takesFigure_217 : decode cX3_takesFigure 217 = .ok (.ireturn, 1) := by decide +kernel
def F_X3_takesFigure_192 (fu : Nat) (M : Mm) (x2 : Int32) : Option (Int32 × Mm) :=
  if (M.1 68 0) = (14 : Int32) then
    lt1 (pI M 68 0 (10 : Int32)) (fun M4 =>
    if ¬ (x2 = 0 ∨ x2 = 1) then none else (
    some (x2, M4)))
  else
    lt1 (pI M 68 0 ((M.1 68 0) + (1 : Int32))) (fun M2 =>
    if ¬ (x2 = 0 ∨ x2 = 1) then none else (
    some (x2, M2)))
set_option maxRecDepth 100000 in
set_option maxHeartbeats 4000000 in
theorem w_X3_takesFigure_192 {p : Program} {l : Launch} {e : Env} {s : State} {m : MethodId} {args : Array Value} {below : List Frame} {meth : Method} {c : Code} {G : Gv} (hC : Cx p s m args meth c cX3_takesFigure 3 (some .boolean) RX3) {fu : Nat} {r : Int32} {M' : Mm} {x2 : Int32} {M : Mm} {H : Heap} {locs : List Loc} {ls : Array Slot} (hF : F_X3_takesFigure_192 fu M x2 = some (r, M')) (hw : St G s H locs M) (hl : lv_has ls 3 [(0, .ref (ad G 68)), (2, .int x2)]) : W p l e rm_X3_takesFigure s m args below meth c H locs 0 0 (MQ below (QI G r M') args s 0 0 (zA G)) (F0 m 192 ls []) := by
  unfold F_X3_takesFigure_192 at hF
  refine lv_aload_n hC.1 hC.2.1 dX3_takesFigure_192 rfl (lv_at hl 0 rfl) ?_
  refine lv_aload_n hC.1 hC.2.1 dX3_takesFigure_193 rfl (lv_at hl 0 rfl) ?_
  refine g3_stage hC hw q1_87 dX3_takesFigure_194 ?_
  refine lv_bipush (v := (14 : Int32)) hC.1 hC.2.1 dX3_takesFigure_197 (by decide) ?_
  refine lv_icmp_ne (tgt := 207) hC.1 hC.2.1 dX3_takesFigure_199 (by decide) (fun b1 => ?_) (fun b1 => ?_)
  · have hF := ifN hF b1
    refine lv_aload_n hC.1 hC.2.1 dX3_takesFigure_207 rfl (lv_at hl 0 rfl) ?_
    refine g3_stage hC hw q1_87 dX3_takesFigure_208 ?_
    refine lv_iconst (v := (1 : Int32)) hC.1 hC.2.1 dX3_takesFigure_211 (by decide) ?_
    refine lv_iadd hC.1 hC.2.1 dX3_takesFigure_212 ?_
    refine u3_stage hC hw q1_87 dX3_takesFigure_213 (fun H locs hw => ?_)
    obtain ⟨M2, hw, hF⟩ := lt1W hF hw
    refine lv_iload_n hC.1 hC.2.1 dX3_takesFigure_216 rfl (lv_at hl 1 rfl) ?_
    obtain ⟨z3, hF⟩ := ifO hF
    exact r_zretE hC hw (Decidable.not_not.mp z3) hF dX3_takesFigure_217
  · have hF := ifP hF b1
    refine lv_bipush (v := (10 : Int32)) hC.1 hC.2.1 dX3_takesFigure_202 (by decide) ?_
    refine lv_goto (tgt := 213) hC.1 hC.2.1 dX3_takesFigure_204 (by decide) ?_
    refine u3_stage hC hw q1_87 dX3_takesFigure_213 (fun H locs hw => ?_)
    obtain ⟨M4, hw, hF⟩ := lt1W hF hw
    refine lv_iload_n hC.1 hC.2.1 dX3_takesFigure_216 rfl (lv_at hl 1 rfl) ?_
    obtain ⟨z5, hF⟩ := ifO hF
    exact r_zretE hC hw (Decidable.not_not.mp z5) hF dX3_takesFigure_217
def F_X3_takesFigure_53 (fu : Nat) (M : Mm) (x1 : Int32) (t0 : Int32) : Option (Int32 × Mm) :=
  lt1 (pI M 68 2 x1) (fun M1 =>
  F_X3_takesFigure_192 fu M1 t0)
set_option maxRecDepth 100000 in
set_option maxHeartbeats 4000000 in
theorem w_X3_takesFigure_53 {p : Program} {l : Launch} {e : Env} {s : State} {m : MethodId} {args : Array Value} {below : List Frame} {meth : Method} {c : Code} {G : Gv} (hC : Cx p s m args meth c cX3_takesFigure 3 (some .boolean) RX3) {fu : Nat} {r : Int32} {M' : Mm} {x1 : Int32} {t0 : Int32} {M : Mm} {H : Heap} {locs : List Loc} {ls : Array Slot} (hF : F_X3_takesFigure_53 fu M x1 t0 = some (r, M')) (hw : St G s H locs M) (hl : lv_has ls 3 [(0, .ref (ad G 68)), (1, .int x1)]) : W p l e rm_X3_takesFigure s m args below meth c H locs 0 0 (MQ below (QI G r M') args s 0 0 (zA G)) (F0 m 53 ls [.int t0]) := by
  unfold F_X3_takesFigure_53 at hF
  refine lv_istore_n (lv' := [(2, .int t0), (0, .ref (ad G 68)), (1, .int x1)]) hC.1 hC.2.1 dX3_takesFigure_53 rfl hl (by decide) rfl (fun ls hl => ?_)
  refine lv_aload_n hC.1 hC.2.1 dX3_takesFigure_54 rfl (lv_at hl 1 rfl) ?_
  refine lv_iload_n hC.1 hC.2.1 dX3_takesFigure_55 rfl (lv_at hl 2 rfl) ?_
  refine u3_right hC hw q1_91 dX3_takesFigure_56 (fun H locs hw => ?_)
  obtain ⟨M1, hw, hF⟩ := lt1W hF hw
  refine lv_goto (tgt := 192) hC.1 hC.2.1 dX3_takesFigure_59 (by decide) ?_
  exact w_X3_takesFigure_192 hC hF hw (lv_sub hl [1, 0] rfl)
def F_X3_takesFigure_123 (fu : Nat) (M : Mm) (t0 : Int32) : Option (Int32 × Mm) :=
  F_X3_takesFigure_192 fu M t0
set_option maxRecDepth 100000 in
set_option maxHeartbeats 4000000 in
theorem w_X3_takesFigure_123 {p : Program} {l : Launch} {e : Env} {s : State} {m : MethodId} {args : Array Value} {below : List Frame} {meth : Method} {c : Code} {G : Gv} (hC : Cx p s m args meth c cX3_takesFigure 3 (some .boolean) RX3) {fu : Nat} {r : Int32} {M' : Mm} {t0 : Int32} {M : Mm} {H : Heap} {locs : List Loc} {ls : Array Slot} (hF : F_X3_takesFigure_123 fu M t0 = some (r, M')) (hw : St G s H locs M) (hl : lv_has ls 3 [(0, .ref (ad G 68))]) : W p l e rm_X3_takesFigure s m args below meth c H locs 0 0 (MQ below (QI G r M') args s 0 0 (zA G)) (F0 m 123 ls [.int t0]) := by
  unfold F_X3_takesFigure_123 at hF
  refine lv_istore_n (lv' := [(2, .int t0), (0, .ref (ad G 68))]) hC.1 hC.2.1 dX3_takesFigure_123 rfl hl (by decide) rfl (fun ls hl => ?_)
  refine lv_goto (tgt := 192) hC.1 hC.2.1 dX3_takesFigure_124 (by decide) ?_
  exact w_X3_takesFigure_192 hC hF hw (lv_sub hl [1, 0] rfl)
def F_X3_takesFigure_152 (fu : Nat) (M : Mm) (x1 : Int32) (t0 : Int32) : Option (Int32 × Mm) :=
  ob1 (F_X6_write fu M 73 (M.1 68 1) x1) (fun M2 =>
  lt1 (pI M2 68 1 ((M2.1 68 1) + (1 : Int32))) (fun M3 =>
  F_X3_takesFigure_192 fu M3 t0))
set_option maxRecDepth 100000 in
set_option maxHeartbeats 4000000 in
theorem w_X3_takesFigure_152 {p : Program} {l : Launch} {e : Env} {s : State} {m : MethodId} {args : Array Value} {below : List Frame} {meth : Method} {c : Code} {G : Gv} (hC : Cx p s m args meth c cX3_takesFigure 3 (some .boolean) RX3) {fu : Nat} {r : Int32} {M' : Mm} {x1 : Int32} {t0 : Int32} {M : Mm} {H : Heap} {locs : List Loc} {ls : Array Slot} (hF : F_X3_takesFigure_152 fu M x1 t0 = some (r, M')) (hw : St G s H locs M) (hl : lv_has ls 3 [(0, .ref (ad G 68)), (1, .int x1)]) : W p l e rm_X3_takesFigure s m args below meth c H locs 0 0 (MQ below (QI G r M') args s 0 0 (zA G)) (F0 m 152 ls [.int t0]) := by
  unfold F_X3_takesFigure_152 at hF
  refine lv_istore_n (lv' := [(2, .int t0), (0, .ref (ad G 68)), (1, .int x1)]) hC.1 hC.2.1 dX3_takesFigure_152 rfl hl (by decide) rfl (fun ls hl => ?_)
  refine lv_aload_n hC.1 hC.2.1 dX3_takesFigure_153 rfl (lv_at hl 1 rfl) ?_
  refine g3_voteOf hC hw q1_100 dX3_takesFigure_154 ?_
  refine lv_aload_n hC.1 hC.2.1 dX3_takesFigure_157 rfl (lv_at hl 1 rfl) ?_
  refine g3_men hC hw q1_89 dX3_takesFigure_158 ?_
  refine lv_iload_n hC.1 hC.2.1 dX3_takesFigure_161 rfl (lv_at hl 2 rfl) ?_
  obtain ⟨M2, h1, hF⟩ := ob1S hF
  refine k_Nv (As := [.ref (ad G 73), .int (M.1 68 1), .int x1]) (rest := []) hC hw (c_X6_write (M := M) (rfl : kd 73 = 1) h1) ys_X6_write (k := 13) rfl ⟨rfl, rfl⟩ ⟨Nat.le_of_ble_eq_true rfl, Nat.le_of_ble_eq_true rfl⟩ ⟨Nat.zero_le _, Nat.zero_le _⟩ rfl rfl (Nat.le_of_ble_eq_true rfl) hl dX3_takesFigure_162 (fun H locs hw => ?_)
  refine lv_aload_n hC.1 hC.2.1 dX3_takesFigure_165 rfl (lv_at hl 1 rfl) ?_
  refine lv_dup hC.1 hC.2.1 dX3_takesFigure_166 rfl ?_
  refine g3_men hC hw q1_89 dX3_takesFigure_167 ?_
  refine lv_iconst (v := (1 : Int32)) hC.1 hC.2.1 dX3_takesFigure_170 (by decide) ?_
  refine lv_iadd hC.1 hC.2.1 dX3_takesFigure_171 ?_
  refine u3_men hC hw q1_89 dX3_takesFigure_172 (fun H locs hw => ?_)
  obtain ⟨M3, hw, hF⟩ := lt1W hF hw
  refine lv_goto (tgt := 192) hC.1 hC.2.1 dX3_takesFigure_175 (by decide) ?_
  exact w_X3_takesFigure_192 hC hF hw (lv_sub hl [1, 0] rfl)
def F_X3_takesFigure (fu : Nat) (M : Mm) (x1 : Int32) : Option (Int32 × Mm) :=
  if (M.1 68 0) = (9 : Int32) then
    if x1 ≤ 0 then
      F_X3_takesFigure_53 fu M x1 (0 : Int32)
    else
      F_X3_takesFigure_53 fu M x1 (1 : Int32)
  else
  if (M.1 68 0) = (11 : Int32) then
    ob1 (F_X6_write fu M 71 (M.1 68 1) ((10 : Int32) * x1)) (fun M5 =>
    F_X3_takesFigure_192 fu M5 (1 : Int32))
  else
  if (M.1 68 0) = (12 : Int32) then
    ob1 (F_X6_read fu M 71 (M.1 68 1)) (fun r8 =>
    ob1 (F_X6_write fu M 71 (M.1 68 1) (r8 + x1)) (fun M10 =>
    ob1 (F_X6_read fu M10 71 (M10.1 68 1)) (fun r12 =>
    if r12 ≤ 0 then
      F_X3_takesFigure_123 fu M10 (0 : Int32)
    else
      F_X3_takesFigure_123 fu M10 (1 : Int32))))
  else
  if (M.1 68 0) = (13 : Int32) then
    ob1 (F_X6_write fu M 72 (M.1 68 1) x1) (fun M16 =>
    F_X3_takesFigure_192 fu M16 (1 : Int32))
  else
  if (M.1 68 0) = (14 : Int32) then
    if (1 : Int32) < x1 then
      F_X3_takesFigure_152 fu M x1 (0 : Int32)
    else
      F_X3_takesFigure_152 fu M x1 (1 : Int32)
  else
  ob1 (F_X6_write fu M 69 ((M.1 68 0) - (1 : Int32)) x1) (fun M20 =>
  F_X3_takesFigure_192 fu M20 (1 : Int32))
set_option maxRecDepth 100000 in
set_option maxHeartbeats 4000000 in
theorem c_X3_takesFigure {l : Launch} {G : Gv} {fu : Nat} {M : Mm} {x1 : Int32} {r : Int32} {M' : Mm} (hF : F_X3_takesFigure fu M x1 = some (r, M')) : Met l yX3_takesFigure (.code yX3_takesFigure cX3_takesFigure 3 (some .boolean) :: zU) rm_X3_takesFigure (va_Pc [.ref (ad G 68), .int x1] (Wd G M)) (QI G r M') 0 0 (zA G) := by
  refine zMet (by decide) rfl (Nat.le_of_ble_eq_true rfl) ?_
  intro p e s m below meth c hC hw ls hl
  have hl : lv_has ls 3 [(0, .ref (ad G 68)), (1, .int x1)] := hl
  unfold F_X3_takesFigure at hF
  refine lv_iconst (v := (1 : Int32)) hC.1 hC.2.1 dX3_takesFigure_0 (by decide) ?_
  refine lv_istore_n (lv' := [(2, .int (1 : Int32)), (0, .ref (ad G 68)), (1, .int x1)]) hC.1 hC.2.1 dX3_takesFigure_1 rfl hl (by decide) rfl (fun ls hl => ?_)
  refine lv_aload_n hC.1 hC.2.1 dX3_takesFigure_2 rfl (lv_at hl 1 rfl) ?_
  refine g3_stage hC hw q1_87 dX3_takesFigure_3 ?_
  rcases Classical.em ((M.1 68 0) = (9 : Int32)) with w1 | w1
  · have hF := ifP hF w1
    refine r_swI (v := (9 : Int32)) (off := 38) (tgt := 44) hC.1 hC.2.1 w1 dX3_takesFigure_6 (by decide) (by decide) rfl (by decide) ?_
    refine lv_iload_n hC.1 hC.2.1 dX3_takesFigure_44 rfl (lv_at hl 2 rfl) ?_
    refine lv_if_le (tgt := 52) hC.1 hC.2.1 dX3_takesFigure_45 (by decide) (fun b2 => ?_) (fun b2 => ?_)
    · have hF := ifP hF b2
      refine lv_iconst (v := (0 : Int32)) hC.1 hC.2.1 dX3_takesFigure_52 (by decide) ?_
      exact w_X3_takesFigure_53 hC hF hw (lv_sub hl [1, 2] rfl)
    · have hF := ifN hF b2
      refine lv_iconst (v := (1 : Int32)) hC.1 hC.2.1 dX3_takesFigure_48 (by decide) ?_
      refine lv_goto (tgt := 53) hC.1 hC.2.1 dX3_takesFigure_49 (by decide) ?_
      exact w_X3_takesFigure_53 hC hF hw (lv_sub hl [1, 2] rfl)
  have hF := ifN hF w1
  rcases Classical.em ((M.1 68 0) = (11 : Int32)) with w3 | w3
  · have hF := ifP hF w3
    refine r_swI (v := (11 : Int32)) (off := 56) (tgt := 62) hC.1 hC.2.1 w3 dX3_takesFigure_6 (by decide) (by decide) rfl (by decide) ?_
    refine lv_aload_n hC.1 hC.2.1 dX3_takesFigure_62 rfl (lv_at hl 1 rfl) ?_
    refine g3_bulkOf hC hw q1_96 dX3_takesFigure_63 ?_
    refine lv_aload_n hC.1 hC.2.1 dX3_takesFigure_66 rfl (lv_at hl 1 rfl) ?_
    refine g3_men hC hw q1_89 dX3_takesFigure_67 ?_
    refine lv_bipush (v := (10 : Int32)) hC.1 hC.2.1 dX3_takesFigure_70 (by decide) ?_
    refine lv_iload_n hC.1 hC.2.1 dX3_takesFigure_72 rfl (lv_at hl 2 rfl) ?_
    refine lv_imul hC.1 hC.2.1 dX3_takesFigure_73 ?_
    obtain ⟨M5, h4, hF⟩ := ob1S hF
    refine k_Nv (As := [.ref (ad G 71), .int (M.1 68 1), .int ((10 : Int32) * x1)]) (rest := []) hC hw (c_X6_write (M := M) (rfl : kd 71 = 1) h4) ys_X6_write (k := 13) rfl ⟨rfl, rfl⟩ ⟨Nat.le_of_ble_eq_true rfl, Nat.le_of_ble_eq_true rfl⟩ ⟨Nat.zero_le _, Nat.zero_le _⟩ rfl rfl (Nat.le_of_ble_eq_true rfl) hl dX3_takesFigure_74 (fun H locs hw => ?_)
    refine lv_goto (tgt := 192) hC.1 hC.2.1 dX3_takesFigure_77 (by decide) ?_
    exact w_X3_takesFigure_192 hC hF hw (lv_sub hl [1, 0] rfl)
  have hF := ifN hF w3
  rcases Classical.em ((M.1 68 0) = (12 : Int32)) with w6 | w6
  · have hF := ifP hF w6
    refine r_swI (v := (12 : Int32)) (off := 74) (tgt := 80) hC.1 hC.2.1 w6 dX3_takesFigure_6 (by decide) (by decide) rfl (by decide) ?_
    refine lv_aload_n hC.1 hC.2.1 dX3_takesFigure_80 rfl (lv_at hl 1 rfl) ?_
    refine g3_bulkOf hC hw q1_96 dX3_takesFigure_81 ?_
    refine lv_aload_n hC.1 hC.2.1 dX3_takesFigure_84 rfl (lv_at hl 1 rfl) ?_
    refine g3_men hC hw q1_89 dX3_takesFigure_85 ?_
    refine lv_aload_n hC.1 hC.2.1 dX3_takesFigure_88 rfl (lv_at hl 1 rfl) ?_
    refine g3_bulkOf hC hw q1_96 dX3_takesFigure_89 ?_
    refine lv_aload_n hC.1 hC.2.1 dX3_takesFigure_92 rfl (lv_at hl 1 rfl) ?_
    refine g3_men hC hw q1_89 dX3_takesFigure_93 ?_
    obtain ⟨r8, h7, hF⟩ := ob1S hF
    refine k_Ni (As := [.ref (ad G 71), .int (M.1 68 1)]) (rest := [.int (M.1 68 1), .ref (ad G 71)]) hC hw (c_X6_read (M := M) (rfl : kd 71 = 1) h7) ys_X6_read (k := 14) rfl ⟨rfl, rfl⟩ ⟨Nat.le_of_ble_eq_true rfl, Nat.le_of_ble_eq_true rfl⟩ ⟨Nat.zero_le _, Nat.zero_le _⟩ rfl rfl (Nat.le_of_ble_eq_true rfl) hl dX3_takesFigure_96 (fun H locs hw => ?_)
    refine lv_iload_n hC.1 hC.2.1 dX3_takesFigure_99 rfl (lv_at hl 2 rfl) ?_
    refine lv_iadd hC.1 hC.2.1 dX3_takesFigure_100 ?_
    obtain ⟨M10, h9, hF⟩ := ob1S hF
    refine k_Nv (As := [.ref (ad G 71), .int (M.1 68 1), .int (r8 + x1)]) (rest := []) hC hw (c_X6_write (M := M) (rfl : kd 71 = 1) h9) ys_X6_write (k := 13) rfl ⟨rfl, rfl⟩ ⟨Nat.le_of_ble_eq_true rfl, Nat.le_of_ble_eq_true rfl⟩ ⟨Nat.zero_le _, Nat.zero_le _⟩ rfl rfl (Nat.le_of_ble_eq_true rfl) hl dX3_takesFigure_101 (fun H locs hw => ?_)
    refine lv_aload_n hC.1 hC.2.1 dX3_takesFigure_104 rfl (lv_at hl 1 rfl) ?_
    refine g3_bulkOf hC hw q1_96 dX3_takesFigure_105 ?_
    refine lv_aload_n hC.1 hC.2.1 dX3_takesFigure_108 rfl (lv_at hl 1 rfl) ?_
    refine g3_men hC hw q1_89 dX3_takesFigure_109 ?_
    obtain ⟨r12, h11, hF⟩ := ob1S hF
    refine k_Ni (As := [.ref (ad G 71), .int (M10.1 68 1)]) (rest := []) hC hw (c_X6_read (M := M10) (rfl : kd 71 = 1) h11) ys_X6_read (k := 14) rfl ⟨rfl, rfl⟩ ⟨Nat.le_of_ble_eq_true rfl, Nat.le_of_ble_eq_true rfl⟩ ⟨Nat.zero_le _, Nat.zero_le _⟩ rfl rfl (Nat.le_of_ble_eq_true rfl) hl dX3_takesFigure_112 (fun H locs hw => ?_)
    refine lv_if_le (tgt := 122) hC.1 hC.2.1 dX3_takesFigure_115 (by decide) (fun b13 => ?_) (fun b13 => ?_)
    · have hF := ifP hF b13
      refine lv_iconst (v := (0 : Int32)) hC.1 hC.2.1 dX3_takesFigure_122 (by decide) ?_
      exact w_X3_takesFigure_123 hC hF hw (lv_sub hl [1] rfl)
    · have hF := ifN hF b13
      refine lv_iconst (v := (1 : Int32)) hC.1 hC.2.1 dX3_takesFigure_118 (by decide) ?_
      refine lv_goto (tgt := 123) hC.1 hC.2.1 dX3_takesFigure_119 (by decide) ?_
      exact w_X3_takesFigure_123 hC hF hw (lv_sub hl [1] rfl)
  have hF := ifN hF w6
  rcases Classical.em ((M.1 68 0) = (13 : Int32)) with w14 | w14
  · have hF := ifP hF w14
    refine r_swI (v := (13 : Int32)) (off := 121) (tgt := 127) hC.1 hC.2.1 w14 dX3_takesFigure_6 (by decide) (by decide) rfl (by decide) ?_
    refine lv_aload_n hC.1 hC.2.1 dX3_takesFigure_127 rfl (lv_at hl 1 rfl) ?_
    refine g3_shadeOf hC hw q1_98 dX3_takesFigure_128 ?_
    refine lv_aload_n hC.1 hC.2.1 dX3_takesFigure_131 rfl (lv_at hl 1 rfl) ?_
    refine g3_men hC hw q1_89 dX3_takesFigure_132 ?_
    refine lv_iload_n hC.1 hC.2.1 dX3_takesFigure_135 rfl (lv_at hl 2 rfl) ?_
    obtain ⟨M16, h15, hF⟩ := ob1S hF
    refine k_Nv (As := [.ref (ad G 72), .int (M.1 68 1), .int x1]) (rest := []) hC hw (c_X6_write (M := M) (rfl : kd 72 = 1) h15) ys_X6_write (k := 13) rfl ⟨rfl, rfl⟩ ⟨Nat.le_of_ble_eq_true rfl, Nat.le_of_ble_eq_true rfl⟩ ⟨Nat.zero_le _, Nat.zero_le _⟩ rfl rfl (Nat.le_of_ble_eq_true rfl) hl dX3_takesFigure_136 (fun H locs hw => ?_)
    refine lv_goto (tgt := 192) hC.1 hC.2.1 dX3_takesFigure_139 (by decide) ?_
    exact w_X3_takesFigure_192 hC hF hw (lv_sub hl [1, 0] rfl)
  have hF := ifN hF w14
  rcases Classical.em ((M.1 68 0) = (14 : Int32)) with w17 | w17
  · have hF := ifP hF w17
    refine r_swI (v := (14 : Int32)) (off := 136) (tgt := 142) hC.1 hC.2.1 w17 dX3_takesFigure_6 (by decide) (by decide) rfl (by decide) ?_
    refine lv_iload_n hC.1 hC.2.1 dX3_takesFigure_142 rfl (lv_at hl 2 rfl) ?_
    refine lv_iconst (v := (1 : Int32)) hC.1 hC.2.1 dX3_takesFigure_143 (by decide) ?_
    refine lv_icmp_gt (tgt := 151) hC.1 hC.2.1 dX3_takesFigure_144 (by decide) (fun b18 => ?_) (fun b18 => ?_)
    · have hF := ifP hF b18
      refine lv_iconst (v := (0 : Int32)) hC.1 hC.2.1 dX3_takesFigure_151 (by decide) ?_
      exact w_X3_takesFigure_152 hC hF hw (lv_sub hl [1, 2] rfl)
    · have hF := ifN hF b18
      refine lv_iconst (v := (1 : Int32)) hC.1 hC.2.1 dX3_takesFigure_147 (by decide) ?_
      refine lv_goto (tgt := 152) hC.1 hC.2.1 dX3_takesFigure_148 (by decide) ?_
      exact w_X3_takesFigure_152 hC hF hw (lv_sub hl [1, 2] rfl)
  have hF := ifN hF w17
  refine r_swD (tgt := 178) (vs := [(9 : Int32), (11 : Int32), (12 : Int32), (13 : Int32), (14 : Int32)]) hC.1 hC.2.1 (List.forall_mem_cons.mpr ⟨w1, List.forall_mem_cons.mpr ⟨w3, List.forall_mem_cons.mpr ⟨w6, List.forall_mem_cons.mpr ⟨w14, List.forall_mem_cons.mpr ⟨w17, fun v hv => absurd hv List.not_mem_nil⟩⟩⟩⟩⟩) dX3_takesFigure_6 (by decide) rfl (by decide) ?_
  refine lv_aload_n hC.1 hC.2.1 dX3_takesFigure_178 rfl (lv_at hl 1 rfl) ?_
  refine g3_suns hC hw q1_92 dX3_takesFigure_179 ?_
  refine lv_aload_n hC.1 hC.2.1 dX3_takesFigure_182 rfl (lv_at hl 1 rfl) ?_
  refine g3_stage hC hw q1_87 dX3_takesFigure_183 ?_
  refine lv_iconst (v := (1 : Int32)) hC.1 hC.2.1 dX3_takesFigure_186 (by decide) ?_
  refine lv_isub hC.1 hC.2.1 dX3_takesFigure_187 ?_
  refine lv_iload_n hC.1 hC.2.1 dX3_takesFigure_188 rfl (lv_at hl 2 rfl) ?_
  obtain ⟨M20, h19, hF⟩ := ob1S hF
  refine k_Nv (As := [.ref (ad G 69), .int ((M.1 68 0) - (1 : Int32)), .int x1]) (rest := []) hC hw (c_X6_write (M := M) (rfl : kd 69 = 1) h19) ys_X6_write (k := 13) rfl ⟨rfl, rfl⟩ ⟨Nat.le_of_ble_eq_true rfl, Nat.le_of_ble_eq_true rfl⟩ ⟨Nat.zero_le _, Nat.zero_le _⟩ rfl rfl (Nat.le_of_ble_eq_true rfl) hl dX3_takesFigure_189 (fun H locs hw => ?_)
  exact w_X3_takesFigure_192 hC hF hw (lv_sub hl [1, 0] rfl)
abbrev rm_X3_takes : Room := { frames := 2, cells := 0, slots := 0, locals := 44 }
theorem yv_X3_takes : YV yX3_takes cX3_takes 3 (some .boolean) 1 RX3 := ⟨⟨q3_184, qs_24, q1_3, q3_185⟩, by decide +kernel⟩
theorem dX3_takes_0 : decode cX3_takes 0 = .ok (.aload_n 0, 1) := by decide +kernel
theorem dX3_takes_1 : decode cX3_takes 1 = .ok (.getfield 27, 3) := by decide +kernel
theorem dX3_takes_4 : decode cX3_takes 4 = .ok (.ifCond .eq 12, 3) := by decide +kernel
theorem dX3_takes_7 : decode cX3_takes 7 = .ok (.aload_n 0, 1) := by decide +kernel
theorem dX3_takes_8 : decode cX3_takes 8 = .ok (.getfield 27, 3) := by decide +kernel
theorem dX3_takes_11 : decode cX3_takes 11 = .ok (.bipush 10, 2) := by decide +kernel
theorem dX3_takes_13 : decode cX3_takes 13 = .ok (.if_icmp .ne 41, 3) := by decide +kernel
theorem dX3_takes_16 : decode cX3_takes 16 = .ok (.iload_n 1, 1) := by decide +kernel
theorem dX3_takes_17 : decode cX3_takes 17 = .ok (.bipush 32, 2) := by decide +kernel
theorem dX3_takes_19 : decode cX3_takes 19 = .ok (.if_icmp .eq 29, 3) := by decide +kernel
theorem dX3_takes_22 : decode cX3_takes 22 = .ok (.aload_n 0, 1) := by decide +kernel
theorem dX3_takes_23 : decode cX3_takes 23 = .ok (.getfield 27, 3) := by decide +kernel
theorem dX3_takes_26 : decode cX3_takes 26 = .ok (.ifCond .ne 14, 3) := by decide +kernel
theorem dX3_takes_29 : decode cX3_takes 29 = .ok (.aload_n 0, 1) := by decide +kernel
theorem dX3_takes_30 : decode cX3_takes 30 = .ok (.iload_n 1, 1) := by decide +kernel
theorem dX3_takes_31 : decode cX3_takes 31 = .ok (.invokevirtual 47, 3) := by decide +kernel
theorem dX3_takes_34 : decode cX3_takes 34 = .ok (.ifCond .eq 18, 3) := by decide +kernel
theorem dX3_takes_37 : decode cX3_takes 37 = .ok (.goto 11, 3) := by decide +kernel
theorem dX3_takes_40 : decode cX3_takes 40 = .ok (.aload_n 0, 1) := by decide +kernel
theorem dX3_takes_41 : decode cX3_takes 41 = .ok (.iload_n 1, 1) := by decide +kernel
theorem dX3_takes_42 : decode cX3_takes 42 = .ok (.invokevirtual 50, 3) := by decide +kernel
theorem dX3_takes_45 : decode cX3_takes 45 = .ok (.ifCond .eq 7, 3) := by decide +kernel
theorem dX3_takes_48 : decode cX3_takes 48 = .ok (.iconst 1, 1) := by decide +kernel
theorem dX3_takes_49 : decode cX3_takes 49 = .ok (.goto 4, 3) := by decide +kernel
theorem dX3_takes_52 : decode cX3_takes 52 = .ok (.iconst 0, 1) := by decide +kernel
theorem dX3_takes_53 : decode cX3_takes 53 = .ok (.ireturn, 1) := by decide +kernel
theorem dX3_takes_54 : decode cX3_takes 54 = .ok (.iload_n 1, 1) := by decide +kernel
theorem dX3_takes_55 : decode cX3_takes 55 = .ok (.bipush 48, 2) := by decide +kernel
theorem dX3_takes_57 : decode cX3_takes 57 = .ok (.isub, 1) := by decide +kernel
theorem dX3_takes_58 : decode cX3_takes 58 = .ok (.istore_n 2, 1) := by decide +kernel
theorem dX3_takes_59 : decode cX3_takes 59 = .ok (.iload_n 2, 1) := by decide +kernel
theorem dX3_takes_60 : decode cX3_takes 60 = .ok (.ifCond .lt 21, 3) := by decide +kernel
theorem dX3_takes_63 : decode cX3_takes 63 = .ok (.iload_n 2, 1) := by decide +kernel
theorem dX3_takes_64 : decode cX3_takes 64 = .ok (.bipush 9, 2) := by decide +kernel
theorem dX3_takes_66 : decode cX3_takes 66 = .ok (.if_icmp .gt 15, 3) := by decide +kernel
theorem dX3_takes_69 : decode cX3_takes 69 = .ok (.aload_n 0, 1) := by decide +kernel
theorem dX3_takes_70 : decode cX3_takes 70 = .ok (.iload_n 2, 1) := by decide +kernel
theorem dX3_takes_71 : decode cX3_takes 71 = .ok (.invokevirtual 53, 3) := by decide +kernel
theorem dX3_takes_74 : decode cX3_takes 74 = .ok (.ifCond .eq 7, 3) := by decide +kernel
theorem dX3_takes_77 : decode cX3_takes 77 = .ok (.iconst 1, 1) := by decide +kernel
theorem dX3_takes_78 : decode cX3_takes 78 = .ok (.goto 4, 3) := by decide +kernel
theorem dX3_takes_81 : decode cX3_takes 81 = .ok (.iconst 0, 1) := by decide +kernel
theorem dX3_takes_82 : decode cX3_takes 82 = .ok (.ireturn, 1) := by decide +kernel
def F_X3_takes_16 (fu : Nat) (M : Mm) (x1 : Int32) : Option (Int32 × Mm) :=
  if x1 = (32 : Int32) then
    some ((1 : Int32), M)
  else
    if (M.1 68 0) = 0 then
      ob2 (F_X3_takesSun fu M x1) (fun r8 M9 =>
      if r8 = 0 then
        some ((0 : Int32), M9)
      else
        some ((1 : Int32), M9))
    else
      ob2 (F_X3_takesLetter fu M x1) (fun r4 M5 =>
      if r4 = 0 then
        some ((0 : Int32), M5)
      else
        some ((1 : Int32), M5))
set_option maxRecDepth 100000 in
set_option maxHeartbeats 4000000 in
theorem w_X3_takes_16 {p : Program} {l : Launch} {e : Env} {s : State} {m : MethodId} {args : Array Value} {below : List Frame} {meth : Method} {c : Code} {G : Gv} (hC : Cx p s m args meth c cX3_takes 3 (some .boolean) RX3) {fu : Nat} {r : Int32} {M' : Mm} {x1 : Int32} {M : Mm} {H : Heap} {locs : List Loc} {ls : Array Slot} (hF : F_X3_takes_16 fu M x1 = some (r, M')) (hw : St G s H locs M) (hl : lv_has ls 3 [(0, .ref (ad G 68)), (1, .int x1)]) : W p l e rm_X3_takes s m args below meth c H locs 0 0 (MQ below (QI G r M') args s 0 0 (zA G)) (F0 m 16 ls []) := by
  unfold F_X3_takes_16 at hF
  refine lv_iload_n hC.1 hC.2.1 dX3_takes_16 rfl (lv_at hl 1 rfl) ?_
  refine lv_bipush (v := (32 : Int32)) hC.1 hC.2.1 dX3_takes_17 (by decide) ?_
  refine lv_icmp_eq (tgt := 48) hC.1 hC.2.1 dX3_takes_19 (by decide) (fun b1 => ?_) (fun b1 => ?_)
  · have hF := ifP hF b1
    refine lv_iconst (v := (1 : Int32)) hC.1 hC.2.1 dX3_takes_48 (by decide) ?_
    refine lv_goto (tgt := 53) hC.1 hC.2.1 dX3_takes_49 (by decide) ?_
    exact r_zretE hC hw (by decide) hF dX3_takes_53
  · have hF := ifN hF b1
    refine lv_aload_n hC.1 hC.2.1 dX3_takes_22 rfl (lv_at hl 0 rfl) ?_
    refine g3_stage hC hw q1_87 dX3_takes_23 ?_
    refine lv_if_ne (tgt := 40) hC.1 hC.2.1 dX3_takes_26 (by decide) (fun b2 => ?_) (fun b2 => ?_)
    · have hF := ifN hF b2
      refine lv_aload_n hC.1 hC.2.1 dX3_takes_40 rfl (lv_at hl 0 rfl) ?_
      refine lv_iload_n hC.1 hC.2.1 dX3_takes_41 rfl (lv_at hl 1 rfl) ?_
      obtain ⟨r4, M5, h3, hF⟩ := ob2S hF
      refine k_Vi (As := [.int x1]) (rest := []) hC hw (c_X3_takesLetter (M := M) h3) RC_D yv_X3_takesLetter q3_190 ⟨rfl, rfl⟩ ⟨Nat.le_of_ble_eq_true rfl, Nat.le_of_ble_eq_true rfl⟩ ⟨Nat.zero_le _, Nat.zero_le _⟩ rfl rfl (Nat.le_of_ble_eq_true rfl) hl dX3_takes_42 (fun H locs hw => ?_)
      refine lv_if_eq (tgt := 52) hC.1 hC.2.1 dX3_takes_45 (by decide) (fun b6 => ?_) (fun b6 => ?_)
      · have hF := ifP hF b6
        refine lv_iconst (v := (0 : Int32)) hC.1 hC.2.1 dX3_takes_52 (by decide) ?_
        exact r_zretE hC hw (by decide) hF dX3_takes_53
      · have hF := ifN hF b6
        refine lv_iconst (v := (1 : Int32)) hC.1 hC.2.1 dX3_takes_48 (by decide) ?_
        refine lv_goto (tgt := 53) hC.1 hC.2.1 dX3_takes_49 (by decide) ?_
        exact r_zretE hC hw (by decide) hF dX3_takes_53
    · have hF := ifP hF b2
      refine lv_aload_n hC.1 hC.2.1 dX3_takes_29 rfl (lv_at hl 0 rfl) ?_
      refine lv_iload_n hC.1 hC.2.1 dX3_takes_30 rfl (lv_at hl 1 rfl) ?_
      obtain ⟨r8, M9, h7, hF⟩ := ob2S hF
      refine k_Vi (As := [.int x1]) (rest := []) hC hw (c_X3_takesSun (M := M) h7) RC_D yv_X3_takesSun q3_186 ⟨rfl, rfl⟩ ⟨Nat.le_of_ble_eq_true rfl, Nat.le_of_ble_eq_true rfl⟩ ⟨Nat.zero_le _, Nat.zero_le _⟩ rfl rfl (Nat.le_of_ble_eq_true rfl) hl dX3_takes_31 (fun H locs hw => ?_)
      refine lv_if_eq (tgt := 52) hC.1 hC.2.1 dX3_takes_34 (by decide) (fun b10 => ?_) (fun b10 => ?_)
      · have hF := ifP hF b10
        refine lv_iconst (v := (0 : Int32)) hC.1 hC.2.1 dX3_takes_52 (by decide) ?_
        exact r_zretE hC hw (by decide) hF dX3_takes_53
      · have hF := ifN hF b10
        refine lv_goto (tgt := 48) hC.1 hC.2.1 dX3_takes_37 (by decide) ?_
        refine lv_iconst (v := (1 : Int32)) hC.1 hC.2.1 dX3_takes_48 (by decide) ?_
        refine lv_goto (tgt := 53) hC.1 hC.2.1 dX3_takes_49 (by decide) ?_
        exact r_zretE hC hw (by decide) hF dX3_takes_53
def F_X3_takes (fu : Nat) (M : Mm) (x1 : Int32) : Option (Int32 × Mm) :=
  if (M.1 68 0) = 0 then
    F_X3_takes_16 fu M x1
  else
    if (M.1 68 0) = (10 : Int32) then
      F_X3_takes_16 fu M x1
    else
      if (x1 - (48 : Int32)) < 0 then
        some ((0 : Int32), M)
      else
        if (9 : Int32) < (x1 - (48 : Int32)) then
          some ((0 : Int32), M)
        else
          ob2 (F_X3_takesFigure fu M (x1 - (48 : Int32))) (fun r6 M7 =>
          if r6 = 0 then
            some ((0 : Int32), M7)
          else
            some ((1 : Int32), M7))
set_option maxRecDepth 100000 in
set_option maxHeartbeats 4000000 in
theorem c_X3_takes {l : Launch} {G : Gv} {fu : Nat} {M : Mm} {x1 : Int32} {r : Int32} {M' : Mm} (hF : F_X3_takes fu M x1 = some (r, M')) : Met l yX3_takes (.code yX3_takes cX3_takes 3 (some .boolean) :: zU) rm_X3_takes (va_Pc [.ref (ad G 68), .int x1] (Wd G M)) (QI G r M') 0 0 (zA G) := by
  refine zMet (by decide) rfl (Nat.le_of_ble_eq_true rfl) ?_
  intro p e s m below meth c hC hw ls hl
  have hl : lv_has ls 3 [(0, .ref (ad G 68)), (1, .int x1)] := hl
  unfold F_X3_takes at hF
  refine lv_aload_n hC.1 hC.2.1 dX3_takes_0 rfl (lv_at hl 0 rfl) ?_
  refine g3_stage hC hw q1_87 dX3_takes_1 ?_
  refine lv_if_eq (tgt := 16) hC.1 hC.2.1 dX3_takes_4 (by decide) (fun b1 => ?_) (fun b1 => ?_)
  · have hF := ifP hF b1
    exact w_X3_takes_16 hC hF hw (lv_sub hl [0, 1] rfl)
  · have hF := ifN hF b1
    refine lv_aload_n hC.1 hC.2.1 dX3_takes_7 rfl (lv_at hl 0 rfl) ?_
    refine g3_stage hC hw q1_87 dX3_takes_8 ?_
    refine lv_bipush (v := (10 : Int32)) hC.1 hC.2.1 dX3_takes_11 (by decide) ?_
    refine lv_icmp_ne (tgt := 54) hC.1 hC.2.1 dX3_takes_13 (by decide) (fun b2 => ?_) (fun b2 => ?_)
    · have hF := ifN hF b2
      refine lv_iload_n hC.1 hC.2.1 dX3_takes_54 rfl (lv_at hl 1 rfl) ?_
      refine lv_bipush (v := (48 : Int32)) hC.1 hC.2.1 dX3_takes_55 (by decide) ?_
      refine lv_isub hC.1 hC.2.1 dX3_takes_57 ?_
      refine lv_istore_n (lv' := [(2, .int (x1 - (48 : Int32))), (0, .ref (ad G 68)), (1, .int x1)]) hC.1 hC.2.1 dX3_takes_58 rfl hl (by decide) rfl (fun ls hl => ?_)
      refine lv_iload_n hC.1 hC.2.1 dX3_takes_59 rfl (lv_at hl 0 rfl) ?_
      refine lv_if_lt (tgt := 81) hC.1 hC.2.1 dX3_takes_60 (by decide) (fun b3 => ?_) (fun b3 => ?_)
      · have hF := ifP hF b3
        refine lv_iconst (v := (0 : Int32)) hC.1 hC.2.1 dX3_takes_81 (by decide) ?_
        exact r_zretE hC hw (by decide) hF dX3_takes_82
      · have hF := ifN hF b3
        refine lv_iload_n hC.1 hC.2.1 dX3_takes_63 rfl (lv_at hl 0 rfl) ?_
        refine lv_bipush (v := (9 : Int32)) hC.1 hC.2.1 dX3_takes_64 (by decide) ?_
        refine lv_icmp_gt (tgt := 81) hC.1 hC.2.1 dX3_takes_66 (by decide) (fun b4 => ?_) (fun b4 => ?_)
        · have hF := ifP hF b4
          refine lv_iconst (v := (0 : Int32)) hC.1 hC.2.1 dX3_takes_81 (by decide) ?_
          exact r_zretE hC hw (by decide) hF dX3_takes_82
        · have hF := ifN hF b4
          refine lv_aload_n hC.1 hC.2.1 dX3_takes_69 rfl (lv_at hl 1 rfl) ?_
          refine lv_iload_n hC.1 hC.2.1 dX3_takes_70 rfl (lv_at hl 0 rfl) ?_
          obtain ⟨r6, M7, h5, hF⟩ := ob2S hF
          refine k_Vi (As := [.int (x1 - (48 : Int32))]) (rest := []) hC hw (c_X3_takesFigure (M := M) h5) RC_D yv_X3_takesFigure q3_198 ⟨rfl, rfl⟩ ⟨Nat.le_of_ble_eq_true rfl, Nat.le_of_ble_eq_true rfl⟩ ⟨Nat.zero_le _, Nat.zero_le _⟩ rfl rfl (Nat.le_of_ble_eq_true rfl) hl dX3_takes_71 (fun H locs hw => ?_)
          refine lv_if_eq (tgt := 81) hC.1 hC.2.1 dX3_takes_74 (by decide) (fun b8 => ?_) (fun b8 => ?_)
          · have hF := ifP hF b8
            refine lv_iconst (v := (0 : Int32)) hC.1 hC.2.1 dX3_takes_81 (by decide) ?_
            exact r_zretE hC hw (by decide) hF dX3_takes_82
          · have hF := ifN hF b8
            refine lv_iconst (v := (1 : Int32)) hC.1 hC.2.1 dX3_takes_77 (by decide) ?_
            refine lv_goto (tgt := 82) hC.1 hC.2.1 dX3_takes_78 (by decide) ?_
            exact r_zretE hC hw (by decide) hF dX3_takes_82
    · have hF := ifP hF b2
      exact w_X3_takes_16 hC hF hw (lv_sub hl [0, 1] rfl)
abbrev rm_X3_faultIn : Room := { frames := 3, cells := 0, slots := 0, locals := 66 }
theorem yv_X3_faultIn : YV yX3_faultIn cX3_faultIn 3 (some .int) 1 RX3 := ⟨⟨q3_178, q3_179, q1_3, q3_180⟩, by decide +kernel⟩
theorem dX3_faultIn_0 : decode cX3_faultIn 0 = .ok (.aload_n 0, 1) := by decide +kernel
theorem dX3_faultIn_1 : decode cX3_faultIn 1 = .ok (.iconst 0, 1) := by decide +kernel
theorem dX3_faultIn_2 : decode cX3_faultIn 2 = .ok (.putfield 27, 3) := by decide +kernel
theorem dX3_faultIn_5 : decode cX3_faultIn 5 = .ok (.aload_n 0, 1) := by decide +kernel
theorem dX3_faultIn_6 : decode cX3_faultIn 6 = .ok (.iconst 0, 1) := by decide +kernel
theorem dX3_faultIn_7 : decode cX3_faultIn 7 = .ok (.putfield 31, 3) := by decide +kernel
theorem dX3_faultIn_10 : decode cX3_faultIn 10 = .ok (.iconst 0, 1) := by decide +kernel
theorem dX3_faultIn_11 : decode cX3_faultIn 11 = .ok (.istore_n 2, 1) := by decide +kernel
theorem dX3_faultIn_12 : decode cX3_faultIn 12 = .ok (.iload_n 2, 1) := by decide +kernel
theorem dX3_faultIn_13 : decode cX3_faultIn 13 = .ok (.aload_n 1, 1) := by decide +kernel
theorem dX3_faultIn_14 : decode cX3_faultIn 14 = .ok (.getfield 34, 3) := by decide +kernel
theorem dX3_faultIn_17 : decode cX3_faultIn 17 = .ok (.if_icmp .ge 23, 3) := by decide +kernel
theorem dX3_faultIn_20 : decode cX3_faultIn 20 = .ok (.aload_n 0, 1) := by decide +kernel
theorem dX3_faultIn_21 : decode cX3_faultIn 21 = .ok (.aload_n 1, 1) := by decide +kernel
theorem dX3_faultIn_22 : decode cX3_faultIn 22 = .ok (.iload_n 2, 1) := by decide +kernel
theorem dX3_faultIn_23 : decode cX3_faultIn 23 = .ok (.invokevirtual 39, 3) := by decide +kernel
theorem dX3_faultIn_26 : decode cX3_faultIn 26 = .ok (.invokevirtual 43, 3) := by decide +kernel
theorem dX3_faultIn_29 : decode cX3_faultIn 29 = .ok (.ifCond .ne 5, 3) := by decide +kernel
theorem dX3_faultIn_32 : decode cX3_faultIn 32 = .ok (.iload_n 2, 1) := by decide +kernel
theorem dX3_faultIn_33 : decode cX3_faultIn 33 = .ok (.ireturn, 1) := by decide +kernel
theorem dX3_faultIn_34 : decode cX3_faultIn 34 = .ok (.iinc 2 1, 3) := by decide +kernel
theorem dX3_faultIn_37 : decode cX3_faultIn 37 = .ok (.goto (-25), 3) := by decide +kernel
theorem dX3_faultIn_40 : decode cX3_faultIn 40 = .ok (.aload_n 0, 1) := by decide +kernel
theorem dX3_faultIn_41 : decode cX3_faultIn 41 = .ok (.getfield 27, 3) := by decide +kernel
theorem dX3_faultIn_44 : decode cX3_faultIn 44 = .ok (.bipush 10, 2) := by decide +kernel
theorem dX3_faultIn_46 : decode cX3_faultIn 46 = .ok (.if_icmp .ne 15, 3) := by decide +kernel
theorem dX3_faultIn_49 : decode cX3_faultIn 49 = .ok (.aload_n 0, 1) := by decide +kernel
theorem dX3_faultIn_50 : decode cX3_faultIn 50 = .ok (.getfield 31, 3) := by decide +kernel
theorem dX3_faultIn_53 : decode cX3_faultIn 53 = .ok (.ifCond .le 8, 3) := by decide +kernel
theorem dX3_faultIn_56 : decode cX3_faultIn 56 = .ok (.bipush (-9), 2) := by decide +kernel
theorem dX3_faultIn_58 : decode cX3_faultIn 58 = .ok (.goto 7, 3) := by decide +kernel
theorem dX3_faultIn_61 : decode cX3_faultIn 61 = .ok (.aload_n 1, 1) := by decide +kernel
theorem dX3_faultIn_62 : decode cX3_faultIn 62 = .ok (.getfield 34, 3) := by decide +kernel
theorem dX3_faultIn_65 : decode cX3_faultIn 65 = .ok (.ireturn, 1) := by decide +kernel
def F_X3_faultIn_12 (fu : Nat) : Nat → Mm → Nat → Int32 → Option (Int32 × Mm)
  | 0, _, _, _ => none
  | n + 1, M, c1, x2 =>
    if (M.1 c1 1) ≤ x2 then
      if (M.1 68 0) = (10 : Int32) then
        if (M.1 68 1) ≤ 0 then
          some ((M.1 c1 1), M)
        else
          some ((-9 : Int32), M)
      else
        some ((M.1 c1 1), M)
    else
      ob1 (F_X5_sign fu M c1 x2) (fun r5 =>
      ob2 (F_X3_takes fu M r5) (fun r7 M8 =>
      if r7 = 0 then
        some (x2, M8)
      else
        F_X3_faultIn_12 fu n M8 c1 (x2 + (1 : Int32))))
set_option maxRecDepth 100000 in
set_option maxHeartbeats 4000000 in
theorem w_X3_faultIn_12 {p : Program} {l : Launch} {e : Env} {s : State} {m : MethodId} {args : Array Value} {below : List Frame} {meth : Method} {c : Code} {G : Gv} (hC : Cx p s m args meth c cX3_faultIn 3 (some .int) RX3) {fu : Nat} {r : Int32} {M' : Mm} : ∀ (n : Nat) {c1 : Nat} {x2 : Int32} {M : Mm} {H : Heap} {locs : List Loc} {ls : Array Slot} (hk1 : kd c1 = 13), F_X3_faultIn_12 fu n M c1 x2 = some (r, M') → St G s H locs M → lv_has ls 3 [(0, .ref (ad G 68)), (1, .ref (ad G c1)), (2, .int x2)] → W p l e rm_X3_faultIn s m args below meth c H locs 0 0 (MQ below (QI G r M') args s 0 0 (zA G)) (F0 m 12 ls []) := by
  intro n
  induction n with
  | zero =>
    intro c1 x2 M H locs ls hk1 hF hw hl
    cases hF
  | succ n ih =>
    intro c1 x2 M H locs ls hk1 hF hw hl
    unfold F_X3_faultIn_12 at hF
    refine lv_iload_n hC.1 hC.2.1 dX3_faultIn_12 rfl (lv_at hl 2 rfl) ?_
    refine lv_aload_n hC.1 hC.2.1 dX3_faultIn_13 rfl (lv_at hl 1 rfl) ?_
    refine g5_size hC hw hk1 q1_182 dX3_faultIn_14 ?_
    refine lv_icmp_ge (tgt := 40) hC.1 hC.2.1 dX3_faultIn_17 (by decide) (fun b1 => ?_) (fun b1 => ?_)
    · have hF := ifP hF b1
      refine lv_aload_n hC.1 hC.2.1 dX3_faultIn_40 rfl (lv_at hl 0 rfl) ?_
      refine g3_stage hC hw q1_87 dX3_faultIn_41 ?_
      refine lv_bipush (v := (10 : Int32)) hC.1 hC.2.1 dX3_faultIn_44 (by decide) ?_
      refine lv_icmp_ne (tgt := 61) hC.1 hC.2.1 dX3_faultIn_46 (by decide) (fun b2 => ?_) (fun b2 => ?_)
      · have hF := ifN hF b2
        refine lv_aload_n hC.1 hC.2.1 dX3_faultIn_61 rfl (lv_at hl 1 rfl) ?_
        refine g5_size hC hw hk1 q1_182 dX3_faultIn_62 ?_
        exact r_iretE hC hw hF dX3_faultIn_65
      · have hF := ifP hF b2
        refine lv_aload_n hC.1 hC.2.1 dX3_faultIn_49 rfl (lv_at hl 0 rfl) ?_
        refine g3_men hC hw q1_89 dX3_faultIn_50 ?_
        refine lv_if_le (tgt := 61) hC.1 hC.2.1 dX3_faultIn_53 (by decide) (fun b3 => ?_) (fun b3 => ?_)
        · have hF := ifP hF b3
          refine lv_aload_n hC.1 hC.2.1 dX3_faultIn_61 rfl (lv_at hl 1 rfl) ?_
          refine g5_size hC hw hk1 q1_182 dX3_faultIn_62 ?_
          exact r_iretE hC hw hF dX3_faultIn_65
        · have hF := ifN hF b3
          refine lv_bipush (v := (-9 : Int32)) hC.1 hC.2.1 dX3_faultIn_56 (by decide) ?_
          refine lv_goto (tgt := 65) hC.1 hC.2.1 dX3_faultIn_58 (by decide) ?_
          exact r_iretE hC hw hF dX3_faultIn_65
    · have hF := ifN hF b1
      refine lv_aload_n hC.1 hC.2.1 dX3_faultIn_20 rfl (lv_at hl 0 rfl) ?_
      refine lv_aload_n hC.1 hC.2.1 dX3_faultIn_21 rfl (lv_at hl 1 rfl) ?_
      refine lv_iload_n hC.1 hC.2.1 dX3_faultIn_22 rfl (lv_at hl 2 rfl) ?_
      obtain ⟨r5, h4, hF⟩ := ob1S hF
      refine k_Vi (As := [.int x2]) (rest := [.ref (ad G 68)]) hC hw (c_X5_sign (M := M) hk1 h4) (RC_T hk1) yv_X5_sign q3_181 ⟨rfl, rfl⟩ ⟨Nat.le_of_ble_eq_true rfl, Nat.le_of_ble_eq_true rfl⟩ ⟨Nat.zero_le _, Nat.zero_le _⟩ rfl rfl (Nat.le_of_ble_eq_true rfl) hl dX3_faultIn_23 (fun H locs hw => ?_)
      obtain ⟨r7, M8, h6, hF⟩ := ob2S hF
      refine k_Vi (As := [.int r5]) (rest := []) hC hw (c_X3_takes (M := M) h6) RC_D yv_X3_takes q3_182 ⟨rfl, rfl⟩ ⟨Nat.le_of_ble_eq_true rfl, Nat.le_of_ble_eq_true rfl⟩ ⟨Nat.zero_le _, Nat.zero_le _⟩ rfl rfl (Nat.le_of_ble_eq_true rfl) hl dX3_faultIn_26 (fun H locs hw => ?_)
      refine lv_if_ne (tgt := 34) hC.1 hC.2.1 dX3_faultIn_29 (by decide) (fun b9 => ?_) (fun b9 => ?_)
      · have hF := ifN hF b9
        refine lv_iinc (v := (x2 + (1 : Int32))) (lv' := [(2, .int (x2 + (1 : Int32))), (0, .ref (ad G 68)), (1, .ref (ad G c1))]) hC.1 hC.2.1 dX3_faultIn_34 hl (k := 2) rfl rfl (by decide) rfl (fun ls hl => ?_)
        refine lv_goto (tgt := 12) hC.1 hC.2.1 dX3_faultIn_37 (by decide) ?_
        exact ih hk1 hF hw (lv_sub hl [1, 2, 0] rfl)
      · have hF := ifP hF b9
        refine lv_iload_n hC.1 hC.2.1 dX3_faultIn_32 rfl (lv_at hl 2 rfl) ?_
        exact r_iretE hC hw hF dX3_faultIn_33
def F_X3_faultIn (fu : Nat) (M : Mm) (c1 : Nat) : Option (Int32 × Mm) :=
  lt1 (pI M 68 0 (0 : Int32)) (fun M1 =>
  lt1 (pI M1 68 1 (0 : Int32)) (fun M2 =>
  F_X3_faultIn_12 fu fu M2 c1 (0 : Int32)))
set_option maxRecDepth 100000 in
set_option maxHeartbeats 4000000 in
theorem c_X3_faultIn {l : Launch} {G : Gv} {fu : Nat} {M : Mm} {c1 : Nat} (hk1 : kd c1 = 13) {r : Int32} {M' : Mm} (hF : F_X3_faultIn fu M c1 = some (r, M')) : Met l yX3_faultIn (.code yX3_faultIn cX3_faultIn 3 (some .int) :: zU) rm_X3_faultIn (va_Pc [.ref (ad G 68), .ref (ad G c1)] (Wd G M)) (QI G r M') 0 0 (zA G) := by
  refine zMet (by decide) rfl (Nat.le_of_ble_eq_true rfl) ?_
  intro p e s m below meth c hC hw ls hl
  have hl : lv_has ls 3 [(0, .ref (ad G 68)), (1, .ref (ad G c1))] := hl
  unfold F_X3_faultIn at hF
  refine lv_aload_n hC.1 hC.2.1 dX3_faultIn_0 rfl (lv_at hl 0 rfl) ?_
  refine lv_iconst (v := (0 : Int32)) hC.1 hC.2.1 dX3_faultIn_1 (by decide) ?_
  refine u3_stage hC hw q1_87 dX3_faultIn_2 (fun H locs hw => ?_)
  obtain ⟨M1, hw, hF⟩ := lt1W hF hw
  refine lv_aload_n hC.1 hC.2.1 dX3_faultIn_5 rfl (lv_at hl 0 rfl) ?_
  refine lv_iconst (v := (0 : Int32)) hC.1 hC.2.1 dX3_faultIn_6 (by decide) ?_
  refine u3_men hC hw q1_89 dX3_faultIn_7 (fun H locs hw => ?_)
  obtain ⟨M2, hw, hF⟩ := lt1W hF hw
  refine lv_iconst (v := (0 : Int32)) hC.1 hC.2.1 dX3_faultIn_10 (by decide) ?_
  refine lv_istore_n (lv' := [(2, .int (0 : Int32)), (0, .ref (ad G 68)), (1, .ref (ad G c1))]) hC.1 hC.2.1 dX3_faultIn_11 rfl hl (by decide) rfl (fun ls hl => ?_)
  exact w_X3_faultIn_12 hC _ hk1 hF hw (lv_sub hl [1, 2, 0] rfl)
abbrev rm_X4_take : Room := { frames := 1, cells := 0, slots := 0, locals := 22 }
theorem yv_X4_take : YV yX4_take cX4_take 3 none 2 RX4 := ⟨⟨q2_205, q2_206, q1_6, q2_207⟩, by decide +kernel⟩
theorem dX4_take_0 : decode cX4_take 0 = .ok (.aload_n 0, 1) := by decide +kernel
theorem dX4_take_1 : decode cX4_take 1 = .ok (.iconst 1, 1) := by decide +kernel
theorem dX4_take_2 : decode cX4_take 2 = .ok (.putfield 15, 3) := by decide +kernel
theorem dX4_take_5 : decode cX4_take 5 = .ok (.aload_n 0, 1) := by decide +kernel
theorem dX4_take_6 : decode cX4_take 6 = .ok (.iload_n 2, 1) := by decide +kernel
theorem dX4_take_7 : decode cX4_take 7 = .ok (.putfield 19, 3) := by decide +kernel
theorem dX4_take_10 : decode cX4_take 10 = .ok (.aload_n 0, 1) := by decide +kernel
theorem dX4_take_11 : decode cX4_take 11 = .ok (.getfield 9, 3) := by decide +kernel
theorem dX4_take_14 : decode cX4_take 14 = .ok (.aload_n 1, 1) := by decide +kernel
theorem dX4_take_15 : decode cX4_take 15 = .ok (.invokestatic 23, 3) := by decide +kernel
theorem dX4_take_18 : decode cX4_take 18 = .ok (.return_, 1) := by decide +kernel
def F_X4_take (fu : Nat) (M : Mm) (c0 : Nat) (c1 : Nat) (x2 : Int32) : Option Mm :=
  lt1 (pI M c0 0 (1 : Int32)) (fun M1 =>
  lt1 (pI M1 c0 1 x2) (fun M2 =>
  ob1 (F_X6_writeAll fu M2 (c0 + 6) c1) (fun M4 =>
  some M4)))
set_option maxRecDepth 100000 in
set_option maxHeartbeats 4000000 in
theorem c_X4_take {l : Launch} {G : Gv} {fu : Nat} {M : Mm} {c0 : Nat} {c1 : Nat} {x2 : Int32} (hk0 : kd c0 = 12) (hk1 : kd c1 = 1) {M' : Mm} (hF : F_X4_take fu M c0 c1 x2 = some M') : Met l yX4_take (.code yX4_take cX4_take 3 none :: zU) rm_X4_take (va_Pc [.ref (ad G c0), .ref (ad G c1), .int x2] (Wd G M)) (QV G M') 0 0 (zA G) := by
  refine zMet (by decide) rfl (Nat.le_of_ble_eq_true rfl) ?_
  intro p e s m below meth c hC hw ls hl
  have hl : lv_has ls 3 [(0, .ref (ad G c0)), (1, .ref (ad G c1)), (2, .int x2)] := hl
  unfold F_X4_take at hF
  refine lv_aload_n hC.1 hC.2.1 dX4_take_0 rfl (lv_at hl 0 rfl) ?_
  refine lv_iconst (v := (1 : Int32)) hC.1 hC.2.1 dX4_take_1 (by decide) ?_
  refine u4_there hC hw hk0 (by decide) q1_161 dX4_take_2 (fun H locs hw => ?_)
  obtain ⟨M1, hw, hF⟩ := lt1W hF hw
  refine lv_aload_n hC.1 hC.2.1 dX4_take_5 rfl (lv_at hl 0 rfl) ?_
  refine lv_iload_n hC.1 hC.2.1 dX4_take_6 rfl (lv_at hl 2 rfl) ?_
  refine u4_size hC hw hk0 q1_163 dX4_take_7 (fun H locs hw => ?_)
  obtain ⟨M2, hw, hF⟩ := lt1W hF hw
  refine lv_aload_n hC.1 hC.2.1 dX4_take_10 rfl (lv_at hl 0 rfl) ?_
  refine g4_cells hC hw hk0 q1_165 dX4_take_11 ?_
  refine lv_aload_n hC.1 hC.2.1 dX4_take_14 rfl (lv_at hl 1 rfl) ?_
  obtain ⟨M4, h3, hF⟩ := ob1S hF
  refine k_Nv (As := [.ref (ad G (c0 + 6)), .ref (ad G c1)]) (rest := []) hC hw (c_X6_writeAll (M := M2) (kdRc hk0) hk1 h3) ys_X6_writeAll (k := 10) rfl ⟨rfl, rfl⟩ ⟨Nat.le_of_ble_eq_true rfl, Nat.le_of_ble_eq_true rfl⟩ ⟨Nat.zero_le _, Nat.zero_le _⟩ rfl rfl (Nat.le_of_ble_eq_true rfl) hl dX4_take_15 (fun H locs hw => ?_)
  exact r_vretE hC hw hF dX4_take_18
abbrev rm_X5_renew : Room := { frames := 0, cells := 0, slots := 0, locals := 0 }
theorem yv_X5_renew : YV yX5_renew cX5_renew 3 none 1 RX5 := ⟨⟨q3_155, q3_156, q1_7, q3_157⟩, by decide +kernel⟩
theorem dX5_renew_0 : decode cX5_renew 0 = .ok (.aload_n 0, 1) := by decide +kernel
theorem dX5_renew_1 : decode cX5_renew 1 = .ok (.iconst 1, 1) := by decide +kernel
theorem dX5_renew_2 : decode cX5_renew 2 = .ok (.putfield 15, 3) := by decide +kernel
theorem dX5_renew_5 : decode cX5_renew 5 = .ok (.aload_n 0, 1) := by decide +kernel
theorem dX5_renew_6 : decode cX5_renew 6 = .ok (.iload_n 1, 1) := by decide +kernel
theorem dX5_renew_7 : decode cX5_renew 7 = .ok (.putfield 19, 3) := by decide +kernel
theorem dX5_renew_10 : decode cX5_renew 10 = .ok (.iconst 0, 1) := by decide +kernel
theorem dX5_renew_11 : decode cX5_renew 11 = .ok (.istore_n 2, 1) := by decide +kernel
theorem dX5_renew_12 : decode cX5_renew 12 = .ok (.iload_n 2, 1) := by decide +kernel
theorem dX5_renew_13 : decode cX5_renew 13 = .ok (.aload_n 0, 1) := by decide +kernel
theorem dX5_renew_14 : decode cX5_renew 14 = .ok (.getfield 9, 3) := by decide +kernel
theorem dX5_renew_17 : decode cX5_renew 17 = .ok (.arraylength, 1) := by decide +kernel
theorem dX5_renew_18 : decode cX5_renew 18 = .ok (.if_icmp .ge 17, 3) := by decide +kernel
theorem dX5_renew_21 : decode cX5_renew 21 = .ok (.aload_n 0, 1) := by decide +kernel
theorem dX5_renew_22 : decode cX5_renew 22 = .ok (.getfield 9, 3) := by decide +kernel
theorem dX5_renew_25 : decode cX5_renew 25 = .ok (.iload_n 2, 1) := by decide +kernel
theorem dX5_renew_26 : decode cX5_renew 26 = .ok (.bipush 32, 2) := by decide +kernel
theorem dX5_renew_28 : decode cX5_renew 28 = .ok (.bastore, 1) := by decide +kernel
theorem dX5_renew_29 : decode cX5_renew 29 = .ok (.iinc 2 1, 3) := by decide +kernel
theorem dX5_renew_32 : decode cX5_renew 32 = .ok (.goto (-20), 3) := by decide +kernel
theorem dX5_renew_35 : decode cX5_renew 35 = .ok (.return_, 1) := by decide +kernel
def F_X5_renew_12 (fu : Nat) : Nat → Mm → Nat → Int32 → Option Mm
  | 0, _, _, _ => none
  | n + 1, M, c0, x2 =>
    if (nI (ln (c0 + 4))) ≤ x2 then
      some M
    else
      if x2 < 0 ∨ ln (c0 + 4) ≤ x2.toNatClampNeg then none else (
      lt1 (pI M (c0 + 4) x2.toNatClampNeg (vp_nar .byte (32 : Int32))) (fun M3 =>
      F_X5_renew_12 fu n M3 c0 (x2 + (1 : Int32))))
set_option maxRecDepth 100000 in
set_option maxHeartbeats 4000000 in
theorem w_X5_renew_12 {p : Program} {l : Launch} {e : Env} {s : State} {m : MethodId} {args : Array Value} {below : List Frame} {meth : Method} {c : Code} {G : Gv} (hC : Cx p s m args meth c cX5_renew 3 none RX5) {fu : Nat} {M' : Mm} : ∀ (n : Nat) {c0 : Nat} {x2 : Int32} {M : Mm} {H : Heap} {locs : List Loc} {ls : Array Slot} (hk0 : kd c0 = 13), F_X5_renew_12 fu n M c0 x2 = some M' → St G s H locs M → lv_has ls 3 [(0, .ref (ad G c0)), (2, .int x2)] → W p l e rm_X5_renew s m args below meth c H locs 0 0 (MQ below (QV G M') args s 0 0 (zA G)) (F0 m 12 ls []) := by
  intro n
  induction n with
  | zero =>
    intro c0 x2 M H locs ls hk0 hF hw hl
    cases hF
  | succ n ih =>
    intro c0 x2 M H locs ls hk0 hF hw hl
    unfold F_X5_renew_12 at hF
    refine lv_iload_n hC.1 hC.2.1 dX5_renew_12 rfl (lv_at hl 1 rfl) ?_
    refine lv_aload_n hC.1 hC.2.1 dX5_renew_13 rfl (lv_at hl 0 rfl) ?_
    refine g5_signs hC hw hk0 q1_184 dX5_renew_14 ?_
    refine r_alenB hC.1 hC.2.1 hw (kdTc hk0) dX5_renew_17 ?_
    refine lv_icmp_ge (tgt := 35) hC.1 hC.2.1 dX5_renew_18 (by decide) (fun b1 => ?_) (fun b1 => ?_)
    · have hF := ifP hF b1
      exact r_vretE hC hw hF dX5_renew_35
    · have hF := ifN hF b1
      refine lv_aload_n hC.1 hC.2.1 dX5_renew_21 rfl (lv_at hl 0 rfl) ?_
      refine g5_signs hC hw hk0 q1_184 dX5_renew_22 ?_
      refine lv_iload_n hC.1 hC.2.1 dX5_renew_25 rfl (lv_at hl 1 rfl) ?_
      refine lv_bipush (v := (32 : Int32)) hC.1 hC.2.1 dX5_renew_26 (by decide) ?_
      obtain ⟨n2, hF⟩ := ifO hF
      refine r_bast hC.1 hC.2.1 hw (kdTc hk0) n2 dX5_renew_28 (fun H locs hw => ?_)
      obtain ⟨M3, hw, hF⟩ := lt1W hF hw
      refine lv_iinc (v := (x2 + (1 : Int32))) (lv' := [(2, .int (x2 + (1 : Int32))), (0, .ref (ad G c0))]) hC.1 hC.2.1 dX5_renew_29 hl (k := 1) rfl rfl (by decide) rfl (fun ls hl => ?_)
      refine lv_goto (tgt := 12) hC.1 hC.2.1 dX5_renew_32 (by decide) ?_
      exact ih hk0 hF hw (lv_sub hl [1, 0] rfl)
def F_X5_renew (fu : Nat) (M : Mm) (c0 : Nat) (x1 : Int32) : Option Mm :=
  lt1 (pI M c0 0 (1 : Int32)) (fun M1 =>
  lt1 (pI M1 c0 1 x1) (fun M2 =>
  F_X5_renew_12 fu fu M2 c0 (0 : Int32)))
set_option maxRecDepth 100000 in
set_option maxHeartbeats 4000000 in
theorem c_X5_renew {l : Launch} {G : Gv} {fu : Nat} {M : Mm} {c0 : Nat} {x1 : Int32} (hk0 : kd c0 = 13) {M' : Mm} (hF : F_X5_renew fu M c0 x1 = some M') : Met l yX5_renew (.code yX5_renew cX5_renew 3 none :: zU) rm_X5_renew (va_Pc [.ref (ad G c0), .int x1] (Wd G M)) (QV G M') 0 0 (zA G) := by
  refine zMet (by decide) rfl (Nat.le_of_ble_eq_true rfl) ?_
  intro p e s m below meth c hC hw ls hl
  have hl : lv_has ls 3 [(0, .ref (ad G c0)), (1, .int x1)] := hl
  unfold F_X5_renew at hF
  refine lv_aload_n hC.1 hC.2.1 dX5_renew_0 rfl (lv_at hl 0 rfl) ?_
  refine lv_iconst (v := (1 : Int32)) hC.1 hC.2.1 dX5_renew_1 (by decide) ?_
  refine u5_there hC hw hk0 (by decide) q1_179 dX5_renew_2 (fun H locs hw => ?_)
  obtain ⟨M1, hw, hF⟩ := lt1W hF hw
  refine lv_aload_n hC.1 hC.2.1 dX5_renew_5 rfl (lv_at hl 0 rfl) ?_
  refine lv_iload_n hC.1 hC.2.1 dX5_renew_6 rfl (lv_at hl 1 rfl) ?_
  refine u5_size hC hw hk0 q1_181 dX5_renew_7 (fun H locs hw => ?_)
  obtain ⟨M2, hw, hF⟩ := lt1W hF hw
  refine lv_iconst (v := (0 : Int32)) hC.1 hC.2.1 dX5_renew_10 (by decide) ?_
  refine lv_istore_n (lv' := [(2, .int (0 : Int32)), (0, .ref (ad G c0)), (1, .int x1)]) hC.1 hC.2.1 dX5_renew_11 rfl hl (by decide) rfl (fun ls hl => ?_)
  exact w_X5_renew_12 hC _ hk0 hF hw (lv_sub hl [1, 0] rfl)
abbrev rm_X5_change : Room := { frames := 0, cells := 0, slots := 0, locals := 0 }
theorem yv_X5_change : YV yX5_change cX5_change 3 none 2 RX5 := ⟨⟨q3_167, q3_168, q1_7, q3_169⟩, by decide +kernel⟩
theorem dX5_change_0 : decode cX5_change 0 = .ok (.iload_n 1, 1) := by decide +kernel
theorem dX5_change_1 : decode cX5_change 1 = .ok (.ifCond .lt 19, 3) := by decide +kernel
theorem dX5_change_4 : decode cX5_change 4 = .ok (.iload_n 1, 1) := by decide +kernel
theorem dX5_change_5 : decode cX5_change 5 = .ok (.aload_n 0, 1) := by decide +kernel
theorem dX5_change_6 : decode cX5_change 6 = .ok (.getfield 9, 3) := by decide +kernel
theorem dX5_change_9 : decode cX5_change 9 = .ok (.arraylength, 1) := by decide +kernel
theorem dX5_change_10 : decode cX5_change 10 = .ok (.if_icmp .ge 10, 3) := by decide +kernel
theorem dX5_change_13 : decode cX5_change 13 = .ok (.aload_n 0, 1) := by decide +kernel
theorem dX5_change_14 : decode cX5_change 14 = .ok (.getfield 9, 3) := by decide +kernel
theorem dX5_change_17 : decode cX5_change 17 = .ok (.iload_n 1, 1) := by decide +kernel
theorem dX5_change_18 : decode cX5_change 18 = .ok (.iload_n 2, 1) := by decide +kernel
theorem dX5_change_19 : decode cX5_change 19 = .ok (.bastore, 1) := by decide +kernel
theorem dX5_change_20 : decode cX5_change 20 = .ok (.return_, 1) := by decide +kernel
def F_X5_change (fu : Nat) (M : Mm) (c0 : Nat) (x1 : Int32) (x2 : Int32) : Option Mm :=
  if x1 < 0 then
    some M
  else
    if (nI (ln (c0 + 4))) ≤ x1 then
      some M
    else
      if x1 < 0 ∨ ln (c0 + 4) ≤ x1.toNatClampNeg then none else (
      lt1 (pI M (c0 + 4) x1.toNatClampNeg (vp_nar .byte x2)) (fun M4 =>
      some M4))
set_option maxRecDepth 100000 in
set_option maxHeartbeats 4000000 in
theorem c_X5_change {l : Launch} {G : Gv} {fu : Nat} {M : Mm} {c0 : Nat} {x1 : Int32} {x2 : Int32} (hk0 : kd c0 = 13) {M' : Mm} (hF : F_X5_change fu M c0 x1 x2 = some M') : Met l yX5_change (.code yX5_change cX5_change 3 none :: zU) rm_X5_change (va_Pc [.ref (ad G c0), .int x1, .int x2] (Wd G M)) (QV G M') 0 0 (zA G) := by
  refine zMet (by decide) rfl (Nat.le_of_ble_eq_true rfl) ?_
  intro p e s m below meth c hC hw ls hl
  have hl : lv_has ls 3 [(0, .ref (ad G c0)), (1, .int x1), (2, .int x2)] := hl
  unfold F_X5_change at hF
  refine lv_iload_n hC.1 hC.2.1 dX5_change_0 rfl (lv_at hl 1 rfl) ?_
  refine lv_if_lt (tgt := 20) hC.1 hC.2.1 dX5_change_1 (by decide) (fun b1 => ?_) (fun b1 => ?_)
  · have hF := ifP hF b1
    exact r_vretE hC hw hF dX5_change_20
  · have hF := ifN hF b1
    refine lv_iload_n hC.1 hC.2.1 dX5_change_4 rfl (lv_at hl 1 rfl) ?_
    refine lv_aload_n hC.1 hC.2.1 dX5_change_5 rfl (lv_at hl 0 rfl) ?_
    refine g5_signs hC hw hk0 q1_184 dX5_change_6 ?_
    refine r_alenB hC.1 hC.2.1 hw (kdTc hk0) dX5_change_9 ?_
    refine lv_icmp_ge (tgt := 20) hC.1 hC.2.1 dX5_change_10 (by decide) (fun b2 => ?_) (fun b2 => ?_)
    · have hF := ifP hF b2
      exact r_vretE hC hw hF dX5_change_20
    · have hF := ifN hF b2
      refine lv_aload_n hC.1 hC.2.1 dX5_change_13 rfl (lv_at hl 0 rfl) ?_
      refine g5_signs hC hw hk0 q1_184 dX5_change_14 ?_
      refine lv_iload_n hC.1 hC.2.1 dX5_change_17 rfl (lv_at hl 1 rfl) ?_
      refine lv_iload_n hC.1 hC.2.1 dX5_change_18 rfl (lv_at hl 2 rfl) ?_
      obtain ⟨n3, hF⟩ := ifO hF
      refine r_bast hC.1 hC.2.1 hw (kdTc hk0) n3 dX5_change_19 (fun H locs hw => ?_)
      obtain ⟨M4, hw, hF⟩ := lt1W hF hw
      exact r_vretE hC hw hF dX5_change_20
abbrev rm_X6_rowOf : Room := { frames := 0, cells := 0, slots := 0, locals := 0 }
theorem yv_X6_rowOf : YV yX6_rowOf cX6_rowOf 2 (Option.some (.object "SnowCitizens$Row")) 1 RX6 := ⟨⟨q2_11, qs_0, q1_1, q2_12⟩, by decide +kernel⟩
theorem dX6_rowOf_0 : decode cX6_rowOf 0 = .ok (.iload_n 1, 1) := by decide +kernel
theorem dX6_rowOf_1 : decode cX6_rowOf 1 = .ok (.ifCond .lt 21, 3) := by decide +kernel
theorem dX6_rowOf_4 : decode cX6_rowOf 4 = .ok (.iload_n 1, 1) := by decide +kernel
theorem dX6_rowOf_5 : decode cX6_rowOf 5 = .ok (.aload_n 0, 1) := by decide +kernel
theorem dX6_rowOf_6 : decode cX6_rowOf 6 = .ok (.getfield 11, 3) := by decide +kernel
theorem dX6_rowOf_9 : decode cX6_rowOf 9 = .ok (.arraylength, 1) := by decide +kernel
theorem dX6_rowOf_10 : decode cX6_rowOf 10 = .ok (.if_icmp .ge 12, 3) := by decide +kernel
theorem dX6_rowOf_13 : decode cX6_rowOf 13 = .ok (.aload_n 0, 1) := by decide +kernel
theorem dX6_rowOf_14 : decode cX6_rowOf 14 = .ok (.getfield 11, 3) := by decide +kernel
theorem dX6_rowOf_17 : decode cX6_rowOf 17 = .ok (.iload_n 1, 1) := by decide +kernel
theorem dX6_rowOf_18 : decode cX6_rowOf 18 = .ok (.aaload, 1) := by decide +kernel
theorem dX6_rowOf_19 : decode cX6_rowOf 19 = .ok (.goto 4, 3) := by decide +kernel
theorem dX6_rowOf_22 : decode cX6_rowOf 22 = .ok (.aconst_null, 1) := by decide +kernel
theorem dX6_rowOf_23 : decode cX6_rowOf 23 = .ok (.areturn, 1) := by decide +kernel
def F_X6_rowOf (fu : Nat) (M : Mm) (x1 : Int32) : Option (Option Nat) :=
  if x1 < 0 then
    some none
  else
    if (6 : Int32) ≤ x1 then
      some none
    else
      if x1 < 0 ∨ 6 ≤ x1.toNatClampNeg then none else (
      some (some (1 + x1.toNatClampNeg)))
set_option maxRecDepth 100000 in
set_option maxHeartbeats 4000000 in
theorem c_X6_rowOf {l : Launch} {G : Gv} {fu : Nat} {M : Mm} {x1 : Int32} {r : Option Nat} (hF : F_X6_rowOf fu M x1 = some r) : Met l yX6_rowOf (.code yX6_rowOf cX6_rowOf 2 (Option.some (.object "SnowCitizens$Row")) :: zU) rm_X6_rowOf (va_Pc [.ref (ad G 0), .int x1] (Wd G M)) (QQ G r M) 0 0 (zA G) := by
  refine zMet (by decide) rfl (Nat.le_of_ble_eq_true rfl) ?_
  intro p e s m below meth c hC hw ls hl
  have hl : lv_has ls 2 [(0, .ref (ad G 0)), (1, .int x1)] := hl
  unfold F_X6_rowOf at hF
  refine lv_iload_n hC.1 hC.2.1 dX6_rowOf_0 rfl (lv_at hl 1 rfl) ?_
  refine lv_if_lt (tgt := 22) hC.1 hC.2.1 dX6_rowOf_1 (by decide) (fun b1 => ?_) (fun b1 => ?_)
  · have hF := ifP hF b1
    refine lv_null hC.1 hC.2.1 dX6_rowOf_22 ?_
    exact r_nretP hC hw hF dX6_rowOf_23
  · have hF := ifN hF b1
    refine lv_iload_n hC.1 hC.2.1 dX6_rowOf_4 rfl (lv_at hl 1 rfl) ?_
    refine lv_aload_n hC.1 hC.2.1 dX6_rowOf_5 rfl (lv_at hl 0 rfl) ?_
    refine g6_rows hC hw q1_193 dX6_rowOf_6 ?_
    refine r_alenR hC.1 hC.2.1 hw dX6_rowOf_9 ?_
    refine lv_icmp_ge (tgt := 22) hC.1 hC.2.1 dX6_rowOf_10 (by decide) (fun b2 => ?_) (fun b2 => ?_)
    · have hF := ifP hF b2
      refine lv_null hC.1 hC.2.1 dX6_rowOf_22 ?_
      exact r_nretP hC hw hF dX6_rowOf_23
    · have hF := ifN hF b2
      refine lv_aload_n hC.1 hC.2.1 dX6_rowOf_13 rfl (lv_at hl 0 rfl) ?_
      refine g6_rows hC hw q1_193 dX6_rowOf_14 ?_
      refine lv_iload_n hC.1 hC.2.1 dX6_rowOf_17 rfl (lv_at hl 1 rfl) ?_
      obtain ⟨n3, hF⟩ := ifO hF
      refine r_aldR hC.1 hC.2.1 hw n3 dX6_rowOf_18 ?_
      refine lv_goto (tgt := 23) hC.1 hC.2.1 dX6_rowOf_19 (by decide) ?_
      exact r_aretP hC hw hF dX6_rowOf_23
abbrev rm_X6_found : Room := { frames := 1, cells := 0, slots := 0, locals := 22 }
theorem yv_X6_found : YV yX6_found cX6_found 2 (some .int) 1 RX6 := ⟨⟨q2_15, qs_1, q1_1, q2_16⟩, by decide +kernel⟩
theorem dX6_found_0 : decode cX6_found 0 = .ok (.aload_n 0, 1) := by decide +kernel
theorem dX6_found_1 : decode cX6_found 1 = .ok (.iload_n 1, 1) := by decide +kernel
theorem dX6_found_2 : decode cX6_found 2 = .ok (.putfield 347, 3) := by decide +kernel
theorem dX6_found_5 : decode cX6_found 5 = .ok (.aload_n 0, 1) := by decide +kernel
theorem dX6_found_6 : decode cX6_found 6 = .ok (.getfield 53, 3) := by decide +kernel
theorem dX6_found_9 : decode cX6_found 9 = .ok (.iload_n 1, 1) := by decide +kernel
theorem dX6_found_10 : decode cX6_found 10 = .ok (.aload_n 0, 1) := by decide +kernel
theorem dX6_found_11 : decode cX6_found 11 = .ok (.getfield 53, 3) := by decide +kernel
theorem dX6_found_14 : decode cX6_found 14 = .ok (.iload_n 1, 1) := by decide +kernel
theorem dX6_found_15 : decode cX6_found 15 = .ok (.invokestatic 101, 3) := by decide +kernel
theorem dX6_found_18 : decode cX6_found 18 = .ok (.iconst 1, 1) := by decide +kernel
theorem dX6_found_19 : decode cX6_found 19 = .ok (.iadd, 1) := by decide +kernel
theorem dX6_found_20 : decode cX6_found 20 = .ok (.invokestatic 105, 3) := by decide +kernel
theorem dX6_found_23 : decode cX6_found 23 = .ok (.bipush (-3), 2) := by decide +kernel
theorem dX6_found_25 : decode cX6_found 25 = .ok (.ireturn, 1) := by decide +kernel
def F_X6_found (fu : Nat) (M : Mm) (x1 : Int32) : Option (Int32 × Mm) :=
  lt1 (pI M 0 8 x1) (fun M1 =>
  ob1 (F_X6_read fu M1 80 x1) (fun r3 =>
  ob1 (F_X6_write fu M1 80 x1 (r3 + (1 : Int32))) (fun M5 =>
  some ((-3 : Int32), M5))))
set_option maxRecDepth 100000 in
set_option maxHeartbeats 4000000 in
theorem c_X6_found {l : Launch} {G : Gv} {fu : Nat} {M : Mm} {x1 : Int32} {r : Int32} {M' : Mm} (hF : F_X6_found fu M x1 = some (r, M')) : Met l yX6_found (.code yX6_found cX6_found 2 (some .int) :: zU) rm_X6_found (va_Pc [.ref (ad G 0), .int x1] (Wd G M)) (QI G r M') 0 0 (zA G) := by
  refine zMet (by decide) rfl (Nat.le_of_ble_eq_true rfl) ?_
  intro p e s m below meth c hC hw ls hl
  have hl : lv_has ls 2 [(0, .ref (ad G 0)), (1, .int x1)] := hl
  unfold F_X6_found at hF
  refine lv_aload_n hC.1 hC.2.1 dX6_found_0 rfl (lv_at hl 0 rfl) ?_
  refine lv_iload_n hC.1 hC.2.1 dX6_found_1 rfl (lv_at hl 1 rfl) ?_
  refine u6_latestFinding hC hw q1_201 dX6_found_2 (fun H locs hw => ?_)
  obtain ⟨M1, hw, hF⟩ := lt1W hF hw
  refine lv_aload_n hC.1 hC.2.1 dX6_found_5 rfl (lv_at hl 0 rfl) ?_
  refine g6_findingCounts hC hw q1_200 dX6_found_6 ?_
  refine lv_iload_n hC.1 hC.2.1 dX6_found_9 rfl (lv_at hl 1 rfl) ?_
  refine lv_aload_n hC.1 hC.2.1 dX6_found_10 rfl (lv_at hl 0 rfl) ?_
  refine g6_findingCounts hC hw q1_200 dX6_found_11 ?_
  refine lv_iload_n hC.1 hC.2.1 dX6_found_14 rfl (lv_at hl 1 rfl) ?_
  obtain ⟨r3, h2, hF⟩ := ob1S hF
  refine k_Si (As := [.ref (ad G 80), .int x1]) (rest := [.int x1, .ref (ad G 80)]) hC hw (c_X6_read (M := M1) (rfl : kd 80 = 1) h2) ys_X6_read q2_17 ⟨rfl, rfl⟩ ⟨Nat.le_of_ble_eq_true rfl, Nat.le_of_ble_eq_true rfl⟩ ⟨Nat.zero_le _, Nat.zero_le _⟩ rfl rfl (Nat.le_of_ble_eq_true rfl) hl dX6_found_15 (fun H locs hw => ?_)
  refine lv_iconst (v := (1 : Int32)) hC.1 hC.2.1 dX6_found_18 (by decide) ?_
  refine lv_iadd hC.1 hC.2.1 dX6_found_19 ?_
  obtain ⟨M5, h4, hF⟩ := ob1S hF
  refine k_Sv (As := [.ref (ad G 80), .int x1, .int (r3 + (1 : Int32))]) (rest := []) hC hw (c_X6_write (M := M1) (rfl : kd 80 = 1) h4) ys_X6_write q2_20 ⟨rfl, rfl⟩ ⟨Nat.le_of_ble_eq_true rfl, Nat.le_of_ble_eq_true rfl⟩ ⟨Nat.zero_le _, Nat.zero_le _⟩ rfl rfl (Nat.le_of_ble_eq_true rfl) hl dX6_found_20 (fun H locs hw => ?_)
  refine lv_bipush (v := (-3 : Int32)) hC.1 hC.2.1 dX6_found_23 (by decide) ?_
  exact r_iretE hC hw hF dX6_found_25
abbrev rm_X6_tell : Room := { frames := 0, cells := 0, slots := 0, locals := 0 }
theorem yv_X6_tell : YV yX6_tell cX6_tell 2 (some .int) 1 RX6 := ⟨⟨q2_25, qs_2, q1_1, q2_26⟩, by decide +kernel⟩
theorem dX6_tell_0 : decode cX6_tell 0 = .ok (.aload_n 0, 1) := by decide +kernel
theorem dX6_tell_1 : decode cX6_tell 1 = .ok (.iload_n 1, 1) := by decide +kernel
theorem dX6_tell_2 : decode cX6_tell 2 = .ok (.putfield 220, 3) := by decide +kernel
theorem dX6_tell_5 : decode cX6_tell 5 = .ok (.iconst 1, 1) := by decide +kernel
theorem dX6_tell_6 : decode cX6_tell 6 = .ok (.ireturn, 1) := by decide +kernel
def F_X6_tell (fu : Nat) (M : Mm) (x1 : Int32) : Option (Int32 × Mm) :=
  lt1 (pI M 0 9 x1) (fun M1 =>
  some ((1 : Int32), M1))
set_option maxRecDepth 100000 in
set_option maxHeartbeats 4000000 in
theorem c_X6_tell {l : Launch} {G : Gv} {fu : Nat} {M : Mm} {x1 : Int32} {r : Int32} {M' : Mm} (hF : F_X6_tell fu M x1 = some (r, M')) : Met l yX6_tell (.code yX6_tell cX6_tell 2 (some .int) :: zU) rm_X6_tell (va_Pc [.ref (ad G 0), .int x1] (Wd G M)) (QI G r M') 0 0 (zA G) := by
  refine zMet (by decide) rfl (Nat.le_of_ble_eq_true rfl) ?_
  intro p e s m below meth c hC hw ls hl
  have hl : lv_has ls 2 [(0, .ref (ad G 0)), (1, .int x1)] := hl
  unfold F_X6_tell at hF
  refine lv_aload_n hC.1 hC.2.1 dX6_tell_0 rfl (lv_at hl 0 rfl) ?_
  refine lv_iload_n hC.1 hC.2.1 dX6_tell_1 rfl (lv_at hl 1 rfl) ?_
  refine u6_told hC hw q1_202 dX6_tell_2 (fun H locs hw => ?_)
  obtain ⟨M1, hw, hF⟩ := lt1W hF hw
  refine lv_iconst (v := (1 : Int32)) hC.1 hC.2.1 dX6_tell_5 (by decide) ?_
  exact r_iretE hC hw hF dX6_tell_6
abbrev rm_X6_at : Room := { frames := 2, cells := 0, slots := 0, locals := 43 }
theorem yv_X6_at : YV yX6_at cX6_at 4 (some .int) 2 RX6 := ⟨⟨q2_6, q2_7, q1_1, q2_8⟩, by decide +kernel⟩
theorem dX6_at_0 : decode cX6_at 0 = .ok (.aload_n 0, 1) := by decide +kernel
theorem dX6_at_1 : decode cX6_at 1 = .ok (.iload_n 1, 1) := by decide +kernel
theorem dX6_at_2 : decode cX6_at 2 = .ok (.invokevirtual 78, 3) := by decide +kernel
theorem dX6_at_5 : decode cX6_at 5 = .ok (.astore_n 3, 1) := by decide +kernel
theorem dX6_at_6 : decode cX6_at 6 = .ok (.aload_n 3, 1) := by decide +kernel
theorem dX6_at_7 : decode cX6_at 7 = .ok (.ifnonnull 5, 3) := by decide +kernel
theorem dX6_at_10 : decode cX6_at 10 = .ok (.iconst (-1), 1) := by decide +kernel
theorem dX6_at_11 : decode cX6_at 11 = .ok (.ireturn, 1) := by decide +kernel
theorem dX6_at_12 : decode cX6_at 12 = .ok (.aload_n 3, 1) := by decide +kernel
theorem dX6_at_13 : decode cX6_at 13 = .ok (.getfield 90, 3) := by decide +kernel
theorem dX6_at_16 : decode cX6_at 16 = .ok (.ifCond .ne 9, 3) := by decide +kernel
theorem dX6_at_19 : decode cX6_at 19 = .ok (.aload_n 0, 1) := by decide +kernel
theorem dX6_at_20 : decode cX6_at 20 = .ok (.iconst 1, 1) := by decide +kernel
theorem dX6_at_21 : decode cX6_at 21 = .ok (.invokevirtual 82, 3) := by decide +kernel
theorem dX6_at_24 : decode cX6_at 24 = .ok (.ireturn, 1) := by decide +kernel
theorem dX6_at_25 : decode cX6_at 25 = .ok (.iload_n 2, 1) := by decide +kernel
theorem dX6_at_26 : decode cX6_at 26 = .ok (.ifCond .lt 11, 3) := by decide +kernel
theorem dX6_at_29 : decode cX6_at 29 = .ok (.iload_n 2, 1) := by decide +kernel
theorem dX6_at_30 : decode cX6_at 30 = .ok (.aload_n 3, 1) := by decide +kernel
theorem dX6_at_31 : decode cX6_at 31 = .ok (.getfield 94, 3) := by decide +kernel
theorem dX6_at_34 : decode cX6_at 34 = .ok (.if_icmp .lt 9, 3) := by decide +kernel
theorem dX6_at_37 : decode cX6_at 37 = .ok (.aload_n 0, 1) := by decide +kernel
theorem dX6_at_38 : decode cX6_at 38 = .ok (.iconst 2, 1) := by decide +kernel
theorem dX6_at_39 : decode cX6_at 39 = .ok (.invokevirtual 82, 3) := by decide +kernel
theorem dX6_at_42 : decode cX6_at 42 = .ok (.ireturn, 1) := by decide +kernel
theorem dX6_at_43 : decode cX6_at 43 = .ok (.aload_n 0, 1) := by decide +kernel
theorem dX6_at_44 : decode cX6_at 44 = .ok (.aload_n 3, 1) := by decide +kernel
theorem dX6_at_45 : decode cX6_at 45 = .ok (.getfield 98, 3) := by decide +kernel
theorem dX6_at_48 : decode cX6_at 48 = .ok (.iload_n 2, 1) := by decide +kernel
theorem dX6_at_49 : decode cX6_at 49 = .ok (.invokestatic 101, 3) := by decide +kernel
theorem dX6_at_52 : decode cX6_at 52 = .ok (.invokevirtual 109, 3) := by decide +kernel
theorem dX6_at_55 : decode cX6_at 55 = .ok (.ireturn, 1) := by decide +kernel
def F_X6_at_37 (fu : Nat) (M : Mm) : Option (Int32 × Mm) :=
  ob2 (F_X6_found fu M (2 : Int32)) (fun r2 M3 =>
  some (r2, M3))
set_option maxRecDepth 100000 in
set_option maxHeartbeats 4000000 in
theorem w_X6_at_37 {p : Program} {l : Launch} {e : Env} {s : State} {m : MethodId} {args : Array Value} {below : List Frame} {meth : Method} {c : Code} {G : Gv} (hC : Cx p s m args meth c cX6_at 4 (some .int) RX6) {fu : Nat} {r : Int32} {M' : Mm} {M : Mm} {H : Heap} {locs : List Loc} {ls : Array Slot} (hF : F_X6_at_37 fu M = some (r, M')) (hw : St G s H locs M) (hl : lv_has ls 4 [(0, .ref (ad G 0))]) : W p l e rm_X6_at s m args below meth c H locs 0 0 (MQ below (QI G r M') args s 0 0 (zA G)) (F0 m 37 ls []) := by
  unfold F_X6_at_37 at hF
  refine lv_aload_n hC.1 hC.2.1 dX6_at_37 rfl (lv_at hl 0 rfl) ?_
  refine lv_iconst (v := (2 : Int32)) hC.1 hC.2.1 dX6_at_38 (by decide) ?_
  obtain ⟨r2, M3, h1, hF⟩ := ob2S hF
  refine k_Vi (As := [.int (2 : Int32)]) (rest := []) hC hw (c_X6_found (M := M) h1) RC_S yv_X6_found q2_13 ⟨rfl, rfl⟩ ⟨Nat.le_of_ble_eq_true rfl, Nat.le_of_ble_eq_true rfl⟩ ⟨Nat.zero_le _, Nat.zero_le _⟩ rfl rfl (Nat.le_of_ble_eq_true rfl) hl dX6_at_39 (fun H locs hw => ?_)
  exact r_iretE hC hw hF dX6_at_42
def F_X6_at (fu : Nat) (M : Mm) (x1 : Int32) (x2 : Int32) : Option (Int32 × Mm) :=
  ob1 (F_X6_rowOf fu M x1) (fun r2 =>
  op1 r2 (
    some ((-1 : Int32), M)) (fun c3 =>
    if ¬ kd c3 = 12 then none else (
    if (M.1 c3 0) = 0 then
      ob2 (F_X6_found fu M (1 : Int32)) (fun r14 M15 =>
      some (r14, M15))
    else
      if x2 < 0 then
        F_X6_at_37 fu M
      else
        if x2 < (M.1 c3 1) then
          ob1 (F_X6_read fu M (c3 + 6) x2) (fun r9 =>
          ob2 (F_X6_tell fu M r9) (fun r11 M12 =>
          some (r11, M12)))
        else
          F_X6_at_37 fu M)))
set_option maxRecDepth 100000 in
set_option maxHeartbeats 4000000 in
theorem c_X6_at {l : Launch} {G : Gv} {fu : Nat} {M : Mm} {x1 : Int32} {x2 : Int32} {r : Int32} {M' : Mm} (hF : F_X6_at fu M x1 x2 = some (r, M')) : Met l yX6_at (.code yX6_at cX6_at 4 (some .int) :: zU) rm_X6_at (va_Pc [.ref (ad G 0), .int x1, .int x2] (Wd G M)) (QI G r M') 0 0 (zA G) := by
  refine zMet (by decide) rfl (Nat.le_of_ble_eq_true rfl) ?_
  intro p e s m below meth c hC hw ls hl
  have hl : lv_has ls 4 [(0, .ref (ad G 0)), (1, .int x1), (2, .int x2)] := hl
  unfold F_X6_at at hF
  refine lv_aload_n hC.1 hC.2.1 dX6_at_0 rfl (lv_at hl 0 rfl) ?_
  refine lv_iload_n hC.1 hC.2.1 dX6_at_1 rfl (lv_at hl 1 rfl) ?_
  obtain ⟨r2, h1, hF⟩ := ob1S hF
  refine k_Vq (As := [.int x1]) (rest := []) hC hw (c_X6_rowOf (M := M) h1) RC_S yv_X6_rowOf q2_9 ⟨rfl, rfl⟩ ⟨Nat.le_of_ble_eq_true rfl, Nat.le_of_ble_eq_true rfl⟩ ⟨Nat.zero_le _, Nat.zero_le _⟩ rfl rfl (Nat.le_of_ble_eq_true rfl) hl dX6_at_2 (fun H locs hw => ?_)
  cases r2 with
  | none =>
    have hF := op1N hF
    refine topN ?_
    refine lv_astore_nN (lv' := [(3, .null), (0, .ref (ad G 0)), (1, .int x1), (2, .int x2)]) hC.1 hC.2.1 dX6_at_5 rfl hl (by decide) rfl (fun ls hl => ?_)
    refine lv_aload_nN hC.1 hC.2.1 dX6_at_6 rfl (lv_at hl 0 rfl) ?_
    refine lv_ifnonnullN hC.1 hC.2.1 dX6_at_7 ?_
    refine lv_iconst (v := (-1 : Int32)) hC.1 hC.2.1 dX6_at_10 (by decide) ?_
    exact r_iretE hC hw hF dX6_at_11
  | some c3 =>
    obtain ⟨g4, hF⟩ := ifO (op1C hF)
    have g4 := Decidable.not_not.mp g4
    refine topC ?_
    refine lv_astore_n (lv' := [(3, .ref (ad G c3)), (0, .ref (ad G 0)), (1, .int x1), (2, .int x2)]) hC.1 hC.2.1 dX6_at_5 rfl hl (by decide) rfl (fun ls hl => ?_)
    refine lv_aload_n hC.1 hC.2.1 dX6_at_6 rfl (lv_at hl 0 rfl) ?_
    refine lv_ifnonnull (tgt := 12) hC.1 hC.2.1 dX6_at_7 (by decide) ?_
    refine lv_aload_n hC.1 hC.2.1 dX6_at_12 rfl (lv_at hl 0 rfl) ?_
    refine g4_there hC hw g4 q1_162 dX6_at_13 ?_
    refine lv_if_ne (tgt := 25) hC.1 hC.2.1 dX6_at_16 (by decide) (fun b5 => ?_) (fun b5 => ?_)
    · have hF := ifN hF b5
      refine lv_iload_n hC.1 hC.2.1 dX6_at_25 rfl (lv_at hl 3 rfl) ?_
      refine lv_if_lt (tgt := 37) hC.1 hC.2.1 dX6_at_26 (by decide) (fun b6 => ?_) (fun b6 => ?_)
      · have hF := ifP hF b6
        exact w_X6_at_37 hC hF hw (lv_sub hl [1] rfl)
      · have hF := ifN hF b6
        refine lv_iload_n hC.1 hC.2.1 dX6_at_29 rfl (lv_at hl 3 rfl) ?_
        refine lv_aload_n hC.1 hC.2.1 dX6_at_30 rfl (lv_at hl 0 rfl) ?_
        refine g4_size hC hw g4 q1_164 dX6_at_31 ?_
        refine lv_icmp_lt (tgt := 43) hC.1 hC.2.1 dX6_at_34 (by decide) (fun b7 => ?_) (fun b7 => ?_)
        · have hF := ifP hF b7
          refine lv_aload_n hC.1 hC.2.1 dX6_at_43 rfl (lv_at hl 1 rfl) ?_
          refine lv_aload_n hC.1 hC.2.1 dX6_at_44 rfl (lv_at hl 0 rfl) ?_
          refine g4_cells hC hw g4 q1_166 dX6_at_45 ?_
          refine lv_iload_n hC.1 hC.2.1 dX6_at_48 rfl (lv_at hl 3 rfl) ?_
          obtain ⟨r9, h8, hF⟩ := ob1S hF
          refine k_Si (As := [.ref (ad G (c3 + 6)), .int x2]) (rest := [.ref (ad G 0)]) hC hw (c_X6_read (M := M) (kdRc g4) h8) ys_X6_read q2_17 ⟨rfl, rfl⟩ ⟨Nat.le_of_ble_eq_true rfl, Nat.le_of_ble_eq_true rfl⟩ ⟨Nat.zero_le _, Nat.zero_le _⟩ rfl rfl (Nat.le_of_ble_eq_true rfl) hl dX6_at_49 (fun H locs hw => ?_)
          obtain ⟨r11, M12, h10, hF⟩ := ob2S hF
          refine k_Vi (As := [.int r9]) (rest := []) hC hw (c_X6_tell (M := M) h10) RC_S yv_X6_tell q2_23 ⟨rfl, rfl⟩ ⟨Nat.le_of_ble_eq_true rfl, Nat.le_of_ble_eq_true rfl⟩ ⟨Nat.zero_le _, Nat.zero_le _⟩ rfl rfl (Nat.le_of_ble_eq_true rfl) hl dX6_at_52 (fun H locs hw => ?_)
          exact r_iretE hC hw hF dX6_at_55
        · have hF := ifN hF b7
          exact w_X6_at_37 hC hF hw (lv_sub hl [1] rfl)
    · have hF := ifP hF b5
      refine lv_aload_n hC.1 hC.2.1 dX6_at_19 rfl (lv_at hl 1 rfl) ?_
      refine lv_iconst (v := (1 : Int32)) hC.1 hC.2.1 dX6_at_20 (by decide) ?_
      obtain ⟨r14, M15, h13, hF⟩ := ob2S hF
      refine k_Vi (As := [.int (1 : Int32)]) (rest := []) hC hw (c_X6_found (M := M) h13) RC_S yv_X6_found q2_13 ⟨rfl, rfl⟩ ⟨Nat.le_of_ble_eq_true rfl, Nat.le_of_ble_eq_true rfl⟩ ⟨Nat.zero_le _, Nat.zero_le _⟩ rfl rfl (Nat.le_of_ble_eq_true rfl) hl dX6_at_21 (fun H locs hw => ?_)
      exact r_iretE hC hw hF dX6_at_24
abbrev rm_X6_textOf : Room := { frames := 0, cells := 0, slots := 0, locals := 0 }
theorem yv_X6_textOf : YV yX6_textOf cX6_textOf 2 (Option.some (.object "SnowCitizens$Text")) 1 RX6 := ⟨⟨q3_127, qs_22, q1_1, q3_128⟩, by decide +kernel⟩
theorem dX6_textOf_0 : decode cX6_textOf 0 = .ok (.iload_n 1, 1) := by decide +kernel
theorem dX6_textOf_1 : decode cX6_textOf 1 = .ok (.ifCond .lt 21, 3) := by decide +kernel
theorem dX6_textOf_4 : decode cX6_textOf 4 = .ok (.iload_n 1, 1) := by decide +kernel
theorem dX6_textOf_5 : decode cX6_textOf 5 = .ok (.aload_n 0, 1) := by decide +kernel
theorem dX6_textOf_6 : decode cX6_textOf 6 = .ok (.getfield 17, 3) := by decide +kernel
theorem dX6_textOf_9 : decode cX6_textOf 9 = .ok (.arraylength, 1) := by decide +kernel
theorem dX6_textOf_10 : decode cX6_textOf 10 = .ok (.if_icmp .ge 12, 3) := by decide +kernel
theorem dX6_textOf_13 : decode cX6_textOf 13 = .ok (.aload_n 0, 1) := by decide +kernel
theorem dX6_textOf_14 : decode cX6_textOf 14 = .ok (.getfield 17, 3) := by decide +kernel
theorem dX6_textOf_17 : decode cX6_textOf 17 = .ok (.iload_n 1, 1) := by decide +kernel
theorem dX6_textOf_18 : decode cX6_textOf 18 = .ok (.aaload, 1) := by decide +kernel
theorem dX6_textOf_19 : decode cX6_textOf 19 = .ok (.goto 4, 3) := by decide +kernel
theorem dX6_textOf_22 : decode cX6_textOf 22 = .ok (.aconst_null, 1) := by decide +kernel
theorem dX6_textOf_23 : decode cX6_textOf 23 = .ok (.areturn, 1) := by decide +kernel
def F_X6_textOf (fu : Nat) (M : Mm) (x1 : Int32) : Option (Option Nat) :=
  if x1 < 0 then
    some none
  else
    if (4 : Int32) ≤ x1 then
      some none
    else
      if x1 < 0 ∨ 4 ≤ x1.toNatClampNeg then none else (
      some (some (13 + x1.toNatClampNeg)))
set_option maxRecDepth 100000 in
set_option maxHeartbeats 4000000 in
theorem c_X6_textOf {l : Launch} {G : Gv} {fu : Nat} {M : Mm} {x1 : Int32} {r : Option Nat} (hF : F_X6_textOf fu M x1 = some r) : Met l yX6_textOf (.code yX6_textOf cX6_textOf 2 (Option.some (.object "SnowCitizens$Text")) :: zU) rm_X6_textOf (va_Pc [.ref (ad G 0), .int x1] (Wd G M)) (QQ G r M) 0 0 (zA G) := by
  refine zMet (by decide) rfl (Nat.le_of_ble_eq_true rfl) ?_
  intro p e s m below meth c hC hw ls hl
  have hl : lv_has ls 2 [(0, .ref (ad G 0)), (1, .int x1)] := hl
  unfold F_X6_textOf at hF
  refine lv_iload_n hC.1 hC.2.1 dX6_textOf_0 rfl (lv_at hl 1 rfl) ?_
  refine lv_if_lt (tgt := 22) hC.1 hC.2.1 dX6_textOf_1 (by decide) (fun b1 => ?_) (fun b1 => ?_)
  · have hF := ifP hF b1
    refine lv_null hC.1 hC.2.1 dX6_textOf_22 ?_
    exact r_nretP hC hw hF dX6_textOf_23
  · have hF := ifN hF b1
    refine lv_iload_n hC.1 hC.2.1 dX6_textOf_4 rfl (lv_at hl 1 rfl) ?_
    refine lv_aload_n hC.1 hC.2.1 dX6_textOf_5 rfl (lv_at hl 0 rfl) ?_
    refine g6_texts hC hw q1_194 dX6_textOf_6 ?_
    refine r_alenT hC.1 hC.2.1 hw dX6_textOf_9 ?_
    refine lv_icmp_ge (tgt := 22) hC.1 hC.2.1 dX6_textOf_10 (by decide) (fun b2 => ?_) (fun b2 => ?_)
    · have hF := ifP hF b2
      refine lv_null hC.1 hC.2.1 dX6_textOf_22 ?_
      exact r_nretP hC hw hF dX6_textOf_23
    · have hF := ifN hF b2
      refine lv_aload_n hC.1 hC.2.1 dX6_textOf_13 rfl (lv_at hl 0 rfl) ?_
      refine g6_texts hC hw q1_194 dX6_textOf_14 ?_
      refine lv_iload_n hC.1 hC.2.1 dX6_textOf_17 rfl (lv_at hl 1 rfl) ?_
      obtain ⟨n3, hF⟩ := ifO hF
      refine r_aldT hC.1 hC.2.1 hw n3 dX6_textOf_18 ?_
      refine lv_goto (tgt := 23) hC.1 hC.2.1 dX6_textOf_19 (by decide) ?_
      exact r_aretP hC hw hF dX6_textOf_23
abbrev rm_X6_text : Room := { frames := 2, cells := 0, slots := 0, locals := 43 }
theorem yv_X6_text : YV yX6_text cX6_text 4 (some .int) 2 RX6 := ⟨⟨q3_151, q3_152, q1_1, q3_153⟩, by decide +kernel⟩
theorem dX6_text_0 : decode cX6_text 0 = .ok (.aload_n 0, 1) := by decide +kernel
theorem dX6_text_1 : decode cX6_text 1 = .ok (.iload_n 1, 1) := by decide +kernel
theorem dX6_text_2 : decode cX6_text 2 = .ok (.invokevirtual 126, 3) := by decide +kernel
theorem dX6_text_5 : decode cX6_text 5 = .ok (.astore_n 3, 1) := by decide +kernel
theorem dX6_text_6 : decode cX6_text 6 = .ok (.aload_n 3, 1) := by decide +kernel
theorem dX6_text_7 : decode cX6_text 7 = .ok (.ifnull 9, 3) := by decide +kernel
theorem dX6_text_10 : decode cX6_text 10 = .ok (.iload_n 2, 1) := by decide +kernel
theorem dX6_text_11 : decode cX6_text 11 = .ok (.bipush 60, 2) := by decide +kernel
theorem dX6_text_13 : decode cX6_text 13 = .ok (.if_icmp .le 5, 3) := by decide +kernel
theorem dX6_text_16 : decode cX6_text 16 = .ok (.iconst (-1), 1) := by decide +kernel
theorem dX6_text_17 : decode cX6_text 17 = .ok (.ireturn, 1) := by decide +kernel
theorem dX6_text_18 : decode cX6_text 18 = .ok (.iload_n 2, 1) := by decide +kernel
theorem dX6_text_19 : decode cX6_text 19 = .ok (.ifCond .ge 9, 3) := by decide +kernel
theorem dX6_text_22 : decode cX6_text 22 = .ok (.aload_n 0, 1) := by decide +kernel
theorem dX6_text_23 : decode cX6_text 23 = .ok (.iconst 5, 1) := by decide +kernel
theorem dX6_text_24 : decode cX6_text 24 = .ok (.invokevirtual 82, 3) := by decide +kernel
theorem dX6_text_27 : decode cX6_text 27 = .ok (.ireturn, 1) := by decide +kernel
theorem dX6_text_28 : decode cX6_text 28 = .ok (.aload_n 3, 1) := by decide +kernel
theorem dX6_text_29 : decode cX6_text 29 = .ok (.iload_n 2, 1) := by decide +kernel
theorem dX6_text_30 : decode cX6_text 30 = .ok (.invokevirtual 130, 3) := by decide +kernel
theorem dX6_text_33 : decode cX6_text 33 = .ok (.iload_n 2, 1) := by decide +kernel
theorem dX6_text_34 : decode cX6_text 34 = .ok (.ireturn, 1) := by decide +kernel
def F_X6_text (fu : Nat) (M : Mm) (x1 : Int32) (x2 : Int32) : Option (Int32 × Mm) :=
  ob1 (F_X6_textOf fu M x1) (fun r2 =>
  op1 r2 (
    some ((-1 : Int32), M)) (fun c3 =>
    if ¬ kd c3 = 13 then none else (
    if x2 ≤ (60 : Int32) then
      if 0 ≤ x2 then
        ob1 (F_X5_renew fu M c3 x2) (fun M8 =>
        some (x2, M8))
      else
        ob2 (F_X6_found fu M (5 : Int32)) (fun r10 M11 =>
        some (r10, M11))
    else
      some ((-1 : Int32), M))))
set_option maxRecDepth 100000 in
set_option maxHeartbeats 4000000 in
theorem c_X6_text {l : Launch} {G : Gv} {fu : Nat} {M : Mm} {x1 : Int32} {x2 : Int32} {r : Int32} {M' : Mm} (hF : F_X6_text fu M x1 x2 = some (r, M')) : Met l yX6_text (.code yX6_text cX6_text 4 (some .int) :: zU) rm_X6_text (va_Pc [.ref (ad G 0), .int x1, .int x2] (Wd G M)) (QI G r M') 0 0 (zA G) := by
  refine zMet (by decide) rfl (Nat.le_of_ble_eq_true rfl) ?_
  intro p e s m below meth c hC hw ls hl
  have hl : lv_has ls 4 [(0, .ref (ad G 0)), (1, .int x1), (2, .int x2)] := hl
  unfold F_X6_text at hF
  refine lv_aload_n hC.1 hC.2.1 dX6_text_0 rfl (lv_at hl 0 rfl) ?_
  refine lv_iload_n hC.1 hC.2.1 dX6_text_1 rfl (lv_at hl 1 rfl) ?_
  obtain ⟨r2, h1, hF⟩ := ob1S hF
  refine k_Vq (As := [.int x1]) (rest := []) hC hw (c_X6_textOf (M := M) h1) RC_S yv_X6_textOf q3_125 ⟨rfl, rfl⟩ ⟨Nat.le_of_ble_eq_true rfl, Nat.le_of_ble_eq_true rfl⟩ ⟨Nat.zero_le _, Nat.zero_le _⟩ rfl rfl (Nat.le_of_ble_eq_true rfl) hl dX6_text_2 (fun H locs hw => ?_)
  cases r2 with
  | none =>
    have hF := op1N hF
    refine topN ?_
    refine lv_astore_nN (lv' := [(3, .null), (0, .ref (ad G 0)), (1, .int x1), (2, .int x2)]) hC.1 hC.2.1 dX6_text_5 rfl hl (by decide) rfl (fun ls hl => ?_)
    refine lv_aload_nN hC.1 hC.2.1 dX6_text_6 rfl (lv_at hl 0 rfl) ?_
    refine lv_ifnullN (tgt := 16) hC.1 hC.2.1 dX6_text_7 (by decide) ?_
    refine lv_iconst (v := (-1 : Int32)) hC.1 hC.2.1 dX6_text_16 (by decide) ?_
    exact r_iretE hC hw hF dX6_text_17
  | some c3 =>
    obtain ⟨g4, hF⟩ := ifO (op1C hF)
    have g4 := Decidable.not_not.mp g4
    refine topC ?_
    refine lv_astore_n (lv' := [(3, .ref (ad G c3)), (0, .ref (ad G 0)), (1, .int x1), (2, .int x2)]) hC.1 hC.2.1 dX6_text_5 rfl hl (by decide) rfl (fun ls hl => ?_)
    refine lv_aload_n hC.1 hC.2.1 dX6_text_6 rfl (lv_at hl 0 rfl) ?_
    refine lv_ifnull hC.1 hC.2.1 dX6_text_7 ?_
    refine lv_iload_n hC.1 hC.2.1 dX6_text_10 rfl (lv_at hl 3 rfl) ?_
    refine lv_bipush (v := (60 : Int32)) hC.1 hC.2.1 dX6_text_11 (by decide) ?_
    refine lv_icmp_le (tgt := 18) hC.1 hC.2.1 dX6_text_13 (by decide) (fun b5 => ?_) (fun b5 => ?_)
    · have hF := ifP hF b5
      refine lv_iload_n hC.1 hC.2.1 dX6_text_18 rfl (lv_at hl 3 rfl) ?_
      refine lv_if_ge (tgt := 28) hC.1 hC.2.1 dX6_text_19 (by decide) (fun b6 => ?_) (fun b6 => ?_)
      · have hF := ifP hF b6
        refine lv_aload_n hC.1 hC.2.1 dX6_text_28 rfl (lv_at hl 0 rfl) ?_
        refine lv_iload_n hC.1 hC.2.1 dX6_text_29 rfl (lv_at hl 3 rfl) ?_
        obtain ⟨M8, h7, hF⟩ := ob1S hF
        refine k_Vv (As := [.int x2]) (rest := []) hC hw (c_X5_renew (M := M) g4 h7) (RC_T g4) yv_X5_renew q3_154 ⟨rfl, rfl⟩ ⟨Nat.le_of_ble_eq_true rfl, Nat.le_of_ble_eq_true rfl⟩ ⟨Nat.zero_le _, Nat.zero_le _⟩ rfl rfl (Nat.le_of_ble_eq_true rfl) hl dX6_text_30 (fun H locs hw => ?_)
        refine lv_iload_n hC.1 hC.2.1 dX6_text_33 rfl (lv_at hl 3 rfl) ?_
        exact r_iretE hC hw hF dX6_text_34
      · have hF := ifN hF b6
        refine lv_aload_n hC.1 hC.2.1 dX6_text_22 rfl (lv_at hl 1 rfl) ?_
        refine lv_iconst (v := (5 : Int32)) hC.1 hC.2.1 dX6_text_23 (by decide) ?_
        obtain ⟨r10, M11, h9, hF⟩ := ob2S hF
        refine k_Vi (As := [.int (5 : Int32)]) (rest := []) hC hw (c_X6_found (M := M) h9) RC_S yv_X6_found q2_13 ⟨rfl, rfl⟩ ⟨Nat.le_of_ble_eq_true rfl, Nat.le_of_ble_eq_true rfl⟩ ⟨Nat.zero_le _, Nat.zero_le _⟩ rfl rfl (Nat.le_of_ble_eq_true rfl) hl dX6_text_24 (fun H locs hw => ?_)
        exact r_iretE hC hw hF dX6_text_27
    · have hF := ifN hF b5
      refine lv_iconst (v := (-1 : Int32)) hC.1 hC.2.1 dX6_text_16 (by decide) ?_
      exact r_iretE hC hw hF dX6_text_17
abbrev rm_X6_put : Room := { frames := 2, cells := 0, slots := 0, locals := 43 }
theorem yv_X6_put : YV yX6_put cX6_put 6 (some .int) 3 RX6 := ⟨⟨q3_159, q3_160, q1_1, q3_161⟩, by decide +kernel⟩
theorem dX6_put_0 : decode cX6_put 0 = .ok (.aload_n 0, 1) := by decide +kernel
theorem dX6_put_1 : decode cX6_put 1 = .ok (.iload_n 1, 1) := by decide +kernel
theorem dX6_put_2 : decode cX6_put 2 = .ok (.invokevirtual 126, 3) := by decide +kernel
theorem dX6_put_5 : decode cX6_put 5 = .ok (.astore 4, 2) := by decide +kernel
theorem dX6_put_7 : decode cX6_put 7 = .ok (.aload 4, 2) := by decide +kernel
theorem dX6_put_9 : decode cX6_put 9 = .ok (.ifnonnull 5, 3) := by decide +kernel
theorem dX6_put_12 : decode cX6_put 12 = .ok (.iconst (-1), 1) := by decide +kernel
theorem dX6_put_13 : decode cX6_put 13 = .ok (.ireturn, 1) := by decide +kernel
theorem dX6_put_14 : decode cX6_put 14 = .ok (.aload 4, 2) := by decide +kernel
theorem dX6_put_16 : decode cX6_put 16 = .ok (.getfield 131, 3) := by decide +kernel
theorem dX6_put_19 : decode cX6_put 19 = .ok (.ifCond .ne 9, 3) := by decide +kernel
theorem dX6_put_22 : decode cX6_put 22 = .ok (.aload_n 0, 1) := by decide +kernel
theorem dX6_put_23 : decode cX6_put 23 = .ok (.iconst 1, 1) := by decide +kernel
theorem dX6_put_24 : decode cX6_put 24 = .ok (.invokevirtual 82, 3) := by decide +kernel
theorem dX6_put_27 : decode cX6_put 27 = .ok (.ireturn, 1) := by decide +kernel
theorem dX6_put_28 : decode cX6_put 28 = .ok (.iload_n 2, 1) := by decide +kernel
theorem dX6_put_29 : decode cX6_put 29 = .ok (.ifCond .lt 12, 3) := by decide +kernel
theorem dX6_put_32 : decode cX6_put 32 = .ok (.iload_n 2, 1) := by decide +kernel
theorem dX6_put_33 : decode cX6_put 33 = .ok (.aload 4, 2) := by decide +kernel
theorem dX6_put_35 : decode cX6_put 35 = .ok (.getfield 132, 3) := by decide +kernel
theorem dX6_put_38 : decode cX6_put 38 = .ok (.if_icmp .lt 9, 3) := by decide +kernel
theorem dX6_put_41 : decode cX6_put 41 = .ok (.aload_n 0, 1) := by decide +kernel
theorem dX6_put_42 : decode cX6_put 42 = .ok (.iconst 2, 1) := by decide +kernel
theorem dX6_put_43 : decode cX6_put 43 = .ok (.invokevirtual 82, 3) := by decide +kernel
theorem dX6_put_46 : decode cX6_put 46 = .ok (.ireturn, 1) := by decide +kernel
theorem dX6_put_47 : decode cX6_put 47 = .ok (.aload 4, 2) := by decide +kernel
theorem dX6_put_49 : decode cX6_put 49 = .ok (.iload_n 2, 1) := by decide +kernel
theorem dX6_put_50 : decode cX6_put 50 = .ok (.invokevirtual 133, 3) := by decide +kernel
theorem dX6_put_53 : decode cX6_put 53 = .ok (.istore 5, 2) := by decide +kernel
theorem dX6_put_55 : decode cX6_put 55 = .ok (.aload 4, 2) := by decide +kernel
theorem dX6_put_57 : decode cX6_put 57 = .ok (.iload_n 2, 1) := by decide +kernel
theorem dX6_put_58 : decode cX6_put 58 = .ok (.iload_n 3, 1) := by decide +kernel
theorem dX6_put_59 : decode cX6_put 59 = .ok (.i2b, 1) := by decide +kernel
theorem dX6_put_60 : decode cX6_put 60 = .ok (.invokevirtual 136, 3) := by decide +kernel
theorem dX6_put_63 : decode cX6_put 63 = .ok (.iload 5, 2) := by decide +kernel
theorem dX6_put_65 : decode cX6_put 65 = .ok (.sipush 1000, 3) := by decide +kernel
theorem dX6_put_68 : decode cX6_put 68 = .ok (.iadd, 1) := by decide +kernel
theorem dX6_put_69 : decode cX6_put 69 = .ok (.ireturn, 1) := by decide +kernel
def F_X6_put_41 (fu : Nat) (M : Mm) : Option (Int32 × Mm) :=
  ob2 (F_X6_found fu M (2 : Int32)) (fun r2 M3 =>
  some (r2, M3))
set_option maxRecDepth 100000 in
set_option maxHeartbeats 4000000 in
theorem w_X6_put_41 {p : Program} {l : Launch} {e : Env} {s : State} {m : MethodId} {args : Array Value} {below : List Frame} {meth : Method} {c : Code} {G : Gv} (hC : Cx p s m args meth c cX6_put 6 (some .int) RX6) {fu : Nat} {r : Int32} {M' : Mm} {M : Mm} {H : Heap} {locs : List Loc} {ls : Array Slot} (hF : F_X6_put_41 fu M = some (r, M')) (hw : St G s H locs M) (hl : lv_has ls 6 [(0, .ref (ad G 0))]) : W p l e rm_X6_put s m args below meth c H locs 0 0 (MQ below (QI G r M') args s 0 0 (zA G)) (F0 m 41 ls []) := by
  unfold F_X6_put_41 at hF
  refine lv_aload_n hC.1 hC.2.1 dX6_put_41 rfl (lv_at hl 0 rfl) ?_
  refine lv_iconst (v := (2 : Int32)) hC.1 hC.2.1 dX6_put_42 (by decide) ?_
  obtain ⟨r2, M3, h1, hF⟩ := ob2S hF
  refine k_Vi (As := [.int (2 : Int32)]) (rest := []) hC hw (c_X6_found (M := M) h1) RC_S yv_X6_found q2_13 ⟨rfl, rfl⟩ ⟨Nat.le_of_ble_eq_true rfl, Nat.le_of_ble_eq_true rfl⟩ ⟨Nat.zero_le _, Nat.zero_le _⟩ rfl rfl (Nat.le_of_ble_eq_true rfl) hl dX6_put_43 (fun H locs hw => ?_)
  exact r_iretE hC hw hF dX6_put_46
def F_X6_put (fu : Nat) (M : Mm) (x1 : Int32) (x2 : Int32) (x3 : Int32) : Option (Int32 × Mm) :=
  ob1 (F_X6_textOf fu M x1) (fun r2 =>
  op1 r2 (
    some ((-1 : Int32), M)) (fun c3 =>
    if ¬ kd c3 = 13 then none else (
    if (M.1 c3 0) = 0 then
      ob2 (F_X6_found fu M (1 : Int32)) (fun r13 M14 =>
      some (r13, M14))
    else
      if x2 < 0 then
        F_X6_put_41 fu M
      else
        if x2 < (M.1 c3 1) then
          ob1 (F_X5_sign fu M c3 x2) (fun r9 =>
          ob1 (F_X5_change fu M c3 x2 x3.toInt8.toInt32) (fun M11 =>
          some ((r9 + (1000 : Int32)), M11)))
        else
          F_X6_put_41 fu M)))
set_option maxRecDepth 100000 in
set_option maxHeartbeats 4000000 in
theorem c_X6_put {l : Launch} {G : Gv} {fu : Nat} {M : Mm} {x1 : Int32} {x2 : Int32} {x3 : Int32} {r : Int32} {M' : Mm} (hF : F_X6_put fu M x1 x2 x3 = some (r, M')) : Met l yX6_put (.code yX6_put cX6_put 6 (some .int) :: zU) rm_X6_put (va_Pc [.ref (ad G 0), .int x1, .int x2, .int x3] (Wd G M)) (QI G r M') 0 0 (zA G) := by
  refine zMet (by decide) rfl (Nat.le_of_ble_eq_true rfl) ?_
  intro p e s m below meth c hC hw ls hl
  have hl : lv_has ls 6 [(0, .ref (ad G 0)), (1, .int x1), (2, .int x2), (3, .int x3)] := hl
  unfold F_X6_put at hF
  refine lv_aload_n hC.1 hC.2.1 dX6_put_0 rfl (lv_at hl 0 rfl) ?_
  refine lv_iload_n hC.1 hC.2.1 dX6_put_1 rfl (lv_at hl 1 rfl) ?_
  obtain ⟨r2, h1, hF⟩ := ob1S hF
  refine k_Vq (As := [.int x1]) (rest := []) hC hw (c_X6_textOf (M := M) h1) RC_S yv_X6_textOf q3_125 ⟨rfl, rfl⟩ ⟨Nat.le_of_ble_eq_true rfl, Nat.le_of_ble_eq_true rfl⟩ ⟨Nat.zero_le _, Nat.zero_le _⟩ rfl rfl (Nat.le_of_ble_eq_true rfl) hl dX6_put_2 (fun H locs hw => ?_)
  cases r2 with
  | none =>
    have hF := op1N hF
    refine topN ?_
    refine lv_astoreN (lv' := [(4, .null), (0, .ref (ad G 0)), (1, .int x1), (2, .int x2), (3, .int x3)]) hC.1 hC.2.1 dX6_put_5 hl (by decide) rfl (fun ls hl => ?_)
    refine lv_aloadN hC.1 hC.2.1 dX6_put_7 (lv_at hl 0 rfl) ?_
    refine lv_ifnonnullN hC.1 hC.2.1 dX6_put_9 ?_
    refine lv_iconst (v := (-1 : Int32)) hC.1 hC.2.1 dX6_put_12 (by decide) ?_
    exact r_iretE hC hw hF dX6_put_13
  | some c3 =>
    obtain ⟨g4, hF⟩ := ifO (op1C hF)
    have g4 := Decidable.not_not.mp g4
    refine topC ?_
    refine lv_astore (lv' := [(4, .ref (ad G c3)), (0, .ref (ad G 0)), (1, .int x1), (2, .int x2), (3, .int x3)]) hC.1 hC.2.1 dX6_put_5 hl (by decide) rfl (fun ls hl => ?_)
    refine lv_aload hC.1 hC.2.1 dX6_put_7 (lv_at hl 0 rfl) ?_
    refine lv_ifnonnull (tgt := 14) hC.1 hC.2.1 dX6_put_9 (by decide) ?_
    refine lv_aload hC.1 hC.2.1 dX6_put_14 (lv_at hl 0 rfl) ?_
    refine g5_there hC hw g4 q1_180 dX6_put_16 ?_
    refine lv_if_ne (tgt := 28) hC.1 hC.2.1 dX6_put_19 (by decide) (fun b5 => ?_) (fun b5 => ?_)
    · have hF := ifN hF b5
      refine lv_iload_n hC.1 hC.2.1 dX6_put_28 rfl (lv_at hl 3 rfl) ?_
      refine lv_if_lt (tgt := 41) hC.1 hC.2.1 dX6_put_29 (by decide) (fun b6 => ?_) (fun b6 => ?_)
      · have hF := ifP hF b6
        exact w_X6_put_41 hC hF hw (lv_sub hl [1] rfl)
      · have hF := ifN hF b6
        refine lv_iload_n hC.1 hC.2.1 dX6_put_32 rfl (lv_at hl 3 rfl) ?_
        refine lv_aload hC.1 hC.2.1 dX6_put_33 (lv_at hl 0 rfl) ?_
        refine g5_size hC hw g4 q1_183 dX6_put_35 ?_
        refine lv_icmp_lt (tgt := 47) hC.1 hC.2.1 dX6_put_38 (by decide) (fun b7 => ?_) (fun b7 => ?_)
        · have hF := ifP hF b7
          refine lv_aload hC.1 hC.2.1 dX6_put_47 (lv_at hl 0 rfl) ?_
          refine lv_iload_n hC.1 hC.2.1 dX6_put_49 rfl (lv_at hl 3 rfl) ?_
          obtain ⟨r9, h8, hF⟩ := ob1S hF
          refine k_Vi (As := [.int x2]) (rest := []) hC hw (c_X5_sign (M := M) g4 h8) (RC_T g4) yv_X5_sign q3_162 ⟨rfl, rfl⟩ ⟨Nat.le_of_ble_eq_true rfl, Nat.le_of_ble_eq_true rfl⟩ ⟨Nat.zero_le _, Nat.zero_le _⟩ rfl rfl (Nat.le_of_ble_eq_true rfl) hl dX6_put_50 (fun H locs hw => ?_)
          refine lv_istore (lv' := [(5, .int r9), (4, .ref (ad G c3)), (0, .ref (ad G 0)), (1, .int x1), (2, .int x2), (3, .int x3)]) hC.1 hC.2.1 dX6_put_53 hl (by decide) rfl (fun ls hl => ?_)
          refine lv_aload hC.1 hC.2.1 dX6_put_55 (lv_at hl 1 rfl) ?_
          refine lv_iload_n hC.1 hC.2.1 dX6_put_57 rfl (lv_at hl 4 rfl) ?_
          refine lv_iload_n hC.1 hC.2.1 dX6_put_58 rfl (lv_at hl 5 rfl) ?_
          refine lv_i2b hC.1 hC.2.1 dX6_put_59 rfl ?_
          obtain ⟨M11, h10, hF⟩ := ob1S hF
          refine k_Vv (As := [.int x2, .int x3.toInt8.toInt32]) (rest := []) hC hw (c_X5_change (M := M) g4 h10) (RC_T g4) yv_X5_change q3_166 ⟨rfl, rfl⟩ ⟨Nat.le_of_ble_eq_true rfl, Nat.le_of_ble_eq_true rfl⟩ ⟨Nat.zero_le _, Nat.zero_le _⟩ rfl rfl (Nat.le_of_ble_eq_true rfl) hl dX6_put_60 (fun H locs hw => ?_)
          refine lv_iload hC.1 hC.2.1 dX6_put_63 (lv_at hl 0 rfl) ?_
          refine lv_sipush (v := (1000 : Int32)) hC.1 hC.2.1 dX6_put_65 (by decide) ?_
          refine lv_iadd hC.1 hC.2.1 dX6_put_68 ?_
          exact r_iretE hC hw hF dX6_put_69
        · have hF := ifN hF b7
          exact w_X6_put_41 hC hF hw (lv_sub hl [1] rfl)
    · have hF := ifP hF b5
      refine lv_aload_n hC.1 hC.2.1 dX6_put_22 rfl (lv_at hl 1 rfl) ?_
      refine lv_iconst (v := (1 : Int32)) hC.1 hC.2.1 dX6_put_23 (by decide) ?_
      obtain ⟨r13, M14, h12, hF⟩ := ob2S hF
      refine k_Vi (As := [.int (1 : Int32)]) (rest := []) hC hw (c_X6_found (M := M) h12) RC_S yv_X6_found q2_13 ⟨rfl, rfl⟩ ⟨Nat.le_of_ble_eq_true rfl, Nat.le_of_ble_eq_true rfl⟩ ⟨Nat.zero_le _, Nat.zero_le _⟩ rfl rfl (Nat.le_of_ble_eq_true rfl) hl dX6_put_24 (fun H locs hw => ?_)
      exact r_iretE hC hw hF dX6_put_27
abbrev rm_X6_fault : Room := { frames := 4, cells := 0, slots := 0, locals := 88 }
theorem yv_X6_fault : YV yX6_fault cX6_fault 3 (some .int) 1 RX6 := ⟨⟨q3_174, q3_175, q1_1, q3_176⟩, by decide +kernel⟩
theorem dX6_fault_0 : decode cX6_fault 0 = .ok (.aload_n 0, 1) := by decide +kernel
theorem dX6_fault_1 : decode cX6_fault 1 = .ok (.iload_n 1, 1) := by decide +kernel
theorem dX6_fault_2 : decode cX6_fault 2 = .ok (.invokevirtual 126, 3) := by decide +kernel
theorem dX6_fault_5 : decode cX6_fault 5 = .ok (.astore_n 2, 1) := by decide +kernel
theorem dX6_fault_6 : decode cX6_fault 6 = .ok (.aload_n 2, 1) := by decide +kernel
theorem dX6_fault_7 : decode cX6_fault 7 = .ok (.ifnonnull 5, 3) := by decide +kernel
theorem dX6_fault_10 : decode cX6_fault 10 = .ok (.iconst (-1), 1) := by decide +kernel
theorem dX6_fault_11 : decode cX6_fault 11 = .ok (.ireturn, 1) := by decide +kernel
theorem dX6_fault_12 : decode cX6_fault 12 = .ok (.aload_n 2, 1) := by decide +kernel
theorem dX6_fault_13 : decode cX6_fault 13 = .ok (.getfield 131, 3) := by decide +kernel
theorem dX6_fault_16 : decode cX6_fault 16 = .ok (.ifCond .ne 9, 3) := by decide +kernel
theorem dX6_fault_19 : decode cX6_fault 19 = .ok (.aload_n 0, 1) := by decide +kernel
theorem dX6_fault_20 : decode cX6_fault 20 = .ok (.iconst 1, 1) := by decide +kernel
theorem dX6_fault_21 : decode cX6_fault 21 = .ok (.invokevirtual 82, 3) := by decide +kernel
theorem dX6_fault_24 : decode cX6_fault 24 = .ok (.ireturn, 1) := by decide +kernel
theorem dX6_fault_25 : decode cX6_fault 25 = .ok (.aload_n 0, 1) := by decide +kernel
theorem dX6_fault_26 : decode cX6_fault 26 = .ok (.getfield 35, 3) := by decide +kernel
theorem dX6_fault_29 : decode cX6_fault 29 = .ok (.aload_n 2, 1) := by decide +kernel
theorem dX6_fault_30 : decode cX6_fault 30 = .ok (.invokevirtual 140, 3) := by decide +kernel
theorem dX6_fault_33 : decode cX6_fault 33 = .ok (.ireturn, 1) := by decide +kernel
def F_X6_fault (fu : Nat) (M : Mm) (x1 : Int32) : Option (Int32 × Mm) :=
  ob1 (F_X6_textOf fu M x1) (fun r2 =>
  op1 r2 (
    some ((-1 : Int32), M)) (fun c3 =>
    if ¬ kd c3 = 13 then none else (
    if (M.1 c3 0) = 0 then
      ob2 (F_X6_found fu M (1 : Int32)) (fun r10 M11 =>
      some (r10, M11))
    else
      ob2 (F_X3_faultIn fu M c3) (fun r7 M8 =>
      some (r7, M8)))))
set_option maxRecDepth 100000 in
set_option maxHeartbeats 4000000 in
theorem c_X6_fault {l : Launch} {G : Gv} {fu : Nat} {M : Mm} {x1 : Int32} {r : Int32} {M' : Mm} (hF : F_X6_fault fu M x1 = some (r, M')) : Met l yX6_fault (.code yX6_fault cX6_fault 3 (some .int) :: zU) rm_X6_fault (va_Pc [.ref (ad G 0), .int x1] (Wd G M)) (QI G r M') 0 0 (zA G) := by
  refine zMet (by decide) rfl (Nat.le_of_ble_eq_true rfl) ?_
  intro p e s m below meth c hC hw ls hl
  have hl : lv_has ls 3 [(0, .ref (ad G 0)), (1, .int x1)] := hl
  unfold F_X6_fault at hF
  refine lv_aload_n hC.1 hC.2.1 dX6_fault_0 rfl (lv_at hl 0 rfl) ?_
  refine lv_iload_n hC.1 hC.2.1 dX6_fault_1 rfl (lv_at hl 1 rfl) ?_
  obtain ⟨r2, h1, hF⟩ := ob1S hF
  refine k_Vq (As := [.int x1]) (rest := []) hC hw (c_X6_textOf (M := M) h1) RC_S yv_X6_textOf q3_125 ⟨rfl, rfl⟩ ⟨Nat.le_of_ble_eq_true rfl, Nat.le_of_ble_eq_true rfl⟩ ⟨Nat.zero_le _, Nat.zero_le _⟩ rfl rfl (Nat.le_of_ble_eq_true rfl) hl dX6_fault_2 (fun H locs hw => ?_)
  cases r2 with
  | none =>
    have hF := op1N hF
    refine topN ?_
    refine lv_astore_nN (lv' := [(2, .null), (0, .ref (ad G 0)), (1, .int x1)]) hC.1 hC.2.1 dX6_fault_5 rfl hl (by decide) rfl (fun ls hl => ?_)
    refine lv_aload_nN hC.1 hC.2.1 dX6_fault_6 rfl (lv_at hl 0 rfl) ?_
    refine lv_ifnonnullN hC.1 hC.2.1 dX6_fault_7 ?_
    refine lv_iconst (v := (-1 : Int32)) hC.1 hC.2.1 dX6_fault_10 (by decide) ?_
    exact r_iretE hC hw hF dX6_fault_11
  | some c3 =>
    obtain ⟨g4, hF⟩ := ifO (op1C hF)
    have g4 := Decidable.not_not.mp g4
    refine topC ?_
    refine lv_astore_n (lv' := [(2, .ref (ad G c3)), (0, .ref (ad G 0)), (1, .int x1)]) hC.1 hC.2.1 dX6_fault_5 rfl hl (by decide) rfl (fun ls hl => ?_)
    refine lv_aload_n hC.1 hC.2.1 dX6_fault_6 rfl (lv_at hl 0 rfl) ?_
    refine lv_ifnonnull (tgt := 12) hC.1 hC.2.1 dX6_fault_7 (by decide) ?_
    refine lv_aload_n hC.1 hC.2.1 dX6_fault_12 rfl (lv_at hl 0 rfl) ?_
    refine g5_there hC hw g4 q1_180 dX6_fault_13 ?_
    refine lv_if_ne (tgt := 25) hC.1 hC.2.1 dX6_fault_16 (by decide) (fun b5 => ?_) (fun b5 => ?_)
    · have hF := ifN hF b5
      refine lv_aload_n hC.1 hC.2.1 dX6_fault_25 rfl (lv_at hl 1 rfl) ?_
      refine g6_reading hC hw q1_197 dX6_fault_26 ?_
      refine lv_aload_n hC.1 hC.2.1 dX6_fault_29 rfl (lv_at hl 0 rfl) ?_
      obtain ⟨r7, M8, h6, hF⟩ := ob2S hF
      refine k_Vi (As := [.ref (ad G c3)]) (rest := []) hC hw (c_X3_faultIn (M := M) g4 h6) RC_D yv_X3_faultIn q3_177 ⟨rfl, rfl⟩ ⟨Nat.le_of_ble_eq_true rfl, Nat.le_of_ble_eq_true rfl⟩ ⟨Nat.zero_le _, Nat.zero_le _⟩ rfl rfl (Nat.le_of_ble_eq_true rfl) hl dX6_fault_30 (fun H locs hw => ?_)
      exact r_iretE hC hw hF dX6_fault_33
    · have hF := ifP hF b5
      refine lv_aload_n hC.1 hC.2.1 dX6_fault_19 rfl (lv_at hl 1 rfl) ?_
      refine lv_iconst (v := (1 : Int32)) hC.1 hC.2.1 dX6_fault_20 (by decide) ?_
      obtain ⟨r10, M11, h9, hF⟩ := ob2S hF
      refine k_Vi (As := [.int (1 : Int32)]) (rest := []) hC hw (c_X6_found (M := M) h9) RC_S yv_X6_found q2_13 ⟨rfl, rfl⟩ ⟨Nat.le_of_ble_eq_true rfl, Nat.le_of_ble_eq_true rfl⟩ ⟨Nat.zero_le _, Nat.zero_le _⟩ rfl rfl (Nat.le_of_ble_eq_true rfl) hl dX6_fault_21 (fun H locs hw => ?_)
      exact r_iretE hC hw hF dX6_fault_24
abbrev rm_X6_keptOf : Room := { frames := 0, cells := 0, slots := 0, locals := 0 }
theorem yv_X6_keptOf : YV yX6_keptOf cX6_keptOf 2 (Option.some (.object "SnowCitizens$North")) 1 RX6 := ⟨⟨q2_133, qs_9, q1_1, q2_134⟩, by decide +kernel⟩
theorem dX6_keptOf_0 : decode cX6_keptOf 0 = .ok (.iload_n 1, 1) := by decide +kernel
theorem dX6_keptOf_1 : decode cX6_keptOf 1 = .ok (.ifCond .lt 21, 3) := by decide +kernel
theorem dX6_keptOf_4 : decode cX6_keptOf 4 = .ok (.iload_n 1, 1) := by decide +kernel
theorem dX6_keptOf_5 : decode cX6_keptOf 5 = .ok (.aload_n 0, 1) := by decide +kernel
theorem dX6_keptOf_6 : decode cX6_keptOf 6 = .ok (.getfield 28, 3) := by decide +kernel
theorem dX6_keptOf_9 : decode cX6_keptOf 9 = .ok (.arraylength, 1) := by decide +kernel
theorem dX6_keptOf_10 : decode cX6_keptOf 10 = .ok (.if_icmp .ge 12, 3) := by decide +kernel
theorem dX6_keptOf_13 : decode cX6_keptOf 13 = .ok (.aload_n 0, 1) := by decide +kernel
theorem dX6_keptOf_14 : decode cX6_keptOf 14 = .ok (.getfield 28, 3) := by decide +kernel
theorem dX6_keptOf_17 : decode cX6_keptOf 17 = .ok (.iload_n 1, 1) := by decide +kernel
theorem dX6_keptOf_18 : decode cX6_keptOf 18 = .ok (.aaload, 1) := by decide +kernel
theorem dX6_keptOf_19 : decode cX6_keptOf 19 = .ok (.goto 4, 3) := by decide +kernel
theorem dX6_keptOf_22 : decode cX6_keptOf 22 = .ok (.aconst_null, 1) := by decide +kernel
theorem dX6_keptOf_23 : decode cX6_keptOf 23 = .ok (.areturn, 1) := by decide +kernel
def F_X6_keptOf (fu : Nat) (M : Mm) (x1 : Int32) : Option (Option Nat) :=
  if x1 < 0 then
    some none
  else
    if (3 : Int32) ≤ x1 then
      some none
    else
      if x1 < 0 ∨ 3 ≤ x1.toNatClampNeg then none else (
      some (some (35 + 11 * x1.toNatClampNeg)))
set_option maxRecDepth 100000 in
set_option maxHeartbeats 4000000 in
theorem c_X6_keptOf {l : Launch} {G : Gv} {fu : Nat} {M : Mm} {x1 : Int32} {r : Option Nat} (hF : F_X6_keptOf fu M x1 = some r) : Met l yX6_keptOf (.code yX6_keptOf cX6_keptOf 2 (Option.some (.object "SnowCitizens$North")) :: zU) rm_X6_keptOf (va_Pc [.ref (ad G 0), .int x1] (Wd G M)) (QQ G r M) 0 0 (zA G) := by
  refine zMet (by decide) rfl (Nat.le_of_ble_eq_true rfl) ?_
  intro p e s m below meth c hC hw ls hl
  have hl : lv_has ls 2 [(0, .ref (ad G 0)), (1, .int x1)] := hl
  unfold F_X6_keptOf at hF
  refine lv_iload_n hC.1 hC.2.1 dX6_keptOf_0 rfl (lv_at hl 1 rfl) ?_
  refine lv_if_lt (tgt := 22) hC.1 hC.2.1 dX6_keptOf_1 (by decide) (fun b1 => ?_) (fun b1 => ?_)
  · have hF := ifP hF b1
    refine lv_null hC.1 hC.2.1 dX6_keptOf_22 ?_
    exact r_nretP hC hw hF dX6_keptOf_23
  · have hF := ifN hF b1
    refine lv_iload_n hC.1 hC.2.1 dX6_keptOf_4 rfl (lv_at hl 1 rfl) ?_
    refine lv_aload_n hC.1 hC.2.1 dX6_keptOf_5 rfl (lv_at hl 0 rfl) ?_
    refine g6_kept hC hw q1_196 dX6_keptOf_6 ?_
    refine r_alenN hC.1 hC.2.1 hw dX6_keptOf_9 ?_
    refine lv_icmp_ge (tgt := 22) hC.1 hC.2.1 dX6_keptOf_10 (by decide) (fun b2 => ?_) (fun b2 => ?_)
    · have hF := ifP hF b2
      refine lv_null hC.1 hC.2.1 dX6_keptOf_22 ?_
      exact r_nretP hC hw hF dX6_keptOf_23
    · have hF := ifN hF b2
      refine lv_aload_n hC.1 hC.2.1 dX6_keptOf_13 rfl (lv_at hl 0 rfl) ?_
      refine g6_kept hC hw q1_196 dX6_keptOf_14 ?_
      refine lv_iload_n hC.1 hC.2.1 dX6_keptOf_17 rfl (lv_at hl 1 rfl) ?_
      obtain ⟨n3, hF⟩ := ifO hF
      refine r_aldN hC.1 hC.2.1 hw n3 dX6_keptOf_18 ?_
      refine lv_goto (tgt := 23) hC.1 hC.2.1 dX6_keptOf_19 (by decide) ?_
      exact r_aretP hC hw hF dX6_keptOf_23
abbrev rm_X6_north : Room := { frames := 4, cells := 0, slots := 0, locals := 88 }
theorem yv_X6_north : YV yX6_north cX6_north 5 (some .int) 1 RX6 := ⟨⟨q3_204, q3_205, q1_1, q3_206⟩, by decide +kernel⟩
theorem dX6_north_0 : decode cX6_north 0 = .ok (.aload_n 0, 1) := by decide +kernel
theorem dX6_north_1 : decode cX6_north 1 = .ok (.iload_n 1, 1) := by decide +kernel
theorem dX6_north_2 : decode cX6_north 2 = .ok (.invokevirtual 126, 3) := by decide +kernel
theorem dX6_north_5 : decode cX6_north 5 = .ok (.astore_n 2, 1) := by decide +kernel
theorem dX6_north_6 : decode cX6_north 6 = .ok (.aload_n 2, 1) := by decide +kernel
theorem dX6_north_7 : decode cX6_north 7 = .ok (.ifnonnull 5, 3) := by decide +kernel
theorem dX6_north_10 : decode cX6_north 10 = .ok (.iconst (-1), 1) := by decide +kernel
theorem dX6_north_11 : decode cX6_north 11 = .ok (.ireturn, 1) := by decide +kernel
theorem dX6_north_12 : decode cX6_north 12 = .ok (.aload_n 2, 1) := by decide +kernel
theorem dX6_north_13 : decode cX6_north 13 = .ok (.getfield 131, 3) := by decide +kernel
theorem dX6_north_16 : decode cX6_north 16 = .ok (.ifCond .ne 9, 3) := by decide +kernel
theorem dX6_north_19 : decode cX6_north 19 = .ok (.aload_n 0, 1) := by decide +kernel
theorem dX6_north_20 : decode cX6_north 20 = .ok (.iconst 1, 1) := by decide +kernel
theorem dX6_north_21 : decode cX6_north 21 = .ok (.invokevirtual 82, 3) := by decide +kernel
theorem dX6_north_24 : decode cX6_north 24 = .ok (.ireturn, 1) := by decide +kernel
theorem dX6_north_25 : decode cX6_north 25 = .ok (.aload_n 0, 1) := by decide +kernel
theorem dX6_north_26 : decode cX6_north 26 = .ok (.getfield 35, 3) := by decide +kernel
theorem dX6_north_29 : decode cX6_north 29 = .ok (.aload_n 2, 1) := by decide +kernel
theorem dX6_north_30 : decode cX6_north 30 = .ok (.invokevirtual 140, 3) := by decide +kernel
theorem dX6_north_33 : decode cX6_north 33 = .ok (.bipush (-9), 2) := by decide +kernel
theorem dX6_north_35 : decode cX6_north 35 = .ok (.if_icmp .eq 6, 3) := by decide +kernel
theorem dX6_north_38 : decode cX6_north 38 = .ok (.bipush (-4), 2) := by decide +kernel
theorem dX6_north_40 : decode cX6_north 40 = .ok (.ireturn, 1) := by decide +kernel
theorem dX6_north_41 : decode cX6_north 41 = .ok (.aload_n 0, 1) := by decide +kernel
theorem dX6_north_42 : decode cX6_north 42 = .ok (.getfield 24, 3) := by decide +kernel
theorem dX6_north_45 : decode cX6_north 45 = .ok (.aload_n 0, 1) := by decide +kernel
theorem dX6_north_46 : decode cX6_north 46 = .ok (.getfield 35, 3) := by decide +kernel
theorem dX6_north_49 : decode cX6_north 49 = .ok (.invokevirtual 144, 3) := by decide +kernel
theorem dX6_north_52 : decode cX6_north 52 = .ok (.iconst 0, 1) := by decide +kernel
theorem dX6_north_53 : decode cX6_north 53 = .ok (.istore_n 3, 1) := by decide +kernel
theorem dX6_north_54 : decode cX6_north 54 = .ok (.iload_n 3, 1) := by decide +kernel
theorem dX6_north_55 : decode cX6_north 55 = .ok (.iconst 3, 1) := by decide +kernel
theorem dX6_north_56 : decode cX6_north 56 = .ok (.if_icmp .ge 27, 3) := by decide +kernel
theorem dX6_north_59 : decode cX6_north 59 = .ok (.aload_n 0, 1) := by decide +kernel
theorem dX6_north_60 : decode cX6_north 60 = .ok (.iload_n 3, 1) := by decide +kernel
theorem dX6_north_61 : decode cX6_north 61 = .ok (.invokevirtual 148, 3) := by decide +kernel
theorem dX6_north_64 : decode cX6_north 64 = .ok (.astore 4, 2) := by decide +kernel
theorem dX6_north_66 : decode cX6_north 66 = .ok (.aload 4, 2) := by decide +kernel
theorem dX6_north_68 : decode cX6_north 68 = .ok (.ifnull 9, 3) := by decide +kernel
theorem dX6_north_71 : decode cX6_north 71 = .ok (.aload 4, 2) := by decide +kernel
theorem dX6_north_73 : decode cX6_north 73 = .ok (.iconst 0, 1) := by decide +kernel
theorem dX6_north_74 : decode cX6_north 74 = .ok (.putfield 152, 3) := by decide +kernel
theorem dX6_north_77 : decode cX6_north 77 = .ok (.iinc 3 1, 3) := by decide +kernel
theorem dX6_north_80 : decode cX6_north 80 = .ok (.goto (-26), 3) := by decide +kernel
theorem dX6_north_83 : decode cX6_north 83 = .ok (.aload_n 0, 1) := by decide +kernel
theorem dX6_north_84 : decode cX6_north 84 = .ok (.getfield 24, 3) := by decide +kernel
theorem dX6_north_87 : decode cX6_north 87 = .ok (.getfield 152, 3) := by decide +kernel
theorem dX6_north_90 : decode cX6_north 90 = .ok (.ireturn, 1) := by decide +kernel
def F_X6_north_54 (fu : Nat) : Nat → Mm → Int32 → Option (Int32 × Mm)
  | 0, _, _ => none
  | n + 1, M, x3 =>
    if (3 : Int32) ≤ x3 then
      some ((M.1 24 0), M)
    else
      ob1 (F_X6_keptOf fu M x3) (fun r3 =>
      op1 r3 (
        F_X6_north_54 fu n M (x3 + (1 : Int32))) (fun c4 =>
        if ¬ kd c4 = 11 then none else (
        lt1 (pI M c4 0 (0 : Int32)) (fun M6 =>
        F_X6_north_54 fu n M6 (x3 + (1 : Int32))))))
set_option maxRecDepth 100000 in
set_option maxHeartbeats 4000000 in
theorem w_X6_north_54 {p : Program} {l : Launch} {e : Env} {s : State} {m : MethodId} {args : Array Value} {below : List Frame} {meth : Method} {c : Code} {G : Gv} (hC : Cx p s m args meth c cX6_north 5 (some .int) RX6) {fu : Nat} {r : Int32} {M' : Mm} : ∀ (n : Nat) {x3 : Int32} {M : Mm} {H : Heap} {locs : List Loc} {ls : Array Slot}, F_X6_north_54 fu n M x3 = some (r, M') → St G s H locs M → lv_has ls 5 [(0, .ref (ad G 0)), (3, .int x3)] → W p l e rm_X6_north s m args below meth c H locs 0 0 (MQ below (QI G r M') args s 0 0 (zA G)) (F0 m 54 ls []) := by
  intro n
  induction n with
  | zero =>
    intro x3 M H locs ls hF hw hl
    cases hF
  | succ n ih =>
    intro x3 M H locs ls hF hw hl
    unfold F_X6_north_54 at hF
    refine lv_iload_n hC.1 hC.2.1 dX6_north_54 rfl (lv_at hl 1 rfl) ?_
    refine lv_iconst (v := (3 : Int32)) hC.1 hC.2.1 dX6_north_55 (by decide) ?_
    refine lv_icmp_ge (tgt := 83) hC.1 hC.2.1 dX6_north_56 (by decide) (fun b1 => ?_) (fun b1 => ?_)
    · have hF := ifP hF b1
      refine lv_aload_n hC.1 hC.2.1 dX6_north_83 rfl (lv_at hl 0 rfl) ?_
      refine g6_north hC hw q1_195 dX6_north_84 ?_
      refine g2_men hC hw (rfl : kd 24 = 11) q1_29 dX6_north_87 ?_
      exact r_iretE hC hw hF dX6_north_90
    · have hF := ifN hF b1
      refine lv_aload_n hC.1 hC.2.1 dX6_north_59 rfl (lv_at hl 0 rfl) ?_
      refine lv_iload_n hC.1 hC.2.1 dX6_north_60 rfl (lv_at hl 1 rfl) ?_
      obtain ⟨r3, h2, hF⟩ := ob1S hF
      refine k_Vq (As := [.int x3]) (rest := []) hC hw (c_X6_keptOf (M := M) h2) RC_S yv_X6_keptOf q2_131 ⟨rfl, rfl⟩ ⟨Nat.le_of_ble_eq_true rfl, Nat.le_of_ble_eq_true rfl⟩ ⟨Nat.zero_le _, Nat.zero_le _⟩ rfl rfl (Nat.le_of_ble_eq_true rfl) hl dX6_north_61 (fun H locs hw => ?_)
      cases r3 with
      | none =>
        have hF := op1N hF
        refine topN ?_
        refine lv_astoreN (lv' := [(4, .null), (0, .ref (ad G 0)), (3, .int x3)]) hC.1 hC.2.1 dX6_north_64 hl (by decide) rfl (fun ls hl => ?_)
        refine lv_aloadN hC.1 hC.2.1 dX6_north_66 (lv_at hl 0 rfl) ?_
        refine lv_ifnullN (tgt := 77) hC.1 hC.2.1 dX6_north_68 (by decide) ?_
        refine lv_iinc (v := (x3 + (1 : Int32))) (lv' := [(3, .int (x3 + (1 : Int32))), (4, .null), (0, .ref (ad G 0))]) hC.1 hC.2.1 dX6_north_77 hl (k := 2) rfl rfl (by decide) rfl (fun ls hl => ?_)
        refine lv_goto (tgt := 54) hC.1 hC.2.1 dX6_north_80 (by decide) ?_
        exact ih hF hw (lv_sub hl [2, 0] rfl)
      | some c4 =>
        obtain ⟨g5, hF⟩ := ifO (op1C hF)
        have g5 := Decidable.not_not.mp g5
        refine topC ?_
        refine lv_astore (lv' := [(4, .ref (ad G c4)), (0, .ref (ad G 0)), (3, .int x3)]) hC.1 hC.2.1 dX6_north_64 hl (by decide) rfl (fun ls hl => ?_)
        refine lv_aload hC.1 hC.2.1 dX6_north_66 (lv_at hl 0 rfl) ?_
        refine lv_ifnull hC.1 hC.2.1 dX6_north_68 ?_
        refine lv_aload hC.1 hC.2.1 dX6_north_71 (lv_at hl 0 rfl) ?_
        refine lv_iconst (v := (0 : Int32)) hC.1 hC.2.1 dX6_north_73 (by decide) ?_
        refine u2_men hC hw g5 q1_29 dX6_north_74 (fun H locs hw => ?_)
        obtain ⟨M6, hw, hF⟩ := lt1W hF hw
        refine lv_iinc (v := (x3 + (1 : Int32))) (lv' := [(3, .int (x3 + (1 : Int32))), (4, .ref (ad G c4)), (0, .ref (ad G 0))]) hC.1 hC.2.1 dX6_north_77 hl (k := 2) rfl rfl (by decide) rfl (fun ls hl => ?_)
        refine lv_goto (tgt := 54) hC.1 hC.2.1 dX6_north_80 (by decide) ?_
        exact ih hF hw (lv_sub hl [2, 0] rfl)
def F_X6_north (fu : Nat) (M : Mm) (x1 : Int32) : Option (Int32 × Mm) :=
  ob1 (F_X6_textOf fu M x1) (fun r2 =>
  op1 r2 (
    some ((-1 : Int32), M)) (fun c3 =>
    if ¬ kd c3 = 13 then none else (
    if (M.1 c3 0) = 0 then
      ob2 (F_X6_found fu M (1 : Int32)) (fun r13 M14 =>
      some (r13, M14))
    else
      ob2 (F_X3_faultIn fu M c3) (fun r7 M8 =>
      if r7 = (-9 : Int32) then
        ob1 (F_X2_settle fu M8 24) (fun M11 =>
        F_X6_north_54 fu fu M11 (0 : Int32))
      else
        some ((-4 : Int32), M8)))))
set_option maxRecDepth 100000 in
set_option maxHeartbeats 4000000 in
theorem c_X6_north {l : Launch} {G : Gv} {fu : Nat} {M : Mm} {x1 : Int32} {r : Int32} {M' : Mm} (hF : F_X6_north fu M x1 = some (r, M')) : Met l yX6_north (.code yX6_north cX6_north 5 (some .int) :: zU) rm_X6_north (va_Pc [.ref (ad G 0), .int x1] (Wd G M)) (QI G r M') 0 0 (zA G) := by
  refine zMet (by decide) rfl (Nat.le_of_ble_eq_true rfl) ?_
  intro p e s m below meth c hC hw ls hl
  have hl : lv_has ls 5 [(0, .ref (ad G 0)), (1, .int x1)] := hl
  unfold F_X6_north at hF
  refine lv_aload_n hC.1 hC.2.1 dX6_north_0 rfl (lv_at hl 0 rfl) ?_
  refine lv_iload_n hC.1 hC.2.1 dX6_north_1 rfl (lv_at hl 1 rfl) ?_
  obtain ⟨r2, h1, hF⟩ := ob1S hF
  refine k_Vq (As := [.int x1]) (rest := []) hC hw (c_X6_textOf (M := M) h1) RC_S yv_X6_textOf q3_125 ⟨rfl, rfl⟩ ⟨Nat.le_of_ble_eq_true rfl, Nat.le_of_ble_eq_true rfl⟩ ⟨Nat.zero_le _, Nat.zero_le _⟩ rfl rfl (Nat.le_of_ble_eq_true rfl) hl dX6_north_2 (fun H locs hw => ?_)
  cases r2 with
  | none =>
    have hF := op1N hF
    refine topN ?_
    refine lv_astore_nN (lv' := [(2, .null), (0, .ref (ad G 0)), (1, .int x1)]) hC.1 hC.2.1 dX6_north_5 rfl hl (by decide) rfl (fun ls hl => ?_)
    refine lv_aload_nN hC.1 hC.2.1 dX6_north_6 rfl (lv_at hl 0 rfl) ?_
    refine lv_ifnonnullN hC.1 hC.2.1 dX6_north_7 ?_
    refine lv_iconst (v := (-1 : Int32)) hC.1 hC.2.1 dX6_north_10 (by decide) ?_
    exact r_iretE hC hw hF dX6_north_11
  | some c3 =>
    obtain ⟨g4, hF⟩ := ifO (op1C hF)
    have g4 := Decidable.not_not.mp g4
    refine topC ?_
    refine lv_astore_n (lv' := [(2, .ref (ad G c3)), (0, .ref (ad G 0)), (1, .int x1)]) hC.1 hC.2.1 dX6_north_5 rfl hl (by decide) rfl (fun ls hl => ?_)
    refine lv_aload_n hC.1 hC.2.1 dX6_north_6 rfl (lv_at hl 0 rfl) ?_
    refine lv_ifnonnull (tgt := 12) hC.1 hC.2.1 dX6_north_7 (by decide) ?_
    refine lv_aload_n hC.1 hC.2.1 dX6_north_12 rfl (lv_at hl 0 rfl) ?_
    refine g5_there hC hw g4 q1_180 dX6_north_13 ?_
    refine lv_if_ne (tgt := 25) hC.1 hC.2.1 dX6_north_16 (by decide) (fun b5 => ?_) (fun b5 => ?_)
    · have hF := ifN hF b5
      refine lv_aload_n hC.1 hC.2.1 dX6_north_25 rfl (lv_at hl 1 rfl) ?_
      refine g6_reading hC hw q1_197 dX6_north_26 ?_
      refine lv_aload_n hC.1 hC.2.1 dX6_north_29 rfl (lv_at hl 0 rfl) ?_
      obtain ⟨r7, M8, h6, hF⟩ := ob2S hF
      refine k_Vi (As := [.ref (ad G c3)]) (rest := []) hC hw (c_X3_faultIn (M := M) g4 h6) RC_D yv_X3_faultIn q3_177 ⟨rfl, rfl⟩ ⟨Nat.le_of_ble_eq_true rfl, Nat.le_of_ble_eq_true rfl⟩ ⟨Nat.zero_le _, Nat.zero_le _⟩ rfl rfl (Nat.le_of_ble_eq_true rfl) hl dX6_north_30 (fun H locs hw => ?_)
      refine lv_bipush (v := (-9 : Int32)) hC.1 hC.2.1 dX6_north_33 (by decide) ?_
      refine lv_icmp_eq (tgt := 41) hC.1 hC.2.1 dX6_north_35 (by decide) (fun b9 => ?_) (fun b9 => ?_)
      · have hF := ifP hF b9
        refine lv_aload_n hC.1 hC.2.1 dX6_north_41 rfl (lv_at hl 1 rfl) ?_
        refine g6_north hC hw q1_195 dX6_north_42 ?_
        refine lv_aload_n hC.1 hC.2.1 dX6_north_45 rfl (lv_at hl 1 rfl) ?_
        refine g6_reading hC hw q1_197 dX6_north_46 ?_
        obtain ⟨M11, h10, hF⟩ := ob1S hF
        refine k_Vv (As := [.ref (ad G 68)]) (rest := []) hC hw (c_X2_settle (M := M8) (rfl : kd 24 = 11) h10) (RC_N (rfl : kd 24 = 11)) yv_X2_settle q3_207 ⟨rfl, rfl⟩ ⟨Nat.le_of_ble_eq_true rfl, Nat.le_of_ble_eq_true rfl⟩ ⟨Nat.zero_le _, Nat.zero_le _⟩ rfl rfl (Nat.le_of_ble_eq_true rfl) hl dX6_north_49 (fun H locs hw => ?_)
        refine lv_iconst (v := (0 : Int32)) hC.1 hC.2.1 dX6_north_52 (by decide) ?_
        refine lv_istore_n (lv' := [(3, .int (0 : Int32)), (2, .ref (ad G c3)), (0, .ref (ad G 0)), (1, .int x1)]) hC.1 hC.2.1 dX6_north_53 rfl hl (by decide) rfl (fun ls hl => ?_)
        exact w_X6_north_54 hC _ hF hw (lv_sub hl [2, 0] rfl)
      · have hF := ifN hF b9
        refine lv_bipush (v := (-4 : Int32)) hC.1 hC.2.1 dX6_north_38 (by decide) ?_
        exact r_iretE hC hw hF dX6_north_40
    · have hF := ifP hF b5
      refine lv_aload_n hC.1 hC.2.1 dX6_north_19 rfl (lv_at hl 1 rfl) ?_
      refine lv_iconst (v := (1 : Int32)) hC.1 hC.2.1 dX6_north_20 (by decide) ?_
      obtain ⟨r13, M14, h12, hF⟩ := ob2S hF
      refine k_Vi (As := [.int (1 : Int32)]) (rest := []) hC hw (c_X6_found (M := M) h12) RC_S yv_X6_found q2_13 ⟨rfl, rfl⟩ ⟨Nat.le_of_ble_eq_true rfl, Nat.le_of_ble_eq_true rfl⟩ ⟨Nat.zero_le _, Nat.zero_le _⟩ rfl rfl (Nat.le_of_ble_eq_true rfl) hl dX6_north_21 (fun H locs hw => ?_)
      exact r_iretE hC hw hF dX6_north_24
abbrev rm_X6_man : Room := { frames := 5, cells := 0, slots := 0, locals := 112 }
theorem yv_X6_man : YV yX6_man cX6_man 3 (some .int) 2 RX6 := ⟨⟨q2_28, q2_29, q1_1, q2_30⟩, by decide +kernel⟩
theorem dX6_man_0 : decode cX6_man 0 = .ok (.aload_n 0, 1) := by decide +kernel
theorem dX6_man_1 : decode cX6_man 1 = .ok (.getfield 24, 3) := by decide +kernel
theorem dX6_man_4 : decode cX6_man 4 = .ok (.iload_n 1, 1) := by decide +kernel
theorem dX6_man_5 : decode cX6_man 5 = .ok (.invokevirtual 155, 3) := by decide +kernel
theorem dX6_man_8 : decode cX6_man 8 = .ok (.ifCond .eq 13, 3) := by decide +kernel
theorem dX6_man_11 : decode cX6_man 11 = .ok (.iload_n 2, 1) := by decide +kernel
theorem dX6_man_12 : decode cX6_man 12 = .ok (.ifCond .lt 9, 3) := by decide +kernel
theorem dX6_man_15 : decode cX6_man 15 = .ok (.iload_n 2, 1) := by decide +kernel
theorem dX6_man_16 : decode cX6_man 16 = .ok (.bipush 6, 2) := by decide +kernel
theorem dX6_man_18 : decode cX6_man 18 = .ok (.if_icmp .lt 5, 3) := by decide +kernel
theorem dX6_man_21 : decode cX6_man 21 = .ok (.iconst (-1), 1) := by decide +kernel
theorem dX6_man_22 : decode cX6_man 22 = .ok (.ireturn, 1) := by decide +kernel
theorem dX6_man_23 : decode cX6_man 23 = .ok (.aload_n 0, 1) := by decide +kernel
theorem dX6_man_24 : decode cX6_man 24 = .ok (.aload_n 0, 1) := by decide +kernel
theorem dX6_man_25 : decode cX6_man 25 = .ok (.getfield 24, 3) := by decide +kernel
theorem dX6_man_28 : decode cX6_man 28 = .ok (.iload_n 1, 1) := by decide +kernel
theorem dX6_man_29 : decode cX6_man 29 = .ok (.iload_n 2, 1) := by decide +kernel
theorem dX6_man_30 : decode cX6_man 30 = .ok (.invokevirtual 159, 3) := by decide +kernel
theorem dX6_man_33 : decode cX6_man 33 = .ok (.invokevirtual 109, 3) := by decide +kernel
theorem dX6_man_36 : decode cX6_man 36 = .ok (.ireturn, 1) := by decide +kernel
def F_X6_man (fu : Nat) (M : Mm) (x1 : Int32) (x2 : Int32) : Option (Int32 × Mm) :=
  ob1 (F_X2_isMan fu M 24 x1) (fun r2 =>
  if r2 = 0 then
    some ((-1 : Int32), M)
  else
    if x2 < 0 then
      some ((-1 : Int32), M)
    else
      if x2 < (6 : Int32) then
        ob1 (F_X2_tellsOf fu M 24 x1 x2) (fun r7 =>
        ob2 (F_X6_tell fu M r7) (fun r9 M10 =>
        some (r9, M10)))
      else
        some ((-1 : Int32), M))
set_option maxRecDepth 100000 in
set_option maxHeartbeats 4000000 in
theorem c_X6_man {l : Launch} {G : Gv} {fu : Nat} {M : Mm} {x1 : Int32} {x2 : Int32} {r : Int32} {M' : Mm} (hF : F_X6_man fu M x1 x2 = some (r, M')) : Met l yX6_man (.code yX6_man cX6_man 3 (some .int) :: zU) rm_X6_man (va_Pc [.ref (ad G 0), .int x1, .int x2] (Wd G M)) (QI G r M') 0 0 (zA G) := by
  refine zMet (by decide) rfl (Nat.le_of_ble_eq_true rfl) ?_
  intro p e s m below meth c hC hw ls hl
  have hl : lv_has ls 3 [(0, .ref (ad G 0)), (1, .int x1), (2, .int x2)] := hl
  unfold F_X6_man at hF
  refine lv_aload_n hC.1 hC.2.1 dX6_man_0 rfl (lv_at hl 0 rfl) ?_
  refine g6_north hC hw q1_195 dX6_man_1 ?_
  refine lv_iload_n hC.1 hC.2.1 dX6_man_4 rfl (lv_at hl 1 rfl) ?_
  obtain ⟨r2, h1, hF⟩ := ob1S hF
  refine k_Vi (As := [.int x1]) (rest := []) hC hw (c_X2_isMan (M := M) (rfl : kd 24 = 11) h1) (RC_N (rfl : kd 24 = 11)) yv_X2_isMan q2_31 ⟨rfl, rfl⟩ ⟨Nat.le_of_ble_eq_true rfl, Nat.le_of_ble_eq_true rfl⟩ ⟨Nat.zero_le _, Nat.zero_le _⟩ rfl rfl (Nat.le_of_ble_eq_true rfl) hl dX6_man_5 (fun H locs hw => ?_)
  refine lv_if_eq (tgt := 21) hC.1 hC.2.1 dX6_man_8 (by decide) (fun b3 => ?_) (fun b3 => ?_)
  · have hF := ifP hF b3
    refine lv_iconst (v := (-1 : Int32)) hC.1 hC.2.1 dX6_man_21 (by decide) ?_
    exact r_iretE hC hw hF dX6_man_22
  · have hF := ifN hF b3
    refine lv_iload_n hC.1 hC.2.1 dX6_man_11 rfl (lv_at hl 2 rfl) ?_
    refine lv_if_lt (tgt := 21) hC.1 hC.2.1 dX6_man_12 (by decide) (fun b4 => ?_) (fun b4 => ?_)
    · have hF := ifP hF b4
      refine lv_iconst (v := (-1 : Int32)) hC.1 hC.2.1 dX6_man_21 (by decide) ?_
      exact r_iretE hC hw hF dX6_man_22
    · have hF := ifN hF b4
      refine lv_iload_n hC.1 hC.2.1 dX6_man_15 rfl (lv_at hl 2 rfl) ?_
      refine lv_bipush (v := (6 : Int32)) hC.1 hC.2.1 dX6_man_16 (by decide) ?_
      refine lv_icmp_lt (tgt := 23) hC.1 hC.2.1 dX6_man_18 (by decide) (fun b5 => ?_) (fun b5 => ?_)
      · have hF := ifP hF b5
        refine lv_aload_n hC.1 hC.2.1 dX6_man_23 rfl (lv_at hl 0 rfl) ?_
        refine lv_aload_n hC.1 hC.2.1 dX6_man_24 rfl (lv_at hl 0 rfl) ?_
        refine g6_north hC hw q1_195 dX6_man_25 ?_
        refine lv_iload_n hC.1 hC.2.1 dX6_man_28 rfl (lv_at hl 1 rfl) ?_
        refine lv_iload_n hC.1 hC.2.1 dX6_man_29 rfl (lv_at hl 2 rfl) ?_
        obtain ⟨r7, h6, hF⟩ := ob1S hF
        refine k_Vi (As := [.int x1, .int x2]) (rest := [.ref (ad G 0)]) hC hw (c_X2_tellsOf (M := M) (rfl : kd 24 = 11) h6) (RC_N (rfl : kd 24 = 11)) yv_X2_tellsOf q2_35 ⟨rfl, rfl⟩ ⟨Nat.le_of_ble_eq_true rfl, Nat.le_of_ble_eq_true rfl⟩ ⟨Nat.zero_le _, Nat.zero_le _⟩ rfl rfl (Nat.le_of_ble_eq_true rfl) hl dX6_man_30 (fun H locs hw => ?_)
        obtain ⟨r9, M10, h8, hF⟩ := ob2S hF
        refine k_Vi (As := [.int r7]) (rest := []) hC hw (c_X6_tell (M := M) h8) RC_S yv_X6_tell q2_23 ⟨rfl, rfl⟩ ⟨Nat.le_of_ble_eq_true rfl, Nat.le_of_ble_eq_true rfl⟩ ⟨Nat.zero_le _, Nat.zero_le _⟩ rfl rfl (Nat.le_of_ble_eq_true rfl) hl dX6_man_33 (fun H locs hw => ?_)
        exact r_iretE hC hw hF dX6_man_36
      · have hF := ifN hF b5
        refine lv_iconst (v := (-1 : Int32)) hC.1 hC.2.1 dX6_man_21 (by decide) ?_
        exact r_iretE hC hw hF dX6_man_22
abbrev rm_X6_day : Room := { frames := 6, cells := 0, slots := 0, locals := 143 }
theorem yv_X6_day : YV yX6_day cX6_day 1 (some .int) 0 RX6 := ⟨⟨q2_64, q2_65, q1_1, q2_66⟩, by decide +kernel⟩
theorem dX6_day_0 : decode cX6_day 0 = .ok (.aload_n 0, 1) := by decide +kernel
theorem dX6_day_1 : decode cX6_day 1 = .ok (.getfield 24, 3) := by decide +kernel
theorem dX6_day_4 : decode cX6_day 4 = .ok (.getfield 152, 3) := by decide +kernel
theorem dX6_day_7 : decode cX6_day 7 = .ok (.ifCond .ne 6, 3) := by decide +kernel
theorem dX6_day_10 : decode cX6_day 10 = .ok (.bipush (-4), 2) := by decide +kernel
theorem dX6_day_12 : decode cX6_day 12 = .ok (.ireturn, 1) := by decide +kernel
theorem dX6_day_13 : decode cX6_day 13 = .ok (.aload_n 0, 1) := by decide +kernel
theorem dX6_day_14 : decode cX6_day 14 = .ok (.getfield 24, 3) := by decide +kernel
theorem dX6_day_17 : decode cX6_day 17 = .ok (.getfield 198, 3) := by decide +kernel
theorem dX6_day_20 : decode cX6_day 20 = .ok (.bipush 60, 2) := by decide +kernel
theorem dX6_day_22 : decode cX6_day 22 = .ok (.if_icmp .lt 6, 3) := by decide +kernel
theorem dX6_day_25 : decode cX6_day 25 = .ok (.bipush (-2), 2) := by decide +kernel
theorem dX6_day_27 : decode cX6_day 27 = .ok (.ireturn, 1) := by decide +kernel
theorem dX6_day_28 : decode cX6_day 28 = .ok (.aload_n 0, 1) := by decide +kernel
theorem dX6_day_29 : decode cX6_day 29 = .ok (.getfield 24, 3) := by decide +kernel
theorem dX6_day_32 : decode cX6_day 32 = .ok (.iconst 0, 1) := by decide +kernel
theorem dX6_day_33 : decode cX6_day 33 = .ok (.iconst 0, 1) := by decide +kernel
theorem dX6_day_34 : decode cX6_day 34 = .ok (.iconst 0, 1) := by decide +kernel
theorem dX6_day_35 : decode cX6_day 35 = .ok (.invokevirtual 201, 3) := by decide +kernel
theorem dX6_day_38 : decode cX6_day 38 = .ok (.aload_n 0, 1) := by decide +kernel
theorem dX6_day_39 : decode cX6_day 39 = .ok (.getfield 24, 3) := by decide +kernel
theorem dX6_day_42 : decode cX6_day 42 = .ok (.invokevirtual 205, 3) := by decide +kernel
theorem dX6_day_45 : decode cX6_day 45 = .ok (.invokestatic 209, 3) := by decide +kernel
theorem dX6_day_48 : decode cX6_day 48 = .ok (.ireturn, 1) := by decide +kernel
def F_X6_day (fu : Nat) (M : Mm) : Option (Int32 × Mm) :=
  if (M.1 24 0) = 0 then
    some ((-4 : Int32), M)
  else
    if (M.1 24 3) < (60 : Int32) then
      ob1 (F_X2_act fu M 24 (0 : Int32) (0 : Int32) (0 : Int32)) (fun M4 =>
      ob1 (F_X2_living fu M4 24) (fun r6 =>
      ob1 (F_J6_bitCount_0f7a4 fu M4 r6) (fun r8 =>
      some (r8, M4))))
    else
      some ((-2 : Int32), M)
set_option maxRecDepth 100000 in
set_option maxHeartbeats 4000000 in
theorem c_X6_day {l : Launch} {G : Gv} {fu : Nat} {M : Mm} {r : Int32} {M' : Mm} (hF : F_X6_day fu M = some (r, M')) : Met l yX6_day (.code yX6_day cX6_day 1 (some .int) :: zU) rm_X6_day (va_Pc [.ref (ad G 0)] (Wd G M)) (QI G r M') 0 0 (zA G) := by
  refine zMet (by decide) rfl (Nat.le_of_ble_eq_true rfl) ?_
  intro p e s m below meth c hC hw ls hl
  have hl : lv_has ls 1 [(0, .ref (ad G 0))] := hl
  unfold F_X6_day at hF
  refine lv_aload_n hC.1 hC.2.1 dX6_day_0 rfl (lv_at hl 0 rfl) ?_
  refine g6_north hC hw q1_195 dX6_day_1 ?_
  refine g2_men hC hw (rfl : kd 24 = 11) q1_29 dX6_day_4 ?_
  refine lv_if_ne (tgt := 13) hC.1 hC.2.1 dX6_day_7 (by decide) (fun b1 => ?_) (fun b1 => ?_)
  · have hF := ifN hF b1
    refine lv_aload_n hC.1 hC.2.1 dX6_day_13 rfl (lv_at hl 0 rfl) ?_
    refine g6_north hC hw q1_195 dX6_day_14 ?_
    refine g2_deeds hC hw (rfl : kd 24 = 11) q1_35 dX6_day_17 ?_
    refine lv_bipush (v := (60 : Int32)) hC.1 hC.2.1 dX6_day_20 (by decide) ?_
    refine lv_icmp_lt (tgt := 28) hC.1 hC.2.1 dX6_day_22 (by decide) (fun b2 => ?_) (fun b2 => ?_)
    · have hF := ifP hF b2
      refine lv_aload_n hC.1 hC.2.1 dX6_day_28 rfl (lv_at hl 0 rfl) ?_
      refine g6_north hC hw q1_195 dX6_day_29 ?_
      refine lv_iconst (v := (0 : Int32)) hC.1 hC.2.1 dX6_day_32 (by decide) ?_
      refine lv_iconst (v := (0 : Int32)) hC.1 hC.2.1 dX6_day_33 (by decide) ?_
      refine lv_iconst (v := (0 : Int32)) hC.1 hC.2.1 dX6_day_34 (by decide) ?_
      obtain ⟨M4, h3, hF⟩ := ob1S hF
      refine k_Vv (As := [.int (0 : Int32), .int (0 : Int32), .int (0 : Int32)]) (rest := []) hC hw (c_X2_act (M := M) (rfl : kd 24 = 11) h3) (RC_N (rfl : kd 24 = 11)) yv_X2_act q2_67 ⟨rfl, rfl⟩ ⟨Nat.le_of_ble_eq_true rfl, Nat.le_of_ble_eq_true rfl⟩ ⟨Nat.zero_le _, Nat.zero_le _⟩ rfl rfl (Nat.le_of_ble_eq_true rfl) hl dX6_day_35 (fun H locs hw => ?_)
      refine lv_aload_n hC.1 hC.2.1 dX6_day_38 rfl (lv_at hl 0 rfl) ?_
      refine g6_north hC hw q1_195 dX6_day_39 ?_
      obtain ⟨r6, h5, hF⟩ := ob1S hF
      refine k_Vi (As := []) (rest := []) hC hw (c_X2_living (M := M4) (rfl : kd 24 = 11) h5) (RC_N (rfl : kd 24 = 11)) yv_X2_living q2_94 ⟨rfl, rfl⟩ ⟨Nat.le_of_ble_eq_true rfl, Nat.le_of_ble_eq_true rfl⟩ ⟨Nat.zero_le _, Nat.zero_le _⟩ rfl rfl (Nat.le_of_ble_eq_true rfl) hl dX6_day_42 (fun H locs hw => ?_)
      obtain ⟨r8, h7, hF⟩ := ob1S hF
      refine k_Si (As := [.int r6]) (rest := []) hC hw (c_J6_bitCount_0f7a4 (M := M4) h7) ys_J6_bitCount_0f7a4 q2_98 ⟨rfl, rfl⟩ ⟨Nat.le_of_ble_eq_true rfl, Nat.le_of_ble_eq_true rfl⟩ ⟨Nat.zero_le _, Nat.zero_le _⟩ rfl rfl (Nat.le_of_ble_eq_true rfl) hl dX6_day_45 (fun H locs hw => ?_)
      exact r_iretE hC hw hF dX6_day_48
    · have hF := ifN hF b2
      refine lv_bipush (v := (-2 : Int32)) hC.1 hC.2.1 dX6_day_25 (by decide) ?_
      exact r_iretE hC hw hF dX6_day_27
  · have hF := ifP hF b1
    refine lv_bipush (v := (-4 : Int32)) hC.1 hC.2.1 dX6_day_10 (by decide) ?_
    exact r_iretE hC hw hF dX6_day_12
abbrev rm_X6_shade : Room := { frames := 6, cells := 0, slots := 0, locals := 143 }
theorem yv_X6_shade : YV yX6_shade cX6_shade 4 (some .int) 2 RX6 := ⟨⟨q2_105, q2_106, q1_1, q2_107⟩, by decide +kernel⟩
theorem dX6_shade_0 : decode cX6_shade 0 = .ok (.aload_n 0, 1) := by decide +kernel
theorem dX6_shade_1 : decode cX6_shade 1 = .ok (.getfield 24, 3) := by decide +kernel
theorem dX6_shade_4 : decode cX6_shade 4 = .ok (.iload_n 1, 1) := by decide +kernel
theorem dX6_shade_5 : decode cX6_shade 5 = .ok (.invokevirtual 155, 3) := by decide +kernel
theorem dX6_shade_8 : decode cX6_shade 8 = .ok (.ifCond .eq 13, 3) := by decide +kernel
theorem dX6_shade_11 : decode cX6_shade 11 = .ok (.iload_n 2, 1) := by decide +kernel
theorem dX6_shade_12 : decode cX6_shade 12 = .ok (.ifCond .lt 9, 3) := by decide +kernel
theorem dX6_shade_15 : decode cX6_shade 15 = .ok (.iload_n 2, 1) := by decide +kernel
theorem dX6_shade_16 : decode cX6_shade 16 = .ok (.bipush 9, 2) := by decide +kernel
theorem dX6_shade_18 : decode cX6_shade 18 = .ok (.if_icmp .le 5, 3) := by decide +kernel
theorem dX6_shade_21 : decode cX6_shade 21 = .ok (.iconst (-1), 1) := by decide +kernel
theorem dX6_shade_22 : decode cX6_shade 22 = .ok (.ireturn, 1) := by decide +kernel
theorem dX6_shade_23 : decode cX6_shade 23 = .ok (.aload_n 0, 1) := by decide +kernel
theorem dX6_shade_24 : decode cX6_shade 24 = .ok (.getfield 24, 3) := by decide +kernel
theorem dX6_shade_27 : decode cX6_shade 27 = .ok (.getfield 198, 3) := by decide +kernel
theorem dX6_shade_30 : decode cX6_shade 30 = .ok (.bipush 60, 2) := by decide +kernel
theorem dX6_shade_32 : decode cX6_shade 32 = .ok (.if_icmp .lt 6, 3) := by decide +kernel
theorem dX6_shade_35 : decode cX6_shade 35 = .ok (.bipush (-2), 2) := by decide +kernel
theorem dX6_shade_37 : decode cX6_shade 37 = .ok (.ireturn, 1) := by decide +kernel
theorem dX6_shade_38 : decode cX6_shade 38 = .ok (.aload_n 0, 1) := by decide +kernel
theorem dX6_shade_39 : decode cX6_shade 39 = .ok (.getfield 24, 3) := by decide +kernel
theorem dX6_shade_42 : decode cX6_shade 42 = .ok (.getfield 214, 3) := by decide +kernel
theorem dX6_shade_45 : decode cX6_shade 45 = .ok (.iload_n 1, 1) := by decide +kernel
theorem dX6_shade_46 : decode cX6_shade 46 = .ok (.invokestatic 101, 3) := by decide +kernel
theorem dX6_shade_49 : decode cX6_shade 49 = .ok (.istore_n 3, 1) := by decide +kernel
theorem dX6_shade_50 : decode cX6_shade 50 = .ok (.aload_n 0, 1) := by decide +kernel
theorem dX6_shade_51 : decode cX6_shade 51 = .ok (.getfield 24, 3) := by decide +kernel
theorem dX6_shade_54 : decode cX6_shade 54 = .ok (.iconst 2, 1) := by decide +kernel
theorem dX6_shade_55 : decode cX6_shade 55 = .ok (.iload_n 1, 1) := by decide +kernel
theorem dX6_shade_56 : decode cX6_shade 56 = .ok (.iload_n 2, 1) := by decide +kernel
theorem dX6_shade_57 : decode cX6_shade 57 = .ok (.invokevirtual 201, 3) := by decide +kernel
theorem dX6_shade_60 : decode cX6_shade 60 = .ok (.iload_n 3, 1) := by decide +kernel
theorem dX6_shade_61 : decode cX6_shade 61 = .ok (.ireturn, 1) := by decide +kernel
def F_X6_shade (fu : Nat) (M : Mm) (x1 : Int32) (x2 : Int32) : Option (Int32 × Mm) :=
  ob1 (F_X2_isMan fu M 24 x1) (fun r2 =>
  if r2 = 0 then
    some ((-1 : Int32), M)
  else
    if x2 < 0 then
      some ((-1 : Int32), M)
    else
      if x2 ≤ (9 : Int32) then
        if (M.1 24 3) < (60 : Int32) then
          ob1 (F_X6_read fu M 29 x1) (fun r8 =>
          ob1 (F_X2_act fu M 24 (2 : Int32) x1 x2) (fun M10 =>
          some (r8, M10)))
        else
          some ((-2 : Int32), M)
      else
        some ((-1 : Int32), M))
set_option maxRecDepth 100000 in
set_option maxHeartbeats 4000000 in
theorem c_X6_shade {l : Launch} {G : Gv} {fu : Nat} {M : Mm} {x1 : Int32} {x2 : Int32} {r : Int32} {M' : Mm} (hF : F_X6_shade fu M x1 x2 = some (r, M')) : Met l yX6_shade (.code yX6_shade cX6_shade 4 (some .int) :: zU) rm_X6_shade (va_Pc [.ref (ad G 0), .int x1, .int x2] (Wd G M)) (QI G r M') 0 0 (zA G) := by
  refine zMet (by decide) rfl (Nat.le_of_ble_eq_true rfl) ?_
  intro p e s m below meth c hC hw ls hl
  have hl : lv_has ls 4 [(0, .ref (ad G 0)), (1, .int x1), (2, .int x2)] := hl
  unfold F_X6_shade at hF
  refine lv_aload_n hC.1 hC.2.1 dX6_shade_0 rfl (lv_at hl 0 rfl) ?_
  refine g6_north hC hw q1_195 dX6_shade_1 ?_
  refine lv_iload_n hC.1 hC.2.1 dX6_shade_4 rfl (lv_at hl 1 rfl) ?_
  obtain ⟨r2, h1, hF⟩ := ob1S hF
  refine k_Vi (As := [.int x1]) (rest := []) hC hw (c_X2_isMan (M := M) (rfl : kd 24 = 11) h1) (RC_N (rfl : kd 24 = 11)) yv_X2_isMan q2_31 ⟨rfl, rfl⟩ ⟨Nat.le_of_ble_eq_true rfl, Nat.le_of_ble_eq_true rfl⟩ ⟨Nat.zero_le _, Nat.zero_le _⟩ rfl rfl (Nat.le_of_ble_eq_true rfl) hl dX6_shade_5 (fun H locs hw => ?_)
  refine lv_if_eq (tgt := 21) hC.1 hC.2.1 dX6_shade_8 (by decide) (fun b3 => ?_) (fun b3 => ?_)
  · have hF := ifP hF b3
    refine lv_iconst (v := (-1 : Int32)) hC.1 hC.2.1 dX6_shade_21 (by decide) ?_
    exact r_iretE hC hw hF dX6_shade_22
  · have hF := ifN hF b3
    refine lv_iload_n hC.1 hC.2.1 dX6_shade_11 rfl (lv_at hl 2 rfl) ?_
    refine lv_if_lt (tgt := 21) hC.1 hC.2.1 dX6_shade_12 (by decide) (fun b4 => ?_) (fun b4 => ?_)
    · have hF := ifP hF b4
      refine lv_iconst (v := (-1 : Int32)) hC.1 hC.2.1 dX6_shade_21 (by decide) ?_
      exact r_iretE hC hw hF dX6_shade_22
    · have hF := ifN hF b4
      refine lv_iload_n hC.1 hC.2.1 dX6_shade_15 rfl (lv_at hl 2 rfl) ?_
      refine lv_bipush (v := (9 : Int32)) hC.1 hC.2.1 dX6_shade_16 (by decide) ?_
      refine lv_icmp_le (tgt := 23) hC.1 hC.2.1 dX6_shade_18 (by decide) (fun b5 => ?_) (fun b5 => ?_)
      · have hF := ifP hF b5
        refine lv_aload_n hC.1 hC.2.1 dX6_shade_23 rfl (lv_at hl 0 rfl) ?_
        refine g6_north hC hw q1_195 dX6_shade_24 ?_
        refine g2_deeds hC hw (rfl : kd 24 = 11) q1_35 dX6_shade_27 ?_
        refine lv_bipush (v := (60 : Int32)) hC.1 hC.2.1 dX6_shade_30 (by decide) ?_
        refine lv_icmp_lt (tgt := 38) hC.1 hC.2.1 dX6_shade_32 (by decide) (fun b6 => ?_) (fun b6 => ?_)
        · have hF := ifP hF b6
          refine lv_aload_n hC.1 hC.2.1 dX6_shade_38 rfl (lv_at hl 0 rfl) ?_
          refine g6_north hC hw q1_195 dX6_shade_39 ?_
          refine g2_shadeOf hC hw (rfl : kd 24 = 11) q1_44 dX6_shade_42 ?_
          refine lv_iload_n hC.1 hC.2.1 dX6_shade_45 rfl (lv_at hl 1 rfl) ?_
          obtain ⟨r8, h7, hF⟩ := ob1S hF
          refine k_Si (As := [.ref (ad G 29), .int x1]) (rest := []) hC hw (c_X6_read (M := M) (rfl : kd 29 = 1) h7) ys_X6_read q2_17 ⟨rfl, rfl⟩ ⟨Nat.le_of_ble_eq_true rfl, Nat.le_of_ble_eq_true rfl⟩ ⟨Nat.zero_le _, Nat.zero_le _⟩ rfl rfl (Nat.le_of_ble_eq_true rfl) hl dX6_shade_46 (fun H locs hw => ?_)
          refine lv_istore_n (lv' := [(3, .int r8), (0, .ref (ad G 0)), (1, .int x1), (2, .int x2)]) hC.1 hC.2.1 dX6_shade_49 rfl hl (by decide) rfl (fun ls hl => ?_)
          refine lv_aload_n hC.1 hC.2.1 dX6_shade_50 rfl (lv_at hl 1 rfl) ?_
          refine g6_north hC hw q1_195 dX6_shade_51 ?_
          refine lv_iconst (v := (2 : Int32)) hC.1 hC.2.1 dX6_shade_54 (by decide) ?_
          refine lv_iload_n hC.1 hC.2.1 dX6_shade_55 rfl (lv_at hl 2 rfl) ?_
          refine lv_iload_n hC.1 hC.2.1 dX6_shade_56 rfl (lv_at hl 3 rfl) ?_
          obtain ⟨M10, h9, hF⟩ := ob1S hF
          refine k_Vv (As := [.int (2 : Int32), .int x1, .int x2]) (rest := []) hC hw (c_X2_act (M := M) (rfl : kd 24 = 11) h9) (RC_N (rfl : kd 24 = 11)) yv_X2_act q2_67 ⟨rfl, rfl⟩ ⟨Nat.le_of_ble_eq_true rfl, Nat.le_of_ble_eq_true rfl⟩ ⟨Nat.zero_le _, Nat.zero_le _⟩ rfl rfl (Nat.le_of_ble_eq_true rfl) hl dX6_shade_57 (fun H locs hw => ?_)
          refine lv_iload_n hC.1 hC.2.1 dX6_shade_60 rfl (lv_at hl 0 rfl) ?_
          exact r_iretE hC hw hF dX6_shade_61
        · have hF := ifN hF b6
          refine lv_bipush (v := (-2 : Int32)) hC.1 hC.2.1 dX6_shade_35 (by decide) ?_
          exact r_iretE hC hw hF dX6_shade_37
      · have hF := ifN hF b5
        refine lv_iconst (v := (-1 : Int32)) hC.1 hC.2.1 dX6_shade_21 (by decide) ?_
        exact r_iretE hC hw hF dX6_shade_22
abbrev rm_X6_snow : Room := { frames := 6, cells := 0, slots := 0, locals := 143 }
theorem yv_X6_snow : YV yX6_snow cX6_snow 3 (some .int) 2 RX6 := ⟨⟨q2_109, q2_110, q1_1, q2_111⟩, by decide +kernel⟩
theorem dX6_snow_0 : decode cX6_snow 0 = .ok (.aload_n 0, 1) := by decide +kernel
theorem dX6_snow_1 : decode cX6_snow 1 = .ok (.getfield 24, 3) := by decide +kernel
theorem dX6_snow_4 : decode cX6_snow 4 = .ok (.iload_n 1, 1) := by decide +kernel
theorem dX6_snow_5 : decode cX6_snow 5 = .ok (.invokevirtual 155, 3) := by decide +kernel
theorem dX6_snow_8 : decode cX6_snow 8 = .ok (.ifCond .eq 14, 3) := by decide +kernel
theorem dX6_snow_11 : decode cX6_snow 11 = .ok (.iload_n 2, 1) := by decide +kernel
theorem dX6_snow_12 : decode cX6_snow 12 = .ok (.iconst 1, 1) := by decide +kernel
theorem dX6_snow_13 : decode cX6_snow 13 = .ok (.if_icmp .lt 9, 3) := by decide +kernel
theorem dX6_snow_16 : decode cX6_snow 16 = .ok (.iload_n 2, 1) := by decide +kernel
theorem dX6_snow_17 : decode cX6_snow 17 = .ok (.bipush 9, 2) := by decide +kernel
theorem dX6_snow_19 : decode cX6_snow 19 = .ok (.if_icmp .le 5, 3) := by decide +kernel
theorem dX6_snow_22 : decode cX6_snow 22 = .ok (.iconst (-1), 1) := by decide +kernel
theorem dX6_snow_23 : decode cX6_snow 23 = .ok (.ireturn, 1) := by decide +kernel
theorem dX6_snow_24 : decode cX6_snow 24 = .ok (.aload_n 0, 1) := by decide +kernel
theorem dX6_snow_25 : decode cX6_snow 25 = .ok (.getfield 24, 3) := by decide +kernel
theorem dX6_snow_28 : decode cX6_snow 28 = .ok (.getfield 169, 3) := by decide +kernel
theorem dX6_snow_31 : decode cX6_snow 31 = .ok (.iload_n 1, 1) := by decide +kernel
theorem dX6_snow_32 : decode cX6_snow 32 = .ok (.invokestatic 101, 3) := by decide +kernel
theorem dX6_snow_35 : decode cX6_snow 35 = .ok (.ifCond .ne 6, 3) := by decide +kernel
theorem dX6_snow_38 : decode cX6_snow 38 = .ok (.bipush (-4), 2) := by decide +kernel
theorem dX6_snow_40 : decode cX6_snow 40 = .ok (.ireturn, 1) := by decide +kernel
theorem dX6_snow_41 : decode cX6_snow 41 = .ok (.aload_n 0, 1) := by decide +kernel
theorem dX6_snow_42 : decode cX6_snow 42 = .ok (.getfield 24, 3) := by decide +kernel
theorem dX6_snow_45 : decode cX6_snow 45 = .ok (.getfield 198, 3) := by decide +kernel
theorem dX6_snow_48 : decode cX6_snow 48 = .ok (.bipush 60, 2) := by decide +kernel
theorem dX6_snow_50 : decode cX6_snow 50 = .ok (.if_icmp .lt 6, 3) := by decide +kernel
theorem dX6_snow_53 : decode cX6_snow 53 = .ok (.bipush (-2), 2) := by decide +kernel
theorem dX6_snow_55 : decode cX6_snow 55 = .ok (.ireturn, 1) := by decide +kernel
theorem dX6_snow_56 : decode cX6_snow 56 = .ok (.aload_n 0, 1) := by decide +kernel
theorem dX6_snow_57 : decode cX6_snow 57 = .ok (.getfield 24, 3) := by decide +kernel
theorem dX6_snow_60 : decode cX6_snow 60 = .ok (.iconst 3, 1) := by decide +kernel
theorem dX6_snow_61 : decode cX6_snow 61 = .ok (.iload_n 1, 1) := by decide +kernel
theorem dX6_snow_62 : decode cX6_snow 62 = .ok (.iload_n 2, 1) := by decide +kernel
theorem dX6_snow_63 : decode cX6_snow 63 = .ok (.invokevirtual 201, 3) := by decide +kernel
theorem dX6_snow_66 : decode cX6_snow 66 = .ok (.aload_n 0, 1) := by decide +kernel
theorem dX6_snow_67 : decode cX6_snow 67 = .ok (.getfield 24, 3) := by decide +kernel
theorem dX6_snow_70 : decode cX6_snow 70 = .ok (.getfield 169, 3) := by decide +kernel
theorem dX6_snow_73 : decode cX6_snow 73 = .ok (.iload_n 1, 1) := by decide +kernel
theorem dX6_snow_74 : decode cX6_snow 74 = .ok (.invokestatic 101, 3) := by decide +kernel
theorem dX6_snow_77 : decode cX6_snow 77 = .ok (.ireturn, 1) := by decide +kernel
def F_X6_snow (fu : Nat) (M : Mm) (x1 : Int32) (x2 : Int32) : Option (Int32 × Mm) :=
  ob1 (F_X2_isMan fu M 24 x1) (fun r2 =>
  if r2 = 0 then
    some ((-1 : Int32), M)
  else
    if x2 < (1 : Int32) then
      some ((-1 : Int32), M)
    else
      if x2 ≤ (9 : Int32) then
        ob1 (F_X6_read fu M 28 x1) (fun r7 =>
        if r7 = 0 then
          some ((-4 : Int32), M)
        else
          if (M.1 24 3) < (60 : Int32) then
            ob1 (F_X2_act fu M 24 (3 : Int32) x1 x2) (fun M11 =>
            ob1 (F_X6_read fu M11 28 x1) (fun r13 =>
            some (r13, M11)))
          else
            some ((-2 : Int32), M))
      else
        some ((-1 : Int32), M))
set_option maxRecDepth 100000 in
set_option maxHeartbeats 4000000 in
theorem c_X6_snow {l : Launch} {G : Gv} {fu : Nat} {M : Mm} {x1 : Int32} {x2 : Int32} {r : Int32} {M' : Mm} (hF : F_X6_snow fu M x1 x2 = some (r, M')) : Met l yX6_snow (.code yX6_snow cX6_snow 3 (some .int) :: zU) rm_X6_snow (va_Pc [.ref (ad G 0), .int x1, .int x2] (Wd G M)) (QI G r M') 0 0 (zA G) := by
  refine zMet (by decide) rfl (Nat.le_of_ble_eq_true rfl) ?_
  intro p e s m below meth c hC hw ls hl
  have hl : lv_has ls 3 [(0, .ref (ad G 0)), (1, .int x1), (2, .int x2)] := hl
  unfold F_X6_snow at hF
  refine lv_aload_n hC.1 hC.2.1 dX6_snow_0 rfl (lv_at hl 0 rfl) ?_
  refine g6_north hC hw q1_195 dX6_snow_1 ?_
  refine lv_iload_n hC.1 hC.2.1 dX6_snow_4 rfl (lv_at hl 1 rfl) ?_
  obtain ⟨r2, h1, hF⟩ := ob1S hF
  refine k_Vi (As := [.int x1]) (rest := []) hC hw (c_X2_isMan (M := M) (rfl : kd 24 = 11) h1) (RC_N (rfl : kd 24 = 11)) yv_X2_isMan q2_31 ⟨rfl, rfl⟩ ⟨Nat.le_of_ble_eq_true rfl, Nat.le_of_ble_eq_true rfl⟩ ⟨Nat.zero_le _, Nat.zero_le _⟩ rfl rfl (Nat.le_of_ble_eq_true rfl) hl dX6_snow_5 (fun H locs hw => ?_)
  refine lv_if_eq (tgt := 22) hC.1 hC.2.1 dX6_snow_8 (by decide) (fun b3 => ?_) (fun b3 => ?_)
  · have hF := ifP hF b3
    refine lv_iconst (v := (-1 : Int32)) hC.1 hC.2.1 dX6_snow_22 (by decide) ?_
    exact r_iretE hC hw hF dX6_snow_23
  · have hF := ifN hF b3
    refine lv_iload_n hC.1 hC.2.1 dX6_snow_11 rfl (lv_at hl 2 rfl) ?_
    refine lv_iconst (v := (1 : Int32)) hC.1 hC.2.1 dX6_snow_12 (by decide) ?_
    refine lv_icmp_lt (tgt := 22) hC.1 hC.2.1 dX6_snow_13 (by decide) (fun b4 => ?_) (fun b4 => ?_)
    · have hF := ifP hF b4
      refine lv_iconst (v := (-1 : Int32)) hC.1 hC.2.1 dX6_snow_22 (by decide) ?_
      exact r_iretE hC hw hF dX6_snow_23
    · have hF := ifN hF b4
      refine lv_iload_n hC.1 hC.2.1 dX6_snow_16 rfl (lv_at hl 2 rfl) ?_
      refine lv_bipush (v := (9 : Int32)) hC.1 hC.2.1 dX6_snow_17 (by decide) ?_
      refine lv_icmp_le (tgt := 24) hC.1 hC.2.1 dX6_snow_19 (by decide) (fun b5 => ?_) (fun b5 => ?_)
      · have hF := ifP hF b5
        refine lv_aload_n hC.1 hC.2.1 dX6_snow_24 rfl (lv_at hl 0 rfl) ?_
        refine g6_north hC hw q1_195 dX6_snow_25 ?_
        refine g2_bulkOf hC hw (rfl : kd 24 = 11) q1_42 dX6_snow_28 ?_
        refine lv_iload_n hC.1 hC.2.1 dX6_snow_31 rfl (lv_at hl 1 rfl) ?_
        obtain ⟨r7, h6, hF⟩ := ob1S hF
        refine k_Si (As := [.ref (ad G 28), .int x1]) (rest := []) hC hw (c_X6_read (M := M) (rfl : kd 28 = 1) h6) ys_X6_read q2_17 ⟨rfl, rfl⟩ ⟨Nat.le_of_ble_eq_true rfl, Nat.le_of_ble_eq_true rfl⟩ ⟨Nat.zero_le _, Nat.zero_le _⟩ rfl rfl (Nat.le_of_ble_eq_true rfl) hl dX6_snow_32 (fun H locs hw => ?_)
        refine lv_if_ne (tgt := 41) hC.1 hC.2.1 dX6_snow_35 (by decide) (fun b8 => ?_) (fun b8 => ?_)
        · have hF := ifN hF b8
          refine lv_aload_n hC.1 hC.2.1 dX6_snow_41 rfl (lv_at hl 0 rfl) ?_
          refine g6_north hC hw q1_195 dX6_snow_42 ?_
          refine g2_deeds hC hw (rfl : kd 24 = 11) q1_35 dX6_snow_45 ?_
          refine lv_bipush (v := (60 : Int32)) hC.1 hC.2.1 dX6_snow_48 (by decide) ?_
          refine lv_icmp_lt (tgt := 56) hC.1 hC.2.1 dX6_snow_50 (by decide) (fun b9 => ?_) (fun b9 => ?_)
          · have hF := ifP hF b9
            refine lv_aload_n hC.1 hC.2.1 dX6_snow_56 rfl (lv_at hl 0 rfl) ?_
            refine g6_north hC hw q1_195 dX6_snow_57 ?_
            refine lv_iconst (v := (3 : Int32)) hC.1 hC.2.1 dX6_snow_60 (by decide) ?_
            refine lv_iload_n hC.1 hC.2.1 dX6_snow_61 rfl (lv_at hl 1 rfl) ?_
            refine lv_iload_n hC.1 hC.2.1 dX6_snow_62 rfl (lv_at hl 2 rfl) ?_
            obtain ⟨M11, h10, hF⟩ := ob1S hF
            refine k_Vv (As := [.int (3 : Int32), .int x1, .int x2]) (rest := []) hC hw (c_X2_act (M := M) (rfl : kd 24 = 11) h10) (RC_N (rfl : kd 24 = 11)) yv_X2_act q2_67 ⟨rfl, rfl⟩ ⟨Nat.le_of_ble_eq_true rfl, Nat.le_of_ble_eq_true rfl⟩ ⟨Nat.zero_le _, Nat.zero_le _⟩ rfl rfl (Nat.le_of_ble_eq_true rfl) hl dX6_snow_63 (fun H locs hw => ?_)
            refine lv_aload_n hC.1 hC.2.1 dX6_snow_66 rfl (lv_at hl 0 rfl) ?_
            refine g6_north hC hw q1_195 dX6_snow_67 ?_
            refine g2_bulkOf hC hw (rfl : kd 24 = 11) q1_42 dX6_snow_70 ?_
            refine lv_iload_n hC.1 hC.2.1 dX6_snow_73 rfl (lv_at hl 1 rfl) ?_
            obtain ⟨r13, h12, hF⟩ := ob1S hF
            refine k_Si (As := [.ref (ad G 28), .int x1]) (rest := []) hC hw (c_X6_read (M := M11) (rfl : kd 28 = 1) h12) ys_X6_read q2_17 ⟨rfl, rfl⟩ ⟨Nat.le_of_ble_eq_true rfl, Nat.le_of_ble_eq_true rfl⟩ ⟨Nat.zero_le _, Nat.zero_le _⟩ rfl rfl (Nat.le_of_ble_eq_true rfl) hl dX6_snow_74 (fun H locs hw => ?_)
            exact r_iretE hC hw hF dX6_snow_77
          · have hF := ifN hF b9
            refine lv_bipush (v := (-2 : Int32)) hC.1 hC.2.1 dX6_snow_53 (by decide) ?_
            exact r_iretE hC hw hF dX6_snow_55
        · have hF := ifP hF b8
          refine lv_bipush (v := (-4 : Int32)) hC.1 hC.2.1 dX6_snow_38 (by decide) ?_
          exact r_iretE hC hw hF dX6_snow_40
      · have hF := ifN hF b5
        refine lv_iconst (v := (-1 : Int32)) hC.1 hC.2.1 dX6_snow_22 (by decide) ?_
        exact r_iretE hC hw hF dX6_snow_23
abbrev rm_X6_undo : Room := { frames := 6, cells := 0, slots := 0, locals := 142 }
theorem yv_X6_undo : YV yX6_undo cX6_undo 3 (some .int) 1 RX6 := ⟨⟨q2_113, q2_114, q1_1, q2_115⟩, by decide +kernel⟩
theorem dX6_undo_0 : decode cX6_undo 0 = .ok (.iload_n 1, 1) := by decide +kernel
theorem dX6_undo_1 : decode cX6_undo 1 = .ok (.ifCond .lt 14, 3) := by decide +kernel
theorem dX6_undo_4 : decode cX6_undo 4 = .ok (.iload_n 1, 1) := by decide +kernel
theorem dX6_undo_5 : decode cX6_undo 5 = .ok (.aload_n 0, 1) := by decide +kernel
theorem dX6_undo_6 : decode cX6_undo 6 = .ok (.getfield 24, 3) := by decide +kernel
theorem dX6_undo_9 : decode cX6_undo 9 = .ok (.getfield 198, 3) := by decide +kernel
theorem dX6_undo_12 : decode cX6_undo 12 = .ok (.if_icmp .le 5, 3) := by decide +kernel
theorem dX6_undo_15 : decode cX6_undo 15 = .ok (.iconst (-1), 1) := by decide +kernel
theorem dX6_undo_16 : decode cX6_undo 16 = .ok (.ireturn, 1) := by decide +kernel
theorem dX6_undo_17 : decode cX6_undo 17 = .ok (.aload_n 0, 1) := by decide +kernel
theorem dX6_undo_18 : decode cX6_undo 18 = .ok (.getfield 24, 3) := by decide +kernel
theorem dX6_undo_21 : decode cX6_undo 21 = .ok (.getfield 198, 3) := by decide +kernel
theorem dX6_undo_24 : decode cX6_undo 24 = .ok (.iload_n 1, 1) := by decide +kernel
theorem dX6_undo_25 : decode cX6_undo 25 = .ok (.isub, 1) := by decide +kernel
theorem dX6_undo_26 : decode cX6_undo 26 = .ok (.istore_n 2, 1) := by decide +kernel
theorem dX6_undo_27 : decode cX6_undo 27 = .ok (.aload_n 0, 1) := by decide +kernel
theorem dX6_undo_28 : decode cX6_undo 28 = .ok (.getfield 24, 3) := by decide +kernel
theorem dX6_undo_31 : decode cX6_undo 31 = .ok (.iload_n 1, 1) := by decide +kernel
theorem dX6_undo_32 : decode cX6_undo 32 = .ok (.invokevirtual 217, 3) := by decide +kernel
theorem dX6_undo_35 : decode cX6_undo 35 = .ok (.iload_n 2, 1) := by decide +kernel
theorem dX6_undo_36 : decode cX6_undo 36 = .ok (.ireturn, 1) := by decide +kernel
def F_X6_undo (fu : Nat) (M : Mm) (x1 : Int32) : Option (Int32 × Mm) :=
  if x1 < 0 then
    some ((-1 : Int32), M)
  else
    if x1 ≤ (M.1 24 3) then
      ob1 (F_X2_undoFrom fu M 24 x1) (fun M4 =>
      some (((M.1 24 3) - x1), M4))
    else
      some ((-1 : Int32), M)
set_option maxRecDepth 100000 in
set_option maxHeartbeats 4000000 in
theorem c_X6_undo {l : Launch} {G : Gv} {fu : Nat} {M : Mm} {x1 : Int32} {r : Int32} {M' : Mm} (hF : F_X6_undo fu M x1 = some (r, M')) : Met l yX6_undo (.code yX6_undo cX6_undo 3 (some .int) :: zU) rm_X6_undo (va_Pc [.ref (ad G 0), .int x1] (Wd G M)) (QI G r M') 0 0 (zA G) := by
  refine zMet (by decide) rfl (Nat.le_of_ble_eq_true rfl) ?_
  intro p e s m below meth c hC hw ls hl
  have hl : lv_has ls 3 [(0, .ref (ad G 0)), (1, .int x1)] := hl
  unfold F_X6_undo at hF
  refine lv_iload_n hC.1 hC.2.1 dX6_undo_0 rfl (lv_at hl 1 rfl) ?_
  refine lv_if_lt (tgt := 15) hC.1 hC.2.1 dX6_undo_1 (by decide) (fun b1 => ?_) (fun b1 => ?_)
  · have hF := ifP hF b1
    refine lv_iconst (v := (-1 : Int32)) hC.1 hC.2.1 dX6_undo_15 (by decide) ?_
    exact r_iretE hC hw hF dX6_undo_16
  · have hF := ifN hF b1
    refine lv_iload_n hC.1 hC.2.1 dX6_undo_4 rfl (lv_at hl 1 rfl) ?_
    refine lv_aload_n hC.1 hC.2.1 dX6_undo_5 rfl (lv_at hl 0 rfl) ?_
    refine g6_north hC hw q1_195 dX6_undo_6 ?_
    refine g2_deeds hC hw (rfl : kd 24 = 11) q1_35 dX6_undo_9 ?_
    refine lv_icmp_le (tgt := 17) hC.1 hC.2.1 dX6_undo_12 (by decide) (fun b2 => ?_) (fun b2 => ?_)
    · have hF := ifP hF b2
      refine lv_aload_n hC.1 hC.2.1 dX6_undo_17 rfl (lv_at hl 0 rfl) ?_
      refine g6_north hC hw q1_195 dX6_undo_18 ?_
      refine g2_deeds hC hw (rfl : kd 24 = 11) q1_35 dX6_undo_21 ?_
      refine lv_iload_n hC.1 hC.2.1 dX6_undo_24 rfl (lv_at hl 1 rfl) ?_
      refine lv_isub hC.1 hC.2.1 dX6_undo_25 ?_
      refine lv_istore_n (lv' := [(2, .int ((M.1 24 3) - x1)), (0, .ref (ad G 0)), (1, .int x1)]) hC.1 hC.2.1 dX6_undo_26 rfl hl (by decide) rfl (fun ls hl => ?_)
      refine lv_aload_n hC.1 hC.2.1 dX6_undo_27 rfl (lv_at hl 1 rfl) ?_
      refine g6_north hC hw q1_195 dX6_undo_28 ?_
      refine lv_iload_n hC.1 hC.2.1 dX6_undo_31 rfl (lv_at hl 2 rfl) ?_
      obtain ⟨M4, h3, hF⟩ := ob1S hF
      refine k_Vv (As := [.int x1]) (rest := []) hC hw (c_X2_undoFrom (M := M) (rfl : kd 24 = 11) h3) (RC_N (rfl : kd 24 = 11)) yv_X2_undoFrom q2_116 ⟨rfl, rfl⟩ ⟨Nat.le_of_ble_eq_true rfl, Nat.le_of_ble_eq_true rfl⟩ ⟨Nat.zero_le _, Nat.zero_le _⟩ rfl rfl (Nat.le_of_ble_eq_true rfl) hl dX6_undo_32 (fun H locs hw => ?_)
      refine lv_iload_n hC.1 hC.2.1 dX6_undo_35 rfl (lv_at hl 0 rfl) ?_
      exact r_iretE hC hw hF dX6_undo_36
    · have hF := ifN hF b2
      refine lv_iconst (v := (-1 : Int32)) hC.1 hC.2.1 dX6_undo_15 (by decide) ?_
      exact r_iretE hC hw hF dX6_undo_16
abbrev rm_X6_keep : Room := { frames := 2, cells := 0, slots := 0, locals := 43 }
theorem yv_X6_keep : YV yX6_keep cX6_keep 3 (some .int) 1 RX6 := ⟨⟨q2_128, q2_129, q1_1, q2_130⟩, by decide +kernel⟩
theorem dX6_keep_0 : decode cX6_keep 0 = .ok (.aload_n 0, 1) := by decide +kernel
theorem dX6_keep_1 : decode cX6_keep 1 = .ok (.iload_n 1, 1) := by decide +kernel
theorem dX6_keep_2 : decode cX6_keep 2 = .ok (.invokevirtual 148, 3) := by decide +kernel
theorem dX6_keep_5 : decode cX6_keep 5 = .ok (.astore_n 2, 1) := by decide +kernel
theorem dX6_keep_6 : decode cX6_keep 6 = .ok (.aload_n 2, 1) := by decide +kernel
theorem dX6_keep_7 : decode cX6_keep 7 = .ok (.ifnonnull 5, 3) := by decide +kernel
theorem dX6_keep_10 : decode cX6_keep 10 = .ok (.iconst (-1), 1) := by decide +kernel
theorem dX6_keep_11 : decode cX6_keep 11 = .ok (.ireturn, 1) := by decide +kernel
theorem dX6_keep_12 : decode cX6_keep 12 = .ok (.aload_n 0, 1) := by decide +kernel
theorem dX6_keep_13 : decode cX6_keep 13 = .ok (.getfield 24, 3) := by decide +kernel
theorem dX6_keep_16 : decode cX6_keep 16 = .ok (.getfield 152, 3) := by decide +kernel
theorem dX6_keep_19 : decode cX6_keep 19 = .ok (.ifCond .ne 6, 3) := by decide +kernel
theorem dX6_keep_22 : decode cX6_keep 22 = .ok (.bipush (-4), 2) := by decide +kernel
theorem dX6_keep_24 : decode cX6_keep 24 = .ok (.ireturn, 1) := by decide +kernel
theorem dX6_keep_25 : decode cX6_keep 25 = .ok (.aload_n 2, 1) := by decide +kernel
theorem dX6_keep_26 : decode cX6_keep 26 = .ok (.aload_n 0, 1) := by decide +kernel
theorem dX6_keep_27 : decode cX6_keep 27 = .ok (.getfield 24, 3) := by decide +kernel
theorem dX6_keep_30 : decode cX6_keep 30 = .ok (.invokevirtual 226, 3) := by decide +kernel
theorem dX6_keep_33 : decode cX6_keep 33 = .ok (.aload_n 2, 1) := by decide +kernel
theorem dX6_keep_34 : decode cX6_keep 34 = .ok (.getfield 198, 3) := by decide +kernel
theorem dX6_keep_37 : decode cX6_keep 37 = .ok (.ireturn, 1) := by decide +kernel
def F_X6_keep (fu : Nat) (M : Mm) (x1 : Int32) : Option (Int32 × Mm) :=
  ob1 (F_X6_keptOf fu M x1) (fun r2 =>
  op1 r2 (
    some ((-1 : Int32), M)) (fun c3 =>
    if ¬ kd c3 = 11 then none else (
    if (M.1 24 0) = 0 then
      some ((-4 : Int32), M)
    else
      ob1 (F_X2_become fu M c3 24) (fun M7 =>
      some ((M7.1 c3 3), M7)))))
set_option maxRecDepth 100000 in
set_option maxHeartbeats 4000000 in
theorem c_X6_keep {l : Launch} {G : Gv} {fu : Nat} {M : Mm} {x1 : Int32} {r : Int32} {M' : Mm} (hF : F_X6_keep fu M x1 = some (r, M')) : Met l yX6_keep (.code yX6_keep cX6_keep 3 (some .int) :: zU) rm_X6_keep (va_Pc [.ref (ad G 0), .int x1] (Wd G M)) (QI G r M') 0 0 (zA G) := by
  refine zMet (by decide) rfl (Nat.le_of_ble_eq_true rfl) ?_
  intro p e s m below meth c hC hw ls hl
  have hl : lv_has ls 3 [(0, .ref (ad G 0)), (1, .int x1)] := hl
  unfold F_X6_keep at hF
  refine lv_aload_n hC.1 hC.2.1 dX6_keep_0 rfl (lv_at hl 0 rfl) ?_
  refine lv_iload_n hC.1 hC.2.1 dX6_keep_1 rfl (lv_at hl 1 rfl) ?_
  obtain ⟨r2, h1, hF⟩ := ob1S hF
  refine k_Vq (As := [.int x1]) (rest := []) hC hw (c_X6_keptOf (M := M) h1) RC_S yv_X6_keptOf q2_131 ⟨rfl, rfl⟩ ⟨Nat.le_of_ble_eq_true rfl, Nat.le_of_ble_eq_true rfl⟩ ⟨Nat.zero_le _, Nat.zero_le _⟩ rfl rfl (Nat.le_of_ble_eq_true rfl) hl dX6_keep_2 (fun H locs hw => ?_)
  cases r2 with
  | none =>
    have hF := op1N hF
    refine topN ?_
    refine lv_astore_nN (lv' := [(2, .null), (0, .ref (ad G 0)), (1, .int x1)]) hC.1 hC.2.1 dX6_keep_5 rfl hl (by decide) rfl (fun ls hl => ?_)
    refine lv_aload_nN hC.1 hC.2.1 dX6_keep_6 rfl (lv_at hl 0 rfl) ?_
    refine lv_ifnonnullN hC.1 hC.2.1 dX6_keep_7 ?_
    refine lv_iconst (v := (-1 : Int32)) hC.1 hC.2.1 dX6_keep_10 (by decide) ?_
    exact r_iretE hC hw hF dX6_keep_11
  | some c3 =>
    obtain ⟨g4, hF⟩ := ifO (op1C hF)
    have g4 := Decidable.not_not.mp g4
    refine topC ?_
    refine lv_astore_n (lv' := [(2, .ref (ad G c3)), (0, .ref (ad G 0)), (1, .int x1)]) hC.1 hC.2.1 dX6_keep_5 rfl hl (by decide) rfl (fun ls hl => ?_)
    refine lv_aload_n hC.1 hC.2.1 dX6_keep_6 rfl (lv_at hl 0 rfl) ?_
    refine lv_ifnonnull (tgt := 12) hC.1 hC.2.1 dX6_keep_7 (by decide) ?_
    refine lv_aload_n hC.1 hC.2.1 dX6_keep_12 rfl (lv_at hl 1 rfl) ?_
    refine g6_north hC hw q1_195 dX6_keep_13 ?_
    refine g2_men hC hw (rfl : kd 24 = 11) q1_29 dX6_keep_16 ?_
    refine lv_if_ne (tgt := 25) hC.1 hC.2.1 dX6_keep_19 (by decide) (fun b5 => ?_) (fun b5 => ?_)
    · have hF := ifN hF b5
      refine lv_aload_n hC.1 hC.2.1 dX6_keep_25 rfl (lv_at hl 0 rfl) ?_
      refine lv_aload_n hC.1 hC.2.1 dX6_keep_26 rfl (lv_at hl 1 rfl) ?_
      refine g6_north hC hw q1_195 dX6_keep_27 ?_
      obtain ⟨M7, h6, hF⟩ := ob1S hF
      refine k_Vv (As := [.ref (ad G 24)]) (rest := []) hC hw (c_X2_become (M := M) g4 (rfl : kd 24 = 11) h6) (RC_N g4) yv_X2_become q2_135 ⟨rfl, rfl⟩ ⟨Nat.le_of_ble_eq_true rfl, Nat.le_of_ble_eq_true rfl⟩ ⟨Nat.zero_le _, Nat.zero_le _⟩ rfl rfl (Nat.le_of_ble_eq_true rfl) hl dX6_keep_30 (fun H locs hw => ?_)
      refine lv_aload_n hC.1 hC.2.1 dX6_keep_33 rfl (lv_at hl 0 rfl) ?_
      refine g2_deeds hC hw g4 q1_35 dX6_keep_34 ?_
      exact r_iretE hC hw hF dX6_keep_37
    · have hF := ifP hF b5
      refine lv_bipush (v := (-4 : Int32)) hC.1 hC.2.1 dX6_keep_22 (by decide) ?_
      exact r_iretE hC hw hF dX6_keep_24
abbrev rm_X6_on : Room := { frames := 2, cells := 0, slots := 0, locals := 43 }
theorem yv_X6_on : YV yX6_on cX6_on 3 (some .int) 1 RX6 := ⟨⟨q2_140, q2_141, q1_1, q2_142⟩, by decide +kernel⟩
theorem dX6_on_0 : decode cX6_on 0 = .ok (.aload_n 0, 1) := by decide +kernel
theorem dX6_on_1 : decode cX6_on 1 = .ok (.iload_n 1, 1) := by decide +kernel
theorem dX6_on_2 : decode cX6_on 2 = .ok (.invokevirtual 148, 3) := by decide +kernel
theorem dX6_on_5 : decode cX6_on 5 = .ok (.astore_n 2, 1) := by decide +kernel
theorem dX6_on_6 : decode cX6_on 6 = .ok (.aload_n 2, 1) := by decide +kernel
theorem dX6_on_7 : decode cX6_on 7 = .ok (.ifnonnull 5, 3) := by decide +kernel
theorem dX6_on_10 : decode cX6_on 10 = .ok (.iconst (-1), 1) := by decide +kernel
theorem dX6_on_11 : decode cX6_on 11 = .ok (.ireturn, 1) := by decide +kernel
theorem dX6_on_12 : decode cX6_on 12 = .ok (.aload_n 2, 1) := by decide +kernel
theorem dX6_on_13 : decode cX6_on 13 = .ok (.getfield 152, 3) := by decide +kernel
theorem dX6_on_16 : decode cX6_on 16 = .ok (.ifCond .ne 9, 3) := by decide +kernel
theorem dX6_on_19 : decode cX6_on 19 = .ok (.aload_n 0, 1) := by decide +kernel
theorem dX6_on_20 : decode cX6_on 20 = .ok (.iconst 1, 1) := by decide +kernel
theorem dX6_on_21 : decode cX6_on 21 = .ok (.invokevirtual 82, 3) := by decide +kernel
theorem dX6_on_24 : decode cX6_on 24 = .ok (.ireturn, 1) := by decide +kernel
theorem dX6_on_25 : decode cX6_on 25 = .ok (.aload_n 0, 1) := by decide +kernel
theorem dX6_on_26 : decode cX6_on 26 = .ok (.getfield 24, 3) := by decide +kernel
theorem dX6_on_29 : decode cX6_on 29 = .ok (.aload_n 2, 1) := by decide +kernel
theorem dX6_on_30 : decode cX6_on 30 = .ok (.invokevirtual 226, 3) := by decide +kernel
theorem dX6_on_33 : decode cX6_on 33 = .ok (.aload_n 0, 1) := by decide +kernel
theorem dX6_on_34 : decode cX6_on 34 = .ok (.getfield 24, 3) := by decide +kernel
theorem dX6_on_37 : decode cX6_on 37 = .ok (.getfield 198, 3) := by decide +kernel
theorem dX6_on_40 : decode cX6_on 40 = .ok (.ireturn, 1) := by decide +kernel
def F_X6_on (fu : Nat) (M : Mm) (x1 : Int32) : Option (Int32 × Mm) :=
  ob1 (F_X6_keptOf fu M x1) (fun r2 =>
  op1 r2 (
    some ((-1 : Int32), M)) (fun c3 =>
    if ¬ kd c3 = 11 then none else (
    if (M.1 c3 0) = 0 then
      ob2 (F_X6_found fu M (1 : Int32)) (fun r9 M10 =>
      some (r9, M10))
    else
      ob1 (F_X2_become fu M 24 c3) (fun M7 =>
      some ((M7.1 24 3), M7)))))
set_option maxRecDepth 100000 in
set_option maxHeartbeats 4000000 in
theorem c_X6_on {l : Launch} {G : Gv} {fu : Nat} {M : Mm} {x1 : Int32} {r : Int32} {M' : Mm} (hF : F_X6_on fu M x1 = some (r, M')) : Met l yX6_on (.code yX6_on cX6_on 3 (some .int) :: zU) rm_X6_on (va_Pc [.ref (ad G 0), .int x1] (Wd G M)) (QI G r M') 0 0 (zA G) := by
  refine zMet (by decide) rfl (Nat.le_of_ble_eq_true rfl) ?_
  intro p e s m below meth c hC hw ls hl
  have hl : lv_has ls 3 [(0, .ref (ad G 0)), (1, .int x1)] := hl
  unfold F_X6_on at hF
  refine lv_aload_n hC.1 hC.2.1 dX6_on_0 rfl (lv_at hl 0 rfl) ?_
  refine lv_iload_n hC.1 hC.2.1 dX6_on_1 rfl (lv_at hl 1 rfl) ?_
  obtain ⟨r2, h1, hF⟩ := ob1S hF
  refine k_Vq (As := [.int x1]) (rest := []) hC hw (c_X6_keptOf (M := M) h1) RC_S yv_X6_keptOf q2_131 ⟨rfl, rfl⟩ ⟨Nat.le_of_ble_eq_true rfl, Nat.le_of_ble_eq_true rfl⟩ ⟨Nat.zero_le _, Nat.zero_le _⟩ rfl rfl (Nat.le_of_ble_eq_true rfl) hl dX6_on_2 (fun H locs hw => ?_)
  cases r2 with
  | none =>
    have hF := op1N hF
    refine topN ?_
    refine lv_astore_nN (lv' := [(2, .null), (0, .ref (ad G 0)), (1, .int x1)]) hC.1 hC.2.1 dX6_on_5 rfl hl (by decide) rfl (fun ls hl => ?_)
    refine lv_aload_nN hC.1 hC.2.1 dX6_on_6 rfl (lv_at hl 0 rfl) ?_
    refine lv_ifnonnullN hC.1 hC.2.1 dX6_on_7 ?_
    refine lv_iconst (v := (-1 : Int32)) hC.1 hC.2.1 dX6_on_10 (by decide) ?_
    exact r_iretE hC hw hF dX6_on_11
  | some c3 =>
    obtain ⟨g4, hF⟩ := ifO (op1C hF)
    have g4 := Decidable.not_not.mp g4
    refine topC ?_
    refine lv_astore_n (lv' := [(2, .ref (ad G c3)), (0, .ref (ad G 0)), (1, .int x1)]) hC.1 hC.2.1 dX6_on_5 rfl hl (by decide) rfl (fun ls hl => ?_)
    refine lv_aload_n hC.1 hC.2.1 dX6_on_6 rfl (lv_at hl 0 rfl) ?_
    refine lv_ifnonnull (tgt := 12) hC.1 hC.2.1 dX6_on_7 (by decide) ?_
    refine lv_aload_n hC.1 hC.2.1 dX6_on_12 rfl (lv_at hl 0 rfl) ?_
    refine g2_men hC hw g4 q1_29 dX6_on_13 ?_
    refine lv_if_ne (tgt := 25) hC.1 hC.2.1 dX6_on_16 (by decide) (fun b5 => ?_) (fun b5 => ?_)
    · have hF := ifN hF b5
      refine lv_aload_n hC.1 hC.2.1 dX6_on_25 rfl (lv_at hl 1 rfl) ?_
      refine g6_north hC hw q1_195 dX6_on_26 ?_
      refine lv_aload_n hC.1 hC.2.1 dX6_on_29 rfl (lv_at hl 0 rfl) ?_
      obtain ⟨M7, h6, hF⟩ := ob1S hF
      refine k_Vv (As := [.ref (ad G c3)]) (rest := []) hC hw (c_X2_become (M := M) (rfl : kd 24 = 11) g4 h6) (RC_N (rfl : kd 24 = 11)) yv_X2_become q2_135 ⟨rfl, rfl⟩ ⟨Nat.le_of_ble_eq_true rfl, Nat.le_of_ble_eq_true rfl⟩ ⟨Nat.zero_le _, Nat.zero_le _⟩ rfl rfl (Nat.le_of_ble_eq_true rfl) hl dX6_on_30 (fun H locs hw => ?_)
      refine lv_aload_n hC.1 hC.2.1 dX6_on_33 rfl (lv_at hl 1 rfl) ?_
      refine g6_north hC hw q1_195 dX6_on_34 ?_
      refine g2_deeds hC hw (rfl : kd 24 = 11) q1_35 dX6_on_37 ?_
      exact r_iretE hC hw hF dX6_on_40
    · have hF := ifP hF b5
      refine lv_aload_n hC.1 hC.2.1 dX6_on_19 rfl (lv_at hl 1 rfl) ?_
      refine lv_iconst (v := (1 : Int32)) hC.1 hC.2.1 dX6_on_20 (by decide) ?_
      obtain ⟨r9, M10, h8, hF⟩ := ob2S hF
      refine k_Vi (As := [.int (1 : Int32)]) (rest := []) hC hw (c_X6_found (M := M) h8) RC_S yv_X6_found q2_13 ⟨rfl, rfl⟩ ⟨Nat.le_of_ble_eq_true rfl, Nat.le_of_ble_eq_true rfl⟩ ⟨Nat.zero_le _, Nat.zero_le _⟩ rfl rfl (Nat.le_of_ble_eq_true rfl) hl dX6_on_21 (fun H locs hw => ?_)
      exact r_iretE hC hw hF dX6_on_24
abbrev rm_X6_isAhead : Room := { frames := 0, cells := 0, slots := 0, locals := 0 }
theorem ys_X6_isAhead : YS yX6_isAhead cX6_isAhead 1 (some .boolean) 1 := ⟨⟨q2_148, q1_1, q2_149⟩, by decide +kernel⟩
theorem dX6_isAhead_0 : decode cX6_isAhead 0 = .ok (.iload_n 0, 1) := by decide +kernel
theorem dX6_isAhead_1 : decode cX6_isAhead 1 = .ok (.ifCond .lt 13, 3) := by decide +kernel
theorem dX6_isAhead_4 : decode cX6_isAhead 4 = .ok (.iload_n 0, 1) := by decide +kernel
theorem dX6_isAhead_5 : decode cX6_isAhead 5 = .ok (.bipush 60, 2) := by decide +kernel
theorem dX6_isAhead_7 : decode cX6_isAhead 7 = .ok (.if_icmp .gt 7, 3) := by decide +kernel
theorem dX6_isAhead_10 : decode cX6_isAhead 10 = .ok (.iconst 1, 1) := by decide +kernel
theorem dX6_isAhead_11 : decode cX6_isAhead 11 = .ok (.goto 4, 3) := by decide +kernel
theorem dX6_isAhead_14 : decode cX6_isAhead 14 = .ok (.iconst 0, 1) := by decide +kernel
theorem dX6_isAhead_15 : decode cX6_isAhead 15 = .ok (.ireturn, 1) := by decide +kernel
def F_X6_isAhead (fu : Nat) (M : Mm) (x0 : Int32) : Option Int32 :=
  if x0 < 0 then
    some (0 : Int32)
  else
    if (60 : Int32) < x0 then
      some (0 : Int32)
    else
      some (1 : Int32)
set_option maxRecDepth 100000 in
set_option maxHeartbeats 4000000 in
theorem c_X6_isAhead {l : Launch} {G : Gv} {fu : Nat} {M : Mm} {x0 : Int32} {r : Int32} (hF : F_X6_isAhead fu M x0 = some r) : Met l yX6_isAhead (.code yX6_isAhead cX6_isAhead 1 (some .boolean) :: zU) rm_X6_isAhead (va_Pc [.int x0] (Wd G M)) (QI G r M) 0 0 (zA G) := by
  refine zMet (by decide) rfl (Nat.le_of_ble_eq_true rfl) ?_
  intro p e s m below meth c hC hw ls hl
  have hl : lv_has ls 1 [(0, .int x0)] := hl
  unfold F_X6_isAhead at hF
  refine lv_iload_n hC.1 hC.2.1 dX6_isAhead_0 rfl (lv_at hl 0 rfl) ?_
  refine lv_if_lt (tgt := 14) hC.1 hC.2.1 dX6_isAhead_1 (by decide) (fun b1 => ?_) (fun b1 => ?_)
  · have hF := ifP hF b1
    refine lv_iconst (v := (0 : Int32)) hC.1 hC.2.1 dX6_isAhead_14 (by decide) ?_
    exact r_zretP hC hw (by decide) hF dX6_isAhead_15
  · have hF := ifN hF b1
    refine lv_iload_n hC.1 hC.2.1 dX6_isAhead_4 rfl (lv_at hl 0 rfl) ?_
    refine lv_bipush (v := (60 : Int32)) hC.1 hC.2.1 dX6_isAhead_5 (by decide) ?_
    refine lv_icmp_gt (tgt := 14) hC.1 hC.2.1 dX6_isAhead_7 (by decide) (fun b2 => ?_) (fun b2 => ?_)
    · have hF := ifP hF b2
      refine lv_iconst (v := (0 : Int32)) hC.1 hC.2.1 dX6_isAhead_14 (by decide) ?_
      exact r_zretP hC hw (by decide) hF dX6_isAhead_15
    · have hF := ifN hF b2
      refine lv_iconst (v := (1 : Int32)) hC.1 hC.2.1 dX6_isAhead_10 (by decide) ?_
      refine lv_goto (tgt := 15) hC.1 hC.2.1 dX6_isAhead_11 (by decide) ?_
      exact r_zretP hC hw (by decide) hF dX6_isAhead_15
