/-! making: the cells z, z + 1, .. that a maker owns, in the order of their making -/
def GL (G : Gv) (z : Nat) (es : List va_E) (H : Heap) : Prop := H.size = z + es.length ∧ ∀ (k : Nat) (e : va_E), es[k]? = some e → va_at G.1 vwCl (z + k, e) H
def GA (z : Nat) : Nat → Prop := fun q => z ≤ q
def zOv (U : State) : Prop := va_AO "SnowCitizens$Row" U ∧ va_AO "SnowCitizens$Text" U ∧ va_AO "SnowCitizens$North" U
theorem zOv.moved {u U : State} (hvm : u.vm.Alike U.vm) (h : zOv u) : zOv U := ⟨h.1.moved hvm, h.2.1.moved hvm, h.2.2.moved hvm⟩
def GW (G : Gv) (z : Nat) (es : List va_E) (U : State) : Prop := va_K G.1 vwCl (ztyL G) U ∧ GL G z es U.heap ∧ zNW U ∧ zOv U
def GS (G : Gv) (s : State) (z : Nat) (es : List va_E) (H : Heap) (locs : List Loc) : Prop := va_K G.1 vwCl (ztyL G) s ∧ GL G z es H ∧ zNW s ∧ zOv s ∧ va_S (GA z) s.heap H locs
theorem GW.blind {G : Gv} {z : Nat} {es : List va_E} {As : List Value} : FrameBlind (va_Pc As (GW G z es)) := fun a U g mk q => by
  obtain ⟨q0, q1, q2, q3, q4⟩ := q
  exact ⟨q0, va_K.moved (u := U) (U := U.calling g mk a) (Vm.Alike.refl U.vm) q1, q2, fun i w hw => va_Nw.same rfl rfl (q3 i w hw), q4.moved (Vm.Alike.refl U.vm)⟩
theorem GS.gw {G : Gv} {s t : State} {z : Nat} {es : List va_E} {H : Heap} {locs : List Loc} (h : GS G s z es H locs) (ht : t.heap = H) (hW : s.WarmedH t.vm) : GW G z es t :=
  ⟨va_K.moved hW.alike h.1, by rw [ht]; exact h.2.1, fun i w hw => va_Nw.warmM hW (h.2.2.1 i w hw), h.2.2.2.1.moved hW.alike⟩
theorem GL.set {G : Gv} {z : Nat} {es : List va_E} {H H1 : Heap} {k : Nat} {e0 e : va_E} (h : GL G z es H) (hk : es[k]? = some e0) (hz : H1.size = H.size) (he : va_at G.1 vwCl (z + k, e) H1) (ho : ∀ q : Nat, q ≠ z + k → H1[q]? = H[q]?) : GL G z (es.set k e) H1 := by
  have hl := (List.getElem?_eq_some_iff.mp hk).1
  refine ⟨by rw [hz, h.1, List.length_set], fun j x hx => ?_⟩
  by_cases hj : j = k
  · subst hj
    rw [List.getElem?_set_self hl] at hx
    cases hx
    exact he
  · rw [List.getElem?_set_ne (Ne.symm hj)] at hx
    exact (h.2 j x hx).kept (ho _ (by show z + j ≠ z + k; omega))
theorem GL.push {G : Gv} {z : Nat} {es : List va_E} {H H1 : Heap} {e : va_E} (h : GL G z es H) (hz : H1.size = H.size + 1) (he : va_at G.1 vwCl (z + es.length, e) H1) (ho : ∀ q : Nat, q < H.size → H1[q]? = H[q]?) : GL G z (es ++ [e]) H1 := by
  refine ⟨by rw [hz, h.1, List.length_append]; rfl, fun j x hx => ?_⟩
  by_cases hj : j < es.length
  · rw [List.getElem?_append_left hj] at hx
    exact (h.2 j x hx).kept (ho _ (by rw [h.1]; show z + j < z + es.length; omega))
  · rw [List.getElem?_append_right (by omega)] at hx
    have h1 : j - es.length < 1 := (List.getElem?_eq_some_iff.mp hx).1
    have h2 : j = es.length := by omega
    subst h2
    rw [Nat.sub_self] at hx
    cases hx
    exact he
theorem GL.app {G : Gv} {z : Nat} {es es' : List va_E} {e : va_E} {H H1 : Heap} (h : GL G z (es ++ [e]) H) (h1 : GL G (z + es.length) es' H1) (ho : ∀ q : Nat, q < H.size → ¬ GA (z + es.length) q → H1[q]? = H[q]?) : GL G z (es ++ es') H1 := by
  refine ⟨by rw [h1.1, List.length_append]; omega, fun j x hx => ?_⟩
  by_cases hj : j < es.length
  · rw [List.getElem?_append_left hj] at hx
    refine (h.2 j x (by rw [List.getElem?_append_left hj]; exact hx)).kept (ho _ ?_ ?_)
    · rw [h.1, List.length_append]; show z + j < z + (es.length + 1); omega
    · show ¬ z + es.length ≤ z + j; omega
  · rw [List.getElem?_append_right (by omega)] at hx
    have := h1.2 _ x hx
    rwa [show z + es.length + (j - es.length) = z + j by omega] at this
theorem GL.last {G : Gv} {z : Nat} {es : List va_E} {e : va_E} {H : Heap} (h : GL G z (es ++ [e]) H) : GL G (z + es.length) [e] H := by
  refine ⟨by rw [h.1, List.length_append]; show z + (es.length + 1) = z + es.length + 1; omega, fun j x hx => ?_⟩
  have h1 : j < 1 := (List.getElem?_eq_some_iff.mp hx).1
  have h2 : j = 0 := by omega
  subst h2
  have := h.2 es.length x (by rw [List.getElem?_append_right (Nat.le_refl _), Nat.sub_self]; exact hx)
  exact this
theorem zRA_int {G : Gv} {U : State} (h : va_K G.1 vwCl (ztyL G) U) : U.vm.findClass ("[" ++ FieldType.int.toString) = some (G.2.2 1) := (h.2 1 _ rfl).2
theorem zRA_long {G : Gv} {U : State} (h : va_K G.1 vwCl (ztyL G) U) : U.vm.findClass ("[" ++ FieldType.long.toString) = some (G.2.2 2) := (h.2 2 _ rfl).2
theorem zRA_byte {G : Gv} {U : State} (h : va_K G.1 vwCl (ztyL G) U) : U.vm.findClass ("[" ++ FieldType.byte.toString) = some (G.2.2 0) := (h.2 0 _ rfl).2
theorem zRA_obj {G : Gv} {U : State} {C : String} {t : Nat} {c : ClassId} (h : va_K G.1 vwCl (ztyL G) U) (ht : (ztyL G)[t]? = some (c, .object C)) : U.vm.findClass ("[" ++ (FieldType.object C).toString) = some c := by
  obtain ⟨kA, comp, -, -, -, h4⟩ := (h.2 t _ ht).2
  exact h4
section ZG
variable {p : Program} {l : Launch} {e : Env} {R : Room} {s : State} {m : MethodId} {args : Array Value} {below : List Frame} {meth : Method} {c : Code} {H : Heap} {locs : List Loc} {cells slots : Nat} {Q : State → Prop}
variable {cc : ByteArray} {pc : Nat} {ls : Array Slot} {rest : List Value} {G : Gv} {own : String} {index nL z : Nat} {es : List va_E} {ret : Option FieldType}
theorem gs_get (hC : Cx p s m args meth c cc nL ret own) (hw : GS G s z es H locs) {k0 k ci N : Nat} {C : String} {T : u_T} {fs : List Value} {v : Value} (he : es[k0]? = some (.inr (ci, fs))) (hc : vwCl[ci]? = some (C, T, N)) (hin : ∀ w ∈ u_ws C T N, w ∈ zU) (hk : k < N) (hlink : Cond.fieldLink own index (T k).1 (T k).2.1 (T k).2.2.1 ∈ zU) (hv : fs[k]? = some v) (hdg : decode cc pc = .ok (.getfield index, 3))
    (kk : W p l e R s m args below meth c H locs cells slots Q (F0 m (pc + 3) ls (v :: rest))) : W p l e R s m args below meth c H locs cells slots Q (F0 m pc ls (.ref (z + k0) :: rest)) :=
  va_get (ws := [(z + k0, .inr (ci, fs))]) hC.1 hC.2.1 hC.2.2.2.2.1 hin hC.2.2.2.1 hw.1 (fun j q hj => by
    have h1 : j < 1 := (List.getElem?_eq_some_iff.mp hj).1
    have h2 : j = 0 := by omega
    subst h2
    cases hj
    exact hw.2.1.2 k0 _ he) 0 rfl hc k hk (hC.2.2.2.2.1 _ hlink) (fun _ h => h) hv hdg kk
theorem gs_put (hC : Cx p s m args meth c cc nL ret own) (hw : GS G s z es H locs) {k0 k ci N : Nat} {C : String} {T : u_T} {fs : List Value} {v : Value} {ty : FieldType} (ty0 : Nat → FieldType) (hty : ∀ k, k < N → parseFieldDescriptor (T k).2.2.1 = some (ty0 k)) (hnm : ∀ a, a < N → ∀ b, b < N → a ≠ b → (T a).2.1 ≠ (T b).2.1) (he : es[k0]? = some (.inr (ci, fs))) (hc : vwCl[ci]? = some (C, T, N)) (hin : ∀ w ∈ u_ws C T N, w ∈ zU) (hk : k < N) (hlink : Cond.fieldLink own index (T k).1 (T k).2.1 (T k).2.2.1 ∈ zU) (hfin : (T k).2.2.2 = false) (hd : parseFieldDescriptor (T k).2.2.1 = some ty) (hn : narrow ty v = v) (hfit : fits ty v = true) (hl : k < fs.length) (es' : List va_E) (hes : es.set k0 (.inr (ci, fs.set k v)) = es') (hdg : decode cc pc = .ok (.putfield index, 3))
    (kk : ∀ (H : Heap) (locs : List Loc), GS G s z es' H locs → W p l e R s m args below meth c H locs cells slots Q (F0 m (pc + 3) ls rest)) : W p l e R s m args below meth c H locs cells slots Q (F0 m pc ls (v :: .ref (z + k0) :: rest)) := by
  have hts := hC.2.2.2.2.1
  have hown := hC.2.2.2.1
  have hap := va_apart (D := G.1) (cl := vwCl) (tys := ztyL G) (own := own) hts hin ty0 hty hnm hw.1 hc
  obtain ⟨r, h1, cell, q1, q2, q3, q4⟩ := hw.2.1.2 k0 _ he
  have hr : r = (C, T, N) := Option.some.inj (h1.symm.trans hc)
  subst hr
  obtain ⟨hS, hfc, kC, hkC, hkind⟩ := hw.1.1 ci _ hc
  obtain ⟨cf, kf, fi, f, hi, hsl⟩ := hS k hk
  have hlay := hts _ (hin _ (u_in_lay hk))
  unfold u_lay at hlay
  rw [if_neg (by rw [hfin]; decide)] at hlay
  have hst := (u_facts hfc hkC (u_lays hts hin hk) hi).1
  have h6 := u_store hfc hkC hkind hlay hi hd hn hfit
  refine W.putK hC.1 hC.2.1 (f := f) ⟨hown, hts _ hlink, ⟨_, _, _, hi⟩, hst⟩ (by rw [q2]; exact h6) q1 q3 (by rw [hsl]; exact k2_hasslot (q4 k hk)) rfl rfl hdg fun H' e1 e2 e3 => ?_
  rw [hsl] at e1 ⊢
  subst hes
  exact kk H' _ ⟨hw.1, hw.2.1.set he e2 ⟨_, hc, t_OB.to (V := updV (vp_V fs) k v) ⟨_, e1, q2, q3, t_set q4 hap hk v⟩ (fun j _ => vp_updV_set hl v j)⟩ e3, hw.2.2.1, hw.2.2.2.1, hw.2.2.2.2.put e2 e3 (Nat.le_add_right _ _)⟩
theorem gs_putF (hC : Cx p s m args meth c cc nL ret own) (hin2 : meth.name = "<init>") (hw : GS G s z es H locs) {k0 k ci N : Nat} {T : u_T} {fs : List Value} {v : Value} {ty : FieldType} (ty0 : Nat → FieldType) (hty : ∀ k, k < N → parseFieldDescriptor (T k).2.2.1 = some (ty0 k)) (hnm : ∀ a, a < N → ∀ b, b < N → a ≠ b → (T a).2.1 ≠ (T b).2.1) (he : es[k0]? = some (.inr (ci, fs))) (hc : vwCl[ci]? = some (own, T, N)) (hin : ∀ w ∈ u_ws own T N, w ∈ zU) (hk : k < N) (hlink : Cond.fieldLink own index (T k).1 (T k).2.1 (T k).2.2.1 ∈ zU) (hfin : (T k).2.2.2 = true) (hdecl : (T k).1 = own) (hd : parseFieldDescriptor (T k).2.2.1 = some ty) (hn : narrow ty v = v) (hfit : fits ty v = true) (hl : k < fs.length) (es' : List va_E) (hes : es.set k0 (.inr (ci, fs.set k v)) = es') (hdg : decode cc pc = .ok (.putfield index, 3))
    (kk : ∀ (H : Heap) (locs : List Loc), GS G s z es' H locs → W p l e R s m args below meth c H locs cells slots Q (F0 m (pc + 3) ls rest)) : W p l e R s m args below meth c H locs cells slots Q (F0 m pc ls (v :: .ref (z + k0) :: rest)) := by
  have hts := hC.2.2.2.2.1
  have hown := hC.2.2.2.1
  have hap := va_apart (D := G.1) (cl := vwCl) (tys := ztyL G) (own := own) hts hin ty0 hty hnm hw.1 hc
  obtain ⟨r, h1, cell, q1, q2, q3, q4⟩ := hw.2.1.2 k0 _ he
  have hr : r = (own, T, N) := Option.some.inj (h1.symm.trans hc)
  subst hr
  obtain ⟨hS, hfc, kC, hkC, hkind⟩ := hw.1.1 ci _ hc
  obtain ⟨cf, kf, fi, f, hi, hsl⟩ := hS k hk
  have hlay := hts _ (hin _ (u_in_lay hk))
  unfold u_lay at hlay
  rw [if_pos hfin] at hlay
  have hst := (u_facts hfc hkC (u_lays hts hin hk) hi).1
  have hcf : m.cls = cf := by
    obtain ⟨_, _, c', _, _, _, -, -, hf', -, -, -, hown2, -⟩ := Cond.laysFinal_spec hlay
    have e1 : c' = cf := by have := hi.symm.trans hf'; simp at this; exact this.1.symm
    rw [hdecl] at hown2
    rw [← e1]; exact Option.some.inj (hown.symm.trans hown2)
  have h6 := u_fits hfc hkC hkind (Or.inr hlay) hi hd hn hfit
  refine W.putFinK hC.1 hC.2.1 hown (hts _ hlink) hi hst hcf hin2 (by rw [q2]; exact h6) q1 q3 (by rw [hsl]; exact k2_hasslot (q4 k hk)) rfl rfl hdg fun H' e1 e2 e3 => ?_
  rw [hsl] at e1 ⊢
  subst hes
  exact kk H' _ ⟨hw.1, hw.2.1.set he e2 ⟨_, hc, t_OB.to (V := updV (vp_V fs) k v) ⟨_, e1, q2, q3, t_set q4 hap hk v⟩ (fun j _ => vp_updV_set hl v j)⟩ e3, hw.2.2.1, hw.2.2.2.1, hw.2.2.2.2.put e2 e3 (Nat.le_add_right _ _)⟩
theorem gs_S {A : Nat → Prop} {H0 H H1 : Heap} {locs : List Loc} (h : va_S A H0 H locs) (hz : H1.size = H.size + 1) (ho : ∀ q : Nat, q < H.size → H1[q]? = H[q]?) : va_S A H0 H1 locs := ⟨Nat.le_trans h.1 (by omega), fun x h1 h2 => (ho x (Nat.lt_of_lt_of_le h1 h.1)).trans (h.2.1 x h1 h2), h.2.2⟩
theorem gs_newa (hC : Cx p s m args meth c cc nL ret own) (hw : GS G s z es H locs) {atype : ArrayType} {cA : ClassId} (harr : Cond.arrayClass (newarray.typeOf atype) ∈ zU) (hra : s.vm.findClass ("[" ++ (newarray.typeOf atype).toString) = some cA) {n : Int32} {N' : Nat} {a0 : vp_A} (ha : ∀ cA : ClassId, vp_cell cA a0 = arrV cA N' (fun _ => defaultValue (newarray.typeOf atype))) (hn : ¬ n < 0) (hN : n.toNatClampNeg = N') (hbytes : N' * componentBytes (newarray.typeOf atype) ≤ 536870912) (hcells : cells + 1 ≤ R.cells) (hslots : slots + N' ≤ R.slots) {k1 : Nat} (hk1 : es.length = k1) (hdg : decode cc pc = .ok (.newarray atype, 2))
    (kk : ∀ (H : Heap), GS G s z (es ++ [.inl (cA, a0)]) H locs → W p l e R s m args below meth c H locs (cells + 1) (slots + N') Q (F0 m (pc + 2) ls (.ref (z + k1) :: rest))) : W p l e R s m args below meth c H locs cells slots Q (F0 m pc ls (.int n :: rest)) := by
  subst hk1
  refine va_newaK hC.1 hC.2.1 (hC.2.2.2.2.1 _ harr) rfl hdg rfl hn hN hbytes hcells hslots hw.2.1.1 fun H1 cA' e1 z1 o1 hAr hNm => ?_
  cases hra.symm.trans hNm
  have z2 : H1.size = H.size + 1 := by rw [z1, hw.2.1.1]
  have o2 : ∀ q : Nat, q < H.size → H1[q]? = H[q]? := fun q hq => o1 q (by rw [← hw.2.1.1]; exact hq)
  exact kk H1 ⟨hw.1, hw.2.1.push z2 (by show H1[z + es.length]? = some (vp_cell _ _); rw [ha]; exact e1) o2, hw.2.2.1, hw.2.2.2.1, gs_S hw.2.2.2.2 z2 o2⟩
theorem gs_new (hC : Cx p s m args meth c cc nL ret own) (hw : GS G s z es H locs) {C : String} {T : u_T} {N ci : Nat} (hin : ∀ w ∈ u_ws C T N, w ∈ zU) (ty : Nat → FieldType) (hty : ∀ k, k < N → parseFieldDescriptor (T k).2.2.1 = some (ty k)) (hcl : Cond.classLink own index C ∈ zU) (hinst : Cond.instantiable C N ∈ zU) (hini : Cond.initialized C ∈ zU) (hc : vwCl[ci]? = some (C, T, N)) {fs : List Value} (hfs : ∀ j, j < N → defaultValue (ty j) = vp_V fs j) (hcells : cells + 1 ≤ R.cells) (hslots : slots + N ≤ R.slots) {k1 : Nat} (hk1 : es.length = k1) (hdg : decode cc pc = .ok (.new index, 3))
    (kk : ∀ (H : Heap), GS G s z (es ++ [.inr (ci, fs)]) H locs → W p l e R s m args below meth c H locs (cells + 1) (slots + N) Q (F0 m (pc + 3) ls (.ref (z + k1) :: rest))) : W p l e R s m args below meth c H locs cells slots Q (F0 m pc ls rest) := by
  subst hk1
  have hKn := hw.1.1 ci _ hc
  have hts := hC.2.2.2.2.1
  refine W.newcK hC.1 hC.2.1 hC.2.2.2.1 (hts _ hcl) (hts _ hinst) (hts _ hini) rfl hdg hcells hslots hKn.2.1 hw.2.1.1 fun H1 kC hkC e1 z1 o1 => ?_
  have z2 : H1.size = H.size + 1 := by rw [z1, hw.2.1.1]
  have o2 : ∀ q : Nat, q < H.size → H1[q]? = H[q]? := fun q hq => o1 q (by rw [← hw.2.1.1]; exact hq)
  exact kk H1 ⟨hw.1, hw.2.1.push z2 ⟨_, hc, (u_born ty hts hin hKn hkC e1 hty).to hfs⟩ o2, hw.2.2.1, hw.2.2.2.1, gs_S hw.2.2.2.2 z2 o2⟩
theorem gs_newq (hC : Cx p s m args meth c cc nL ret own) (hw : GS G s z es H locs) {C : String} {cA : ClassId} {t : Nat} (ht : (ztyL G)[t]? = some (cA, .object C)) (hcl : Cond.classLink own index C ∈ zU) (hover : va_AO C s) {n : Int32} {N' : Nat} (hn : ¬ n < 0) (hN : n.toNatClampNeg = N') (hbytes : N' * 4 ≤ 536870912) (hcells : cells + 1 ≤ R.cells) (hslots : slots + N' ≤ R.slots) {k1 : Nat} (hk1 : es.length = k1) (hdg : decode cc pc = .ok (.anewarray index, 3))
    (kk : ∀ (H : Heap), GS G s z (es ++ [.inl (cA, N', .inr (.inr (.inr (.inr (fun _ => none)))))]) H locs → W p l e R s m args below meth c H locs (cells + 1) (slots + N') Q (F0 m (pc + 3) ls (.ref (z + k1) :: rest))) : W p l e R s m args below meth c H locs cells slots Q (F0 m pc ls (.int n :: rest)) := by
  subst hN
  subst hk1
  refine W.anew hC.1 hC.2.1 hC.2.2.2.1 (hC.2.2.2.2.1 _ hcl) (va_AO.use hover) rfl hdg rfl hn hbytes hcells hslots fun cA' kA comp f1 f2 f3 f4 => ?_
  cases (zRA_obj hw.1 ht).symm.trans f1
  generalize hH1 : H.push ({ cls := cA, slots := Array.replicate n.toNatClampNeg .null, vm := .none } : Cell) = H1
  have z1 : H1.size = H.size + 1 := by rw [← hH1, Array.size_push]
  have e1 : H1[H.size]? = some (arrV cA n.toNatClampNeg (fun _ => .null)) := by rw [← hH1, Array.getElem?_push_size, ← arrV_new]
  have o1 : ∀ q : Nat, q < H.size → H1[q]? = H[q]? := fun q hq => by rw [← hH1, Array.getElem?_push, if_neg (Nat.ne_of_lt hq)]
  have key : GS G s z (es ++ [.inl (cA, n.toNatClampNeg, .inr (.inr (.inr (.inr (fun _ => none)))))]) H1 locs := ⟨hw.1, hw.2.1.push z1 (by
    show H1[z + es.length]? = some (vp_cell _ _)
    rw [vp_cell_q, ← hw.2.1.1]
    exact e1) o1, hw.2.2.1, hw.2.2.2.1, gs_S hw.2.2.2.2 z1 o1⟩
  have hk := kk H1 key
  rw [← hw.2.1.1] at hk
  exact hk
theorem gs_iast (hC : Cx p s m args meth c cc nL ret own) (hw : GS G s z es H locs) {k0 n : Nat} {f : Nat → Int32} (he : es[k0]? = some (.inl (G.2.2 1, n, .inl f))) {i x : Int32} (hin : vp_in i n) (es' : List va_E) (hes : es.set k0 (.inl (G.2.2 1, n, .inl (upd f i.toNatClampNeg x))) = es') (hdg : decode cc pc = .ok (.iastore, 1))
    (kk : ∀ (H : Heap) (locs : List Loc), GS G s z es' H locs → W p l e R s m args below meth c H locs cells slots Q (F0 m (pc + 1) ls rest)) : W p l e R s m args below meth c H locs cells slots Q (F0 m pc ls (.int x :: .int i :: .ref (z + k0) :: rest)) := by
  subst hes
  refine W.iast hC.1 hC.2.1 (hw.2.1.2 k0 _ he) ((hw.1.2 1 _ rfl).1 n (fun j => .int (f j))) (fun q => by cases q) (by show ¬ (i < 0 ∨ (arrV _ _ _).slots.size ≤ _); rw [arrV_size]; exact hin) rfl rfl hdg fun H1 e1 z1 oq => ?_
  refine kk H1 _ ⟨hw.1, hw.2.1.set he z1 ?_ oq, hw.2.2.1, hw.2.2.2.1, hw.2.2.2.2.put z1 oq (Nat.le_add_right _ _)⟩
  show H1[z + k0]? = some (vp_cell _ _)
  rw [e1]
  rw [vp_cell_i, vp_cell_i, arrV_store]
  congr 2
  funext q
  by_cases hq : q = i.toNatClampNeg
  · subst hq
    simp [updV, upd]
  · simp [updV, upd, hq]
theorem gs_alen (hC : Cx p s m args meth c cc nL ret own) (hw : GS G s z es H locs) {k0 n t : Nat} {cA : ClassId} {ty : FieldType} {f : Nat → Option Nat} (he : es[k0]? = some (.inl (cA, n, .inr (.inr (.inr (.inr f)))))) (ht : (ztyL G)[t]? = some (cA, ty)) {v : Int32} (hv : Int32.ofNat n = v) (hdg : decode cc pc = .ok (.arraylength, 1))
    (kk : W p l e R s m args below meth c H locs cells slots Q (F0 m (pc + 1) ls (.int v :: rest))) : W p l e R s m args below meth c H locs cells slots Q (F0 m pc ls (.ref (z + k0) :: rest)) := by
  subst hv
  exact W.alen (n := Int32.ofNat n) hC.1 hC.2.1 (hw.2.1.2 k0 _ he) ((hw.1.2 t _ ht).1 n (fun j => va_rf (f j))) (by rw [vp_cell_q, arrV_size] <;> rfl) rfl rfl hdg kk
theorem gs_aast (hC : Cx p s m args meth c cc nL ret own) (hw : GS G s z es H locs) {k0 kv ci n t : Nat} {cA : ClassId} {r : vw_C} {vs : List Value} {f : Nat → Option Nat} (he : es[k0]? = some (.inl (cA, n, .inr (.inr (.inr (.inr f)))))) (ht : (ztyL G)[t]? = some (cA, .object r.1)) (hv : es[kv]? = some (.inr (ci, vs))) (hc : vwCl[ci]? = some r) {i : Int32} (hin : vp_in i n) (es' : List va_E) (hes : es.set k0 (.inl (cA, n, .inr (.inr (.inr (.inr (va_up f i.toNatClampNeg (some (z + kv)))))))) = es') (hdg : decode cc pc = .ok (.aastore, 1))
    (kk : ∀ (H : Heap) (locs : List Loc), GS G s z es' H locs → W p l e R s m args below meth c H locs cells slots Q (F0 m (pc + 1) ls rest)) : W p l e R s m args below meth c H locs cells slots Q (F0 m pc ls (.ref (z + kv) :: .int i :: .ref (z + k0) :: rest)) := by
  subst hes
  have hlt : i.toNatClampNeg < n := Nat.not_le.mp fun q => hin (Or.inr q)
  have h0 : ¬ i < 0 := fun q => hin (Or.inl q)
  obtain ⟨r', hr', cellV, g1, g2, g3, -⟩ := hw.2.1.2 kv _ hv
  have hcls := (hw.1.1 ci r hc).2
  obtain ⟨kA, comp, k1, k2, k3, -⟩ := (hw.1.2 t _ ht).2
  have hcomp : comp = G.1.1 ci := Option.some.inj (k3.symm.trans hcls.1)
  subst hcomp
  obtain ⟨kC, hkC, -⟩ := hcls.2
  refine W.aast hC.1 hC.2.1 (hw.2.1.2 k0 _ he) (fun q h => by cases h) (fun h => by cases h) k1 k2 rfl hkC ⟨h0, by show _ < (arrV _ _ _).slots.size; rw [arrV_size]; exact hlt⟩ g1 (fun q h => by rw [g3] at h; cases h) (by rw [g2]; exact hkC) (by rw [g2]; exact va_assign hcls) rfl rfl hdg fun H1 e1 z1 oq => ?_
  refine kk H1 _ ⟨hw.1, hw.2.1.set he z1 ?_ oq, hw.2.2.1, hw.2.2.2.1, hw.2.2.2.2.put z1 oq (Nat.le_add_right _ _)⟩
  show H1[z + k0]? = some (vp_cell _ _)
  rw [e1]
  rw [vp_cell_q, vp_cell_q, arrV_store]
  congr 2
  funext q
  by_cases hq : q = i.toNatClampNeg
  · subst hq
    simp [updV, va_up, va_rf]
  · simp [updV, va_up, hq]
variable {y : MethodName} {bytes : ByteArray} {maxL maxL' mc ms : Nat} {rm : Room} {st : List Value} {lv : List (Nat × Value)}
def QG (G : Gv) (z : Nat) (es : List va_E) : Array Value → State → Outcome → State → Prop := va_Qv (fun (_ : Unit) => True) (fun _ t => GW G z es t) (GA z)
/-- what the tables say of a maker -/
def YI (y : MethodName) (bytes : ByteArray) (maxL : Nat) : Prop := (Cond.instanceMethod y ∈ zU ∧ Cond.initialized y.cls ∈ zU ∧ Cond.code y bytes maxL none ∈ zU) ∧ y.name = "<init>" ∧ (y.cls ≠ "java/lang/invoke/MethodHandle" ∧ y.cls ≠ "java/lang/invoke/VarHandle" ∧ (parseMethodDescriptor y.desc).map (fun d => d.parameters.length) = some 0)
theorem gs_callN (hC : Cx p s m args meth c cc nL ret own) {e0 : va_E} {es' : List va_E} (hw : GS G s z (es ++ [e0]) H locs) (hM : Met l y (.code y bytes maxL' none :: zU) rm (va_Pc [.ref (z + es.length)] (GW G (z + es.length) [e0])) (QG G (z + es.length) es') mc ms (GA (z + es.length))) (hY : YI y bytes maxL') {k : Nat} (hlink : znw[k]? = some (own, index, y)) (hrm : rm.cells = mc ∧ rm.slots = ms) (hR : rm.frames + 1 ≤ R.frames ∧ 8 + (maxL' + 11) + rm.locals ≤ R.locals) (hz : cells + mc ≤ R.cells ∧ slots + ms ≤ R.slots) (hst : st = .ref (z + es.length) :: rest) (hroom : (rest.map fun v => v.category).sum ≤ 8) (hl : lv_has ls nL lv) (hdg : decode cc pc = .ok (.invokespecial index, 3))
    (kk : ∀ (H : Heap) (locs : List Loc), GS G s z (es ++ es') H locs → W p l e R s m args below meth c H locs (cells + mc) (slots + ms) Q (F0 m (pc + 3) ls rest)) : W p l e R s m args below meth c H locs cells slots Q (F0 m pc ls st) := by
  have hA : ∀ q : Nat, GA (z + es.length) q → GA z q := fun q h => Nat.le_trans (Nat.le_add_right _ _) h
  refine va_callv (A1 := GA (z + es.length)) (va_runIN (As := []) (rest := rest) (Qc := QG G (z + es.length) es') ⟨hC.1, hC.2.1, hC.2.2.1, hC.2.2.2.1, hC.2.2.2.2.1⟩ hM ⟨va_cnB (host := "SnowCitizens") 0 hC.2.2.2.2.1 (zgood hY.1.2.2) rfl hrm.1 hrm.2 (hw.2.2.1 k _ hlink) (hC.2.2.2.2.1 _ hY.1.2.1) hY.2.2 hR, hY.2.1, hC.2.2.2.2.1 _ hY.1.1⟩ ⟨GW.blind, fun U hU hW => ⟨rfl, va_K.moved hW.alike hw.1, by rw [hU]; exact hw.2.1.last, fun i w h => va_Nw.warmM hW (hw.2.2.1 i w h), hw.2.2.2.1.moved hW.alike⟩⟩ rfl rfl hl.1 hst (lv_room hroom) hdg hz) hw.2.2.2.2 (fun q _ h => hA q h) hA (fun _ t H1 locs1 ht hvm hr hB hz1 hk1 hS => ?_)
  refine kk _ _ ⟨hw.1, hw.2.1.app (by rw [← ht]; exact hB.2.1) hk1, hw.2.2.1, hw.2.2.2.1, hS⟩
theorem gs_callI (hC : Cx p s m args meth c cc nL ret own) {e0 : va_E} {es' : List va_E} (hw : GS G s z (es ++ [e0]) H locs) (hM : Met l y (.code y bytes maxL' none :: zU) rm (va_Pc [.ref (z + es.length)] (GW G (z + es.length) [e0])) (QG G (z + es.length) es') mc ms (GA (z + es.length))) (hY : YI y bytes maxL') (hlink : Cond.methodLink own index y ∈ zU) (hrm : rm.cells = mc ∧ rm.slots = ms) (hR : rm.frames + 1 ≤ R.frames ∧ 8 + (maxL' + 11) + rm.locals ≤ R.locals) (hz : cells + mc ≤ R.cells ∧ slots + ms ≤ R.slots) (hst : st = .ref (z + es.length) :: rest) (hroom : (rest.map fun v => v.category).sum ≤ 8) (hl : lv_has ls nL lv) (hdg : decode cc pc = .ok (.invokespecial index, 3))
    (kk : ∀ (H : Heap) (locs : List Loc), GS G s z (es ++ es') H locs → W p l e R s m args below meth c H locs (cells + mc) (slots + ms) Q (F0 m (pc + 3) ls rest)) : W p l e R s m args below meth c H locs cells slots Q (F0 m pc ls st) := by
  have hA : ∀ q : Nat, GA (z + es.length) q → GA z q := fun q h => Nat.le_trans (Nat.le_add_right _ _) h
  refine va_callv (A1 := GA (z + es.length)) (va_runI (As := []) (rest := rest) (Qc := QG G (z + es.length) es') ⟨hC.1, hC.2.1, hC.2.2.1, hC.2.2.2.1, hC.2.2.2.2.1⟩ hM (cwI 0 hC.2.2.2.2.1 (zgood hY.1.2.2) rfl hrm.1 hrm.2 (hC.2.2.2.2.1 _ hY.1.2.1) (hC.2.2.2.2.1 _ hlink) (hC.2.2.2.2.1 _ hY.1.1) hY.2.1 hY.2.2 hR) ⟨GW.blind, fun U hU hW => ⟨rfl, va_K.moved hW.alike hw.1, by rw [hU]; exact hw.2.1.last, fun i w h => va_Nw.warmM hW (hw.2.2.1 i w h), hw.2.2.2.1.moved hW.alike⟩⟩ rfl rfl hl.1 hst (lv_room hroom) hdg hz) hw.2.2.2.2 (fun q _ h => hA q h) hA (fun _ t H1 locs1 ht hvm hr hB hz1 hk1 hS => ?_)
  refine kk _ _ ⟨hw.1, hw.2.1.app (by rw [← ht]; exact hB.2.1) hk1, hw.2.2.1, hw.2.2.2.1, hS⟩
theorem gs_vret (hC : Cx p s m args meth c cc nL none own) (hw : GS G s z es H locs) (hdg : decode cc pc = .ok (.return_, 1)) : W p l e R s m args below meth c H locs cells slots (MQ below (QG G z es) args s cells slots (GA z)) (F0 m pc ls []) :=
  W.vret hC.1 hC.2.1 hC.2.2.2.2.2.1 (fun t ht hW => ⟨⟨(), rfl, trivial, hw.gw ht hW⟩, hw.2.2.2.2.F ht⟩) hw.2.2.2.2.2.2 hdg hC.2.2.2.2.2.2
theorem zMetI {Qc : Array Value → State → Outcome → State → Prop} {e0 : va_E} (hy : plainName y.cls = true) (hown : y.cls = own) (hn : (lg_sl [Value.ref z]).length ≤ maxL) (body : ∀ p e s m below meth c, Cx p s m #[Value.ref z] meth c cc maxL none own → meth.name = y.name → GS G s z [e0] s.heap [] → ∀ ls, lv_has ls maxL [(0, .ref (z + 0))] → W p l e rm s m #[Value.ref z] below meth c s.heap [] 0 0 (MQ below Qc #[Value.ref z] s mc ms (GA z)) (F0 m 0 ls [])) : Met l y (.code y cc maxL none :: zU) rm (va_Pc [.ref z] (GW G z [e0])) Qc mc ms (GA z) := by
  refine Met.ofW (cc := cc) (maxL := maxL) (ret := none) hy rfl ?_
  intro p e s m args below meth c s₁ B hml hv
  obtain ⟨rfl, hK, hP, hN, hO⟩ := hv
  have hts := atoms_spec (ws := .code y cc maxL none :: zU) B.pre
  have hl := lv_entry [Value.ref z] hn
  rw [lg_entry_eq]
  exact body p e s m below meth c ⟨B.exec, B.bytes, hml, by rw [← hown]; exact findClass_of_methodNamed B.named, fun w h => hts w (List.mem_cons_of_mem _ h), B.returns, B.notSynchronized⟩ (name_of_methodNamed B.named B.method).1 ⟨hK, hP, hN, hO, va_S.rf⟩ _ hl
end ZG
