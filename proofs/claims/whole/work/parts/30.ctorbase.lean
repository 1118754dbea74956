/-! constructors: what the tables say for them; rows over a world that grows -/
def NI (U : State) : Prop :=
  (va_Nw (.methodLinkNest RX10 9 yX5_init "BarkPost") U ∧ va_Nw (.methodLinkNest RX10 12 yX0_init "BarkPost") U ∧ va_Nw (.methodLinkNest RX0 1 yX5_init "BarkPost") U ∧ va_Nw (.methodLinkNest RX10 15 yX4_init "BarkPost") U ∧ va_Nw (.methodLinkNest RX4 1 yX5_init "BarkPost") U ∧ va_Nw (.methodLinkNest RX10 18 yX1_init "BarkPost") U ∧ va_Nw (.methodLinkNest RX1 1 yX5_init "BarkPost") U ∧ va_Nw (.methodLinkNest RX10 21 yX8_init "BarkPost") U ∧ va_Nw (.methodLinkNest RX8 1 yX4_init "BarkPost") U ∧ va_Nw (.methodLinkNest RX10 24 yX6_init "BarkPost") U ∧ va_Nw (.methodLinkNest RX6 1 yX0_init "BarkPost") U ∧ va_Nw (.methodLinkNest RX10 33 yX2_init "BarkPost") U) ∧
  (va_AO "BarkPost$Plain" U ∧ va_AO "BarkPost$Forest" U) ∧
  (va_Nw (.castable "BarkPost$Ash" "BarkPost$Plain") U ∧ va_Nw (.castable "BarkPost$Oak" "BarkPost$Plain") U ∧ va_Nw (.castable "BarkPost$Beech" "BarkPost$Plain") U ∧ va_Nw (.castable "BarkPost$Stump" "BarkPost$Plain") U ∧ va_Nw (.castable "BarkPost$Resin" "BarkPost$Plain") U)
theorem NI.warm {s U : State} (hW : s.WarmedH U.vm) (h : NI s) : NI U := by
  obtain ⟨⟨a1, a2, a3, a4, a5, a6, a7, a8, a9, a10, a11, a12⟩, ⟨b1, b2⟩, c1, c2, c3, c4, c5⟩ := h
  exact ⟨⟨va_Nw.warmM hW a1, va_Nw.warmM hW a2, va_Nw.warmM hW a3, va_Nw.warmM hW a4, va_Nw.warmM hW a5, va_Nw.warmM hW a6, va_Nw.warmM hW a7, va_Nw.warmM hW a8, va_Nw.warmM hW a9, va_Nw.warmM hW a10, va_Nw.warmM hW a11, va_Nw.warmM hW a12⟩, ⟨va_AO.moved hW.alike b1, va_AO.moved hW.alike b2⟩, va_Nw.warmC hW c1, va_Nw.warmC hW c2, va_Nw.warmC hW c3, va_Nw.warmC hW c4, va_Nw.warmC hW c5⟩
theorem NI.same {u U : State} (e : u.vm = U.vm) (h : NI u) : NI U := by
  obtain ⟨⟨a1, a2, a3, a4, a5, a6, a7, a8, a9, a10, a11, a12⟩, ⟨b1, b2⟩, c1, c2, c3, c4, c5⟩ := h
  have hal : u.vm.Alike U.vm := by rw [e]; exact Vm.Alike.refl _
  exact ⟨⟨va_Nw.same rfl e a1, va_Nw.same rfl e a2, va_Nw.same rfl e a3, va_Nw.same rfl e a4, va_Nw.same rfl e a5, va_Nw.same rfl e a6, va_Nw.same rfl e a7, va_Nw.same rfl e a8, va_Nw.same rfl e a9, va_Nw.same rfl e a10, va_Nw.same rfl e a11, va_Nw.same rfl e a12⟩, ⟨va_AO.moved hal b1, va_AO.moved hal b2⟩, va_Nw.same rfl e c1, va_Nw.same rfl e c2, va_Nw.same rfl e c3, va_Nw.same rfl e c4, va_Nw.same rfl e c5⟩
def PreN (D : va_G) (ca : Nat → ClassId) (ws : va_W) (sz : Nat) (av : List Value) : Array Value → State → Prop := fun a U => PreC D ca ws sz av a U ∧ NI U
def PostN {S : Type} (D : va_G) (A : Nat → Prop) (w1 : S → va_W) (P : S → Prop) : Array Value → State → Outcome → State → Prop := va_Qv P (fun u t => va_P D vwCl (w1 u) t.heap ∧ va_D A (w1 u)) A
section CTB
variable {p : Program} {l : Launch} {e : Env} {R : Room} {s : State} {m : MethodId} {args : Array Value} {below : List Frame} {meth : Method} {c : Code} {H : Heap} {locs : List Loc} {Q : State → Prop} {cc : ByteArray} {pc : Nat} {ls : Array Slot} {rest st0 : List Value} {D : va_G} {ca : Nat → ClassId} {A : Nat → Prop} {own : String} {nL : Nat} {ret : Option FieldType} {ws ws' : va_W} {cells slots : Nat}
theorem blindN (D : va_G) (ca : Nat → ClassId) (ws : va_W) (sz : Nat) (av : List Value) : FrameBlind (PreN D ca ws sz av) := fun a U g mk h => ⟨blind D ca ws sz av a U g mk h.1, NI.same rfl h.2⟩
theorem preN (C : Cx p s m args meth c D ca A cc own nL ret) (w : Wd A s D ws H locs) (hI : NI s) (av : List Value) : ∀ U : State, U.heap = H → s.WarmedH U.vm → PreN D ca ws H.size av av.toArray U := fun U hU hW => ⟨preW C w av U hU hW, NI.warm hW hI⟩
theorem Wd.sub (w : Wd A s D ws H locs) (is : List Nat) (hn : va_nd is = true) (hs : is.map (fun i => ws[i]?) = ws'.map some) : Wd A s D ws' H locs := by
  refine ⟨fun k q hq => ?_, w.2.1.sub is hn hs, w.2.2⟩
  have h1 : (is.map (fun i => ws[i]?))[k]? = some (some q) := by rw [hs, List.getElem?_map, hq]; rfl
  rw [List.getElem?_map] at h1
  cases hi : is[k]? with
  | none => rw [hi] at h1; cases h1
  | some i => rw [hi] at h1; exact w.1 i q (Option.some.inj h1)
theorem rnew (C : Cx p s m args meth c D ca A cc own nL ret) (w : Wd A s D ws H locs) {R0 : String} {T : u_T} {N ci index : Nat} {fs : List Value} (ty : Nat → FieldType) (hin : ∀ w ∈ u_ws R0 T N, w ∈ WL) (hty : ∀ k, k < N → parseFieldDescriptor (T k).2.2.1 = some (ty k)) (hcl : Cond.classLink own index R0 ∈ WL) (hinst : Cond.instantiable R0 N ∈ WL) (hini : Cond.initialized R0 ∈ WL) (hc : vwCl[ci]? = some (R0, T, N)) (hfs : ∀ j, j < N → defaultValue (ty j) = vp_V fs j) (hcells : cells + 1 ≤ R.cells) (hslots : slots + N ≤ R.slots) (hdg : decode cc pc = .ok (.new index, 3))
    (kk : ∀ (q : Nat) (H1 : Heap), Wd A s D (ws ++ [(q, .inr (ci, fs))]) H1 locs → W p l e R s m args below meth c H1 locs (cells + 1) (slots + N) Q (F0 m (pc + 3) ls (.ref q :: rest))) : W p l e R s m args below meth c H locs cells slots Q (F0 m pc ls rest) :=
  va_new C.1 C.2.1 C.ts hin ty hty C.ow (C.ts _ hcl) (C.ts _ hinst) (C.ts _ hini) C.K w.1 w.2.1 w.2.2 C.hA hc hfs hcells hslots hdg (fun q H1 h1 h2 h3 => kk q H1 ⟨h1, h2, h3⟩)
theorem rnwa (C : Cx p s m args meth c D ca A cc own nL ret) (w : Wd A s D ws H locs) {atype : ArrayType} {ty : FieldType} {n : Int32} {N' : Nat} (t : Nat) (hty : newarray.typeOf atype = ty) (harr : Cond.arrayClass (newarray.typeOf atype) ∈ WL) (ht : (TY ca)[t]? = some (ca t, ty)) (hd : defaultValue ty = .int 0) (hRA : ∀ cA, va_RA s cA ty → s.vm.findClass ("[" ++ ty.toString) = some cA) (hn : ¬ n < 0) (hN : n.toNatClampNeg = N') (hbytes : N' * componentBytes ty ≤ 536870912) (hcells : cells + 1 ≤ R.cells) (hslots : slots + N' ≤ R.slots) (hdg : decode cc pc = .ok (.newarray atype, 2))
    (kk : ∀ (q : Nat) (H1 : Heap), Wd A s D (ws ++ [(q, .inl (ca t, N', .inl (fun _ => 0)))]) H1 locs → W p l e R s m args below meth c H1 locs (cells + 1) (slots + N') Q (F0 m (pc + 2) ls (.ref q :: rest))) : W p l e R s m args below meth c H locs cells slots Q (F0 m pc ls (.int n :: rest)) :=
  va_newa C.1 C.2.1 (C.ts _ harr) hty C.K w.1 w.2.1 w.2.2 C.hA (a0 := (N', .inl (fun _ => 0))) (fun cA => by rw [hd]; rfl) hn hN hbytes hcells hslots hdg (fun q cA H1 hK h1 h2 h3 => by
    have e1 := hRA cA (hK.2 5 (cA, ty) rfl).2
    have e2 := hRA (ca t) (C.K.2 t (ca t, ty) ht).2
    have e3 : cA = ca t := Option.some.inj (e1.symm.trans e2)
    subst e3
    exact kk q H1 ⟨h1, h2, h3⟩)
theorem rnwq (C : Cx p s m args meth c D ca A cc own nL ret) (w : Wd A s D ws H locs) {E : String} {index : Nat} {n : Int32} {N' : Nat} (t : Nat) (hcl : Cond.classLink own index E ∈ WL) (hover : va_AO E s) (ht : (TY ca)[t]? = some (ca t, .object E)) (hn : ¬ n < 0) (hN : n.toNatClampNeg = N') (hbytes : N' * 4 ≤ 536870912) (hcells : cells + 1 ≤ R.cells) (hslots : slots + N' ≤ R.slots) (hdg : decode cc pc = .ok (.anewarray index, 3))
    (kk : ∀ (q : Nat) (H1 : Heap), Wd A s D (ws ++ [(q, .inl (ca t, N', .inr (.inr (.inr (.inr (fun _ => none))))))]) H1 locs → W p l e R s m args below meth c H1 locs (cells + 1) (slots + N') Q (F0 m (pc + 3) ls (.ref q :: rest))) : W p l e R s m args below meth c H locs cells slots Q (F0 m pc ls (.int n :: rest)) :=
  va_newq C.1 C.2.1 C.ow (C.ts _ hcl) hover C.K w.1 w.2.1 w.2.2 C.hA hn hN hbytes hcells hslots hdg (fun q cA H1 hK h1 h2 h3 => by
    obtain ⟨k1, m1, -, -, -, f1⟩ := (hK.2 5 (cA, .object E) rfl).2
    obtain ⟨k2, m2, -, -, -, f2⟩ := (C.K.2 t (ca t, .object E) ht).2
    have e3 : cA = ca t := Option.some.inj (f1.symm.trans f2)
    subst e3
    exact kk q H1 ⟨h1, h2, h3⟩)
theorem raas (C : Cx p s m args meth c D ca A cc own nL ret) (w : Wd A s D ws H locs) {a n v ci : Nat} {r : vw_C} {vs : List Value} {f : Nat → Option Nat} {i : Int32} {j : Nat} (q0 t qk : Nat) (ha : ws[q0]? = some (a, .inl (ca t, n, .inr (.inr (.inr (.inr f)))))) (ht : (TY ca)[t]? = some (ca t, .object r.1)) (hv : ws[qk]? = some (v, .inr (ci, vs))) (hc : vwCl[ci]? = some r) (hin : vp_in i n) (hj : i.toNatClampNeg = j) (hw : ws.set q0 (a, .inl (ca t, n, .inr (.inr (.inr (.inr (va_up f j (some v))))))) = ws') (hdg : decode cc pc = .ok (.aastore, 1))
    (kk : ∀ (H1 : Heap) (locs1 : List Loc), Wd A s D ws' H1 locs1 → W p l e R s m args below meth c H1 locs1 cells slots Q (F0 m (pc + 1) ls rest)) : W p l e R s m args below meth c H locs cells slots Q (F0 m pc ls (.ref v :: .int i :: .ref a :: rest)) := by
  subst hj
  exact va_astq C.1 C.2.1 C.K w.1 w.2.1 w.2.2 q0 t qk ci ha ht hv hc hin hdg (fun H1 locs1 h1 h2 h3 => kk H1 locs1 ⟨hw ▸ h1, hw ▸ h2, h3⟩)
theorem raao (C : Cx p s m args meth c D ca A cc own nL ret) (w : Wd A s D ws H locs) {E : String} {a n v ci : Nat} {r : vw_C} {vs : List Value} {f : Nat → Option Nat} {i : Int32} {j : Nat} (q0 t qk : Nat) (ha : ws[q0]? = some (a, .inl (ca t, n, .inr (.inr (.inr (.inr f)))))) (ht : (TY ca)[t]? = some (ca t, .object E)) (hca : va_Nw (.castable r.1 E) s) (hv : ws[qk]? = some (v, .inr (ci, vs))) (hc : vwCl[ci]? = some r) (hin : vp_in i n) (hj : i.toNatClampNeg = j) (hw : ws.set q0 (a, .inl (ca t, n, .inr (.inr (.inr (.inr (va_up f j (some v))))))) = ws') (hdg : decode cc pc = .ok (.aastore, 1))
    (kk : ∀ (H1 : Heap) (locs1 : List Loc), Wd A s D ws' H1 locs1 → W p l e R s m args below meth c H1 locs1 cells slots Q (F0 m (pc + 1) ls rest)) : W p l e R s m args below meth c H locs cells slots Q (F0 m pc ls (.ref v :: .int i :: .ref a :: rest)) := by
  subst hj
  exact va_astqO C.1 C.2.1 C.K w.1 w.2.1 w.2.2 q0 t qk ci ha ht hca hv hc hin hdg (fun H1 locs1 h1 h2 h3 => kk H1 locs1 ⟨hw ▸ h1, hw ▸ h2, h3⟩)
theorem rpf (C : Cx p s m args meth c D ca A cc own nL ret) (w : Wd A s D ws H locs) (hin2 : meth.name = "<init>") {R0 ref : String} {T : u_T} {ty0 : Nat → FieldType} {N ci index a : Nat} {fs : List Value} {v : Value} {ty : FieldType} (q0 k : Nat) (he : ws[q0]? = some (a, .inr (ci, fs))) (hc : vwCl[ci]? = some (R0, T, N)) (hin : ∀ w ∈ u_ws R0 T N, w ∈ WL) (hty : ∀ k, k < N → parseFieldDescriptor (T k).2.2.1 = some (ty0 k)) (hnm : ∀ a, a < N → ∀ b, b < N → a ≠ b → (T a).2.1 ≠ (T b).2.1) (hk : k < N) (hl : Cond.fieldLink own index ref (T k).2.1 (T k).2.2.1 ∈ WL) (hr : ref = (T k).1) (hfin : (T k).2.2.2 = true) (hdecl : (T k).1 = own) (hd : parseFieldDescriptor (T k).2.2.1 = some ty) (hn : narrow ty v = v) (hfit : fits ty v = true) (hlen : k < fs.length) (hw : ws.set q0 (a, .inr (ci, fs.set k v)) = ws') (hdg : decode cc pc = .ok (.putfield index, 3))
    (kk : ∀ (H1 : Heap) (locs1 : List Loc), Wd A s D ws' H1 locs1 → W p l e R s m args below meth c H1 locs1 cells slots Q (F0 m (pc + 3) ls rest)) : W p l e R s m args below meth c H locs cells slots Q (F0 m pc ls (v :: .ref a :: rest)) :=
  va_putF C.1 C.2.1 C.ts hin ty0 hty hnm C.ow C.K w.1 w.2.1 w.2.2 q0 he hc k hk (C.ts _ hl) (fun _ h => by rw [hr]; exact h) hfin hin2 hdecl hd hn hfit hlen hdg (fun H1 locs1 h1 h2 h3 => kk H1 locs1 ⟨hw ▸ h1, hw ▸ h2, h3⟩)
theorem rpn (C : Cx p s m args meth c D ca A cc own nL ret) (w : Wd A s D ws H locs) {R0 ref : String} {T : u_T} {ty0 : Nat → FieldType} {N ci index a : Nat} {fs : List Value} {v : Value} {ty : FieldType} (q0 k : Nat) (he : ws[q0]? = some (a, .inr (ci, fs))) (hc : vwCl[ci]? = some (R0, T, N)) (hin : ∀ w ∈ u_ws R0 T N, w ∈ WL) (hty : ∀ k, k < N → parseFieldDescriptor (T k).2.2.1 = some (ty0 k)) (hnm : ∀ a, a < N → ∀ b, b < N → a ≠ b → (T a).2.1 ≠ (T b).2.1) (hk : k < N) (hl : Cond.fieldLink own index ref (T k).2.1 (T k).2.2.1 ∈ WL) (hr : ref = (T k).1) (hfin : (T k).2.2.2 = false) (hd : parseFieldDescriptor (T k).2.2.1 = some ty) (hn : narrow ty v = v) (hfit : fits ty v = true) (hlen : k < fs.length) (hw : ws.set q0 (a, .inr (ci, fs.set k v)) = ws') (hdg : decode cc pc = .ok (.putfield index, 3))
    (kk : ∀ (H1 : Heap) (locs1 : List Loc), Wd A s D ws' H1 locs1 → W p l e R s m args below meth c H1 locs1 cells slots Q (F0 m (pc + 3) ls rest)) : W p l e R s m args below meth c H locs cells slots Q (F0 m pc ls (v :: .ref a :: rest)) :=
  va_put C.1 C.2.1 C.ts hin ty0 hty hnm C.ow C.K w.1 w.2.1 w.2.2 q0 he hc k hk (C.ts _ hl) (fun _ h => by rw [hr]; exact h) hfin hd hn hfit hlen hdg (fun H1 locs1 h1 h2 h3 => kk H1 locs1 ⟨hw ▸ h1, hw ▸ h2, h3⟩)
theorem rgn (C : Cx p s m args meth c D ca A cc own nL ret) (w : Wd A s D ws H locs) {R0 ref : String} {T : u_T} {N ci index a : Nat} {fs : List Value} {v : Value} (q0 k : Nat) (he : ws[q0]? = some (a, .inr (ci, fs))) (hc : vwCl[ci]? = some (R0, T, N)) (hin : ∀ w ∈ u_ws R0 T N, w ∈ WL) (hk : k < N) (hl : Cond.fieldLink own index ref (T k).2.1 (T k).2.2.1 ∈ WL) (hr : ref = (T k).1) (hv : fs[k]? = some v) (hdg : decode cc pc = .ok (.getfield index, 3))
    (kk : W p l e R s m args below meth c H locs cells slots Q (F0 m (pc + 3) ls (v :: rest))) : W p l e R s m args below meth c H locs cells slots Q (F0 m pc ls (.ref a :: rest)) :=
  va_get C.1 C.2.1 C.ts hin C.ow C.K w.1 q0 he hc k hk (C.ts _ hl) (fun _ h => by rw [hr]; exact h) hv hdg kk
theorem robj (C : Cx p s m args meth c D ca A cc own nL ret) (hl : ls.size = nL) {index a : Nat} (h1 : Cond.methodLink own index objectInit ∈ WL) (hdg : decode cc pc = .ok (.invokespecial index, 3)) (hf : 1 ≤ R.frames) (hlo : 30 ≤ R.locals) (hrs : (rest.map fun v => v.category).sum ≤ 8)
    (kk : W p l e R s m args below meth c H locs cells slots Q (F0 m (pc + 3) ls rest)) : W p l e R s m args below meth c H locs cells slots Q (F0 m pc ls (.ref a :: rest)) := by
  have hr9 := lv_room (m := m) (pc := pc) (ls := ls) (rest := .ref a :: rest) hrs
  exact W.objInit C.1 C.2.1 C.ow (C.ts _ h1) (C.ts _ wl_10) (C.ts _ wl_11) rfl (hl.trans C.2.2.1.symm) rfl hdg hf (by omega) kk
/-- a constructor of a nest mate, or of another class, is run over a part of the world -/
theorem run_IN (C : Cx p s m args meth c D ca A cc own nL ret) (w : Wd A s D ws H locs) (hI : NI s) (hl : ls.size = nL) {host : String} {a index n b9 mc ms : Nat} {As : List Value} {y : MethodName} {b : ByteArray} {rm : Room} {Qc : Array Value → State → Outcome → State → Prop} {free : Addr → Prop}
    (hM : Met l y (.code y b b9 none :: WL) rm (PreN D ca ws H.size (.ref a :: As)) Qc mc ms free) (hrc : rm.cells = mc) (hrs : rm.slots = ms)
    (h1 : va_Nw (.methodLinkNest own index y host) s) (h2 : Cond.instanceMethod y ∈ WL) (h4 : Cond.initialized y.cls ∈ WL) (h5 : Cond.code y b b9 none ∈ WL) (hy : y.name = "<init>")
    (hd : y.cls ≠ "java/lang/invoke/MethodHandle" ∧ y.cls ≠ "java/lang/invoke/VarHandle" ∧ (parseMethodDescriptor y.desc).map (fun d => d.parameters.length) = some n) (hn : As.length = n) (hR : rm.frames + 1 ≤ R.frames ∧ 8 + (b9 + 11) + rm.locals ≤ R.locals)
    (hst : st0 = As.reverse ++ .ref a :: rest) (hW : (rest.map fun v => v.category).sum ≤ 8) (hdg : decode cc pc = .ok (.invokespecial index, 3)) (hc : cells + mc ≤ R.cells ∧ slots + ms ≤ R.slots) :
    va_Run p l e R s m args below meth c H locs cells slots mc ms (F0 m pc ls st0) rest (Qc (.ref a :: As).toArray) free := by
  subst hst
  exact va_runIN (As := As) (rest := rest) C.fix hM ⟨va_cnB n C.ts (gL (gM h5)) rfl hrc hrs h1 (C.ts _ h4) hd hR, hy, C.ts _ h2⟩ ⟨blindN D ca ws H.size (.ref a :: As), preN C w hI (.ref a :: As)⟩ rfl hn hl rfl (lv_room hW) hdg hc
theorem run_I (C : Cx p s m args meth c D ca A cc own nL ret) (w : Wd A s D ws H locs) (hI : NI s) (hl : ls.size = nL) {a index n b9 mc ms : Nat} {As : List Value} {y : MethodName} {b : ByteArray} {rm : Room} {Qc : Array Value → State → Outcome → State → Prop} {free : Addr → Prop}
    (hM : Met l y (.code y b b9 none :: WL) rm (PreN D ca ws H.size (.ref a :: As)) Qc mc ms free) (hrc : rm.cells = mc) (hrs : rm.slots = ms)
    (h1 : Cond.methodLink own index y ∈ WL) (h2 : Cond.instanceMethod y ∈ WL) (h4 : Cond.initialized y.cls ∈ WL) (h5 : Cond.code y b b9 none ∈ WL) (hy : y.name = "<init>")
    (hd : y.cls ≠ "java/lang/invoke/MethodHandle" ∧ y.cls ≠ "java/lang/invoke/VarHandle" ∧ (parseMethodDescriptor y.desc).map (fun d => d.parameters.length) = some n) (hn : As.length = n) (hR : rm.frames + 1 ≤ R.frames ∧ 8 + (b9 + 11) + rm.locals ≤ R.locals)
    (hst : st0 = As.reverse ++ .ref a :: rest) (hW : (rest.map fun v => v.category).sum ≤ 8) (hdg : decode cc pc = .ok (.invokespecial index, 3)) (hc : cells + mc ≤ R.cells ∧ slots + ms ≤ R.slots) :
    va_Run p l e R s m args below meth c H locs cells slots mc ms (F0 m pc ls st0) rest (Qc (.ref a :: As).toArray) free := by
  subst hst
  exact va_runI (As := As) (rest := rest) C.fix hM (cwI n C.ts (gL (gM h5)) rfl hrc hrs (C.ts _ h4) (C.ts _ h1) (C.ts _ h2) hy hd hR) ⟨blindN D ca ws H.size (.ref a :: As), preN C w hI (.ref a :: As)⟩ rfl hn hl rfl (lv_room hW) hdg hc
theorem res_n {S : Type} {P : S → Prop} {wc wr : va_W} {w1 : S → va_W} {mc ms : Nat} {av : Array Value} (C : Cx p s m args meth c D ca A cc own nL ret) (w : Wd A s D ws H locs) (isC isR : List Nat) (hC : isC.map (fun i => ws[i]?) = wc.map some) (hR : isR.map (fun i => ws[i]?) = wr.map some) (hn : va_nd isR = true) (hdis : ∀ i ∈ isR, i ∉ isC)
    (hr : va_Run p l e R s m args below meth c H locs cells slots mc ms (F0 m pc ls st0) rest (PostN D (va_A wc H.size) w1 P av) (va_A wc H.size))
    (kk : ∀ (u : S) (H1 : Heap) (locs1 : List Loc), P u → Wd A s D (wr ++ w1 u) H1 locs1 → W p l e R s m args below meth c H1 locs1 (cells + mc) (slots + ms) Q (F0 m (pc + 3) ls rest)) : W p l e R s m args below meth c H locs cells slots Q (F0 m pc ls st0) := by
  have hF := va_free (wc := wc) w.2.1 w.2.2 C.hA isC hC
  refine va_callv hr w.2.2 (fun q _ h => hF q h) hF (fun u t H1 locs1 ht hvm hw hB hz1 hk1 hS => ?_)
  obtain ⟨hP1, hD1⟩ := hB
  rw [ht] at hP1
  obtain ⟨hP, hD⟩ := va_join (wr := wr) (w1 := w1 u) w.1 w.2.1 isC isR hC hR hn hdis hk1 hF hP1 hD1
  exact kk u H1 locs1 hw ⟨hP, hD, hS⟩
theorem res_w {mc ms : Nat} {av : Array Value} (C : Cx p s m args meth c D ca A cc own nL ret) (w : Wd A s D ws H locs) (hr : va_Run p l e R s m args below meth c H locs cells slots mc ms (F0 m pc ls st0) rest (PostV D (va_A ws H.size) ws' av) (va_A ws H.size))
    (kk : ∀ (H1 : Heap) (locs1 : List Loc), Wd A s D ws' H1 locs1 → W p l e R s m args below meth c H1 locs1 (cells + mc) (slots + ms) Q (F0 m (pc + 3) ls rest)) : W p l e R s m args below meth c H locs cells slots Q (F0 m pc ls st0) :=
  va_callv hr w.2.2 (fun q _ h => w.free C q h) (w.free C) (fun u t H1 locs1 ht hvm hw hB hz1 hk1 hS => by
    obtain ⟨hP1, hD1⟩ := hB
    rw [ht] at hP1
    exact kk H1 locs1 ⟨hP1, hD1.weaken (fun _ _ _ h => w.free C _ h), hS⟩)
theorem rN {S : Type} {P : S → Prop} {w1 : S → va_W} (u : S) (hu : P u) (C : Cx p s m args meth c D ca A cc own nL none) (w : Wd A s D (w1 u) H locs) (hdg : decode cc pc = .ok (.return_, 1)) : W p l e R s m args below meth c H locs cells slots (MQ below (PostN D A w1 P) args s cells slots A) (F0 m pc ls []) := by
  have hlocks := C.locks
  exact W.vret C.1 C.2.1 C.rt (fun t ht hW => ⟨⟨u, rfl, hu, by rw [ht]; exact w.1, w.2.1⟩, w.2.2.F ht⟩) w.2.2.2.2 hdg
theorem rVW (C : Cx p s m args meth c D ca A cc own nL none) (w : Wd A s D ws H locs) (hdg : decode cc pc = .ok (.return_, 1)) : W p l e R s m args below meth c H locs cells slots (MQ below (PostV D A ws) args s cells slots A) (F0 m pc ls []) := by
  have hlocks := C.locks
  exact W.vret C.1 C.2.1 C.rt (fun t ht hW => ⟨⟨(), rfl, trivial, by rw [ht]; exact w.1, w.2.1⟩, w.2.2.F ht⟩) w.2.2.2.2 hdg
theorem Wd.swap {cA : ClassId} {a : Nat} {x y : vp_A} (w : Wd A s D ws H locs) (k : Nat) (hk : ws[k]? = some (a, .inl (cA, x))) (hxy : vp_cell cA x = vp_cell cA y) (hw : ws.set k (a, .inl (cA, y)) = ws') : Wd A s D ws' H locs := by
  subst hw
  refine ⟨fun j q hj => ?_, w.2.1.set hk, w.2.2⟩
  by_cases e : k = j
  · subst e
    have hlt : k < ws.length := (List.getElem?_eq_some_iff.mp hk).1
    rw [List.getElem?_set_self hlt] at hj
    cases hj
    have h := w.1 k _ hk
    show H[a]? = some (vp_cell cA y)
    rw [← hxy]
    exact h
  · rw [List.getElem?_set_ne e] at hj
    exact w.1 j q hj
end CTB
theorem arr_q (cA : ClassId) (n : Nat) {f g : Nat → Option Nat} (h : ∀ j, j < n → f j = g j) : vp_cell cA (n, .inr (.inr (.inr (.inr f)))) = vp_cell cA (n, .inr (.inr (.inr (.inr g)))) := by
  show arrV cA n (fun j => va_rf (f j)) = arrV cA n (fun j => va_rf (g j))
  unfold arrV
  congr 1
  congr 1
  funext j
  show va_rf (f j.val) = va_rf (g j.val)
  rw [h j.val j.isLt]
