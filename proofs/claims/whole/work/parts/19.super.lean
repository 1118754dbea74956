/-! super.m(..): an object of the world is there; the method is the superclass's own, or one that it inherits -/
def Rcv (ws : va_W) (h : Nat) : Prop := ∃ (q0 ci : Nat) (fs : List Value) (r : vw_C), ws[q0]? = some (h, .inr (ci, fs)) ∧ vwCl[ci]? = some r
theorem gU {own C owner : String} {i : Nat} {x y : MethodName} {b : ByteArray} {n : Nat} {r : Option FieldType} (h1 : Cond.methodLink own i x ∈ WL) (h2 : Cond.sameMethod x.cls owner x.name x.desc ∈ WL) (h4 : Cond.selects C x y ∈ WL) (h6 : Cond.instanceMethod y ∈ WL) (h7 : Cond.initialized y.cls ∈ WL) (h5 : Cond.code y b n r ∈ WL) : GoodIn WL (va_wsU own i C owner x y (.code y b n r :: WL)) := gL (fun w hw => by
  unfold va_wsU at hw
  rcases List.mem_append.mp hw with hw | hw
  · simp only [List.mem_cons, List.not_mem_nil, or_false] at hw
    rcases hw with rfl | rfl | rfl | rfl | rfl <;> assumption
  · exact gM h5 w hw)
section SUP
variable {p : Program} {l : Launch} {e : Env} {R : Room} {s : State} {m : MethodId} {args : Array Value} {below : List Frame} {meth : Method} {c : Code} {H : Heap} {locs : List Loc} {Q : State → Prop} {cc : ByteArray} {pc : Nat} {ls : Array Slot} {rest st0 : List Value} {D : va_G} {ca : Nat → ClassId} {A : Nat → Prop} {own : String} {nL : Nat} {ret : Option FieldType} {ws ws' : va_W}
theorem run_SU (C : Cx p s m args meth c D ca A cc own nL ret) (w : Wd A s D ws H locs) (hl : ls.size = nL) {a index n b9 : Nat} {As : List Value} {y : MethodName} {b : ByteArray} {rt : Option FieldType} {rm : Room} {Qc : Array Value → State → Outcome → State → Prop} {free : Addr → Prop}
    (hq : Rcv ws a) (hM : Met l y (.code y b b9 rt :: WL) rm (PreC D ca ws H.size (.ref a :: As)) Qc 0 0 free) (hrc : rm.cells = 0) (hrs : rm.slots = 0)
    (h1 : Cond.methodLink own index y ∈ WL) (h2 : Cond.sameMethod y.cls y.cls y.name y.desc ∈ WL) (h3 : Cond.superclass own y.cls ∈ WL) (h4 : Cond.instanceMethod y ∈ WL) (h6 : Cond.initialized y.cls ∈ WL) (h5 : Cond.code y b b9 rt ∈ WL)
    (hd : y.name ≠ "<init>" ∧ (parseMethodDescriptor y.desc).map (fun d => d.parameters.length) = some n) (hn : As.length = n) (hR : rm.frames + 1 ≤ R.frames ∧ 8 + (b9 + 11) + rm.locals ≤ R.locals)
    (hst : st0 = As.reverse ++ .ref a :: rest) (hW : (rest.map fun v => v.category).sum ≤ 8) (hdg : decode cc pc = .ok (.invokespecial index, 3)) :
    va_Run p l e R s m args below meth c H locs 0 0 0 0 (F0 m pc ls st0) rest (Qc (.ref a :: As).toArray) free := by
  subst hst
  obtain ⟨q0, ci, fs, r, hq1, hq2⟩ := hq
  exact va_runSU (As := As) (rest := rest) (C.K.1 ci r hq2).2 C.fix hM (va_cwSU n C.ts (gSU h1 h2 h3 h4 h6 h5) rfl hrc hrs hd hR) ⟨blind D ca ws H.size (.ref a :: As), va_recv C.K w.1 hq2 hq1, preW C w (.ref a :: As)⟩ rfl hn hl rfl (lv_room hW) hdg ⟨Nat.zero_le _, Nat.zero_le _⟩
theorem run_SX (C : Cx p s m args meth c D ca A cc own nL ret) (w : Wd A s D ws H locs) (hl : ls.size = nL) {a index n b9 : Nat} {As : List Value} {x y : MethodName} {b : ByteArray} {rt : Option FieldType} {rm : Room} {Qc : Array Value → State → Outcome → State → Prop} {free : Addr → Prop}
    (hq : Rcv ws a) (hM : Met l y (.code y b b9 rt :: WL) rm (PreC D ca ws H.size (.ref a :: As)) Qc 0 0 free) (hrc : rm.cells = 0) (hrs : rm.slots = 0)
    (h1 : Cond.methodLink own index x ∈ WL) (h2 : Cond.sameMethod x.cls y.cls x.name x.desc ∈ WL) (h3 : Cond.superclass own x.cls ∈ WL) (h9 : Cond.superclass x.cls y.cls ∈ WL) (h4 : Cond.instanceMethod y ∈ WL) (h6 : Cond.initialized y.cls ∈ WL) (h5 : Cond.code y b b9 rt ∈ WL)
    (hd : y.name ≠ "<init>" ∧ (parseMethodDescriptor y.desc).map (fun d => d.parameters.length) = some n) (hn : As.length = n) (hR : rm.frames + 1 ≤ R.frames ∧ 8 + (b9 + 11) + rm.locals ≤ R.locals)
    (hst : st0 = As.reverse ++ .ref a :: rest) (hW : (rest.map fun v => v.category).sum ≤ 8) (hdg : decode cc pc = .ok (.invokespecial index, 3)) (hxn : x.name = y.name) (hxd : x.desc = y.desc) :
    va_Run p l e R s m args below meth c H locs 0 0 0 0 (F0 m pc ls st0) rest (Qc (.ref a :: As).toArray) free := by
  subst hst
  obtain ⟨q0, ci, fs, r, hq1, hq2⟩ := hq
  have hW8 := lv_room (m := m) (pc := pc) (ls := ls) (rest := As.reverse ++ .ref a :: rest) hW
  have hG : GoodIn WL (.code y b b9 rt :: WL) := gL (gM h5)
  have hini := C.ts _ h6
  have hcode := C.ts _ h5
  have hK : Back l R p e below s args y 3 8 (PreOf R 0 0 (PreC D ca ws H.size (.ref a :: As))) (PostOf Qc 0 0 free) := back_of (bytes := b) (maxL := b9) (ret := rt) hM (blind D ca ws H.size (.ref a :: As)) hrc hrs hR.1 hR.2 (pay_in C.ts hG) List.mem_cons_self (fun a' U hW => word_at hW (Or.inl (by first | rfl | simp [Cond.onTables, Cond.keeps, Cond.steady])) hini)
  obtain ⟨cellB, hcB, hoB, hclB⟩ := va_recv C.K w.1 hq2 hq1
  obtain ⟨hfc, kB, hkB, -⟩ := (C.K.1 ci r hq2).2
  have hcls : D.1 ci = cellB.cls := Option.some.inj (hfc.symm.trans hclB)
  rw [hcls] at hkB
  obtain ⟨mk, methM, hnamed, hmethM, hstM, habM⟩ := Cond.instanceMethod_spec (C.ts _ h4)
  obtain ⟨methM', cM, hmethM', -, -, -, -, -, -, hsigM⟩ := Cond.code_spec hnamed hcode
  cases hmethM.symm.trans hmethM'
  obtain ⟨ps, dk, kp, hps, hdk, hkp, hsuper, -, -, hnid⟩ := Cond.superclass_spec C.ow (C.ts _ h3)
  obtain ⟨ps2, dk2, kp2, hps2, hdk2, hkp2, hsuper2, -, -, -⟩ := Cond.superclass_spec hps (C.ts _ h9)
  have hpm : ps2 = mk.cls := Option.some.inj (hps2.symm.trans (findClass_of_methodNamed hnamed))
  have hlt : ps < s.vm.classes.size := (Array.getElem?_eq_some_iff.mp hdk2).1
  have hsub : s.vm.isSubclass ps mk.cls = true := by
    obtain ⟨z, hz⟩ : ∃ z, s.vm.classes.size = z + 1 := ⟨s.vm.classes.size - 1, (Nat.sub_add_cancel (Nat.succ_le_of_lt (Nat.lt_of_le_of_lt (Nat.zero_le _) hlt))).symm⟩
    rw [← hpm]
    simp [Vm.isSubclass, Vm.isSubclassAux, hdk2, hsuper2, hz]
  have hn9 : s.methodNamed? ⟨y.cls, x.name, x.desc⟩ = some mk := by rw [hxn, hxd]; exact hnamed
  have hlen : As.length = methM.sig.parameters.length := by
    have h := hd.2
    rw [hsigM] at h
    exact hn.trans (Option.some.inj h).symm
  intro T hT X
  obtain ⟨vm₁, X₁, hstep₁⟩ := X.invokespecialUp C.1 C.ow (C.ts _ h1) (C.ts _ h2) hn9 hmethM hstM habM (by rw [hxn]; exact hd.1) hdk hnid hps hsuper hsub (a := a) (cell := cellB) (by rw [hT]; exact hcB) (fun z h => by rw [h] at hoB; cases hoB) hkB (g := F0 m pc ls (As.reverse ++ .ref a :: rest)) rfl (argsL := As) (rest := rest) hlen rfl (by rw [C.2.1]; exact hdg)
  obtain ⟨v, B, X', hpost, hsteps⟩ := hK m meth c ⟨T.setVm vm₁, locs, 0, 0⟩ { F0 m pc ls (As.reverse ++ .ref a :: rest) with stack := rest } (.invokespecial index) mk (Value.ref a :: As).toArray X₁ rfl (hl.trans C.2.2.1.symm) (by rw [C.2.1]; exact hdg) hW8 (X₁.named hnamed) ⟨Nat.zero_le _, Nat.zero_le _, preW C w (.ref a :: As) _ hT X₁.warmed⟩
  obtain ⟨U', l2, c2, s2⟩ := B
  obtain ⟨g', mk2, t, L, e1, e2, hqq, e3, hL, e4, e5⟩ := hpost
  dsimp only [Pt.U, Pt.locs, Pt.cells, Pt.slots] at X' e1 e2 e3 e4 e5 hsteps hqq
  subst e3; subst e4; subst e5
  exact ⟨v, (T.setVm vm₁).calling g' mk2 (Value.ref a :: As).toArray, t, U', L, hT, X', hL, e1, e2, hqq, fun target h => hstep₁ _ (by rw [doInvoke_state]; exact hsteps.trans h)⟩
end SUP
theorem hs_X5_copied : yX5_copied.name ≠ "<init>" ∧ (parseMethodDescriptor yX5_copied.desc).map (fun d => d.parameters.length) = some 2 := by decide +kernel
theorem hs_X5_lasts : yX5_lasts.name ≠ "<init>" ∧ (parseMethodDescriptor yX5_lasts.desc).map (fun d => d.parameters.length) = some 1 := by decide +kernel
theorem hs_X4_lasts : yX4_lasts.name ≠ "<init>" ∧ (parseMethodDescriptor yX4_lasts.desc).map (fun d => d.parameters.length) = some 1 := by decide +kernel
theorem hs_X0_copied : yX0_copied.name ≠ "<init>" ∧ (parseMethodDescriptor yX0_copied.desc).map (fun d => d.parameters.length) = some 2 := by decide +kernel
theorem rec_le (n k d : Nat) (h : n ≤ 41) : 8 + (n + 11) + (k + 60 * d) ≤ k + 60 * (d + 1) := by omega
