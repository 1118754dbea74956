/-! words of calls among the universal list -/
theorem gL {ws : List Cond} (h : ∀ w ∈ ws, w ∈ WL) : GoodIn WL ws := fun w hw => ⟨h w hw, WL_good _ (h w hw)⟩
theorem gM {y : MethodName} {b : ByteArray} {n : Nat} {r : Option FieldType} (h : Cond.code y b n r ∈ WL) : ∀ w ∈ (Cond.code y b n r :: WL), w ∈ WL := fun w hw => by
  rcases List.mem_cons.mp hw with rfl | hw
  · exact h
  · exact hw
theorem gV {own C : String} {i : Nat} {y : MethodName} {b : ByteArray} {n : Nat} {r : Option FieldType} (h1 : Cond.methodLink own i y ∈ WL) (h2 : Cond.instanceMethod y ∈ WL) (h3 : Cond.selects C y y ∈ WL) (h4 : Cond.initialized C ∈ WL) (h5 : Cond.code y b n r ∈ WL) : GoodIn WL (wsV own i C y (.code y b n r :: WL)) := gL (fun w hw => by
  unfold wsV at hw
  rcases List.mem_append.mp hw with hw | hw
  · simp only [List.mem_cons, List.not_mem_nil, or_false] at hw
    rcases hw with rfl | rfl | rfl | rfl <;> assumption
  · exact gM h5 w hw)
theorem gS {own : String} {i : Nat} {y : MethodName} {b : ByteArray} {n : Nat} {r : Option FieldType} (h1 : Cond.methodLink own i y ∈ WL) (h2 : Cond.static y ∈ WL) (h4 : Cond.initialized y.cls ∈ WL) (h5 : Cond.code y b n r ∈ WL) : GoodIn WL (va_wsS own i y (.code y b n r :: WL)) := gL (fun w hw => by
  unfold va_wsS at hw
  rcases List.mem_append.mp hw with hw | hw
  · simp only [List.mem_cons, List.not_mem_nil, or_false] at hw
    rcases hw with rfl | rfl | rfl <;> assumption
  · exact gM h5 w hw)
theorem gSU {own : String} {i : Nat} {y : MethodName} {b : ByteArray} {n : Nat} {r : Option FieldType} (h1 : Cond.methodLink own i y ∈ WL) (h2 : Cond.sameMethod y.cls y.cls y.name y.desc ∈ WL) (h3 : Cond.superclass own y.cls ∈ WL) (h4 : Cond.instanceMethod y ∈ WL) (h6 : Cond.initialized y.cls ∈ WL) (h5 : Cond.code y b n r ∈ WL) : GoodIn WL (va_wsSU own i y (.code y b n r :: WL)) := gL (fun w hw => by
  unfold va_wsSU at hw
  rcases List.mem_append.mp hw with hw | hw
  · simp only [List.mem_cons, List.not_mem_nil, or_false] at hw
    rcases hw with rfl | rfl | rfl | rfl | rfl <;> assumption
  · exact gM h5 w hw)
theorem gO {own C owner : String} {i : Nat} {x y : MethodName} {b : ByteArray} {n : Nat} {r : Option FieldType} (h1 : Cond.methodLink own i x ∈ WL) (h2 : Cond.sameMethod x.cls owner x.name x.desc ∈ WL) (h3 : Cond.instanceMethod ⟨owner, x.name, x.desc⟩ ∈ WL) (h4 : Cond.selects C x y ∈ WL) (h6 : Cond.instanceMethod y ∈ WL) (h7 : Cond.initialized y.cls ∈ WL) (h5 : Cond.code y b n r ∈ WL) : GoodIn WL (va_wsO own i C owner x y (.code y b n r :: WL)) := gL (fun w hw => by
  unfold va_wsO at hw
  rcases List.mem_append.mp hw with hw | hw
  · simp only [List.mem_cons, List.not_mem_nil, or_false] at hw
    rcases hw with rfl | rfl | rfl | rfl | rfl | rfl <;> assumption
  · exact gM h5 w hw)
/-! the pure state: ints by number, longs by number, rows of ints by number -/
abbrev St : Type := (Nat → Int32) × (Nat → Int64) × (Nat → Nat → Int32)
def sI (σ : St) (k : Nat) (v : Int32) : St := (fun j => cond (Nat.beq j k) v (σ.1 j), σ.2)
def sL (σ : St) (k : Nat) (v : Int64) : St := (σ.1, fun j => cond (Nat.beq j k) v (σ.2.1 j), σ.2.2)
def sA (σ : St) (a : Nat) (g : Nat → Int32) : St := (σ.1, σ.2.1, fun b => cond (Nat.beq b a) g (σ.2.2 b))
def sE (σ : St) (a i : Nat) (v : Int32) : St := sA σ a (upd (σ.2.2 a) i v)
def scp (σ : St) (a b : Nat) (sp dp n : Int32) : St := sA σ b (va_cpy (σ.2.2 a) (σ.2.2 b) sp.toNatClampNeg dp.toNatClampNeg n.toNatClampNeg)
def ckI (i : Int32) (n : Nat) : Bool := decide (0 ≤ i.toInt ∧ i.toInt < n)
def ckZ (v : Int32) : Bool := decide (v = 0 ∨ v = 1)
theorem it_t {α : Type} {c : Prop} [Decidable c] {a b o : α} (h : (if c then a else b) = o) (hc : c) : a = o := by rw [if_pos hc] at h; exact h
theorem it_f {α : Type} {c : Prop} [Decidable c] {a b o : α} (h : (if c then a else b) = o) (hc : ¬ c) : b = o := by rw [if_neg hc] at h; exact h
theorem ck_t {α : Type} {i : Int32} {n : Nat} {a : Option α} {o : α} (h : (cond (ckI i n) a none) = some o) : vp_in i n ∧ a = some o := by
  unfold ckI at h
  by_cases hc : 0 ≤ i.toInt ∧ i.toInt < n
  · rw [decide_eq_true hc] at h
    exact ⟨vp_in_iff.mpr hc, h⟩
  · rw [decide_eq_false hc] at h
    cases h
theorem vl {i : Int32} {n : Nat} (h : ckI i n = true) : vp_in i n := vp_in_iff.mpr (of_decide_eq_true h)
theorem cz_t {α : Type} {v : Int32} {a : Option α} {o : α} (h : (cond (ckZ v) a none) = some o) : (narrow .boolean (.int v) = .int v) ∧ a = some o := by
  unfold ckZ at h
  by_cases hc : v = 0 ∨ v = 1
  · rw [decide_eq_true hc] at h
    refine ⟨?_, h⟩
    rcases hc with rfl | rfl <;> rfl
  · rw [decide_eq_false hc] at h
    cases h
def ckC (v : Int32) : Bool := decide ((v.toUInt32 % 65536).toInt32 = v)
theorem cc_t {α : Type} {v : Int32} {a : Option α} {o : α} (h : (cond (ckC v) a none) = some o) : (narrow .char (.int v) = .int v) ∧ a = some o := by
  unfold ckC at h
  by_cases hc : (v.toUInt32 % 65536).toInt32 = v
  · rw [decide_eq_true hc] at h
    refine ⟨?_, h⟩
    have h1 := pk_nc v
    rw [hc] at h1
    exact h1
  · rw [decide_eq_false hc] at h
    cases h
theorem ob_t {α β : Type} {a : Option α} {g : α → Option β} {o : β} (h : a.bind g = some o) : ∃ q, a = some q ∧ g q = some o := Option.bind_eq_some_iff.mp h
theorem dz_t {α : Type} {y : Int32} {a : Option α} {o : α} (h : (if y = 0 then none else a) = some o) : ¬ y = 0 ∧ a = some o := by
  by_cases hy : y = 0
  · rw [if_pos hy] at h
    cases h
  · rw [if_neg hy] at h
    exact ⟨hy, h⟩
theorem dl_t {α : Type} {y : Int64} {a : Option α} {o : α} (h : (if y = 0 then none else a) = some o) : ¬ y = 0 ∧ a = some o := by
  by_cases hy : y = 0
  · rw [if_pos hy] at h
    cases h
  · rw [if_neg hy] at h
    exact ⟨hy, h⟩
theorem swo_0_2 {x : Int32} (h0 : ¬ x = 0) (h1 : ¬ x = 1) (h2 : ¬ x = 2) : x.toInt < 0 ∨ 2 < x.toInt := by
  have e0 : x.toInt ≠ 0 := fun e => h0 (Int32.toInt_inj.mp (by rw [e]; rfl))
  have e1 : x.toInt ≠ 1 := fun e => h1 (Int32.toInt_inj.mp (by rw [e]; rfl))
  have e2 : x.toInt ≠ 2 := fun e => h2 (Int32.toInt_inj.mp (by rw [e]; rfl))
  omega
theorem swo_0_6 {x : Int32} (h0 : ¬ x = 0) (h1 : ¬ x = 1) (h2 : ¬ x = 2) (h3 : ¬ x = 3) (h4 : ¬ x = 4) (h5 : ¬ x = 5) (h6 : ¬ x = 6) : x.toInt < 0 ∨ 6 < x.toInt := by
  have e0 : x.toInt ≠ 0 := fun e => h0 (Int32.toInt_inj.mp (by rw [e]; rfl))
  have e1 : x.toInt ≠ 1 := fun e => h1 (Int32.toInt_inj.mp (by rw [e]; rfl))
  have e2 : x.toInt ≠ 2 := fun e => h2 (Int32.toInt_inj.mp (by rw [e]; rfl))
  have e3 : x.toInt ≠ 3 := fun e => h3 (Int32.toInt_inj.mp (by rw [e]; rfl))
  have e4 : x.toInt ≠ 4 := fun e => h4 (Int32.toInt_inj.mp (by rw [e]; rfl))
  have e5 : x.toInt ≠ 5 := fun e => h5 (Int32.toInt_inj.mp (by rw [e]; rfl))
  have e6 : x.toInt ≠ 6 := fun e => h6 (Int32.toInt_inj.mp (by rw [e]; rfl))
  omega
theorem swo_1_5 {x : Int32} (h0 : ¬ x = 1) (h1 : ¬ x = 2) (h2 : ¬ x = 3) (h3 : ¬ x = 4) (h4 : ¬ x = 5) : x.toInt < 1 ∨ 5 < x.toInt := by
  have e0 : x.toInt ≠ 1 := fun e => h0 (Int32.toInt_inj.mp (by rw [e]; rfl))
  have e1 : x.toInt ≠ 2 := fun e => h1 (Int32.toInt_inj.mp (by rw [e]; rfl))
  have e2 : x.toInt ≠ 3 := fun e => h2 (Int32.toInt_inj.mp (by rw [e]; rfl))
  have e3 : x.toInt ≠ 4 := fun e => h3 (Int32.toInt_inj.mp (by rw [e]; rfl))
  have e4 : x.toInt ≠ 5 := fun e => h4 (Int32.toInt_inj.mp (by rw [e]; rfl))
  omega
def FU : Nat := 1000000
/-! words of nest mates, what the tables say of the text constants, two statics of the JDK's; ca 10 .. 13: the addresses of the four texts, ca 20 .. 23: of their bytes -/
def strL : List Nat := [4, 4, 5, 4]
def strB : List (List Int32) := [[119, 111, 111, 100], [116, 114, 101, 101], [116, 111, 117, 99, 104], [102, 101, 108, 108]]
def NXt (ca : Nat → ClassId) (U : State) : Prop := (va_Nw (.methodLinkNest RX3 10 yX10_within "BarkPost") U ∧ va_Nw (.methodLinkNest RX7 33 yX10_within "BarkPost") U ∧ va_Nw (.methodLinkNest RX9 106 yX10_within "BarkPost") U) ∧ vk_R RX9 54 "wood" (ca 10) U ∧ vk_R RX9 63 "tree" (ca 11) U ∧ vk_R RX9 71 "touch" (ca 12) U ∧ vk_R RX9 76 "fell" (ca 13) U
def NXh (ca : Nat → ClassId) (A : Nat → Prop) (U : State) (H : Heap) : Prop := vk_S 4 strL strB (fun i => ca (10 + i)) (fun i => ca (20 + i)) A U H ∧ va_Z "java/lang/String" "COMPACT_STRINGS" "Z" (.int 1) A U H ∧ va_Zq "jdk/internal/util/Preconditions" "SIOOBE_FORMATTER" "Ljava/util/function/BiFunction;" A U H
def NX (ca : Nat → ClassId) (A : Nat → Prop) (U : State) (H : Heap) : Prop := NXt ca U ∧ NXh ca A U H
theorem NXt.warm {ca : Nat → ClassId} {s U : State} (hW : s.WarmedH U.vm) (h : NXt ca s) : NXt ca U := ⟨⟨va_Nw.warmM hW h.1.1, va_Nw.warmM hW h.1.2.1, va_Nw.warmM hW h.1.2.2⟩, vk_R.warm hW h.2.1, vk_R.warm hW h.2.2.1, vk_R.warm hW h.2.2.2.1, vk_R.warm hW h.2.2.2.2⟩
theorem NXt.same {ca : Nat → ClassId} {u U : State} (e : u.vm = U.vm) (h : NXt ca u) : NXt ca U := ⟨⟨va_Nw.same rfl e h.1.1, va_Nw.same rfl e h.1.2.1, va_Nw.same rfl e h.1.2.2⟩, vk_R.same e.symm h.2.1, vk_R.same e.symm h.2.2.1, vk_R.same e.symm h.2.2.2.1, vk_R.same e.symm h.2.2.2.2⟩
theorem NXh.mv {ca : Nat → ClassId} {A B : Nat → Prop} {u U : State} {H H1 : Heap} (hvm : u.vm.Alike U.vm) (hq : ∀ a : Nat, a < H.size → ¬ A a → H1[a]? = H[a]?) (hAB : ∀ q, B q → A q) (h : NXh ca A u H) : NXh ca B U H1 := ⟨((h.1.moved hvm).kept hq).narrow hAB, ((h.2.1.moved hvm).kept hq).narrow hAB, ((h.2.2.moved hvm).kept hq).narrow hAB⟩
def TY (ca : Nat → ClassId) : List (ClassId × FieldType) := [(ca 0, .int), (ca 1, .byte), (ca 2, .boolean), (ca 3, .object "BarkPost$Forest"), (ca 4, .object "BarkPost$Plain")]
/-- a method's start: a world of cells, the tables, the nest's words -/
def PreC (D : va_G) (ca : Nat → ClassId) (ws : va_W) (sz : Nat) (av : List Value) : Array Value → State → Prop := va_Pc av (fun U => U.heap.size = sz ∧ va_P D vwCl ws U.heap ∧ va_K D vwCl (TY ca) U ∧ va_D (fun _ => True) ws ∧ NX ca (va_A ws sz) U U.heap)
def PostI (D : va_G) (A : Nat → Prop) (ws : va_W) (v : Int32) : Array Value → State → Outcome → State → Prop := va_Qi (fun r (_ : Unit) => r = v) (fun _ t => va_P D vwCl ws t.heap ∧ va_D A ws) A
def PostL (D : va_G) (A : Nat → Prop) (ws : va_W) (v : Int64) : Array Value → State → Outcome → State → Prop := va_Ql (fun r (_ : Unit) => r = v) (fun _ t => va_P D vwCl ws t.heap ∧ va_D A ws) A
def PostV (D : va_G) (A : Nat → Prop) (ws : va_W) : Array Value → State → Outcome → State → Prop := va_Qv (fun (_ : Unit) => True) (fun _ t => va_P D vwCl ws t.heap ∧ va_D A ws) A
/-- the caller's world now -/
def Wd (A : Nat → Prop) (s : State) (D : va_G) (ws : va_W) (H : Heap) (locs : List Loc) : Prop := va_P D vwCl ws H ∧ va_D A ws ∧ va_S A s.heap H locs
/-- what stays during a method -/
def Cx (p : Program) (s : State) (m : MethodId) (args : Array Value) (meth : Method) (c : Code) (D : va_G) (ca : Nat → ClassId) (A : Nat → Prop) (cc : ByteArray) (own : String) (nL : Nat) (ret : Option FieldType) : Prop :=
  p.tables.exec = Jvm.exec ∧ c.code = cc ∧ c.maxLocals = nL ∧ s.vm.findClass own = some m.cls ∧ (∀ w ∈ WL, w.before args s = true) ∧ va_K D vwCl (TY ca) s ∧ (∀ q, s.heap.size ≤ q → A q) ∧ meth.locks = false ∧ meth.sig.returnType = ret ∧ NX ca A s s.heap
section BASE
variable {p : Program} {l : Launch} {e : Env} {R : Room} {s : State} {m : MethodId} {args : Array Value} {below : List Frame} {meth : Method} {c : Code} {H : Heap} {locs : List Loc} {Q : State → Prop} {cc : ByteArray} {pc : Nat} {ls : Array Slot} {rest st0 : List Value} {D : va_G} {ca : Nat → ClassId} {A : Nat → Prop} {own : String} {nL : Nat} {ret : Option FieldType} {ws ws' : va_W}
theorem Cx.mk {y : MethodName} {rm : Room} {s₁ : State} (B : BodyLoose p l y (headSpec (.code y cc nL ret :: WL) rm) cc nL ret e s m args below meth c s₁) (hml : c.maxLocals = nL) (ho : y.cls = own) (hK : va_K D vwCl (TY ca) s) {ws : va_W} (hN : NX ca (va_A ws s.heap.size) s s.heap) : Cx p s m args meth c D ca (va_A ws s.heap.size) cc own nL ret :=
  ⟨B.exec, B.bytes, hml, by rw [← ho]; exact findClass_of_methodNamed B.named, fun w hw => atoms_spec (ws := .code y cc nL ret :: WL) B.pre w (List.mem_cons_of_mem _ hw), hK, fun _ h => Or.inr h, B.notSynchronized, B.returns, hN⟩
def Bk (p : Program) (l : Launch) (e : Env) (R : Room) (s : State) (m : MethodId) (args : Array Value) (below : List Frame) (meth : Method) (c : Code) (A : Nat → Prop) (D : va_G) (nL : Nat) (Q : State → Prop) (ws : va_W) (pc : Nat) (lv : List (Nat × Value)) (st : List Value) : Prop := ∀ (H : Heap) (locs : List Loc) (ls : Array Slot), Wd A s D ws H locs → lv_has ls nL lv → W p l e R s m args below meth c H locs 0 0 Q (F0 m pc ls st)
theorem Cx.fix (C : Cx p s m args meth c D ca A cc own nL ret) : CallFix p m c cc nL s args WL own := ⟨C.1, C.2.1, C.2.2.1, C.2.2.2.1, C.2.2.2.2.1⟩
theorem Cx.K (C : Cx p s m args meth c D ca A cc own nL ret) : va_K D vwCl (TY ca) s := C.2.2.2.2.2.1
theorem Cx.ts (C : Cx p s m args meth c D ca A cc own nL ret) : ∀ w ∈ WL, w.before args s = true := C.2.2.2.2.1
theorem Cx.ow (C : Cx p s m args meth c D ca A cc own nL ret) : s.vm.findClass own = some m.cls := C.2.2.2.1
theorem Cx.hA (C : Cx p s m args meth c D ca A cc own nL ret) : ∀ q, s.heap.size ≤ q → A q := C.2.2.2.2.2.2.1
theorem Cx.locks (C : Cx p s m args meth c D ca A cc own nL ret) : meth.locks = false := C.2.2.2.2.2.2.2.1
theorem Cx.rt (C : Cx p s m args meth c D ca A cc own nL ret) : meth.sig.returnType = ret := C.2.2.2.2.2.2.2.2.1
theorem Cx.nx (C : Cx p s m args meth c D ca A cc own nL ret) : NX ca A s s.heap := C.2.2.2.2.2.2.2.2.2
/-- a field of an object of the world is read -/
theorem rg (C : Cx p s m args meth c D ca A cc own nL ret) (w : Wd A s D ws H locs) {R0 ref : String} {T : u_T} {N ci index a : Nat} {fs : List Value} {v : Value} (q0 k : Nat) (he : ws[q0]? = some (a, .inr (ci, fs))) (hc : vwCl[ci]? = some (R0, T, N)) (hin : ∀ w ∈ u_ws R0 T N, w ∈ WL) (hk : k < N) (hl : Cond.fieldLink own index ref (T k).2.1 (T k).2.2.1 ∈ WL) (hr : ref = (T k).1) (hv : fs[k]? = some v) (hdg : decode cc pc = .ok (.getfield index, 3))
    (kk : W p l e R s m args below meth c H locs 0 0 Q (F0 m (pc + 3) ls (v :: rest))) : W p l e R s m args below meth c H locs 0 0 Q (F0 m pc ls (.ref a :: rest)) :=
  va_get C.1 C.2.1 C.ts hin C.ow C.K w.1 q0 he hc k hk (C.ts _ hl) (fun _ h => by rw [hr]; exact h) hv hdg kk
/-- a field of an object of the world is written -/
theorem rp (C : Cx p s m args meth c D ca A cc own nL ret) (w : Wd A s D ws H locs) {R0 ref : String} {T : u_T} {ty0 : Nat → FieldType} {N ci index a : Nat} {fs : List Value} {v : Value} {ty : FieldType} (q0 k : Nat) (he : ws[q0]? = some (a, .inr (ci, fs))) (hc : vwCl[ci]? = some (R0, T, N)) (hin : ∀ w ∈ u_ws R0 T N, w ∈ WL) (hty : ∀ k, k < N → parseFieldDescriptor (T k).2.2.1 = some (ty0 k)) (hnm : ∀ a, a < N → ∀ b, b < N → a ≠ b → (T a).2.1 ≠ (T b).2.1) (hk : k < N) (hl : Cond.fieldLink own index ref (T k).2.1 (T k).2.2.1 ∈ WL) (hr : ref = (T k).1) (hfin : (T k).2.2.2 = false) (hd : parseFieldDescriptor (T k).2.2.1 = some ty) (hn : narrow ty v = v) (hfit : fits ty v = true) (hlen : k < fs.length) (hw : ws.set q0 (a, .inr (ci, fs.set k v)) = ws') (hdg : decode cc pc = .ok (.putfield index, 3))
    (kk : ∀ (H1 : Heap) (locs1 : List Loc), Wd A s D ws' H1 locs1 → W p l e R s m args below meth c H1 locs1 0 0 Q (F0 m (pc + 3) ls rest)) : W p l e R s m args below meth c H locs 0 0 Q (F0 m pc ls (v :: .ref a :: rest)) :=
  va_put C.1 C.2.1 C.ts hin ty0 hty hnm C.ow C.K w.1 w.2.1 w.2.2 q0 he hc k hk (C.ts _ hl) (fun _ h => by rw [hr]; exact h) hfin hd hn hfit hlen hdg (fun H1 locs1 h1 h2 h3 => kk H1 locs1 ⟨hw ▸ h1, hw ▸ h2, h3⟩)
theorem rld (C : Cx p s m args meth c D ca A cc own nL ret) (w : Wd A s D ws H locs) {a n : Nat} {f : Nat → Int32} {i v : Int32} (q0 : Nat) (he : ws[q0]? = some (a, .inl (ca 0, n, .inl f))) (hin : vp_in i n) (hv : f i.toNatClampNeg = v) (hdg : decode cc pc = .ok (.iaload, 1))
    (kk : W p l e R s m args below meth c H locs 0 0 Q (F0 m (pc + 1) ls (.int v :: rest))) : W p l e R s m args below meth c H locs 0 0 Q (F0 m pc ls (.int i :: .ref a :: rest)) := by
  subst hv
  exact va_iald C.1 C.2.1 C.K w.1 q0 0 he rfl hin hdg kk
theorem rldb (C : Cx p s m args meth c D ca A cc own nL ret) (w : Wd A s D ws H locs) {a n : Nat} {f : Nat → Int32} {i v : Int32} (q0 : Nat) (he : ws[q0]? = some (a, .inl (ca 1, n, .inl f))) (hin : vp_in i n) (hv : f i.toNatClampNeg = v) (hdg : decode cc pc = .ok (.baload, 1))
    (kk : W p l e R s m args below meth c H locs 0 0 Q (F0 m (pc + 1) ls (.int v :: rest))) : W p l e R s m args below meth c H locs 0 0 Q (F0 m pc ls (.int i :: .ref a :: rest)) := by
  subst hv
  exact va_bald C.1 C.2.1 C.K w.1 q0 1 he rfl hin hdg kk
theorem rldz (C : Cx p s m args meth c D ca A cc own nL ret) (w : Wd A s D ws H locs) {a n : Nat} {f : Nat → Int32} {i v : Int32} (q0 : Nat) (he : ws[q0]? = some (a, .inl (ca 2, n, .inl f))) (hin : vp_in i n) (hv : f i.toNatClampNeg = v) (hdg : decode cc pc = .ok (.baload, 1))
    (kk : W p l e R s m args below meth c H locs 0 0 Q (F0 m (pc + 1) ls (.int v :: rest))) : W p l e R s m args below meth c H locs 0 0 Q (F0 m pc ls (.int i :: .ref a :: rest)) := by
  subst hv
  exact va_zald C.1 C.2.1 C.K w.1 q0 2 he rfl hin hdg kk
theorem rst (C : Cx p s m args meth c D ca A cc own nL ret) (w : Wd A s D ws H locs) {a n : Nat} {f : Nat → Int32} {i x : Int32} (q0 : Nat) (he : ws[q0]? = some (a, .inl (ca 0, n, .inl f))) (hin : vp_in i n) (hw : ws.set q0 (a, .inl (ca 0, n, .inl (upd f i.toNatClampNeg x))) = ws') (hdg : decode cc pc = .ok (.iastore, 1))
    (kk : ∀ (H1 : Heap) (locs1 : List Loc), Wd A s D ws' H1 locs1 → W p l e R s m args below meth c H1 locs1 0 0 Q (F0 m (pc + 1) ls rest)) : W p l e R s m args below meth c H locs 0 0 Q (F0 m pc ls (.int x :: .int i :: .ref a :: rest)) :=
  va_iast C.1 C.2.1 C.K w.1 w.2.1 w.2.2 q0 0 he rfl hin hdg (fun H1 locs1 h1 h2 h3 => kk H1 locs1 ⟨hw ▸ h1, hw ▸ h2, h3⟩)
theorem rstb (C : Cx p s m args meth c D ca A cc own nL ret) (w : Wd A s D ws H locs) {a n : Nat} {f : Nat → Int32} {i x : Int32} (q0 : Nat) (he : ws[q0]? = some (a, .inl (ca 1, n, .inl f))) (hin : vp_in i n) (hw : ws.set q0 (a, .inl (ca 1, n, .inl (upd f i.toNatClampNeg (vp_nar .byte x)))) = ws') (hdg : decode cc pc = .ok (.bastore, 1))
    (kk : ∀ (H1 : Heap) (locs1 : List Loc), Wd A s D ws' H1 locs1 → W p l e R s m args below meth c H1 locs1 0 0 Q (F0 m (pc + 1) ls rest)) : W p l e R s m args below meth c H locs 0 0 Q (F0 m pc ls (.int x :: .int i :: .ref a :: rest)) :=
  va_bast C.1 C.2.1 C.K w.1 w.2.1 w.2.2 q0 1 he rfl hin hdg (fun H1 locs1 h1 h2 h3 => kk H1 locs1 ⟨hw ▸ h1, hw ▸ h2, h3⟩)
theorem rstz (C : Cx p s m args meth c D ca A cc own nL ret) (w : Wd A s D ws H locs) {a n : Nat} {f : Nat → Int32} {i x : Int32} (q0 : Nat) (he : ws[q0]? = some (a, .inl (ca 2, n, .inl f))) (hin : vp_in i n) (hw : ws.set q0 (a, .inl (ca 2, n, .inl (upd f i.toNatClampNeg (vp_nar .boolean x)))) = ws') (hdg : decode cc pc = .ok (.bastore, 1))
    (kk : ∀ (H1 : Heap) (locs1 : List Loc), Wd A s D ws' H1 locs1 → W p l e R s m args below meth c H1 locs1 0 0 Q (F0 m (pc + 1) ls rest)) : W p l e R s m args below meth c H locs 0 0 Q (F0 m pc ls (.int x :: .int i :: .ref a :: rest)) :=
  va_zast C.1 C.2.1 C.K w.1 w.2.1 w.2.2 q0 2 he rfl hin hdg (fun H1 locs1 h1 h2 h3 => kk H1 locs1 ⟨hw ▸ h1, hw ▸ h2, h3⟩)
/-- an array's length -/
theorem rlen (C : Cx p s m args meth c D ca A cc own nL ret) (w : Wd A s D ws H locs) {a : Nat} {x : vp_A} {cA : ClassId} {ty : FieldType} {v : Int32} (q0 t0 : Nat) (he : ws[q0]? = some (a, .inl (cA, x))) (ht : (TY ca)[t0]? = some (cA, ty)) (hv : Int32.ofNat x.1 = v) (hdg : decode cc pc = .ok (.arraylength, 1))
    (kk : W p l e R s m args below meth c H locs 0 0 Q (F0 m (pc + 1) ls (.int v :: rest))) : W p l e R s m args below meth c H locs 0 0 Q (F0 m pc ls (.ref a :: rest)) :=
  va_alen C.1 C.2.1 C.K w.1 q0 t0 he ht hv hdg kk
theorem ref_eq {a a' cells slots : Nat} (h : a = a') (k : W p l e R s m args below meth c H locs cells slots Q (F0 m pc ls (.ref a' :: rest))) : W p l e R s m args below meth c H locs cells slots Q (F0 m pc ls (.ref a :: rest)) := h ▸ k
theorem int_eq {a a' : Int32} {cells slots : Nat} (h : a = a') (k : W p l e R s m args below meth c H locs cells slots Q (F0 m pc ls (.int a' :: rest))) : W p l e R s m args below meth c H locs cells slots Q (F0 m pc ls (.int a :: rest)) := h ▸ k
/-! calls -/
theorem blind (D : va_G) (ca : Nat → ClassId) (ws : va_W) (sz : Nat) (av : List Value) : FrameBlind (PreC D ca ws sz av) := fun a U g mk h => by
  obtain ⟨h1, h2, h3, h4, h5, h6⟩ := h
  exact ⟨h1, h2, h3, va_K.moved (u := U) (U := U.calling g mk a) (Vm.Alike.refl U.vm) h4, h5, NXt.same rfl h6.1, NXh.mv (u := U) (U := U.calling g mk a) (Vm.Alike.refl U.vm) (fun _ _ _ => rfl) (fun _ h => h) h6.2⟩
theorem Wd.free (C : Cx p s m args meth c D ca A cc own nL ret) (w : Wd A s D ws H locs) : ∀ q, va_A ws H.size q → A q := fun q h => by
  rcases h with ⟨k, e, h⟩ | h
  · exact w.2.1.2 k (q, e) h
  · exact C.hA q (Nat.le_trans w.2.2.1 h)
theorem preW (C : Cx p s m args meth c D ca A cc own nL ret) (w : Wd A s D ws H locs) (av : List Value) : ∀ U : State, U.heap = H → s.WarmedH U.vm → PreC D ca ws H.size av av.toArray U := fun U hU hW =>
  ⟨rfl, by rw [hU], by rw [hU]; exact w.1, va_K.moved hW.alike C.K, w.2.1.weaken (fun _ _ _ _ => trivial), NXt.warm hW C.nx.1, by rw [hU]; exact NXh.mv hW.alike w.2.2.2.1 (w.free C) C.nx.2⟩
/-- behind a call over the whole world -/
theorem res_i (C : Cx p s m args meth c D ca A cc own nL ret) (w : Wd A s D ws H locs) {av : Array Value} {v : Int32} (hr : va_Run p l e R s m args below meth c H locs 0 0 0 0 (F0 m pc ls st0) rest (PostI D (va_A ws H.size) ws' v av) (va_A ws H.size))
    (kk : ∀ (H1 : Heap) (locs1 : List Loc), Wd A s D ws' H1 locs1 → W p l e R s m args below meth c H1 locs1 0 0 Q (F0 m (pc + 3) ls (.int v :: rest))) : W p l e R s m args below meth c H locs 0 0 Q (F0 m pc ls st0) :=
  va_calli hr w.2.2 (fun q _ h => w.free C q h) (w.free C) (fun r u t H1 locs1 ht hvm hw hB hz1 hk1 hS => by
    obtain ⟨hP1, hD1⟩ := hB
    rw [ht] at hP1
    rw [show r = v from hw]
    exact kk H1 locs1 ⟨hP1, hD1.weaken (fun _ _ _ h => w.free C _ h), hS⟩)
theorem res_l (C : Cx p s m args meth c D ca A cc own nL ret) (w : Wd A s D ws H locs) {av : Array Value} {v : Int64} (hr : va_Run p l e R s m args below meth c H locs 0 0 0 0 (F0 m pc ls st0) rest (PostL D (va_A ws H.size) ws' v av) (va_A ws H.size))
    (kk : ∀ (H1 : Heap) (locs1 : List Loc), Wd A s D ws' H1 locs1 → W p l e R s m args below meth c H1 locs1 0 0 Q (F0 m (pc + 3) ls (.long v :: rest))) : W p l e R s m args below meth c H locs 0 0 Q (F0 m pc ls st0) :=
  va_calll hr w.2.2 (fun q _ h => w.free C q h) (w.free C) (fun r u t H1 locs1 ht hvm hw hB hz1 hk1 hS => by
    obtain ⟨hP1, hD1⟩ := hB
    rw [ht] at hP1
    rw [show r = v from hw]
    exact kk H1 locs1 ⟨hP1, hD1.weaken (fun _ _ _ h => w.free C _ h), hS⟩)
theorem res_v (C : Cx p s m args meth c D ca A cc own nL ret) (w : Wd A s D ws H locs) {av : Array Value} (hr : va_Run p l e R s m args below meth c H locs 0 0 0 0 (F0 m pc ls st0) rest (PostV D (va_A ws H.size) ws' av) (va_A ws H.size))
    (kk : ∀ (H1 : Heap) (locs1 : List Loc), Wd A s D ws' H1 locs1 → W p l e R s m args below meth c H1 locs1 0 0 Q (F0 m (pc + 3) ls rest)) : W p l e R s m args below meth c H locs 0 0 Q (F0 m pc ls st0) :=
  va_callv hr w.2.2 (fun q _ h => w.free C q h) (w.free C) (fun u t H1 locs1 ht hvm hw hB hz1 hk1 hS => by
    obtain ⟨hP1, hD1⟩ := hB
    rw [ht] at hP1
    exact kk H1 locs1 ⟨hP1, hD1.weaken (fun _ _ _ h => w.free C _ h), hS⟩)
/-- how a call is run: an instance method; a static one; a nest mate's static one; the superclass's own -/
theorem run_V (C : Cx p s m args meth c D ca A cc own nL ret) (w : Wd A s D ws H locs) (hl : ls.size = nL) {Cn : String} {a index n b9 : Nat} {As : List Value} {y : MethodName} {b : ByteArray} {rt : Option FieldType} {rm : Room} {Qc : Array Value → State → Outcome → State → Prop} {free : Addr → Prop}
    (hrecv : ∃ cellB : Cell, H[a]? = some cellB ∧ cellB.vm.isStatics = false ∧ s.vm.findClass Cn = some cellB.cls)
    (hM : Met l y (.code y b b9 rt :: WL) rm (PreC D ca ws H.size (.ref a :: As)) Qc 0 0 free) (hrc : rm.cells = 0) (hrs : rm.slots = 0)
    (h1 : Cond.methodLink own index y ∈ WL) (h2 : Cond.instanceMethod y ∈ WL) (h3 : Cond.selects Cn y y ∈ WL) (h4 : Cond.initialized Cn ∈ WL) (h5 : Cond.code y b b9 rt ∈ WL)
    (hd : y.cls = Cn ∧ y.cls ≠ "java/lang/invoke/MethodHandle" ∧ y.cls ≠ "java/lang/invoke/VarHandle" ∧ (parseMethodDescriptor y.desc).map (fun d => d.parameters.length) = some n) (hn : As.length = n) (hR : rm.frames + 1 ≤ R.frames ∧ 8 + (b9 + 11) + rm.locals ≤ R.locals)
    (hst : st0 = As.reverse ++ .ref a :: rest) (hW : (rest.map fun v => v.category).sum ≤ 8) (hdg : decode cc pc = .ok (.invokevirtual index, 3)) :
    va_Run p l e R s m args below meth c H locs 0 0 0 0 (F0 m pc ls st0) rest (Qc (.ref a :: As).toArray) free := by
  subst hst
  exact va_runV (As := As) (rest := rest) C.fix hM (cwV n C.ts (gV h1 h2 h3 h4 h5) rfl hrc hrs hd hR) ⟨blind D ca ws H.size (.ref a :: As), hrecv, preW C w (.ref a :: As)⟩ rfl hn hl rfl (lv_room hW) hdg ⟨Nat.zero_le _, Nat.zero_le _⟩
theorem run_S (C : Cx p s m args meth c D ca A cc own nL ret) (w : Wd A s D ws H locs) (hl : ls.size = nL) {index n b9 : Nat} {As : List Value} {y : MethodName} {b : ByteArray} {rt : Option FieldType} {rm : Room} {Qc : Array Value → State → Outcome → State → Prop} {free : Addr → Prop}
    (hM : Met l y (.code y b b9 rt :: WL) rm (PreC D ca ws H.size As) Qc 0 0 free) (hrc : rm.cells = 0) (hrs : rm.slots = 0)
    (h1 : Cond.methodLink own index y ∈ WL) (h2 : Cond.static y ∈ WL) (h4 : Cond.initialized y.cls ∈ WL) (h5 : Cond.code y b b9 rt ∈ WL)
    (hd : y.cls ≠ "java/lang/invoke/MethodHandle" ∧ y.cls ≠ "java/lang/invoke/VarHandle" ∧ (parseMethodDescriptor y.desc).map (fun d => d.parameters.length) = some n) (hn : As.length = n) (hR : rm.frames + 1 ≤ R.frames ∧ 8 + (b9 + 11) + rm.locals ≤ R.locals)
    (hst : st0 = As.reverse ++ rest) (hW : (rest.map fun v => v.category).sum ≤ 8) (hdg : decode cc pc = .ok (.invokestatic index, 3)) :
    va_Run p l e R s m args below meth c H locs 0 0 0 0 (F0 m pc ls st0) rest (Qc As.toArray) free := by
  subst hst
  exact va_runS (As := As) (rest := rest) C.fix hM (va_cwS n C.ts (gS h1 h2 h4 h5) rfl hrc hrs hd hR) ⟨blind D ca ws H.size As, preW C w As⟩ rfl hn hl rfl (lv_room hW) hdg ⟨Nat.zero_le _, Nat.zero_le _⟩
theorem run_SN (C : Cx p s m args meth c D ca A cc own nL ret) (w : Wd A s D ws H locs) (hl : ls.size = nL) {host : String} {index n b9 : Nat} {As : List Value} {y : MethodName} {b : ByteArray} {rt : Option FieldType} {rm : Room} {Qc : Array Value → State → Outcome → State → Prop} {free : Addr → Prop}
    (hM : Met l y (.code y b b9 rt :: WL) rm (PreC D ca ws H.size As) Qc 0 0 free) (hrc : rm.cells = 0) (hrs : rm.slots = 0)
    (h1 : va_Nw (.methodLinkNest own index y host) s) (h2 : Cond.static y ∈ WL) (h4 : Cond.initialized y.cls ∈ WL) (h5 : Cond.code y b b9 rt ∈ WL)
    (hd : y.cls ≠ "java/lang/invoke/MethodHandle" ∧ y.cls ≠ "java/lang/invoke/VarHandle" ∧ (parseMethodDescriptor y.desc).map (fun d => d.parameters.length) = some n) (hn : As.length = n) (hR : rm.frames + 1 ≤ R.frames ∧ 8 + (b9 + 11) + rm.locals ≤ R.locals)
    (hst : st0 = As.reverse ++ rest) (hW : (rest.map fun v => v.category).sum ≤ 8) (hdg : decode cc pc = .ok (.invokestatic index, 3)) :
    va_Run p l e R s m args below meth c H locs 0 0 0 0 (F0 m pc ls st0) rest (Qc As.toArray) free := by
  subst hst
  exact va_runSN (As := As) (rest := rest) C.fix hM ⟨va_cnB n C.ts (gL (gM h5)) rfl hrc hrs h1 (C.ts _ h4) hd hR, C.ts _ h2, trivial⟩ ⟨blind D ca ws H.size As, preW C w As⟩ rfl hn hl rfl (lv_room hW) hdg ⟨Nat.zero_le _, Nat.zero_le _⟩
/-- ends -/
theorem rI {F : St → va_W} {v : Int32} {σ : St} {out : Int32 × St} (C : Cx p s m args meth c D ca A cc own nL (some .int)) (w : Wd A s D (F σ) H locs) (h : some (v, σ) = some out) (hdg : decode cc pc = .ok (.ireturn, 1)) : W p l e R s m args below meth c H locs 0 0 (MQ below (PostI D A (F out.2) out.1) args s 0 0 A) (F0 m pc ls [.int v]) := by
  cases h
  have hlocks := C.locks
  exact W.iret (v := v) C.1 C.2.1 C.rt (fun t ht hW => ⟨⟨v, (), rfl, rfl, by rw [ht]; exact w.1, w.2.1⟩, w.2.2.F ht⟩) w.2.2.2.2 hdg
theorem rZ {F : St → va_W} {v : Int32} {σ : St} {out : Int32 × St} (C : Cx p s m args meth c D ca A cc own nL (some .boolean)) (w : Wd A s D (F σ) H locs) (hn : narrow .boolean (.int v) = .int v) (h : some (v, σ) = some out) (hdg : decode cc pc = .ok (.ireturn, 1)) : W p l e R s m args below meth c H locs 0 0 (MQ below (PostI D A (F out.2) out.1) args s 0 0 A) (F0 m pc ls [.int v]) := by
  cases h
  have hlocks := C.locks
  exact W.zret (v := v) C.1 C.2.1 C.rt hn (fun t ht hW => ⟨⟨v, (), rfl, rfl, by rw [ht]; exact w.1, w.2.1⟩, w.2.2.F ht⟩) w.2.2.2.2 hdg
theorem rJ {F : St → va_W} {v : Int64} {σ : St} {out : Int64 × St} (C : Cx p s m args meth c D ca A cc own nL (some .long)) (w : Wd A s D (F σ) H locs) (h : some (v, σ) = some out) (hdg : decode cc pc = .ok (.lreturn, 1)) : W p l e R s m args below meth c H locs 0 0 (MQ below (PostL D A (F out.2) out.1) args s 0 0 A) (F0 m pc ls [.long v]) := by
  cases h
  have hlocks := C.locks
  exact W.lret (v := v) C.1 C.2.1 C.rt (fun t ht hW => ⟨⟨v, (), rfl, rfl, by rw [ht]; exact w.1, w.2.1⟩, w.2.2.F ht⟩) w.2.2.2.2 hdg
theorem rV {F : St → va_W} {σ : St} {out : St} (C : Cx p s m args meth c D ca A cc own nL none) (w : Wd A s D (F σ) H locs) (h : some σ = some out) (hdg : decode cc pc = .ok (.return_, 1)) : W p l e R s m args below meth c H locs 0 0 (MQ below (PostV D A (F out)) args s 0 0 A) (F0 m pc ls []) := by
  cases h
  have hlocks := C.locks
  exact W.vret C.1 C.2.1 C.rt (fun t ht hW => ⟨⟨(), rfl, trivial, by rw [ht]; exact w.1, w.2.1⟩, w.2.2.F ht⟩) w.2.2.2.2 hdg
/-- ends of methods without a world -/
theorem qI {v out : Int32} (C : Cx p s m args meth c D ca A cc own nL (some .int)) (w : Wd A s D ws H locs) (h : some v = some out) (hdg : decode cc pc = .ok (.ireturn, 1)) : W p l e R s m args below meth c H locs 0 0 (MQ below (PostI D A ws out) args s 0 0 A) (F0 m pc ls [.int v]) := by
  cases h
  have hlocks := C.locks
  exact W.iret (v := v) C.1 C.2.1 C.rt (fun t ht hW => ⟨⟨v, (), rfl, rfl, by rw [ht]; exact w.1, w.2.1⟩, w.2.2.F ht⟩) w.2.2.2.2 hdg
theorem qZ {v out : Int32} (C : Cx p s m args meth c D ca A cc own nL (some .boolean)) (w : Wd A s D ws H locs) (hn : narrow .boolean (.int v) = .int v) (h : some v = some out) (hdg : decode cc pc = .ok (.ireturn, 1)) : W p l e R s m args below meth c H locs 0 0 (MQ below (PostI D A ws out) args s 0 0 A) (F0 m pc ls [.int v]) := by
  cases h
  have hlocks := C.locks
  exact W.zret (v := v) C.1 C.2.1 C.rt hn (fun t ht hW => ⟨⟨v, (), rfl, rfl, by rw [ht]; exact w.1, w.2.1⟩, w.2.2.F ht⟩) w.2.2.2.2 hdg
theorem qT {ty : FieldType} {v out : Int32} (C : Cx p s m args meth c D ca A cc own nL (some ty)) (w : Wd A s D ws H locs) (hn : narrow ty (.int v) = .int v) (h : some v = some out) (hdg : decode cc pc = .ok (.ireturn, 1)) : W p l e R s m args below meth c H locs 0 0 (MQ below (PostI D A ws out) args s 0 0 A) (F0 m pc ls [.int v]) := by
  cases h
  have hlocks := C.locks
  exact W.zret (v := v) C.1 C.2.1 C.rt hn (fun t ht hW => ⟨⟨v, (), rfl, rfl, by rw [ht]; exact w.1, w.2.1⟩, w.2.2.F ht⟩) w.2.2.2.2 hdg
theorem qV {out : Unit} (C : Cx p s m args meth c D ca A cc own nL none) (w : Wd A s D ws H locs) (_ : some () = some out) (hdg : decode cc pc = .ok (.return_, 1)) : W p l e R s m args below meth c H locs 0 0 (MQ below (PostV D A ws) args s 0 0 A) (F0 m pc ls []) := by
  have hlocks := C.locks
  exact W.vret C.1 C.2.1 C.rt (fun t ht hW => ⟨⟨(), rfl, trivial, by rw [ht]; exact w.1, w.2.1⟩, w.2.2.F ht⟩) w.2.2.2.2 hdg
theorem qJ {v out : Int64} (C : Cx p s m args meth c D ca A cc own nL (some .long)) (w : Wd A s D ws H locs) (h : some v = some out) (hdg : decode cc pc = .ok (.lreturn, 1)) : W p l e R s m args below meth c H locs 0 0 (MQ below (PostL D A ws out) args s 0 0 A) (F0 m pc ls [.long v]) := by
  cases h
  have hlocks := C.locks
  exact W.lret (v := v) C.1 C.2.1 C.rt (fun t ht hW => ⟨⟨v, (), rfl, rfl, by rw [ht]; exact w.1, w.2.1⟩, w.2.2.F ht⟩) w.2.2.2.2 hdg
/-! the text constants -/
theorem srecv (C : Cx p s m args meth c D ca A cc own nL ret) (w : Wd A s D ws H locs) (i : Nat) (hi : i < 4) : ∃ cellB : Cell, H[ca (10 + i)]? = some cellB ∧ cellB.vm.isStatics = false ∧ s.vm.findClass RJ0 = some cellB.cls := vk_recv (i := i) (adK := fun i => ca (10 + i)) C.nx.2.1 hi w.2.2
theorem gsv {index : Nat} (C : Cx p s m args meth c D ca A cc own nL ret) (w : Wd A s D ws H locs) (i : Nat) (hi : i < 4) (hl : Cond.fieldLink own index "java/lang/String" "value" "[B" ∈ WL) (hdg : decode cc pc = .ok (.getfield index, 3)) (kk : W p l e R s m args below meth c H locs 0 0 Q (F0 m (pc + 3) ls (.ref (ca (20 + i)) :: rest))) : W p l e R s m args below meth c H locs 0 0 Q (F0 m pc ls (.ref (ca (10 + i)) :: rest)) :=
  vk_getf C.1 C.2.1 (C.nx.2.1.1 i hi).2.2.1 w.2.2 C.ow (C.ts _ hl) (fun _ h => h) hdg kk
theorem gsc {index : Nat} (C : Cx p s m args meth c D ca A cc own nL ret) (w : Wd A s D ws H locs) (i : Nat) (hi : i < 4) (hl : Cond.fieldLink own index "java/lang/String" "coder" "B" ∈ WL) (hdg : decode cc pc = .ok (.getfield index, 3)) (kk : W p l e R s m args below meth c H locs 0 0 Q (F0 m (pc + 3) ls (.int 0 :: rest))) : W p l e R s m args below meth c H locs 0 0 Q (F0 m pc ls (.ref (ca (10 + i)) :: rest)) :=
  vk_getf C.1 C.2.1 (C.nx.2.1.1 i hi).2.1 w.2.2 C.ow (C.ts _ hl) (fun _ h => h) hdg kk
theorem gsn {v : Int32} (C : Cx p s m args meth c D ca A cc own nL ret) (w : Wd A s D ws H locs) (i : Nat) (hi : i < 4) (hv : Int32.ofNat (strL.getD i 0) = v) (hdg : decode cc pc = .ok (.arraylength, 1)) (kk : W p l e R s m args below meth c H locs 0 0 Q (F0 m (pc + 1) ls (.int v :: rest))) : W p l e R s m args below meth c H locs 0 0 Q (F0 m pc ls (.ref (ca (20 + i)) :: rest)) :=
  va_tlen C.1 C.2.1 (C.nx.2.1.1 i hi).2.2.2 w.2.2 hv hdg kk
theorem gsb {j v : Int32} (C : Cx p s m args meth c D ca A cc own nL ret) (w : Wd A s D ws H locs) (i : Nat) (hi : i < 4) (hin : vp_in j (strL.getD i 0)) (hv : (strB.getD i []).getD j.toNatClampNeg 0 = v) (hdg : decode cc pc = .ok (.baload, 1)) (kk : W p l e R s m args below meth c H locs 0 0 Q (F0 m (pc + 1) ls (.int v :: rest))) : W p l e R s m args below meth c H locs 0 0 Q (F0 m pc ls (.int j :: .ref (ca (20 + i)) :: rest)) :=
  va_tb C.1 C.2.1 (C.nx.2.1.1 i hi).2.2.2 w.2.2 hin (congrArg Value.int hv) hdg kk
theorem gcs {index : Nat} (C : Cx p s m args meth c D ca A cc own nL ret) (w : Wd A s D ws H locs) (hl : Cond.fieldLink own index "java/lang/String" "COMPACT_STRINGS" "Z" ∈ WL) (hdg : decode cc pc = .ok (.getstatic index, 3)) (kk : W p l e R s m args below meth c H locs 0 0 Q (F0 m (pc + 3) ls (.int 1 :: rest))) : W p l e R s m args below meth c H locs 0 0 Q (F0 m pc ls rest) :=
  va_gets C.1 C.2.1 C.nx.2.2.1 w.2.2 C.ow (C.ts _ hl) (fun _ h => h) hdg kk
theorem gfm {index : Nat} (C : Cx p s m args meth c D ca A cc own nL ret) (w : Wd A s D ws H locs) (hl : Cond.fieldLink own index "jdk/internal/util/Preconditions" "SIOOBE_FORMATTER" "Ljava/util/function/BiFunction;" ∈ WL) (hdg : decode cc pc = .ok (.getstatic index, 3)) (kn : W p l e R s m args below meth c H locs 0 0 Q (F0 m (pc + 3) ls (.null :: rest))) (kr : ∀ t : Nat, W p l e R s m args below meth c H locs 0 0 Q (F0 m (pc + 3) ls (.ref t :: rest))) : W p l e R s m args below meth c H locs 0 0 Q (F0 m pc ls rest) := by
  rcases C.nx.2.2.2 with h | ⟨t, h⟩
  · exact va_gets C.1 C.2.1 h w.2.2 C.ow (C.ts _ hl) (fun _ h => h) hdg kn
  · exact va_gets C.1 C.2.1 h w.2.2 C.ow (C.ts _ hl) (fun _ h => h) hdg (kr t)
end BASE
