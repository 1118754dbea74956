/-! two worlds beside each other -/
section LWB
variable {p : Program} {l : Launch} {e : Env} {R : Room} {s : State} {m : MethodId} {args : Array Value} {below : List Frame} {meth : Method} {c : Code} {H : Heap} {locs : List Loc} {Q : State → Prop} {cc : ByteArray} {pc : Nat} {ls : Array Slot} {rest st0 : List Value} {D : va_G} {ca : Nat → ClassId} {A : Nat → Prop} {own : String} {nL : Nat} {ret : Option FieldType} {X Y X' Y' : va_W} {cells slots : Nat}
theorem lt_of_get {α : Type} {l : List α} {k : Nat} {x : α} (h : l[k]? = some x) : k < l.length := (List.getElem?_eq_some_iff.mp h).1
theorem get_l {α : Type} {X Y : List α} {k : Nat} {x : α} (h : X[k]? = some x) : (X ++ Y)[k]? = some x := by rw [List.getElem?_append_left (lt_of_get h)]; exact h
theorem get_r {α : Type} {X Y : List α} {k : Nat} {x : α} (h : Y[k]? = some x) : (X ++ Y)[X.length + k]? = some x := by rw [List.getElem?_append_right (Nat.le_add_right _ _), Nat.add_sub_cancel_left]; exact h
theorem Wd.left (w : Wd A s D (X ++ Y) H locs) : Wd A s D X H locs := ⟨fun k q hk => w.1 k q (get_l hk), ⟨fun i j p q hi hj e => w.2.1.1 i j p q (get_l hi) (get_l hj) e, fun k q hk => w.2.1.2 k q (get_l hk)⟩, w.2.2⟩
theorem Wd.right (w : Wd A s D (X ++ Y) H locs) : Wd A s D Y H locs := ⟨fun k q hk => w.1 _ q (get_r hk), ⟨fun i j p q hi hj e => Nat.add_left_cancel (w.2.1.1 _ _ p q (get_r hi) (get_r hj) e), fun k q hk => w.2.1.2 _ q (get_r hk)⟩, w.2.2⟩
theorem Wd.offL (w : Wd A s D (X ++ Y) H locs) {j : Nat} {y : Nat × va_E} (hj : Y[j]? = some y) : y.1 < H.size ∧ ¬ va_A X H.size y.1 := by
  have hlt := (w.right.1 j y hj).lt
  refine ⟨hlt, fun h => ?_⟩
  rcases h with ⟨k, e, h⟩ | h
  · have h1 := w.2.1.1 _ _ _ _ (get_l h) (get_r hj) rfl
    have h2 := lt_of_get h
    omega
  · omega
theorem Wd.offR (w : Wd A s D (X ++ Y) H locs) {j : Nat} {y : Nat × va_E} (hj : X[j]? = some y) : y.1 < H.size ∧ ¬ va_A Y H.size y.1 := by
  have hlt := (w.left.1 j y hj).lt
  refine ⟨hlt, fun h => ?_⟩
  rcases h with ⟨k, e, h⟩ | h
  · have h1 := w.2.1.1 _ _ _ _ (get_l hj) (get_r h) rfl
    have h2 := lt_of_get hj
    omega
  · omega
theorem Wd.putL (C : Cx p s m args meth c D ca A cc own nL ret) (w : Wd A s D (X ++ Y) H locs) {H1 : Heap} {locs1 : List Loc} (hk : ∀ q : Nat, q < H.size → ¬ va_A X H.size q → H1[q]? = H[q]?) (hP1 : va_P D vwCl X' H1) (hD1 : va_D (va_A X H.size) X') (hS : va_S A s.heap H1 locs1) : Wd A s D (X' ++ Y) H1 locs1 :=
  ⟨hP1.app (fun k q hq => (w.right.1 k q hq).kept (hk q.1 (w.offL hq).1 (w.offL hq).2)), va_D.app (hD1.weaken (fun _ _ _ h => w.left.free C _ h)) w.right.2.1 (fun i j x y hx hy e => (w.offL hy).2 (e ▸ hD1.2 i x hx)), hS⟩
theorem Wd.putR (C : Cx p s m args meth c D ca A cc own nL ret) (w : Wd A s D (X ++ Y) H locs) {H1 : Heap} {locs1 : List Loc} (hk : ∀ q : Nat, q < H.size → ¬ va_A Y H.size q → H1[q]? = H[q]?) (hP1 : va_P D vwCl Y' H1) (hD1 : va_D (va_A Y H.size) Y') (hS : va_S A s.heap H1 locs1) : Wd A s D (X ++ Y') H1 locs1 :=
  ⟨va_P.app (fun k q hq => (w.left.1 k q hq).kept (hk q.1 (w.offR hq).1 (w.offR hq).2)) hP1, va_D.app w.left.2.1 (hD1.weaken (fun _ _ _ h => w.right.free C _ h)) (fun i j x y hx hy e => (w.offR hx).2 (e.symm ▸ hD1.2 j y hy)), hS⟩
theorem resL_i (C : Cx p s m args meth c D ca A cc own nL ret) (w : Wd A s D (X ++ Y) H locs) {av : Array Value} {v : Int32} (hr : va_Run p l e R s m args below meth c H locs cells slots 0 0 (F0 m pc ls st0) rest (PostI D (va_A X H.size) X' v av) (va_A X H.size))
    (kk : ∀ (H1 : Heap) (locs1 : List Loc), Wd A s D (X' ++ Y) H1 locs1 → W p l e R s m args below meth c H1 locs1 cells slots Q (F0 m (pc + 3) ls (.int v :: rest))) : W p l e R s m args below meth c H locs cells slots Q (F0 m pc ls st0) :=
  va_calli hr w.2.2 (fun q _ h => w.left.free C q h) (w.left.free C) (fun r u t H1 locs1 ht hvm hw hB hz1 hk1 hS => by
    obtain ⟨hP1, hD1⟩ := hB
    rw [ht] at hP1
    rw [show r = v from hw]
    exact kk H1 locs1 (w.putL C hk1 hP1 hD1 hS))
theorem resR_i (C : Cx p s m args meth c D ca A cc own nL ret) (w : Wd A s D (X ++ Y) H locs) {av : Array Value} {v : Int32} (hr : va_Run p l e R s m args below meth c H locs cells slots 0 0 (F0 m pc ls st0) rest (PostI D (va_A Y H.size) Y' v av) (va_A Y H.size))
    (kk : ∀ (H1 : Heap) (locs1 : List Loc), Wd A s D (X ++ Y') H1 locs1 → W p l e R s m args below meth c H1 locs1 cells slots Q (F0 m (pc + 3) ls (.int v :: rest))) : W p l e R s m args below meth c H locs cells slots Q (F0 m pc ls st0) :=
  va_calli hr w.2.2 (fun q _ h => w.right.free C q h) (w.right.free C) (fun r u t H1 locs1 ht hvm hw hB hz1 hk1 hS => by
    obtain ⟨hP1, hD1⟩ := hB
    rw [ht] at hP1
    rw [show r = v from hw]
    exact kk H1 locs1 (w.putR C hk1 hP1 hD1 hS))
theorem resL_l (C : Cx p s m args meth c D ca A cc own nL ret) (w : Wd A s D (X ++ Y) H locs) {av : Array Value} {v : Int64} (hr : va_Run p l e R s m args below meth c H locs cells slots 0 0 (F0 m pc ls st0) rest (PostL D (va_A X H.size) X' v av) (va_A X H.size))
    (kk : ∀ (H1 : Heap) (locs1 : List Loc), Wd A s D (X' ++ Y) H1 locs1 → W p l e R s m args below meth c H1 locs1 cells slots Q (F0 m (pc + 3) ls (.long v :: rest))) : W p l e R s m args below meth c H locs cells slots Q (F0 m pc ls st0) :=
  va_calll hr w.2.2 (fun q _ h => w.left.free C q h) (w.left.free C) (fun r u t H1 locs1 ht hvm hw hB hz1 hk1 hS => by
    obtain ⟨hP1, hD1⟩ := hB
    rw [ht] at hP1
    rw [show r = v from hw]
    exact kk H1 locs1 (w.putL C hk1 hP1 hD1 hS))
theorem resR_l (C : Cx p s m args meth c D ca A cc own nL ret) (w : Wd A s D (X ++ Y) H locs) {av : Array Value} {v : Int64} (hr : va_Run p l e R s m args below meth c H locs cells slots 0 0 (F0 m pc ls st0) rest (PostL D (va_A Y H.size) Y' v av) (va_A Y H.size))
    (kk : ∀ (H1 : Heap) (locs1 : List Loc), Wd A s D (X ++ Y') H1 locs1 → W p l e R s m args below meth c H1 locs1 cells slots Q (F0 m (pc + 3) ls (.long v :: rest))) : W p l e R s m args below meth c H locs cells slots Q (F0 m pc ls st0) :=
  va_calll hr w.2.2 (fun q _ h => w.right.free C q h) (w.right.free C) (fun r u t H1 locs1 ht hvm hw hB hz1 hk1 hS => by
    obtain ⟨hP1, hD1⟩ := hB
    rw [ht] at hP1
    rw [show r = v from hw]
    exact kk H1 locs1 (w.putR C hk1 hP1 hD1 hS))
theorem run_VL (C : Cx p s m args meth c D ca A cc own nL ret) (w : Wd A s D X H locs) (hl : ls.size = nL) {Cn : String} {a index n b9 : Nat} {As : List Value} {y : MethodName} {b : ByteArray} {rt : Option FieldType} {rm : Room} {Qc : Array Value → State → Outcome → State → Prop} {free : Addr → Prop}
    (hrecv : ∃ cellB : Cell, H[a]? = some cellB ∧ cellB.vm.isStatics = false ∧ s.vm.findClass Cn = some cellB.cls)
    (hM : Met l y (.code y b b9 rt :: WL) rm (PreC D ca X H.size (.ref a :: As)) Qc 0 0 free) (hrc : rm.cells = 0) (hrs : rm.slots = 0)
    (h1 : Cond.methodLink own index y ∈ WL) (h2 : Cond.instanceMethod y ∈ WL) (h3 : Cond.selects Cn y y ∈ WL) (h4 : Cond.initialized Cn ∈ WL) (h5 : Cond.code y b b9 rt ∈ WL)
    (hd : y.cls = Cn ∧ y.cls ≠ "java/lang/invoke/MethodHandle" ∧ y.cls ≠ "java/lang/invoke/VarHandle" ∧ (parseMethodDescriptor y.desc).map (fun d => d.parameters.length) = some n) (hn : As.length = n) (hR : rm.frames + 1 ≤ R.frames ∧ 8 + (b9 + 11) + rm.locals ≤ R.locals)
    (hst : st0 = As.reverse ++ .ref a :: rest) (hW : (rest.map fun v => v.category).sum ≤ 8) (hdg : decode cc pc = .ok (.invokevirtual index, 3)) (hc : cells ≤ R.cells ∧ slots ≤ R.slots) :
    va_Run p l e R s m args below meth c H locs cells slots 0 0 (F0 m pc ls st0) rest (Qc (.ref a :: As).toArray) free := by
  subst hst
  exact va_runV (As := As) (rest := rest) C.fix hM (cwV n C.ts (gV h1 h2 h3 h4 h5) rfl hrc hrs hd hR) ⟨blind D ca X H.size (.ref a :: As), hrecv, preW C w (.ref a :: As)⟩ rfl hn hl rfl (lv_room hW) hdg hc
end LWB
/-! what the two sides must show of each call: the same answer, and a pair of states that is again in the relation -/
def Op0 (Rel : St → St → Prop) (f g : St → Option (Int32 × St)) : Prop := ∀ σ τ, Rel σ τ → ∃ v σ' τ', f σ = some (v, σ') ∧ g τ = some (v, τ') ∧ Rel σ' τ'
def Op1 (Rel : St → St → Prop) (f g : St → Int32 → Option (Int32 × St)) : Prop := ∀ σ τ, Rel σ τ → ∀ a, ∃ v σ' τ', f σ a = some (v, σ') ∧ g τ a = some (v, τ') ∧ Rel σ' τ'
def Op2 (Rel : St → St → Prop) (f g : St → Int32 → Int32 → Option (Int32 × St)) : Prop := ∀ σ τ, Rel σ τ → ∀ a b, ∃ v σ' τ', f σ a b = some (v, σ') ∧ g τ a b = some (v, τ') ∧ Rel σ' τ'
def Op3 (Rel : St → St → Prop) (f g : St → Int32 → Int32 → Int32 → Option (Int32 × St)) : Prop := ∀ σ τ, Rel σ τ → ∀ a b c, ∃ v σ' τ', f σ a b c = some (v, σ') ∧ g τ a b c = some (v, τ') ∧ Rel σ' τ'
def Op4 (Rel : St → St → Prop) (f g : St → Int32 → Int32 → Int32 → Int32 → Option (Int32 × St)) : Prop := ∀ σ τ, Rel σ τ → ∀ a b c d, ∃ v σ' τ', f σ a b c d = some (v, σ') ∧ g τ a b c d = some (v, τ') ∧ Rel σ' τ'
def Op5 (Rel : St → St → Prop) (f g : St → Int32 → Int32 → Int32 → Int32 → Int32 → Option (Int32 × St)) : Prop := ∀ σ τ, Rel σ τ → ∀ a b c d e, ∃ v σ' τ', f σ a b c d e = some (v, σ') ∧ g τ a b c d e = some (v, τ') ∧ Rel σ' τ'
def OpL0 (Rel : St → St → Prop) (f g : St → Option (Int64 × St)) : Prop := ∀ σ τ, Rel σ τ → ∃ v σ' τ', f σ = some (v, σ') ∧ g τ = some (v, τ') ∧ Rel σ' τ'
def OpL1 (Rel : St → St → Prop) (f g : St → Int32 → Option (Int64 × St)) : Prop := ∀ σ τ, Rel σ τ → ∀ a, ∃ v σ' τ', f σ a = some (v, σ') ∧ g τ a = some (v, τ') ∧ Rel σ' τ'
/-- the law at a place of its body, the script read up to x3 -/
def LB (Rel : St → St → Prop) (p : Program) (l : Launch) (e : Env) (s : State) (m : MethodId) (below : List Frame) (meth : Method) (c : Code) (D : va_G) (ca : Nat → ClassId) (adc adm : Nat → Nat) (b : Nat) (x3 : Int32) (CL SL : Nat) (Q : State → Prop) (pc : Nat) : Prop := ∀ (σ τ : St) (H : Heap) (locs : List Loc) (ls : Array Slot), Rel σ τ → Wd (fun q => s.heap.size ≤ q) s D (CW ca adc σ ++ MW ca adm τ) H locs → lv_has ls 4 [(0, .ref b), (1, .ref (adc 0)), (2, .ref (adm 0)), (3, .int x3)] → W p l e room_1 s m #[Value.ref b] below meth c H locs CL SL Q (F0 m pc ls [])
