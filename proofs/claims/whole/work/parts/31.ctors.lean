abbrev rm_X5_init : Room := { frames := 1, cells := 0, slots := 0, locals := 60 }
theorem hi_X5_init : yX5_init.cls ≠ "java/lang/invoke/MethodHandle" ∧ yX5_init.cls ≠ "java/lang/invoke/VarHandle" ∧ (parseMethodDescriptor yX5_init.desc).map (fun d => d.parameters.length) = some 0 := by decide +kernel
set_option maxHeartbeats 4000000 in
set_option maxRecDepth 100000 in
theorem c_X5_init (l : Launch) (D : va_G) (ca : Nat → ClassId) (ws : va_W) (h0 sz : Nat) : Met l yX5_init (.code yX5_init cX5_init 1 none :: WL) rm_X5_init (PreN D ca ws sz [.ref h0]) (PostV D (va_A ws sz) ws) 0 0 (va_A ws sz) := by
  refine Met.ofW (cc := cX5_init) (maxL := 1) (ret := none) (by decide) rfl ?_
  intro p e s m args below meth c s₁ B hml hv
  obtain ⟨⟨rfl, hsz, hP, hK, hD, hN⟩, hI⟩ := hv
  subst hsz
  have hin : meth.name = "<init>" := (name_of_methodNamed B.named B.method).1
  have C := Cx.mk (own := RX5) B hml rfl hK hN (ws := ws)
  have w : Wd (va_A ws s.heap.size) s D ws s.heap [] := ⟨hP, hD.self, va_S.rf⟩
  have hl := lv_entry ([.ref h0]) (n := 1) (Nat.le_of_ble_eq_true rfl)
  rw [lg_entry_eq]
  generalize (lg_sl ([.ref h0]) ++ List.replicate (1 - (lg_sl ([.ref h0])).length) Slot.unset).toArray = ls at hl ⊢
  have hl : lv_has ls 1 [(0, .ref h0)] := hl
  change W p l e rm_X5_init s m _ below meth c _ [] 0 0 _ _
  clear B hP hD hK hN hml
  generalize va_A ws s.heap.size = A at C w ⊢
  generalize ([.ref h0] : List Value).toArray = av at C ⊢
  have hx := C.1
  have hb := C.2.1
  refine lv_aload_n hx hb dX5_init_0 rfl (lv_at hl 0 rfl) ?_
  refine robj C hl.1 wl_56 dX5_init_1 (Nat.le_of_ble_eq_true rfl) (Nat.le_of_ble_eq_true rfl) (Nat.le_of_ble_eq_true rfl) ?_
  exact rVW C w dX5_init_4
abbrev rm_X0_init : Room := { frames := 2, cells := 0, slots := 0, locals := 120 }
theorem hi_X0_init : yX0_init.cls ≠ "java/lang/invoke/MethodHandle" ∧ yX0_init.cls ≠ "java/lang/invoke/VarHandle" ∧ (parseMethodDescriptor yX0_init.desc).map (fun d => d.parameters.length) = some 0 := by decide +kernel
set_option maxHeartbeats 4000000 in
set_option maxRecDepth 100000 in
theorem c_X0_init (l : Launch) (D : va_G) (ca : Nat → ClassId) (ws : va_W) (h0 sz : Nat) : Met l yX0_init (.code yX0_init cX0_init 1 none :: WL) rm_X0_init (PreN D ca ws sz [.ref h0]) (PostV D (va_A ws sz) ws) 0 0 (va_A ws sz) := by
  refine Met.ofW (cc := cX0_init) (maxL := 1) (ret := none) (by decide) rfl ?_
  intro p e s m args below meth c s₁ B hml hv
  obtain ⟨⟨rfl, hsz, hP, hK, hD, hN⟩, hI⟩ := hv
  subst hsz
  have hin : meth.name = "<init>" := (name_of_methodNamed B.named B.method).1
  have C := Cx.mk (own := RX0) B hml rfl hK hN (ws := ws)
  have w : Wd (va_A ws s.heap.size) s D ws s.heap [] := ⟨hP, hD.self, va_S.rf⟩
  have hl := lv_entry ([.ref h0]) (n := 1) (Nat.le_of_ble_eq_true rfl)
  rw [lg_entry_eq]
  generalize (lg_sl ([.ref h0]) ++ List.replicate (1 - (lg_sl ([.ref h0])).length) Slot.unset).toArray = ls at hl ⊢
  have hl : lv_has ls 1 [(0, .ref h0)] := hl
  change W p l e rm_X0_init s m _ below meth c _ [] 0 0 _ _
  clear B hP hD hK hN hml
  generalize va_A ws s.heap.size = A at C w ⊢
  generalize ([.ref h0] : List Value).toArray = av at C ⊢
  have hx := C.1
  have hb := C.2.1
  refine lv_aload_n hx hb dX0_init_0 rfl (lv_at hl 0 rfl) ?_
  refine res_w C w (run_IN (As := []) (rest := []) C w hI hl.1 (c_X5_init l D ca _ h0 _) rfl rfl hI.1.2.2.1 wl_54 wl_14 wl_55 rfl hi_X5_init rfl ⟨Nat.le_of_ble_eq_true rfl, Nat.le_of_ble_eq_true rfl⟩ rfl (Nat.le_of_ble_eq_true rfl) dX0_init_1 ⟨Nat.zero_le _, Nat.zero_le _⟩) (fun H locs w => ?_)
  exact rVW C w dX0_init_4
abbrev rm_X4_init : Room := { frames := 2, cells := 0, slots := 0, locals := 120 }
theorem hi_X4_init : yX4_init.cls ≠ "java/lang/invoke/MethodHandle" ∧ yX4_init.cls ≠ "java/lang/invoke/VarHandle" ∧ (parseMethodDescriptor yX4_init.desc).map (fun d => d.parameters.length) = some 0 := by decide +kernel
set_option maxHeartbeats 4000000 in
set_option maxRecDepth 100000 in
theorem c_X4_init (l : Launch) (D : va_G) (ca : Nat → ClassId) (ws : va_W) (h0 sz : Nat) : Met l yX4_init (.code yX4_init cX4_init 1 none :: WL) rm_X4_init (PreN D ca ws sz [.ref h0]) (PostV D (va_A ws sz) ws) 0 0 (va_A ws sz) := by
  refine Met.ofW (cc := cX4_init) (maxL := 1) (ret := none) (by decide) rfl ?_
  intro p e s m args below meth c s₁ B hml hv
  obtain ⟨⟨rfl, hsz, hP, hK, hD, hN⟩, hI⟩ := hv
  subst hsz
  have hin : meth.name = "<init>" := (name_of_methodNamed B.named B.method).1
  have C := Cx.mk (own := RX4) B hml rfl hK hN (ws := ws)
  have w : Wd (va_A ws s.heap.size) s D ws s.heap [] := ⟨hP, hD.self, va_S.rf⟩
  have hl := lv_entry ([.ref h0]) (n := 1) (Nat.le_of_ble_eq_true rfl)
  rw [lg_entry_eq]
  generalize (lg_sl ([.ref h0]) ++ List.replicate (1 - (lg_sl ([.ref h0])).length) Slot.unset).toArray = ls at hl ⊢
  have hl : lv_has ls 1 [(0, .ref h0)] := hl
  change W p l e rm_X4_init s m _ below meth c _ [] 0 0 _ _
  clear B hP hD hK hN hml
  generalize va_A ws s.heap.size = A at C w ⊢
  generalize ([.ref h0] : List Value).toArray = av at C ⊢
  have hx := C.1
  have hb := C.2.1
  refine lv_aload_n hx hb dX4_init_0 rfl (lv_at hl 0 rfl) ?_
  refine res_w C w (run_IN (As := []) (rest := []) C w hI hl.1 (c_X5_init l D ca _ h0 _) rfl rfl hI.1.2.2.2.2.1 wl_54 wl_14 wl_55 rfl hi_X5_init rfl ⟨Nat.le_of_ble_eq_true rfl, Nat.le_of_ble_eq_true rfl⟩ rfl (Nat.le_of_ble_eq_true rfl) dX4_init_1 ⟨Nat.zero_le _, Nat.zero_le _⟩) (fun H locs w => ?_)
  exact rVW C w dX4_init_4
abbrev rm_X1_init : Room := { frames := 2, cells := 0, slots := 0, locals := 120 }
theorem hi_X1_init : yX1_init.cls ≠ "java/lang/invoke/MethodHandle" ∧ yX1_init.cls ≠ "java/lang/invoke/VarHandle" ∧ (parseMethodDescriptor yX1_init.desc).map (fun d => d.parameters.length) = some 0 := by decide +kernel
set_option maxHeartbeats 4000000 in
set_option maxRecDepth 100000 in
theorem c_X1_init (l : Launch) (D : va_G) (ca : Nat → ClassId) (ws : va_W) (h0 sz : Nat) : Met l yX1_init (.code yX1_init cX1_init 1 none :: WL) rm_X1_init (PreN D ca ws sz [.ref h0]) (PostV D (va_A ws sz) ws) 0 0 (va_A ws sz) := by
  refine Met.ofW (cc := cX1_init) (maxL := 1) (ret := none) (by decide) rfl ?_
  intro p e s m args below meth c s₁ B hml hv
  obtain ⟨⟨rfl, hsz, hP, hK, hD, hN⟩, hI⟩ := hv
  subst hsz
  have hin : meth.name = "<init>" := (name_of_methodNamed B.named B.method).1
  have C := Cx.mk (own := RX1) B hml rfl hK hN (ws := ws)
  have w : Wd (va_A ws s.heap.size) s D ws s.heap [] := ⟨hP, hD.self, va_S.rf⟩
  have hl := lv_entry ([.ref h0]) (n := 1) (Nat.le_of_ble_eq_true rfl)
  rw [lg_entry_eq]
  generalize (lg_sl ([.ref h0]) ++ List.replicate (1 - (lg_sl ([.ref h0])).length) Slot.unset).toArray = ls at hl ⊢
  have hl : lv_has ls 1 [(0, .ref h0)] := hl
  change W p l e rm_X1_init s m _ below meth c _ [] 0 0 _ _
  clear B hP hD hK hN hml
  generalize va_A ws s.heap.size = A at C w ⊢
  generalize ([.ref h0] : List Value).toArray = av at C ⊢
  have hx := C.1
  have hb := C.2.1
  refine lv_aload_n hx hb dX1_init_0 rfl (lv_at hl 0 rfl) ?_
  refine res_w C w (run_IN (As := []) (rest := []) C w hI hl.1 (c_X5_init l D ca _ h0 _) rfl rfl hI.1.2.2.2.2.2.2.1 wl_54 wl_14 wl_55 rfl hi_X5_init rfl ⟨Nat.le_of_ble_eq_true rfl, Nat.le_of_ble_eq_true rfl⟩ rfl (Nat.le_of_ble_eq_true rfl) dX1_init_1 ⟨Nat.zero_le _, Nat.zero_le _⟩) (fun H locs w => ?_)
  exact rVW C w dX1_init_4
abbrev rm_X8_init : Room := { frames := 3, cells := 0, slots := 0, locals := 180 }
theorem hi_X8_init : yX8_init.cls ≠ "java/lang/invoke/MethodHandle" ∧ yX8_init.cls ≠ "java/lang/invoke/VarHandle" ∧ (parseMethodDescriptor yX8_init.desc).map (fun d => d.parameters.length) = some 0 := by decide +kernel
set_option maxHeartbeats 4000000 in
set_option maxRecDepth 100000 in
theorem c_X8_init (l : Launch) (D : va_G) (ca : Nat → ClassId) (ws : va_W) (h0 sz : Nat) : Met l yX8_init (.code yX8_init cX8_init 1 none :: WL) rm_X8_init (PreN D ca ws sz [.ref h0]) (PostV D (va_A ws sz) ws) 0 0 (va_A ws sz) := by
  refine Met.ofW (cc := cX8_init) (maxL := 1) (ret := none) (by decide) rfl ?_
  intro p e s m args below meth c s₁ B hml hv
  obtain ⟨⟨rfl, hsz, hP, hK, hD, hN⟩, hI⟩ := hv
  subst hsz
  have hin : meth.name = "<init>" := (name_of_methodNamed B.named B.method).1
  have C := Cx.mk (own := RX8) B hml rfl hK hN (ws := ws)
  have w : Wd (va_A ws s.heap.size) s D ws s.heap [] := ⟨hP, hD.self, va_S.rf⟩
  have hl := lv_entry ([.ref h0]) (n := 1) (Nat.le_of_ble_eq_true rfl)
  rw [lg_entry_eq]
  generalize (lg_sl ([.ref h0]) ++ List.replicate (1 - (lg_sl ([.ref h0])).length) Slot.unset).toArray = ls at hl ⊢
  have hl : lv_has ls 1 [(0, .ref h0)] := hl
  change W p l e rm_X8_init s m _ below meth c _ [] 0 0 _ _
  clear B hP hD hK hN hml
  generalize va_A ws s.heap.size = A at C w ⊢
  generalize ([.ref h0] : List Value).toArray = av at C ⊢
  have hx := C.1
  have hb := C.2.1
  refine lv_aload_n hx hb dX8_init_0 rfl (lv_at hl 0 rfl) ?_
  refine res_w C w (run_IN (As := []) (rest := []) C w hI hl.1 (c_X4_init l D ca _ h0 _) rfl rfl hI.1.2.2.2.2.2.2.2.2.1 wl_59 wl_20 wl_60 rfl hi_X4_init rfl ⟨Nat.le_of_ble_eq_true rfl, Nat.le_of_ble_eq_true rfl⟩ rfl (Nat.le_of_ble_eq_true rfl) dX8_init_1 ⟨Nat.zero_le _, Nat.zero_le _⟩) (fun H locs w => ?_)
  exact rVW C w dX8_init_4
abbrev rm_X6_init : Room := { frames := 3, cells := 0, slots := 0, locals := 180 }
theorem hi_X6_init : yX6_init.cls ≠ "java/lang/invoke/MethodHandle" ∧ yX6_init.cls ≠ "java/lang/invoke/VarHandle" ∧ (parseMethodDescriptor yX6_init.desc).map (fun d => d.parameters.length) = some 0 := by decide +kernel
set_option maxHeartbeats 4000000 in
set_option maxRecDepth 100000 in
theorem c_X6_init (l : Launch) (D : va_G) (ca : Nat → ClassId) (ws : va_W) (h0 sz : Nat) : Met l yX6_init (.code yX6_init cX6_init 1 none :: WL) rm_X6_init (PreN D ca ws sz [.ref h0]) (PostV D (va_A ws sz) ws) 0 0 (va_A ws sz) := by
  refine Met.ofW (cc := cX6_init) (maxL := 1) (ret := none) (by decide) rfl ?_
  intro p e s m args below meth c s₁ B hml hv
  obtain ⟨⟨rfl, hsz, hP, hK, hD, hN⟩, hI⟩ := hv
  subst hsz
  have hin : meth.name = "<init>" := (name_of_methodNamed B.named B.method).1
  have C := Cx.mk (own := RX6) B hml rfl hK hN (ws := ws)
  have w : Wd (va_A ws s.heap.size) s D ws s.heap [] := ⟨hP, hD.self, va_S.rf⟩
  have hl := lv_entry ([.ref h0]) (n := 1) (Nat.le_of_ble_eq_true rfl)
  rw [lg_entry_eq]
  generalize (lg_sl ([.ref h0]) ++ List.replicate (1 - (lg_sl ([.ref h0])).length) Slot.unset).toArray = ls at hl ⊢
  have hl : lv_has ls 1 [(0, .ref h0)] := hl
  change W p l e rm_X6_init s m _ below meth c _ [] 0 0 _ _
  clear B hP hD hK hN hml
  generalize va_A ws s.heap.size = A at C w ⊢
  generalize ([.ref h0] : List Value).toArray = av at C ⊢
  have hx := C.1
  have hb := C.2.1
  refine lv_aload_n hx hb dX6_init_0 rfl (lv_at hl 0 rfl) ?_
  refine res_w C w (run_IN (As := []) (rest := []) C w hI hl.1 (c_X0_init l D ca _ h0 _) rfl rfl hI.1.2.2.2.2.2.2.2.2.2.2.1 wl_57 wl_17 wl_58 rfl hi_X0_init rfl ⟨Nat.le_of_ble_eq_true rfl, Nat.le_of_ble_eq_true rfl⟩ rfl (Nat.le_of_ble_eq_true rfl) dX6_init_1 ⟨Nat.zero_le _, Nat.zero_le _⟩) (fun H locs w => ?_)
  exact rVW C w dX6_init_4
def FWn (ca : Nat → ClassId) (h0 : Nat) (u : Nat → Nat) : va_W := [(h0, .inr (2, [.ref (u 1), .ref (u 2), .ref (u 3), .ref (u 4), .ref (u 5), .ref (u 6), .int 0, .int 0, .int 0, .int 0, .int 0, .int 0])), (u 1, .inl (ca 0, 7, .inl (fun _ => 0))), (u 2, .inl (ca 0, 7, .inl (fun _ => 0))), (u 3, .inl (ca 0, 30, .inl (fun _ => 0))), (u 4, .inl (ca 0, 18, .inl (fun _ => 0))), (u 5, .inl (ca 0, 8, .inl (fun _ => 0))), (u 6, .inl (ca 0, 8, .inl (fun _ => 0)))]
def RWn (ca : Nat → ClassId) (h0 a1 a2 : Nat) (u : Nat → Nat) : va_W := [(h0, .inr (6, [.ref a1, .ref a2, .ref (u 1), .ref (u 2), .int 0, .int 0, .int 0, .int 0, .int 0])), (u 1, .inl (ca 0, 896, .inl (fun _ => 0))), (u 2, .inl (ca 0, 7, .inl (fun _ => 0)))]
def XWn (ca : Nat → ClassId) (h0 a1 a2 : Nat) (_ : Nat → Nat) : va_W := [(h0, .inr (8, [.ref a1, .ref a2, .int 0, .int 0, .int 0, .int 0, .int 0, .int 0]))]
abbrev rm_X2_init : Room := { frames := 1, cells := 6, slots := 78, locals := 60 }
theorem hi_X2_init : yX2_init.cls ≠ "java/lang/invoke/MethodHandle" ∧ yX2_init.cls ≠ "java/lang/invoke/VarHandle" ∧ (parseMethodDescriptor yX2_init.desc).map (fun d => d.parameters.length) = some 0 := by decide +kernel
set_option maxHeartbeats 8000000 in
set_option maxRecDepth 100000 in
theorem c_X2_init (l : Launch) (D : va_G) (ca : Nat → ClassId) (h0 sz : Nat) : Met l yX2_init (.code yX2_init cX2_init 1 none :: WL) rm_X2_init (PreN D ca ([(h0, .inr (2, [.null, .null, .null, .null, .null, .null, .int 0, .int 0, .int 0, .int 0, .int 0, .int 0]))]) sz [.ref h0]) (PostN D (va_A ([(h0, .inr (2, [.null, .null, .null, .null, .null, .null, .int 0, .int 0, .int 0, .int 0, .int 0, .int 0]))]) sz) (FWn ca h0) (fun _ : Nat → Nat => True)) 6 78 (va_A ([(h0, .inr (2, [.null, .null, .null, .null, .null, .null, .int 0, .int 0, .int 0, .int 0, .int 0, .int 0]))]) sz) := by
  refine Met.ofW (cc := cX2_init) (maxL := 1) (ret := none) (by decide) rfl ?_
  intro p e s m args below meth c s₁ B hml hv
  obtain ⟨⟨rfl, hsz, hP, hK, hD, hN⟩, hI⟩ := hv
  subst hsz
  have hin : meth.name = "<init>" := (name_of_methodNamed B.named B.method).1
  have C := Cx.mk (own := RX2) B hml rfl hK hN (ws := [(h0, .inr (2, [.null, .null, .null, .null, .null, .null, .int 0, .int 0, .int 0, .int 0, .int 0, .int 0]))])
  have w : Wd (va_A ([(h0, .inr (2, [.null, .null, .null, .null, .null, .null, .int 0, .int 0, .int 0, .int 0, .int 0, .int 0]))]) s.heap.size) s D ([(h0, .inr (2, [.null, .null, .null, .null, .null, .null, .int 0, .int 0, .int 0, .int 0, .int 0, .int 0]))]) s.heap [] := ⟨hP, hD.self, va_S.rf⟩
  have hl := lv_entry ([.ref h0]) (n := 1) (Nat.le_of_ble_eq_true rfl)
  rw [lg_entry_eq]
  generalize (lg_sl ([.ref h0]) ++ List.replicate (1 - (lg_sl ([.ref h0])).length) Slot.unset).toArray = ls at hl ⊢
  have hl : lv_has ls 1 [(0, .ref h0)] := hl
  change W p l e rm_X2_init s m _ below meth c _ [] 0 0 _ _
  clear B hP hD hK hN hml
  generalize va_A ([(h0, .inr (2, [.null, .null, .null, .null, .null, .null, .int 0, .int 0, .int 0, .int 0, .int 0, .int 0]))]) s.heap.size = A at C w ⊢
  generalize ([.ref h0] : List Value).toArray = av at C ⊢
  have hx := C.1
  have hb := C.2.1
  generalize ([] : List Loc) = locs at w ⊢
  refine lv_aload_n hx hb dX2_init_0 rfl (lv_at hl 0 rfl) ?_
  refine robj C hl.1 wl_69 dX2_init_1 (Nat.le_of_ble_eq_true rfl) (Nat.le_of_ble_eq_true rfl) (Nat.le_of_ble_eq_true rfl) ?_
  refine lv_aload_n hx hb dX2_init_4 rfl (lv_at hl 0 rfl) ?_
  refine lv_bipush (v := 7) hx hb dX2_init_5 (by decide) ?_
  refine rnwa (atype := .int) (ty := .int) (n := 7) (N' := 7) C w 0 rfl wl_49 rfl rfl (fun _ h => h) (by decide) (by decide) (by decide) (Nat.le_of_ble_eq_true rfl) (Nat.le_of_ble_eq_true rfl) dX2_init_7 (fun q1 H w => ?_)
  have w : Wd A s D [(h0, .inr (2, [.null, .null, .null, .null, .null, .null, .int 0, .int 0, .int 0, .int 0, .int 0, .int 0])), (q1, .inl (ca 0, 7, .inl (fun _ => 0)))] H locs := w
  refine rpf (ty := .array .int) (ws' := [(h0, .inr (2, [.ref q1, .null, .null, .null, .null, .null, .int 0, .int 0, .int 0, .int 0, .int 0, .int 0])), (q1, .inl (ca 0, 7, .inl (fun _ => 0)))]) C w hin 0 0 rfl rfl inwX2 tyX2_ok nmX2 (by decide) wl_70 rfl rfl rfl (by decide +kernel) rfl rfl (Nat.le_of_ble_eq_true rfl) rfl dX2_init_9 (fun H locs w => ?_)
  refine lv_aload_n hx hb dX2_init_12 rfl (lv_at hl 0 rfl) ?_
  refine lv_bipush (v := 7) hx hb dX2_init_13 (by decide) ?_
  refine rnwa (atype := .int) (ty := .int) (n := 7) (N' := 7) C w 0 rfl wl_49 rfl rfl (fun _ h => h) (by decide) (by decide) (by decide) (Nat.le_of_ble_eq_true rfl) (Nat.le_of_ble_eq_true rfl) dX2_init_15 (fun q2 H w => ?_)
  have w : Wd A s D [(h0, .inr (2, [.ref q1, .null, .null, .null, .null, .null, .int 0, .int 0, .int 0, .int 0, .int 0, .int 0])), (q1, .inl (ca 0, 7, .inl (fun _ => 0))), (q2, .inl (ca 0, 7, .inl (fun _ => 0)))] H locs := w
  refine rpf (ty := .array .int) (ws' := [(h0, .inr (2, [.ref q1, .ref q2, .null, .null, .null, .null, .int 0, .int 0, .int 0, .int 0, .int 0, .int 0])), (q1, .inl (ca 0, 7, .inl (fun _ => 0))), (q2, .inl (ca 0, 7, .inl (fun _ => 0)))]) C w hin 0 1 rfl rfl inwX2 tyX2_ok nmX2 (by decide) wl_71 rfl rfl rfl (by decide +kernel) rfl rfl (Nat.le_of_ble_eq_true rfl) rfl dX2_init_17 (fun H locs w => ?_)
  refine lv_aload_n hx hb dX2_init_20 rfl (lv_at hl 0 rfl) ?_
  refine lv_bipush (v := 30) hx hb dX2_init_21 (by decide) ?_
  refine rnwa (atype := .int) (ty := .int) (n := 30) (N' := 30) C w 0 rfl wl_49 rfl rfl (fun _ h => h) (by decide) (by decide) (by decide) (Nat.le_of_ble_eq_true rfl) (Nat.le_of_ble_eq_true rfl) dX2_init_23 (fun q3 H w => ?_)
  have w : Wd A s D [(h0, .inr (2, [.ref q1, .ref q2, .null, .null, .null, .null, .int 0, .int 0, .int 0, .int 0, .int 0, .int 0])), (q1, .inl (ca 0, 7, .inl (fun _ => 0))), (q2, .inl (ca 0, 7, .inl (fun _ => 0))), (q3, .inl (ca 0, 30, .inl (fun _ => 0)))] H locs := w
  refine rpf (ty := .array .int) (ws' := [(h0, .inr (2, [.ref q1, .ref q2, .ref q3, .null, .null, .null, .int 0, .int 0, .int 0, .int 0, .int 0, .int 0])), (q1, .inl (ca 0, 7, .inl (fun _ => 0))), (q2, .inl (ca 0, 7, .inl (fun _ => 0))), (q3, .inl (ca 0, 30, .inl (fun _ => 0)))]) C w hin 0 2 rfl rfl inwX2 tyX2_ok nmX2 (by decide) wl_72 rfl rfl rfl (by decide +kernel) rfl rfl (Nat.le_of_ble_eq_true rfl) rfl dX2_init_25 (fun H locs w => ?_)
  refine lv_aload_n hx hb dX2_init_28 rfl (lv_at hl 0 rfl) ?_
  refine lv_bipush (v := 18) hx hb dX2_init_29 (by decide) ?_
  refine rnwa (atype := .int) (ty := .int) (n := 18) (N' := 18) C w 0 rfl wl_49 rfl rfl (fun _ h => h) (by decide) (by decide) (by decide) (Nat.le_of_ble_eq_true rfl) (Nat.le_of_ble_eq_true rfl) dX2_init_31 (fun q4 H w => ?_)
  have w : Wd A s D [(h0, .inr (2, [.ref q1, .ref q2, .ref q3, .null, .null, .null, .int 0, .int 0, .int 0, .int 0, .int 0, .int 0])), (q1, .inl (ca 0, 7, .inl (fun _ => 0))), (q2, .inl (ca 0, 7, .inl (fun _ => 0))), (q3, .inl (ca 0, 30, .inl (fun _ => 0))), (q4, .inl (ca 0, 18, .inl (fun _ => 0)))] H locs := w
  refine rpf (ty := .array .int) (ws' := [(h0, .inr (2, [.ref q1, .ref q2, .ref q3, .ref q4, .null, .null, .int 0, .int 0, .int 0, .int 0, .int 0, .int 0])), (q1, .inl (ca 0, 7, .inl (fun _ => 0))), (q2, .inl (ca 0, 7, .inl (fun _ => 0))), (q3, .inl (ca 0, 30, .inl (fun _ => 0))), (q4, .inl (ca 0, 18, .inl (fun _ => 0)))]) C w hin 0 3 rfl rfl inwX2 tyX2_ok nmX2 (by decide) wl_73 rfl rfl rfl (by decide +kernel) rfl rfl (Nat.le_of_ble_eq_true rfl) rfl dX2_init_33 (fun H locs w => ?_)
  refine lv_aload_n hx hb dX2_init_36 rfl (lv_at hl 0 rfl) ?_
  refine lv_bipush (v := 8) hx hb dX2_init_37 (by decide) ?_
  refine rnwa (atype := .int) (ty := .int) (n := 8) (N' := 8) C w 0 rfl wl_49 rfl rfl (fun _ h => h) (by decide) (by decide) (by decide) (Nat.le_of_ble_eq_true rfl) (Nat.le_of_ble_eq_true rfl) dX2_init_39 (fun q5 H w => ?_)
  have w : Wd A s D [(h0, .inr (2, [.ref q1, .ref q2, .ref q3, .ref q4, .null, .null, .int 0, .int 0, .int 0, .int 0, .int 0, .int 0])), (q1, .inl (ca 0, 7, .inl (fun _ => 0))), (q2, .inl (ca 0, 7, .inl (fun _ => 0))), (q3, .inl (ca 0, 30, .inl (fun _ => 0))), (q4, .inl (ca 0, 18, .inl (fun _ => 0))), (q5, .inl (ca 0, 8, .inl (fun _ => 0)))] H locs := w
  refine rpf (ty := .array .int) (ws' := [(h0, .inr (2, [.ref q1, .ref q2, .ref q3, .ref q4, .ref q5, .null, .int 0, .int 0, .int 0, .int 0, .int 0, .int 0])), (q1, .inl (ca 0, 7, .inl (fun _ => 0))), (q2, .inl (ca 0, 7, .inl (fun _ => 0))), (q3, .inl (ca 0, 30, .inl (fun _ => 0))), (q4, .inl (ca 0, 18, .inl (fun _ => 0))), (q5, .inl (ca 0, 8, .inl (fun _ => 0)))]) C w hin 0 4 rfl rfl inwX2 tyX2_ok nmX2 (by decide) wl_74 rfl rfl rfl (by decide +kernel) rfl rfl (Nat.le_of_ble_eq_true rfl) rfl dX2_init_41 (fun H locs w => ?_)
  refine lv_aload_n hx hb dX2_init_44 rfl (lv_at hl 0 rfl) ?_
  refine lv_bipush (v := 8) hx hb dX2_init_45 (by decide) ?_
  refine rnwa (atype := .int) (ty := .int) (n := 8) (N' := 8) C w 0 rfl wl_49 rfl rfl (fun _ h => h) (by decide) (by decide) (by decide) (Nat.le_of_ble_eq_true rfl) (Nat.le_of_ble_eq_true rfl) dX2_init_47 (fun q6 H w => ?_)
  have w : Wd A s D [(h0, .inr (2, [.ref q1, .ref q2, .ref q3, .ref q4, .ref q5, .null, .int 0, .int 0, .int 0, .int 0, .int 0, .int 0])), (q1, .inl (ca 0, 7, .inl (fun _ => 0))), (q2, .inl (ca 0, 7, .inl (fun _ => 0))), (q3, .inl (ca 0, 30, .inl (fun _ => 0))), (q4, .inl (ca 0, 18, .inl (fun _ => 0))), (q5, .inl (ca 0, 8, .inl (fun _ => 0))), (q6, .inl (ca 0, 8, .inl (fun _ => 0)))] H locs := w
  refine rpf (ty := .array .int) (ws' := [(h0, .inr (2, [.ref q1, .ref q2, .ref q3, .ref q4, .ref q5, .ref q6, .int 0, .int 0, .int 0, .int 0, .int 0, .int 0])), (q1, .inl (ca 0, 7, .inl (fun _ => 0))), (q2, .inl (ca 0, 7, .inl (fun _ => 0))), (q3, .inl (ca 0, 30, .inl (fun _ => 0))), (q4, .inl (ca 0, 18, .inl (fun _ => 0))), (q5, .inl (ca 0, 8, .inl (fun _ => 0))), (q6, .inl (ca 0, 8, .inl (fun _ => 0)))]) C w hin 0 5 rfl rfl inwX2 tyX2_ok nmX2 (by decide) wl_75 rfl rfl rfl (by decide +kernel) rfl rfl (Nat.le_of_ble_eq_true rfl) rfl dX2_init_49 (fun H locs w => ?_)
  refine W.widen (k := 6) (n := 78) (Nat.le_of_ble_eq_true rfl) (Nat.le_of_ble_eq_true rfl) ?_
  exact rN (w1 := FWn ca h0) (fun k => [0, q1, q2, q3, q4, q5, q6].getD k 0) trivial C w dX2_init_52
abbrev rm_X7_init : Room := { frames := 1, cells := 2, slots := 903, locals := 60 }
theorem hi_X7_init : yX7_init.cls ≠ "java/lang/invoke/MethodHandle" ∧ yX7_init.cls ≠ "java/lang/invoke/VarHandle" ∧ (parseMethodDescriptor yX7_init.desc).map (fun d => d.parameters.length) = some 2 := by decide +kernel
set_option maxHeartbeats 8000000 in
set_option maxRecDepth 100000 in
theorem c_X7_init (l : Launch) (D : va_G) (ca : Nat → ClassId) (h0 a1 a2 sz : Nat) : Met l yX7_init (.code yX7_init cX7_init 3 none :: WL) rm_X7_init (PreN D ca ([(h0, .inr (6, [.null, .null, .null, .null, .int 0, .int 0, .int 0, .int 0, .int 0]))]) sz [.ref h0, .ref a1, .ref a2]) (PostN D (va_A ([(h0, .inr (6, [.null, .null, .null, .null, .int 0, .int 0, .int 0, .int 0, .int 0]))]) sz) (RWn ca h0 a1 a2) (fun _ : Nat → Nat => True)) 2 903 (va_A ([(h0, .inr (6, [.null, .null, .null, .null, .int 0, .int 0, .int 0, .int 0, .int 0]))]) sz) := by
  refine Met.ofW (cc := cX7_init) (maxL := 3) (ret := none) (by decide) rfl ?_
  intro p e s m args below meth c s₁ B hml hv
  obtain ⟨⟨rfl, hsz, hP, hK, hD, hN⟩, hI⟩ := hv
  subst hsz
  have hin : meth.name = "<init>" := (name_of_methodNamed B.named B.method).1
  have C := Cx.mk (own := RX7) B hml rfl hK hN (ws := [(h0, .inr (6, [.null, .null, .null, .null, .int 0, .int 0, .int 0, .int 0, .int 0]))])
  have w : Wd (va_A ([(h0, .inr (6, [.null, .null, .null, .null, .int 0, .int 0, .int 0, .int 0, .int 0]))]) s.heap.size) s D ([(h0, .inr (6, [.null, .null, .null, .null, .int 0, .int 0, .int 0, .int 0, .int 0]))]) s.heap [] := ⟨hP, hD.self, va_S.rf⟩
  have hl := lv_entry ([.ref h0, .ref a1, .ref a2]) (n := 3) (Nat.le_of_ble_eq_true rfl)
  rw [lg_entry_eq]
  generalize (lg_sl ([.ref h0, .ref a1, .ref a2]) ++ List.replicate (3 - (lg_sl ([.ref h0, .ref a1, .ref a2])).length) Slot.unset).toArray = ls at hl ⊢
  have hl : lv_has ls 3 [(0, .ref h0), (1, .ref a1), (2, .ref a2)] := hl
  change W p l e rm_X7_init s m _ below meth c _ [] 0 0 _ _
  clear B hP hD hK hN hml
  generalize va_A ([(h0, .inr (6, [.null, .null, .null, .null, .int 0, .int 0, .int 0, .int 0, .int 0]))]) s.heap.size = A at C w ⊢
  generalize ([.ref h0, .ref a1, .ref a2] : List Value).toArray = av at C ⊢
  have hx := C.1
  have hb := C.2.1
  generalize ([] : List Loc) = locs at w ⊢
  refine lv_aload_n hx hb dX7_init_0 rfl (lv_at hl 0 rfl) ?_
  refine robj C hl.1 wl_79 dX7_init_1 (Nat.le_of_ble_eq_true rfl) (Nat.le_of_ble_eq_true rfl) (Nat.le_of_ble_eq_true rfl) ?_
  refine lv_aload_n hx hb dX7_init_4 rfl (lv_at hl 0 rfl) ?_
  refine lv_sipush (v := 896) hx hb dX7_init_5 (by decide) ?_
  refine rnwa (atype := .int) (ty := .int) (n := 896) (N' := 896) C w 0 rfl wl_49 rfl rfl (fun _ h => h) (by decide) (by decide) (by decide) (Nat.le_of_ble_eq_true rfl) (Nat.le_of_ble_eq_true rfl) dX7_init_8 (fun q1 H w => ?_)
  have w : Wd A s D [(h0, .inr (6, [.null, .null, .null, .null, .int 0, .int 0, .int 0, .int 0, .int 0])), (q1, .inl (ca 0, 896, .inl (fun _ => 0)))] H locs := w
  refine rpf (ty := .array .int) (ws' := [(h0, .inr (6, [.null, .null, .ref q1, .null, .int 0, .int 0, .int 0, .int 0, .int 0])), (q1, .inl (ca 0, 896, .inl (fun _ => 0)))]) C w hin 0 2 rfl rfl inwX7 tyX7_ok nmX7 (by decide) wl_80 rfl rfl rfl (by decide +kernel) rfl rfl (Nat.le_of_ble_eq_true rfl) rfl dX7_init_10 (fun H locs w => ?_)
  refine lv_aload_n hx hb dX7_init_13 rfl (lv_at hl 0 rfl) ?_
  refine lv_bipush (v := 7) hx hb dX7_init_14 (by decide) ?_
  refine rnwa (atype := .int) (ty := .int) (n := 7) (N' := 7) C w 0 rfl wl_49 rfl rfl (fun _ h => h) (by decide) (by decide) (by decide) (Nat.le_of_ble_eq_true rfl) (Nat.le_of_ble_eq_true rfl) dX7_init_16 (fun q2 H w => ?_)
  have w : Wd A s D [(h0, .inr (6, [.null, .null, .ref q1, .null, .int 0, .int 0, .int 0, .int 0, .int 0])), (q1, .inl (ca 0, 896, .inl (fun _ => 0))), (q2, .inl (ca 0, 7, .inl (fun _ => 0)))] H locs := w
  refine rpf (ty := .array .int) (ws' := [(h0, .inr (6, [.null, .null, .ref q1, .ref q2, .int 0, .int 0, .int 0, .int 0, .int 0])), (q1, .inl (ca 0, 896, .inl (fun _ => 0))), (q2, .inl (ca 0, 7, .inl (fun _ => 0)))]) C w hin 0 3 rfl rfl inwX7 tyX7_ok nmX7 (by decide) wl_81 rfl rfl rfl (by decide +kernel) rfl rfl (Nat.le_of_ble_eq_true rfl) rfl dX7_init_18 (fun H locs w => ?_)
  refine lv_aload_n hx hb dX7_init_21 rfl (lv_at hl 0 rfl) ?_
  refine lv_aload_n hx hb dX7_init_22 rfl (lv_at hl 1 rfl) ?_
  refine rpf (ty := .object "BarkPost$Forest") (ws' := [(h0, .inr (6, [.ref a1, .null, .ref q1, .ref q2, .int 0, .int 0, .int 0, .int 0, .int 0])), (q1, .inl (ca 0, 896, .inl (fun _ => 0))), (q2, .inl (ca 0, 7, .inl (fun _ => 0)))]) C w hin 0 0 rfl rfl inwX7 tyX7_ok nmX7 (by decide) wl_82 rfl rfl rfl (by decide +kernel) rfl rfl (Nat.le_of_ble_eq_true rfl) rfl dX7_init_23 (fun H locs w => ?_)
  refine lv_aload_n hx hb dX7_init_26 rfl (lv_at hl 0 rfl) ?_
  refine lv_aload_n hx hb dX7_init_27 rfl (lv_at hl 2 rfl) ?_
  refine rpf (ty := .array (.object "BarkPost$Plain")) (ws' := [(h0, .inr (6, [.ref a1, .ref a2, .ref q1, .ref q2, .int 0, .int 0, .int 0, .int 0, .int 0])), (q1, .inl (ca 0, 896, .inl (fun _ => 0))), (q2, .inl (ca 0, 7, .inl (fun _ => 0)))]) C w hin 0 1 rfl rfl inwX7 tyX7_ok nmX7 (by decide) wl_83 rfl rfl rfl (by decide +kernel) rfl rfl (Nat.le_of_ble_eq_true rfl) rfl dX7_init_28 (fun H locs w => ?_)
  refine W.widen (k := 2) (n := 903) (Nat.le_of_ble_eq_true rfl) (Nat.le_of_ble_eq_true rfl) ?_
  exact rN (w1 := RWn ca h0 a1 a2) (fun k => [0, q1, q2].getD k 0) trivial C w dX7_init_31
abbrev rm_X9_init : Room := { frames := 1, cells := 0, slots := 0, locals := 60 }
theorem hi_X9_init : yX9_init.cls ≠ "java/lang/invoke/MethodHandle" ∧ yX9_init.cls ≠ "java/lang/invoke/VarHandle" ∧ (parseMethodDescriptor yX9_init.desc).map (fun d => d.parameters.length) = some 2 := by decide +kernel
set_option maxHeartbeats 8000000 in
set_option maxRecDepth 100000 in
theorem c_X9_init (l : Launch) (D : va_G) (ca : Nat → ClassId) (h0 a1 a2 sz : Nat) : Met l yX9_init (.code yX9_init cX9_init 3 none :: WL) rm_X9_init (PreN D ca ([(h0, .inr (8, [.null, .null, .int 0, .int 0, .int 0, .int 0, .int 0, .int 0]))]) sz [.ref h0, .ref a1, .ref a2]) (PostN D (va_A ([(h0, .inr (8, [.null, .null, .int 0, .int 0, .int 0, .int 0, .int 0, .int 0]))]) sz) (XWn ca h0 a1 a2) (fun _ : Nat → Nat => True)) 0 0 (va_A ([(h0, .inr (8, [.null, .null, .int 0, .int 0, .int 0, .int 0, .int 0, .int 0]))]) sz) := by
  refine Met.ofW (cc := cX9_init) (maxL := 3) (ret := none) (by decide) rfl ?_
  intro p e s m args below meth c s₁ B hml hv
  obtain ⟨⟨rfl, hsz, hP, hK, hD, hN⟩, hI⟩ := hv
  subst hsz
  have hin : meth.name = "<init>" := (name_of_methodNamed B.named B.method).1
  have C := Cx.mk (own := RX9) B hml rfl hK hN (ws := [(h0, .inr (8, [.null, .null, .int 0, .int 0, .int 0, .int 0, .int 0, .int 0]))])
  have w : Wd (va_A ([(h0, .inr (8, [.null, .null, .int 0, .int 0, .int 0, .int 0, .int 0, .int 0]))]) s.heap.size) s D ([(h0, .inr (8, [.null, .null, .int 0, .int 0, .int 0, .int 0, .int 0, .int 0]))]) s.heap [] := ⟨hP, hD.self, va_S.rf⟩
  have hl := lv_entry ([.ref h0, .ref a1, .ref a2]) (n := 3) (Nat.le_of_ble_eq_true rfl)
  rw [lg_entry_eq]
  generalize (lg_sl ([.ref h0, .ref a1, .ref a2]) ++ List.replicate (3 - (lg_sl ([.ref h0, .ref a1, .ref a2])).length) Slot.unset).toArray = ls at hl ⊢
  have hl : lv_has ls 3 [(0, .ref h0), (1, .ref a1), (2, .ref a2)] := hl
  change W p l e rm_X9_init s m _ below meth c _ [] 0 0 _ _
  clear B hP hD hK hN hml
  generalize va_A ([(h0, .inr (8, [.null, .null, .int 0, .int 0, .int 0, .int 0, .int 0, .int 0]))]) s.heap.size = A at C w ⊢
  generalize ([.ref h0, .ref a1, .ref a2] : List Value).toArray = av at C ⊢
  have hx := C.1
  have hb := C.2.1
  generalize ([] : List Loc) = locs at w ⊢
  refine lv_aload_n hx hb dX9_init_0 rfl (lv_at hl 0 rfl) ?_
  refine robj C hl.1 wl_87 dX9_init_1 (Nat.le_of_ble_eq_true rfl) (Nat.le_of_ble_eq_true rfl) (Nat.le_of_ble_eq_true rfl) ?_
  refine lv_aload_n hx hb dX9_init_4 rfl (lv_at hl 0 rfl) ?_
  refine lv_aload_n hx hb dX9_init_5 rfl (lv_at hl 1 rfl) ?_
  refine rpf (ty := .array .byte) (ws' := [(h0, .inr (8, [.ref a1, .null, .int 0, .int 0, .int 0, .int 0, .int 0, .int 0]))]) C w hin 0 0 rfl rfl inwX9 tyX9_ok nmX9 (by decide) wl_88 rfl rfl rfl (by decide +kernel) rfl rfl (Nat.le_of_ble_eq_true rfl) rfl dX9_init_6 (fun H locs w => ?_)
  refine lv_aload_n hx hb dX9_init_9 rfl (lv_at hl 0 rfl) ?_
  refine lv_aload_n hx hb dX9_init_10 rfl (lv_at hl 2 rfl) ?_
  refine rpf (ty := .object "BarkPost$Forest") (ws' := [(h0, .inr (8, [.ref a1, .ref a2, .int 0, .int 0, .int 0, .int 0, .int 0, .int 0]))]) C w hin 0 1 rfl rfl inwX9 tyX9_ok nmX9 (by decide) wl_89 rfl rfl rfl (by decide +kernel) rfl rfl (Nat.le_of_ble_eq_true rfl) rfl dX9_init_11 (fun H locs w => ?_)
  refine W.widen (k := 0) (n := 0) (Nat.le_of_ble_eq_true rfl) (Nat.le_of_ble_eq_true rfl) ?_
  exact rN (w1 := XWn ca h0 a1 a2) (fun k => k) trivial C w dX9_init_14
