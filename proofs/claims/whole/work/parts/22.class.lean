theorem hd_X2_startAt : yX2_startAt.cls = RX2 ∧ yX2_startAt.cls ≠ "java/lang/invoke/MethodHandle" ∧ yX2_startAt.cls ≠ "java/lang/invoke/VarHandle" ∧ (parseMethodDescriptor yX2_startAt.desc).map (fun d => d.parameters.length) = some 1 := by decide +kernel
def f_X2_startAt_1 (σ : St) (x1 : Int32) : Option (St) := some (sI (sI (sI (sI (sI (sI σ 106 (0 : Int32)) 107 (0 : Int32)) 108 x1) 109 (0 : Int32)) 110 (0 : Int32)) 111 (0 : Int32))
abbrev rm_X2_startAt_1 : Room := { frames := 0, cells := 0, slots := 0, locals := 0 }
set_option maxHeartbeats 4000000 in
set_option maxRecDepth 100000 in
theorem c_X2_startAt_1 (l : Launch) (D : va_G) (ca : Nat → ClassId) (ad : Nat → Nat) (σ : St) (x1 : Int32) (sz : Nat) (out : St) (hf : f_X2_startAt_1 σ x1 = some out) : Met l yX2_startAt (.code yX2_startAt cX2_startAt 2 none :: WL) rm_X2_startAt_1 (PreC D ca (CW ca ad σ) sz [.ref (ad 1), .int x1]) (PostV D (va_A (CW ca ad σ) sz) (CW ca ad out)) 0 0 (va_A (CW ca ad σ) sz) := by
  refine Met.ofW (cc := cX2_startAt) (maxL := 2) (ret := none) (by decide) rfl ?_
  intro p e s m args below meth c s₁ B hml hv
  obtain ⟨rfl, hsz, hP, hK, hD, hN⟩ := hv
  subst hsz
  have C := Cx.mk (own := RX2) B hml rfl hK hN (ws := (CW ca ad σ))
  have w : Wd (va_A (CW ca ad σ) s.heap.size) s D (CW ca ad σ) s.heap [] := ⟨hP, hD.self, va_S.rf⟩
  have hl := lv_entry ([.ref (ad 1), .int x1]) (n := 2) (Nat.le_of_ble_eq_true rfl)
  rw [lg_entry_eq]
  generalize (lg_sl ([.ref (ad 1), .int x1]) ++ List.replicate (2 - (lg_sl ([.ref (ad 1), .int x1])).length) Slot.unset).toArray = ls at hl ⊢
  have hl : lv_has ls 2 [(0, .ref (ad 1)), (1, .int x1)] := hl
  change W p l e rm_X2_startAt_1 s m _ below meth c _ [] 0 0 _ _
  clear B hP hD hK hN hml
  generalize va_A (CW ca ad σ) s.heap.size = A at C w ⊢
  generalize ([.ref (ad 1), .int x1] : List Value).toArray = av at C ⊢
  obtain ⟨Q, hQ⟩ : ∃ Q, Q = MQ below (PostV D A (CW ca ad out)) av s 0 0 A := ⟨_, rfl⟩
  rw [← hQ]
  have hx := C.1
  have hb := C.2.1
  have h := hf
  unfold f_X2_startAt_1 at h
  refine lv_aload_n hx hb dX2_startAt_0 rfl (lv_at hl 0 rfl) ?_
  refine lv_iconst (v := 0) hx hb dX2_startAt_1 (by decide) ?_
  refine pC1_6 C w wl_126 dX2_startAt_2 (fun H locs w => ?_)
  refine lv_aload_n hx hb dX2_startAt_5 rfl (lv_at hl 0 rfl) ?_
  refine lv_iconst (v := 0) hx hb dX2_startAt_6 (by decide) ?_
  refine pC1_7 C w wl_127 dX2_startAt_7 (fun H locs w => ?_)
  refine lv_aload_n hx hb dX2_startAt_10 rfl (lv_at hl 0 rfl) ?_
  refine lv_iload_n hx hb dX2_startAt_11 rfl (lv_at hl 1 rfl) ?_
  refine pC1_8 C w wl_128 dX2_startAt_12 (fun H locs w => ?_)
  refine lv_aload_n hx hb dX2_startAt_15 rfl (lv_at hl 0 rfl) ?_
  refine lv_iconst (v := 0) hx hb dX2_startAt_16 (by decide) ?_
  refine pC1_9 C w wl_129 dX2_startAt_17 (fun H locs w => ?_)
  refine lv_aload_n hx hb dX2_startAt_20 rfl (lv_at hl 0 rfl) ?_
  refine lv_iconst (v := 0) hx hb dX2_startAt_21 (by decide) ?_
  refine pC1_10 C w wl_130 dX2_startAt_22 (fun H locs w => ?_)
  refine lv_aload_n hx hb dX2_startAt_25 rfl (lv_at hl 0 rfl) ?_
  refine lv_iconst (v := 0) hx hb dX2_startAt_26 (by decide) ?_
  refine pC1_11 C w wl_131 dX2_startAt_27 (fun H locs w => ?_)
  rw [hQ]
  exact rV (F := CW ca ad) C w h dX2_startAt_30
theorem hd_X10_refuseAsBad : yX10_refuseAsBad.cls = RX10 ∧ yX10_refuseAsBad.cls ≠ "java/lang/invoke/MethodHandle" ∧ yX10_refuseAsBad.cls ≠ "java/lang/invoke/VarHandle" ∧ (parseMethodDescriptor yX10_refuseAsBad.desc).map (fun d => d.parameters.length) = some 0 := by decide +kernel
def f_X10_refuseAsBad (σ : St) : Option (Int32 × St) := some ((-2 : Int32), (sI σ 13 ((σ.1 13) + (1 : Int32))))
abbrev rm_X10_refuseAsBad : Room := { frames := 0, cells := 0, slots := 0, locals := 0 }
set_option maxHeartbeats 4000000 in
set_option maxRecDepth 100000 in
theorem c_X10_refuseAsBad (l : Launch) (D : va_G) (ca : Nat → ClassId) (ad : Nat → Nat) (σ : St)  (sz : Nat) (out : Int32 × St) (hf : f_X10_refuseAsBad σ  = some out) : Met l yX10_refuseAsBad (.code yX10_refuseAsBad cX10_refuseAsBad 1 (some .int) :: WL) rm_X10_refuseAsBad (PreC D ca (CW ca ad σ) sz [.ref (ad 0)]) (PostI D (va_A (CW ca ad σ) sz) (CW ca ad out.2) out.1) 0 0 (va_A (CW ca ad σ) sz) := by
  refine Met.ofW (cc := cX10_refuseAsBad) (maxL := 1) (ret := (some .int)) (by decide) rfl ?_
  intro p e s m args below meth c s₁ B hml hv
  obtain ⟨rfl, hsz, hP, hK, hD, hN⟩ := hv
  subst hsz
  have C := Cx.mk (own := RX10) B hml rfl hK hN (ws := (CW ca ad σ))
  have w : Wd (va_A (CW ca ad σ) s.heap.size) s D (CW ca ad σ) s.heap [] := ⟨hP, hD.self, va_S.rf⟩
  have hl := lv_entry ([.ref (ad 0)]) (n := 1) (Nat.le_of_ble_eq_true rfl)
  rw [lg_entry_eq]
  generalize (lg_sl ([.ref (ad 0)]) ++ List.replicate (1 - (lg_sl ([.ref (ad 0)])).length) Slot.unset).toArray = ls at hl ⊢
  have hl : lv_has ls 1 [(0, .ref (ad 0))] := hl
  change W p l e rm_X10_refuseAsBad s m _ below meth c _ [] 0 0 _ _
  clear B hP hD hK hN hml
  generalize va_A (CW ca ad σ) s.heap.size = A at C w ⊢
  generalize ([.ref (ad 0)] : List Value).toArray = av at C ⊢
  obtain ⟨Q, hQ⟩ : ∃ Q, Q = MQ below (PostI D A (CW ca ad out.2) out.1) av s 0 0 A := ⟨_, rfl⟩
  rw [← hQ]
  have hx := C.1
  have hb := C.2.1
  have h := hf
  unfold f_X10_refuseAsBad at h
  refine lv_aload_n hx hb dX10_refuseAsBad_0 rfl (lv_at hl 0 rfl) ?_
  refine lv_dup hx hb dX10_refuseAsBad_1 rfl ?_
  refine gC0_13 (v := (σ.1 13)) C w rfl wl_121 dX10_refuseAsBad_2 ?_
  refine lv_iconst (v := 1) hx hb dX10_refuseAsBad_5 (by decide) ?_
  refine lv_iadd hx hb dX10_refuseAsBad_6 ?_
  refine pC0_13 C w wl_121 dX10_refuseAsBad_7 (fun H locs w => ?_)
  refine lv_bipush (v := -2) hx hb dX10_refuseAsBad_10 (by decide) ?_
  rw [hQ]
  exact rI (F := CW ca ad) C w h dX10_refuseAsBad_12
theorem hd_X10_wood : yX10_wood.cls = RX10 ∧ yX10_wood.cls ≠ "java/lang/invoke/MethodHandle" ∧ yX10_wood.cls ≠ "java/lang/invoke/VarHandle" ∧ (parseMethodDescriptor yX10_wood.desc).map (fun d => d.parameters.length) = some 1 := by decide +kernel
def f_X10_wood (σ : St) (x1 : Int32) : Option (Int32 × St) := (f_X10_within x1 (0 : Int32) (99 : Int32)).bind fun q1 => if q1 = 0 then ((f_X10_refuseAsBad σ).bind fun q3 => some (q3.1, q3.2)) else ((f_X2_startAt_1 σ x1).bind fun q2 => some ((σ.1 106), q2))
abbrev rm_X10_wood : Room := { frames := 1, cells := 0, slots := 0, locals := 60 }
set_option maxHeartbeats 4000000 in
set_option maxRecDepth 100000 in
theorem c_X10_wood (l : Launch) (D : va_G) (ca : Nat → ClassId) (ad : Nat → Nat) (σ : St) (x1 : Int32) (sz : Nat) (out : Int32 × St) (hf : f_X10_wood σ x1 = some out) : Met l yX10_wood (.code yX10_wood cX10_wood 3 (some .int) :: WL) rm_X10_wood (PreC D ca (CW ca ad σ) sz [.ref (ad 0), .int x1]) (PostI D (va_A (CW ca ad σ) sz) (CW ca ad out.2) out.1) 0 0 (va_A (CW ca ad σ) sz) := by
  refine Met.ofW (cc := cX10_wood) (maxL := 3) (ret := (some .int)) (by decide) rfl ?_
  intro p e s m args below meth c s₁ B hml hv
  obtain ⟨rfl, hsz, hP, hK, hD, hN⟩ := hv
  subst hsz
  have C := Cx.mk (own := RX10) B hml rfl hK hN (ws := (CW ca ad σ))
  have w : Wd (va_A (CW ca ad σ) s.heap.size) s D (CW ca ad σ) s.heap [] := ⟨hP, hD.self, va_S.rf⟩
  have hl := lv_entry ([.ref (ad 0), .int x1]) (n := 3) (Nat.le_of_ble_eq_true rfl)
  rw [lg_entry_eq]
  generalize (lg_sl ([.ref (ad 0), .int x1]) ++ List.replicate (3 - (lg_sl ([.ref (ad 0), .int x1])).length) Slot.unset).toArray = ls at hl ⊢
  have hl : lv_has ls 3 [(0, .ref (ad 0)), (1, .int x1)] := hl
  change W p l e rm_X10_wood s m _ below meth c _ [] 0 0 _ _
  clear B hP hD hK hN hml
  generalize va_A (CW ca ad σ) s.heap.size = A at C w ⊢
  generalize ([.ref (ad 0), .int x1] : List Value).toArray = av at C ⊢
  obtain ⟨Q, hQ⟩ : ∃ Q, Q = MQ below (PostI D A (CW ca ad out.2) out.1) av s 0 0 A := ⟨_, rfl⟩
  rw [← hQ]
  have hx := C.1
  have hb := C.2.1
  have h := hf
  unfold f_X10_wood at h
  refine lv_iload_n hx hb dX10_wood_0 rfl (lv_at hl 1 rfl) ?_
  refine lv_iconst (v := 0) hx hb dX10_wood_1 (by decide) ?_
  refine lv_bipush (v := 99) hx hb dX10_wood_2 (by decide) ?_
  obtain ⟨q1, hq1, h⟩ := ob_t h
  refine res_i C w (run_S (As := [.int x1, .int (0 : Int32), .int (99 : Int32)]) (rest := []) C w hl.1 (c_X10_within l D ca _ x1 (0 : Int32) (99 : Int32) _ q1 hq1) rfl rfl wl_114 wl_115 wl_2 wl_116 hd_X10_within rfl ⟨Nat.le_of_ble_eq_true rfl, Nat.le_of_ble_eq_true rfl⟩ rfl (Nat.le_of_ble_eq_true rfl) dX10_wood_4) (fun H locs w => ?_)
  refine lv_if_ne (tgt := 15) hx hb dX10_wood_7 (by decide) (fun c1 => ?_) (fun c1 => ?_)
  · have h := it_f h c1
    refine lv_aload_n hx hb dX10_wood_15 rfl (lv_at hl 0 rfl) ?_
    refine gC0_1 C w wl_34 dX10_wood_16 ?_
    refine gC1_6 (v := (σ.1 106)) C w rfl wl_113 dX10_wood_19 ?_
    refine lv_istore_n (lv' := [(2, .int (σ.1 106)), (0, .ref (ad 0)), (1, .int x1)]) hx hb dX10_wood_22 rfl hl (by decide) rfl (fun ls hl => ?_)
    refine lv_aload_n hx hb dX10_wood_23 rfl (lv_at hl 1 rfl) ?_
    refine gC0_1 C w wl_34 dX10_wood_24 ?_
    refine lv_iload_n hx hb dX10_wood_27 rfl (lv_at hl 2 rfl) ?_
    obtain ⟨q2, hq2, h⟩ := ob_t h
    refine res_v C w (run_V (As := [.int x1]) (rest := []) C w hl.1 (recvC1 C w) (c_X2_startAt_1 l D ca ad _ x1 _ q2 hq2) rfl rfl wl_122 wl_123 wl_124 wl_33 wl_125 hd_X2_startAt rfl ⟨Nat.le_of_ble_eq_true rfl, Nat.le_of_ble_eq_true rfl⟩ rfl (Nat.le_of_ble_eq_true rfl) dX10_wood_28) (fun H locs w => ?_)
    refine lv_iload_n hx hb dX10_wood_31 rfl (lv_at hl 0 rfl) ?_
    rw [hQ]
    exact rI (F := CW ca ad) C w h dX10_wood_32
  · have h := it_t h c1
    refine lv_aload_n hx hb dX10_wood_10 rfl (lv_at hl 0 rfl) ?_
    obtain ⟨q3, hq3, h⟩ := ob_t h
    refine res_i C w (run_V (As := []) (rest := []) C w hl.1 (recvC0 C w) (c_X10_refuseAsBad l D ca ad _  _ q3 hq3) rfl rfl wl_117 wl_118 wl_119 wl_2 wl_120 hd_X10_refuseAsBad rfl ⟨Nat.le_of_ble_eq_true rfl, Nat.le_of_ble_eq_true rfl⟩ rfl (Nat.le_of_ble_eq_true rfl) dX10_wood_11) (fun H locs w => ?_)
    rw [hQ]
    exact rI (F := CW ca ad) C w h dX10_wood_14
theorem hd_X2_plant : yX2_plant.cls = RX2 ∧ yX2_plant.cls ≠ "java/lang/invoke/MethodHandle" ∧ yX2_plant.cls ≠ "java/lang/invoke/VarHandle" ∧ (parseMethodDescriptor yX2_plant.desc).map (fun d => d.parameters.length) = some 1 := by decide +kernel
def f_X2_plant_1 (σ : St) (x1 : Int32) : Option (St) := if (7 : Int32) ≤ (σ.1 106) then (some σ) else (cond (ckI (σ.1 106) 7) (cond (ckI (σ.1 106) 7) (some (sI (sE (sE σ 2 (((σ.1 106)).toNatClampNeg) x1) 3 (((σ.1 106)).toNatClampNeg) (0 : Int32)) 106 ((σ.1 106) + (1 : Int32)))) none) none)
abbrev rm_X2_plant_1 : Room := { frames := 0, cells := 0, slots := 0, locals := 0 }
set_option maxHeartbeats 4000000 in
set_option maxRecDepth 100000 in
theorem c_X2_plant_1 (l : Launch) (D : va_G) (ca : Nat → ClassId) (ad : Nat → Nat) (σ : St) (x1 : Int32) (sz : Nat) (out : St) (hf : f_X2_plant_1 σ x1 = some out) : Met l yX2_plant (.code yX2_plant cX2_plant 2 none :: WL) rm_X2_plant_1 (PreC D ca (CW ca ad σ) sz [.ref (ad 1), .int x1]) (PostV D (va_A (CW ca ad σ) sz) (CW ca ad out)) 0 0 (va_A (CW ca ad σ) sz) := by
  refine Met.ofW (cc := cX2_plant) (maxL := 2) (ret := none) (by decide) rfl ?_
  intro p e s m args below meth c s₁ B hml hv
  obtain ⟨rfl, hsz, hP, hK, hD, hN⟩ := hv
  subst hsz
  have C := Cx.mk (own := RX2) B hml rfl hK hN (ws := (CW ca ad σ))
  have w : Wd (va_A (CW ca ad σ) s.heap.size) s D (CW ca ad σ) s.heap [] := ⟨hP, hD.self, va_S.rf⟩
  have hl := lv_entry ([.ref (ad 1), .int x1]) (n := 2) (Nat.le_of_ble_eq_true rfl)
  rw [lg_entry_eq]
  generalize (lg_sl ([.ref (ad 1), .int x1]) ++ List.replicate (2 - (lg_sl ([.ref (ad 1), .int x1])).length) Slot.unset).toArray = ls at hl ⊢
  have hl : lv_has ls 2 [(0, .ref (ad 1)), (1, .int x1)] := hl
  change W p l e rm_X2_plant_1 s m _ below meth c _ [] 0 0 _ _
  clear B hP hD hK hN hml
  generalize va_A (CW ca ad σ) s.heap.size = A at C w ⊢
  generalize ([.ref (ad 1), .int x1] : List Value).toArray = av at C ⊢
  obtain ⟨Q, hQ⟩ : ∃ Q, Q = MQ below (PostV D A (CW ca ad out)) av s 0 0 A := ⟨_, rfl⟩
  rw [← hQ]
  have hx := C.1
  have hb := C.2.1
  have h := hf
  unfold f_X2_plant_1 at h
  refine lv_aload_n hx hb dX2_plant_0 rfl (lv_at hl 0 rfl) ?_
  refine gC1_6 (v := (σ.1 106)) C w rfl wl_126 dX2_plant_1 ?_
  refine lv_bipush (v := 7) hx hb dX2_plant_4 (by decide) ?_
  refine lv_icmp_ge (tgt := 39) hx hb dX2_plant_6 (by decide) (fun c1 => ?_) (fun c1 => ?_)
  · have h := it_t h c1
    rw [hQ]
    exact rV (F := CW ca ad) C w h dX2_plant_39
  · have h := it_f h c1
    refine lv_aload_n hx hb dX2_plant_9 rfl (lv_at hl 0 rfl) ?_
    refine gC1_0 C w wl_70 dX2_plant_10 ?_
    refine lv_aload_n hx hb dX2_plant_13 rfl (lv_at hl 0 rfl) ?_
    refine gC1_6 (v := (σ.1 106)) C w rfl wl_126 dX2_plant_14 ?_
    refine lv_iload_n hx hb dX2_plant_17 rfl (lv_at hl 1 rfl) ?_
    obtain ⟨i2, h⟩ := ck_t h
    refine stC2 (j := ((σ.1 106)).toNatClampNeg) C w i2 rfl dX2_plant_18 (fun H locs w => ?_)
    refine lv_aload_n hx hb dX2_plant_19 rfl (lv_at hl 0 rfl) ?_
    refine gC1_1 C w wl_71 dX2_plant_20 ?_
    refine lv_aload_n hx hb dX2_plant_23 rfl (lv_at hl 0 rfl) ?_
    refine gC1_6 (v := (σ.1 106)) C w rfl wl_126 dX2_plant_24 ?_
    refine lv_iconst (v := 0) hx hb dX2_plant_27 (by decide) ?_
    obtain ⟨i3, h⟩ := ck_t h
    refine stC3 (j := ((σ.1 106)).toNatClampNeg) C w i3 rfl dX2_plant_28 (fun H locs w => ?_)
    refine lv_aload_n hx hb dX2_plant_29 rfl (lv_at hl 0 rfl) ?_
    refine lv_dup hx hb dX2_plant_30 rfl ?_
    refine gC1_6 (v := (σ.1 106)) C w rfl wl_126 dX2_plant_31 ?_
    refine lv_iconst (v := 1) hx hb dX2_plant_34 (by decide) ?_
    refine lv_iadd hx hb dX2_plant_35 ?_
    refine pC1_6 C w wl_126 dX2_plant_36 (fun H locs w => ?_)
    rw [hQ]
    exact rV (F := CW ca ad) C w h dX2_plant_39
theorem hd_X10_refuseAsFull : yX10_refuseAsFull.cls = RX10 ∧ yX10_refuseAsFull.cls ≠ "java/lang/invoke/MethodHandle" ∧ yX10_refuseAsFull.cls ≠ "java/lang/invoke/VarHandle" ∧ (parseMethodDescriptor yX10_refuseAsFull.desc).map (fun d => d.parameters.length) = some 0 := by decide +kernel
def f_X10_refuseAsFull (σ : St) : Option (Int32 × St) := some ((-4 : Int32), (sI σ 15 ((σ.1 15) + (1 : Int32))))
abbrev rm_X10_refuseAsFull : Room := { frames := 0, cells := 0, slots := 0, locals := 0 }
set_option maxHeartbeats 4000000 in
set_option maxRecDepth 100000 in
theorem c_X10_refuseAsFull (l : Launch) (D : va_G) (ca : Nat → ClassId) (ad : Nat → Nat) (σ : St)  (sz : Nat) (out : Int32 × St) (hf : f_X10_refuseAsFull σ  = some out) : Met l yX10_refuseAsFull (.code yX10_refuseAsFull cX10_refuseAsFull 1 (some .int) :: WL) rm_X10_refuseAsFull (PreC D ca (CW ca ad σ) sz [.ref (ad 0)]) (PostI D (va_A (CW ca ad σ) sz) (CW ca ad out.2) out.1) 0 0 (va_A (CW ca ad σ) sz) := by
  refine Met.ofW (cc := cX10_refuseAsFull) (maxL := 1) (ret := (some .int)) (by decide) rfl ?_
  intro p e s m args below meth c s₁ B hml hv
  obtain ⟨rfl, hsz, hP, hK, hD, hN⟩ := hv
  subst hsz
  have C := Cx.mk (own := RX10) B hml rfl hK hN (ws := (CW ca ad σ))
  have w : Wd (va_A (CW ca ad σ) s.heap.size) s D (CW ca ad σ) s.heap [] := ⟨hP, hD.self, va_S.rf⟩
  have hl := lv_entry ([.ref (ad 0)]) (n := 1) (Nat.le_of_ble_eq_true rfl)
  rw [lg_entry_eq]
  generalize (lg_sl ([.ref (ad 0)]) ++ List.replicate (1 - (lg_sl ([.ref (ad 0)])).length) Slot.unset).toArray = ls at hl ⊢
  have hl : lv_has ls 1 [(0, .ref (ad 0))] := hl
  change W p l e rm_X10_refuseAsFull s m _ below meth c _ [] 0 0 _ _
  clear B hP hD hK hN hml
  generalize va_A (CW ca ad σ) s.heap.size = A at C w ⊢
  generalize ([.ref (ad 0)] : List Value).toArray = av at C ⊢
  obtain ⟨Q, hQ⟩ : ∃ Q, Q = MQ below (PostI D A (CW ca ad out.2) out.1) av s 0 0 A := ⟨_, rfl⟩
  rw [← hQ]
  have hx := C.1
  have hb := C.2.1
  have h := hf
  unfold f_X10_refuseAsFull at h
  refine lv_aload_n hx hb dX10_refuseAsFull_0 rfl (lv_at hl 0 rfl) ?_
  refine lv_dup hx hb dX10_refuseAsFull_1 rfl ?_
  refine gC0_15 (v := (σ.1 15)) C w rfl wl_157 dX10_refuseAsFull_2 ?_
  refine lv_iconst (v := 1) hx hb dX10_refuseAsFull_5 (by decide) ?_
  refine lv_iadd hx hb dX10_refuseAsFull_6 ?_
  refine pC0_15 C w wl_157 dX10_refuseAsFull_7 (fun H locs w => ?_)
  refine lv_bipush (v := -4) hx hb dX10_refuseAsFull_10 (by decide) ?_
  rw [hQ]
  exact rI (F := CW ca ad) C w h dX10_refuseAsFull_12
theorem hd_X10_tree : yX10_tree.cls = RX10 ∧ yX10_tree.cls ≠ "java/lang/invoke/MethodHandle" ∧ yX10_tree.cls ≠ "java/lang/invoke/VarHandle" ∧ (parseMethodDescriptor yX10_tree.desc).map (fun d => d.parameters.length) = some 1 := by decide +kernel
def f_X10_tree (σ : St) (x1 : Int32) : Option (Int32 × St) := (f_X10_within x1 (0 : Int32) (5 : Int32)).bind fun q1 => if q1 = 0 then ((f_X10_refuseAsBad σ).bind fun q4 => some (q4.1, q4.2)) else (if (σ.1 106) < (7 : Int32) then ((f_X2_plant_1 σ x1).bind fun q2 => some (((q2.1 106) - (1 : Int32)), (sI q2 111 (0 : Int32)))) else ((f_X10_refuseAsFull σ).bind fun q3 => some (q3.1, q3.2)))
abbrev rm_X10_tree : Room := { frames := 1, cells := 0, slots := 0, locals := 60 }
set_option maxHeartbeats 4000000 in
set_option maxRecDepth 100000 in
theorem c_X10_tree (l : Launch) (D : va_G) (ca : Nat → ClassId) (ad : Nat → Nat) (σ : St) (x1 : Int32) (sz : Nat) (out : Int32 × St) (hf : f_X10_tree σ x1 = some out) : Met l yX10_tree (.code yX10_tree cX10_tree 2 (some .int) :: WL) rm_X10_tree (PreC D ca (CW ca ad σ) sz [.ref (ad 0), .int x1]) (PostI D (va_A (CW ca ad σ) sz) (CW ca ad out.2) out.1) 0 0 (va_A (CW ca ad σ) sz) := by
  refine Met.ofW (cc := cX10_tree) (maxL := 2) (ret := (some .int)) (by decide) rfl ?_
  intro p e s m args below meth c s₁ B hml hv
  obtain ⟨rfl, hsz, hP, hK, hD, hN⟩ := hv
  subst hsz
  have C := Cx.mk (own := RX10) B hml rfl hK hN (ws := (CW ca ad σ))
  have w : Wd (va_A (CW ca ad σ) s.heap.size) s D (CW ca ad σ) s.heap [] := ⟨hP, hD.self, va_S.rf⟩
  have hl := lv_entry ([.ref (ad 0), .int x1]) (n := 2) (Nat.le_of_ble_eq_true rfl)
  rw [lg_entry_eq]
  generalize (lg_sl ([.ref (ad 0), .int x1]) ++ List.replicate (2 - (lg_sl ([.ref (ad 0), .int x1])).length) Slot.unset).toArray = ls at hl ⊢
  have hl : lv_has ls 2 [(0, .ref (ad 0)), (1, .int x1)] := hl
  change W p l e rm_X10_tree s m _ below meth c _ [] 0 0 _ _
  clear B hP hD hK hN hml
  generalize va_A (CW ca ad σ) s.heap.size = A at C w ⊢
  generalize ([.ref (ad 0), .int x1] : List Value).toArray = av at C ⊢
  obtain ⟨Q, hQ⟩ : ∃ Q, Q = MQ below (PostI D A (CW ca ad out.2) out.1) av s 0 0 A := ⟨_, rfl⟩
  rw [← hQ]
  have hx := C.1
  have hb := C.2.1
  have h := hf
  unfold f_X10_tree at h
  refine lv_iload_n hx hb dX10_tree_0 rfl (lv_at hl 1 rfl) ?_
  refine lv_iconst (v := 0) hx hb dX10_tree_1 (by decide) ?_
  refine lv_iconst (v := 5) hx hb dX10_tree_2 (by decide) ?_
  obtain ⟨q1, hq1, h⟩ := ob_t h
  refine res_i C w (run_S (As := [.int x1, .int (0 : Int32), .int (5 : Int32)]) (rest := []) C w hl.1 (c_X10_within l D ca _ x1 (0 : Int32) (5 : Int32) _ q1 hq1) rfl rfl wl_114 wl_115 wl_2 wl_116 hd_X10_within rfl ⟨Nat.le_of_ble_eq_true rfl, Nat.le_of_ble_eq_true rfl⟩ rfl (Nat.le_of_ble_eq_true rfl) dX10_tree_3) (fun H locs w => ?_)
  refine lv_if_ne (tgt := 14) hx hb dX10_tree_6 (by decide) (fun c1 => ?_) (fun c1 => ?_)
  · have h := it_f h c1
    refine lv_aload_n hx hb dX10_tree_14 rfl (lv_at hl 0 rfl) ?_
    refine gC0_1 C w wl_34 dX10_tree_15 ?_
    refine gC1_6 (v := (σ.1 106)) C w rfl wl_113 dX10_tree_18 ?_
    refine lv_bipush (v := 7) hx hb dX10_tree_21 (by decide) ?_
    refine lv_icmp_lt (tgt := 31) hx hb dX10_tree_23 (by decide) (fun c2 => ?_) (fun c2 => ?_)
    · have h := it_t h c2
      refine lv_aload_n hx hb dX10_tree_31 rfl (lv_at hl 0 rfl) ?_
      refine gC0_1 C w wl_34 dX10_tree_32 ?_
      refine lv_iload_n hx hb dX10_tree_35 rfl (lv_at hl 1 rfl) ?_
      obtain ⟨q2, hq2, h⟩ := ob_t h
      refine res_v C w (run_V (As := [.int x1]) (rest := []) C w hl.1 (recvC1 C w) (c_X2_plant_1 l D ca ad _ x1 _ q2 hq2) rfl rfl wl_158 wl_159 wl_160 wl_33 wl_161 hd_X2_plant rfl ⟨Nat.le_of_ble_eq_true rfl, Nat.le_of_ble_eq_true rfl⟩ rfl (Nat.le_of_ble_eq_true rfl) dX10_tree_36) (fun H locs w => ?_)
      refine lv_aload_n hx hb dX10_tree_39 rfl (lv_at hl 0 rfl) ?_
      refine gC0_1 C w wl_34 dX10_tree_40 ?_
      refine lv_iconst (v := 0) hx hb dX10_tree_43 (by decide) ?_
      refine pC1_11 C w wl_152 dX10_tree_44 (fun H locs w => ?_)
      refine lv_aload_n hx hb dX10_tree_47 rfl (lv_at hl 0 rfl) ?_
      refine gC0_1 C w wl_34 dX10_tree_48 ?_
      refine gC1_6 (v := (q2.1 106)) C w rfl wl_113 dX10_tree_51 ?_
      refine lv_iconst (v := 1) hx hb dX10_tree_54 (by decide) ?_
      refine lv_isub hx hb dX10_tree_55 ?_
      rw [hQ]
      exact rI (F := CW ca ad) C w h dX10_tree_56
    · have h := it_f h c2
      refine lv_aload_n hx hb dX10_tree_26 rfl (lv_at hl 0 rfl) ?_
      obtain ⟨q3, hq3, h⟩ := ob_t h
      refine res_i C w (run_V (As := []) (rest := []) C w hl.1 (recvC0 C w) (c_X10_refuseAsFull l D ca ad _  _ q3 hq3) rfl rfl wl_153 wl_154 wl_155 wl_2 wl_156 hd_X10_refuseAsFull rfl ⟨Nat.le_of_ble_eq_true rfl, Nat.le_of_ble_eq_true rfl⟩ rfl (Nat.le_of_ble_eq_true rfl) dX10_tree_27) (fun H locs w => ?_)
      rw [hQ]
      exact rI (F := CW ca ad) C w h dX10_tree_30
  · have h := it_t h c1
    refine lv_aload_n hx hb dX10_tree_9 rfl (lv_at hl 0 rfl) ?_
    obtain ⟨q4, hq4, h⟩ := ob_t h
    refine res_i C w (run_V (As := []) (rest := []) C w hl.1 (recvC0 C w) (c_X10_refuseAsBad l D ca ad _  _ q4 hq4) rfl rfl wl_117 wl_118 wl_119 wl_2 wl_120 hd_X10_refuseAsBad rfl ⟨Nat.le_of_ble_eq_true rfl, Nat.le_of_ble_eq_true rfl⟩ rfl (Nat.le_of_ble_eq_true rfl) dX10_tree_10) (fun H locs w => ?_)
    rw [hQ]
    exact rI (F := CW ca ad) C w h dX10_tree_13
theorem hd_X10_isTree : yX10_isTree.cls = RX10 ∧ yX10_isTree.cls ≠ "java/lang/invoke/MethodHandle" ∧ yX10_isTree.cls ≠ "java/lang/invoke/VarHandle" ∧ (parseMethodDescriptor yX10_isTree.desc).map (fun d => d.parameters.length) = some 1 := by decide +kernel
def f_X10_isTree (σ : St) (x1 : Int32) : Option (Int32 × St) := (f_X10_within x1 (0 : Int32) ((σ.1 106) - (1 : Int32))).bind fun q1 => cond (ckZ q1) (some (q1, σ)) none
abbrev rm_X10_isTree : Room := { frames := 1, cells := 0, slots := 0, locals := 60 }
set_option maxHeartbeats 4000000 in
set_option maxRecDepth 100000 in
theorem c_X10_isTree (l : Launch) (D : va_G) (ca : Nat → ClassId) (ad : Nat → Nat) (σ : St) (x1 : Int32) (sz : Nat) (out : Int32 × St) (hf : f_X10_isTree σ x1 = some out) : Met l yX10_isTree (.code yX10_isTree cX10_isTree 2 (some .boolean) :: WL) rm_X10_isTree (PreC D ca (CW ca ad σ) sz [.ref (ad 0), .int x1]) (PostI D (va_A (CW ca ad σ) sz) (CW ca ad out.2) out.1) 0 0 (va_A (CW ca ad σ) sz) := by
  refine Met.ofW (cc := cX10_isTree) (maxL := 2) (ret := (some .boolean)) (by decide) rfl ?_
  intro p e s m args below meth c s₁ B hml hv
  obtain ⟨rfl, hsz, hP, hK, hD, hN⟩ := hv
  subst hsz
  have C := Cx.mk (own := RX10) B hml rfl hK hN (ws := (CW ca ad σ))
  have w : Wd (va_A (CW ca ad σ) s.heap.size) s D (CW ca ad σ) s.heap [] := ⟨hP, hD.self, va_S.rf⟩
  have hl := lv_entry ([.ref (ad 0), .int x1]) (n := 2) (Nat.le_of_ble_eq_true rfl)
  rw [lg_entry_eq]
  generalize (lg_sl ([.ref (ad 0), .int x1]) ++ List.replicate (2 - (lg_sl ([.ref (ad 0), .int x1])).length) Slot.unset).toArray = ls at hl ⊢
  have hl : lv_has ls 2 [(0, .ref (ad 0)), (1, .int x1)] := hl
  change W p l e rm_X10_isTree s m _ below meth c _ [] 0 0 _ _
  clear B hP hD hK hN hml
  generalize va_A (CW ca ad σ) s.heap.size = A at C w ⊢
  generalize ([.ref (ad 0), .int x1] : List Value).toArray = av at C ⊢
  obtain ⟨Q, hQ⟩ : ∃ Q, Q = MQ below (PostI D A (CW ca ad out.2) out.1) av s 0 0 A := ⟨_, rfl⟩
  rw [← hQ]
  have hx := C.1
  have hb := C.2.1
  have h := hf
  unfold f_X10_isTree at h
  refine lv_iload_n hx hb dX10_isTree_0 rfl (lv_at hl 1 rfl) ?_
  refine lv_iconst (v := 0) hx hb dX10_isTree_1 (by decide) ?_
  refine lv_aload_n hx hb dX10_isTree_2 rfl (lv_at hl 0 rfl) ?_
  refine gC0_1 C w wl_34 dX10_isTree_3 ?_
  refine gC1_6 (v := (σ.1 106)) C w rfl wl_113 dX10_isTree_6 ?_
  refine lv_iconst (v := 1) hx hb dX10_isTree_9 (by decide) ?_
  refine lv_isub hx hb dX10_isTree_10 ?_
  obtain ⟨q1, hq1, h⟩ := ob_t h
  refine res_i C w (run_S (As := [.int x1, .int (0 : Int32), .int ((σ.1 106) - (1 : Int32))]) (rest := []) C w hl.1 (c_X10_within l D ca _ x1 (0 : Int32) ((σ.1 106) - (1 : Int32)) _ q1 hq1) rfl rfl wl_114 wl_115 wl_2 wl_116 hd_X10_within rfl ⟨Nat.le_of_ble_eq_true rfl, Nat.le_of_ble_eq_true rfl⟩ rfl (Nat.le_of_ble_eq_true rfl) dX10_isTree_11) (fun H locs w => ?_)
  obtain ⟨z1, h⟩ := cz_t h
  rw [hQ]
  exact rZ (F := CW ca ad) C w z1 h dX10_isTree_14
theorem hd_X2_join : yX2_join.cls = RX2 ∧ yX2_join.cls ≠ "java/lang/invoke/MethodHandle" ∧ yX2_join.cls ≠ "java/lang/invoke/VarHandle" ∧ (parseMethodDescriptor yX2_join.desc).map (fun d => d.parameters.length) = some 3 := by decide +kernel
def f_X2_join_1 (σ : St) (x1 : Int32) (x2 : Int32) (x3 : Int32) : Option (St) := cond (ckI x1 7) (cond (ckI x1 7) (cond (ckI x2 7) (cond (ckI x2 7) (some (sE (sE σ 3 x1.toNatClampNeg (((σ.2.2 3 x1.toNatClampNeg) &&& (((1 : Int32) <<< (x2 &&& 31)) ^^^ (-1 : Int32))) ||| (x3 <<< (x2 &&& 31)))) 3 x2.toNatClampNeg ((((sE σ 3 x1.toNatClampNeg (((σ.2.2 3 x1.toNatClampNeg) &&& (((1 : Int32) <<< (x2 &&& 31)) ^^^ (-1 : Int32))) ||| (x3 <<< (x2 &&& 31)))).2.2 3 x2.toNatClampNeg) &&& (((1 : Int32) <<< (x1 &&& 31)) ^^^ (-1 : Int32))) ||| (x3 <<< (x1 &&& 31))))) none) none) none) none
abbrev rm_X2_join_1 : Room := { frames := 0, cells := 0, slots := 0, locals := 0 }
set_option maxHeartbeats 4000000 in
set_option maxRecDepth 100000 in
theorem c_X2_join_1 (l : Launch) (D : va_G) (ca : Nat → ClassId) (ad : Nat → Nat) (σ : St) (x1 : Int32) (x2 : Int32) (x3 : Int32) (sz : Nat) (out : St) (hf : f_X2_join_1 σ x1 x2 x3 = some out) : Met l yX2_join (.code yX2_join cX2_join 4 none :: WL) rm_X2_join_1 (PreC D ca (CW ca ad σ) sz [.ref (ad 1), .int x1, .int x2, .int x3]) (PostV D (va_A (CW ca ad σ) sz) (CW ca ad out)) 0 0 (va_A (CW ca ad σ) sz) := by
  refine Met.ofW (cc := cX2_join) (maxL := 4) (ret := none) (by decide) rfl ?_
  intro p e s m args below meth c s₁ B hml hv
  obtain ⟨rfl, hsz, hP, hK, hD, hN⟩ := hv
  subst hsz
  have C := Cx.mk (own := RX2) B hml rfl hK hN (ws := (CW ca ad σ))
  have w : Wd (va_A (CW ca ad σ) s.heap.size) s D (CW ca ad σ) s.heap [] := ⟨hP, hD.self, va_S.rf⟩
  have hl := lv_entry ([.ref (ad 1), .int x1, .int x2, .int x3]) (n := 4) (Nat.le_of_ble_eq_true rfl)
  rw [lg_entry_eq]
  generalize (lg_sl ([.ref (ad 1), .int x1, .int x2, .int x3]) ++ List.replicate (4 - (lg_sl ([.ref (ad 1), .int x1, .int x2, .int x3])).length) Slot.unset).toArray = ls at hl ⊢
  have hl : lv_has ls 4 [(0, .ref (ad 1)), (1, .int x1), (2, .int x2), (3, .int x3)] := hl
  change W p l e rm_X2_join_1 s m _ below meth c _ [] 0 0 _ _
  clear B hP hD hK hN hml
  generalize va_A (CW ca ad σ) s.heap.size = A at C w ⊢
  generalize ([.ref (ad 1), .int x1, .int x2, .int x3] : List Value).toArray = av at C ⊢
  obtain ⟨Q, hQ⟩ : ∃ Q, Q = MQ below (PostV D A (CW ca ad out)) av s 0 0 A := ⟨_, rfl⟩
  rw [← hQ]
  have hx := C.1
  have hb := C.2.1
  have h := hf
  unfold f_X2_join_1 at h
  refine lv_aload_n hx hb dX2_join_0 rfl (lv_at hl 0 rfl) ?_
  refine gC1_1 C w wl_71 dX2_join_1 ?_
  refine lv_iload_n hx hb dX2_join_4 rfl (lv_at hl 1 rfl) ?_
  refine lv_aload_n hx hb dX2_join_5 rfl (lv_at hl 0 rfl) ?_
  refine gC1_1 C w wl_71 dX2_join_6 ?_
  refine lv_iload_n hx hb dX2_join_9 rfl (lv_at hl 1 rfl) ?_
  obtain ⟨i1, h⟩ := ck_t h
  refine ldC3 (v := (σ.2.2 3 x1.toNatClampNeg)) C w i1 rfl dX2_join_10 ?_
  refine lv_iconst (v := 1) hx hb dX2_join_11 (by decide) ?_
  refine lv_iload_n hx hb dX2_join_12 rfl (lv_at hl 2 rfl) ?_
  refine lv_ishl hx hb dX2_join_13 ?_
  refine lv_iconst (v := -1) hx hb dX2_join_14 (by decide) ?_
  refine lv_ixor hx hb dX2_join_15 ?_
  refine lv_iand hx hb dX2_join_16 ?_
  refine lv_iload_n hx hb dX2_join_17 rfl (lv_at hl 3 rfl) ?_
  refine lv_iload_n hx hb dX2_join_18 rfl (lv_at hl 2 rfl) ?_
  refine lv_ishl hx hb dX2_join_19 ?_
  refine lv_ior hx hb dX2_join_20 ?_
  obtain ⟨i2, h⟩ := ck_t h
  refine stC3 (j := x1.toNatClampNeg) C w i2 rfl dX2_join_21 (fun H locs w => ?_)
  refine lv_aload_n hx hb dX2_join_22 rfl (lv_at hl 0 rfl) ?_
  refine gC1_1 C w wl_71 dX2_join_23 ?_
  refine lv_iload_n hx hb dX2_join_26 rfl (lv_at hl 2 rfl) ?_
  refine lv_aload_n hx hb dX2_join_27 rfl (lv_at hl 0 rfl) ?_
  refine gC1_1 C w wl_71 dX2_join_28 ?_
  refine lv_iload_n hx hb dX2_join_31 rfl (lv_at hl 2 rfl) ?_
  obtain ⟨i3, h⟩ := ck_t h
  refine ldC3 (v := ((sE σ 3 x1.toNatClampNeg (((σ.2.2 3 x1.toNatClampNeg) &&& (((1 : Int32) <<< (x2 &&& 31)) ^^^ (-1 : Int32))) ||| (x3 <<< (x2 &&& 31)))).2.2 3 x2.toNatClampNeg)) C w i3 rfl dX2_join_32 ?_
  refine lv_iconst (v := 1) hx hb dX2_join_33 (by decide) ?_
  refine lv_iload_n hx hb dX2_join_34 rfl (lv_at hl 1 rfl) ?_
  refine lv_ishl hx hb dX2_join_35 ?_
  refine lv_iconst (v := -1) hx hb dX2_join_36 (by decide) ?_
  refine lv_ixor hx hb dX2_join_37 ?_
  refine lv_iand hx hb dX2_join_38 ?_
  refine lv_iload_n hx hb dX2_join_39 rfl (lv_at hl 3 rfl) ?_
  refine lv_iload_n hx hb dX2_join_40 rfl (lv_at hl 1 rfl) ?_
  refine lv_ishl hx hb dX2_join_41 ?_
  refine lv_ior hx hb dX2_join_42 ?_
  obtain ⟨i4, h⟩ := ck_t h
  refine stC3 (j := x2.toNatClampNeg) C w i4 rfl dX2_join_43 (fun H locs w => ?_)
  rw [hQ]
  exact rV (F := CW ca ad) C w h dX2_join_44
theorem hd_X10_touch : yX10_touch.cls = RX10 ∧ yX10_touch.cls ≠ "java/lang/invoke/MethodHandle" ∧ yX10_touch.cls ≠ "java/lang/invoke/VarHandle" ∧ (parseMethodDescriptor yX10_touch.desc).map (fun d => d.parameters.length) = some 3 := by decide +kernel
def f_X10_touch_b30 (σ : St) : Option (Int32 × St) := (f_X10_refuseAsBad σ).bind fun q1 => some (q1.1, q1.2)
def f_X10_touch (σ : St) (x1 : Int32) (x2 : Int32) (x3 : Int32) : Option (Int32 × St) := (f_X10_isTree σ x1).bind fun q1 => if q1.1 = 0 then (f_X10_touch_b30 q1.2) else ((f_X10_isTree q1.2 x2).bind fun q2 => if q2.1 = 0 then (f_X10_touch_b30 q2.2) else (if x1 = x2 then (f_X10_touch_b30 q2.2) else ((f_X10_within x3 (0 : Int32) (1 : Int32)).bind fun q3 => if q3 = 0 then (f_X10_touch_b30 q2.2) else (cond (ckI x1 7) ((f_X2_join_1 q2.2 x1 x2 x3).bind fun q4 => some ((((q2.2.2.2 3 x1.toNatClampNeg) >>> (x2 &&& 31)) &&& (1 : Int32)), (sI q4 111 (0 : Int32)))) none))))
abbrev rm_X10_touch : Room := { frames := 2, cells := 0, slots := 0, locals := 120 }
set_option maxHeartbeats 4000000 in
set_option maxRecDepth 100000 in
theorem c_X10_touch (l : Launch) (D : va_G) (ca : Nat → ClassId) (ad : Nat → Nat) (σ : St) (x1 : Int32) (x2 : Int32) (x3 : Int32) (sz : Nat) (out : Int32 × St) (hf : f_X10_touch σ x1 x2 x3 = some out) : Met l yX10_touch (.code yX10_touch cX10_touch 5 (some .int) :: WL) rm_X10_touch (PreC D ca (CW ca ad σ) sz [.ref (ad 0), .int x1, .int x2, .int x3]) (PostI D (va_A (CW ca ad σ) sz) (CW ca ad out.2) out.1) 0 0 (va_A (CW ca ad σ) sz) := by
  refine Met.ofW (cc := cX10_touch) (maxL := 5) (ret := (some .int)) (by decide) rfl ?_
  intro p e s m args below meth c s₁ B hml hv
  obtain ⟨rfl, hsz, hP, hK, hD, hN⟩ := hv
  subst hsz
  have C := Cx.mk (own := RX10) B hml rfl hK hN (ws := (CW ca ad σ))
  have w : Wd (va_A (CW ca ad σ) s.heap.size) s D (CW ca ad σ) s.heap [] := ⟨hP, hD.self, va_S.rf⟩
  have hl := lv_entry ([.ref (ad 0), .int x1, .int x2, .int x3]) (n := 5) (Nat.le_of_ble_eq_true rfl)
  rw [lg_entry_eq]
  generalize (lg_sl ([.ref (ad 0), .int x1, .int x2, .int x3]) ++ List.replicate (5 - (lg_sl ([.ref (ad 0), .int x1, .int x2, .int x3])).length) Slot.unset).toArray = ls at hl ⊢
  have hl : lv_has ls 5 [(0, .ref (ad 0)), (1, .int x1), (2, .int x2), (3, .int x3)] := hl
  change W p l e rm_X10_touch s m _ below meth c _ [] 0 0 _ _
  clear B hP hD hK hN hml
  generalize va_A (CW ca ad σ) s.heap.size = A at C w ⊢
  generalize ([.ref (ad 0), .int x1, .int x2, .int x3] : List Value).toArray = av at C ⊢
  obtain ⟨Q, hQ⟩ : ∃ Q, Q = MQ below (PostI D A (CW ca ad out.2) out.1) av s 0 0 A := ⟨_, rfl⟩
  rw [← hQ]
  have hx := C.1
  have hb := C.2.1
  have b30 : ∀ (σ : St), f_X10_touch_b30 σ = some out → Bk p l e rm_X10_touch s m av below meth c A D 5 Q (CW ca ad σ) 30 [(0, .ref (ad 0))] [] := by
    intro σ h H locs ls w hl
    unfold f_X10_touch_b30 at h
    refine lv_aload_n hx hb dX10_touch_30 rfl (lv_at hl 0 rfl) ?_
    obtain ⟨q1, hq1, h⟩ := ob_t h
    refine res_i C w (run_V (As := []) (rest := []) C w hl.1 (recvC0 C w) (c_X10_refuseAsBad l D ca ad _  _ q1 hq1) rfl rfl wl_117 wl_118 wl_119 wl_2 wl_120 hd_X10_refuseAsBad rfl ⟨Nat.le_of_ble_eq_true rfl, Nat.le_of_ble_eq_true rfl⟩ rfl (Nat.le_of_ble_eq_true rfl) dX10_touch_31) (fun H locs w => ?_)
    rw [hQ]
    exact rI (F := CW ca ad) C w h dX10_touch_34
  have h := hf
  unfold f_X10_touch at h
  refine lv_aload_n hx hb dX10_touch_0 rfl (lv_at hl 0 rfl) ?_
  refine lv_iload_n hx hb dX10_touch_1 rfl (lv_at hl 1 rfl) ?_
  obtain ⟨q1, hq1, h⟩ := ob_t h
  refine res_i C w (run_V (As := [.int x1]) (rest := []) C w hl.1 (recvC0 C w) (c_X10_isTree l D ca ad _ x1 _ q1 hq1) rfl rfl wl_176 wl_177 wl_178 wl_2 wl_179 hd_X10_isTree rfl ⟨Nat.le_of_ble_eq_true rfl, Nat.le_of_ble_eq_true rfl⟩ rfl (Nat.le_of_ble_eq_true rfl) dX10_touch_2) (fun H locs w => ?_)
  refine lv_if_eq (tgt := 30) hx hb dX10_touch_5 (by decide) (fun c1 => ?_) (fun c1 => ?_)
  · have h := it_t h c1
    exact b30 _ h _ _ _ w (lv_sub hl [0] rfl)
  · have h := it_f h c1
    refine lv_aload_n hx hb dX10_touch_8 rfl (lv_at hl 0 rfl) ?_
    refine lv_iload_n hx hb dX10_touch_9 rfl (lv_at hl 2 rfl) ?_
    obtain ⟨q2, hq2, h⟩ := ob_t h
    refine res_i C w (run_V (As := [.int x2]) (rest := []) C w hl.1 (recvC0 C w) (c_X10_isTree l D ca ad _ x2 _ q2 hq2) rfl rfl wl_176 wl_177 wl_178 wl_2 wl_179 hd_X10_isTree rfl ⟨Nat.le_of_ble_eq_true rfl, Nat.le_of_ble_eq_true rfl⟩ rfl (Nat.le_of_ble_eq_true rfl) dX10_touch_10) (fun H locs w => ?_)
    refine lv_if_eq (tgt := 30) hx hb dX10_touch_13 (by decide) (fun c2 => ?_) (fun c2 => ?_)
    · have h := it_t h c2
      exact b30 _ h _ _ _ w (lv_sub hl [0] rfl)
    · have h := it_f h c2
      refine lv_iload_n hx hb dX10_touch_16 rfl (lv_at hl 1 rfl) ?_
      refine lv_iload_n hx hb dX10_touch_17 rfl (lv_at hl 2 rfl) ?_
      refine lv_icmp_eq (tgt := 30) hx hb dX10_touch_18 (by decide) (fun c3 => ?_) (fun c3 => ?_)
      · have h := it_t h c3
        exact b30 _ h _ _ _ w (lv_sub hl [0] rfl)
      · have h := it_f h c3
        refine lv_iload_n hx hb dX10_touch_21 rfl (lv_at hl 3 rfl) ?_
        refine lv_iconst (v := 0) hx hb dX10_touch_22 (by decide) ?_
        refine lv_iconst (v := 1) hx hb dX10_touch_23 (by decide) ?_
        obtain ⟨q3, hq3, h⟩ := ob_t h
        refine res_i C w (run_S (As := [.int x3, .int (0 : Int32), .int (1 : Int32)]) (rest := []) C w hl.1 (c_X10_within l D ca _ x3 (0 : Int32) (1 : Int32) _ q3 hq3) rfl rfl wl_114 wl_115 wl_2 wl_116 hd_X10_within rfl ⟨Nat.le_of_ble_eq_true rfl, Nat.le_of_ble_eq_true rfl⟩ rfl (Nat.le_of_ble_eq_true rfl) dX10_touch_24) (fun H locs w => ?_)
        refine lv_if_ne (tgt := 35) hx hb dX10_touch_27 (by decide) (fun c4 => ?_) (fun c4 => ?_)
        · have h := it_f h c4
          refine lv_aload_n hx hb dX10_touch_35 rfl (lv_at hl 0 rfl) ?_
          refine gC0_1 C w wl_34 dX10_touch_36 ?_
          refine gC1_1 C w wl_175 dX10_touch_39 ?_
          refine lv_iload_n hx hb dX10_touch_42 rfl (lv_at hl 1 rfl) ?_
          obtain ⟨i5, h⟩ := ck_t h
          refine ldC3 (v := (q2.2.2.2 3 x1.toNatClampNeg)) C w i5 rfl dX10_touch_43 ?_
          refine lv_iload_n hx hb dX10_touch_44 rfl (lv_at hl 2 rfl) ?_
          refine lv_ishr hx hb dX10_touch_45 ?_
          refine lv_iconst (v := 1) hx hb dX10_touch_46 (by decide) ?_
          refine lv_iand hx hb dX10_touch_47 ?_
          refine lv_istore (lv' := [(4, .int (((q2.2.2.2 3 x1.toNatClampNeg) >>> (x2 &&& 31)) &&& (1 : Int32))), (0, .ref (ad 0)), (1, .int x1), (2, .int x2), (3, .int x3)]) hx hb dX10_touch_48 hl (by decide) rfl (fun ls hl => ?_)
          refine lv_aload_n hx hb dX10_touch_50 rfl (lv_at hl 1 rfl) ?_
          refine gC0_1 C w wl_34 dX10_touch_51 ?_
          refine lv_iload_n hx hb dX10_touch_54 rfl (lv_at hl 2 rfl) ?_
          refine lv_iload_n hx hb dX10_touch_55 rfl (lv_at hl 3 rfl) ?_
          refine lv_iload_n hx hb dX10_touch_56 rfl (lv_at hl 4 rfl) ?_
          obtain ⟨q4, hq4, h⟩ := ob_t h
          refine res_v C w (run_V (As := [.int x1, .int x2, .int x3]) (rest := []) C w hl.1 (recvC1 C w) (c_X2_join_1 l D ca ad _ x1 x2 x3 _ q4 hq4) rfl rfl wl_180 wl_181 wl_182 wl_33 wl_183 hd_X2_join rfl ⟨Nat.le_of_ble_eq_true rfl, Nat.le_of_ble_eq_true rfl⟩ rfl (Nat.le_of_ble_eq_true rfl) dX10_touch_57) (fun H locs w => ?_)
          refine lv_aload_n hx hb dX10_touch_60 rfl (lv_at hl 1 rfl) ?_
          refine gC0_1 C w wl_34 dX10_touch_61 ?_
          refine lv_iconst (v := 0) hx hb dX10_touch_64 (by decide) ?_
          refine pC1_11 C w wl_152 dX10_touch_65 (fun H locs w => ?_)
          refine lv_iload hx hb dX10_touch_68 (lv_at hl 0 rfl) ?_
          rw [hQ]
          exact rI (F := CW ca ad) C w h dX10_touch_70
        · have h := it_t h c4
          exact b30 _ h _ _ _ w (lv_sub hl [0] rfl)
theorem hd_X10_type : yX10_type.cls = RX10 ∧ yX10_type.cls ≠ "java/lang/invoke/MethodHandle" ∧ yX10_type.cls ≠ "java/lang/invoke/VarHandle" ∧ (parseMethodDescriptor yX10_type.desc).map (fun d => d.parameters.length) = some 1 := by decide +kernel
def f_X10_type (σ : St) (x1 : Int32) : Option (Int32 × St) := (f_X10_within x1 (0 : Int32) (127 : Int32)).bind fun q1 => if q1 = 0 then ((f_X10_refuseAsBad σ).bind fun q3 => some (q3.1, q3.2)) else (if (σ.1 10) < (150 : Int32) then (cond (ckI (σ.1 10) 150) (some (((σ.1 10) + (1 : Int32)), (sI (sE σ 42 (((σ.1 10)).toNatClampNeg) (vp_nar .byte ((x1).toInt8.toInt32))) 10 ((σ.1 10) + (1 : Int32))))) none) else ((f_X10_refuseAsFull σ).bind fun q2 => some (q2.1, q2.2)))
abbrev rm_X10_type : Room := { frames := 1, cells := 0, slots := 0, locals := 60 }
set_option maxHeartbeats 4000000 in
set_option maxRecDepth 100000 in
theorem c_X10_type (l : Launch) (D : va_G) (ca : Nat → ClassId) (ad : Nat → Nat) (σ : St) (x1 : Int32) (sz : Nat) (out : Int32 × St) (hf : f_X10_type σ x1 = some out) : Met l yX10_type (.code yX10_type cX10_type 2 (some .int) :: WL) rm_X10_type (PreC D ca (CW ca ad σ) sz [.ref (ad 0), .int x1]) (PostI D (va_A (CW ca ad σ) sz) (CW ca ad out.2) out.1) 0 0 (va_A (CW ca ad σ) sz) := by
  refine Met.ofW (cc := cX10_type) (maxL := 2) (ret := (some .int)) (by decide) rfl ?_
  intro p e s m args below meth c s₁ B hml hv
  obtain ⟨rfl, hsz, hP, hK, hD, hN⟩ := hv
  subst hsz
  have C := Cx.mk (own := RX10) B hml rfl hK hN (ws := (CW ca ad σ))
  have w : Wd (va_A (CW ca ad σ) s.heap.size) s D (CW ca ad σ) s.heap [] := ⟨hP, hD.self, va_S.rf⟩
  have hl := lv_entry ([.ref (ad 0), .int x1]) (n := 2) (Nat.le_of_ble_eq_true rfl)
  rw [lg_entry_eq]
  generalize (lg_sl ([.ref (ad 0), .int x1]) ++ List.replicate (2 - (lg_sl ([.ref (ad 0), .int x1])).length) Slot.unset).toArray = ls at hl ⊢
  have hl : lv_has ls 2 [(0, .ref (ad 0)), (1, .int x1)] := hl
  change W p l e rm_X10_type s m _ below meth c _ [] 0 0 _ _
  clear B hP hD hK hN hml
  generalize va_A (CW ca ad σ) s.heap.size = A at C w ⊢
  generalize ([.ref (ad 0), .int x1] : List Value).toArray = av at C ⊢
  obtain ⟨Q, hQ⟩ : ∃ Q, Q = MQ below (PostI D A (CW ca ad out.2) out.1) av s 0 0 A := ⟨_, rfl⟩
  rw [← hQ]
  have hx := C.1
  have hb := C.2.1
  have h := hf
  unfold f_X10_type at h
  refine lv_iload_n hx hb dX10_type_0 rfl (lv_at hl 1 rfl) ?_
  refine lv_iconst (v := 0) hx hb dX10_type_1 (by decide) ?_
  refine lv_bipush (v := 127) hx hb dX10_type_2 (by decide) ?_
  obtain ⟨q1, hq1, h⟩ := ob_t h
  refine res_i C w (run_S (As := [.int x1, .int (0 : Int32), .int (127 : Int32)]) (rest := []) C w hl.1 (c_X10_within l D ca _ x1 (0 : Int32) (127 : Int32) _ q1 hq1) rfl rfl wl_114 wl_115 wl_2 wl_116 hd_X10_within rfl ⟨Nat.le_of_ble_eq_true rfl, Nat.le_of_ble_eq_true rfl⟩ rfl (Nat.le_of_ble_eq_true rfl) dX10_type_4) (fun H locs w => ?_)
  refine lv_if_ne (tgt := 15) hx hb dX10_type_7 (by decide) (fun c1 => ?_) (fun c1 => ?_)
  · have h := it_f h c1
    refine lv_aload_n hx hb dX10_type_15 rfl (lv_at hl 0 rfl) ?_
    refine gC0_10 (v := (σ.1 10)) C w rfl wl_199 dX10_type_16 ?_
    refine lv_sipush (v := 150) hx hb dX10_type_19 (by decide) ?_
    refine lv_icmp_lt (tgt := 30) hx hb dX10_type_22 (by decide) (fun c2 => ?_) (fun c2 => ?_)
    · have h := it_t h c2
      refine lv_aload_n hx hb dX10_type_30 rfl (lv_at hl 0 rfl) ?_
      refine gC0_7 C w wl_44 dX10_type_31 ?_
      refine lv_aload_n hx hb dX10_type_34 rfl (lv_at hl 0 rfl) ?_
      refine gC0_10 (v := (σ.1 10)) C w rfl wl_199 dX10_type_35 ?_
      refine lv_iload_n hx hb dX10_type_38 rfl (lv_at hl 1 rfl) ?_
      refine lv_i2b hx hb dX10_type_39 rfl ?_
      obtain ⟨i3, h⟩ := ck_t h
      refine stC42 (j := ((σ.1 10)).toNatClampNeg) C w i3 rfl dX10_type_40 (fun H locs w => ?_)
      refine lv_aload_n hx hb dX10_type_41 rfl (lv_at hl 0 rfl) ?_
      refine lv_dup hx hb dX10_type_42 rfl ?_
      refine gC0_10 (v := (σ.1 10)) C w rfl wl_199 dX10_type_43 ?_
      refine lv_iconst (v := 1) hx hb dX10_type_46 (by decide) ?_
      refine lv_iadd hx hb dX10_type_47 ?_
      refine pC0_10 C w wl_199 dX10_type_48 (fun H locs w => ?_)
      refine lv_aload_n hx hb dX10_type_51 rfl (lv_at hl 0 rfl) ?_
      refine gC0_10 (v := ((σ.1 10) + (1 : Int32))) C w rfl wl_199 dX10_type_52 ?_
      rw [hQ]
      exact rI (F := CW ca ad) C w h dX10_type_55
    · have h := it_f h c2
      refine lv_aload_n hx hb dX10_type_25 rfl (lv_at hl 0 rfl) ?_
      obtain ⟨q2, hq2, h⟩ := ob_t h
      refine res_i C w (run_V (As := []) (rest := []) C w hl.1 (recvC0 C w) (c_X10_refuseAsFull l D ca ad _  _ q2 hq2) rfl rfl wl_153 wl_154 wl_155 wl_2 wl_156 hd_X10_refuseAsFull rfl ⟨Nat.le_of_ble_eq_true rfl, Nat.le_of_ble_eq_true rfl⟩ rfl (Nat.le_of_ble_eq_true rfl) dX10_type_26) (fun H locs w => ?_)
      rw [hQ]
      exact rI (F := CW ca ad) C w h dX10_type_29
  · have h := it_t h c1
    refine lv_aload_n hx hb dX10_type_10 rfl (lv_at hl 0 rfl) ?_
    obtain ⟨q3, hq3, h⟩ := ob_t h
    refine res_i C w (run_V (As := []) (rest := []) C w hl.1 (recvC0 C w) (c_X10_refuseAsBad l D ca ad _  _ q3 hq3) rfl rfl wl_117 wl_118 wl_119 wl_2 wl_120 hd_X10_refuseAsBad rfl ⟨Nat.le_of_ble_eq_true rfl, Nat.le_of_ble_eq_true rfl⟩ rfl (Nat.le_of_ble_eq_true rfl) dX10_type_11) (fun H locs w => ?_)
    rw [hQ]
    exact rI (F := CW ca ad) C w h dX10_type_14
theorem hd_X10_clear : yX10_clear.cls = RX10 ∧ yX10_clear.cls ≠ "java/lang/invoke/MethodHandle" ∧ yX10_clear.cls ≠ "java/lang/invoke/VarHandle" ∧ (parseMethodDescriptor yX10_clear.desc).map (fun d => d.parameters.length) = some 0 := by decide +kernel
def f_X10_clear (σ : St) : Option (Int32 × St) := some ((σ.1 10), (sI σ 10 (0 : Int32)))
abbrev rm_X10_clear : Room := { frames := 0, cells := 0, slots := 0, locals := 0 }
set_option maxHeartbeats 4000000 in
set_option maxRecDepth 100000 in
theorem c_X10_clear (l : Launch) (D : va_G) (ca : Nat → ClassId) (ad : Nat → Nat) (σ : St)  (sz : Nat) (out : Int32 × St) (hf : f_X10_clear σ  = some out) : Met l yX10_clear (.code yX10_clear cX10_clear 2 (some .int) :: WL) rm_X10_clear (PreC D ca (CW ca ad σ) sz [.ref (ad 0)]) (PostI D (va_A (CW ca ad σ) sz) (CW ca ad out.2) out.1) 0 0 (va_A (CW ca ad σ) sz) := by
  refine Met.ofW (cc := cX10_clear) (maxL := 2) (ret := (some .int)) (by decide) rfl ?_
  intro p e s m args below meth c s₁ B hml hv
  obtain ⟨rfl, hsz, hP, hK, hD, hN⟩ := hv
  subst hsz
  have C := Cx.mk (own := RX10) B hml rfl hK hN (ws := (CW ca ad σ))
  have w : Wd (va_A (CW ca ad σ) s.heap.size) s D (CW ca ad σ) s.heap [] := ⟨hP, hD.self, va_S.rf⟩
  have hl := lv_entry ([.ref (ad 0)]) (n := 2) (Nat.le_of_ble_eq_true rfl)
  rw [lg_entry_eq]
  generalize (lg_sl ([.ref (ad 0)]) ++ List.replicate (2 - (lg_sl ([.ref (ad 0)])).length) Slot.unset).toArray = ls at hl ⊢
  have hl : lv_has ls 2 [(0, .ref (ad 0))] := hl
  change W p l e rm_X10_clear s m _ below meth c _ [] 0 0 _ _
  clear B hP hD hK hN hml
  generalize va_A (CW ca ad σ) s.heap.size = A at C w ⊢
  generalize ([.ref (ad 0)] : List Value).toArray = av at C ⊢
  obtain ⟨Q, hQ⟩ : ∃ Q, Q = MQ below (PostI D A (CW ca ad out.2) out.1) av s 0 0 A := ⟨_, rfl⟩
  rw [← hQ]
  have hx := C.1
  have hb := C.2.1
  have h := hf
  unfold f_X10_clear at h
  refine lv_aload_n hx hb dX10_clear_0 rfl (lv_at hl 0 rfl) ?_
  refine gC0_10 (v := (σ.1 10)) C w rfl wl_199 dX10_clear_1 ?_
  refine lv_istore_n (lv' := [(1, .int (σ.1 10)), (0, .ref (ad 0))]) hx hb dX10_clear_4 rfl hl (by decide) rfl (fun ls hl => ?_)
  refine lv_aload_n hx hb dX10_clear_5 rfl (lv_at hl 1 rfl) ?_
  refine lv_iconst (v := 0) hx hb dX10_clear_6 (by decide) ?_
  refine pC0_10 C w wl_199 dX10_clear_7 (fun H locs w => ?_)
  refine lv_iload_n hx hb dX10_clear_10 rfl (lv_at hl 0 rfl) ?_
  rw [hQ]
  exact rI (F := CW ca ad) C w h dX10_clear_11
theorem hd_X2_remember : yX2_remember.cls = RX2 ∧ yX2_remember.cls ≠ "java/lang/invoke/MethodHandle" ∧ yX2_remember.cls ≠ "java/lang/invoke/VarHandle" ∧ (parseMethodDescriptor yX2_remember.desc).map (fun d => d.parameters.length) = some 0 := by decide +kernel
def f_X2_remember_1_b45 (σ : St) : Option (St) := cond (ckI (σ.1 111) 8) (cond (ckI (σ.1 111) 8) (some (sI (sE (sE σ 6 (((σ.1 111)).toNatClampNeg) (σ.1 107)) 7 (((σ.1 111)).toNatClampNeg) (σ.1 108)) 111 ((σ.1 111) + (1 : Int32)))) none) none
def f_X2_remember_1 (σ : St) : Option (St) := if (σ.1 111) < (8 : Int32) then (f_X2_remember_1_b45 σ) else (f_X2_remember_1_b45 (sI (scp (scp σ 6 6 (1 : Int32) (0 : Int32) (7 : Int32)) 7 7 (1 : Int32) (0 : Int32) (7 : Int32)) 111 (7 : Int32)))
abbrev rm_X2_remember_1 : Room := { frames := 1, cells := 0, slots := 0, locals := 60 }
set_option maxHeartbeats 4000000 in
set_option maxRecDepth 100000 in
theorem c_X2_remember_1 (l : Launch) (D : va_G) (ca : Nat → ClassId) (ad : Nat → Nat) (σ : St)  (sz : Nat) (out : St) (hf : f_X2_remember_1 σ  = some out) : Met l yX2_remember (.code yX2_remember cX2_remember 1 none :: WL) rm_X2_remember_1 (PreC D ca (CW ca ad σ) sz [.ref (ad 1)]) (PostV D (va_A (CW ca ad σ) sz) (CW ca ad out)) 0 0 (va_A (CW ca ad σ) sz) := by
  refine Met.ofW (cc := cX2_remember) (maxL := 1) (ret := none) (by decide) rfl ?_
  intro p e s m args below meth c s₁ B hml hv
  obtain ⟨rfl, hsz, hP, hK, hD, hN⟩ := hv
  subst hsz
  have C := Cx.mk (own := RX2) B hml rfl hK hN (ws := (CW ca ad σ))
  have w : Wd (va_A (CW ca ad σ) s.heap.size) s D (CW ca ad σ) s.heap [] := ⟨hP, hD.self, va_S.rf⟩
  have hl := lv_entry ([.ref (ad 1)]) (n := 1) (Nat.le_of_ble_eq_true rfl)
  rw [lg_entry_eq]
  generalize (lg_sl ([.ref (ad 1)]) ++ List.replicate (1 - (lg_sl ([.ref (ad 1)])).length) Slot.unset).toArray = ls at hl ⊢
  have hl : lv_has ls 1 [(0, .ref (ad 1))] := hl
  change W p l e rm_X2_remember_1 s m _ below meth c _ [] 0 0 _ _
  clear B hP hD hK hN hml
  generalize va_A (CW ca ad σ) s.heap.size = A at C w ⊢
  generalize ([.ref (ad 1)] : List Value).toArray = av at C ⊢
  obtain ⟨Q, hQ⟩ : ∃ Q, Q = MQ below (PostV D A (CW ca ad out)) av s 0 0 A := ⟨_, rfl⟩
  rw [← hQ]
  have hx := C.1
  have hb := C.2.1
  have b45 : ∀ (σ : St), f_X2_remember_1_b45 σ = some out → Bk p l e rm_X2_remember_1 s m av below meth c A D 1 Q (CW ca ad σ) 45 [(0, .ref (ad 1))] [] := by
    intro σ h H locs ls w hl
    unfold f_X2_remember_1_b45 at h
    refine lv_aload_n hx hb dX2_remember_45 rfl (lv_at hl 0 rfl) ?_
    refine gC1_4 C w wl_74 dX2_remember_46 ?_
    refine lv_aload_n hx hb dX2_remember_49 rfl (lv_at hl 0 rfl) ?_
    refine gC1_11 (v := (σ.1 111)) C w rfl wl_131 dX2_remember_50 ?_
    refine lv_aload_n hx hb dX2_remember_53 rfl (lv_at hl 0 rfl) ?_
    refine gC1_7 (v := (σ.1 107)) C w rfl wl_127 dX2_remember_54 ?_
    obtain ⟨i1, h⟩ := ck_t h
    refine stC6 (j := ((σ.1 111)).toNatClampNeg) C w i1 rfl dX2_remember_57 (fun H locs w => ?_)
    refine lv_aload_n hx hb dX2_remember_58 rfl (lv_at hl 0 rfl) ?_
    refine gC1_5 C w wl_75 dX2_remember_59 ?_
    refine lv_aload_n hx hb dX2_remember_62 rfl (lv_at hl 0 rfl) ?_
    refine gC1_11 (v := (σ.1 111)) C w rfl wl_131 dX2_remember_63 ?_
    refine lv_aload_n hx hb dX2_remember_66 rfl (lv_at hl 0 rfl) ?_
    refine gC1_8 (v := (σ.1 108)) C w rfl wl_128 dX2_remember_67 ?_
    obtain ⟨i2, h⟩ := ck_t h
    refine stC7 (j := ((σ.1 111)).toNatClampNeg) C w i2 rfl dX2_remember_70 (fun H locs w => ?_)
    refine lv_aload_n hx hb dX2_remember_71 rfl (lv_at hl 0 rfl) ?_
    refine lv_dup hx hb dX2_remember_72 rfl ?_
    refine gC1_11 (v := (σ.1 111)) C w rfl wl_131 dX2_remember_73 ?_
    refine lv_iconst (v := 1) hx hb dX2_remember_76 (by decide) ?_
    refine lv_iadd hx hb dX2_remember_77 ?_
    refine pC1_11 C w wl_131 dX2_remember_78 (fun H locs w => ?_)
    rw [hQ]
    exact rV (F := CW ca ad) C w h dX2_remember_81
  have h := hf
  unfold f_X2_remember_1 at h
  refine lv_aload_n hx hb dX2_remember_0 rfl (lv_at hl 0 rfl) ?_
  refine gC1_11 (v := (σ.1 111)) C w rfl wl_131 dX2_remember_1 ?_
  refine lv_bipush (v := 8) hx hb dX2_remember_4 (by decide) ?_
  refine lv_icmp_lt (tgt := 45) hx hb dX2_remember_6 (by decide) (fun c1 => ?_) (fun c1 => ?_)
  · have h := it_t h c1
    exact b45 _ h _ _ _ w (lv_sub hl [0] rfl)
  · have h := it_f h c1
    refine lv_aload_n hx hb dX2_remember_9 rfl (lv_at hl 0 rfl) ?_
    refine gC1_4 C w wl_74 dX2_remember_10 ?_
    refine lv_iconst (v := 1) hx hb dX2_remember_13 (by decide) ?_
    refine lv_aload_n hx hb dX2_remember_14 rfl (lv_at hl 0 rfl) ?_
    refine gC1_4 C w wl_74 dX2_remember_15 ?_
    refine lv_iconst (v := 0) hx hb dX2_remember_18 (by decide) ?_
    refine lv_bipush (v := 7) hx hb dX2_remember_19 (by decide) ?_
    refine cp6_6 C w hl.1 (by decide) (by decide) (by decide) (by decide) (by decide) wl_337 (Nat.le_of_ble_eq_true rfl) (Nat.le_of_ble_eq_true rfl) dX2_remember_21 (fun H locs w => ?_)
    refine lv_aload_n hx hb dX2_remember_24 rfl (lv_at hl 0 rfl) ?_
    refine gC1_5 C w wl_75 dX2_remember_25 ?_
    refine lv_iconst (v := 1) hx hb dX2_remember_28 (by decide) ?_
    refine lv_aload_n hx hb dX2_remember_29 rfl (lv_at hl 0 rfl) ?_
    refine gC1_5 C w wl_75 dX2_remember_30 ?_
    refine lv_iconst (v := 0) hx hb dX2_remember_33 (by decide) ?_
    refine lv_bipush (v := 7) hx hb dX2_remember_34 (by decide) ?_
    refine cp7_7 C w hl.1 (by decide) (by decide) (by decide) (by decide) (by decide) wl_337 (Nat.le_of_ble_eq_true rfl) (Nat.le_of_ble_eq_true rfl) dX2_remember_36 (fun H locs w => ?_)
    refine lv_aload_n hx hb dX2_remember_39 rfl (lv_at hl 0 rfl) ?_
    refine lv_bipush (v := 7) hx hb dX2_remember_40 (by decide) ?_
    refine pC1_11 C w wl_131 dX2_remember_42 (fun H locs w => ?_)
    exact b45 _ h _ _ _ w (lv_sub hl [0] rfl)
theorem hd_X2_markFelled : yX2_markFelled.cls = RX2 ∧ yX2_markFelled.cls ≠ "java/lang/invoke/MethodHandle" ∧ yX2_markFelled.cls ≠ "java/lang/invoke/VarHandle" ∧ (parseMethodDescriptor yX2_markFelled.desc).map (fun d => d.parameters.length) = some 2 := by decide +kernel
def f_X2_markFelled_1 (σ : St) (x1 : Int32) (x2 : Int32) : Option (St) := some (sI σ 107 (((σ.1 107) &&& (((1 : Int32) <<< (x1 &&& 31)) ^^^ (-1 : Int32))) ||| (x2 <<< (x1 &&& 31))))
abbrev rm_X2_markFelled_1 : Room := { frames := 0, cells := 0, slots := 0, locals := 0 }
set_option maxHeartbeats 4000000 in
set_option maxRecDepth 100000 in
theorem c_X2_markFelled_1 (l : Launch) (D : va_G) (ca : Nat → ClassId) (ad : Nat → Nat) (σ : St) (x1 : Int32) (x2 : Int32) (sz : Nat) (out : St) (hf : f_X2_markFelled_1 σ x1 x2 = some out) : Met l yX2_markFelled (.code yX2_markFelled cX2_markFelled 3 none :: WL) rm_X2_markFelled_1 (PreC D ca (CW ca ad σ) sz [.ref (ad 1), .int x1, .int x2]) (PostV D (va_A (CW ca ad σ) sz) (CW ca ad out)) 0 0 (va_A (CW ca ad σ) sz) := by
  refine Met.ofW (cc := cX2_markFelled) (maxL := 3) (ret := none) (by decide) rfl ?_
  intro p e s m args below meth c s₁ B hml hv
  obtain ⟨rfl, hsz, hP, hK, hD, hN⟩ := hv
  subst hsz
  have C := Cx.mk (own := RX2) B hml rfl hK hN (ws := (CW ca ad σ))
  have w : Wd (va_A (CW ca ad σ) s.heap.size) s D (CW ca ad σ) s.heap [] := ⟨hP, hD.self, va_S.rf⟩
  have hl := lv_entry ([.ref (ad 1), .int x1, .int x2]) (n := 3) (Nat.le_of_ble_eq_true rfl)
  rw [lg_entry_eq]
  generalize (lg_sl ([.ref (ad 1), .int x1, .int x2]) ++ List.replicate (3 - (lg_sl ([.ref (ad 1), .int x1, .int x2])).length) Slot.unset).toArray = ls at hl ⊢
  have hl : lv_has ls 3 [(0, .ref (ad 1)), (1, .int x1), (2, .int x2)] := hl
  change W p l e rm_X2_markFelled_1 s m _ below meth c _ [] 0 0 _ _
  clear B hP hD hK hN hml
  generalize va_A (CW ca ad σ) s.heap.size = A at C w ⊢
  generalize ([.ref (ad 1), .int x1, .int x2] : List Value).toArray = av at C ⊢
  obtain ⟨Q, hQ⟩ : ∃ Q, Q = MQ below (PostV D A (CW ca ad out)) av s 0 0 A := ⟨_, rfl⟩
  rw [← hQ]
  have hx := C.1
  have hb := C.2.1
  have h := hf
  unfold f_X2_markFelled_1 at h
  refine lv_aload_n hx hb dX2_markFelled_0 rfl (lv_at hl 0 rfl) ?_
  refine lv_aload_n hx hb dX2_markFelled_1 rfl (lv_at hl 0 rfl) ?_
  refine gC1_7 (v := (σ.1 107)) C w rfl wl_127 dX2_markFelled_2 ?_
  refine lv_iconst (v := 1) hx hb dX2_markFelled_5 (by decide) ?_
  refine lv_iload_n hx hb dX2_markFelled_6 rfl (lv_at hl 1 rfl) ?_
  refine lv_ishl hx hb dX2_markFelled_7 ?_
  refine lv_iconst (v := -1) hx hb dX2_markFelled_8 (by decide) ?_
  refine lv_ixor hx hb dX2_markFelled_9 ?_
  refine lv_iand hx hb dX2_markFelled_10 ?_
  refine lv_iload_n hx hb dX2_markFelled_11 rfl (lv_at hl 2 rfl) ?_
  refine lv_iload_n hx hb dX2_markFelled_12 rfl (lv_at hl 1 rfl) ?_
  refine lv_ishl hx hb dX2_markFelled_13 ?_
  refine lv_ior hx hb dX2_markFelled_14 ?_
  refine pC1_7 C w wl_127 dX2_markFelled_15 (fun H locs w => ?_)
  rw [hQ]
  exact rV (F := CW ca ad) C w h dX2_markFelled_18
theorem hd_X10_fell : yX10_fell.cls = RX10 ∧ yX10_fell.cls ≠ "java/lang/invoke/MethodHandle" ∧ yX10_fell.cls ≠ "java/lang/invoke/VarHandle" ∧ (parseMethodDescriptor yX10_fell.desc).map (fun d => d.parameters.length) = some 2 := by decide +kernel
def f_X10_fell_b17 (σ : St) : Option (Int32 × St) := (f_X10_refuseAsBad σ).bind fun q1 => some (q1.1, q1.2)
def f_X10_fell (σ : St) (x1 : Int32) (x2 : Int32) : Option (Int32 × St) := (f_X10_isTree σ x1).bind fun q1 => if q1.1 = 0 then (f_X10_fell_b17 q1.2) else ((f_X10_within x2 (0 : Int32) (1 : Int32)).bind fun q2 => if q2 = 0 then (f_X10_fell_b17 q1.2) else ((f_X2_remember_1 q1.2).bind fun q3 => (f_X2_markFelled_1 q3 x1 x2).bind fun q4 => some ((((q1.2.1 107) >>> (x1 &&& 31)) &&& (1 : Int32)), q4)))
abbrev rm_X10_fell : Room := { frames := 2, cells := 0, slots := 0, locals := 120 }
set_option maxHeartbeats 4000000 in
set_option maxRecDepth 100000 in
theorem c_X10_fell (l : Launch) (D : va_G) (ca : Nat → ClassId) (ad : Nat → Nat) (σ : St) (x1 : Int32) (x2 : Int32) (sz : Nat) (out : Int32 × St) (hf : f_X10_fell σ x1 x2 = some out) : Met l yX10_fell (.code yX10_fell cX10_fell 4 (some .int) :: WL) rm_X10_fell (PreC D ca (CW ca ad σ) sz [.ref (ad 0), .int x1, .int x2]) (PostI D (va_A (CW ca ad σ) sz) (CW ca ad out.2) out.1) 0 0 (va_A (CW ca ad σ) sz) := by
  refine Met.ofW (cc := cX10_fell) (maxL := 4) (ret := (some .int)) (by decide) rfl ?_
  intro p e s m args below meth c s₁ B hml hv
  obtain ⟨rfl, hsz, hP, hK, hD, hN⟩ := hv
  subst hsz
  have C := Cx.mk (own := RX10) B hml rfl hK hN (ws := (CW ca ad σ))
  have w : Wd (va_A (CW ca ad σ) s.heap.size) s D (CW ca ad σ) s.heap [] := ⟨hP, hD.self, va_S.rf⟩
  have hl := lv_entry ([.ref (ad 0), .int x1, .int x2]) (n := 4) (Nat.le_of_ble_eq_true rfl)
  rw [lg_entry_eq]
  generalize (lg_sl ([.ref (ad 0), .int x1, .int x2]) ++ List.replicate (4 - (lg_sl ([.ref (ad 0), .int x1, .int x2])).length) Slot.unset).toArray = ls at hl ⊢
  have hl : lv_has ls 4 [(0, .ref (ad 0)), (1, .int x1), (2, .int x2)] := hl
  change W p l e rm_X10_fell s m _ below meth c _ [] 0 0 _ _
  clear B hP hD hK hN hml
  generalize va_A (CW ca ad σ) s.heap.size = A at C w ⊢
  generalize ([.ref (ad 0), .int x1, .int x2] : List Value).toArray = av at C ⊢
  obtain ⟨Q, hQ⟩ : ∃ Q, Q = MQ below (PostI D A (CW ca ad out.2) out.1) av s 0 0 A := ⟨_, rfl⟩
  rw [← hQ]
  have hx := C.1
  have hb := C.2.1
  have b17 : ∀ (σ : St), f_X10_fell_b17 σ = some out → Bk p l e rm_X10_fell s m av below meth c A D 4 Q (CW ca ad σ) 17 [(0, .ref (ad 0))] [] := by
    intro σ h H locs ls w hl
    unfold f_X10_fell_b17 at h
    refine lv_aload_n hx hb dX10_fell_17 rfl (lv_at hl 0 rfl) ?_
    obtain ⟨q1, hq1, h⟩ := ob_t h
    refine res_i C w (run_V (As := []) (rest := []) C w hl.1 (recvC0 C w) (c_X10_refuseAsBad l D ca ad _  _ q1 hq1) rfl rfl wl_117 wl_118 wl_119 wl_2 wl_120 hd_X10_refuseAsBad rfl ⟨Nat.le_of_ble_eq_true rfl, Nat.le_of_ble_eq_true rfl⟩ rfl (Nat.le_of_ble_eq_true rfl) dX10_fell_18) (fun H locs w => ?_)
    rw [hQ]
    exact rI (F := CW ca ad) C w h dX10_fell_21
  have h := hf
  unfold f_X10_fell at h
  refine lv_aload_n hx hb dX10_fell_0 rfl (lv_at hl 0 rfl) ?_
  refine lv_iload_n hx hb dX10_fell_1 rfl (lv_at hl 1 rfl) ?_
  obtain ⟨q1, hq1, h⟩ := ob_t h
  refine res_i C w (run_V (As := [.int x1]) (rest := []) C w hl.1 (recvC0 C w) (c_X10_isTree l D ca ad _ x1 _ q1 hq1) rfl rfl wl_176 wl_177 wl_178 wl_2 wl_179 hd_X10_isTree rfl ⟨Nat.le_of_ble_eq_true rfl, Nat.le_of_ble_eq_true rfl⟩ rfl (Nat.le_of_ble_eq_true rfl) dX10_fell_2) (fun H locs w => ?_)
  refine lv_if_eq (tgt := 17) hx hb dX10_fell_5 (by decide) (fun c1 => ?_) (fun c1 => ?_)
  · have h := it_t h c1
    exact b17 _ h _ _ _ w (lv_sub hl [0] rfl)
  · have h := it_f h c1
    refine lv_iload_n hx hb dX10_fell_8 rfl (lv_at hl 2 rfl) ?_
    refine lv_iconst (v := 0) hx hb dX10_fell_9 (by decide) ?_
    refine lv_iconst (v := 1) hx hb dX10_fell_10 (by decide) ?_
    obtain ⟨q2, hq2, h⟩ := ob_t h
    refine res_i C w (run_S (As := [.int x2, .int (0 : Int32), .int (1 : Int32)]) (rest := []) C w hl.1 (c_X10_within l D ca _ x2 (0 : Int32) (1 : Int32) _ q2 hq2) rfl rfl wl_114 wl_115 wl_2 wl_116 hd_X10_within rfl ⟨Nat.le_of_ble_eq_true rfl, Nat.le_of_ble_eq_true rfl⟩ rfl (Nat.le_of_ble_eq_true rfl) dX10_fell_11) (fun H locs w => ?_)
    refine lv_if_ne (tgt := 22) hx hb dX10_fell_14 (by decide) (fun c2 => ?_) (fun c2 => ?_)
    · have h := it_f h c2
      refine lv_aload_n hx hb dX10_fell_22 rfl (lv_at hl 0 rfl) ?_
      refine gC0_1 C w wl_34 dX10_fell_23 ?_
      refine gC1_7 (v := (q1.2.1 107)) C w rfl wl_399 dX10_fell_26 ?_
      refine lv_iload_n hx hb dX10_fell_29 rfl (lv_at hl 1 rfl) ?_
      refine lv_ishr hx hb dX10_fell_30 ?_
      refine lv_iconst (v := 1) hx hb dX10_fell_31 (by decide) ?_
      refine lv_iand hx hb dX10_fell_32 ?_
      refine lv_istore_n (lv' := [(3, .int (((q1.2.1 107) >>> (x1 &&& 31)) &&& (1 : Int32))), (0, .ref (ad 0)), (1, .int x1), (2, .int x2)]) hx hb dX10_fell_33 rfl hl (by decide) rfl (fun ls hl => ?_)
      refine lv_aload_n hx hb dX10_fell_34 rfl (lv_at hl 1 rfl) ?_
      refine gC0_1 C w wl_34 dX10_fell_35 ?_
      obtain ⟨q3, hq3, h⟩ := ob_t h
      refine res_v C w (run_V (As := []) (rest := []) C w hl.1 (recvC1 C w) (c_X2_remember_1 l D ca ad _  _ q3 hq3) rfl rfl wl_400 wl_401 wl_402 wl_33 wl_403 hd_X2_remember rfl ⟨Nat.le_of_ble_eq_true rfl, Nat.le_of_ble_eq_true rfl⟩ rfl (Nat.le_of_ble_eq_true rfl) dX10_fell_38) (fun H locs w => ?_)
      refine lv_aload_n hx hb dX10_fell_41 rfl (lv_at hl 1 rfl) ?_
      refine gC0_1 C w wl_34 dX10_fell_42 ?_
      refine lv_iload_n hx hb dX10_fell_45 rfl (lv_at hl 2 rfl) ?_
      refine lv_iload_n hx hb dX10_fell_46 rfl (lv_at hl 3 rfl) ?_
      obtain ⟨q4, hq4, h⟩ := ob_t h
      refine res_v C w (run_V (As := [.int x1, .int x2]) (rest := []) C w hl.1 (recvC1 C w) (c_X2_markFelled_1 l D ca ad _ x1 x2 _ q4 hq4) rfl rfl wl_404 wl_326 wl_327 wl_33 wl_328 hd_X2_markFelled rfl ⟨Nat.le_of_ble_eq_true rfl, Nat.le_of_ble_eq_true rfl⟩ rfl (Nat.le_of_ble_eq_true rfl) dX10_fell_47) (fun H locs w => ?_)
      refine lv_iload_n hx hb dX10_fell_50 rfl (lv_at hl 0 rfl) ?_
      rw [hQ]
      exact rI (F := CW ca ad) C w h dX10_fell_51
    · have h := it_t h c2
      exact b17 _ h _ _ _ w (lv_sub hl [0] rfl)
theorem hd_X10_season : yX10_season.cls = RX10 ∧ yX10_season.cls ≠ "java/lang/invoke/MethodHandle" ∧ yX10_season.cls ≠ "java/lang/invoke/VarHandle" ∧ (parseMethodDescriptor yX10_season.desc).map (fun d => d.parameters.length) = some 1 := by decide +kernel
def f_X10_season (σ : St) (x1 : Int32) : Option (Int32 × St) := (f_X10_within x1 (1 : Int32) (60 : Int32)).bind fun q1 => if q1 = 0 then ((f_X10_refuseAsBad σ).bind fun q3 => some (q3.1, q3.2)) else ((f_X2_remember_1 σ).bind fun q2 => some ((if (999 : Int32) < ((q2.1 108) + x1) then (999 : Int32) else ((q2.1 108) + x1)), (sI q2 108 (if (999 : Int32) < ((q2.1 108) + x1) then (999 : Int32) else ((q2.1 108) + x1)))))
abbrev rm_X10_season : Room := { frames := 2, cells := 0, slots := 0, locals := 120 }
set_option maxHeartbeats 4000000 in
set_option maxRecDepth 100000 in
theorem c_X10_season (l : Launch) (D : va_G) (ca : Nat → ClassId) (ad : Nat → Nat) (σ : St) (x1 : Int32) (sz : Nat) (out : Int32 × St) (hf : f_X10_season σ x1 = some out) : Met l yX10_season (.code yX10_season cX10_season 2 (some .int) :: WL) rm_X10_season (PreC D ca (CW ca ad σ) sz [.ref (ad 0), .int x1]) (PostI D (va_A (CW ca ad σ) sz) (CW ca ad out.2) out.1) 0 0 (va_A (CW ca ad σ) sz) := by
  refine Met.ofW (cc := cX10_season) (maxL := 2) (ret := (some .int)) (by decide) rfl ?_
  intro p e s m args below meth c s₁ B hml hv
  obtain ⟨rfl, hsz, hP, hK, hD, hN⟩ := hv
  subst hsz
  have C := Cx.mk (own := RX10) B hml rfl hK hN (ws := (CW ca ad σ))
  have w : Wd (va_A (CW ca ad σ) s.heap.size) s D (CW ca ad σ) s.heap [] := ⟨hP, hD.self, va_S.rf⟩
  have hl := lv_entry ([.ref (ad 0), .int x1]) (n := 2) (Nat.le_of_ble_eq_true rfl)
  rw [lg_entry_eq]
  generalize (lg_sl ([.ref (ad 0), .int x1]) ++ List.replicate (2 - (lg_sl ([.ref (ad 0), .int x1])).length) Slot.unset).toArray = ls at hl ⊢
  have hl : lv_has ls 2 [(0, .ref (ad 0)), (1, .int x1)] := hl
  change W p l e rm_X10_season s m _ below meth c _ [] 0 0 _ _
  clear B hP hD hK hN hml
  generalize va_A (CW ca ad σ) s.heap.size = A at C w ⊢
  generalize ([.ref (ad 0), .int x1] : List Value).toArray = av at C ⊢
  obtain ⟨Q, hQ⟩ : ∃ Q, Q = MQ below (PostI D A (CW ca ad out.2) out.1) av s 0 0 A := ⟨_, rfl⟩
  rw [← hQ]
  have hx := C.1
  have hb := C.2.1
  have h := hf
  unfold f_X10_season at h
  refine lv_iload_n hx hb dX10_season_0 rfl (lv_at hl 1 rfl) ?_
  refine lv_iconst (v := 1) hx hb dX10_season_1 (by decide) ?_
  refine lv_bipush (v := 60) hx hb dX10_season_2 (by decide) ?_
  obtain ⟨q1, hq1, h⟩ := ob_t h
  refine res_i C w (run_S (As := [.int x1, .int (1 : Int32), .int (60 : Int32)]) (rest := []) C w hl.1 (c_X10_within l D ca _ x1 (1 : Int32) (60 : Int32) _ q1 hq1) rfl rfl wl_114 wl_115 wl_2 wl_116 hd_X10_within rfl ⟨Nat.le_of_ble_eq_true rfl, Nat.le_of_ble_eq_true rfl⟩ rfl (Nat.le_of_ble_eq_true rfl) dX10_season_4) (fun H locs w => ?_)
  refine lv_if_ne (tgt := 15) hx hb dX10_season_7 (by decide) (fun c1 => ?_) (fun c1 => ?_)
  · have h := it_f h c1
    refine lv_aload_n hx hb dX10_season_15 rfl (lv_at hl 0 rfl) ?_
    refine gC0_1 C w wl_34 dX10_season_16 ?_
    obtain ⟨q2, hq2, h⟩ := ob_t h
    refine res_v C w (run_V (As := []) (rest := []) C w hl.1 (recvC1 C w) (c_X2_remember_1 l D ca ad _  _ q2 hq2) rfl rfl wl_400 wl_401 wl_402 wl_33 wl_403 hd_X2_remember rfl ⟨Nat.le_of_ble_eq_true rfl, Nat.le_of_ble_eq_true rfl⟩ rfl (Nat.le_of_ble_eq_true rfl) dX10_season_19) (fun H locs w => ?_)
    refine lv_aload_n hx hb dX10_season_22 rfl (lv_at hl 0 rfl) ?_
    refine gC0_1 C w wl_34 dX10_season_23 ?_
    refine lv_aload_n hx hb dX10_season_26 rfl (lv_at hl 0 rfl) ?_
    refine gC0_1 C w wl_34 dX10_season_27 ?_
    refine gC1_8 (v := (q2.1 108)) C w rfl wl_417 dX10_season_30 ?_
    refine lv_iload_n hx hb dX10_season_33 rfl (lv_at hl 1 rfl) ?_
    refine lv_iadd hx hb dX10_season_34 ?_
    refine lv_sipush (v := 999) hx hb dX10_season_35 (by decide) ?_
    refine va_mmin hx hb (C.2.2.1.trans hl.1.symm) C.ow (C.ts _ wl_418) (C.ts _ wl_223) (C.ts _ wl_224) (C.ts _ wl_225) (Nat.le_of_ble_eq_true rfl) (Nat.le_of_ble_eq_true rfl) (Nat.le_refl 0) (Nat.le_refl 0) dX10_season_38 ?_
    refine pC1_8 C w wl_417 dX10_season_41 (fun H locs w => ?_)
    refine lv_aload_n hx hb dX10_season_44 rfl (lv_at hl 0 rfl) ?_
    refine gC0_1 C w wl_34 dX10_season_45 ?_
    refine gC1_8 (v := (if (999 : Int32) < ((q2.1 108) + x1) then (999 : Int32) else ((q2.1 108) + x1))) C w rfl wl_417 dX10_season_48 ?_
    rw [hQ]
    exact rI (F := CW ca ad) C w h dX10_season_51
  · have h := it_t h c1
    refine lv_aload_n hx hb dX10_season_10 rfl (lv_at hl 0 rfl) ?_
    obtain ⟨q3, hq3, h⟩ := ob_t h
    refine res_i C w (run_V (As := []) (rest := []) C w hl.1 (recvC0 C w) (c_X10_refuseAsBad l D ca ad _  _ q3 hq3) rfl rfl wl_117 wl_118 wl_119 wl_2 wl_120 hd_X10_refuseAsBad rfl ⟨Nat.le_of_ble_eq_true rfl, Nat.le_of_ble_eq_true rfl⟩ rfl (Nat.le_of_ble_eq_true rfl) dX10_season_11) (fun H locs w => ?_)
    rw [hQ]
    exact rI (F := CW ca ad) C w h dX10_season_14
theorem hd_X2_takeBack : yX2_takeBack.cls = RX2 ∧ yX2_takeBack.cls ≠ "java/lang/invoke/MethodHandle" ∧ yX2_takeBack.cls ≠ "java/lang/invoke/VarHandle" ∧ (parseMethodDescriptor yX2_takeBack.desc).map (fun d => d.parameters.length) = some 0 := by decide +kernel
def f_X2_takeBack_1 (σ : St) : Option (St) := if (σ.1 111) ≤ 0 then (some σ) else (cond (ckI ((σ.1 111) - (1 : Int32)) 8) (cond (ckI ((σ.1 111) - (1 : Int32)) 8) (some (sI (sI (sI σ 111 ((σ.1 111) - (1 : Int32))) 107 (σ.2.2 6 (((σ.1 111) - (1 : Int32))).toNatClampNeg)) 108 (σ.2.2 7 (((σ.1 111) - (1 : Int32))).toNatClampNeg))) none) none)
abbrev rm_X2_takeBack_1 : Room := { frames := 0, cells := 0, slots := 0, locals := 0 }
set_option maxHeartbeats 4000000 in
set_option maxRecDepth 100000 in
theorem c_X2_takeBack_1 (l : Launch) (D : va_G) (ca : Nat → ClassId) (ad : Nat → Nat) (σ : St)  (sz : Nat) (out : St) (hf : f_X2_takeBack_1 σ  = some out) : Met l yX2_takeBack (.code yX2_takeBack cX2_takeBack 1 none :: WL) rm_X2_takeBack_1 (PreC D ca (CW ca ad σ) sz [.ref (ad 1)]) (PostV D (va_A (CW ca ad σ) sz) (CW ca ad out)) 0 0 (va_A (CW ca ad σ) sz) := by
  refine Met.ofW (cc := cX2_takeBack) (maxL := 1) (ret := none) (by decide) rfl ?_
  intro p e s m args below meth c s₁ B hml hv
  obtain ⟨rfl, hsz, hP, hK, hD, hN⟩ := hv
  subst hsz
  have C := Cx.mk (own := RX2) B hml rfl hK hN (ws := (CW ca ad σ))
  have w : Wd (va_A (CW ca ad σ) s.heap.size) s D (CW ca ad σ) s.heap [] := ⟨hP, hD.self, va_S.rf⟩
  have hl := lv_entry ([.ref (ad 1)]) (n := 1) (Nat.le_of_ble_eq_true rfl)
  rw [lg_entry_eq]
  generalize (lg_sl ([.ref (ad 1)]) ++ List.replicate (1 - (lg_sl ([.ref (ad 1)])).length) Slot.unset).toArray = ls at hl ⊢
  have hl : lv_has ls 1 [(0, .ref (ad 1))] := hl
  change W p l e rm_X2_takeBack_1 s m _ below meth c _ [] 0 0 _ _
  clear B hP hD hK hN hml
  generalize va_A (CW ca ad σ) s.heap.size = A at C w ⊢
  generalize ([.ref (ad 1)] : List Value).toArray = av at C ⊢
  obtain ⟨Q, hQ⟩ : ∃ Q, Q = MQ below (PostV D A (CW ca ad out)) av s 0 0 A := ⟨_, rfl⟩
  rw [← hQ]
  have hx := C.1
  have hb := C.2.1
  have h := hf
  unfold f_X2_takeBack_1 at h
  refine lv_aload_n hx hb dX2_takeBack_0 rfl (lv_at hl 0 rfl) ?_
  refine gC1_11 (v := (σ.1 111)) C w rfl wl_131 dX2_takeBack_1 ?_
  refine lv_if_le (tgt := 43) hx hb dX2_takeBack_4 (by decide) (fun c1 => ?_) (fun c1 => ?_)
  · have h := it_t h c1
    rw [hQ]
    exact rV (F := CW ca ad) C w h dX2_takeBack_43
  · have h := it_f h c1
    refine lv_aload_n hx hb dX2_takeBack_7 rfl (lv_at hl 0 rfl) ?_
    refine lv_dup hx hb dX2_takeBack_8 rfl ?_
    refine gC1_11 (v := (σ.1 111)) C w rfl wl_131 dX2_takeBack_9 ?_
    refine lv_iconst (v := 1) hx hb dX2_takeBack_12 (by decide) ?_
    refine lv_isub hx hb dX2_takeBack_13 ?_
    refine pC1_11 C w wl_131 dX2_takeBack_14 (fun H locs w => ?_)
    refine lv_aload_n hx hb dX2_takeBack_17 rfl (lv_at hl 0 rfl) ?_
    refine lv_aload_n hx hb dX2_takeBack_18 rfl (lv_at hl 0 rfl) ?_
    refine gC1_4 C w wl_74 dX2_takeBack_19 ?_
    refine lv_aload_n hx hb dX2_takeBack_22 rfl (lv_at hl 0 rfl) ?_
    refine gC1_11 (v := ((σ.1 111) - (1 : Int32))) C w rfl wl_131 dX2_takeBack_23 ?_
    obtain ⟨i2, h⟩ := ck_t h
    refine ldC6 (v := (σ.2.2 6 (((σ.1 111) - (1 : Int32))).toNatClampNeg)) C w i2 rfl dX2_takeBack_26 ?_
    refine pC1_7 C w wl_127 dX2_takeBack_27 (fun H locs w => ?_)
    refine lv_aload_n hx hb dX2_takeBack_30 rfl (lv_at hl 0 rfl) ?_
    refine lv_aload_n hx hb dX2_takeBack_31 rfl (lv_at hl 0 rfl) ?_
    refine gC1_5 C w wl_75 dX2_takeBack_32 ?_
    refine lv_aload_n hx hb dX2_takeBack_35 rfl (lv_at hl 0 rfl) ?_
    refine gC1_11 (v := ((σ.1 111) - (1 : Int32))) C w rfl wl_131 dX2_takeBack_36 ?_
    obtain ⟨i3, h⟩ := ck_t h
    refine ldC7 (v := (σ.2.2 7 (((σ.1 111) - (1 : Int32))).toNatClampNeg)) C w i3 rfl dX2_takeBack_39 ?_
    refine pC1_8 C w wl_128 dX2_takeBack_40 (fun H locs w => ?_)
    rw [hQ]
    exact rV (F := CW ca ad) C w h dX2_takeBack_43
theorem hd_X10_refuseAsNo : yX10_refuseAsNo.cls = RX10 ∧ yX10_refuseAsNo.cls ≠ "java/lang/invoke/MethodHandle" ∧ yX10_refuseAsNo.cls ≠ "java/lang/invoke/VarHandle" ∧ (parseMethodDescriptor yX10_refuseAsNo.desc).map (fun d => d.parameters.length) = some 0 := by decide +kernel
def f_X10_refuseAsNo (σ : St) : Option (Int32 × St) := some ((-3 : Int32), (sI σ 14 ((σ.1 14) + (1 : Int32))))
abbrev rm_X10_refuseAsNo : Room := { frames := 0, cells := 0, slots := 0, locals := 0 }
set_option maxHeartbeats 4000000 in
set_option maxRecDepth 100000 in
theorem c_X10_refuseAsNo (l : Launch) (D : va_G) (ca : Nat → ClassId) (ad : Nat → Nat) (σ : St)  (sz : Nat) (out : Int32 × St) (hf : f_X10_refuseAsNo σ  = some out) : Met l yX10_refuseAsNo (.code yX10_refuseAsNo cX10_refuseAsNo 1 (some .int) :: WL) rm_X10_refuseAsNo (PreC D ca (CW ca ad σ) sz [.ref (ad 0)]) (PostI D (va_A (CW ca ad σ) sz) (CW ca ad out.2) out.1) 0 0 (va_A (CW ca ad σ) sz) := by
  refine Met.ofW (cc := cX10_refuseAsNo) (maxL := 1) (ret := (some .int)) (by decide) rfl ?_
  intro p e s m args below meth c s₁ B hml hv
  obtain ⟨rfl, hsz, hP, hK, hD, hN⟩ := hv
  subst hsz
  have C := Cx.mk (own := RX10) B hml rfl hK hN (ws := (CW ca ad σ))
  have w : Wd (va_A (CW ca ad σ) s.heap.size) s D (CW ca ad σ) s.heap [] := ⟨hP, hD.self, va_S.rf⟩
  have hl := lv_entry ([.ref (ad 0)]) (n := 1) (Nat.le_of_ble_eq_true rfl)
  rw [lg_entry_eq]
  generalize (lg_sl ([.ref (ad 0)]) ++ List.replicate (1 - (lg_sl ([.ref (ad 0)])).length) Slot.unset).toArray = ls at hl ⊢
  have hl : lv_has ls 1 [(0, .ref (ad 0))] := hl
  change W p l e rm_X10_refuseAsNo s m _ below meth c _ [] 0 0 _ _
  clear B hP hD hK hN hml
  generalize va_A (CW ca ad σ) s.heap.size = A at C w ⊢
  generalize ([.ref (ad 0)] : List Value).toArray = av at C ⊢
  obtain ⟨Q, hQ⟩ : ∃ Q, Q = MQ below (PostI D A (CW ca ad out.2) out.1) av s 0 0 A := ⟨_, rfl⟩
  rw [← hQ]
  have hx := C.1
  have hb := C.2.1
  have h := hf
  unfold f_X10_refuseAsNo at h
  refine lv_aload_n hx hb dX10_refuseAsNo_0 rfl (lv_at hl 0 rfl) ?_
  refine lv_dup hx hb dX10_refuseAsNo_1 rfl ?_
  refine gC0_14 (v := (σ.1 14)) C w rfl wl_432 dX10_refuseAsNo_2 ?_
  refine lv_iconst (v := 1) hx hb dX10_refuseAsNo_5 (by decide) ?_
  refine lv_iadd hx hb dX10_refuseAsNo_6 ?_
  refine pC0_14 C w wl_432 dX10_refuseAsNo_7 (fun H locs w => ?_)
  refine lv_bipush (v := -3) hx hb dX10_refuseAsNo_10 (by decide) ?_
  rw [hQ]
  exact rI (F := CW ca ad) C w h dX10_refuseAsNo_12
theorem hd_X10_undo : yX10_undo.cls = RX10 ∧ yX10_undo.cls ≠ "java/lang/invoke/MethodHandle" ∧ yX10_undo.cls ≠ "java/lang/invoke/VarHandle" ∧ (parseMethodDescriptor yX10_undo.desc).map (fun d => d.parameters.length) = some 0 := by decide +kernel
def f_X10_undo (σ : St) : Option (Int32 × St) := if (σ.1 111) = 0 then ((f_X10_refuseAsNo σ).bind fun q2 => some (q2.1, q2.2)) else ((f_X2_takeBack_1 σ).bind fun q1 => some ((q1.1 108), q1))
abbrev rm_X10_undo : Room := { frames := 1, cells := 0, slots := 0, locals := 60 }
set_option maxHeartbeats 4000000 in
set_option maxRecDepth 100000 in
theorem c_X10_undo (l : Launch) (D : va_G) (ca : Nat → ClassId) (ad : Nat → Nat) (σ : St)  (sz : Nat) (out : Int32 × St) (hf : f_X10_undo σ  = some out) : Met l yX10_undo (.code yX10_undo cX10_undo 1 (some .int) :: WL) rm_X10_undo (PreC D ca (CW ca ad σ) sz [.ref (ad 0)]) (PostI D (va_A (CW ca ad σ) sz) (CW ca ad out.2) out.1) 0 0 (va_A (CW ca ad σ) sz) := by
  refine Met.ofW (cc := cX10_undo) (maxL := 1) (ret := (some .int)) (by decide) rfl ?_
  intro p e s m args below meth c s₁ B hml hv
  obtain ⟨rfl, hsz, hP, hK, hD, hN⟩ := hv
  subst hsz
  have C := Cx.mk (own := RX10) B hml rfl hK hN (ws := (CW ca ad σ))
  have w : Wd (va_A (CW ca ad σ) s.heap.size) s D (CW ca ad σ) s.heap [] := ⟨hP, hD.self, va_S.rf⟩
  have hl := lv_entry ([.ref (ad 0)]) (n := 1) (Nat.le_of_ble_eq_true rfl)
  rw [lg_entry_eq]
  generalize (lg_sl ([.ref (ad 0)]) ++ List.replicate (1 - (lg_sl ([.ref (ad 0)])).length) Slot.unset).toArray = ls at hl ⊢
  have hl : lv_has ls 1 [(0, .ref (ad 0))] := hl
  change W p l e rm_X10_undo s m _ below meth c _ [] 0 0 _ _
  clear B hP hD hK hN hml
  generalize va_A (CW ca ad σ) s.heap.size = A at C w ⊢
  generalize ([.ref (ad 0)] : List Value).toArray = av at C ⊢
  obtain ⟨Q, hQ⟩ : ∃ Q, Q = MQ below (PostI D A (CW ca ad out.2) out.1) av s 0 0 A := ⟨_, rfl⟩
  rw [← hQ]
  have hx := C.1
  have hb := C.2.1
  have h := hf
  unfold f_X10_undo at h
  refine lv_aload_n hx hb dX10_undo_0 rfl (lv_at hl 0 rfl) ?_
  refine gC0_1 C w wl_34 dX10_undo_1 ?_
  refine gC1_11 (v := (σ.1 111)) C w rfl wl_152 dX10_undo_4 ?_
  refine lv_if_ne (tgt := 15) hx hb dX10_undo_7 (by decide) (fun c1 => ?_) (fun c1 => ?_)
  · have h := it_f h c1
    refine lv_aload_n hx hb dX10_undo_15 rfl (lv_at hl 0 rfl) ?_
    refine gC0_1 C w wl_34 dX10_undo_16 ?_
    obtain ⟨q1, hq1, h⟩ := ob_t h
    refine res_v C w (run_V (As := []) (rest := []) C w hl.1 (recvC1 C w) (c_X2_takeBack_1 l D ca ad _  _ q1 hq1) rfl rfl wl_433 wl_434 wl_435 wl_33 wl_436 hd_X2_takeBack rfl ⟨Nat.le_of_ble_eq_true rfl, Nat.le_of_ble_eq_true rfl⟩ rfl (Nat.le_of_ble_eq_true rfl) dX10_undo_19) (fun H locs w => ?_)
    refine lv_aload_n hx hb dX10_undo_22 rfl (lv_at hl 0 rfl) ?_
    refine gC0_1 C w wl_34 dX10_undo_23 ?_
    refine gC1_8 (v := (q1.1 108)) C w rfl wl_417 dX10_undo_26 ?_
    rw [hQ]
    exact rI (F := CW ca ad) C w h dX10_undo_29
  · have h := it_t h c1
    refine lv_aload_n hx hb dX10_undo_10 rfl (lv_at hl 0 rfl) ?_
    obtain ⟨q2, hq2, h⟩ := ob_t h
    refine res_i C w (run_V (As := []) (rest := []) C w hl.1 (recvC0 C w) (c_X10_refuseAsNo l D ca ad _  _ q2 hq2) rfl rfl wl_428 wl_429 wl_430 wl_2 wl_431 hd_X10_refuseAsNo rfl ⟨Nat.le_of_ble_eq_true rfl, Nat.le_of_ble_eq_true rfl⟩ rfl (Nat.le_of_ble_eq_true rfl) dX10_undo_11) (fun H locs w => ?_)
    rw [hQ]
    exact rI (F := CW ca ad) C w h dX10_undo_14
theorem hd_X10_of : yX10_of.cls = RX10 ∧ yX10_of.cls ≠ "java/lang/invoke/MethodHandle" ∧ yX10_of.cls ≠ "java/lang/invoke/VarHandle" ∧ (parseMethodDescriptor yX10_of.desc).map (fun d => d.parameters.length) = some 2 := by decide +kernel
def f_X10_of_b17 (σ : St) : Option (Int32 × St) := (f_X10_refuseAsBad σ).bind fun q1 => some (q1.1, q1.2)
def f_X10_of (σ : St) (x1 : Int32) (x2 : Int32) : Option (Int32 × St) := (f_X10_isTree σ x1).bind fun q1 => if q1.1 = 0 then (f_X10_of_b17 q1.2) else ((f_X10_within x2 (0 : Int32) (2 : Int32)).bind fun q2 => if q2 = 0 then (f_X10_of_b17 q1.2) else (if x2 = 0 then (cond (ckI x1 7) (some ((q1.2.2.2 2 x1.toNatClampNeg), q1.2)) none) else (if x2 = (1 : Int32) then (some ((((q1.2.1 107) >>> (x1 &&& 31)) &&& (1 : Int32)), q1.2)) else (cond (ckI x1 7) (some ((q1.2.2.2 3 x1.toNatClampNeg), q1.2)) none))))
abbrev rm_X10_of : Room := { frames := 2, cells := 0, slots := 0, locals := 120 }
set_option maxHeartbeats 4000000 in
set_option maxRecDepth 100000 in
theorem c_X10_of (l : Launch) (D : va_G) (ca : Nat → ClassId) (ad : Nat → Nat) (σ : St) (x1 : Int32) (x2 : Int32) (sz : Nat) (out : Int32 × St) (hf : f_X10_of σ x1 x2 = some out) : Met l yX10_of (.code yX10_of cX10_of 3 (some .int) :: WL) rm_X10_of (PreC D ca (CW ca ad σ) sz [.ref (ad 0), .int x1, .int x2]) (PostI D (va_A (CW ca ad σ) sz) (CW ca ad out.2) out.1) 0 0 (va_A (CW ca ad σ) sz) := by
  refine Met.ofW (cc := cX10_of) (maxL := 3) (ret := (some .int)) (by decide) rfl ?_
  intro p e s m args below meth c s₁ B hml hv
  obtain ⟨rfl, hsz, hP, hK, hD, hN⟩ := hv
  subst hsz
  have C := Cx.mk (own := RX10) B hml rfl hK hN (ws := (CW ca ad σ))
  have w : Wd (va_A (CW ca ad σ) s.heap.size) s D (CW ca ad σ) s.heap [] := ⟨hP, hD.self, va_S.rf⟩
  have hl := lv_entry ([.ref (ad 0), .int x1, .int x2]) (n := 3) (Nat.le_of_ble_eq_true rfl)
  rw [lg_entry_eq]
  generalize (lg_sl ([.ref (ad 0), .int x1, .int x2]) ++ List.replicate (3 - (lg_sl ([.ref (ad 0), .int x1, .int x2])).length) Slot.unset).toArray = ls at hl ⊢
  have hl : lv_has ls 3 [(0, .ref (ad 0)), (1, .int x1), (2, .int x2)] := hl
  change W p l e rm_X10_of s m _ below meth c _ [] 0 0 _ _
  clear B hP hD hK hN hml
  generalize va_A (CW ca ad σ) s.heap.size = A at C w ⊢
  generalize ([.ref (ad 0), .int x1, .int x2] : List Value).toArray = av at C ⊢
  obtain ⟨Q, hQ⟩ : ∃ Q, Q = MQ below (PostI D A (CW ca ad out.2) out.1) av s 0 0 A := ⟨_, rfl⟩
  rw [← hQ]
  have hx := C.1
  have hb := C.2.1
  have b17 : ∀ (σ : St), f_X10_of_b17 σ = some out → Bk p l e rm_X10_of s m av below meth c A D 3 Q (CW ca ad σ) 17 [(0, .ref (ad 0))] [] := by
    intro σ h H locs ls w hl
    unfold f_X10_of_b17 at h
    refine lv_aload_n hx hb dX10_of_17 rfl (lv_at hl 0 rfl) ?_
    obtain ⟨q1, hq1, h⟩ := ob_t h
    refine res_i C w (run_V (As := []) (rest := []) C w hl.1 (recvC0 C w) (c_X10_refuseAsBad l D ca ad _  _ q1 hq1) rfl rfl wl_117 wl_118 wl_119 wl_2 wl_120 hd_X10_refuseAsBad rfl ⟨Nat.le_of_ble_eq_true rfl, Nat.le_of_ble_eq_true rfl⟩ rfl (Nat.le_of_ble_eq_true rfl) dX10_of_18) (fun H locs w => ?_)
    rw [hQ]
    exact rI (F := CW ca ad) C w h dX10_of_21
  have h := hf
  unfold f_X10_of at h
  refine lv_aload_n hx hb dX10_of_0 rfl (lv_at hl 0 rfl) ?_
  refine lv_iload_n hx hb dX10_of_1 rfl (lv_at hl 1 rfl) ?_
  obtain ⟨q1, hq1, h⟩ := ob_t h
  refine res_i C w (run_V (As := [.int x1]) (rest := []) C w hl.1 (recvC0 C w) (c_X10_isTree l D ca ad _ x1 _ q1 hq1) rfl rfl wl_176 wl_177 wl_178 wl_2 wl_179 hd_X10_isTree rfl ⟨Nat.le_of_ble_eq_true rfl, Nat.le_of_ble_eq_true rfl⟩ rfl (Nat.le_of_ble_eq_true rfl) dX10_of_2) (fun H locs w => ?_)
  refine lv_if_eq (tgt := 17) hx hb dX10_of_5 (by decide) (fun c1 => ?_) (fun c1 => ?_)
  · have h := it_t h c1
    exact b17 _ h _ _ _ w (lv_sub hl [0] rfl)
  · have h := it_f h c1
    refine lv_iload_n hx hb dX10_of_8 rfl (lv_at hl 2 rfl) ?_
    refine lv_iconst (v := 0) hx hb dX10_of_9 (by decide) ?_
    refine lv_iconst (v := 2) hx hb dX10_of_10 (by decide) ?_
    obtain ⟨q2, hq2, h⟩ := ob_t h
    refine res_i C w (run_S (As := [.int x2, .int (0 : Int32), .int (2 : Int32)]) (rest := []) C w hl.1 (c_X10_within l D ca _ x2 (0 : Int32) (2 : Int32) _ q2 hq2) rfl rfl wl_114 wl_115 wl_2 wl_116 hd_X10_within rfl ⟨Nat.le_of_ble_eq_true rfl, Nat.le_of_ble_eq_true rfl⟩ rfl (Nat.le_of_ble_eq_true rfl) dX10_of_11) (fun H locs w => ?_)
    refine lv_if_ne (tgt := 22) hx hb dX10_of_14 (by decide) (fun c2 => ?_) (fun c2 => ?_)
    · have h := it_f h c2
      refine lv_iload_n hx hb dX10_of_22 rfl (lv_at hl 2 rfl) ?_
      refine lv_if_ne (tgt := 36) hx hb dX10_of_23 (by decide) (fun c3 => ?_) (fun c3 => ?_)
      · have h := it_f h c3
        refine lv_iload_n hx hb dX10_of_36 rfl (lv_at hl 2 rfl) ?_
        refine lv_iconst (v := 1) hx hb dX10_of_37 (by decide) ?_
        refine lv_icmp_ne (tgt := 55) hx hb dX10_of_38 (by decide) (fun c4 => ?_) (fun c4 => ?_)
        · have h := it_f h c4
          refine lv_aload_n hx hb dX10_of_55 rfl (lv_at hl 0 rfl) ?_
          refine gC0_1 C w wl_34 dX10_of_56 ?_
          refine gC1_1 C w wl_175 dX10_of_59 ?_
          refine lv_iload_n hx hb dX10_of_62 rfl (lv_at hl 1 rfl) ?_
          obtain ⟨i5, h⟩ := ck_t h
          refine ldC3 (v := (q1.2.2.2 3 x1.toNatClampNeg)) C w i5 rfl dX10_of_63 ?_
          rw [hQ]
          exact rI (F := CW ca ad) C w h dX10_of_64
        · have h := it_t h c4
          refine lv_aload_n hx hb dX10_of_41 rfl (lv_at hl 0 rfl) ?_
          refine gC0_1 C w wl_34 dX10_of_42 ?_
          refine gC1_7 (v := (q1.2.1 107)) C w rfl wl_399 dX10_of_45 ?_
          refine lv_iload_n hx hb dX10_of_48 rfl (lv_at hl 1 rfl) ?_
          refine lv_ishr hx hb dX10_of_49 ?_
          refine lv_iconst (v := 1) hx hb dX10_of_50 (by decide) ?_
          refine lv_iand hx hb dX10_of_51 ?_
          refine lv_goto (tgt := 64) hx hb dX10_of_52 (by decide) ?_
          rw [hQ]
          exact rI (F := CW ca ad) C w h dX10_of_64
      · have h := it_t h c3
        refine lv_aload_n hx hb dX10_of_26 rfl (lv_at hl 0 rfl) ?_
        refine gC0_1 C w wl_34 dX10_of_27 ?_
        refine gC1_0 C w wl_449 dX10_of_30 ?_
        refine lv_iload_n hx hb dX10_of_33 rfl (lv_at hl 1 rfl) ?_
        obtain ⟨i6, h⟩ := ck_t h
        refine ldC2 (v := (q1.2.2.2 2 x1.toNatClampNeg)) C w i6 rfl dX10_of_34 ?_
        rw [hQ]
        exact rI (F := CW ca ad) C w h dX10_of_35
    · have h := it_t h c2
      exact b17 _ h _ _ _ w (lv_sub hl [0] rfl)
theorem hd_X10_copy : yX10_copy.cls = RX10 ∧ yX10_copy.cls ≠ "java/lang/invoke/MethodHandle" ∧ yX10_copy.cls ≠ "java/lang/invoke/VarHandle" ∧ (parseMethodDescriptor yX10_copy.desc).map (fun d => d.parameters.length) = some 3 := by decide +kernel
def f_X10_copy_b24 (σ : St) : Option (Int32 × St) := (f_X10_refuseAsBad σ).bind fun q1 => some (q1.1, q1.2)
def f_X10_copy (σ : St) (x1 : Int32) (x2 : Int32) (x3 : Int32) : Option (Int32 × St) := (f_X10_isTree σ x1).bind fun q1 => if q1.1 = 0 then (f_X10_copy_b24 q1.2) else ((f_X3_isLetter x2).bind fun q2 => if q2 = 0 then (f_X10_copy_b24 q1.2) else ((f_X10_within x3 (0 : Int32) (1 : Int32)).bind fun q3 => if q3 = 0 then (f_X10_copy_b24 q1.2) else (cond (ckI x1 7) (cond (ckI (q1.2.2.2 2 x1.toNatClampNeg) 6) (if x3 = 0 then ((kcopied (((q1.2.2.2 2 x1.toNatClampNeg)).toNatClampNeg) x2 (q1.2.1 108)).bind fun q5 => some (q5, q1.2)) else ((klasts (((q1.2.2.2 2 x1.toNatClampNeg)).toNatClampNeg) (q1.2.1 108)).bind fun q4 => some (q4, q1.2))) none) none)))
abbrev rm_X10_copy : Room := { frames := 4, cells := 0, slots := 0, locals := 240 }
set_option maxHeartbeats 4000000 in
set_option maxRecDepth 100000 in
theorem c_X10_copy (l : Launch) (D : va_G) (ca : Nat → ClassId) (ad : Nat → Nat) (σ : St) (x1 : Int32) (x2 : Int32) (x3 : Int32) (sz : Nat) (out : Int32 × St) (hf : f_X10_copy σ x1 x2 x3 = some out) : Met l yX10_copy (.code yX10_copy cX10_copy 5 (some .int) :: WL) rm_X10_copy (PreC D ca (CW ca ad σ) sz [.ref (ad 0), .int x1, .int x2, .int x3]) (PostI D (va_A (CW ca ad σ) sz) (CW ca ad out.2) out.1) 0 0 (va_A (CW ca ad σ) sz) := by
  refine Met.ofW (cc := cX10_copy) (maxL := 5) (ret := (some .int)) (by decide) rfl ?_
  intro p e s m args below meth c s₁ B hml hv
  obtain ⟨rfl, hsz, hP, hK, hD, hN⟩ := hv
  subst hsz
  have C := Cx.mk (own := RX10) B hml rfl hK hN (ws := (CW ca ad σ))
  have w : Wd (va_A (CW ca ad σ) s.heap.size) s D (CW ca ad σ) s.heap [] := ⟨hP, hD.self, va_S.rf⟩
  have hl := lv_entry ([.ref (ad 0), .int x1, .int x2, .int x3]) (n := 5) (Nat.le_of_ble_eq_true rfl)
  rw [lg_entry_eq]
  generalize (lg_sl ([.ref (ad 0), .int x1, .int x2, .int x3]) ++ List.replicate (5 - (lg_sl ([.ref (ad 0), .int x1, .int x2, .int x3])).length) Slot.unset).toArray = ls at hl ⊢
  have hl : lv_has ls 5 [(0, .ref (ad 0)), (1, .int x1), (2, .int x2), (3, .int x3)] := hl
  change W p l e rm_X10_copy s m _ below meth c _ [] 0 0 _ _
  clear B hP hD hK hN hml
  generalize va_A (CW ca ad σ) s.heap.size = A at C w ⊢
  generalize ([.ref (ad 0), .int x1, .int x2, .int x3] : List Value).toArray = av at C ⊢
  obtain ⟨Q, hQ⟩ : ∃ Q, Q = MQ below (PostI D A (CW ca ad out.2) out.1) av s 0 0 A := ⟨_, rfl⟩
  rw [← hQ]
  have hx := C.1
  have hb := C.2.1
  have b24 : ∀ (σ : St), f_X10_copy_b24 σ = some out → Bk p l e rm_X10_copy s m av below meth c A D 5 Q (CW ca ad σ) 24 [(0, .ref (ad 0))] [] := by
    intro σ h H locs ls w hl
    unfold f_X10_copy_b24 at h
    refine lv_aload_n hx hb dX10_copy_24 rfl (lv_at hl 0 rfl) ?_
    obtain ⟨q1, hq1, h⟩ := ob_t h
    refine res_i C w (run_V (As := []) (rest := []) C w hl.1 (recvC0 C w) (c_X10_refuseAsBad l D ca ad _  _ q1 hq1) rfl rfl wl_117 wl_118 wl_119 wl_2 wl_120 hd_X10_refuseAsBad rfl ⟨Nat.le_of_ble_eq_true rfl, Nat.le_of_ble_eq_true rfl⟩ rfl (Nat.le_of_ble_eq_true rfl) dX10_copy_25) (fun H locs w => ?_)
    rw [hQ]
    exact rI (F := CW ca ad) C w h dX10_copy_28
  have h := hf
  unfold f_X10_copy at h
  refine lv_aload_n hx hb dX10_copy_0 rfl (lv_at hl 0 rfl) ?_
  refine lv_iload_n hx hb dX10_copy_1 rfl (lv_at hl 1 rfl) ?_
  obtain ⟨q1, hq1, h⟩ := ob_t h
  refine res_i C w (run_V (As := [.int x1]) (rest := []) C w hl.1 (recvC0 C w) (c_X10_isTree l D ca ad _ x1 _ q1 hq1) rfl rfl wl_176 wl_177 wl_178 wl_2 wl_179 hd_X10_isTree rfl ⟨Nat.le_of_ble_eq_true rfl, Nat.le_of_ble_eq_true rfl⟩ rfl (Nat.le_of_ble_eq_true rfl) dX10_copy_2) (fun H locs w => ?_)
  refine lv_if_eq (tgt := 24) hx hb dX10_copy_5 (by decide) (fun c1 => ?_) (fun c1 => ?_)
  · have h := it_t h c1
    exact b24 _ h _ _ _ w (lv_sub hl [0] rfl)
  · have h := it_f h c1
    refine lv_iload_n hx hb dX10_copy_8 rfl (lv_at hl 2 rfl) ?_
    obtain ⟨q2, hq2, h⟩ := ob_t h
    refine res_i C w (run_S (As := [.int x2]) (rest := []) C w hl.1 (c_X3_isLetter l D ca _ x2 _ q2 hq2) rfl rfl wl_459 wl_460 wl_461 wl_462 hd_X3_isLetter rfl ⟨Nat.le_of_ble_eq_true rfl, Nat.le_of_ble_eq_true rfl⟩ rfl (Nat.le_of_ble_eq_true rfl) dX10_copy_9) (fun H locs w => ?_)
    refine lv_if_eq (tgt := 24) hx hb dX10_copy_12 (by decide) (fun c2 => ?_) (fun c2 => ?_)
    · have h := it_t h c2
      exact b24 _ h _ _ _ w (lv_sub hl [0] rfl)
    · have h := it_f h c2
      refine lv_iload_n hx hb dX10_copy_15 rfl (lv_at hl 3 rfl) ?_
      refine lv_iconst (v := 0) hx hb dX10_copy_16 (by decide) ?_
      refine lv_iconst (v := 1) hx hb dX10_copy_17 (by decide) ?_
      obtain ⟨q3, hq3, h⟩ := ob_t h
      refine res_i C w (run_S (As := [.int x3, .int (0 : Int32), .int (1 : Int32)]) (rest := []) C w hl.1 (c_X10_within l D ca _ x3 (0 : Int32) (1 : Int32) _ q3 hq3) rfl rfl wl_114 wl_115 wl_2 wl_116 hd_X10_within rfl ⟨Nat.le_of_ble_eq_true rfl, Nat.le_of_ble_eq_true rfl⟩ rfl (Nat.le_of_ble_eq_true rfl) dX10_copy_18) (fun H locs w => ?_)
      refine lv_if_ne (tgt := 29) hx hb dX10_copy_21 (by decide) (fun c3 => ?_) (fun c3 => ?_)
      · have h := it_f h c3
        refine lv_aload_n hx hb dX10_copy_29 rfl (lv_at hl 0 rfl) ?_
        refine gC0_0 C w wl_30 dX10_copy_30 ?_
        refine lv_aload_n hx hb dX10_copy_33 rfl (lv_at hl 0 rfl) ?_
        refine gC0_1 C w wl_34 dX10_copy_34 ?_
        refine gC1_0 C w wl_449 dX10_copy_37 ?_
        refine lv_iload_n hx hb dX10_copy_40 rfl (lv_at hl 1 rfl) ?_
        obtain ⟨i4, h⟩ := ck_t h
        refine ldC2 (v := (q1.2.2.2 2 x1.toNatClampNeg)) C w i4 rfl dX10_copy_41 ?_
        obtain ⟨i5, h⟩ := ck_t h
        refine ldC30 C w i5 dX10_copy_42 ?_
        refine lv_astore (lv' := [(4, .ref (ad (31 + ((q1.2.2.2 2 x1.toNatClampNeg)).toNatClampNeg))), (0, .ref (ad 0)), (1, .int x1), (2, .int x2), (3, .int x3)]) hx hb dX10_copy_43 hl (by decide) rfl (fun ls hl => ?_)
        refine lv_iload_n hx hb dX10_copy_45 rfl (lv_at hl 4 rfl) ?_
        refine lv_if_ne (tgt := 65) hx hb dX10_copy_46 (by decide) (fun c6 => ?_) (fun c6 => ?_)
        · have h := it_f h c6
          refine lv_aload hx hb dX10_copy_65 (lv_at hl 0 rfl) ?_
          refine lv_aload_n hx hb dX10_copy_67 rfl (lv_at hl 1 rfl) ?_
          refine gC0_1 C w wl_34 dX10_copy_68 ?_
          refine gC1_8 (v := (q1.2.1 108)) C w rfl wl_417 dX10_copy_71 ?_
          obtain ⟨q4, hq4, h⟩ := ob_t h
          refine res_i C w (run_lasts (rest := []) C w hl.1 hq4 wl_509 ⟨Nat.le_of_ble_eq_true rfl, Nat.le_of_ble_eq_true rfl⟩ (Nat.le_of_ble_eq_true rfl) dX10_copy_74) (fun H locs w => ?_)
          rw [hQ]
          exact rI (F := CW ca ad) C w h dX10_copy_77
        · have h := it_t h c6
          refine lv_aload hx hb dX10_copy_49 (lv_at hl 0 rfl) ?_
          refine lv_iload_n hx hb dX10_copy_51 rfl (lv_at hl 3 rfl) ?_
          refine lv_aload_n hx hb dX10_copy_52 rfl (lv_at hl 1 rfl) ?_
          refine gC0_1 C w wl_34 dX10_copy_53 ?_
          refine gC1_8 (v := (q1.2.1 108)) C w rfl wl_417 dX10_copy_56 ?_
          obtain ⟨q5, hq5, h⟩ := ob_t h
          refine res_i C w (run_copied (rest := []) C w hl.1 hq5 wl_483 ⟨Nat.le_of_ble_eq_true rfl, Nat.le_of_ble_eq_true rfl⟩ (Nat.le_of_ble_eq_true rfl) dX10_copy_59) (fun H locs w => ?_)
          refine lv_goto (tgt := 77) hx hb dX10_copy_62 (by decide) ?_
          rw [hQ]
          exact rI (F := CW ca ad) C w h dX10_copy_77
      · have h := it_t h c3
        exact b24 _ h _ _ _ w (lv_sub hl [0] rfl)
theorem hd_X7_isTold : yX7_isTold.cls = RX7 ∧ yX7_isTold.cls ≠ "java/lang/invoke/MethodHandle" ∧ yX7_isTold.cls ≠ "java/lang/invoke/VarHandle" ∧ (parseMethodDescriptor yX7_isTold.desc).map (fun d => d.parameters.length) = some 1 := by decide +kernel
def f_X7_isTold_b20 (K20 : St → Int32 → Int32 → Int32 → Option (Int32 × St)) (σ : St) (x2 : Int32) (x3 : Int32) (x4 : Int32) : Option (Int32 × St) := if (7 : Int32) ≤ x4 then (some ((1 : Int32), σ)) else (if x3 ≤ 0 then (some ((1 : Int32), σ)) else ((f_X10_within (x3 - x3 / (10 : Int32) * (10 : Int32)) (1 : Int32) (σ.1 106)).bind fun q1 => if q1 = 0 then (some ((0 : Int32), σ)) else (if ((x2 >>> ((x3 - x3 / (10 : Int32) * (10 : Int32)) &&& 31)) &&& (1 : Int32)) = (1 : Int32) then (some ((0 : Int32), σ)) else (K20 σ (x2 ||| ((1 : Int32) <<< ((x3 - x3 / (10 : Int32) * (10 : Int32)) &&& 31))) (x3 / (10 : Int32)) (x4 + (1 : Int32))))))
def f_X7_isTold_L20 : Nat → St → Int32 → Int32 → Int32 → Option (Int32 × St)
  | 0 => fun _ _ _ _ => none
  | n + 1 => f_X7_isTold_b20 (f_X7_isTold_L20 n)
def f_X7_isTold (σ : St) (x1 : Int32) : Option (Int32 × St) := if x1 < (1 : Int32) then (some ((0 : Int32), σ)) else (if x1 ≤ (7654321 : Int32) then (f_X7_isTold_L20 FU σ (0 : Int32) x1 (0 : Int32)) else (some ((0 : Int32), σ)))
abbrev rm_X7_isTold : Room := { frames := 1, cells := 0, slots := 0, locals := 60 }
set_option maxHeartbeats 4000000 in
set_option maxRecDepth 100000 in
theorem c_X7_isTold (l : Launch) (D : va_G) (ca : Nat → ClassId) (ad : Nat → Nat) (σ : St) (x1 : Int32) (sz : Nat) (out : Int32 × St) (hf : f_X7_isTold σ x1 = some out) : Met l yX7_isTold (.code yX7_isTold cX7_isTold 6 (some .boolean) :: WL) rm_X7_isTold (PreC D ca (CW ca ad σ) sz [.ref (ad 38), .int x1]) (PostI D (va_A (CW ca ad σ) sz) (CW ca ad out.2) out.1) 0 0 (va_A (CW ca ad σ) sz) := by
  refine Met.ofW (cc := cX7_isTold) (maxL := 6) (ret := (some .boolean)) (by decide) rfl ?_
  intro p e s m args below meth c s₁ B hml hv
  obtain ⟨rfl, hsz, hP, hK, hD, hN⟩ := hv
  subst hsz
  have C := Cx.mk (own := RX7) B hml rfl hK hN (ws := (CW ca ad σ))
  have w : Wd (va_A (CW ca ad σ) s.heap.size) s D (CW ca ad σ) s.heap [] := ⟨hP, hD.self, va_S.rf⟩
  have hl := lv_entry ([.ref (ad 38), .int x1]) (n := 6) (Nat.le_of_ble_eq_true rfl)
  rw [lg_entry_eq]
  generalize (lg_sl ([.ref (ad 38), .int x1]) ++ List.replicate (6 - (lg_sl ([.ref (ad 38), .int x1])).length) Slot.unset).toArray = ls at hl ⊢
  have hl : lv_has ls 6 [(0, .ref (ad 38)), (1, .int x1)] := hl
  change W p l e rm_X7_isTold s m _ below meth c _ [] 0 0 _ _
  clear B hP hD hK hN hml
  generalize va_A (CW ca ad σ) s.heap.size = A at C w ⊢
  generalize ([.ref (ad 38), .int x1] : List Value).toArray = av at C ⊢
  obtain ⟨Q, hQ⟩ : ∃ Q, Q = MQ below (PostI D A (CW ca ad out.2) out.1) av s 0 0 A := ⟨_, rfl⟩
  rw [← hQ]
  have hx := C.1
  have hb := C.2.1
  have L20 : ∀ (n20 : Nat) (σ : St) (x2 : Int32) (x3 : Int32) (x4 : Int32), f_X7_isTold_L20 n20 σ x2 x3 x4 = some out → Bk p l e rm_X7_isTold s m av below meth c A D 6 Q (CW ca ad σ) 20 [(0, .ref (ad 38)), (2, .int x2), (3, .int x3), (4, .int x4)] [] := by
    intro n20
    induction n20 with
    | zero => intro σ x2 x3 x4 h; exact absurd h (by simp [f_X7_isTold_L20])
    | succ n20 ih20 =>
      intro σ x2 x3 x4 h H locs ls w hl
      change f_X7_isTold_b20 (f_X7_isTold_L20 n20) σ x2 x3 x4 = some out at h
      unfold f_X7_isTold_b20 at h
      refine lv_iload hx hb dX7_isTold_20 (lv_at hl 3 rfl) ?_
      refine lv_bipush (v := 7) hx hb dX7_isTold_22 (by decide) ?_
      refine lv_icmp_ge (tgt := 83) hx hb dX7_isTold_24 (by decide) (fun c1 => ?_) (fun c1 => ?_)
      · have h := it_t h c1
        refine lv_iconst (v := 1) hx hb dX7_isTold_83 (by decide) ?_
        rw [hQ]
        exact rZ (F := CW ca ad) C w (by decide) h dX7_isTold_84
      · have h := it_f h c1
        refine lv_iload_n hx hb dX7_isTold_27 rfl (lv_at hl 2 rfl) ?_
        refine lv_if_le (tgt := 83) hx hb dX7_isTold_28 (by decide) (fun c2 => ?_) (fun c2 => ?_)
        · have h := it_t h c2
          refine lv_iconst (v := 1) hx hb dX7_isTold_83 (by decide) ?_
          rw [hQ]
          exact rZ (F := CW ca ad) C w (by decide) h dX7_isTold_84
        · have h := it_f h c2
          refine lv_iload_n hx hb dX7_isTold_31 rfl (lv_at hl 2 rfl) ?_
          refine lv_bipush (v := 10) hx hb dX7_isTold_32 (by decide) ?_
          refine lv_irem hx hb dX7_isTold_34 (by decide) ?_
          refine lv_istore (lv' := [(5, .int (x3 - x3 / (10 : Int32) * (10 : Int32))), (0, .ref (ad 38)), (2, .int x2), (3, .int x3), (4, .int x4)]) hx hb dX7_isTold_35 hl (by decide) rfl (fun ls hl => ?_)
          refine lv_iload hx hb dX7_isTold_37 (lv_at hl 0 rfl) ?_
          refine lv_iconst (v := 1) hx hb dX7_isTold_39 (by decide) ?_
          refine lv_aload_n hx hb dX7_isTold_40 rfl (lv_at hl 1 rfl) ?_
          refine gC38_0 C w wl_82 dX7_isTold_41 ?_
          refine gC1_6 (v := (σ.1 106)) C w rfl wl_552 dX7_isTold_44 ?_
          obtain ⟨q1, hq1, h⟩ := ob_t h
          refine res_i C w (run_SN (As := [.int (x3 - x3 / (10 : Int32) * (10 : Int32)), .int (1 : Int32), .int (σ.1 106)]) (rest := []) C w hl.1 (c_X10_within l D ca _ (x3 - x3 / (10 : Int32) * (10 : Int32)) (1 : Int32) (σ.1 106) _ q1 hq1) rfl rfl C.nx.1.1.2.1 wl_115 wl_2 wl_116 hd_X10_within rfl ⟨Nat.le_of_ble_eq_true rfl, Nat.le_of_ble_eq_true rfl⟩ rfl (Nat.le_of_ble_eq_true rfl) dX7_isTold_47) (fun H locs w => ?_)
          refine lv_if_eq (tgt := 63) hx hb dX7_isTold_50 (by decide) (fun c3 => ?_) (fun c3 => ?_)
          · have h := it_t h c3
            refine lv_iconst (v := 0) hx hb dX7_isTold_63 (by decide) ?_
            rw [hQ]
            exact rZ (F := CW ca ad) C w (by decide) h dX7_isTold_64
          · have h := it_f h c3
            refine lv_iload_n hx hb dX7_isTold_53 rfl (lv_at hl 2 rfl) ?_
            refine lv_iload hx hb dX7_isTold_54 (lv_at hl 0 rfl) ?_
            refine lv_ishr hx hb dX7_isTold_56 ?_
            refine lv_iconst (v := 1) hx hb dX7_isTold_57 (by decide) ?_
            refine lv_iand hx hb dX7_isTold_58 ?_
            refine lv_iconst (v := 1) hx hb dX7_isTold_59 (by decide) ?_
            refine lv_icmp_ne (tgt := 65) hx hb dX7_isTold_60 (by decide) (fun c4 => ?_) (fun c4 => ?_)
            · have h := it_f h c4
              refine lv_iload_n hx hb dX7_isTold_65 rfl (lv_at hl 2 rfl) ?_
              refine lv_iconst (v := 1) hx hb dX7_isTold_66 (by decide) ?_
              refine lv_iload hx hb dX7_isTold_67 (lv_at hl 0 rfl) ?_
              refine lv_ishl hx hb dX7_isTold_69 ?_
              refine lv_ior hx hb dX7_isTold_70 ?_
              refine lv_istore_n (lv' := [(2, .int (x2 ||| ((1 : Int32) <<< ((x3 - x3 / (10 : Int32) * (10 : Int32)) &&& 31)))), (5, .int (x3 - x3 / (10 : Int32) * (10 : Int32))), (0, .ref (ad 38)), (3, .int x3), (4, .int x4)]) hx hb dX7_isTold_71 rfl hl (by decide) rfl (fun ls hl => ?_)
              refine lv_iload_n hx hb dX7_isTold_72 rfl (lv_at hl 3 rfl) ?_
              refine lv_bipush (v := 10) hx hb dX7_isTold_73 (by decide) ?_
              refine lv_idiv hx hb dX7_isTold_75 (by decide) ?_
              refine lv_istore_n (lv' := [(3, .int (x3 / (10 : Int32))), (2, .int (x2 ||| ((1 : Int32) <<< ((x3 - x3 / (10 : Int32) * (10 : Int32)) &&& 31)))), (5, .int (x3 - x3 / (10 : Int32) * (10 : Int32))), (0, .ref (ad 38)), (4, .int x4)]) hx hb dX7_isTold_76 rfl hl (by decide) rfl (fun ls hl => ?_)
              refine lv_iinc (v := (x4 + (1 : Int32))) (lv' := [(4, .int (x4 + (1 : Int32))), (3, .int (x3 / (10 : Int32))), (2, .int (x2 ||| ((1 : Int32) <<< ((x3 - x3 / (10 : Int32) * (10 : Int32)) &&& 31)))), (5, .int (x3 - x3 / (10 : Int32) * (10 : Int32))), (0, .ref (ad 38))]) hx hb dX7_isTold_77 hl (k := 4) rfl rfl (by decide) rfl (fun ls hl => ?_)
              refine lv_goto (tgt := 20) hx hb dX7_isTold_80 (by decide) ?_
              exact ih20 _ _ _ _ h _ _ _ w (lv_sub hl [4, 2, 1, 0] rfl)
            · have h := it_t h c4
              refine lv_iconst (v := 0) hx hb dX7_isTold_63 (by decide) ?_
              rw [hQ]
              exact rZ (F := CW ca ad) C w (by decide) h dX7_isTold_64
  have h := hf
  unfold f_X7_isTold at h
  refine lv_iload_n hx hb dX7_isTold_0 rfl (lv_at hl 1 rfl) ?_
  refine lv_iconst (v := 1) hx hb dX7_isTold_1 (by decide) ?_
  refine lv_icmp_lt (tgt := 11) hx hb dX7_isTold_2 (by decide) (fun c1 => ?_) (fun c1 => ?_)
  · have h := it_t h c1
    refine lv_iconst (v := 0) hx hb dX7_isTold_11 (by decide) ?_
    rw [hQ]
    exact rZ (F := CW ca ad) C w (by decide) h dX7_isTold_12
  · have h := it_f h c1
    refine lv_iload_n hx hb dX7_isTold_5 rfl (lv_at hl 1 rfl) ?_
    refine lv_ldc (v := 7654321) hx hb C.ow (C.ts _ wl_551) dX7_isTold_6 ?_
    refine lv_icmp_le (tgt := 13) hx hb dX7_isTold_8 (by decide) (fun c2 => ?_) (fun c2 => ?_)
    · have h := it_t h c2
      refine lv_iconst (v := 0) hx hb dX7_isTold_13 (by decide) ?_
      refine lv_istore_n (lv' := [(2, .int (0 : Int32)), (0, .ref (ad 38)), (1, .int x1)]) hx hb dX7_isTold_14 rfl hl (by decide) rfl (fun ls hl => ?_)
      refine lv_iload_n hx hb dX7_isTold_15 rfl (lv_at hl 2 rfl) ?_
      refine lv_istore_n (lv' := [(3, .int x1), (2, .int (0 : Int32)), (0, .ref (ad 38)), (1, .int x1)]) hx hb dX7_isTold_16 rfl hl (by decide) rfl (fun ls hl => ?_)
      refine lv_iconst (v := 0) hx hb dX7_isTold_17 (by decide) ?_
      refine lv_istore (lv' := [(4, .int (0 : Int32)), (3, .int x1), (2, .int (0 : Int32)), (0, .ref (ad 38)), (1, .int x1)]) hx hb dX7_isTold_18 hl (by decide) rfl (fun ls hl => ?_)
      exact L20 FU _ _ _ _ h _ _ _ w (lv_sub hl [3, 2, 1, 0] rfl)
    · have h := it_f h c2
      refine lv_iconst (v := 0) hx hb dX7_isTold_11 (by decide) ?_
      rw [hQ]
      exact rZ (F := CW ca ad) C w (by decide) h dX7_isTold_12
theorem hd_X7_stands : yX7_stands.cls = RX7 ∧ yX7_stands.cls ≠ "java/lang/invoke/MethodHandle" ∧ yX7_stands.cls ≠ "java/lang/invoke/VarHandle" ∧ (parseMethodDescriptor yX7_stands.desc).map (fun d => d.parameters.length) = some 1 := by decide +kernel
def f_X7_stands_b96 (K5 : St → Int32 → Int32 → Int32 → Option (Int32 × St)) (σ : St) (x1 : Int32) (x2 : Int32) (x3 : Int32) : Option (Int32 × St) := K5 σ x1 x2 (x3 / (10 : Int32))
def f_X7_stands_b68 (K5 : St → Int32 → Int32 → Int32 → Option (Int32 × St)) (σ : St) (x1 : Int32) (x3 : Int32) (x4 : Int32) (y0 : Int32) : Option (Int32 × St) := if y0 = 0 then (some ((0 : Int32), σ)) else (if (((σ.1 107) >>> (x4 &&& 31)) &&& (1 : Int32)) = (1 : Int32) then (some ((0 : Int32), σ)) else (f_X7_stands_b96 K5 σ x1 x4 x3))
def f_X7_stands_b63 (K5 : St → Int32 → Int32 → Int32 → Option (Int32 × St)) (σ : St) (x1 : Int32) (x3 : Int32) (x4 : Int32) : Option (Int32 × St) := f_X7_stands_b68 K5 σ x1 x3 x4 (1 : Int32)
def f_X7_stands_b5 (K5 : St → Int32 → Int32 → Int32 → Option (Int32 × St)) (σ : St) (x1 : Int32) (x2 : Int32) (x3 : Int32) : Option (Int32 × St) := if x3 ≤ 0 then (some ((1 : Int32), σ)) else (if x3 = 0 then none else ((f_X10_within (((x1 / x3) - (x1 / x3) / (10 : Int32) * (10 : Int32)) - (1 : Int32)) (0 : Int32) ((σ.1 106) - (1 : Int32))).bind fun q1 => if q1 = 0 then (f_X7_stands_b96 K5 σ x1 x2 x3) else (if x2 = (-1 : Int32) then (f_X7_stands_b63 K5 σ x1 x3 (((x1 / x3) - (x1 / x3) / (10 : Int32) * (10 : Int32)) - (1 : Int32))) else (cond (ckI (((x1 / x3) - (x1 / x3) / (10 : Int32) * (10 : Int32)) - (1 : Int32)) 7) (if (((σ.2.2 3 ((((x1 / x3) - (x1 / x3) / (10 : Int32) * (10 : Int32)) - (1 : Int32))).toNatClampNeg) >>> (x2 &&& 31)) &&& (1 : Int32)) = (1 : Int32) then (f_X7_stands_b63 K5 σ x1 x3 (((x1 / x3) - (x1 / x3) / (10 : Int32) * (10 : Int32)) - (1 : Int32))) else (f_X7_stands_b68 K5 σ x1 x3 (((x1 / x3) - (x1 / x3) / (10 : Int32) * (10 : Int32)) - (1 : Int32)) (0 : Int32))) none))))
def f_X7_stands_L5 : Nat → St → Int32 → Int32 → Int32 → Option (Int32 × St)
  | 0 => fun _ _ _ _ => none
  | n + 1 => f_X7_stands_b5 (f_X7_stands_L5 n)
def f_X7_stands (σ : St) (x1 : Int32) : Option (Int32 × St) := f_X7_stands_L5 FU σ x1 (-1 : Int32) (1000000 : Int32)
abbrev rm_X7_stands : Room := { frames := 1, cells := 0, slots := 0, locals := 60 }
set_option maxHeartbeats 4000000 in
set_option maxRecDepth 100000 in
theorem c_X7_stands (l : Launch) (D : va_G) (ca : Nat → ClassId) (ad : Nat → Nat) (σ : St) (x1 : Int32) (sz : Nat) (out : Int32 × St) (hf : f_X7_stands σ x1 = some out) : Met l yX7_stands (.code yX7_stands cX7_stands 6 (some .boolean) :: WL) rm_X7_stands (PreC D ca (CW ca ad σ) sz [.ref (ad 38), .int x1]) (PostI D (va_A (CW ca ad σ) sz) (CW ca ad out.2) out.1) 0 0 (va_A (CW ca ad σ) sz) := by
  refine Met.ofW (cc := cX7_stands) (maxL := 6) (ret := (some .boolean)) (by decide) rfl ?_
  intro p e s m args below meth c s₁ B hml hv
  obtain ⟨rfl, hsz, hP, hK, hD, hN⟩ := hv
  subst hsz
  have C := Cx.mk (own := RX7) B hml rfl hK hN (ws := (CW ca ad σ))
  have w : Wd (va_A (CW ca ad σ) s.heap.size) s D (CW ca ad σ) s.heap [] := ⟨hP, hD.self, va_S.rf⟩
  have hl := lv_entry ([.ref (ad 38), .int x1]) (n := 6) (Nat.le_of_ble_eq_true rfl)
  rw [lg_entry_eq]
  generalize (lg_sl ([.ref (ad 38), .int x1]) ++ List.replicate (6 - (lg_sl ([.ref (ad 38), .int x1])).length) Slot.unset).toArray = ls at hl ⊢
  have hl : lv_has ls 6 [(0, .ref (ad 38)), (1, .int x1)] := hl
  change W p l e rm_X7_stands s m _ below meth c _ [] 0 0 _ _
  clear B hP hD hK hN hml
  generalize va_A (CW ca ad σ) s.heap.size = A at C w ⊢
  generalize ([.ref (ad 38), .int x1] : List Value).toArray = av at C ⊢
  obtain ⟨Q, hQ⟩ : ∃ Q, Q = MQ below (PostI D A (CW ca ad out.2) out.1) av s 0 0 A := ⟨_, rfl⟩
  rw [← hQ]
  have hx := C.1
  have hb := C.2.1
  have L5 : ∀ (n5 : Nat) (σ : St) (x1 : Int32) (x2 : Int32) (x3 : Int32), f_X7_stands_L5 n5 σ x1 x2 x3 = some out → Bk p l e rm_X7_stands s m av below meth c A D 6 Q (CW ca ad σ) 5 [(0, .ref (ad 38)), (1, .int x1), (2, .int x2), (3, .int x3)] [] := by
    intro n5
    induction n5 with
    | zero => intro σ x1 x2 x3 h; exact absurd h (by simp [f_X7_stands_L5])
    | succ n5 ih5 =>
      have b96 : ∀ (σ : St) (x1 : Int32) (x2 : Int32) (x3 : Int32), f_X7_stands_b96 (f_X7_stands_L5 n5) σ x1 x2 x3 = some out → Bk p l e rm_X7_stands s m av below meth c A D 6 Q (CW ca ad σ) 96 [(0, .ref (ad 38)), (1, .int x1), (2, .int x2), (3, .int x3)] [] := by
        intro σ x1 x2 x3 h H locs ls w hl
        unfold f_X7_stands_b96 at h
        refine lv_iload_n hx hb dX7_stands_96 rfl (lv_at hl 3 rfl) ?_
        refine lv_bipush (v := 10) hx hb dX7_stands_97 (by decide) ?_
        refine lv_idiv hx hb dX7_stands_99 (by decide) ?_
        refine lv_istore_n (lv' := [(3, .int (x3 / (10 : Int32))), (0, .ref (ad 38)), (1, .int x1), (2, .int x2)]) hx hb dX7_stands_100 rfl hl (by decide) rfl (fun ls hl => ?_)
        refine lv_goto (tgt := 5) hx hb dX7_stands_101 (by decide) ?_
        exact ih5 _ _ _ _ h _ _ _ w (lv_sub hl [1, 2, 3, 0] rfl)
      have b68 : ∀ (σ : St) (x1 : Int32) (x3 : Int32) (x4 : Int32) (y0 : Int32), f_X7_stands_b68 (f_X7_stands_L5 n5) σ x1 x3 x4 y0 = some out → Bk p l e rm_X7_stands s m av below meth c A D 6 Q (CW ca ad σ) 68 [(0, .ref (ad 38)), (1, .int x1), (3, .int x3), (4, .int x4)] [.int y0] := by
        intro σ x1 x3 x4 y0 h H locs ls w hl
        unfold f_X7_stands_b68 at h
        refine lv_istore (lv' := [(5, .int y0), (0, .ref (ad 38)), (1, .int x1), (3, .int x3), (4, .int x4)]) hx hb dX7_stands_68 hl (by decide) rfl (fun ls hl => ?_)
        refine lv_iload hx hb dX7_stands_70 (lv_at hl 0 rfl) ?_
        refine lv_if_eq (tgt := 91) hx hb dX7_stands_72 (by decide) (fun c1 => ?_) (fun c1 => ?_)
        · have h := it_t h c1
          refine lv_iconst (v := 0) hx hb dX7_stands_91 (by decide) ?_
          rw [hQ]
          exact rZ (F := CW ca ad) C w (by decide) h dX7_stands_92
        · have h := it_f h c1
          refine lv_aload_n hx hb dX7_stands_75 rfl (lv_at hl 1 rfl) ?_
          refine gC38_0 C w wl_82 dX7_stands_76 ?_
          refine gC1_7 (v := (σ.1 107)) C w rfl wl_559 dX7_stands_79 ?_
          refine lv_iload hx hb dX7_stands_82 (lv_at hl 4 rfl) ?_
          refine lv_ishr hx hb dX7_stands_84 ?_
          refine lv_iconst (v := 1) hx hb dX7_stands_85 (by decide) ?_
          refine lv_iand hx hb dX7_stands_86 ?_
          refine lv_iconst (v := 1) hx hb dX7_stands_87 (by decide) ?_
          refine lv_icmp_ne (tgt := 93) hx hb dX7_stands_88 (by decide) (fun c2 => ?_) (fun c2 => ?_)
          · have h := it_f h c2
            refine lv_iload hx hb dX7_stands_93 (lv_at hl 4 rfl) ?_
            refine lv_istore_n (lv' := [(2, .int x4), (5, .int y0), (0, .ref (ad 38)), (1, .int x1), (3, .int x3), (4, .int x4)]) hx hb dX7_stands_95 rfl hl (by decide) rfl (fun ls hl => ?_)
            exact b96 _ _ _ _ h _ _ _ w (lv_sub hl [2, 3, 0, 4] rfl)
          · have h := it_t h c2
            refine lv_iconst (v := 0) hx hb dX7_stands_91 (by decide) ?_
            rw [hQ]
            exact rZ (F := CW ca ad) C w (by decide) h dX7_stands_92
      have b63 : ∀ (σ : St) (x1 : Int32) (x3 : Int32) (x4 : Int32), f_X7_stands_b63 (f_X7_stands_L5 n5) σ x1 x3 x4 = some out → Bk p l e rm_X7_stands s m av below meth c A D 6 Q (CW ca ad σ) 63 [(0, .ref (ad 38)), (1, .int x1), (3, .int x3), (4, .int x4)] [] := by
        intro σ x1 x3 x4 h H locs ls w hl
        unfold f_X7_stands_b63 at h
        refine lv_iconst (v := 1) hx hb dX7_stands_63 (by decide) ?_
        refine lv_goto (tgt := 68) hx hb dX7_stands_64 (by decide) ?_
        exact b68 _ _ _ _ _ h _ _ _ w (lv_sub hl [0, 1, 2, 3] rfl)
      intro σ x1 x2 x3 h H locs ls w hl
      change f_X7_stands_b5 (f_X7_stands_L5 n5) σ x1 x2 x3 = some out at h
      unfold f_X7_stands_b5 at h
      refine lv_iload_n hx hb dX7_stands_5 rfl (lv_at hl 3 rfl) ?_
      refine lv_if_le (tgt := 104) hx hb dX7_stands_6 (by decide) (fun c1 => ?_) (fun c1 => ?_)
      · have h := it_t h c1
        refine lv_iconst (v := 1) hx hb dX7_stands_104 (by decide) ?_
        rw [hQ]
        exact rZ (F := CW ca ad) C w (by decide) h dX7_stands_105
      · have h := it_f h c1
        refine lv_iload_n hx hb dX7_stands_9 rfl (lv_at hl 1 rfl) ?_
        refine lv_iload_n hx hb dX7_stands_10 rfl (lv_at hl 3 rfl) ?_
        obtain ⟨n2, h⟩ := dz_t h
        refine lv_idiv hx hb dX7_stands_11 n2 ?_
        refine lv_bipush (v := 10) hx hb dX7_stands_12 (by decide) ?_
        refine lv_irem hx hb dX7_stands_14 (by decide) ?_
        refine lv_iconst (v := 1) hx hb dX7_stands_15 (by decide) ?_
        refine lv_isub hx hb dX7_stands_16 ?_
        refine lv_istore (lv' := [(4, .int (((x1 / x3) - (x1 / x3) / (10 : Int32) * (10 : Int32)) - (1 : Int32))), (0, .ref (ad 38)), (1, .int x1), (2, .int x2), (3, .int x3)]) hx hb dX7_stands_17 hl (by decide) rfl (fun ls hl => ?_)
        refine lv_iload hx hb dX7_stands_19 (lv_at hl 0 rfl) ?_
        refine lv_iconst (v := 0) hx hb dX7_stands_21 (by decide) ?_
        refine lv_aload_n hx hb dX7_stands_22 rfl (lv_at hl 1 rfl) ?_
        refine gC38_0 C w wl_82 dX7_stands_23 ?_
        refine gC1_6 (v := (σ.1 106)) C w rfl wl_552 dX7_stands_26 ?_
        refine lv_iconst (v := 1) hx hb dX7_stands_29 (by decide) ?_
        refine lv_isub hx hb dX7_stands_30 ?_
        obtain ⟨q1, hq1, h⟩ := ob_t h
        refine res_i C w (run_SN (As := [.int (((x1 / x3) - (x1 / x3) / (10 : Int32) * (10 : Int32)) - (1 : Int32)), .int (0 : Int32), .int ((σ.1 106) - (1 : Int32))]) (rest := []) C w hl.1 (c_X10_within l D ca _ (((x1 / x3) - (x1 / x3) / (10 : Int32) * (10 : Int32)) - (1 : Int32)) (0 : Int32) ((σ.1 106) - (1 : Int32)) _ q1 hq1) rfl rfl C.nx.1.1.2.1 wl_115 wl_2 wl_116 hd_X10_within rfl ⟨Nat.le_of_ble_eq_true rfl, Nat.le_of_ble_eq_true rfl⟩ rfl (Nat.le_of_ble_eq_true rfl) dX7_stands_31) (fun H locs w => ?_)
        refine lv_if_ne (tgt := 40) hx hb dX7_stands_34 (by decide) (fun c3 => ?_) (fun c3 => ?_)
        · have h := it_f h c3
          refine lv_iload_n hx hb dX7_stands_40 rfl (lv_at hl 3 rfl) ?_
          refine lv_iconst (v := -1) hx hb dX7_stands_41 (by decide) ?_
          refine lv_icmp_eq (tgt := 63) hx hb dX7_stands_42 (by decide) (fun c4 => ?_) (fun c4 => ?_)
          · have h := it_t h c4
            exact b63 _ _ _ _ h _ _ _ w (lv_sub hl [1, 2, 4, 0] rfl)
          · have h := it_f h c4
            refine lv_aload_n hx hb dX7_stands_45 rfl (lv_at hl 1 rfl) ?_
            refine gC38_0 C w wl_82 dX7_stands_46 ?_
            refine gC1_1 C w wl_558 dX7_stands_49 ?_
            refine lv_iload hx hb dX7_stands_52 (lv_at hl 0 rfl) ?_
            obtain ⟨i5, h⟩ := ck_t h
            refine ldC3 (v := (σ.2.2 3 ((((x1 / x3) - (x1 / x3) / (10 : Int32) * (10 : Int32)) - (1 : Int32))).toNatClampNeg)) C w i5 rfl dX7_stands_54 ?_
            refine lv_iload_n hx hb dX7_stands_55 rfl (lv_at hl 3 rfl) ?_
            refine lv_ishr hx hb dX7_stands_56 ?_
            refine lv_iconst (v := 1) hx hb dX7_stands_57 (by decide) ?_
            refine lv_iand hx hb dX7_stands_58 ?_
            refine lv_iconst (v := 1) hx hb dX7_stands_59 (by decide) ?_
            refine lv_icmp_ne (tgt := 67) hx hb dX7_stands_60 (by decide) (fun c6 => ?_) (fun c6 => ?_)
            · have h := it_f h c6
              refine lv_iconst (v := 0) hx hb dX7_stands_67 (by decide) ?_
              exact b68 _ _ _ _ _ h _ _ _ w (lv_sub hl [1, 2, 4, 0] rfl)
            · have h := it_t h c6
              exact b63 _ _ _ _ h _ _ _ w (lv_sub hl [1, 2, 4, 0] rfl)
        · have h := it_t h c3
          refine lv_goto (tgt := 96) hx hb dX7_stands_37 (by decide) ?_
          exact b96 _ _ _ _ h _ _ _ w (lv_sub hl [1, 2, 3, 4] rfl)
  have h := hf
  unfold f_X7_stands at h
  refine lv_iconst (v := -1) hx hb dX7_stands_0 (by decide) ?_
  refine lv_istore_n (lv' := [(2, .int (-1 : Int32)), (0, .ref (ad 38)), (1, .int x1)]) hx hb dX7_stands_1 rfl hl (by decide) rfl (fun ls hl => ?_)
  refine lv_ldc (v := 1000000) hx hb C.ow (C.ts _ wl_557) dX7_stands_2 ?_
  refine lv_istore_n (lv' := [(3, .int (1000000 : Int32)), (2, .int (-1 : Int32)), (0, .ref (ad 38)), (1, .int x1)]) hx hb dX7_stands_4 rfl hl (by decide) rfl (fun ls hl => ?_)
  exact L5 FU _ _ _ _ h _ _ _ w (lv_sub hl [2, 3, 1, 0] rfl)
theorem hd_X7_follow : yX7_follow.cls = RX7 ∧ yX7_follow.cls ≠ "java/lang/invoke/MethodHandle" ∧ yX7_follow.cls ≠ "java/lang/invoke/VarHandle" ∧ (parseMethodDescriptor yX7_follow.desc).map (fun d => d.parameters.length) = some 3 := by decide +kernel
def f_X7_follow_b109 (K19 : St → Int32 → Int32 → Int32 → Option (St)) (σ : St) (x1 : Int32) (x3 : Int32) (x4 : Int32) : Option (St) := K19 σ x1 x3 (x4 / (10 : Int32))
def f_X7_follow_b19 (K19 : St → Int32 → Int32 → Int32 → Option (St)) (σ : St) (x1 : Int32) (x3 : Int32) (x4 : Int32) : Option (St) := if x4 ≤ 0 then (some σ) else (if x4 = 0 then none else ((f_X10_within (((x1 / x4) - (x1 / x4) / (10 : Int32) * (10 : Int32)) - (1 : Int32)) (0 : Int32) ((σ.1 106) - (1 : Int32))).bind fun q1 => if q1 = 0 then (f_X7_follow_b109 K19 σ x1 x3 x4) else (cond (ckI (((x1 / x4) - (x1 / x4) / (10 : Int32) * (10 : Int32)) - (1 : Int32)) 7) (cond (ckI (σ.2.2 2 ((((x1 / x4) - (x1 / x4) / (10 : Int32) * (10 : Int32)) - (1 : Int32))).toNatClampNeg) 6) ((kcopied (((σ.2.2 2 ((((x1 / x4) - (x1 / x4) / (10 : Int32) * (10 : Int32)) - (1 : Int32))).toNatClampNeg)).toNatClampNeg) (σ.1 3808) (x3 + (σ.1 3807))).bind fun q2 => (klasts (((σ.2.2 2 ((((x1 / x4) - (x1 / x4) / (10 : Int32) * (10 : Int32)) - (1 : Int32))).toNatClampNeg)).toNatClampNeg) (x3 + (σ.1 3807))).bind fun q3 => f_X7_follow_b109 K19 (sI (sI σ 3808 q2) 3807 ((σ.1 3807) + q3)) x1 x3 x4) none) none)))
def f_X7_follow_L19 : Nat → St → Int32 → Int32 → Int32 → Option (St)
  | 0 => fun _ _ _ _ => none
  | n + 1 => f_X7_follow_b19 (f_X7_follow_L19 n)
def f_X7_follow (σ : St) (x1 : Int32) (x2 : Int32) (x3 : Int32) : Option (St) := f_X7_follow_L19 FU (sI (sI (sI σ 3806 x1) 3807 (0 : Int32)) 3808 x2) x1 x3 (1000000 : Int32)
abbrev rm_X7_follow : Room := { frames := 4, cells := 0, slots := 0, locals := 240 }
set_option maxHeartbeats 4000000 in
set_option maxRecDepth 100000 in
theorem c_X7_follow (l : Launch) (D : va_G) (ca : Nat → ClassId) (ad : Nat → Nat) (σ : St) (x1 : Int32) (x2 : Int32) (x3 : Int32) (sz : Nat) (out : St) (hf : f_X7_follow σ x1 x2 x3 = some out) : Met l yX7_follow (.code yX7_follow cX7_follow 7 none :: WL) rm_X7_follow (PreC D ca (CW ca ad σ) sz [.ref (ad 38), .int x1, .int x2, .int x3]) (PostV D (va_A (CW ca ad σ) sz) (CW ca ad out)) 0 0 (va_A (CW ca ad σ) sz) := by
  refine Met.ofW (cc := cX7_follow) (maxL := 7) (ret := none) (by decide) rfl ?_
  intro p e s m args below meth c s₁ B hml hv
  obtain ⟨rfl, hsz, hP, hK, hD, hN⟩ := hv
  subst hsz
  have C := Cx.mk (own := RX7) B hml rfl hK hN (ws := (CW ca ad σ))
  have w : Wd (va_A (CW ca ad σ) s.heap.size) s D (CW ca ad σ) s.heap [] := ⟨hP, hD.self, va_S.rf⟩
  have hl := lv_entry ([.ref (ad 38), .int x1, .int x2, .int x3]) (n := 7) (Nat.le_of_ble_eq_true rfl)
  rw [lg_entry_eq]
  generalize (lg_sl ([.ref (ad 38), .int x1, .int x2, .int x3]) ++ List.replicate (7 - (lg_sl ([.ref (ad 38), .int x1, .int x2, .int x3])).length) Slot.unset).toArray = ls at hl ⊢
  have hl : lv_has ls 7 [(0, .ref (ad 38)), (1, .int x1), (2, .int x2), (3, .int x3)] := hl
  change W p l e rm_X7_follow s m _ below meth c _ [] 0 0 _ _
  clear B hP hD hK hN hml
  generalize va_A (CW ca ad σ) s.heap.size = A at C w ⊢
  generalize ([.ref (ad 38), .int x1, .int x2, .int x3] : List Value).toArray = av at C ⊢
  obtain ⟨Q, hQ⟩ : ∃ Q, Q = MQ below (PostV D A (CW ca ad out)) av s 0 0 A := ⟨_, rfl⟩
  rw [← hQ]
  have hx := C.1
  have hb := C.2.1
  have L19 : ∀ (n19 : Nat) (σ : St) (x1 : Int32) (x3 : Int32) (x4 : Int32), f_X7_follow_L19 n19 σ x1 x3 x4 = some out → Bk p l e rm_X7_follow s m av below meth c A D 7 Q (CW ca ad σ) 19 [(0, .ref (ad 38)), (1, .int x1), (3, .int x3), (4, .int x4)] [] := by
    intro n19
    induction n19 with
    | zero => intro σ x1 x3 x4 h; exact absurd h (by simp [f_X7_follow_L19])
    | succ n19 ih19 =>
      have b109 : ∀ (σ : St) (x1 : Int32) (x3 : Int32) (x4 : Int32), f_X7_follow_b109 (f_X7_follow_L19 n19) σ x1 x3 x4 = some out → Bk p l e rm_X7_follow s m av below meth c A D 7 Q (CW ca ad σ) 109 [(0, .ref (ad 38)), (1, .int x1), (3, .int x3), (4, .int x4)] [] := by
        intro σ x1 x3 x4 h H locs ls w hl
        unfold f_X7_follow_b109 at h
        refine lv_iload hx hb dX7_follow_109 (lv_at hl 3 rfl) ?_
        refine lv_bipush (v := 10) hx hb dX7_follow_111 (by decide) ?_
        refine lv_idiv hx hb dX7_follow_113 (by decide) ?_
        refine lv_istore (lv' := [(4, .int (x4 / (10 : Int32))), (0, .ref (ad 38)), (1, .int x1), (3, .int x3)]) hx hb dX7_follow_114 hl (by decide) rfl (fun ls hl => ?_)
        refine lv_goto (tgt := 19) hx hb dX7_follow_116 (by decide) ?_
        exact ih19 _ _ _ _ h _ _ _ w (lv_sub hl [1, 2, 3, 0] rfl)
      intro σ x1 x3 x4 h H locs ls w hl
      change f_X7_follow_b19 (f_X7_follow_L19 n19) σ x1 x3 x4 = some out at h
      unfold f_X7_follow_b19 at h
      refine lv_iload hx hb dX7_follow_19 (lv_at hl 3 rfl) ?_
      refine lv_if_le (tgt := 119) hx hb dX7_follow_21 (by decide) (fun c1 => ?_) (fun c1 => ?_)
      · have h := it_t h c1
        rw [hQ]
        exact rV (F := CW ca ad) C w h dX7_follow_119
      · have h := it_f h c1
        refine lv_iload_n hx hb dX7_follow_24 rfl (lv_at hl 1 rfl) ?_
        refine lv_iload hx hb dX7_follow_25 (lv_at hl 3 rfl) ?_
        obtain ⟨n2, h⟩ := dz_t h
        refine lv_idiv hx hb dX7_follow_27 n2 ?_
        refine lv_bipush (v := 10) hx hb dX7_follow_28 (by decide) ?_
        refine lv_irem hx hb dX7_follow_30 (by decide) ?_
        refine lv_iconst (v := 1) hx hb dX7_follow_31 (by decide) ?_
        refine lv_isub hx hb dX7_follow_32 ?_
        refine lv_istore (lv' := [(5, .int (((x1 / x4) - (x1 / x4) / (10 : Int32) * (10 : Int32)) - (1 : Int32))), (0, .ref (ad 38)), (1, .int x1), (3, .int x3), (4, .int x4)]) hx hb dX7_follow_33 hl (by decide) rfl (fun ls hl => ?_)
        refine lv_iload hx hb dX7_follow_35 (lv_at hl 0 rfl) ?_
        refine lv_iconst (v := 0) hx hb dX7_follow_37 (by decide) ?_
        refine lv_aload_n hx hb dX7_follow_38 rfl (lv_at hl 1 rfl) ?_
        refine gC38_0 C w wl_82 dX7_follow_39 ?_
        refine gC1_6 (v := (σ.1 106)) C w rfl wl_552 dX7_follow_42 ?_
        refine lv_iconst (v := 1) hx hb dX7_follow_45 (by decide) ?_
        refine lv_isub hx hb dX7_follow_46 ?_
        obtain ⟨q1, hq1, h⟩ := ob_t h
        refine res_i C w (run_SN (As := [.int (((x1 / x4) - (x1 / x4) / (10 : Int32) * (10 : Int32)) - (1 : Int32)), .int (0 : Int32), .int ((σ.1 106) - (1 : Int32))]) (rest := []) C w hl.1 (c_X10_within l D ca _ (((x1 / x4) - (x1 / x4) / (10 : Int32) * (10 : Int32)) - (1 : Int32)) (0 : Int32) ((σ.1 106) - (1 : Int32)) _ q1 hq1) rfl rfl C.nx.1.1.2.1 wl_115 wl_2 wl_116 hd_X10_within rfl ⟨Nat.le_of_ble_eq_true rfl, Nat.le_of_ble_eq_true rfl⟩ rfl (Nat.le_of_ble_eq_true rfl) dX7_follow_47) (fun H locs w => ?_)
        refine lv_if_eq (tgt := 109) hx hb dX7_follow_50 (by decide) (fun c3 => ?_) (fun c3 => ?_)
        · have h := it_t h c3
          exact b109 _ _ _ _ h _ _ _ w (lv_sub hl [1, 2, 3, 4] rfl)
        · have h := it_f h c3
          refine lv_aload_n hx hb dX7_follow_53 rfl (lv_at hl 1 rfl) ?_
          refine gC38_1 C w wl_83 dX7_follow_54 ?_
          refine lv_aload_n hx hb dX7_follow_57 rfl (lv_at hl 1 rfl) ?_
          refine gC38_0 C w wl_82 dX7_follow_58 ?_
          refine gC1_0 C w wl_567 dX7_follow_61 ?_
          refine lv_iload hx hb dX7_follow_64 (lv_at hl 0 rfl) ?_
          obtain ⟨i4, h⟩ := ck_t h
          refine ldC2 (v := (σ.2.2 2 ((((x1 / x4) - (x1 / x4) / (10 : Int32) * (10 : Int32)) - (1 : Int32))).toNatClampNeg)) C w i4 rfl dX7_follow_66 ?_
          obtain ⟨i5, h⟩ := ck_t h
          refine ldC30 C w i5 dX7_follow_67 ?_
          refine lv_astore (lv' := [(6, .ref (ad (31 + ((σ.2.2 2 ((((x1 / x4) - (x1 / x4) / (10 : Int32) * (10 : Int32)) - (1 : Int32))).toNatClampNeg)).toNatClampNeg))), (5, .int (((x1 / x4) - (x1 / x4) / (10 : Int32) * (10 : Int32)) - (1 : Int32))), (0, .ref (ad 38)), (1, .int x1), (3, .int x3), (4, .int x4)]) hx hb dX7_follow_68 hl (by decide) rfl (fun ls hl => ?_)
          refine lv_aload_n hx hb dX7_follow_70 rfl (lv_at hl 2 rfl) ?_
          refine lv_aload hx hb dX7_follow_71 (lv_at hl 0 rfl) ?_
          refine lv_aload_n hx hb dX7_follow_73 rfl (lv_at hl 2 rfl) ?_
          refine gC38_8 (v := (σ.1 3808)) C w rfl wl_566 dX7_follow_74 ?_
          refine lv_iload_n hx hb dX7_follow_77 rfl (lv_at hl 4 rfl) ?_
          refine lv_aload_n hx hb dX7_follow_78 rfl (lv_at hl 2 rfl) ?_
          refine gC38_7 (v := (σ.1 3807)) C w rfl wl_565 dX7_follow_79 ?_
          refine lv_iadd hx hb dX7_follow_82 ?_
          obtain ⟨q2, hq2, h⟩ := ob_t h
          refine res_i C w (run_copied (rest := [.ref (ad 38)]) C w hl.1 hq2 wl_569 ⟨Nat.le_of_ble_eq_true rfl, Nat.le_of_ble_eq_true rfl⟩ (Nat.le_of_ble_eq_true rfl) dX7_follow_83) (fun H locs w => ?_)
          refine pC38_8 C w wl_566 dX7_follow_86 (fun H locs w => ?_)
          refine lv_aload_n hx hb dX7_follow_89 rfl (lv_at hl 2 rfl) ?_
          refine lv_dup hx hb dX7_follow_90 rfl ?_
          refine gC38_7 (v := (σ.1 3807)) C w rfl wl_565 dX7_follow_91 ?_
          refine lv_aload hx hb dX7_follow_94 (lv_at hl 0 rfl) ?_
          refine lv_iload_n hx hb dX7_follow_96 rfl (lv_at hl 4 rfl) ?_
          refine lv_aload_n hx hb dX7_follow_97 rfl (lv_at hl 2 rfl) ?_
          refine gC38_7 (v := (σ.1 3807)) C w rfl wl_565 dX7_follow_98 ?_
          refine lv_iadd hx hb dX7_follow_101 ?_
          obtain ⟨q3, hq3, h⟩ := ob_t h
          refine res_i C w (run_lasts (rest := [.int (σ.1 3807), .ref (ad 38)]) C w hl.1 hq3 wl_571 ⟨Nat.le_of_ble_eq_true rfl, Nat.le_of_ble_eq_true rfl⟩ (Nat.le_of_ble_eq_true rfl) dX7_follow_102) (fun H locs w => ?_)
          refine lv_iadd hx hb dX7_follow_105 ?_
          refine pC38_7 C w wl_565 dX7_follow_106 (fun H locs w => ?_)
          exact b109 _ _ _ _ h _ _ _ w (lv_sub hl [2, 3, 4, 5] rfl)
  have h := hf
  unfold f_X7_follow at h
  refine lv_aload_n hx hb dX7_follow_0 rfl (lv_at hl 0 rfl) ?_
  refine lv_iload_n hx hb dX7_follow_1 rfl (lv_at hl 1 rfl) ?_
  refine pC38_6 C w wl_564 dX7_follow_2 (fun H locs w => ?_)
  refine lv_aload_n hx hb dX7_follow_5 rfl (lv_at hl 0 rfl) ?_
  refine lv_iconst (v := 0) hx hb dX7_follow_6 (by decide) ?_
  refine pC38_7 C w wl_565 dX7_follow_7 (fun H locs w => ?_)
  refine lv_aload_n hx hb dX7_follow_10 rfl (lv_at hl 0 rfl) ?_
  refine lv_iload_n hx hb dX7_follow_11 rfl (lv_at hl 2 rfl) ?_
  refine pC38_8 C w wl_566 dX7_follow_12 (fun H locs w => ?_)
  refine lv_ldc (v := 1000000) hx hb C.ow (C.ts _ wl_557) dX7_follow_15 ?_
  refine lv_istore (lv' := [(4, .int (1000000 : Int32)), (0, .ref (ad 38)), (1, .int x1), (2, .int x2), (3, .int x3)]) hx hb dX7_follow_17 hl (by decide) rfl (fun ls hl => ?_)
  exact L19 FU _ _ _ _ h _ _ _ w (lv_sub hl [1, 2, 4, 0] rfl)
theorem hd_X10_byRow : yX10_byRow.cls = RX10 ∧ yX10_byRow.cls ≠ "java/lang/invoke/MethodHandle" ∧ yX10_byRow.cls ≠ "java/lang/invoke/VarHandle" ∧ (parseMethodDescriptor yX10_byRow.desc).map (fun d => d.parameters.length) = some 3 := by decide +kernel
def f_X10_byRow_b27 (σ : St) : Option (Int32 × St) := (f_X10_refuseAsBad σ).bind fun q1 => some (q1.1, q1.2)
def f_X10_byRow (σ : St) (x1 : Int32) (x2 : Int32) (x3 : Int32) : Option (Int32 × St) := (f_X7_isTold σ x1).bind fun q1 => if q1.1 = 0 then (f_X10_byRow_b27 q1.2) else ((f_X3_isLetter x2).bind fun q2 => if q2 = 0 then (f_X10_byRow_b27 q1.2) else ((f_X10_within x3 (0 : Int32) (1 : Int32)).bind fun q3 => if q3 = 0 then (f_X10_byRow_b27 q1.2) else ((f_X7_stands q1.2 x1).bind fun q4 => if q4.1 = 0 then (some ((-1 : Int32), q4.2)) else ((f_X7_follow q4.2 x1 x2 (q4.2.1 108)).bind fun q5 => if x3 = 0 then (some ((q5.1 3808), q5)) else (some ((q5.1 3807), q5))))))
abbrev rm_X10_byRow : Room := { frames := 5, cells := 0, slots := 0, locals := 300 }
set_option maxHeartbeats 4000000 in
set_option maxRecDepth 100000 in
theorem c_X10_byRow (l : Launch) (D : va_G) (ca : Nat → ClassId) (ad : Nat → Nat) (σ : St) (x1 : Int32) (x2 : Int32) (x3 : Int32) (sz : Nat) (out : Int32 × St) (hf : f_X10_byRow σ x1 x2 x3 = some out) : Met l yX10_byRow (.code yX10_byRow cX10_byRow 4 (some .int) :: WL) rm_X10_byRow (PreC D ca (CW ca ad σ) sz [.ref (ad 0), .int x1, .int x2, .int x3]) (PostI D (va_A (CW ca ad σ) sz) (CW ca ad out.2) out.1) 0 0 (va_A (CW ca ad σ) sz) := by
  refine Met.ofW (cc := cX10_byRow) (maxL := 4) (ret := (some .int)) (by decide) rfl ?_
  intro p e s m args below meth c s₁ B hml hv
  obtain ⟨rfl, hsz, hP, hK, hD, hN⟩ := hv
  subst hsz
  have C := Cx.mk (own := RX10) B hml rfl hK hN (ws := (CW ca ad σ))
  have w : Wd (va_A (CW ca ad σ) s.heap.size) s D (CW ca ad σ) s.heap [] := ⟨hP, hD.self, va_S.rf⟩
  have hl := lv_entry ([.ref (ad 0), .int x1, .int x2, .int x3]) (n := 4) (Nat.le_of_ble_eq_true rfl)
  rw [lg_entry_eq]
  generalize (lg_sl ([.ref (ad 0), .int x1, .int x2, .int x3]) ++ List.replicate (4 - (lg_sl ([.ref (ad 0), .int x1, .int x2, .int x3])).length) Slot.unset).toArray = ls at hl ⊢
  have hl : lv_has ls 4 [(0, .ref (ad 0)), (1, .int x1), (2, .int x2), (3, .int x3)] := hl
  change W p l e rm_X10_byRow s m _ below meth c _ [] 0 0 _ _
  clear B hP hD hK hN hml
  generalize va_A (CW ca ad σ) s.heap.size = A at C w ⊢
  generalize ([.ref (ad 0), .int x1, .int x2, .int x3] : List Value).toArray = av at C ⊢
  obtain ⟨Q, hQ⟩ : ∃ Q, Q = MQ below (PostI D A (CW ca ad out.2) out.1) av s 0 0 A := ⟨_, rfl⟩
  rw [← hQ]
  have hx := C.1
  have hb := C.2.1
  have b27 : ∀ (σ : St), f_X10_byRow_b27 σ = some out → Bk p l e rm_X10_byRow s m av below meth c A D 4 Q (CW ca ad σ) 27 [(0, .ref (ad 0))] [] := by
    intro σ h H locs ls w hl
    unfold f_X10_byRow_b27 at h
    refine lv_aload_n hx hb dX10_byRow_27 rfl (lv_at hl 0 rfl) ?_
    obtain ⟨q1, hq1, h⟩ := ob_t h
    refine res_i C w (run_V (As := []) (rest := []) C w hl.1 (recvC0 C w) (c_X10_refuseAsBad l D ca ad _  _ q1 hq1) rfl rfl wl_117 wl_118 wl_119 wl_2 wl_120 hd_X10_refuseAsBad rfl ⟨Nat.le_of_ble_eq_true rfl, Nat.le_of_ble_eq_true rfl⟩ rfl (Nat.le_of_ble_eq_true rfl) dX10_byRow_28) (fun H locs w => ?_)
    rw [hQ]
    exact rI (F := CW ca ad) C w h dX10_byRow_31
  have h := hf
  unfold f_X10_byRow at h
  refine lv_aload_n hx hb dX10_byRow_0 rfl (lv_at hl 0 rfl) ?_
  refine gC0_5 C w wl_42 dX10_byRow_1 ?_
  refine lv_iload_n hx hb dX10_byRow_4 rfl (lv_at hl 1 rfl) ?_
  obtain ⟨q1, hq1, h⟩ := ob_t h
  refine res_i C w (run_V (As := [.int x1]) (rest := []) C w hl.1 (recvC38 C w) (c_X7_isTold l D ca ad _ x1 _ q1 hq1) rfl rfl wl_547 wl_548 wl_549 wl_41 wl_550 hd_X7_isTold rfl ⟨Nat.le_of_ble_eq_true rfl, Nat.le_of_ble_eq_true rfl⟩ rfl (Nat.le_of_ble_eq_true rfl) dX10_byRow_5) (fun H locs w => ?_)
  refine lv_if_eq (tgt := 27) hx hb dX10_byRow_8 (by decide) (fun c1 => ?_) (fun c1 => ?_)
  · have h := it_t h c1
    exact b27 _ h _ _ _ w (lv_sub hl [0] rfl)
  · have h := it_f h c1
    refine lv_iload_n hx hb dX10_byRow_11 rfl (lv_at hl 2 rfl) ?_
    obtain ⟨q2, hq2, h⟩ := ob_t h
    refine res_i C w (run_S (As := [.int x2]) (rest := []) C w hl.1 (c_X3_isLetter l D ca _ x2 _ q2 hq2) rfl rfl wl_459 wl_460 wl_461 wl_462 hd_X3_isLetter rfl ⟨Nat.le_of_ble_eq_true rfl, Nat.le_of_ble_eq_true rfl⟩ rfl (Nat.le_of_ble_eq_true rfl) dX10_byRow_12) (fun H locs w => ?_)
    refine lv_if_eq (tgt := 27) hx hb dX10_byRow_15 (by decide) (fun c2 => ?_) (fun c2 => ?_)
    · have h := it_t h c2
      exact b27 _ h _ _ _ w (lv_sub hl [0] rfl)
    · have h := it_f h c2
      refine lv_iload_n hx hb dX10_byRow_18 rfl (lv_at hl 3 rfl) ?_
      refine lv_iconst (v := 0) hx hb dX10_byRow_19 (by decide) ?_
      refine lv_iconst (v := 1) hx hb dX10_byRow_20 (by decide) ?_
      obtain ⟨q3, hq3, h⟩ := ob_t h
      refine res_i C w (run_S (As := [.int x3, .int (0 : Int32), .int (1 : Int32)]) (rest := []) C w hl.1 (c_X10_within l D ca _ x3 (0 : Int32) (1 : Int32) _ q3 hq3) rfl rfl wl_114 wl_115 wl_2 wl_116 hd_X10_within rfl ⟨Nat.le_of_ble_eq_true rfl, Nat.le_of_ble_eq_true rfl⟩ rfl (Nat.le_of_ble_eq_true rfl) dX10_byRow_21) (fun H locs w => ?_)
      refine lv_if_ne (tgt := 32) hx hb dX10_byRow_24 (by decide) (fun c3 => ?_) (fun c3 => ?_)
      · have h := it_f h c3
        refine lv_aload_n hx hb dX10_byRow_32 rfl (lv_at hl 0 rfl) ?_
        refine gC0_5 C w wl_42 dX10_byRow_33 ?_
        refine lv_iload_n hx hb dX10_byRow_36 rfl (lv_at hl 1 rfl) ?_
        obtain ⟨q4, hq4, h⟩ := ob_t h
        refine res_i C w (run_V (As := [.int x1]) (rest := []) C w hl.1 (recvC38 C w) (c_X7_stands l D ca ad _ x1 _ q4 hq4) rfl rfl wl_553 wl_554 wl_555 wl_41 wl_556 hd_X7_stands rfl ⟨Nat.le_of_ble_eq_true rfl, Nat.le_of_ble_eq_true rfl⟩ rfl (Nat.le_of_ble_eq_true rfl) dX10_byRow_37) (fun H locs w => ?_)
        refine lv_if_ne (tgt := 45) hx hb dX10_byRow_40 (by decide) (fun c4 => ?_) (fun c4 => ?_)
        · have h := it_f h c4
          refine lv_aload_n hx hb dX10_byRow_45 rfl (lv_at hl 0 rfl) ?_
          refine gC0_5 C w wl_42 dX10_byRow_46 ?_
          refine lv_iload_n hx hb dX10_byRow_49 rfl (lv_at hl 1 rfl) ?_
          refine lv_iload_n hx hb dX10_byRow_50 rfl (lv_at hl 2 rfl) ?_
          refine lv_aload_n hx hb dX10_byRow_51 rfl (lv_at hl 0 rfl) ?_
          refine gC0_1 C w wl_34 dX10_byRow_52 ?_
          refine gC1_8 (v := (q4.2.1 108)) C w rfl wl_417 dX10_byRow_55 ?_
          obtain ⟨q5, hq5, h⟩ := ob_t h
          refine res_v C w (run_V (As := [.int x1, .int x2, .int (q4.2.1 108)]) (rest := []) C w hl.1 (recvC38 C w) (c_X7_follow l D ca ad _ x1 x2 (q4.2.1 108) _ q5 hq5) rfl rfl wl_560 wl_561 wl_562 wl_41 wl_563 hd_X7_follow rfl ⟨Nat.le_of_ble_eq_true rfl, Nat.le_of_ble_eq_true rfl⟩ rfl (Nat.le_of_ble_eq_true rfl) dX10_byRow_58) (fun H locs w => ?_)
          refine lv_iload_n hx hb dX10_byRow_61 rfl (lv_at hl 3 rfl) ?_
          refine lv_if_ne (tgt := 75) hx hb dX10_byRow_62 (by decide) (fun c5 => ?_) (fun c5 => ?_)
          · have h := it_f h c5
            refine lv_aload_n hx hb dX10_byRow_75 rfl (lv_at hl 0 rfl) ?_
            refine gC0_5 C w wl_42 dX10_byRow_76 ?_
            refine gC38_7 (v := (q5.1 3807)) C w rfl wl_546 dX10_byRow_79 ?_
            rw [hQ]
            exact rI (F := CW ca ad) C w h dX10_byRow_82
          · have h := it_t h c5
            refine lv_aload_n hx hb dX10_byRow_65 rfl (lv_at hl 0 rfl) ?_
            refine gC0_5 C w wl_42 dX10_byRow_66 ?_
            refine gC38_8 (v := (q5.1 3808)) C w rfl wl_545 dX10_byRow_69 ?_
            refine lv_goto (tgt := 82) hx hb dX10_byRow_72 (by decide) ?_
            rw [hQ]
            exact rI (F := CW ca ad) C w h dX10_byRow_82
        · have h := it_t h c4
          refine lv_iconst (v := -1) hx hb dX10_byRow_43 (by decide) ?_
          rw [hQ]
          exact rI (F := CW ca ad) C w h dX10_byRow_44
      · have h := it_t h c3
        exact b27 _ h _ _ _ w (lv_sub hl [0] rfl)
theorem hd_X7_joins : yX7_joins.cls = RX7 ∧ yX7_joins.cls ≠ "java/lang/invoke/MethodHandle" ∧ yX7_joins.cls ≠ "java/lang/invoke/VarHandle" ∧ (parseMethodDescriptor yX7_joins.desc).map (fun d => d.parameters.length) = some 3 := by decide +kernel
def f_X7_joins_b73 (K12 : St → Int32 → Int32 → Int32 → Int32 → Option (Int32 × St)) (K31 : St → Int32 → Int32 → Int32 → Int32 → Int32 → Int32 → Option (Int32 × St)) (σ : St) (x2 : Int32) (x3 : Int32) (x4 : Int32) (x5 : Int32) (x6 : Int32) (x7 : Int32) : Option (Int32 × St) := K31 σ x2 x3 x4 x5 x6 (x7 + (1 : Int32))
def f_X7_joins_b31 (K12 : St → Int32 → Int32 → Int32 → Int32 → Option (Int32 × St)) (K31 : St → Int32 → Int32 → Int32 → Int32 → Int32 → Int32 → Option (Int32 × St)) (σ : St) (x2 : Int32) (x3 : Int32) (x4 : Int32) (x5 : Int32) (x6 : Int32) (x7 : Int32) : Option (Int32 × St) := if (σ.1 106) ≤ x7 then (K12 σ x2 x3 x6 (x5 + (1 : Int32))) else (if ((x4 >>> (x7 &&& 31)) &&& (1 : Int32)) = (1 : Int32) then (cond (ckI x7 7) (f_X7_joins_b73 K12 K31 σ x2 x3 x4 x5 (x6 ||| ((σ.2.2 3 x7.toNatClampNeg) &&& (x3 ^^^ (-1 : Int32)))) x7) none) else (f_X7_joins_b73 K12 K31 σ x2 x3 x4 x5 x6 x7))
def f_X7_joins_L31 (K12 : St → Int32 → Int32 → Int32 → Int32 → Option (Int32 × St)) : Nat → St → Int32 → Int32 → Int32 → Int32 → Int32 → Int32 → Option (Int32 × St)
  | 0 => fun _ _ _ _ _ _ _ => none
  | n + 1 => f_X7_joins_b31 K12 (f_X7_joins_L31 K12 n)
def f_X7_joins_b12 (K12 : St → Int32 → Int32 → Int32 → Int32 → Option (Int32 × St)) (σ : St) (x2 : Int32) (x3 : Int32) (x4 : Int32) (x5 : Int32) : Option (Int32 × St) := if (σ.1 106) ≤ x5 then (if ((x4 >>> (x2 &&& 31)) &&& (1 : Int32)) = (1 : Int32) then (some ((1 : Int32), σ)) else (some ((0 : Int32), σ))) else (f_X7_joins_L31 K12 FU σ x2 x3 x4 x5 x4 (0 : Int32))
def f_X7_joins_L12 : Nat → St → Int32 → Int32 → Int32 → Int32 → Option (Int32 × St)
  | 0 => fun _ _ _ _ _ => none
  | n + 1 => f_X7_joins_b12 (f_X7_joins_L12 n)
def f_X7_joins (σ : St) (x1 : Int32) (x2 : Int32) (x3 : Int32) : Option (Int32 × St) := f_X7_joins_L12 FU σ x2 x3 (((1 : Int32) <<< (x1 &&& 31)) &&& (x3 ^^^ (-1 : Int32))) (1 : Int32)
abbrev rm_X7_joins : Room := { frames := 0, cells := 0, slots := 0, locals := 0 }
set_option maxHeartbeats 4000000 in
set_option maxRecDepth 100000 in
theorem c_X7_joins (l : Launch) (D : va_G) (ca : Nat → ClassId) (ad : Nat → Nat) (σ : St) (x1 : Int32) (x2 : Int32) (x3 : Int32) (sz : Nat) (out : Int32 × St) (hf : f_X7_joins σ x1 x2 x3 = some out) : Met l yX7_joins (.code yX7_joins cX7_joins 8 (some .boolean) :: WL) rm_X7_joins (PreC D ca (CW ca ad σ) sz [.ref (ad 38), .int x1, .int x2, .int x3]) (PostI D (va_A (CW ca ad σ) sz) (CW ca ad out.2) out.1) 0 0 (va_A (CW ca ad σ) sz) := by
  refine Met.ofW (cc := cX7_joins) (maxL := 8) (ret := (some .boolean)) (by decide) rfl ?_
  intro p e s m args below meth c s₁ B hml hv
  obtain ⟨rfl, hsz, hP, hK, hD, hN⟩ := hv
  subst hsz
  have C := Cx.mk (own := RX7) B hml rfl hK hN (ws := (CW ca ad σ))
  have w : Wd (va_A (CW ca ad σ) s.heap.size) s D (CW ca ad σ) s.heap [] := ⟨hP, hD.self, va_S.rf⟩
  have hl := lv_entry ([.ref (ad 38), .int x1, .int x2, .int x3]) (n := 8) (Nat.le_of_ble_eq_true rfl)
  rw [lg_entry_eq]
  generalize (lg_sl ([.ref (ad 38), .int x1, .int x2, .int x3]) ++ List.replicate (8 - (lg_sl ([.ref (ad 38), .int x1, .int x2, .int x3])).length) Slot.unset).toArray = ls at hl ⊢
  have hl : lv_has ls 8 [(0, .ref (ad 38)), (1, .int x1), (2, .int x2), (3, .int x3)] := hl
  change W p l e rm_X7_joins s m _ below meth c _ [] 0 0 _ _
  clear B hP hD hK hN hml
  generalize va_A (CW ca ad σ) s.heap.size = A at C w ⊢
  generalize ([.ref (ad 38), .int x1, .int x2, .int x3] : List Value).toArray = av at C ⊢
  obtain ⟨Q, hQ⟩ : ∃ Q, Q = MQ below (PostI D A (CW ca ad out.2) out.1) av s 0 0 A := ⟨_, rfl⟩
  rw [← hQ]
  have hx := C.1
  have hb := C.2.1
  have L12 : ∀ (n12 : Nat) (σ : St) (x2 : Int32) (x3 : Int32) (x4 : Int32) (x5 : Int32), f_X7_joins_L12 n12 σ x2 x3 x4 x5 = some out → Bk p l e rm_X7_joins s m av below meth c A D 8 Q (CW ca ad σ) 12 [(0, .ref (ad 38)), (2, .int x2), (3, .int x3), (4, .int x4), (5, .int x5)] [] := by
    intro n12
    induction n12 with
    | zero => intro σ x2 x3 x4 x5 h; exact absurd h (by simp [f_X7_joins_L12])
    | succ n12 ih12 =>
      have L31 : ∀ (n31 : Nat) (σ : St) (x2 : Int32) (x3 : Int32) (x4 : Int32) (x5 : Int32) (x6 : Int32) (x7 : Int32), f_X7_joins_L31 (f_X7_joins_L12 n12) n31 σ x2 x3 x4 x5 x6 x7 = some out → Bk p l e rm_X7_joins s m av below meth c A D 8 Q (CW ca ad σ) 31 [(0, .ref (ad 38)), (2, .int x2), (3, .int x3), (4, .int x4), (5, .int x5), (6, .int x6), (7, .int x7)] [] := by
        intro n31
        induction n31 with
        | zero => intro σ x2 x3 x4 x5 x6 x7 h; exact absurd h (by simp [f_X7_joins_L31])
        | succ n31 ih31 =>
          have b73 : ∀ (σ : St) (x2 : Int32) (x3 : Int32) (x4 : Int32) (x5 : Int32) (x6 : Int32) (x7 : Int32), f_X7_joins_b73 (f_X7_joins_L12 n12) (f_X7_joins_L31 (f_X7_joins_L12 n12) n31) σ x2 x3 x4 x5 x6 x7 = some out → Bk p l e rm_X7_joins s m av below meth c A D 8 Q (CW ca ad σ) 73 [(0, .ref (ad 38)), (2, .int x2), (3, .int x3), (4, .int x4), (5, .int x5), (6, .int x6), (7, .int x7)] [] := by
            intro σ x2 x3 x4 x5 x6 x7 h H locs ls w hl
            unfold f_X7_joins_b73 at h
            refine lv_iinc (v := (x7 + (1 : Int32))) (lv' := [(7, .int (x7 + (1 : Int32))), (0, .ref (ad 38)), (2, .int x2), (3, .int x3), (4, .int x4), (5, .int x5), (6, .int x6)]) hx hb dX7_joins_73 hl (k := 6) rfl rfl (by decide) rfl (fun ls hl => ?_)
            refine lv_goto (tgt := 31) hx hb dX7_joins_76 (by decide) ?_
            exact ih31 _ _ _ _ _ _ _ h _ _ _ w (lv_sub hl [1, 2, 3, 4, 5, 6, 0] rfl)
          intro σ x2 x3 x4 x5 x6 x7 h H locs ls w hl
          change f_X7_joins_b31 (f_X7_joins_L12 n12) (f_X7_joins_L31 (f_X7_joins_L12 n12) n31) σ x2 x3 x4 x5 x6 x7 = some out at h
          unfold f_X7_joins_b31 at h
          refine lv_iload hx hb dX7_joins_31 (lv_at hl 6 rfl) ?_
          refine lv_aload_n hx hb dX7_joins_33 rfl (lv_at hl 0 rfl) ?_
          refine gC38_0 C w wl_82 dX7_joins_34 ?_
          refine gC1_6 (v := (σ.1 106)) C w rfl wl_552 dX7_joins_37 ?_
          refine lv_icmp_ge (tgt := 79) hx hb dX7_joins_40 (by decide) (fun c1 => ?_) (fun c1 => ?_)
          · have h := it_t h c1
            refine lv_iload hx hb dX7_joins_79 (lv_at hl 5 rfl) ?_
            refine lv_istore (lv' := [(4, .int x6), (0, .ref (ad 38)), (2, .int x2), (3, .int x3), (5, .int x5), (6, .int x6), (7, .int x7)]) hx hb dX7_joins_81 hl (by decide) rfl (fun ls hl => ?_)
            refine lv_iinc (v := (x5 + (1 : Int32))) (lv' := [(5, .int (x5 + (1 : Int32))), (4, .int x6), (0, .ref (ad 38)), (2, .int x2), (3, .int x3), (6, .int x6), (7, .int x7)]) hx hb dX7_joins_83 hl (k := 4) rfl rfl (by decide) rfl (fun ls hl => ?_)
            refine lv_goto (tgt := 12) hx hb dX7_joins_86 (by decide) ?_
            exact ih12 _ _ _ _ _ h _ _ _ w (lv_sub hl [2, 3, 4, 1, 0] rfl)
          · have h := it_f h c1
            refine lv_iload hx hb dX7_joins_43 (lv_at hl 3 rfl) ?_
            refine lv_iload hx hb dX7_joins_45 (lv_at hl 6 rfl) ?_
            refine lv_ishr hx hb dX7_joins_47 ?_
            refine lv_iconst (v := 1) hx hb dX7_joins_48 (by decide) ?_
            refine lv_iand hx hb dX7_joins_49 ?_
            refine lv_iconst (v := 1) hx hb dX7_joins_50 (by decide) ?_
            refine lv_icmp_ne (tgt := 73) hx hb dX7_joins_51 (by decide) (fun c2 => ?_) (fun c2 => ?_)
            · have h := it_f h c2
              exact b73 _ _ _ _ _ _ _ h _ _ _ w (lv_sub hl [0, 1, 2, 3, 4, 5, 6] rfl)
            · have h := it_t h c2
              refine lv_iload hx hb dX7_joins_54 (lv_at hl 5 rfl) ?_
              refine lv_aload_n hx hb dX7_joins_56 rfl (lv_at hl 0 rfl) ?_
              refine gC38_0 C w wl_82 dX7_joins_57 ?_
              refine gC1_1 C w wl_558 dX7_joins_60 ?_
              refine lv_iload hx hb dX7_joins_63 (lv_at hl 6 rfl) ?_
              obtain ⟨i3, h⟩ := ck_t h
              refine ldC3 (v := (σ.2.2 3 x7.toNatClampNeg)) C w i3 rfl dX7_joins_65 ?_
              refine lv_iload_n hx hb dX7_joins_66 rfl (lv_at hl 2 rfl) ?_
              refine lv_iconst (v := -1) hx hb dX7_joins_67 (by decide) ?_
              refine lv_ixor hx hb dX7_joins_68 ?_
              refine lv_iand hx hb dX7_joins_69 ?_
              refine lv_ior hx hb dX7_joins_70 ?_
              refine lv_istore (lv' := [(6, .int (x6 ||| ((σ.2.2 3 x7.toNatClampNeg) &&& (x3 ^^^ (-1 : Int32))))), (0, .ref (ad 38)), (2, .int x2), (3, .int x3), (4, .int x4), (5, .int x5), (7, .int x7)]) hx hb dX7_joins_71 hl (by decide) rfl (fun ls hl => ?_)
              exact b73 _ _ _ _ _ _ _ h _ _ _ w (lv_sub hl [1, 2, 3, 4, 5, 0, 6] rfl)
      intro σ x2 x3 x4 x5 h H locs ls w hl
      change f_X7_joins_b12 (f_X7_joins_L12 n12) σ x2 x3 x4 x5 = some out at h
      unfold f_X7_joins_b12 at h
      refine lv_iload hx hb dX7_joins_12 (lv_at hl 4 rfl) ?_
      refine lv_aload_n hx hb dX7_joins_14 rfl (lv_at hl 0 rfl) ?_
      refine gC38_0 C w wl_82 dX7_joins_15 ?_
      refine gC1_6 (v := (σ.1 106)) C w rfl wl_552 dX7_joins_18 ?_
      refine lv_icmp_ge (tgt := 89) hx hb dX7_joins_21 (by decide) (fun c1 => ?_) (fun c1 => ?_)
      · have h := it_t h c1
        refine lv_iload hx hb dX7_joins_89 (lv_at hl 3 rfl) ?_
        refine lv_iload_n hx hb dX7_joins_91 rfl (lv_at hl 1 rfl) ?_
        refine lv_ishr hx hb dX7_joins_92 ?_
        refine lv_iconst (v := 1) hx hb dX7_joins_93 (by decide) ?_
        refine lv_iand hx hb dX7_joins_94 ?_
        refine lv_iconst (v := 1) hx hb dX7_joins_95 (by decide) ?_
        refine lv_icmp_ne (tgt := 103) hx hb dX7_joins_96 (by decide) (fun c2 => ?_) (fun c2 => ?_)
        · have h := it_f h c2
          refine lv_iconst (v := 0) hx hb dX7_joins_103 (by decide) ?_
          rw [hQ]
          exact rZ (F := CW ca ad) C w (by decide) h dX7_joins_104
        · have h := it_t h c2
          refine lv_iconst (v := 1) hx hb dX7_joins_99 (by decide) ?_
          refine lv_goto (tgt := 104) hx hb dX7_joins_100 (by decide) ?_
          rw [hQ]
          exact rZ (F := CW ca ad) C w (by decide) h dX7_joins_104
      · have h := it_f h c1
        refine lv_iload hx hb dX7_joins_24 (lv_at hl 3 rfl) ?_
        refine lv_istore (lv' := [(6, .int x4), (0, .ref (ad 38)), (2, .int x2), (3, .int x3), (4, .int x4), (5, .int x5)]) hx hb dX7_joins_26 hl (by decide) rfl (fun ls hl => ?_)
        refine lv_iconst (v := 0) hx hb dX7_joins_28 (by decide) ?_
        refine lv_istore (lv' := [(7, .int (0 : Int32)), (6, .int x4), (0, .ref (ad 38)), (2, .int x2), (3, .int x3), (4, .int x4), (5, .int x5)]) hx hb dX7_joins_29 hl (by decide) rfl (fun ls hl => ?_)
        exact L31 FU _ _ _ _ _ _ _ h _ _ _ w (lv_sub hl [2, 3, 4, 5, 6, 1, 0] rfl)
  have h := hf
  unfold f_X7_joins at h
  refine lv_iconst (v := 1) hx hb dX7_joins_0 (by decide) ?_
  refine lv_iload_n hx hb dX7_joins_1 rfl (lv_at hl 1 rfl) ?_
  refine lv_ishl hx hb dX7_joins_2 ?_
  refine lv_iload_n hx hb dX7_joins_3 rfl (lv_at hl 3 rfl) ?_
  refine lv_iconst (v := -1) hx hb dX7_joins_4 (by decide) ?_
  refine lv_ixor hx hb dX7_joins_5 ?_
  refine lv_iand hx hb dX7_joins_6 ?_
  refine lv_istore (lv' := [(4, .int (((1 : Int32) <<< (x1 &&& 31)) &&& (x3 ^^^ (-1 : Int32)))), (0, .ref (ad 38)), (1, .int x1), (2, .int x2), (3, .int x3)]) hx hb dX7_joins_7 hl (by decide) rfl (fun ls hl => ?_)
  refine lv_iconst (v := 1) hx hb dX7_joins_9 (by decide) ?_
  refine lv_istore (lv' := [(5, .int (1 : Int32)), (4, .int (((1 : Int32) <<< (x1 &&& 31)) &&& (x3 ^^^ (-1 : Int32)))), (0, .ref (ad 38)), (1, .int x1), (2, .int x2), (3, .int x3)]) hx hb dX7_joins_10 hl (by decide) rfl (fun ls hl => ?_)
  exact L12 FU _ _ _ _ _ h _ _ _ w (lv_sub hl [2, 4, 5, 1, 0] rfl)
theorem hd_X7_keepIfSooner : yX7_keepIfSooner.cls = RX7 ∧ yX7_keepIfSooner.cls ≠ "java/lang/invoke/MethodHandle" ∧ yX7_keepIfSooner.cls ≠ "java/lang/invoke/VarHandle" ∧ (parseMethodDescriptor yX7_keepIfSooner.desc).map (fun d => d.parameters.length) = some 3 := by decide +kernel
def f_X7_keepIfSooner_b21 (σ : St) (x1 : Int32) (x2 : Int32) (x3 : Int32) (y0 : Int32) : Option (St) := if y0 = 0 then (some σ) else (if (σ.1 3807) ≤ x2 then (some σ) else (some (sI (sI (sI σ 3806 x1) 3807 x2) 3808 x3)))
def f_X7_keepIfSooner_b16 (σ : St) (x1 : Int32) (x2 : Int32) (x3 : Int32) : Option (St) := f_X7_keepIfSooner_b21 σ x1 x2 x3 (1 : Int32)
def f_X7_keepIfSooner (σ : St) (x1 : Int32) (x2 : Int32) (x3 : Int32) : Option (St) := if (σ.1 3805) = (-1 : Int32) then (f_X7_keepIfSooner_b16 σ x1 x2 x3) else (if (σ.1 3805) = x3 then (f_X7_keepIfSooner_b16 σ x1 x2 x3) else (f_X7_keepIfSooner_b21 σ x1 x2 x3 (0 : Int32)))
abbrev rm_X7_keepIfSooner : Room := { frames := 0, cells := 0, slots := 0, locals := 0 }
set_option maxHeartbeats 4000000 in
set_option maxRecDepth 100000 in
theorem c_X7_keepIfSooner (l : Launch) (D : va_G) (ca : Nat → ClassId) (ad : Nat → Nat) (σ : St) (x1 : Int32) (x2 : Int32) (x3 : Int32) (sz : Nat) (out : St) (hf : f_X7_keepIfSooner σ x1 x2 x3 = some out) : Met l yX7_keepIfSooner (.code yX7_keepIfSooner cX7_keepIfSooner 5 none :: WL) rm_X7_keepIfSooner (PreC D ca (CW ca ad σ) sz [.ref (ad 38), .int x1, .int x2, .int x3]) (PostV D (va_A (CW ca ad σ) sz) (CW ca ad out)) 0 0 (va_A (CW ca ad σ) sz) := by
  refine Met.ofW (cc := cX7_keepIfSooner) (maxL := 5) (ret := none) (by decide) rfl ?_
  intro p e s m args below meth c s₁ B hml hv
  obtain ⟨rfl, hsz, hP, hK, hD, hN⟩ := hv
  subst hsz
  have C := Cx.mk (own := RX7) B hml rfl hK hN (ws := (CW ca ad σ))
  have w : Wd (va_A (CW ca ad σ) s.heap.size) s D (CW ca ad σ) s.heap [] := ⟨hP, hD.self, va_S.rf⟩
  have hl := lv_entry ([.ref (ad 38), .int x1, .int x2, .int x3]) (n := 5) (Nat.le_of_ble_eq_true rfl)
  rw [lg_entry_eq]
  generalize (lg_sl ([.ref (ad 38), .int x1, .int x2, .int x3]) ++ List.replicate (5 - (lg_sl ([.ref (ad 38), .int x1, .int x2, .int x3])).length) Slot.unset).toArray = ls at hl ⊢
  have hl : lv_has ls 5 [(0, .ref (ad 38)), (1, .int x1), (2, .int x2), (3, .int x3)] := hl
  change W p l e rm_X7_keepIfSooner s m _ below meth c _ [] 0 0 _ _
  clear B hP hD hK hN hml
  generalize va_A (CW ca ad σ) s.heap.size = A at C w ⊢
  generalize ([.ref (ad 38), .int x1, .int x2, .int x3] : List Value).toArray = av at C ⊢
  obtain ⟨Q, hQ⟩ : ∃ Q, Q = MQ below (PostV D A (CW ca ad out)) av s 0 0 A := ⟨_, rfl⟩
  rw [← hQ]
  have hx := C.1
  have hb := C.2.1
  have b21 : ∀ (σ : St) (x1 : Int32) (x2 : Int32) (x3 : Int32) (y0 : Int32), f_X7_keepIfSooner_b21 σ x1 x2 x3 y0 = some out → Bk p l e rm_X7_keepIfSooner s m av below meth c A D 5 Q (CW ca ad σ) 21 [(0, .ref (ad 38)), (1, .int x1), (2, .int x2), (3, .int x3)] [.int y0] := by
    intro σ x1 x2 x3 y0 h H locs ls w hl
    unfold f_X7_keepIfSooner_b21 at h
    refine lv_istore (lv' := [(4, .int y0), (0, .ref (ad 38)), (1, .int x1), (2, .int x2), (3, .int x3)]) hx hb dX7_keepIfSooner_21 hl (by decide) rfl (fun ls hl => ?_)
    refine lv_iload hx hb dX7_keepIfSooner_23 (lv_at hl 0 rfl) ?_
    refine lv_if_eq (tgt := 51) hx hb dX7_keepIfSooner_25 (by decide) (fun c1 => ?_) (fun c1 => ?_)
    · have h := it_t h c1
      rw [hQ]
      exact rV (F := CW ca ad) C w h dX7_keepIfSooner_51
    · have h := it_f h c1
      refine lv_iload_n hx hb dX7_keepIfSooner_28 rfl (lv_at hl 3 rfl) ?_
      refine lv_aload_n hx hb dX7_keepIfSooner_29 rfl (lv_at hl 1 rfl) ?_
      refine gC38_7 (v := (σ.1 3807)) C w rfl wl_565 dX7_keepIfSooner_30 ?_
      refine lv_icmp_ge (tgt := 51) hx hb dX7_keepIfSooner_33 (by decide) (fun c2 => ?_) (fun c2 => ?_)
      · have h := it_t h c2
        rw [hQ]
        exact rV (F := CW ca ad) C w h dX7_keepIfSooner_51
      · have h := it_f h c2
        refine lv_aload_n hx hb dX7_keepIfSooner_36 rfl (lv_at hl 1 rfl) ?_
        refine lv_iload_n hx hb dX7_keepIfSooner_37 rfl (lv_at hl 2 rfl) ?_
        refine pC38_6 C w wl_564 dX7_keepIfSooner_38 (fun H locs w => ?_)
        refine lv_aload_n hx hb dX7_keepIfSooner_41 rfl (lv_at hl 1 rfl) ?_
        refine lv_iload_n hx hb dX7_keepIfSooner_42 rfl (lv_at hl 3 rfl) ?_
        refine pC38_7 C w wl_565 dX7_keepIfSooner_43 (fun H locs w => ?_)
        refine lv_aload_n hx hb dX7_keepIfSooner_46 rfl (lv_at hl 1 rfl) ?_
        refine lv_iload_n hx hb dX7_keepIfSooner_47 rfl (lv_at hl 4 rfl) ?_
        refine pC38_8 C w wl_566 dX7_keepIfSooner_48 (fun H locs w => ?_)
        rw [hQ]
        exact rV (F := CW ca ad) C w h dX7_keepIfSooner_51
  have b16 : ∀ (σ : St) (x1 : Int32) (x2 : Int32) (x3 : Int32), f_X7_keepIfSooner_b16 σ x1 x2 x3 = some out → Bk p l e rm_X7_keepIfSooner s m av below meth c A D 5 Q (CW ca ad σ) 16 [(0, .ref (ad 38)), (1, .int x1), (2, .int x2), (3, .int x3)] [] := by
    intro σ x1 x2 x3 h H locs ls w hl
    unfold f_X7_keepIfSooner_b16 at h
    refine lv_iconst (v := 1) hx hb dX7_keepIfSooner_16 (by decide) ?_
    refine lv_goto (tgt := 21) hx hb dX7_keepIfSooner_17 (by decide) ?_
    exact b21 _ _ _ _ _ h _ _ _ w (lv_sub hl [0, 1, 2, 3] rfl)
  have h := hf
  unfold f_X7_keepIfSooner at h
  refine lv_aload_n hx hb dX7_keepIfSooner_0 rfl (lv_at hl 0 rfl) ?_
  refine gC38_5 (v := (σ.1 3805)) C w rfl wl_604 dX7_keepIfSooner_1 ?_
  refine lv_iconst (v := -1) hx hb dX7_keepIfSooner_4 (by decide) ?_
  refine lv_icmp_eq (tgt := 16) hx hb dX7_keepIfSooner_5 (by decide) (fun c1 => ?_) (fun c1 => ?_)
  · have h := it_t h c1
    exact b16 _ _ _ _ h _ _ _ w (lv_sub hl [0, 1, 2, 3] rfl)
  · have h := it_f h c1
    refine lv_aload_n hx hb dX7_keepIfSooner_8 rfl (lv_at hl 0 rfl) ?_
    refine gC38_5 (v := (σ.1 3805)) C w rfl wl_604 dX7_keepIfSooner_9 ?_
    refine lv_iload_n hx hb dX7_keepIfSooner_12 rfl (lv_at hl 3 rfl) ?_
    refine lv_icmp_ne (tgt := 20) hx hb dX7_keepIfSooner_13 (by decide) (fun c2 => ?_) (fun c2 => ?_)
    · have h := it_f h c2
      refine lv_iconst (v := 0) hx hb dX7_keepIfSooner_20 (by decide) ?_
      exact b21 _ _ _ _ _ h _ _ _ w (lv_sub hl [0, 1, 2, 3] rfl)
    · have h := it_t h c2
      exact b16 _ _ _ _ h _ _ _ w (lv_sub hl [0, 1, 2, 3] rfl)
theorem hd_X7_enter : yX7_enter.cls = RX7 ∧ yX7_enter.cls ≠ "java/lang/invoke/MethodHandle" ∧ yX7_enter.cls ≠ "java/lang/invoke/VarHandle" ∧ (parseMethodDescriptor yX7_enter.desc).map (fun d => d.parameters.length) = some 5 := by decide +kernel
def f_X7_enter_b168 (REC : St → Int32 → Int32 → Int32 → Int32 → Int32 → Option (St)) (K127 : St → Int32 → Int32 → Int32 → Int32 → Int32 → Int32 → Option (St)) (σ : St) (x2 : Int32) (x8 : Int32) (x9 : Int32) (x10 : Int32) (x11 : Int32) (x12 : Int32) : Option (St) := K127 σ x2 x8 x9 x10 x11 (x12 + (1 : Int32))
def f_X7_enter_b127 (REC : St → Int32 → Int32 → Int32 → Int32 → Int32 → Option (St)) (K127 : St → Int32 → Int32 → Int32 → Int32 → Int32 → Int32 → Option (St)) (σ : St) (x2 : Int32) (x8 : Int32) (x9 : Int32) (x10 : Int32) (x11 : Int32) (x12 : Int32) : Option (St) := if (σ.1 106) ≤ x12 then (some σ) else (if ((x11 >>> (x12 &&& 31)) &&& (1 : Int32)) = (1 : Int32) then ((REC σ x12 (x2 ||| ((1 : Int32) <<< (x12 &&& 31))) x10 x9 x8).bind fun q1 => f_X7_enter_b168 REC K127 q1 x2 x8 x9 x10 x11 x12) else (f_X7_enter_b168 REC K127 σ x2 x8 x9 x10 x11 x12))
def f_X7_enter_L127 (REC : St → Int32 → Int32 → Int32 → Int32 → Int32 → Option (St)) : Nat → St → Int32 → Int32 → Int32 → Int32 → Int32 → Int32 → Option (St)
  | 0 => fun _ _ _ _ _ _ _ => none
  | n + 1 => f_X7_enter_b127 REC (f_X7_enter_L127 REC n)
def f_X7_enter_body (REC : St → Int32 → Int32 → Int32 → Int32 → Int32 → Option (St)) (σ : St) (x1 : Int32) (x2 : Int32) (x3 : Int32) (x4 : Int32) (x5 : Int32) : Option (St) := cond (ckI x1 7) (cond (ckI (σ.2.2 2 x1.toNatClampNeg) 6) ((kcopied (((σ.2.2 2 x1.toNatClampNeg)).toNatClampNeg) x5 ((σ.1 108) + x4)).bind fun q1 => (klasts (((σ.2.2 2 x1.toNatClampNeg)).toNatClampNeg) ((σ.1 108) + x4)).bind fun q2 => if x1 = (σ.1 3804) then ((f_X7_keepIfSooner σ (((x3 * (10 : Int32)) + x1) + (1 : Int32)) (x4 + q2) q1).bind fun q3 => some q3) else (if (σ.1 3807) ≤ ((x4 + q2) + (1 : Int32)) then (some σ) else (if (((x3 * (10 : Int32)) + x1) + (1 : Int32)) < (1000000 : Int32) then (cond (ckI x1 7) (f_X7_enter_L127 REC FU σ x2 q1 (x4 + q2) (((x3 * (10 : Int32)) + x1) + (1 : Int32)) (((σ.2.2 3 x1.toNatClampNeg) &&& ((σ.1 107) ^^^ (-1 : Int32))) &&& (x2 ^^^ (-1 : Int32))) (0 : Int32)) none) else (some σ)))) none) none
def f_X7_enter : Nat → St → Int32 → Int32 → Int32 → Int32 → Int32 → Option (St)
  | 0 => fun _ _ _ _ _ _ => none
  | d + 1 => f_X7_enter_body (f_X7_enter d)
abbrev rm_X7_enter (d : Nat) : Room := { frames := 4 + d, cells := 0, slots := 0, locals := 240 + 60 * d }
set_option maxHeartbeats 4000000 in
set_option maxRecDepth 100000 in
theorem c_X7_enter (d : Nat) : ∀ (l : Launch) (D : va_G) (ca : Nat → ClassId) (ad : Nat → Nat) (σ : St) (x1 : Int32) (x2 : Int32) (x3 : Int32) (x4 : Int32) (x5 : Int32) (sz : Nat) (out : St) (hf : f_X7_enter d σ x1 x2 x3 x4 x5 = some out), Met l yX7_enter (.code yX7_enter cX7_enter 13 none :: WL) (rm_X7_enter d) (PreC D ca (CW ca ad σ) sz [.ref (ad 38), .int x1, .int x2, .int x3, .int x4, .int x5]) (PostV D (va_A (CW ca ad σ) sz) (CW ca ad out)) 0 0 (va_A (CW ca ad σ) sz) := by
  induction d with
  | zero => intro l D ca ad σ x1 x2 x3 x4 x5 sz out hf; exact absurd hf (by simp [f_X7_enter])
  | succ d IHD =>
  intro l D ca ad σ x1 x2 x3 x4 x5 sz out hf
  refine Met.ofW (cc := cX7_enter) (maxL := 13) (ret := none) (by decide) rfl ?_
  intro p e s m args below meth c s₁ B hml hv
  obtain ⟨rfl, hsz, hP, hK, hD, hN⟩ := hv
  subst hsz
  have C := Cx.mk (own := RX7) B hml rfl hK hN (ws := (CW ca ad σ))
  have w : Wd (va_A (CW ca ad σ) s.heap.size) s D (CW ca ad σ) s.heap [] := ⟨hP, hD.self, va_S.rf⟩
  have hl := lv_entry ([.ref (ad 38), .int x1, .int x2, .int x3, .int x4, .int x5]) (n := 13) (Nat.le_of_ble_eq_true rfl)
  rw [lg_entry_eq]
  generalize (lg_sl ([.ref (ad 38), .int x1, .int x2, .int x3, .int x4, .int x5]) ++ List.replicate (13 - (lg_sl ([.ref (ad 38), .int x1, .int x2, .int x3, .int x4, .int x5])).length) Slot.unset).toArray = ls at hl ⊢
  have hl : lv_has ls 13 [(0, .ref (ad 38)), (1, .int x1), (2, .int x2), (3, .int x3), (4, .int x4), (5, .int x5)] := hl
  change W p l e (rm_X7_enter (d + 1)) s m _ below meth c _ [] 0 0 _ _
  clear B hP hD hK hN hml
  generalize va_A (CW ca ad σ) s.heap.size = A at C w ⊢
  generalize ([.ref (ad 38), .int x1, .int x2, .int x3, .int x4, .int x5] : List Value).toArray = av at C ⊢
  obtain ⟨Q, hQ⟩ : ∃ Q, Q = MQ below (PostV D A (CW ca ad out)) av s 0 0 A := ⟨_, rfl⟩
  rw [← hQ]
  have hx := C.1
  have hb := C.2.1
  have L127 : ∀ (n127 : Nat) (σ : St) (x2 : Int32) (x8 : Int32) (x9 : Int32) (x10 : Int32) (x11 : Int32) (x12 : Int32), f_X7_enter_L127 (f_X7_enter d) n127 σ x2 x8 x9 x10 x11 x12 = some out → Bk p l e (rm_X7_enter (d + 1)) s m av below meth c A D 13 Q (CW ca ad σ) 127 [(0, .ref (ad 38)), (2, .int x2), (8, .int x8), (9, .int x9), (10, .int x10), (11, .int x11), (12, .int x12)] [] := by
    intro n127
    induction n127 with
    | zero => intro σ x2 x8 x9 x10 x11 x12 h; exact absurd h (by simp [f_X7_enter_L127])
    | succ n127 ih127 =>
      have b168 : ∀ (σ : St) (x2 : Int32) (x8 : Int32) (x9 : Int32) (x10 : Int32) (x11 : Int32) (x12 : Int32), f_X7_enter_b168 (f_X7_enter d) (f_X7_enter_L127 (f_X7_enter d) n127) σ x2 x8 x9 x10 x11 x12 = some out → Bk p l e (rm_X7_enter (d + 1)) s m av below meth c A D 13 Q (CW ca ad σ) 168 [(0, .ref (ad 38)), (2, .int x2), (8, .int x8), (9, .int x9), (10, .int x10), (11, .int x11), (12, .int x12)] [] := by
        intro σ x2 x8 x9 x10 x11 x12 h H locs ls w hl
        unfold f_X7_enter_b168 at h
        refine lv_iinc (v := (x12 + (1 : Int32))) (lv' := [(12, .int (x12 + (1 : Int32))), (0, .ref (ad 38)), (2, .int x2), (8, .int x8), (9, .int x9), (10, .int x10), (11, .int x11)]) hx hb dX7_enter_168 hl (k := 6) rfl rfl (by decide) rfl (fun ls hl => ?_)
        refine lv_goto (tgt := 127) hx hb dX7_enter_171 (by decide) ?_
        exact ih127 _ _ _ _ _ _ _ h _ _ _ w (lv_sub hl [1, 2, 3, 4, 5, 6, 0] rfl)
      intro σ x2 x8 x9 x10 x11 x12 h H locs ls w hl
      change f_X7_enter_b127 (f_X7_enter d) (f_X7_enter_L127 (f_X7_enter d) n127) σ x2 x8 x9 x10 x11 x12 = some out at h
      unfold f_X7_enter_b127 at h
      refine lv_iload hx hb dX7_enter_127 (lv_at hl 6 rfl) ?_
      refine lv_aload_n hx hb dX7_enter_129 rfl (lv_at hl 0 rfl) ?_
      refine gC38_0 C w wl_82 dX7_enter_130 ?_
      refine gC1_6 (v := (σ.1 106)) C w rfl wl_552 dX7_enter_133 ?_
      refine lv_icmp_ge (tgt := 174) hx hb dX7_enter_136 (by decide) (fun c1 => ?_) (fun c1 => ?_)
      · have h := it_t h c1
        rw [hQ]
        exact rV (F := CW ca ad) C w h dX7_enter_174
      · have h := it_f h c1
        refine lv_iload hx hb dX7_enter_139 (lv_at hl 5 rfl) ?_
        refine lv_iload hx hb dX7_enter_141 (lv_at hl 6 rfl) ?_
        refine lv_ishr hx hb dX7_enter_143 ?_
        refine lv_iconst (v := 1) hx hb dX7_enter_144 (by decide) ?_
        refine lv_iand hx hb dX7_enter_145 ?_
        refine lv_iconst (v := 1) hx hb dX7_enter_146 (by decide) ?_
        refine lv_icmp_ne (tgt := 168) hx hb dX7_enter_147 (by decide) (fun c2 => ?_) (fun c2 => ?_)
        · have h := it_f h c2
          exact b168 _ _ _ _ _ _ _ h _ _ _ w (lv_sub hl [0, 1, 2, 3, 4, 5, 6] rfl)
        · have h := it_t h c2
          refine lv_aload_n hx hb dX7_enter_150 rfl (lv_at hl 0 rfl) ?_
          refine lv_iload hx hb dX7_enter_151 (lv_at hl 6 rfl) ?_
          refine lv_iload_n hx hb dX7_enter_153 rfl (lv_at hl 1 rfl) ?_
          refine lv_iconst (v := 1) hx hb dX7_enter_154 (by decide) ?_
          refine lv_iload hx hb dX7_enter_155 (lv_at hl 6 rfl) ?_
          refine lv_ishl hx hb dX7_enter_157 ?_
          refine lv_ior hx hb dX7_enter_158 ?_
          refine lv_iload hx hb dX7_enter_159 (lv_at hl 4 rfl) ?_
          refine lv_iload hx hb dX7_enter_161 (lv_at hl 3 rfl) ?_
          refine lv_iload hx hb dX7_enter_163 (lv_at hl 2 rfl) ?_
          obtain ⟨q1, hq1, h⟩ := ob_t h
          refine res_v C w (run_V (As := [.int x12, .int (x2 ||| ((1 : Int32) <<< (x12 &&& 31))), .int x10, .int x9, .int x8]) (rest := []) C w hl.1 (recvC38 C w) (IHD l D ca ad _ x12 (x2 ||| ((1 : Int32) <<< (x12 &&& 31))) x10 x9 x8 _ q1 hq1) rfl rfl wl_609 wl_610 wl_611 wl_41 wl_612 hd_X7_enter rfl ⟨Nat.le_refl _, rec_le 13 _ _ (by decide)⟩ rfl (Nat.le_of_ble_eq_true rfl) dX7_enter_165) (fun H locs w => ?_)
          exact b168 _ _ _ _ _ _ _ h _ _ _ w (lv_sub hl [0, 1, 2, 3, 4, 5, 6] rfl)
  have h := hf
  change f_X7_enter_body (f_X7_enter d) σ x1 x2 x3 x4 x5 = some out at h
  unfold f_X7_enter_body at h
  refine lv_aload_n hx hb dX7_enter_0 rfl (lv_at hl 0 rfl) ?_
  refine gC38_1 C w wl_83 dX7_enter_1 ?_
  refine lv_aload_n hx hb dX7_enter_4 rfl (lv_at hl 0 rfl) ?_
  refine gC38_0 C w wl_82 dX7_enter_5 ?_
  refine gC1_0 C w wl_567 dX7_enter_8 ?_
  refine lv_iload_n hx hb dX7_enter_11 rfl (lv_at hl 1 rfl) ?_
  obtain ⟨i1, h⟩ := ck_t h
  refine ldC2 (v := (σ.2.2 2 x1.toNatClampNeg)) C w i1 rfl dX7_enter_12 ?_
  obtain ⟨i2, h⟩ := ck_t h
  refine ldC30 C w i2 dX7_enter_13 ?_
  refine lv_astore (lv' := [(6, .ref (ad (31 + ((σ.2.2 2 x1.toNatClampNeg)).toNatClampNeg))), (0, .ref (ad 38)), (1, .int x1), (2, .int x2), (3, .int x3), (4, .int x4), (5, .int x5)]) hx hb dX7_enter_14 hl (by decide) rfl (fun ls hl => ?_)
  refine lv_aload_n hx hb dX7_enter_16 rfl (lv_at hl 1 rfl) ?_
  refine gC38_0 C w wl_82 dX7_enter_17 ?_
  refine gC1_8 (v := (σ.1 108)) C w rfl wl_613 dX7_enter_20 ?_
  refine lv_iload hx hb dX7_enter_23 (lv_at hl 5 rfl) ?_
  refine lv_iadd hx hb dX7_enter_25 ?_
  refine lv_istore (lv' := [(7, .int ((σ.1 108) + x4)), (6, .ref (ad (31 + ((σ.2.2 2 x1.toNatClampNeg)).toNatClampNeg))), (0, .ref (ad 38)), (1, .int x1), (2, .int x2), (3, .int x3), (4, .int x4), (5, .int x5)]) hx hb dX7_enter_26 hl (by decide) rfl (fun ls hl => ?_)
  refine lv_aload hx hb dX7_enter_28 (lv_at hl 1 rfl) ?_
  refine lv_iload hx hb dX7_enter_30 (lv_at hl 7 rfl) ?_
  refine lv_iload hx hb dX7_enter_32 (lv_at hl 0 rfl) ?_
  obtain ⟨q1, hq1, h⟩ := ob_t h
  refine res_i C w (run_copied (rest := []) C w hl.1 hq1 wl_569 ⟨Nat.le_trans (Nat.le_of_ble_eq_true rfl) (Nat.le_add_right 4 _), Nat.le_trans (Nat.le_of_ble_eq_true rfl) (Nat.le_add_right 240 _)⟩ (Nat.le_of_ble_eq_true rfl) dX7_enter_34) (fun H locs w => ?_)
  refine lv_istore (lv' := [(8, .int q1), (7, .int ((σ.1 108) + x4)), (6, .ref (ad (31 + ((σ.2.2 2 x1.toNatClampNeg)).toNatClampNeg))), (0, .ref (ad 38)), (1, .int x1), (2, .int x2), (3, .int x3), (4, .int x4), (5, .int x5)]) hx hb dX7_enter_37 hl (by decide) rfl (fun ls hl => ?_)
  refine lv_iload hx hb dX7_enter_39 (lv_at hl 7 rfl) ?_
  refine lv_aload hx hb dX7_enter_41 (lv_at hl 2 rfl) ?_
  refine lv_iload hx hb dX7_enter_43 (lv_at hl 1 rfl) ?_
  obtain ⟨q2, hq2, h⟩ := ob_t h
  refine res_i C w (run_lasts (rest := [.int x4]) C w hl.1 hq2 wl_571 ⟨Nat.le_trans (Nat.le_of_ble_eq_true rfl) (Nat.le_add_right 4 _), Nat.le_trans (Nat.le_of_ble_eq_true rfl) (Nat.le_add_right 240 _)⟩ (Nat.le_of_ble_eq_true rfl) dX7_enter_45) (fun H locs w => ?_)
  refine lv_iadd hx hb dX7_enter_48 ?_
  refine lv_istore (lv' := [(9, .int (x4 + q2)), (8, .int q1), (7, .int ((σ.1 108) + x4)), (6, .ref (ad (31 + ((σ.2.2 2 x1.toNatClampNeg)).toNatClampNeg))), (0, .ref (ad 38)), (1, .int x1), (2, .int x2), (3, .int x3), (4, .int x4), (5, .int x5)]) hx hb dX7_enter_49 hl (by decide) rfl (fun ls hl => ?_)
  refine lv_iload_n hx hb dX7_enter_51 rfl (lv_at hl 7 rfl) ?_
  refine lv_bipush (v := 10) hx hb dX7_enter_52 (by decide) ?_
  refine lv_imul hx hb dX7_enter_54 ?_
  refine lv_iload_n hx hb dX7_enter_55 rfl (lv_at hl 5 rfl) ?_
  refine lv_iadd hx hb dX7_enter_56 ?_
  refine lv_iconst (v := 1) hx hb dX7_enter_57 (by decide) ?_
  refine lv_iadd hx hb dX7_enter_58 ?_
  refine lv_istore (lv' := [(10, .int (((x3 * (10 : Int32)) + x1) + (1 : Int32))), (9, .int (x4 + q2)), (8, .int q1), (7, .int ((σ.1 108) + x4)), (6, .ref (ad (31 + ((σ.2.2 2 x1.toNatClampNeg)).toNatClampNeg))), (0, .ref (ad 38)), (1, .int x1), (2, .int x2), (3, .int x3), (4, .int x4), (5, .int x5)]) hx hb dX7_enter_59 hl (by decide) rfl (fun ls hl => ?_)
  refine lv_iload_n hx hb dX7_enter_61 rfl (lv_at hl 6 rfl) ?_
  refine lv_aload_n hx hb dX7_enter_62 rfl (lv_at hl 5 rfl) ?_
  refine gC38_4 (v := (σ.1 3804)) C w rfl wl_603 dX7_enter_63 ?_
  refine lv_icmp_ne (tgt := 80) hx hb dX7_enter_66 (by decide) (fun c3 => ?_) (fun c3 => ?_)
  · have h := it_f h c3
    refine lv_iload hx hb dX7_enter_80 (lv_at hl 1 rfl) ?_
    refine lv_iconst (v := 1) hx hb dX7_enter_82 (by decide) ?_
    refine lv_iadd hx hb dX7_enter_83 ?_
    refine lv_aload_n hx hb dX7_enter_84 rfl (lv_at hl 5 rfl) ?_
    refine gC38_7 (v := (σ.1 3807)) C w rfl wl_565 dX7_enter_85 ?_
    refine lv_icmp_ge (tgt := 98) hx hb dX7_enter_88 (by decide) (fun c4 => ?_) (fun c4 => ?_)
    · have h := it_t h c4
      rw [hQ]
      exact rV (F := CW ca ad) C w h dX7_enter_98
    · have h := it_f h c4
      refine lv_iload hx hb dX7_enter_91 (lv_at hl 0 rfl) ?_
      refine lv_ldc (v := 1000000) hx hb C.ow (C.ts _ wl_557) dX7_enter_93 ?_
      refine lv_icmp_lt (tgt := 99) hx hb dX7_enter_95 (by decide) (fun c5 => ?_) (fun c5 => ?_)
      · have h := it_t h c5
        refine lv_aload_n hx hb dX7_enter_99 rfl (lv_at hl 5 rfl) ?_
        refine gC38_0 C w wl_82 dX7_enter_100 ?_
        refine gC1_1 C w wl_558 dX7_enter_103 ?_
        refine lv_iload_n hx hb dX7_enter_106 rfl (lv_at hl 6 rfl) ?_
        obtain ⟨i6, h⟩ := ck_t h
        refine ldC3 (v := (σ.2.2 3 x1.toNatClampNeg)) C w i6 rfl dX7_enter_107 ?_
        refine lv_aload_n hx hb dX7_enter_108 rfl (lv_at hl 5 rfl) ?_
        refine gC38_0 C w wl_82 dX7_enter_109 ?_
        refine gC1_7 (v := (σ.1 107)) C w rfl wl_559 dX7_enter_112 ?_
        refine lv_iconst (v := -1) hx hb dX7_enter_115 (by decide) ?_
        refine lv_ixor hx hb dX7_enter_116 ?_
        refine lv_iand hx hb dX7_enter_117 ?_
        refine lv_iload_n hx hb dX7_enter_118 rfl (lv_at hl 7 rfl) ?_
        refine lv_iconst (v := -1) hx hb dX7_enter_119 (by decide) ?_
        refine lv_ixor hx hb dX7_enter_120 ?_
        refine lv_iand hx hb dX7_enter_121 ?_
        refine lv_istore (lv' := [(11, .int (((σ.2.2 3 x1.toNatClampNeg) &&& ((σ.1 107) ^^^ (-1 : Int32))) &&& (x2 ^^^ (-1 : Int32)))), (10, .int (((x3 * (10 : Int32)) + x1) + (1 : Int32))), (9, .int (x4 + q2)), (8, .int q1), (7, .int ((σ.1 108) + x4)), (6, .ref (ad (31 + ((σ.2.2 2 x1.toNatClampNeg)).toNatClampNeg))), (0, .ref (ad 38)), (1, .int x1), (2, .int x2), (3, .int x3), (4, .int x4), (5, .int x5)]) hx hb dX7_enter_122 hl (by decide) rfl (fun ls hl => ?_)
        refine lv_iconst (v := 0) hx hb dX7_enter_124 (by decide) ?_
        refine lv_istore (lv' := [(12, .int (0 : Int32)), (11, .int (((σ.2.2 3 x1.toNatClampNeg) &&& ((σ.1 107) ^^^ (-1 : Int32))) &&& (x2 ^^^ (-1 : Int32)))), (10, .int (((x3 * (10 : Int32)) + x1) + (1 : Int32))), (9, .int (x4 + q2)), (8, .int q1), (7, .int ((σ.1 108) + x4)), (6, .ref (ad (31 + ((σ.2.2 2 x1.toNatClampNeg)).toNatClampNeg))), (0, .ref (ad 38)), (1, .int x1), (2, .int x2), (3, .int x3), (4, .int x4), (5, .int x5)]) hx hb dX7_enter_125 hl (by decide) rfl (fun ls hl => ?_)
        exact L127 FU _ _ _ _ _ _ _ h _ _ _ w (lv_sub hl [7, 9, 4, 3, 2, 1, 0] rfl)
      · have h := it_f h c5
        rw [hQ]
        exact rV (F := CW ca ad) C w h dX7_enter_98
  · have h := it_t h c3
    refine lv_aload_n hx hb dX7_enter_69 rfl (lv_at hl 5 rfl) ?_
    refine lv_iload hx hb dX7_enter_70 (lv_at hl 0 rfl) ?_
    refine lv_iload hx hb dX7_enter_72 (lv_at hl 1 rfl) ?_
    refine lv_iload hx hb dX7_enter_74 (lv_at hl 2 rfl) ?_
    obtain ⟨q3, hq3, h⟩ := ob_t h
    refine res_v C w (run_V (As := [.int (((x3 * (10 : Int32)) + x1) + (1 : Int32)), .int (x4 + q2), .int q1]) (rest := []) C w hl.1 (recvC38 C w) (c_X7_keepIfSooner l D ca ad _ (((x3 * (10 : Int32)) + x1) + (1 : Int32)) (x4 + q2) q1 _ q3 hq3) rfl rfl wl_614 wl_615 wl_616 wl_41 wl_617 hd_X7_keepIfSooner rfl ⟨Nat.le_trans (Nat.le_of_ble_eq_true rfl) (Nat.le_add_right 4 _), Nat.le_trans (Nat.le_of_ble_eq_true rfl) (Nat.le_add_right 240 _)⟩ rfl (Nat.le_of_ble_eq_true rfl) dX7_enter_76) (fun H locs w => ?_)
    rw [hQ]
    exact rV (F := CW ca ad) C w h dX7_enter_79
theorem hd_X7_seek : yX7_seek.cls = RX7 ∧ yX7_seek.cls ≠ "java/lang/invoke/MethodHandle" ∧ yX7_seek.cls ≠ "java/lang/invoke/VarHandle" ∧ (parseMethodDescriptor yX7_seek.desc).map (fun d => d.parameters.length) = some 4 := by decide +kernel
def f_X7_seek_b54 (σ : St) : Option (Int32 × St) := if (σ.1 3806) ≤ 0 then (some ((0 : Int32), σ)) else (some ((1 : Int32), σ))
def f_X7_seek (σ : St) (x1 : Int32) (x2 : Int32) (x3 : Int32) (x4 : Int32) : Option (Int32 × St) := (f_X7_joins (sI (sI (sI (sI (sI σ 3806 (0 : Int32)) 3807 (1000000 : Int32)) 3808 x3) 3804 x2) 3805 x4) x1 x2 (σ.1 107)).bind fun q1 => if q1.1 = 0 then (f_X7_seek_b54 q1.2) else ((f_X7_enter 8 q1.2 x1 ((1 : Int32) <<< (x1 &&& 31)) (0 : Int32) (0 : Int32) x3).bind fun q2 => f_X7_seek_b54 q2)
abbrev rm_X7_seek : Room := { frames := 13, cells := 0, slots := 0, locals := 780 }
set_option maxHeartbeats 4000000 in
set_option maxRecDepth 100000 in
theorem c_X7_seek (l : Launch) (D : va_G) (ca : Nat → ClassId) (ad : Nat → Nat) (σ : St) (x1 : Int32) (x2 : Int32) (x3 : Int32) (x4 : Int32) (sz : Nat) (out : Int32 × St) (hf : f_X7_seek σ x1 x2 x3 x4 = some out) : Met l yX7_seek (.code yX7_seek cX7_seek 5 (some .boolean) :: WL) rm_X7_seek (PreC D ca (CW ca ad σ) sz [.ref (ad 38), .int x1, .int x2, .int x3, .int x4]) (PostI D (va_A (CW ca ad σ) sz) (CW ca ad out.2) out.1) 0 0 (va_A (CW ca ad σ) sz) := by
  refine Met.ofW (cc := cX7_seek) (maxL := 5) (ret := (some .boolean)) (by decide) rfl ?_
  intro p e s m args below meth c s₁ B hml hv
  obtain ⟨rfl, hsz, hP, hK, hD, hN⟩ := hv
  subst hsz
  have C := Cx.mk (own := RX7) B hml rfl hK hN (ws := (CW ca ad σ))
  have w : Wd (va_A (CW ca ad σ) s.heap.size) s D (CW ca ad σ) s.heap [] := ⟨hP, hD.self, va_S.rf⟩
  have hl := lv_entry ([.ref (ad 38), .int x1, .int x2, .int x3, .int x4]) (n := 5) (Nat.le_of_ble_eq_true rfl)
  rw [lg_entry_eq]
  generalize (lg_sl ([.ref (ad 38), .int x1, .int x2, .int x3, .int x4]) ++ List.replicate (5 - (lg_sl ([.ref (ad 38), .int x1, .int x2, .int x3, .int x4])).length) Slot.unset).toArray = ls at hl ⊢
  have hl : lv_has ls 5 [(0, .ref (ad 38)), (1, .int x1), (2, .int x2), (3, .int x3), (4, .int x4)] := hl
  change W p l e rm_X7_seek s m _ below meth c _ [] 0 0 _ _
  clear B hP hD hK hN hml
  generalize va_A (CW ca ad σ) s.heap.size = A at C w ⊢
  generalize ([.ref (ad 38), .int x1, .int x2, .int x3, .int x4] : List Value).toArray = av at C ⊢
  obtain ⟨Q, hQ⟩ : ∃ Q, Q = MQ below (PostI D A (CW ca ad out.2) out.1) av s 0 0 A := ⟨_, rfl⟩
  rw [← hQ]
  have hx := C.1
  have hb := C.2.1
  have b54 : ∀ (σ : St), f_X7_seek_b54 σ = some out → Bk p l e rm_X7_seek s m av below meth c A D 5 Q (CW ca ad σ) 54 [(0, .ref (ad 38))] [] := by
    intro σ h H locs ls w hl
    unfold f_X7_seek_b54 at h
    refine lv_aload_n hx hb dX7_seek_54 rfl (lv_at hl 0 rfl) ?_
    refine gC38_6 (v := (σ.1 3806)) C w rfl wl_564 dX7_seek_55 ?_
    refine lv_if_le (tgt := 65) hx hb dX7_seek_58 (by decide) (fun c1 => ?_) (fun c1 => ?_)
    · have h := it_t h c1
      refine lv_iconst (v := 0) hx hb dX7_seek_65 (by decide) ?_
      rw [hQ]
      exact rZ (F := CW ca ad) C w (by decide) h dX7_seek_66
    · have h := it_f h c1
      refine lv_iconst (v := 1) hx hb dX7_seek_61 (by decide) ?_
      refine lv_goto (tgt := 66) hx hb dX7_seek_62 (by decide) ?_
      rw [hQ]
      exact rZ (F := CW ca ad) C w (by decide) h dX7_seek_66
  have h := hf
  unfold f_X7_seek at h
  refine lv_aload_n hx hb dX7_seek_0 rfl (lv_at hl 0 rfl) ?_
  refine lv_iconst (v := 0) hx hb dX7_seek_1 (by decide) ?_
  refine pC38_6 C w wl_564 dX7_seek_2 (fun H locs w => ?_)
  refine lv_aload_n hx hb dX7_seek_5 rfl (lv_at hl 0 rfl) ?_
  refine lv_ldc (v := 1000000) hx hb C.ow (C.ts _ wl_557) dX7_seek_6 ?_
  refine pC38_7 C w wl_565 dX7_seek_8 (fun H locs w => ?_)
  refine lv_aload_n hx hb dX7_seek_11 rfl (lv_at hl 0 rfl) ?_
  refine lv_iload_n hx hb dX7_seek_12 rfl (lv_at hl 3 rfl) ?_
  refine pC38_8 C w wl_566 dX7_seek_13 (fun H locs w => ?_)
  refine lv_aload_n hx hb dX7_seek_16 rfl (lv_at hl 0 rfl) ?_
  refine lv_iload_n hx hb dX7_seek_17 rfl (lv_at hl 2 rfl) ?_
  refine pC38_4 C w wl_603 dX7_seek_18 (fun H locs w => ?_)
  refine lv_aload_n hx hb dX7_seek_21 rfl (lv_at hl 0 rfl) ?_
  refine lv_iload hx hb dX7_seek_22 (lv_at hl 4 rfl) ?_
  refine pC38_5 C w wl_604 dX7_seek_24 (fun H locs w => ?_)
  refine lv_aload_n hx hb dX7_seek_27 rfl (lv_at hl 0 rfl) ?_
  refine lv_iload_n hx hb dX7_seek_28 rfl (lv_at hl 1 rfl) ?_
  refine lv_iload_n hx hb dX7_seek_29 rfl (lv_at hl 2 rfl) ?_
  refine lv_aload_n hx hb dX7_seek_30 rfl (lv_at hl 0 rfl) ?_
  refine gC38_0 C w wl_82 dX7_seek_31 ?_
  refine gC1_7 (v := (σ.1 107)) C w rfl wl_559 dX7_seek_34 ?_
  obtain ⟨q1, hq1, h⟩ := ob_t h
  refine res_i C w (run_V (As := [.int x1, .int x2, .int (σ.1 107)]) (rest := []) C w hl.1 (recvC38 C w) (c_X7_joins l D ca ad _ x1 x2 (σ.1 107) _ q1 hq1) rfl rfl wl_605 wl_606 wl_607 wl_41 wl_608 hd_X7_joins rfl ⟨Nat.le_of_ble_eq_true rfl, Nat.le_of_ble_eq_true rfl⟩ rfl (Nat.le_of_ble_eq_true rfl) dX7_seek_37) (fun H locs w => ?_)
  refine lv_if_eq (tgt := 54) hx hb dX7_seek_40 (by decide) (fun c1 => ?_) (fun c1 => ?_)
  · have h := it_t h c1
    exact b54 _ h _ _ _ w (lv_sub hl [0] rfl)
  · have h := it_f h c1
    refine lv_aload_n hx hb dX7_seek_43 rfl (lv_at hl 0 rfl) ?_
    refine lv_iload_n hx hb dX7_seek_44 rfl (lv_at hl 1 rfl) ?_
    refine lv_iconst (v := 1) hx hb dX7_seek_45 (by decide) ?_
    refine lv_iload_n hx hb dX7_seek_46 rfl (lv_at hl 1 rfl) ?_
    refine lv_ishl hx hb dX7_seek_47 ?_
    refine lv_iconst (v := 0) hx hb dX7_seek_48 (by decide) ?_
    refine lv_iconst (v := 0) hx hb dX7_seek_49 (by decide) ?_
    refine lv_iload_n hx hb dX7_seek_50 rfl (lv_at hl 3 rfl) ?_
    obtain ⟨q2, hq2, h⟩ := ob_t h
    refine res_v C w (run_V (As := [.int x1, .int ((1 : Int32) <<< (x1 &&& 31)), .int (0 : Int32), .int (0 : Int32), .int x3]) (rest := []) C w hl.1 (recvC38 C w) (c_X7_enter 8 l D ca ad _ x1 ((1 : Int32) <<< (x1 &&& 31)) (0 : Int32) (0 : Int32) x3 _ q2 hq2) rfl rfl wl_609 wl_610 wl_611 wl_41 wl_612 hd_X7_enter rfl ⟨Nat.le_of_ble_eq_true rfl, Nat.le_of_ble_eq_true rfl⟩ rfl (Nat.le_of_ble_eq_true rfl) dX7_seek_51) (fun H locs w => ?_)
    exact b54 _ h _ _ _ w (lv_sub hl [0] rfl)
theorem hd_X10_soonest : yX10_soonest.cls = RX10 ∧ yX10_soonest.cls ≠ "java/lang/invoke/MethodHandle" ∧ yX10_soonest.cls ≠ "java/lang/invoke/VarHandle" ∧ (parseMethodDescriptor yX10_soonest.desc).map (fun d => d.parameters.length) = some 4 := by decide +kernel
def f_X10_soonest_b33 (σ : St) : Option (Int32 × St) := (f_X10_refuseAsBad σ).bind fun q1 => some (q1.1, q1.2)
def f_X10_soonest (σ : St) (x1 : Int32) (x2 : Int32) (x3 : Int32) (x4 : Int32) : Option (Int32 × St) := (f_X10_isTree σ x1).bind fun q1 => if q1.1 = 0 then (f_X10_soonest_b33 q1.2) else ((f_X10_isTree q1.2 x2).bind fun q2 => if q2.1 = 0 then (f_X10_soonest_b33 q2.2) else ((f_X3_isLetter x3).bind fun q3 => if q3 = 0 then (f_X10_soonest_b33 q2.2) else ((f_X10_within x4 (0 : Int32) (2 : Int32)).bind fun q4 => if q4 = 0 then (f_X10_soonest_b33 q2.2) else ((f_X7_seek q2.2 x1 x2 x3 (-1 : Int32)).bind fun q5 => if q5.1 = 0 then (some ((-1 : Int32), q5.2)) else (if x4 = 0 then (some ((q5.2.1 3806), q5.2)) else (if x4 = (1 : Int32) then (some ((q5.2.1 3807), q5.2)) else (some ((q5.2.1 3808), q5.2))))))))
abbrev rm_X10_soonest : Room := { frames := 14, cells := 0, slots := 0, locals := 840 }
set_option maxHeartbeats 4000000 in
set_option maxRecDepth 100000 in
theorem c_X10_soonest (l : Launch) (D : va_G) (ca : Nat → ClassId) (ad : Nat → Nat) (σ : St) (x1 : Int32) (x2 : Int32) (x3 : Int32) (x4 : Int32) (sz : Nat) (out : Int32 × St) (hf : f_X10_soonest σ x1 x2 x3 x4 = some out) : Met l yX10_soonest (.code yX10_soonest cX10_soonest 5 (some .int) :: WL) rm_X10_soonest (PreC D ca (CW ca ad σ) sz [.ref (ad 0), .int x1, .int x2, .int x3, .int x4]) (PostI D (va_A (CW ca ad σ) sz) (CW ca ad out.2) out.1) 0 0 (va_A (CW ca ad σ) sz) := by
  refine Met.ofW (cc := cX10_soonest) (maxL := 5) (ret := (some .int)) (by decide) rfl ?_
  intro p e s m args below meth c s₁ B hml hv
  obtain ⟨rfl, hsz, hP, hK, hD, hN⟩ := hv
  subst hsz
  have C := Cx.mk (own := RX10) B hml rfl hK hN (ws := (CW ca ad σ))
  have w : Wd (va_A (CW ca ad σ) s.heap.size) s D (CW ca ad σ) s.heap [] := ⟨hP, hD.self, va_S.rf⟩
  have hl := lv_entry ([.ref (ad 0), .int x1, .int x2, .int x3, .int x4]) (n := 5) (Nat.le_of_ble_eq_true rfl)
  rw [lg_entry_eq]
  generalize (lg_sl ([.ref (ad 0), .int x1, .int x2, .int x3, .int x4]) ++ List.replicate (5 - (lg_sl ([.ref (ad 0), .int x1, .int x2, .int x3, .int x4])).length) Slot.unset).toArray = ls at hl ⊢
  have hl : lv_has ls 5 [(0, .ref (ad 0)), (1, .int x1), (2, .int x2), (3, .int x3), (4, .int x4)] := hl
  change W p l e rm_X10_soonest s m _ below meth c _ [] 0 0 _ _
  clear B hP hD hK hN hml
  generalize va_A (CW ca ad σ) s.heap.size = A at C w ⊢
  generalize ([.ref (ad 0), .int x1, .int x2, .int x3, .int x4] : List Value).toArray = av at C ⊢
  obtain ⟨Q, hQ⟩ : ∃ Q, Q = MQ below (PostI D A (CW ca ad out.2) out.1) av s 0 0 A := ⟨_, rfl⟩
  rw [← hQ]
  have hx := C.1
  have hb := C.2.1
  have b33 : ∀ (σ : St), f_X10_soonest_b33 σ = some out → Bk p l e rm_X10_soonest s m av below meth c A D 5 Q (CW ca ad σ) 33 [(0, .ref (ad 0))] [] := by
    intro σ h H locs ls w hl
    unfold f_X10_soonest_b33 at h
    refine lv_aload_n hx hb dX10_soonest_33 rfl (lv_at hl 0 rfl) ?_
    obtain ⟨q1, hq1, h⟩ := ob_t h
    refine res_i C w (run_V (As := []) (rest := []) C w hl.1 (recvC0 C w) (c_X10_refuseAsBad l D ca ad _  _ q1 hq1) rfl rfl wl_117 wl_118 wl_119 wl_2 wl_120 hd_X10_refuseAsBad rfl ⟨Nat.le_of_ble_eq_true rfl, Nat.le_of_ble_eq_true rfl⟩ rfl (Nat.le_of_ble_eq_true rfl) dX10_soonest_34) (fun H locs w => ?_)
    rw [hQ]
    exact rI (F := CW ca ad) C w h dX10_soonest_37
  have h := hf
  unfold f_X10_soonest at h
  refine lv_aload_n hx hb dX10_soonest_0 rfl (lv_at hl 0 rfl) ?_
  refine lv_iload_n hx hb dX10_soonest_1 rfl (lv_at hl 1 rfl) ?_
  obtain ⟨q1, hq1, h⟩ := ob_t h
  refine res_i C w (run_V (As := [.int x1]) (rest := []) C w hl.1 (recvC0 C w) (c_X10_isTree l D ca ad _ x1 _ q1 hq1) rfl rfl wl_176 wl_177 wl_178 wl_2 wl_179 hd_X10_isTree rfl ⟨Nat.le_of_ble_eq_true rfl, Nat.le_of_ble_eq_true rfl⟩ rfl (Nat.le_of_ble_eq_true rfl) dX10_soonest_2) (fun H locs w => ?_)
  refine lv_if_eq (tgt := 33) hx hb dX10_soonest_5 (by decide) (fun c1 => ?_) (fun c1 => ?_)
  · have h := it_t h c1
    exact b33 _ h _ _ _ w (lv_sub hl [0] rfl)
  · have h := it_f h c1
    refine lv_aload_n hx hb dX10_soonest_8 rfl (lv_at hl 0 rfl) ?_
    refine lv_iload_n hx hb dX10_soonest_9 rfl (lv_at hl 2 rfl) ?_
    obtain ⟨q2, hq2, h⟩ := ob_t h
    refine res_i C w (run_V (As := [.int x2]) (rest := []) C w hl.1 (recvC0 C w) (c_X10_isTree l D ca ad _ x2 _ q2 hq2) rfl rfl wl_176 wl_177 wl_178 wl_2 wl_179 hd_X10_isTree rfl ⟨Nat.le_of_ble_eq_true rfl, Nat.le_of_ble_eq_true rfl⟩ rfl (Nat.le_of_ble_eq_true rfl) dX10_soonest_10) (fun H locs w => ?_)
    refine lv_if_eq (tgt := 33) hx hb dX10_soonest_13 (by decide) (fun c2 => ?_) (fun c2 => ?_)
    · have h := it_t h c2
      exact b33 _ h _ _ _ w (lv_sub hl [0] rfl)
    · have h := it_f h c2
      refine lv_iload_n hx hb dX10_soonest_16 rfl (lv_at hl 3 rfl) ?_
      obtain ⟨q3, hq3, h⟩ := ob_t h
      refine res_i C w (run_S (As := [.int x3]) (rest := []) C w hl.1 (c_X3_isLetter l D ca _ x3 _ q3 hq3) rfl rfl wl_459 wl_460 wl_461 wl_462 hd_X3_isLetter rfl ⟨Nat.le_of_ble_eq_true rfl, Nat.le_of_ble_eq_true rfl⟩ rfl (Nat.le_of_ble_eq_true rfl) dX10_soonest_17) (fun H locs w => ?_)
      refine lv_if_eq (tgt := 33) hx hb dX10_soonest_20 (by decide) (fun c3 => ?_) (fun c3 => ?_)
      · have h := it_t h c3
        exact b33 _ h _ _ _ w (lv_sub hl [0] rfl)
      · have h := it_f h c3
        refine lv_iload hx hb dX10_soonest_23 (lv_at hl 4 rfl) ?_
        refine lv_iconst (v := 0) hx hb dX10_soonest_25 (by decide) ?_
        refine lv_iconst (v := 2) hx hb dX10_soonest_26 (by decide) ?_
        obtain ⟨q4, hq4, h⟩ := ob_t h
        refine res_i C w (run_S (As := [.int x4, .int (0 : Int32), .int (2 : Int32)]) (rest := []) C w hl.1 (c_X10_within l D ca _ x4 (0 : Int32) (2 : Int32) _ q4 hq4) rfl rfl wl_114 wl_115 wl_2 wl_116 hd_X10_within rfl ⟨Nat.le_of_ble_eq_true rfl, Nat.le_of_ble_eq_true rfl⟩ rfl (Nat.le_of_ble_eq_true rfl) dX10_soonest_27) (fun H locs w => ?_)
        refine lv_if_ne (tgt := 38) hx hb dX10_soonest_30 (by decide) (fun c4 => ?_) (fun c4 => ?_)
        · have h := it_f h c4
          refine lv_aload_n hx hb dX10_soonest_38 rfl (lv_at hl 0 rfl) ?_
          refine gC0_5 C w wl_42 dX10_soonest_39 ?_
          refine lv_iload_n hx hb dX10_soonest_42 rfl (lv_at hl 1 rfl) ?_
          refine lv_iload_n hx hb dX10_soonest_43 rfl (lv_at hl 2 rfl) ?_
          refine lv_iload_n hx hb dX10_soonest_44 rfl (lv_at hl 3 rfl) ?_
          refine lv_iconst (v := -1) hx hb dX10_soonest_45 (by decide) ?_
          obtain ⟨q5, hq5, h⟩ := ob_t h
          refine res_i C w (run_V (As := [.int x1, .int x2, .int x3, .int (-1 : Int32)]) (rest := []) C w hl.1 (recvC38 C w) (c_X7_seek l D ca ad _ x1 x2 x3 (-1 : Int32) _ q5 hq5) rfl rfl wl_599 wl_600 wl_601 wl_41 wl_602 hd_X7_seek rfl ⟨Nat.le_of_ble_eq_true rfl, Nat.le_of_ble_eq_true rfl⟩ rfl (Nat.le_of_ble_eq_true rfl) dX10_soonest_46) (fun H locs w => ?_)
          refine lv_if_ne (tgt := 54) hx hb dX10_soonest_49 (by decide) (fun c5 => ?_) (fun c5 => ?_)
          · have h := it_f h c5
            refine lv_iload hx hb dX10_soonest_54 (lv_at hl 4 rfl) ?_
            refine lv_if_ne (tgt := 67) hx hb dX10_soonest_56 (by decide) (fun c6 => ?_) (fun c6 => ?_)
            · have h := it_f h c6
              refine lv_iload hx hb dX10_soonest_67 (lv_at hl 4 rfl) ?_
              refine lv_iconst (v := 1) hx hb dX10_soonest_69 (by decide) ?_
              refine lv_icmp_ne (tgt := 83) hx hb dX10_soonest_70 (by decide) (fun c7 => ?_) (fun c7 => ?_)
              · have h := it_f h c7
                refine lv_aload_n hx hb dX10_soonest_83 rfl (lv_at hl 0 rfl) ?_
                refine gC0_5 C w wl_42 dX10_soonest_84 ?_
                refine gC38_8 (v := (q5.2.1 3808)) C w rfl wl_545 dX10_soonest_87 ?_
                rw [hQ]
                exact rI (F := CW ca ad) C w h dX10_soonest_90
              · have h := it_t h c7
                refine lv_aload_n hx hb dX10_soonest_73 rfl (lv_at hl 0 rfl) ?_
                refine gC0_5 C w wl_42 dX10_soonest_74 ?_
                refine gC38_7 (v := (q5.2.1 3807)) C w rfl wl_546 dX10_soonest_77 ?_
                refine lv_goto (tgt := 90) hx hb dX10_soonest_80 (by decide) ?_
                rw [hQ]
                exact rI (F := CW ca ad) C w h dX10_soonest_90
            · have h := it_t h c6
              refine lv_aload_n hx hb dX10_soonest_59 rfl (lv_at hl 0 rfl) ?_
              refine gC0_5 C w wl_42 dX10_soonest_60 ?_
              refine gC38_6 (v := (q5.2.1 3806)) C w rfl wl_598 dX10_soonest_63 ?_
              rw [hQ]
              exact rI (F := CW ca ad) C w h dX10_soonest_66
          · have h := it_t h c5
            refine lv_iconst (v := -1) hx hb dX10_soonest_52 (by decide) ?_
            rw [hQ]
            exact rI (F := CW ca ad) C w h dX10_soonest_53
        · have h := it_t h c4
          exact b33 _ h _ _ _ w (lv_sub hl [0] rfl)
theorem hd_X10_whole : yX10_whole.cls = RX10 ∧ yX10_whole.cls ≠ "java/lang/invoke/MethodHandle" ∧ yX10_whole.cls ≠ "java/lang/invoke/VarHandle" ∧ (parseMethodDescriptor yX10_whole.desc).map (fun d => d.parameters.length) = some 4 := by decide +kernel
def f_X10_whole_b33 (σ : St) : Option (Int32 × St) := (f_X10_refuseAsBad σ).bind fun q1 => some (q1.1, q1.2)
def f_X10_whole (σ : St) (x1 : Int32) (x2 : Int32) (x3 : Int32) (x4 : Int32) : Option (Int32 × St) := (f_X10_isTree σ x1).bind fun q1 => if q1.1 = 0 then (f_X10_whole_b33 q1.2) else ((f_X10_isTree q1.2 x2).bind fun q2 => if q2.1 = 0 then (f_X10_whole_b33 q2.2) else ((f_X3_isLetter x3).bind fun q3 => if q3 = 0 then (f_X10_whole_b33 q2.2) else ((f_X10_within x4 (0 : Int32) (1 : Int32)).bind fun q4 => if q4 = 0 then (f_X10_whole_b33 q2.2) else ((f_X7_seek q2.2 x1 x2 x3 x3).bind fun q5 => if q5.1 = 0 then (some ((-1 : Int32), q5.2)) else (if x4 = 0 then (some ((q5.2.1 3806), q5.2)) else (some ((q5.2.1 3807), q5.2)))))))
abbrev rm_X10_whole : Room := { frames := 14, cells := 0, slots := 0, locals := 840 }
set_option maxHeartbeats 4000000 in
set_option maxRecDepth 100000 in
theorem c_X10_whole (l : Launch) (D : va_G) (ca : Nat → ClassId) (ad : Nat → Nat) (σ : St) (x1 : Int32) (x2 : Int32) (x3 : Int32) (x4 : Int32) (sz : Nat) (out : Int32 × St) (hf : f_X10_whole σ x1 x2 x3 x4 = some out) : Met l yX10_whole (.code yX10_whole cX10_whole 5 (some .int) :: WL) rm_X10_whole (PreC D ca (CW ca ad σ) sz [.ref (ad 0), .int x1, .int x2, .int x3, .int x4]) (PostI D (va_A (CW ca ad σ) sz) (CW ca ad out.2) out.1) 0 0 (va_A (CW ca ad σ) sz) := by
  refine Met.ofW (cc := cX10_whole) (maxL := 5) (ret := (some .int)) (by decide) rfl ?_
  intro p e s m args below meth c s₁ B hml hv
  obtain ⟨rfl, hsz, hP, hK, hD, hN⟩ := hv
  subst hsz
  have C := Cx.mk (own := RX10) B hml rfl hK hN (ws := (CW ca ad σ))
  have w : Wd (va_A (CW ca ad σ) s.heap.size) s D (CW ca ad σ) s.heap [] := ⟨hP, hD.self, va_S.rf⟩
  have hl := lv_entry ([.ref (ad 0), .int x1, .int x2, .int x3, .int x4]) (n := 5) (Nat.le_of_ble_eq_true rfl)
  rw [lg_entry_eq]
  generalize (lg_sl ([.ref (ad 0), .int x1, .int x2, .int x3, .int x4]) ++ List.replicate (5 - (lg_sl ([.ref (ad 0), .int x1, .int x2, .int x3, .int x4])).length) Slot.unset).toArray = ls at hl ⊢
  have hl : lv_has ls 5 [(0, .ref (ad 0)), (1, .int x1), (2, .int x2), (3, .int x3), (4, .int x4)] := hl
  change W p l e rm_X10_whole s m _ below meth c _ [] 0 0 _ _
  clear B hP hD hK hN hml
  generalize va_A (CW ca ad σ) s.heap.size = A at C w ⊢
  generalize ([.ref (ad 0), .int x1, .int x2, .int x3, .int x4] : List Value).toArray = av at C ⊢
  obtain ⟨Q, hQ⟩ : ∃ Q, Q = MQ below (PostI D A (CW ca ad out.2) out.1) av s 0 0 A := ⟨_, rfl⟩
  rw [← hQ]
  have hx := C.1
  have hb := C.2.1
  have b33 : ∀ (σ : St), f_X10_whole_b33 σ = some out → Bk p l e rm_X10_whole s m av below meth c A D 5 Q (CW ca ad σ) 33 [(0, .ref (ad 0))] [] := by
    intro σ h H locs ls w hl
    unfold f_X10_whole_b33 at h
    refine lv_aload_n hx hb dX10_whole_33 rfl (lv_at hl 0 rfl) ?_
    obtain ⟨q1, hq1, h⟩ := ob_t h
    refine res_i C w (run_V (As := []) (rest := []) C w hl.1 (recvC0 C w) (c_X10_refuseAsBad l D ca ad _  _ q1 hq1) rfl rfl wl_117 wl_118 wl_119 wl_2 wl_120 hd_X10_refuseAsBad rfl ⟨Nat.le_of_ble_eq_true rfl, Nat.le_of_ble_eq_true rfl⟩ rfl (Nat.le_of_ble_eq_true rfl) dX10_whole_34) (fun H locs w => ?_)
    rw [hQ]
    exact rI (F := CW ca ad) C w h dX10_whole_37
  have h := hf
  unfold f_X10_whole at h
  refine lv_aload_n hx hb dX10_whole_0 rfl (lv_at hl 0 rfl) ?_
  refine lv_iload_n hx hb dX10_whole_1 rfl (lv_at hl 1 rfl) ?_
  obtain ⟨q1, hq1, h⟩ := ob_t h
  refine res_i C w (run_V (As := [.int x1]) (rest := []) C w hl.1 (recvC0 C w) (c_X10_isTree l D ca ad _ x1 _ q1 hq1) rfl rfl wl_176 wl_177 wl_178 wl_2 wl_179 hd_X10_isTree rfl ⟨Nat.le_of_ble_eq_true rfl, Nat.le_of_ble_eq_true rfl⟩ rfl (Nat.le_of_ble_eq_true rfl) dX10_whole_2) (fun H locs w => ?_)
  refine lv_if_eq (tgt := 33) hx hb dX10_whole_5 (by decide) (fun c1 => ?_) (fun c1 => ?_)
  · have h := it_t h c1
    exact b33 _ h _ _ _ w (lv_sub hl [0] rfl)
  · have h := it_f h c1
    refine lv_aload_n hx hb dX10_whole_8 rfl (lv_at hl 0 rfl) ?_
    refine lv_iload_n hx hb dX10_whole_9 rfl (lv_at hl 2 rfl) ?_
    obtain ⟨q2, hq2, h⟩ := ob_t h
    refine res_i C w (run_V (As := [.int x2]) (rest := []) C w hl.1 (recvC0 C w) (c_X10_isTree l D ca ad _ x2 _ q2 hq2) rfl rfl wl_176 wl_177 wl_178 wl_2 wl_179 hd_X10_isTree rfl ⟨Nat.le_of_ble_eq_true rfl, Nat.le_of_ble_eq_true rfl⟩ rfl (Nat.le_of_ble_eq_true rfl) dX10_whole_10) (fun H locs w => ?_)
    refine lv_if_eq (tgt := 33) hx hb dX10_whole_13 (by decide) (fun c2 => ?_) (fun c2 => ?_)
    · have h := it_t h c2
      exact b33 _ h _ _ _ w (lv_sub hl [0] rfl)
    · have h := it_f h c2
      refine lv_iload_n hx hb dX10_whole_16 rfl (lv_at hl 3 rfl) ?_
      obtain ⟨q3, hq3, h⟩ := ob_t h
      refine res_i C w (run_S (As := [.int x3]) (rest := []) C w hl.1 (c_X3_isLetter l D ca _ x3 _ q3 hq3) rfl rfl wl_459 wl_460 wl_461 wl_462 hd_X3_isLetter rfl ⟨Nat.le_of_ble_eq_true rfl, Nat.le_of_ble_eq_true rfl⟩ rfl (Nat.le_of_ble_eq_true rfl) dX10_whole_17) (fun H locs w => ?_)
      refine lv_if_eq (tgt := 33) hx hb dX10_whole_20 (by decide) (fun c3 => ?_) (fun c3 => ?_)
      · have h := it_t h c3
        exact b33 _ h _ _ _ w (lv_sub hl [0] rfl)
      · have h := it_f h c3
        refine lv_iload hx hb dX10_whole_23 (lv_at hl 4 rfl) ?_
        refine lv_iconst (v := 0) hx hb dX10_whole_25 (by decide) ?_
        refine lv_iconst (v := 1) hx hb dX10_whole_26 (by decide) ?_
        obtain ⟨q4, hq4, h⟩ := ob_t h
        refine res_i C w (run_S (As := [.int x4, .int (0 : Int32), .int (1 : Int32)]) (rest := []) C w hl.1 (c_X10_within l D ca _ x4 (0 : Int32) (1 : Int32) _ q4 hq4) rfl rfl wl_114 wl_115 wl_2 wl_116 hd_X10_within rfl ⟨Nat.le_of_ble_eq_true rfl, Nat.le_of_ble_eq_true rfl⟩ rfl (Nat.le_of_ble_eq_true rfl) dX10_whole_27) (fun H locs w => ?_)
        refine lv_if_ne (tgt := 38) hx hb dX10_whole_30 (by decide) (fun c4 => ?_) (fun c4 => ?_)
        · have h := it_f h c4
          refine lv_aload_n hx hb dX10_whole_38 rfl (lv_at hl 0 rfl) ?_
          refine gC0_5 C w wl_42 dX10_whole_39 ?_
          refine lv_iload_n hx hb dX10_whole_42 rfl (lv_at hl 1 rfl) ?_
          refine lv_iload_n hx hb dX10_whole_43 rfl (lv_at hl 2 rfl) ?_
          refine lv_iload_n hx hb dX10_whole_44 rfl (lv_at hl 3 rfl) ?_
          refine lv_iload_n hx hb dX10_whole_45 rfl (lv_at hl 3 rfl) ?_
          obtain ⟨q5, hq5, h⟩ := ob_t h
          refine res_i C w (run_V (As := [.int x1, .int x2, .int x3, .int x3]) (rest := []) C w hl.1 (recvC38 C w) (c_X7_seek l D ca ad _ x1 x2 x3 x3 _ q5 hq5) rfl rfl wl_599 wl_600 wl_601 wl_41 wl_602 hd_X7_seek rfl ⟨Nat.le_of_ble_eq_true rfl, Nat.le_of_ble_eq_true rfl⟩ rfl (Nat.le_of_ble_eq_true rfl) dX10_whole_46) (fun H locs w => ?_)
          refine lv_if_ne (tgt := 54) hx hb dX10_whole_49 (by decide) (fun c5 => ?_) (fun c5 => ?_)
          · have h := it_f h c5
            refine lv_iload hx hb dX10_whole_54 (lv_at hl 4 rfl) ?_
            refine lv_if_ne (tgt := 69) hx hb dX10_whole_56 (by decide) (fun c6 => ?_) (fun c6 => ?_)
            · have h := it_f h c6
              refine lv_aload_n hx hb dX10_whole_69 rfl (lv_at hl 0 rfl) ?_
              refine gC0_5 C w wl_42 dX10_whole_70 ?_
              refine gC38_7 (v := (q5.2.1 3807)) C w rfl wl_546 dX10_whole_73 ?_
              rw [hQ]
              exact rI (F := CW ca ad) C w h dX10_whole_76
            · have h := it_t h c6
              refine lv_aload_n hx hb dX10_whole_59 rfl (lv_at hl 0 rfl) ?_
              refine gC0_5 C w wl_42 dX10_whole_60 ?_
              refine gC38_6 (v := (q5.2.1 3806)) C w rfl wl_598 dX10_whole_63 ?_
              refine lv_goto (tgt := 76) hx hb dX10_whole_66 (by decide) ?_
              rw [hQ]
              exact rI (F := CW ca ad) C w h dX10_whole_76
          · have h := it_t h c5
            refine lv_iconst (v := -1) hx hb dX10_whole_52 (by decide) ?_
            rw [hQ]
            exact rI (F := CW ca ad) C w h dX10_whole_53
        · have h := it_t h c4
          exact b33 _ h _ _ _ w (lv_sub hl [0] rfl)
theorem hd_X7_rowsOn : yX7_rowsOn.cls = RX7 ∧ yX7_rowsOn.cls ≠ "java/lang/invoke/MethodHandle" ∧ yX7_rowsOn.cls ≠ "java/lang/invoke/VarHandle" ∧ (parseMethodDescriptor yX7_rowsOn.desc).map (fun d => d.parameters.length) = some 4 := by decide +kernel
def f_X7_rowsOn_b92 (REC : St → Int32 → Int32 → Int32 → Int32 → Option (Int32 × St)) (K47 : St → Int32 → Int32 → Int32 → Int32 → Int32 → Int32 → Option (Int32 × St)) (σ : St) (x2 : Int32) (x3 : Int32) (x4 : Int32) (x5 : Int32) (x6 : Int32) (x7 : Int32) : Option (Int32 × St) := K47 σ x2 x3 x4 x5 x6 (x7 + (1 : Int32))
def f_X7_rowsOn_b47 (REC : St → Int32 → Int32 → Int32 → Int32 → Option (Int32 × St)) (K47 : St → Int32 → Int32 → Int32 → Int32 → Int32 → Int32 → Option (Int32 × St)) (σ : St) (x2 : Int32) (x3 : Int32) (x4 : Int32) (x5 : Int32) (x6 : Int32) (x7 : Int32) : Option (Int32 × St) := if (σ.1 106) ≤ x7 then (some (x6, σ)) else (if ((x5 >>> (x7 &&& 31)) &&& (1 : Int32)) = (1 : Int32) then ((REC σ x7 x2 (x3 ||| ((1 : Int32) <<< (x7 &&& 31))) (x4 + (1 : Int32))).bind fun q1 => f_X7_rowsOn_b92 REC K47 q1.2 x2 x3 x4 x5 (x6 + q1.1) x7) else (f_X7_rowsOn_b92 REC K47 σ x2 x3 x4 x5 x6 x7))
def f_X7_rowsOn_L47 (REC : St → Int32 → Int32 → Int32 → Int32 → Option (Int32 × St)) : Nat → St → Int32 → Int32 → Int32 → Int32 → Int32 → Int32 → Option (Int32 × St)
  | 0 => fun _ _ _ _ _ _ _ => none
  | n + 1 => f_X7_rowsOn_b47 REC (f_X7_rowsOn_L47 REC n)
def f_X7_rowsOn_body (REC : St → Int32 → Int32 → Int32 → Int32 → Option (Int32 × St)) (σ : St) (x1 : Int32) (x2 : Int32) (x3 : Int32) (x4 : Int32) : Option (Int32 × St) := if x1 = x2 then (some ((1 : Int32), σ)) else (if x4 < (7 : Int32) then (cond (ckI x1 7) (f_X7_rowsOn_L47 REC FU σ x2 x3 x4 (((σ.2.2 3 x1.toNatClampNeg) &&& ((σ.1 107) ^^^ (-1 : Int32))) &&& (x3 ^^^ (-1 : Int32))) (0 : Int32) (0 : Int32)) none) else (some ((0 : Int32), σ)))
def f_X7_rowsOn : Nat → St → Int32 → Int32 → Int32 → Int32 → Option (Int32 × St)
  | 0 => fun _ _ _ _ _ => none
  | d + 1 => f_X7_rowsOn_body (f_X7_rowsOn d)
abbrev rm_X7_rowsOn (d : Nat) : Room := { frames := 0 + d, cells := 0, slots := 0, locals := 0 + 60 * d }
set_option maxHeartbeats 4000000 in
set_option maxRecDepth 100000 in
theorem c_X7_rowsOn (d : Nat) : ∀ (l : Launch) (D : va_G) (ca : Nat → ClassId) (ad : Nat → Nat) (σ : St) (x1 : Int32) (x2 : Int32) (x3 : Int32) (x4 : Int32) (sz : Nat) (out : Int32 × St) (hf : f_X7_rowsOn d σ x1 x2 x3 x4 = some out), Met l yX7_rowsOn (.code yX7_rowsOn cX7_rowsOn 8 (some .int) :: WL) (rm_X7_rowsOn d) (PreC D ca (CW ca ad σ) sz [.ref (ad 38), .int x1, .int x2, .int x3, .int x4]) (PostI D (va_A (CW ca ad σ) sz) (CW ca ad out.2) out.1) 0 0 (va_A (CW ca ad σ) sz) := by
  induction d with
  | zero => intro l D ca ad σ x1 x2 x3 x4 sz out hf; exact absurd hf (by simp [f_X7_rowsOn])
  | succ d IHD =>
  intro l D ca ad σ x1 x2 x3 x4 sz out hf
  refine Met.ofW (cc := cX7_rowsOn) (maxL := 8) (ret := (some .int)) (by decide) rfl ?_
  intro p e s m args below meth c s₁ B hml hv
  obtain ⟨rfl, hsz, hP, hK, hD, hN⟩ := hv
  subst hsz
  have C := Cx.mk (own := RX7) B hml rfl hK hN (ws := (CW ca ad σ))
  have w : Wd (va_A (CW ca ad σ) s.heap.size) s D (CW ca ad σ) s.heap [] := ⟨hP, hD.self, va_S.rf⟩
  have hl := lv_entry ([.ref (ad 38), .int x1, .int x2, .int x3, .int x4]) (n := 8) (Nat.le_of_ble_eq_true rfl)
  rw [lg_entry_eq]
  generalize (lg_sl ([.ref (ad 38), .int x1, .int x2, .int x3, .int x4]) ++ List.replicate (8 - (lg_sl ([.ref (ad 38), .int x1, .int x2, .int x3, .int x4])).length) Slot.unset).toArray = ls at hl ⊢
  have hl : lv_has ls 8 [(0, .ref (ad 38)), (1, .int x1), (2, .int x2), (3, .int x3), (4, .int x4)] := hl
  change W p l e (rm_X7_rowsOn (d + 1)) s m _ below meth c _ [] 0 0 _ _
  clear B hP hD hK hN hml
  generalize va_A (CW ca ad σ) s.heap.size = A at C w ⊢
  generalize ([.ref (ad 38), .int x1, .int x2, .int x3, .int x4] : List Value).toArray = av at C ⊢
  obtain ⟨Q, hQ⟩ : ∃ Q, Q = MQ below (PostI D A (CW ca ad out.2) out.1) av s 0 0 A := ⟨_, rfl⟩
  rw [← hQ]
  have hx := C.1
  have hb := C.2.1
  have L47 : ∀ (n47 : Nat) (σ : St) (x2 : Int32) (x3 : Int32) (x4 : Int32) (x5 : Int32) (x6 : Int32) (x7 : Int32), f_X7_rowsOn_L47 (f_X7_rowsOn d) n47 σ x2 x3 x4 x5 x6 x7 = some out → Bk p l e (rm_X7_rowsOn (d + 1)) s m av below meth c A D 8 Q (CW ca ad σ) 47 [(0, .ref (ad 38)), (2, .int x2), (3, .int x3), (4, .int x4), (5, .int x5), (6, .int x6), (7, .int x7)] [] := by
    intro n47
    induction n47 with
    | zero => intro σ x2 x3 x4 x5 x6 x7 h; exact absurd h (by simp [f_X7_rowsOn_L47])
    | succ n47 ih47 =>
      have b92 : ∀ (σ : St) (x2 : Int32) (x3 : Int32) (x4 : Int32) (x5 : Int32) (x6 : Int32) (x7 : Int32), f_X7_rowsOn_b92 (f_X7_rowsOn d) (f_X7_rowsOn_L47 (f_X7_rowsOn d) n47) σ x2 x3 x4 x5 x6 x7 = some out → Bk p l e (rm_X7_rowsOn (d + 1)) s m av below meth c A D 8 Q (CW ca ad σ) 92 [(0, .ref (ad 38)), (2, .int x2), (3, .int x3), (4, .int x4), (5, .int x5), (6, .int x6), (7, .int x7)] [] := by
        intro σ x2 x3 x4 x5 x6 x7 h H locs ls w hl
        unfold f_X7_rowsOn_b92 at h
        refine lv_iinc (v := (x7 + (1 : Int32))) (lv' := [(7, .int (x7 + (1 : Int32))), (0, .ref (ad 38)), (2, .int x2), (3, .int x3), (4, .int x4), (5, .int x5), (6, .int x6)]) hx hb dX7_rowsOn_92 hl (k := 6) rfl rfl (by decide) rfl (fun ls hl => ?_)
        refine lv_goto (tgt := 47) hx hb dX7_rowsOn_95 (by decide) ?_
        exact ih47 _ _ _ _ _ _ _ h _ _ _ w (lv_sub hl [1, 2, 3, 4, 5, 6, 0] rfl)
      intro σ x2 x3 x4 x5 x6 x7 h H locs ls w hl
      change f_X7_rowsOn_b47 (f_X7_rowsOn d) (f_X7_rowsOn_L47 (f_X7_rowsOn d) n47) σ x2 x3 x4 x5 x6 x7 = some out at h
      unfold f_X7_rowsOn_b47 at h
      refine lv_iload hx hb dX7_rowsOn_47 (lv_at hl 6 rfl) ?_
      refine lv_aload_n hx hb dX7_rowsOn_49 rfl (lv_at hl 0 rfl) ?_
      refine gC38_0 C w wl_82 dX7_rowsOn_50 ?_
      refine gC1_6 (v := (σ.1 106)) C w rfl wl_552 dX7_rowsOn_53 ?_
      refine lv_icmp_ge (tgt := 98) hx hb dX7_rowsOn_56 (by decide) (fun c1 => ?_) (fun c1 => ?_)
      · have h := it_t h c1
        refine lv_iload hx hb dX7_rowsOn_98 (lv_at hl 5 rfl) ?_
        rw [hQ]
        exact rI (F := CW ca ad) C w h dX7_rowsOn_100
      · have h := it_f h c1
        refine lv_iload hx hb dX7_rowsOn_59 (lv_at hl 4 rfl) ?_
        refine lv_iload hx hb dX7_rowsOn_61 (lv_at hl 6 rfl) ?_
        refine lv_ishr hx hb dX7_rowsOn_63 ?_
        refine lv_iconst (v := 1) hx hb dX7_rowsOn_64 (by decide) ?_
        refine lv_iand hx hb dX7_rowsOn_65 ?_
        refine lv_iconst (v := 1) hx hb dX7_rowsOn_66 (by decide) ?_
        refine lv_icmp_ne (tgt := 92) hx hb dX7_rowsOn_67 (by decide) (fun c2 => ?_) (fun c2 => ?_)
        · have h := it_f h c2
          exact b92 _ _ _ _ _ _ _ h _ _ _ w (lv_sub hl [0, 1, 2, 3, 4, 5, 6] rfl)
        · have h := it_t h c2
          refine lv_iload hx hb dX7_rowsOn_70 (lv_at hl 5 rfl) ?_
          refine lv_aload_n hx hb dX7_rowsOn_72 rfl (lv_at hl 0 rfl) ?_
          refine lv_iload hx hb dX7_rowsOn_73 (lv_at hl 6 rfl) ?_
          refine lv_iload_n hx hb dX7_rowsOn_75 rfl (lv_at hl 1 rfl) ?_
          refine lv_iload_n hx hb dX7_rowsOn_76 rfl (lv_at hl 2 rfl) ?_
          refine lv_iconst (v := 1) hx hb dX7_rowsOn_77 (by decide) ?_
          refine lv_iload hx hb dX7_rowsOn_78 (lv_at hl 6 rfl) ?_
          refine lv_ishl hx hb dX7_rowsOn_80 ?_
          refine lv_ior hx hb dX7_rowsOn_81 ?_
          refine lv_iload hx hb dX7_rowsOn_82 (lv_at hl 3 rfl) ?_
          refine lv_iconst (v := 1) hx hb dX7_rowsOn_84 (by decide) ?_
          refine lv_iadd hx hb dX7_rowsOn_85 ?_
          obtain ⟨q1, hq1, h⟩ := ob_t h
          refine res_i C w (run_V (As := [.int x7, .int x2, .int (x3 ||| ((1 : Int32) <<< (x7 &&& 31))), .int (x4 + (1 : Int32))]) (rest := [.int x6]) C w hl.1 (recvC38 C w) (IHD l D ca ad _ x7 x2 (x3 ||| ((1 : Int32) <<< (x7 &&& 31))) (x4 + (1 : Int32)) _ q1 hq1) rfl rfl wl_666 wl_667 wl_668 wl_41 wl_669 hd_X7_rowsOn rfl ⟨Nat.le_refl _, rec_le 8 _ _ (by decide)⟩ rfl (Nat.le_of_ble_eq_true rfl) dX7_rowsOn_86) (fun H locs w => ?_)
          refine lv_iadd hx hb dX7_rowsOn_89 ?_
          refine lv_istore (lv' := [(6, .int (x6 + q1.1)), (0, .ref (ad 38)), (2, .int x2), (3, .int x3), (4, .int x4), (5, .int x5), (7, .int x7)]) hx hb dX7_rowsOn_90 hl (by decide) rfl (fun ls hl => ?_)
          exact b92 _ _ _ _ _ _ _ h _ _ _ w (lv_sub hl [1, 2, 3, 4, 5, 0, 6] rfl)
  have h := hf
  change f_X7_rowsOn_body (f_X7_rowsOn d) σ x1 x2 x3 x4 = some out at h
  unfold f_X7_rowsOn_body at h
  refine lv_iload_n hx hb dX7_rowsOn_0 rfl (lv_at hl 1 rfl) ?_
  refine lv_iload_n hx hb dX7_rowsOn_1 rfl (lv_at hl 2 rfl) ?_
  refine lv_icmp_ne (tgt := 7) hx hb dX7_rowsOn_2 (by decide) (fun c1 => ?_) (fun c1 => ?_)
  · have h := it_f h c1
    refine lv_iload hx hb dX7_rowsOn_7 (lv_at hl 4 rfl) ?_
    refine lv_bipush (v := 7) hx hb dX7_rowsOn_9 (by decide) ?_
    refine lv_icmp_lt (tgt := 16) hx hb dX7_rowsOn_11 (by decide) (fun c2 => ?_) (fun c2 => ?_)
    · have h := it_t h c2
      refine lv_aload_n hx hb dX7_rowsOn_16 rfl (lv_at hl 0 rfl) ?_
      refine gC38_0 C w wl_82 dX7_rowsOn_17 ?_
      refine gC1_1 C w wl_558 dX7_rowsOn_20 ?_
      refine lv_iload_n hx hb dX7_rowsOn_23 rfl (lv_at hl 1 rfl) ?_
      obtain ⟨i3, h⟩ := ck_t h
      refine ldC3 (v := (σ.2.2 3 x1.toNatClampNeg)) C w i3 rfl dX7_rowsOn_24 ?_
      refine lv_aload_n hx hb dX7_rowsOn_25 rfl (lv_at hl 0 rfl) ?_
      refine gC38_0 C w wl_82 dX7_rowsOn_26 ?_
      refine gC1_7 (v := (σ.1 107)) C w rfl wl_559 dX7_rowsOn_29 ?_
      refine lv_iconst (v := -1) hx hb dX7_rowsOn_32 (by decide) ?_
      refine lv_ixor hx hb dX7_rowsOn_33 ?_
      refine lv_iand hx hb dX7_rowsOn_34 ?_
      refine lv_iload_n hx hb dX7_rowsOn_35 rfl (lv_at hl 3 rfl) ?_
      refine lv_iconst (v := -1) hx hb dX7_rowsOn_36 (by decide) ?_
      refine lv_ixor hx hb dX7_rowsOn_37 ?_
      refine lv_iand hx hb dX7_rowsOn_38 ?_
      refine lv_istore (lv' := [(5, .int (((σ.2.2 3 x1.toNatClampNeg) &&& ((σ.1 107) ^^^ (-1 : Int32))) &&& (x3 ^^^ (-1 : Int32)))), (0, .ref (ad 38)), (1, .int x1), (2, .int x2), (3, .int x3), (4, .int x4)]) hx hb dX7_rowsOn_39 hl (by decide) rfl (fun ls hl => ?_)
      refine lv_iconst (v := 0) hx hb dX7_rowsOn_41 (by decide) ?_
      refine lv_istore (lv' := [(6, .int (0 : Int32)), (5, .int (((σ.2.2 3 x1.toNatClampNeg) &&& ((σ.1 107) ^^^ (-1 : Int32))) &&& (x3 ^^^ (-1 : Int32)))), (0, .ref (ad 38)), (1, .int x1), (2, .int x2), (3, .int x3), (4, .int x4)]) hx hb dX7_rowsOn_42 hl (by decide) rfl (fun ls hl => ?_)
      refine lv_iconst (v := 0) hx hb dX7_rowsOn_44 (by decide) ?_
      refine lv_istore (lv' := [(7, .int (0 : Int32)), (6, .int (0 : Int32)), (5, .int (((σ.2.2 3 x1.toNatClampNeg) &&& ((σ.1 107) ^^^ (-1 : Int32))) &&& (x3 ^^^ (-1 : Int32)))), (0, .ref (ad 38)), (1, .int x1), (2, .int x2), (3, .int x3), (4, .int x4)]) hx hb dX7_rowsOn_45 hl (by decide) rfl (fun ls hl => ?_)
      exact L47 FU _ _ _ _ _ _ _ h _ _ _ w (lv_sub hl [3, 5, 6, 7, 2, 1, 0] rfl)
    · have h := it_f h c2
      refine lv_iconst (v := 0) hx hb dX7_rowsOn_14 (by decide) ?_
      rw [hQ]
      exact rI (F := CW ca ad) C w h dX7_rowsOn_15
  · have h := it_t h c1
    refine lv_iconst (v := 1) hx hb dX7_rowsOn_5 (by decide) ?_
    rw [hQ]
    exact rI (F := CW ca ad) C w h dX7_rowsOn_6
theorem hd_X7_howMany : yX7_howMany.cls = RX7 ∧ yX7_howMany.cls ≠ "java/lang/invoke/MethodHandle" ∧ yX7_howMany.cls ≠ "java/lang/invoke/VarHandle" ∧ (parseMethodDescriptor yX7_howMany.desc).map (fun d => d.parameters.length) = some 2 := by decide +kernel
def f_X7_howMany_b20 (σ : St) (x1 : Int32) (x2 : Int32) (y0 : Int32) : Option (Int32 × St) := if y0 = 0 then ((f_X7_rowsOn 8 σ x1 x2 ((1 : Int32) <<< (x1 &&& 31)) (1 : Int32)).bind fun q1 => some (q1.1, q1.2)) else (some ((0 : Int32), σ))
def f_X7_howMany (σ : St) (x1 : Int32) (x2 : Int32) : Option (Int32 × St) := if (((σ.1 107) >>> (x1 &&& 31)) &&& (1 : Int32)) = (1 : Int32) then (f_X7_howMany_b20 σ x1 x2 (1 : Int32)) else (f_X7_howMany_b20 σ x1 x2 (0 : Int32))
abbrev rm_X7_howMany : Room := { frames := 9, cells := 0, slots := 0, locals := 540 }
set_option maxHeartbeats 4000000 in
set_option maxRecDepth 100000 in
theorem c_X7_howMany (l : Launch) (D : va_G) (ca : Nat → ClassId) (ad : Nat → Nat) (σ : St) (x1 : Int32) (x2 : Int32) (sz : Nat) (out : Int32 × St) (hf : f_X7_howMany σ x1 x2 = some out) : Met l yX7_howMany (.code yX7_howMany cX7_howMany 4 (some .int) :: WL) rm_X7_howMany (PreC D ca (CW ca ad σ) sz [.ref (ad 38), .int x1, .int x2]) (PostI D (va_A (CW ca ad σ) sz) (CW ca ad out.2) out.1) 0 0 (va_A (CW ca ad σ) sz) := by
  refine Met.ofW (cc := cX7_howMany) (maxL := 4) (ret := (some .int)) (by decide) rfl ?_
  intro p e s m args below meth c s₁ B hml hv
  obtain ⟨rfl, hsz, hP, hK, hD, hN⟩ := hv
  subst hsz
  have C := Cx.mk (own := RX7) B hml rfl hK hN (ws := (CW ca ad σ))
  have w : Wd (va_A (CW ca ad σ) s.heap.size) s D (CW ca ad σ) s.heap [] := ⟨hP, hD.self, va_S.rf⟩
  have hl := lv_entry ([.ref (ad 38), .int x1, .int x2]) (n := 4) (Nat.le_of_ble_eq_true rfl)
  rw [lg_entry_eq]
  generalize (lg_sl ([.ref (ad 38), .int x1, .int x2]) ++ List.replicate (4 - (lg_sl ([.ref (ad 38), .int x1, .int x2])).length) Slot.unset).toArray = ls at hl ⊢
  have hl : lv_has ls 4 [(0, .ref (ad 38)), (1, .int x1), (2, .int x2)] := hl
  change W p l e rm_X7_howMany s m _ below meth c _ [] 0 0 _ _
  clear B hP hD hK hN hml
  generalize va_A (CW ca ad σ) s.heap.size = A at C w ⊢
  generalize ([.ref (ad 38), .int x1, .int x2] : List Value).toArray = av at C ⊢
  obtain ⟨Q, hQ⟩ : ∃ Q, Q = MQ below (PostI D A (CW ca ad out.2) out.1) av s 0 0 A := ⟨_, rfl⟩
  rw [← hQ]
  have hx := C.1
  have hb := C.2.1
  have b20 : ∀ (σ : St) (x1 : Int32) (x2 : Int32) (y0 : Int32), f_X7_howMany_b20 σ x1 x2 y0 = some out → Bk p l e rm_X7_howMany s m av below meth c A D 4 Q (CW ca ad σ) 20 [(0, .ref (ad 38)), (1, .int x1), (2, .int x2)] [.int y0] := by
    intro σ x1 x2 y0 h H locs ls w hl
    unfold f_X7_howMany_b20 at h
    refine lv_istore_n (lv' := [(3, .int y0), (0, .ref (ad 38)), (1, .int x1), (2, .int x2)]) hx hb dX7_howMany_20 rfl hl (by decide) rfl (fun ls hl => ?_)
    refine lv_iload_n hx hb dX7_howMany_21 rfl (lv_at hl 0 rfl) ?_
    refine lv_if_eq (tgt := 29) hx hb dX7_howMany_22 (by decide) (fun c1 => ?_) (fun c1 => ?_)
    · have h := it_t h c1
      refine lv_aload_n hx hb dX7_howMany_29 rfl (lv_at hl 1 rfl) ?_
      refine lv_iload_n hx hb dX7_howMany_30 rfl (lv_at hl 2 rfl) ?_
      refine lv_iload_n hx hb dX7_howMany_31 rfl (lv_at hl 3 rfl) ?_
      refine lv_iconst (v := 1) hx hb dX7_howMany_32 (by decide) ?_
      refine lv_iload_n hx hb dX7_howMany_33 rfl (lv_at hl 2 rfl) ?_
      refine lv_ishl hx hb dX7_howMany_34 ?_
      refine lv_iconst (v := 1) hx hb dX7_howMany_35 (by decide) ?_
      obtain ⟨q1, hq1, h⟩ := ob_t h
      refine res_i C w (run_V (As := [.int x1, .int x2, .int ((1 : Int32) <<< (x1 &&& 31)), .int (1 : Int32)]) (rest := []) C w hl.1 (recvC38 C w) (c_X7_rowsOn 8 l D ca ad _ x1 x2 ((1 : Int32) <<< (x1 &&& 31)) (1 : Int32) _ q1 hq1) rfl rfl wl_666 wl_667 wl_668 wl_41 wl_669 hd_X7_rowsOn rfl ⟨Nat.le_of_ble_eq_true rfl, Nat.le_of_ble_eq_true rfl⟩ rfl (Nat.le_of_ble_eq_true rfl) dX7_howMany_36) (fun H locs w => ?_)
      rw [hQ]
      exact rI (F := CW ca ad) C w h dX7_howMany_39
    · have h := it_f h c1
      refine lv_iconst (v := 0) hx hb dX7_howMany_25 (by decide) ?_
      refine lv_goto (tgt := 39) hx hb dX7_howMany_26 (by decide) ?_
      rw [hQ]
      exact rI (F := CW ca ad) C w h dX7_howMany_39
  have h := hf
  unfold f_X7_howMany at h
  refine lv_aload_n hx hb dX7_howMany_0 rfl (lv_at hl 0 rfl) ?_
  refine gC38_0 C w wl_82 dX7_howMany_1 ?_
  refine gC1_7 (v := (σ.1 107)) C w rfl wl_559 dX7_howMany_4 ?_
  refine lv_iload_n hx hb dX7_howMany_7 rfl (lv_at hl 1 rfl) ?_
  refine lv_ishr hx hb dX7_howMany_8 ?_
  refine lv_iconst (v := 1) hx hb dX7_howMany_9 (by decide) ?_
  refine lv_iand hx hb dX7_howMany_10 ?_
  refine lv_iconst (v := 1) hx hb dX7_howMany_11 (by decide) ?_
  refine lv_icmp_ne (tgt := 19) hx hb dX7_howMany_12 (by decide) (fun c1 => ?_) (fun c1 => ?_)
  · have h := it_f h c1
    refine lv_iconst (v := 0) hx hb dX7_howMany_19 (by decide) ?_
    exact b20 _ _ _ _ h _ _ _ w (lv_sub hl [0, 1, 2] rfl)
  · have h := it_t h c1
    refine lv_iconst (v := 1) hx hb dX7_howMany_15 (by decide) ?_
    refine lv_goto (tgt := 20) hx hb dX7_howMany_16 (by decide) ?_
    exact b20 _ _ _ _ h _ _ _ w (lv_sub hl [0, 1, 2] rfl)
theorem hd_X10_ways : yX10_ways.cls = RX10 ∧ yX10_ways.cls ≠ "java/lang/invoke/MethodHandle" ∧ yX10_ways.cls ≠ "java/lang/invoke/VarHandle" ∧ (parseMethodDescriptor yX10_ways.desc).map (fun d => d.parameters.length) = some 2 := by decide +kernel
def f_X10_ways_b16 (σ : St) : Option (Int32 × St) := (f_X10_refuseAsBad σ).bind fun q1 => some (q1.1, q1.2)
def f_X10_ways (σ : St) (x1 : Int32) (x2 : Int32) : Option (Int32 × St) := (f_X10_isTree σ x1).bind fun q1 => if q1.1 = 0 then (f_X10_ways_b16 q1.2) else ((f_X10_isTree q1.2 x2).bind fun q2 => if q2.1 = 0 then (f_X10_ways_b16 q2.2) else ((f_X7_howMany q2.2 x1 x2).bind fun q3 => some (q3.1, q3.2)))
abbrev rm_X10_ways : Room := { frames := 10, cells := 0, slots := 0, locals := 600 }
set_option maxHeartbeats 4000000 in
set_option maxRecDepth 100000 in
theorem c_X10_ways (l : Launch) (D : va_G) (ca : Nat → ClassId) (ad : Nat → Nat) (σ : St) (x1 : Int32) (x2 : Int32) (sz : Nat) (out : Int32 × St) (hf : f_X10_ways σ x1 x2 = some out) : Met l yX10_ways (.code yX10_ways cX10_ways 3 (some .int) :: WL) rm_X10_ways (PreC D ca (CW ca ad σ) sz [.ref (ad 0), .int x1, .int x2]) (PostI D (va_A (CW ca ad σ) sz) (CW ca ad out.2) out.1) 0 0 (va_A (CW ca ad σ) sz) := by
  refine Met.ofW (cc := cX10_ways) (maxL := 3) (ret := (some .int)) (by decide) rfl ?_
  intro p e s m args below meth c s₁ B hml hv
  obtain ⟨rfl, hsz, hP, hK, hD, hN⟩ := hv
  subst hsz
  have C := Cx.mk (own := RX10) B hml rfl hK hN (ws := (CW ca ad σ))
  have w : Wd (va_A (CW ca ad σ) s.heap.size) s D (CW ca ad σ) s.heap [] := ⟨hP, hD.self, va_S.rf⟩
  have hl := lv_entry ([.ref (ad 0), .int x1, .int x2]) (n := 3) (Nat.le_of_ble_eq_true rfl)
  rw [lg_entry_eq]
  generalize (lg_sl ([.ref (ad 0), .int x1, .int x2]) ++ List.replicate (3 - (lg_sl ([.ref (ad 0), .int x1, .int x2])).length) Slot.unset).toArray = ls at hl ⊢
  have hl : lv_has ls 3 [(0, .ref (ad 0)), (1, .int x1), (2, .int x2)] := hl
  change W p l e rm_X10_ways s m _ below meth c _ [] 0 0 _ _
  clear B hP hD hK hN hml
  generalize va_A (CW ca ad σ) s.heap.size = A at C w ⊢
  generalize ([.ref (ad 0), .int x1, .int x2] : List Value).toArray = av at C ⊢
  obtain ⟨Q, hQ⟩ : ∃ Q, Q = MQ below (PostI D A (CW ca ad out.2) out.1) av s 0 0 A := ⟨_, rfl⟩
  rw [← hQ]
  have hx := C.1
  have hb := C.2.1
  have b16 : ∀ (σ : St), f_X10_ways_b16 σ = some out → Bk p l e rm_X10_ways s m av below meth c A D 3 Q (CW ca ad σ) 16 [(0, .ref (ad 0))] [] := by
    intro σ h H locs ls w hl
    unfold f_X10_ways_b16 at h
    refine lv_aload_n hx hb dX10_ways_16 rfl (lv_at hl 0 rfl) ?_
    obtain ⟨q1, hq1, h⟩ := ob_t h
    refine res_i C w (run_V (As := []) (rest := []) C w hl.1 (recvC0 C w) (c_X10_refuseAsBad l D ca ad _  _ q1 hq1) rfl rfl wl_117 wl_118 wl_119 wl_2 wl_120 hd_X10_refuseAsBad rfl ⟨Nat.le_of_ble_eq_true rfl, Nat.le_of_ble_eq_true rfl⟩ rfl (Nat.le_of_ble_eq_true rfl) dX10_ways_17) (fun H locs w => ?_)
    rw [hQ]
    exact rI (F := CW ca ad) C w h dX10_ways_20
  have h := hf
  unfold f_X10_ways at h
  refine lv_aload_n hx hb dX10_ways_0 rfl (lv_at hl 0 rfl) ?_
  refine lv_iload_n hx hb dX10_ways_1 rfl (lv_at hl 1 rfl) ?_
  obtain ⟨q1, hq1, h⟩ := ob_t h
  refine res_i C w (run_V (As := [.int x1]) (rest := []) C w hl.1 (recvC0 C w) (c_X10_isTree l D ca ad _ x1 _ q1 hq1) rfl rfl wl_176 wl_177 wl_178 wl_2 wl_179 hd_X10_isTree rfl ⟨Nat.le_of_ble_eq_true rfl, Nat.le_of_ble_eq_true rfl⟩ rfl (Nat.le_of_ble_eq_true rfl) dX10_ways_2) (fun H locs w => ?_)
  refine lv_if_eq (tgt := 16) hx hb dX10_ways_5 (by decide) (fun c1 => ?_) (fun c1 => ?_)
  · have h := it_t h c1
    exact b16 _ h _ _ _ w (lv_sub hl [0] rfl)
  · have h := it_f h c1
    refine lv_aload_n hx hb dX10_ways_8 rfl (lv_at hl 0 rfl) ?_
    refine lv_iload_n hx hb dX10_ways_9 rfl (lv_at hl 2 rfl) ?_
    obtain ⟨q2, hq2, h⟩ := ob_t h
    refine res_i C w (run_V (As := [.int x2]) (rest := []) C w hl.1 (recvC0 C w) (c_X10_isTree l D ca ad _ x2 _ q2 hq2) rfl rfl wl_176 wl_177 wl_178 wl_2 wl_179 hd_X10_isTree rfl ⟨Nat.le_of_ble_eq_true rfl, Nat.le_of_ble_eq_true rfl⟩ rfl (Nat.le_of_ble_eq_true rfl) dX10_ways_10) (fun H locs w => ?_)
    refine lv_if_ne (tgt := 21) hx hb dX10_ways_13 (by decide) (fun c2 => ?_) (fun c2 => ?_)
    · have h := it_f h c2
      refine lv_aload_n hx hb dX10_ways_21 rfl (lv_at hl 0 rfl) ?_
      refine gC0_5 C w wl_42 dX10_ways_22 ?_
      refine lv_iload_n hx hb dX10_ways_25 rfl (lv_at hl 1 rfl) ?_
      refine lv_iload_n hx hb dX10_ways_26 rfl (lv_at hl 2 rfl) ?_
      obtain ⟨q3, hq3, h⟩ := ob_t h
      refine res_i C w (run_V (As := [.int x1, .int x2]) (rest := []) C w hl.1 (recvC38 C w) (c_X7_howMany l D ca ad _ x1 x2 _ q3 hq3) rfl rfl wl_662 wl_663 wl_664 wl_41 wl_665 hd_X7_howMany rfl ⟨Nat.le_of_ble_eq_true rfl, Nat.le_of_ble_eq_true rfl⟩ rfl (Nat.le_of_ble_eq_true rfl) dX10_ways_27) (fun H locs w => ?_)
      rw [hQ]
      exact rI (F := CW ca ad) C w h dX10_ways_30
    · have h := it_t h c2
      exact b16 _ h _ _ _ w (lv_sub hl [0] rfl)
theorem hd_X10_put : yX10_put.cls = RX10 ∧ yX10_put.cls ≠ "java/lang/invoke/MethodHandle" ∧ yX10_put.cls ≠ "java/lang/invoke/VarHandle" ∧ (parseMethodDescriptor yX10_put.desc).map (fun d => d.parameters.length) = some 4 := by decide +kernel
def f_X10_put_b33 (σ : St) : Option (Int32 × St) := (f_X10_refuseAsBad σ).bind fun q1 => some (q1.1, q1.2)
def f_X10_put_b132 (K72 : St → Int32 → Int32 → Int32 → Int32 → Int32 → Int32 → Option (Int32 × St)) (σ : St) (x3 : Int32) (x4 : Int32) (x5 : Int32) (x6 : Int32) (x7 : Int32) (x8 : Int32) : Option (Int32 × St) := K72 σ x3 x4 x5 x6 x7 (x8 + (1 : Int32))
def f_X10_put_b127 (K72 : St → Int32 → Int32 → Int32 → Int32 → Int32 → Int32 → Option (Int32 × St)) (σ : St) (x3 : Int32) (x4 : Int32) (x5 : Int32) (x6 : Int32) (x8 : Int32) (y0 : Int32) : Option (Int32 × St) := f_X10_put_b132 K72 σ x3 x4 x5 (x6 + (1 : Int32)) y0 x8
def f_X10_put_b72 (K72 : St → Int32 → Int32 → Int32 → Int32 → Int32 → Int32 → Option (Int32 × St)) (σ : St) (x3 : Int32) (x4 : Int32) (x5 : Int32) (x6 : Int32) (x7 : Int32) (x8 : Int32) : Option (Int32 × St) := if (85 : Int32) ≤ x8 then (if x4 = 0 then (some (x6, σ)) else (some (x7, σ))) else ((f_X3_shortLetter x8).bind fun q1 => (f_X7_follow σ x5 q1 (σ.1 108)).bind fun q2 => if (q2.1 3808) = x3 then (if x6 = 0 then (f_X10_put_b127 K72 q2 x3 x4 x5 x6 x8 q1) else (f_X10_put_b127 K72 q2 x3 x4 x5 x6 x8 x7)) else (f_X10_put_b132 K72 q2 x3 x4 x5 x6 x7 x8))
def f_X10_put_L72 : Nat → St → Int32 → Int32 → Int32 → Int32 → Int32 → Int32 → Option (Int32 × St)
  | 0 => fun _ _ _ _ _ _ _ => none
  | n + 1 => f_X10_put_b72 (f_X10_put_L72 n)
def f_X10_put (σ : St) (x1 : Int32) (x2 : Int32) (x3 : Int32) (x4 : Int32) : Option (Int32 × St) := (f_X10_isTree σ x1).bind fun q1 => if q1.1 = 0 then (f_X10_put_b33 q1.2) else ((f_X10_isTree q1.2 x2).bind fun q2 => if q2.1 = 0 then (f_X10_put_b33 q2.2) else ((f_X3_isLetter x3).bind fun q3 => if q3 = 0 then (f_X10_put_b33 q2.2) else ((f_X10_within x4 (0 : Int32) (1 : Int32)).bind fun q4 => if q4 = 0 then (f_X10_put_b33 q2.2) else ((f_X7_seek q2.2 x1 x2 (0 : Int32) (-1 : Int32)).bind fun q5 => if q5.1 = 0 then (some ((-1 : Int32), q5.2)) else (f_X10_put_L72 FU q5.2 x3 x4 (q5.2.1 3806) (0 : Int32) (-1 : Int32) (0 : Int32))))))
abbrev rm_X10_put : Room := { frames := 14, cells := 0, slots := 0, locals := 840 }
set_option maxHeartbeats 4000000 in
set_option maxRecDepth 100000 in
theorem c_X10_put (l : Launch) (D : va_G) (ca : Nat → ClassId) (ad : Nat → Nat) (σ : St) (x1 : Int32) (x2 : Int32) (x3 : Int32) (x4 : Int32) (sz : Nat) (out : Int32 × St) (hf : f_X10_put σ x1 x2 x3 x4 = some out) : Met l yX10_put (.code yX10_put cX10_put 10 (some .int) :: WL) rm_X10_put (PreC D ca (CW ca ad σ) sz [.ref (ad 0), .int x1, .int x2, .int x3, .int x4]) (PostI D (va_A (CW ca ad σ) sz) (CW ca ad out.2) out.1) 0 0 (va_A (CW ca ad σ) sz) := by
  refine Met.ofW (cc := cX10_put) (maxL := 10) (ret := (some .int)) (by decide) rfl ?_
  intro p e s m args below meth c s₁ B hml hv
  obtain ⟨rfl, hsz, hP, hK, hD, hN⟩ := hv
  subst hsz
  have C := Cx.mk (own := RX10) B hml rfl hK hN (ws := (CW ca ad σ))
  have w : Wd (va_A (CW ca ad σ) s.heap.size) s D (CW ca ad σ) s.heap [] := ⟨hP, hD.self, va_S.rf⟩
  have hl := lv_entry ([.ref (ad 0), .int x1, .int x2, .int x3, .int x4]) (n := 10) (Nat.le_of_ble_eq_true rfl)
  rw [lg_entry_eq]
  generalize (lg_sl ([.ref (ad 0), .int x1, .int x2, .int x3, .int x4]) ++ List.replicate (10 - (lg_sl ([.ref (ad 0), .int x1, .int x2, .int x3, .int x4])).length) Slot.unset).toArray = ls at hl ⊢
  have hl : lv_has ls 10 [(0, .ref (ad 0)), (1, .int x1), (2, .int x2), (3, .int x3), (4, .int x4)] := hl
  change W p l e rm_X10_put s m _ below meth c _ [] 0 0 _ _
  clear B hP hD hK hN hml
  generalize va_A (CW ca ad σ) s.heap.size = A at C w ⊢
  generalize ([.ref (ad 0), .int x1, .int x2, .int x3, .int x4] : List Value).toArray = av at C ⊢
  obtain ⟨Q, hQ⟩ : ∃ Q, Q = MQ below (PostI D A (CW ca ad out.2) out.1) av s 0 0 A := ⟨_, rfl⟩
  rw [← hQ]
  have hx := C.1
  have hb := C.2.1
  have b33 : ∀ (σ : St), f_X10_put_b33 σ = some out → Bk p l e rm_X10_put s m av below meth c A D 10 Q (CW ca ad σ) 33 [(0, .ref (ad 0))] [] := by
    intro σ h H locs ls w hl
    unfold f_X10_put_b33 at h
    refine lv_aload_n hx hb dX10_put_33 rfl (lv_at hl 0 rfl) ?_
    obtain ⟨q1, hq1, h⟩ := ob_t h
    refine res_i C w (run_V (As := []) (rest := []) C w hl.1 (recvC0 C w) (c_X10_refuseAsBad l D ca ad _  _ q1 hq1) rfl rfl wl_117 wl_118 wl_119 wl_2 wl_120 hd_X10_refuseAsBad rfl ⟨Nat.le_of_ble_eq_true rfl, Nat.le_of_ble_eq_true rfl⟩ rfl (Nat.le_of_ble_eq_true rfl) dX10_put_34) (fun H locs w => ?_)
    rw [hQ]
    exact rI (F := CW ca ad) C w h dX10_put_37
  have L72 : ∀ (n72 : Nat) (σ : St) (x3 : Int32) (x4 : Int32) (x5 : Int32) (x6 : Int32) (x7 : Int32) (x8 : Int32), f_X10_put_L72 n72 σ x3 x4 x5 x6 x7 x8 = some out → Bk p l e rm_X10_put s m av below meth c A D 10 Q (CW ca ad σ) 72 [(0, .ref (ad 0)), (3, .int x3), (4, .int x4), (5, .int x5), (6, .int x6), (7, .int x7), (8, .int x8)] [] := by
    intro n72
    induction n72 with
    | zero => intro σ x3 x4 x5 x6 x7 x8 h; exact absurd h (by simp [f_X10_put_L72])
    | succ n72 ih72 =>
      have b132 : ∀ (σ : St) (x3 : Int32) (x4 : Int32) (x5 : Int32) (x6 : Int32) (x7 : Int32) (x8 : Int32), f_X10_put_b132 (f_X10_put_L72 n72) σ x3 x4 x5 x6 x7 x8 = some out → Bk p l e rm_X10_put s m av below meth c A D 10 Q (CW ca ad σ) 132 [(0, .ref (ad 0)), (3, .int x3), (4, .int x4), (5, .int x5), (6, .int x6), (7, .int x7), (8, .int x8)] [] := by
        intro σ x3 x4 x5 x6 x7 x8 h H locs ls w hl
        unfold f_X10_put_b132 at h
        refine lv_iinc (v := (x8 + (1 : Int32))) (lv' := [(8, .int (x8 + (1 : Int32))), (0, .ref (ad 0)), (3, .int x3), (4, .int x4), (5, .int x5), (6, .int x6), (7, .int x7)]) hx hb dX10_put_132 hl (k := 6) rfl rfl (by decide) rfl (fun ls hl => ?_)
        refine lv_goto (tgt := 72) hx hb dX10_put_135 (by decide) ?_
        exact ih72 _ _ _ _ _ _ _ h _ _ _ w (lv_sub hl [1, 2, 3, 4, 5, 6, 0] rfl)
      have b127 : ∀ (σ : St) (x3 : Int32) (x4 : Int32) (x5 : Int32) (x6 : Int32) (x8 : Int32) (y0 : Int32), f_X10_put_b127 (f_X10_put_L72 n72) σ x3 x4 x5 x6 x8 y0 = some out → Bk p l e rm_X10_put s m av below meth c A D 10 Q (CW ca ad σ) 127 [(0, .ref (ad 0)), (3, .int x3), (4, .int x4), (5, .int x5), (6, .int x6), (8, .int x8)] [.int y0] := by
        intro σ x3 x4 x5 x6 x8 y0 h H locs ls w hl
        unfold f_X10_put_b127 at h
        refine lv_istore (lv' := [(7, .int y0), (0, .ref (ad 0)), (3, .int x3), (4, .int x4), (5, .int x5), (6, .int x6), (8, .int x8)]) hx hb dX10_put_127 hl (by decide) rfl (fun ls hl => ?_)
        refine lv_iinc (v := (x6 + (1 : Int32))) (lv' := [(6, .int (x6 + (1 : Int32))), (7, .int y0), (0, .ref (ad 0)), (3, .int x3), (4, .int x4), (5, .int x5), (8, .int x8)]) hx hb dX10_put_129 hl (k := 5) rfl rfl (by decide) rfl (fun ls hl => ?_)
        exact b132 _ _ _ _ _ _ _ h _ _ _ w (lv_sub hl [2, 3, 4, 5, 0, 1, 6] rfl)
      intro σ x3 x4 x5 x6 x7 x8 h H locs ls w hl
      change f_X10_put_b72 (f_X10_put_L72 n72) σ x3 x4 x5 x6 x7 x8 = some out at h
      unfold f_X10_put_b72 at h
      refine lv_iload hx hb dX10_put_72 (lv_at hl 6 rfl) ?_
      refine lv_bipush (v := 85) hx hb dX10_put_74 (by decide) ?_
      refine lv_icmp_ge (tgt := 138) hx hb dX10_put_76 (by decide) (fun c1 => ?_) (fun c1 => ?_)
      · have h := it_t h c1
        refine lv_iload hx hb dX10_put_138 (lv_at hl 2 rfl) ?_
        refine lv_if_ne (tgt := 148) hx hb dX10_put_140 (by decide) (fun c2 => ?_) (fun c2 => ?_)
        · have h := it_f h c2
          refine lv_iload hx hb dX10_put_148 (lv_at hl 5 rfl) ?_
          rw [hQ]
          exact rI (F := CW ca ad) C w h dX10_put_150
        · have h := it_t h c2
          refine lv_iload hx hb dX10_put_143 (lv_at hl 4 rfl) ?_
          refine lv_goto (tgt := 150) hx hb dX10_put_145 (by decide) ?_
          rw [hQ]
          exact rI (F := CW ca ad) C w h dX10_put_150
      · have h := it_f h c1
        refine lv_iload hx hb dX10_put_79 (lv_at hl 6 rfl) ?_
        obtain ⟨q1, hq1, h⟩ := ob_t h
        refine res_i C w (run_S (As := [.int x8]) (rest := []) C w hl.1 (c_X3_shortLetter l D ca _ x8 _ q1 hq1) rfl rfl wl_682 wl_683 wl_461 wl_684 hd_X3_shortLetter rfl ⟨Nat.le_of_ble_eq_true rfl, Nat.le_of_ble_eq_true rfl⟩ rfl (Nat.le_of_ble_eq_true rfl) dX10_put_81) (fun H locs w => ?_)
        refine lv_istore (lv' := [(9, .int q1), (0, .ref (ad 0)), (3, .int x3), (4, .int x4), (5, .int x5), (6, .int x6), (7, .int x7), (8, .int x8)]) hx hb dX10_put_84 hl (by decide) rfl (fun ls hl => ?_)
        refine lv_aload_n hx hb dX10_put_86 rfl (lv_at hl 1 rfl) ?_
        refine gC0_5 C w wl_42 dX10_put_87 ?_
        refine lv_iload hx hb dX10_put_90 (lv_at hl 4 rfl) ?_
        refine lv_iload hx hb dX10_put_92 (lv_at hl 0 rfl) ?_
        refine lv_aload_n hx hb dX10_put_94 rfl (lv_at hl 1 rfl) ?_
        refine gC0_1 C w wl_34 dX10_put_95 ?_
        refine gC1_8 (v := (σ.1 108)) C w rfl wl_417 dX10_put_98 ?_
        obtain ⟨q2, hq2, h⟩ := ob_t h
        refine res_v C w (run_V (As := [.int x5, .int q1, .int (σ.1 108)]) (rest := []) C w hl.1 (recvC38 C w) (c_X7_follow l D ca ad _ x5 q1 (σ.1 108) _ q2 hq2) rfl rfl wl_560 wl_561 wl_562 wl_41 wl_563 hd_X7_follow rfl ⟨Nat.le_of_ble_eq_true rfl, Nat.le_of_ble_eq_true rfl⟩ rfl (Nat.le_of_ble_eq_true rfl) dX10_put_101) (fun H locs w => ?_)
        refine lv_aload_n hx hb dX10_put_104 rfl (lv_at hl 1 rfl) ?_
        refine gC0_5 C w wl_42 dX10_put_105 ?_
        refine gC38_8 (v := (q2.1 3808)) C w rfl wl_545 dX10_put_108 ?_
        refine lv_iload_n hx hb dX10_put_111 rfl (lv_at hl 2 rfl) ?_
        refine lv_icmp_ne (tgt := 132) hx hb dX10_put_112 (by decide) (fun c3 => ?_) (fun c3 => ?_)
        · have h := it_f h c3
          exact b132 _ _ _ _ _ _ _ h _ _ _ w (lv_sub hl [1, 2, 3, 4, 5, 6, 7] rfl)
        · have h := it_t h c3
          refine lv_iload hx hb dX10_put_115 (lv_at hl 5 rfl) ?_
          refine lv_if_ne (tgt := 125) hx hb dX10_put_117 (by decide) (fun c4 => ?_) (fun c4 => ?_)
          · have h := it_f h c4
            refine lv_iload hx hb dX10_put_125 (lv_at hl 6 rfl) ?_
            exact b127 _ _ _ _ _ _ _ h _ _ _ w (lv_sub hl [1, 2, 3, 4, 5, 7] rfl)
          · have h := it_t h c4
            refine lv_iload hx hb dX10_put_120 (lv_at hl 0 rfl) ?_
            refine lv_goto (tgt := 127) hx hb dX10_put_122 (by decide) ?_
            exact b127 _ _ _ _ _ _ _ h _ _ _ w (lv_sub hl [1, 2, 3, 4, 5, 7] rfl)
  have h := hf
  unfold f_X10_put at h
  refine lv_aload_n hx hb dX10_put_0 rfl (lv_at hl 0 rfl) ?_
  refine lv_iload_n hx hb dX10_put_1 rfl (lv_at hl 1 rfl) ?_
  obtain ⟨q1, hq1, h⟩ := ob_t h
  refine res_i C w (run_V (As := [.int x1]) (rest := []) C w hl.1 (recvC0 C w) (c_X10_isTree l D ca ad _ x1 _ q1 hq1) rfl rfl wl_176 wl_177 wl_178 wl_2 wl_179 hd_X10_isTree rfl ⟨Nat.le_of_ble_eq_true rfl, Nat.le_of_ble_eq_true rfl⟩ rfl (Nat.le_of_ble_eq_true rfl) dX10_put_2) (fun H locs w => ?_)
  refine lv_if_eq (tgt := 33) hx hb dX10_put_5 (by decide) (fun c1 => ?_) (fun c1 => ?_)
  · have h := it_t h c1
    exact b33 _ h _ _ _ w (lv_sub hl [0] rfl)
  · have h := it_f h c1
    refine lv_aload_n hx hb dX10_put_8 rfl (lv_at hl 0 rfl) ?_
    refine lv_iload_n hx hb dX10_put_9 rfl (lv_at hl 2 rfl) ?_
    obtain ⟨q2, hq2, h⟩ := ob_t h
    refine res_i C w (run_V (As := [.int x2]) (rest := []) C w hl.1 (recvC0 C w) (c_X10_isTree l D ca ad _ x2 _ q2 hq2) rfl rfl wl_176 wl_177 wl_178 wl_2 wl_179 hd_X10_isTree rfl ⟨Nat.le_of_ble_eq_true rfl, Nat.le_of_ble_eq_true rfl⟩ rfl (Nat.le_of_ble_eq_true rfl) dX10_put_10) (fun H locs w => ?_)
    refine lv_if_eq (tgt := 33) hx hb dX10_put_13 (by decide) (fun c2 => ?_) (fun c2 => ?_)
    · have h := it_t h c2
      exact b33 _ h _ _ _ w (lv_sub hl [0] rfl)
    · have h := it_f h c2
      refine lv_iload_n hx hb dX10_put_16 rfl (lv_at hl 3 rfl) ?_
      obtain ⟨q3, hq3, h⟩ := ob_t h
      refine res_i C w (run_S (As := [.int x3]) (rest := []) C w hl.1 (c_X3_isLetter l D ca _ x3 _ q3 hq3) rfl rfl wl_459 wl_460 wl_461 wl_462 hd_X3_isLetter rfl ⟨Nat.le_of_ble_eq_true rfl, Nat.le_of_ble_eq_true rfl⟩ rfl (Nat.le_of_ble_eq_true rfl) dX10_put_17) (fun H locs w => ?_)
      refine lv_if_eq (tgt := 33) hx hb dX10_put_20 (by decide) (fun c3 => ?_) (fun c3 => ?_)
      · have h := it_t h c3
        exact b33 _ h _ _ _ w (lv_sub hl [0] rfl)
      · have h := it_f h c3
        refine lv_iload hx hb dX10_put_23 (lv_at hl 4 rfl) ?_
        refine lv_iconst (v := 0) hx hb dX10_put_25 (by decide) ?_
        refine lv_iconst (v := 1) hx hb dX10_put_26 (by decide) ?_
        obtain ⟨q4, hq4, h⟩ := ob_t h
        refine res_i C w (run_S (As := [.int x4, .int (0 : Int32), .int (1 : Int32)]) (rest := []) C w hl.1 (c_X10_within l D ca _ x4 (0 : Int32) (1 : Int32) _ q4 hq4) rfl rfl wl_114 wl_115 wl_2 wl_116 hd_X10_within rfl ⟨Nat.le_of_ble_eq_true rfl, Nat.le_of_ble_eq_true rfl⟩ rfl (Nat.le_of_ble_eq_true rfl) dX10_put_27) (fun H locs w => ?_)
        refine lv_if_ne (tgt := 38) hx hb dX10_put_30 (by decide) (fun c4 => ?_) (fun c4 => ?_)
        · have h := it_f h c4
          refine lv_aload_n hx hb dX10_put_38 rfl (lv_at hl 0 rfl) ?_
          refine gC0_5 C w wl_42 dX10_put_39 ?_
          refine lv_iload_n hx hb dX10_put_42 rfl (lv_at hl 1 rfl) ?_
          refine lv_iload_n hx hb dX10_put_43 rfl (lv_at hl 2 rfl) ?_
          refine lv_iconst (v := 0) hx hb dX10_put_44 (by decide) ?_
          refine lv_iconst (v := -1) hx hb dX10_put_45 (by decide) ?_
          obtain ⟨q5, hq5, h⟩ := ob_t h
          refine res_i C w (run_V (As := [.int x1, .int x2, .int (0 : Int32), .int (-1 : Int32)]) (rest := []) C w hl.1 (recvC38 C w) (c_X7_seek l D ca ad _ x1 x2 (0 : Int32) (-1 : Int32) _ q5 hq5) rfl rfl wl_599 wl_600 wl_601 wl_41 wl_602 hd_X7_seek rfl ⟨Nat.le_of_ble_eq_true rfl, Nat.le_of_ble_eq_true rfl⟩ rfl (Nat.le_of_ble_eq_true rfl) dX10_put_46) (fun H locs w => ?_)
          refine lv_if_ne (tgt := 54) hx hb dX10_put_49 (by decide) (fun c5 => ?_) (fun c5 => ?_)
          · have h := it_f h c5
            refine lv_aload_n hx hb dX10_put_54 rfl (lv_at hl 0 rfl) ?_
            refine gC0_5 C w wl_42 dX10_put_55 ?_
            refine gC38_6 (v := (q5.2.1 3806)) C w rfl wl_598 dX10_put_58 ?_
            refine lv_istore (lv' := [(5, .int (q5.2.1 3806)), (0, .ref (ad 0)), (1, .int x1), (2, .int x2), (3, .int x3), (4, .int x4)]) hx hb dX10_put_61 hl (by decide) rfl (fun ls hl => ?_)
            refine lv_iconst (v := 0) hx hb dX10_put_63 (by decide) ?_
            refine lv_istore (lv' := [(6, .int (0 : Int32)), (5, .int (q5.2.1 3806)), (0, .ref (ad 0)), (1, .int x1), (2, .int x2), (3, .int x3), (4, .int x4)]) hx hb dX10_put_64 hl (by decide) rfl (fun ls hl => ?_)
            refine lv_iconst (v := -1) hx hb dX10_put_66 (by decide) ?_
            refine lv_istore (lv' := [(7, .int (-1 : Int32)), (6, .int (0 : Int32)), (5, .int (q5.2.1 3806)), (0, .ref (ad 0)), (1, .int x1), (2, .int x2), (3, .int x3), (4, .int x4)]) hx hb dX10_put_67 hl (by decide) rfl (fun ls hl => ?_)
            refine lv_iconst (v := 0) hx hb dX10_put_69 (by decide) ?_
            refine lv_istore (lv' := [(8, .int (0 : Int32)), (7, .int (-1 : Int32)), (6, .int (0 : Int32)), (5, .int (q5.2.1 3806)), (0, .ref (ad 0)), (1, .int x1), (2, .int x2), (3, .int x3), (4, .int x4)]) hx hb dX10_put_70 hl (by decide) rfl (fun ls hl => ?_)
            exact L72 FU _ _ _ _ _ _ _ h _ _ _ w (lv_sub hl [4, 7, 8, 3, 2, 1, 0] rfl)
          · have h := it_t h c5
            refine lv_iconst (v := -1) hx hb dX10_put_52 (by decide) ?_
            rw [hQ]
            exact rI (F := CW ca ad) C w h dX10_put_53
        · have h := it_t h c4
          exact b33 _ h _ _ _ w (lv_sub hl [0] rfl)
theorem hd_X10_meet : yX10_meet.cls = RX10 ∧ yX10_meet.cls ≠ "java/lang/invoke/MethodHandle" ∧ yX10_meet.cls ≠ "java/lang/invoke/VarHandle" ∧ (parseMethodDescriptor yX10_meet.desc).map (fun d => d.parameters.length) = some 2 := by decide +kernel
def f_X10_meet_b14 (σ : St) : Option (Int32 × St) := (f_X10_refuseAsBad σ).bind fun q1 => some (q1.1, q1.2)
def f_X10_meet (σ : St) (x1 : Int32) (x2 : Int32) : Option (Int32 × St) := (f_X3_isLetter x1).bind fun q1 => if q1 = 0 then (f_X10_meet_b14 σ) else ((f_X3_isLetter x2).bind fun q2 => if q2 = 0 then (f_X10_meet_b14 σ) else ((f_X3_third x1 x2).bind fun q3 => some (q3, σ)))
abbrev rm_X10_meet : Room := { frames := 2, cells := 0, slots := 0, locals := 120 }
set_option maxHeartbeats 4000000 in
set_option maxRecDepth 100000 in
theorem c_X10_meet (l : Launch) (D : va_G) (ca : Nat → ClassId) (ad : Nat → Nat) (σ : St) (x1 : Int32) (x2 : Int32) (sz : Nat) (out : Int32 × St) (hf : f_X10_meet σ x1 x2 = some out) : Met l yX10_meet (.code yX10_meet cX10_meet 3 (some .int) :: WL) rm_X10_meet (PreC D ca (CW ca ad σ) sz [.ref (ad 0), .int x1, .int x2]) (PostI D (va_A (CW ca ad σ) sz) (CW ca ad out.2) out.1) 0 0 (va_A (CW ca ad σ) sz) := by
  refine Met.ofW (cc := cX10_meet) (maxL := 3) (ret := (some .int)) (by decide) rfl ?_
  intro p e s m args below meth c s₁ B hml hv
  obtain ⟨rfl, hsz, hP, hK, hD, hN⟩ := hv
  subst hsz
  have C := Cx.mk (own := RX10) B hml rfl hK hN (ws := (CW ca ad σ))
  have w : Wd (va_A (CW ca ad σ) s.heap.size) s D (CW ca ad σ) s.heap [] := ⟨hP, hD.self, va_S.rf⟩
  have hl := lv_entry ([.ref (ad 0), .int x1, .int x2]) (n := 3) (Nat.le_of_ble_eq_true rfl)
  rw [lg_entry_eq]
  generalize (lg_sl ([.ref (ad 0), .int x1, .int x2]) ++ List.replicate (3 - (lg_sl ([.ref (ad 0), .int x1, .int x2])).length) Slot.unset).toArray = ls at hl ⊢
  have hl : lv_has ls 3 [(0, .ref (ad 0)), (1, .int x1), (2, .int x2)] := hl
  change W p l e rm_X10_meet s m _ below meth c _ [] 0 0 _ _
  clear B hP hD hK hN hml
  generalize va_A (CW ca ad σ) s.heap.size = A at C w ⊢
  generalize ([.ref (ad 0), .int x1, .int x2] : List Value).toArray = av at C ⊢
  obtain ⟨Q, hQ⟩ : ∃ Q, Q = MQ below (PostI D A (CW ca ad out.2) out.1) av s 0 0 A := ⟨_, rfl⟩
  rw [← hQ]
  have hx := C.1
  have hb := C.2.1
  have b14 : ∀ (σ : St), f_X10_meet_b14 σ = some out → Bk p l e rm_X10_meet s m av below meth c A D 3 Q (CW ca ad σ) 14 [(0, .ref (ad 0))] [] := by
    intro σ h H locs ls w hl
    unfold f_X10_meet_b14 at h
    refine lv_aload_n hx hb dX10_meet_14 rfl (lv_at hl 0 rfl) ?_
    obtain ⟨q1, hq1, h⟩ := ob_t h
    refine res_i C w (run_V (As := []) (rest := []) C w hl.1 (recvC0 C w) (c_X10_refuseAsBad l D ca ad _  _ q1 hq1) rfl rfl wl_117 wl_118 wl_119 wl_2 wl_120 hd_X10_refuseAsBad rfl ⟨Nat.le_of_ble_eq_true rfl, Nat.le_of_ble_eq_true rfl⟩ rfl (Nat.le_of_ble_eq_true rfl) dX10_meet_15) (fun H locs w => ?_)
    rw [hQ]
    exact rI (F := CW ca ad) C w h dX10_meet_18
  have h := hf
  unfold f_X10_meet at h
  refine lv_iload_n hx hb dX10_meet_0 rfl (lv_at hl 1 rfl) ?_
  obtain ⟨q1, hq1, h⟩ := ob_t h
  refine res_i C w (run_S (As := [.int x1]) (rest := []) C w hl.1 (c_X3_isLetter l D ca _ x1 _ q1 hq1) rfl rfl wl_459 wl_460 wl_461 wl_462 hd_X3_isLetter rfl ⟨Nat.le_of_ble_eq_true rfl, Nat.le_of_ble_eq_true rfl⟩ rfl (Nat.le_of_ble_eq_true rfl) dX10_meet_1) (fun H locs w => ?_)
  refine lv_if_eq (tgt := 14) hx hb dX10_meet_4 (by decide) (fun c1 => ?_) (fun c1 => ?_)
  · have h := it_t h c1
    exact b14 _ h _ _ _ w (lv_sub hl [0] rfl)
  · have h := it_f h c1
    refine lv_iload_n hx hb dX10_meet_7 rfl (lv_at hl 2 rfl) ?_
    obtain ⟨q2, hq2, h⟩ := ob_t h
    refine res_i C w (run_S (As := [.int x2]) (rest := []) C w hl.1 (c_X3_isLetter l D ca _ x2 _ q2 hq2) rfl rfl wl_459 wl_460 wl_461 wl_462 hd_X3_isLetter rfl ⟨Nat.le_of_ble_eq_true rfl, Nat.le_of_ble_eq_true rfl⟩ rfl (Nat.le_of_ble_eq_true rfl) dX10_meet_8) (fun H locs w => ?_)
    refine lv_if_ne (tgt := 19) hx hb dX10_meet_11 (by decide) (fun c2 => ?_) (fun c2 => ?_)
    · have h := it_f h c2
      refine lv_iload_n hx hb dX10_meet_19 rfl (lv_at hl 1 rfl) ?_
      refine lv_iload_n hx hb dX10_meet_20 rfl (lv_at hl 2 rfl) ?_
      obtain ⟨q3, hq3, h⟩ := ob_t h
      refine res_i C w (run_S (As := [.int x1, .int x2]) (rest := []) C w hl.1 (c_X3_third l D ca _ x1 x2 _ q3 hq3) rfl rfl wl_693 wl_694 wl_461 wl_695 hd_X3_third rfl ⟨Nat.le_of_ble_eq_true rfl, Nat.le_of_ble_eq_true rfl⟩ rfl (Nat.le_of_ble_eq_true rfl) dX10_meet_21) (fun H locs w => ?_)
      rw [hQ]
      exact rI (F := CW ca ad) C w h dX10_meet_24
    · have h := it_t h c2
      exact b14 _ h _ _ _ w (lv_sub hl [0] rfl)
theorem hd_X7_fewestToPart : yX7_fewestToPart.cls = RX7 ∧ yX7_fewestToPart.cls ≠ "java/lang/invoke/MethodHandle" ∧ yX7_fewestToPart.cls ≠ "java/lang/invoke/VarHandle" ∧ (parseMethodDescriptor yX7_fewestToPart.desc).map (fun d => d.parameters.length) = some 2 := by decide +kernel
def f_X7_fewestToPart_b122 (K60 : St → Int32 → Int32 → Int32 → Int32 → Int32 → Int32 → Option (Int32 × St)) (σ : St) (x1 : Int32) (x2 : Int32) (x3 : Int32) (x4 : Int32) (x5 : Int32) (x6 : Int32) : Option (Int32 × St) := K60 σ x1 x2 x3 x4 x5 (x6 + (1 : Int32))
def f_X7_fewestToPart_b60 (K60 : St → Int32 → Int32 → Int32 → Int32 → Int32 → Int32 → Option (Int32 × St)) (σ : St) (x1 : Int32) (x2 : Int32) (x3 : Int32) (x4 : Int32) (x5 : Int32) (x6 : Int32) : Option (Int32 × St) := if ((1 : Int32) <<< ((σ.1 106) &&& 31)) ≤ x6 then (some (x4, σ)) else ((f_J6_bitCount_0f7a4 x6).bind fun q1 => if (x6 &&& x3) = 0 then (if x5 ≤ q1 then (f_X7_fewestToPart_b122 K60 σ x1 x2 x3 x4 x5 x6) else ((f_X7_joins σ x1 x2 ((σ.1 107) ||| x6)).bind fun q2 => if q2.1 = 0 then (f_X7_fewestToPart_b122 K60 q2.2 x1 x2 x3 x6 q1 x6) else (f_X7_fewestToPart_b122 K60 q2.2 x1 x2 x3 x4 x5 x6))) else (f_X7_fewestToPart_b122 K60 σ x1 x2 x3 x4 x5 x6))
def f_X7_fewestToPart_L60 : Nat → St → Int32 → Int32 → Int32 → Int32 → Int32 → Int32 → Option (Int32 × St)
  | 0 => fun _ _ _ _ _ _ _ => none
  | n + 1 => f_X7_fewestToPart_b60 (f_X7_fewestToPart_L60 n)
def f_X7_fewestToPart (σ : St) (x1 : Int32) (x2 : Int32) : Option (Int32 × St) := (f_X7_joins σ x1 x2 (σ.1 107)).bind fun q1 => if q1.1 = 0 then (some ((0 : Int32), q1.2)) else (if x1 = x2 then (some ((-1 : Int32), q1.2)) else (cond (ckI x1 7) (if (((q1.2.2.2 3 x1.toNatClampNeg) >>> (x2 &&& 31)) &&& (1 : Int32)) = (1 : Int32) then (some ((-1 : Int32), q1.2)) else (f_X7_fewestToPart_L60 FU q1.2 x1 x2 (((1 : Int32) <<< (x1 &&& 31)) ||| ((1 : Int32) <<< (x2 &&& 31))) (-1 : Int32) (7 : Int32) (1 : Int32))) none))
abbrev rm_X7_fewestToPart : Room := { frames := 1, cells := 0, slots := 0, locals := 60 }
set_option maxHeartbeats 4000000 in
set_option maxRecDepth 100000 in
theorem c_X7_fewestToPart (l : Launch) (D : va_G) (ca : Nat → ClassId) (ad : Nat → Nat) (σ : St) (x1 : Int32) (x2 : Int32) (sz : Nat) (out : Int32 × St) (hf : f_X7_fewestToPart σ x1 x2 = some out) : Met l yX7_fewestToPart (.code yX7_fewestToPart cX7_fewestToPart 8 (some .int) :: WL) rm_X7_fewestToPart (PreC D ca (CW ca ad σ) sz [.ref (ad 38), .int x1, .int x2]) (PostI D (va_A (CW ca ad σ) sz) (CW ca ad out.2) out.1) 0 0 (va_A (CW ca ad σ) sz) := by
  refine Met.ofW (cc := cX7_fewestToPart) (maxL := 8) (ret := (some .int)) (by decide) rfl ?_
  intro p e s m args below meth c s₁ B hml hv
  obtain ⟨rfl, hsz, hP, hK, hD, hN⟩ := hv
  subst hsz
  have C := Cx.mk (own := RX7) B hml rfl hK hN (ws := (CW ca ad σ))
  have w : Wd (va_A (CW ca ad σ) s.heap.size) s D (CW ca ad σ) s.heap [] := ⟨hP, hD.self, va_S.rf⟩
  have hl := lv_entry ([.ref (ad 38), .int x1, .int x2]) (n := 8) (Nat.le_of_ble_eq_true rfl)
  rw [lg_entry_eq]
  generalize (lg_sl ([.ref (ad 38), .int x1, .int x2]) ++ List.replicate (8 - (lg_sl ([.ref (ad 38), .int x1, .int x2])).length) Slot.unset).toArray = ls at hl ⊢
  have hl : lv_has ls 8 [(0, .ref (ad 38)), (1, .int x1), (2, .int x2)] := hl
  change W p l e rm_X7_fewestToPart s m _ below meth c _ [] 0 0 _ _
  clear B hP hD hK hN hml
  generalize va_A (CW ca ad σ) s.heap.size = A at C w ⊢
  generalize ([.ref (ad 38), .int x1, .int x2] : List Value).toArray = av at C ⊢
  obtain ⟨Q, hQ⟩ : ∃ Q, Q = MQ below (PostI D A (CW ca ad out.2) out.1) av s 0 0 A := ⟨_, rfl⟩
  rw [← hQ]
  have hx := C.1
  have hb := C.2.1
  have L60 : ∀ (n60 : Nat) (σ : St) (x1 : Int32) (x2 : Int32) (x3 : Int32) (x4 : Int32) (x5 : Int32) (x6 : Int32), f_X7_fewestToPart_L60 n60 σ x1 x2 x3 x4 x5 x6 = some out → Bk p l e rm_X7_fewestToPart s m av below meth c A D 8 Q (CW ca ad σ) 60 [(0, .ref (ad 38)), (1, .int x1), (2, .int x2), (3, .int x3), (4, .int x4), (5, .int x5), (6, .int x6)] [] := by
    intro n60
    induction n60 with
    | zero => intro σ x1 x2 x3 x4 x5 x6 h; exact absurd h (by simp [f_X7_fewestToPart_L60])
    | succ n60 ih60 =>
      have b122 : ∀ (σ : St) (x1 : Int32) (x2 : Int32) (x3 : Int32) (x4 : Int32) (x5 : Int32) (x6 : Int32), f_X7_fewestToPart_b122 (f_X7_fewestToPart_L60 n60) σ x1 x2 x3 x4 x5 x6 = some out → Bk p l e rm_X7_fewestToPart s m av below meth c A D 8 Q (CW ca ad σ) 122 [(0, .ref (ad 38)), (1, .int x1), (2, .int x2), (3, .int x3), (4, .int x4), (5, .int x5), (6, .int x6)] [] := by
        intro σ x1 x2 x3 x4 x5 x6 h H locs ls w hl
        unfold f_X7_fewestToPart_b122 at h
        refine lv_iinc (v := (x6 + (1 : Int32))) (lv' := [(6, .int (x6 + (1 : Int32))), (0, .ref (ad 38)), (1, .int x1), (2, .int x2), (3, .int x3), (4, .int x4), (5, .int x5)]) hx hb dX7_fewestToPart_122 hl (k := 6) rfl rfl (by decide) rfl (fun ls hl => ?_)
        refine lv_goto (tgt := 60) hx hb dX7_fewestToPart_125 (by decide) ?_
        exact ih60 _ _ _ _ _ _ _ h _ _ _ w (lv_sub hl [1, 2, 3, 4, 5, 6, 0] rfl)
      intro σ x1 x2 x3 x4 x5 x6 h H locs ls w hl
      change f_X7_fewestToPart_b60 (f_X7_fewestToPart_L60 n60) σ x1 x2 x3 x4 x5 x6 = some out at h
      unfold f_X7_fewestToPart_b60 at h
      refine lv_iload hx hb dX7_fewestToPart_60 (lv_at hl 6 rfl) ?_
      refine lv_iconst (v := 1) hx hb dX7_fewestToPart_62 (by decide) ?_
      refine lv_aload_n hx hb dX7_fewestToPart_63 rfl (lv_at hl 0 rfl) ?_
      refine gC38_0 C w wl_82 dX7_fewestToPart_64 ?_
      refine gC1_6 (v := (σ.1 106)) C w rfl wl_552 dX7_fewestToPart_67 ?_
      refine lv_ishl hx hb dX7_fewestToPart_70 ?_
      refine lv_icmp_ge (tgt := 128) hx hb dX7_fewestToPart_71 (by decide) (fun c1 => ?_) (fun c1 => ?_)
      · have h := it_t h c1
        refine lv_iload hx hb dX7_fewestToPart_128 (lv_at hl 4 rfl) ?_
        rw [hQ]
        exact rI (F := CW ca ad) C w h dX7_fewestToPart_130
      · have h := it_f h c1
        refine lv_iload hx hb dX7_fewestToPart_74 (lv_at hl 6 rfl) ?_
        obtain ⟨q1, hq1, h⟩ := ob_t h
        refine res_i C w (run_S (As := [.int x6]) (rest := []) C w hl.1 (c_J6_bitCount_0f7a4 l D ca _ x6 _ q1 hq1) rfl rfl wl_721 wl_722 wl_723 wl_724 hd_J6_bitCount_0f7a4 rfl ⟨Nat.le_of_ble_eq_true rfl, Nat.le_of_ble_eq_true rfl⟩ rfl (Nat.le_of_ble_eq_true rfl) dX7_fewestToPart_76) (fun H locs w => ?_)
        refine lv_istore (lv' := [(7, .int q1), (0, .ref (ad 38)), (1, .int x1), (2, .int x2), (3, .int x3), (4, .int x4), (5, .int x5), (6, .int x6)]) hx hb dX7_fewestToPart_79 hl (by decide) rfl (fun ls hl => ?_)
        refine lv_iload hx hb dX7_fewestToPart_81 (lv_at hl 7 rfl) ?_
        refine lv_iload_n hx hb dX7_fewestToPart_83 rfl (lv_at hl 4 rfl) ?_
        refine lv_iand hx hb dX7_fewestToPart_84 ?_
        refine lv_if_ne (tgt := 122) hx hb dX7_fewestToPart_85 (by decide) (fun c2 => ?_) (fun c2 => ?_)
        · have h := it_f h c2
          exact b122 _ _ _ _ _ _ _ h _ _ _ w (lv_sub hl [1, 2, 3, 4, 5, 6, 7] rfl)
        · have h := it_t h c2
          refine lv_iload hx hb dX7_fewestToPart_88 (lv_at hl 0 rfl) ?_
          refine lv_iload hx hb dX7_fewestToPart_90 (lv_at hl 6 rfl) ?_
          refine lv_icmp_ge (tgt := 122) hx hb dX7_fewestToPart_92 (by decide) (fun c3 => ?_) (fun c3 => ?_)
          · have h := it_t h c3
            exact b122 _ _ _ _ _ _ _ h _ _ _ w (lv_sub hl [1, 2, 3, 4, 5, 6, 7] rfl)
          · have h := it_f h c3
            refine lv_aload_n hx hb dX7_fewestToPart_95 rfl (lv_at hl 1 rfl) ?_
            refine lv_iload_n hx hb dX7_fewestToPart_96 rfl (lv_at hl 2 rfl) ?_
            refine lv_iload_n hx hb dX7_fewestToPart_97 rfl (lv_at hl 3 rfl) ?_
            refine lv_aload_n hx hb dX7_fewestToPart_98 rfl (lv_at hl 1 rfl) ?_
            refine gC38_0 C w wl_82 dX7_fewestToPart_99 ?_
            refine gC1_7 (v := (σ.1 107)) C w rfl wl_559 dX7_fewestToPart_102 ?_
            refine lv_iload hx hb dX7_fewestToPart_105 (lv_at hl 7 rfl) ?_
            refine lv_ior hx hb dX7_fewestToPart_107 ?_
            obtain ⟨q2, hq2, h⟩ := ob_t h
            refine res_i C w (run_V (As := [.int x1, .int x2, .int ((σ.1 107) ||| x6)]) (rest := []) C w hl.1 (recvC38 C w) (c_X7_joins l D ca ad _ x1 x2 ((σ.1 107) ||| x6) _ q2 hq2) rfl rfl wl_605 wl_606 wl_607 wl_41 wl_608 hd_X7_joins rfl ⟨Nat.le_of_ble_eq_true rfl, Nat.le_of_ble_eq_true rfl⟩ rfl (Nat.le_of_ble_eq_true rfl) dX7_fewestToPart_108) (fun H locs w => ?_)
            refine lv_if_ne (tgt := 122) hx hb dX7_fewestToPart_111 (by decide) (fun c4 => ?_) (fun c4 => ?_)
            · have h := it_f h c4
              exact b122 _ _ _ _ _ _ _ h _ _ _ w (lv_sub hl [1, 2, 3, 4, 5, 6, 7] rfl)
            · have h := it_t h c4
              refine lv_iload hx hb dX7_fewestToPart_114 (lv_at hl 7 rfl) ?_
              refine lv_istore (lv' := [(4, .int x6), (7, .int q1), (0, .ref (ad 38)), (1, .int x1), (2, .int x2), (3, .int x3), (5, .int x5), (6, .int x6)]) hx hb dX7_fewestToPart_116 hl (by decide) rfl (fun ls hl => ?_)
              refine lv_iload hx hb dX7_fewestToPart_118 (lv_at hl 1 rfl) ?_
              refine lv_istore (lv' := [(5, .int q1), (4, .int x6), (7, .int q1), (0, .ref (ad 38)), (1, .int x1), (2, .int x2), (3, .int x3), (6, .int x6)]) hx hb dX7_fewestToPart_120 hl (by decide) rfl (fun ls hl => ?_)
              exact b122 _ _ _ _ _ _ _ h _ _ _ w (lv_sub hl [3, 4, 5, 6, 1, 0, 7] rfl)
  have h := hf
  unfold f_X7_fewestToPart at h
  refine lv_aload_n hx hb dX7_fewestToPart_0 rfl (lv_at hl 0 rfl) ?_
  refine lv_iload_n hx hb dX7_fewestToPart_1 rfl (lv_at hl 1 rfl) ?_
  refine lv_iload_n hx hb dX7_fewestToPart_2 rfl (lv_at hl 2 rfl) ?_
  refine lv_aload_n hx hb dX7_fewestToPart_3 rfl (lv_at hl 0 rfl) ?_
  refine gC38_0 C w wl_82 dX7_fewestToPart_4 ?_
  refine gC1_7 (v := (σ.1 107)) C w rfl wl_559 dX7_fewestToPart_7 ?_
  obtain ⟨q1, hq1, h⟩ := ob_t h
  refine res_i C w (run_V (As := [.int x1, .int x2, .int (σ.1 107)]) (rest := []) C w hl.1 (recvC38 C w) (c_X7_joins l D ca ad _ x1 x2 (σ.1 107) _ q1 hq1) rfl rfl wl_605 wl_606 wl_607 wl_41 wl_608 hd_X7_joins rfl ⟨Nat.le_of_ble_eq_true rfl, Nat.le_of_ble_eq_true rfl⟩ rfl (Nat.le_of_ble_eq_true rfl) dX7_fewestToPart_10) (fun H locs w => ?_)
  refine lv_if_ne (tgt := 18) hx hb dX7_fewestToPart_13 (by decide) (fun c1 => ?_) (fun c1 => ?_)
  · have h := it_f h c1
    refine lv_iload_n hx hb dX7_fewestToPart_18 rfl (lv_at hl 1 rfl) ?_
    refine lv_iload_n hx hb dX7_fewestToPart_19 rfl (lv_at hl 2 rfl) ?_
    refine lv_icmp_eq (tgt := 40) hx hb dX7_fewestToPart_20 (by decide) (fun c2 => ?_) (fun c2 => ?_)
    · have h := it_t h c2
      refine lv_iconst (v := -1) hx hb dX7_fewestToPart_40 (by decide) ?_
      rw [hQ]
      exact rI (F := CW ca ad) C w h dX7_fewestToPart_41
    · have h := it_f h c2
      refine lv_aload_n hx hb dX7_fewestToPart_23 rfl (lv_at hl 0 rfl) ?_
      refine gC38_0 C w wl_82 dX7_fewestToPart_24 ?_
      refine gC1_1 C w wl_558 dX7_fewestToPart_27 ?_
      refine lv_iload_n hx hb dX7_fewestToPart_30 rfl (lv_at hl 1 rfl) ?_
      obtain ⟨i3, h⟩ := ck_t h
      refine ldC3 (v := (q1.2.2.2 3 x1.toNatClampNeg)) C w i3 rfl dX7_fewestToPart_31 ?_
      refine lv_iload_n hx hb dX7_fewestToPart_32 rfl (lv_at hl 2 rfl) ?_
      refine lv_ishr hx hb dX7_fewestToPart_33 ?_
      refine lv_iconst (v := 1) hx hb dX7_fewestToPart_34 (by decide) ?_
      refine lv_iand hx hb dX7_fewestToPart_35 ?_
      refine lv_iconst (v := 1) hx hb dX7_fewestToPart_36 (by decide) ?_
      refine lv_icmp_ne (tgt := 42) hx hb dX7_fewestToPart_37 (by decide) (fun c4 => ?_) (fun c4 => ?_)
      · have h := it_f h c4
        refine lv_iconst (v := 1) hx hb dX7_fewestToPart_42 (by decide) ?_
        refine lv_iload_n hx hb dX7_fewestToPart_43 rfl (lv_at hl 1 rfl) ?_
        refine lv_ishl hx hb dX7_fewestToPart_44 ?_
        refine lv_iconst (v := 1) hx hb dX7_fewestToPart_45 (by decide) ?_
        refine lv_iload_n hx hb dX7_fewestToPart_46 rfl (lv_at hl 2 rfl) ?_
        refine lv_ishl hx hb dX7_fewestToPart_47 ?_
        refine lv_ior hx hb dX7_fewestToPart_48 ?_
        refine lv_istore_n (lv' := [(3, .int (((1 : Int32) <<< (x1 &&& 31)) ||| ((1 : Int32) <<< (x2 &&& 31)))), (0, .ref (ad 38)), (1, .int x1), (2, .int x2)]) hx hb dX7_fewestToPart_49 rfl hl (by decide) rfl (fun ls hl => ?_)
        refine lv_iconst (v := -1) hx hb dX7_fewestToPart_50 (by decide) ?_
        refine lv_istore (lv' := [(4, .int (-1 : Int32)), (3, .int (((1 : Int32) <<< (x1 &&& 31)) ||| ((1 : Int32) <<< (x2 &&& 31)))), (0, .ref (ad 38)), (1, .int x1), (2, .int x2)]) hx hb dX7_fewestToPart_51 hl (by decide) rfl (fun ls hl => ?_)
        refine lv_bipush (v := 7) hx hb dX7_fewestToPart_53 (by decide) ?_
        refine lv_istore (lv' := [(5, .int (7 : Int32)), (4, .int (-1 : Int32)), (3, .int (((1 : Int32) <<< (x1 &&& 31)) ||| ((1 : Int32) <<< (x2 &&& 31)))), (0, .ref (ad 38)), (1, .int x1), (2, .int x2)]) hx hb dX7_fewestToPart_55 hl (by decide) rfl (fun ls hl => ?_)
        refine lv_iconst (v := 1) hx hb dX7_fewestToPart_57 (by decide) ?_
        refine lv_istore (lv' := [(6, .int (1 : Int32)), (5, .int (7 : Int32)), (4, .int (-1 : Int32)), (3, .int (((1 : Int32) <<< (x1 &&& 31)) ||| ((1 : Int32) <<< (x2 &&& 31)))), (0, .ref (ad 38)), (1, .int x1), (2, .int x2)]) hx hb dX7_fewestToPart_58 hl (by decide) rfl (fun ls hl => ?_)
        exact L60 FU _ _ _ _ _ _ _ h _ _ _ w (lv_sub hl [4, 5, 6, 3, 2, 1, 0] rfl)
      · have h := it_t h c4
        refine lv_iconst (v := -1) hx hb dX7_fewestToPart_40 (by decide) ?_
        rw [hQ]
        exact rI (F := CW ca ad) C w h dX7_fewestToPart_41
  · have h := it_t h c1
    refine lv_iconst (v := 0) hx hb dX7_fewestToPart_16 (by decide) ?_
    rw [hQ]
    exact rI (F := CW ca ad) C w h dX7_fewestToPart_17
theorem hd_X10_apart : yX10_apart.cls = RX10 ∧ yX10_apart.cls ≠ "java/lang/invoke/MethodHandle" ∧ yX10_apart.cls ≠ "java/lang/invoke/VarHandle" ∧ (parseMethodDescriptor yX10_apart.desc).map (fun d => d.parameters.length) = some 2 := by decide +kernel
def f_X10_apart_b16 (σ : St) : Option (Int32 × St) := (f_X10_refuseAsBad σ).bind fun q1 => some (q1.1, q1.2)
def f_X10_apart (σ : St) (x1 : Int32) (x2 : Int32) : Option (Int32 × St) := (f_X10_isTree σ x1).bind fun q1 => if q1.1 = 0 then (f_X10_apart_b16 q1.2) else ((f_X10_isTree q1.2 x2).bind fun q2 => if q2.1 = 0 then (f_X10_apart_b16 q2.2) else ((f_X7_fewestToPart q2.2 x1 x2).bind fun q3 => some (q3.1, q3.2)))
abbrev rm_X10_apart : Room := { frames := 2, cells := 0, slots := 0, locals := 120 }
set_option maxHeartbeats 4000000 in
set_option maxRecDepth 100000 in
theorem c_X10_apart (l : Launch) (D : va_G) (ca : Nat → ClassId) (ad : Nat → Nat) (σ : St) (x1 : Int32) (x2 : Int32) (sz : Nat) (out : Int32 × St) (hf : f_X10_apart σ x1 x2 = some out) : Met l yX10_apart (.code yX10_apart cX10_apart 3 (some .int) :: WL) rm_X10_apart (PreC D ca (CW ca ad σ) sz [.ref (ad 0), .int x1, .int x2]) (PostI D (va_A (CW ca ad σ) sz) (CW ca ad out.2) out.1) 0 0 (va_A (CW ca ad σ) sz) := by
  refine Met.ofW (cc := cX10_apart) (maxL := 3) (ret := (some .int)) (by decide) rfl ?_
  intro p e s m args below meth c s₁ B hml hv
  obtain ⟨rfl, hsz, hP, hK, hD, hN⟩ := hv
  subst hsz
  have C := Cx.mk (own := RX10) B hml rfl hK hN (ws := (CW ca ad σ))
  have w : Wd (va_A (CW ca ad σ) s.heap.size) s D (CW ca ad σ) s.heap [] := ⟨hP, hD.self, va_S.rf⟩
  have hl := lv_entry ([.ref (ad 0), .int x1, .int x2]) (n := 3) (Nat.le_of_ble_eq_true rfl)
  rw [lg_entry_eq]
  generalize (lg_sl ([.ref (ad 0), .int x1, .int x2]) ++ List.replicate (3 - (lg_sl ([.ref (ad 0), .int x1, .int x2])).length) Slot.unset).toArray = ls at hl ⊢
  have hl : lv_has ls 3 [(0, .ref (ad 0)), (1, .int x1), (2, .int x2)] := hl
  change W p l e rm_X10_apart s m _ below meth c _ [] 0 0 _ _
  clear B hP hD hK hN hml
  generalize va_A (CW ca ad σ) s.heap.size = A at C w ⊢
  generalize ([.ref (ad 0), .int x1, .int x2] : List Value).toArray = av at C ⊢
  obtain ⟨Q, hQ⟩ : ∃ Q, Q = MQ below (PostI D A (CW ca ad out.2) out.1) av s 0 0 A := ⟨_, rfl⟩
  rw [← hQ]
  have hx := C.1
  have hb := C.2.1
  have b16 : ∀ (σ : St), f_X10_apart_b16 σ = some out → Bk p l e rm_X10_apart s m av below meth c A D 3 Q (CW ca ad σ) 16 [(0, .ref (ad 0))] [] := by
    intro σ h H locs ls w hl
    unfold f_X10_apart_b16 at h
    refine lv_aload_n hx hb dX10_apart_16 rfl (lv_at hl 0 rfl) ?_
    obtain ⟨q1, hq1, h⟩ := ob_t h
    refine res_i C w (run_V (As := []) (rest := []) C w hl.1 (recvC0 C w) (c_X10_refuseAsBad l D ca ad _  _ q1 hq1) rfl rfl wl_117 wl_118 wl_119 wl_2 wl_120 hd_X10_refuseAsBad rfl ⟨Nat.le_of_ble_eq_true rfl, Nat.le_of_ble_eq_true rfl⟩ rfl (Nat.le_of_ble_eq_true rfl) dX10_apart_17) (fun H locs w => ?_)
    rw [hQ]
    exact rI (F := CW ca ad) C w h dX10_apart_20
  have h := hf
  unfold f_X10_apart at h
  refine lv_aload_n hx hb dX10_apart_0 rfl (lv_at hl 0 rfl) ?_
  refine lv_iload_n hx hb dX10_apart_1 rfl (lv_at hl 1 rfl) ?_
  obtain ⟨q1, hq1, h⟩ := ob_t h
  refine res_i C w (run_V (As := [.int x1]) (rest := []) C w hl.1 (recvC0 C w) (c_X10_isTree l D ca ad _ x1 _ q1 hq1) rfl rfl wl_176 wl_177 wl_178 wl_2 wl_179 hd_X10_isTree rfl ⟨Nat.le_of_ble_eq_true rfl, Nat.le_of_ble_eq_true rfl⟩ rfl (Nat.le_of_ble_eq_true rfl) dX10_apart_2) (fun H locs w => ?_)
  refine lv_if_eq (tgt := 16) hx hb dX10_apart_5 (by decide) (fun c1 => ?_) (fun c1 => ?_)
  · have h := it_t h c1
    exact b16 _ h _ _ _ w (lv_sub hl [0] rfl)
  · have h := it_f h c1
    refine lv_aload_n hx hb dX10_apart_8 rfl (lv_at hl 0 rfl) ?_
    refine lv_iload_n hx hb dX10_apart_9 rfl (lv_at hl 2 rfl) ?_
    obtain ⟨q2, hq2, h⟩ := ob_t h
    refine res_i C w (run_V (As := [.int x2]) (rest := []) C w hl.1 (recvC0 C w) (c_X10_isTree l D ca ad _ x2 _ q2 hq2) rfl rfl wl_176 wl_177 wl_178 wl_2 wl_179 hd_X10_isTree rfl ⟨Nat.le_of_ble_eq_true rfl, Nat.le_of_ble_eq_true rfl⟩ rfl (Nat.le_of_ble_eq_true rfl) dX10_apart_10) (fun H locs w => ?_)
    refine lv_if_ne (tgt := 21) hx hb dX10_apart_13 (by decide) (fun c2 => ?_) (fun c2 => ?_)
    · have h := it_f h c2
      refine lv_aload_n hx hb dX10_apart_21 rfl (lv_at hl 0 rfl) ?_
      refine gC0_5 C w wl_42 dX10_apart_22 ?_
      refine lv_iload_n hx hb dX10_apart_25 rfl (lv_at hl 1 rfl) ?_
      refine lv_iload_n hx hb dX10_apart_26 rfl (lv_at hl 2 rfl) ?_
      obtain ⟨q3, hq3, h⟩ := ob_t h
      refine res_i C w (run_V (As := [.int x1, .int x2]) (rest := []) C w hl.1 (recvC38 C w) (c_X7_fewestToPart l D ca ad _ x1 x2 _ q3 hq3) rfl rfl wl_717 wl_718 wl_719 wl_41 wl_720 hd_X7_fewestToPart rfl ⟨Nat.le_of_ble_eq_true rfl, Nat.le_of_ble_eq_true rfl⟩ rfl (Nat.le_of_ble_eq_true rfl) dX10_apart_27) (fun H locs w => ?_)
      rw [hQ]
      exact rI (F := CW ca ad) C w h dX10_apart_30
    · have h := it_t h c2
      exact b16 _ h _ _ _ w (lv_sub hl [0] rfl)
theorem hd_X7_rowsEnding : yX7_rowsEnding.cls = RX7 ∧ yX7_rowsEnding.cls ≠ "java/lang/invoke/MethodHandle" ∧ yX7_rowsEnding.cls ≠ "java/lang/invoke/VarHandle" ∧ (parseMethodDescriptor yX7_rowsEnding.desc).map (fun d => d.parameters.length) = some 2 := by decide +kernel
def f_X7_rowsEnding_b95 (K55 : St → Int32 → Int32 → Int32 → Int32 → Option (Int32 × St)) (σ : St) (x3 : Int32) (x4 : Int32) (x5 : Int32) (x6 : Int32) : Option (Int32 × St) := K55 σ x3 x4 x5 (x6 + (1 : Int32))
def f_X7_rowsEnding_b55 (K55 : St → Int32 → Int32 → Int32 → Int32 → Option (Int32 × St)) (σ : St) (x3 : Int32) (x4 : Int32) (x5 : Int32) (x6 : Int32) : Option (Int32 × St) := if (σ.1 106) ≤ x6 then (some (x5, σ)) else (if ((x4 >>> (x6 &&& 31)) &&& (1 : Int32)) = (1 : Int32) then (cond (ckI ((x3 * (7 : Int32)) + x6) 896) (f_X7_rowsEnding_b95 K55 σ x3 x4 (x5 + (σ.2.2 39 (((x3 * (7 : Int32)) + x6)).toNatClampNeg)) x6) none) else (f_X7_rowsEnding_b95 K55 σ x3 x4 x5 x6))
def f_X7_rowsEnding_L55 : Nat → St → Int32 → Int32 → Int32 → Int32 → Option (Int32 × St)
  | 0 => fun _ _ _ _ _ => none
  | n + 1 => f_X7_rowsEnding_b55 (f_X7_rowsEnding_L55 n)
def f_X7_rowsEnding (σ : St) (x1 : Int32) (x2 : Int32) : Option (Int32 × St) := if ((x1 >>> (x2 &&& 31)) &&& (1 : Int32)) = 0 then (some ((0 : Int32), σ)) else (if (x1 &&& (σ.1 107)) = 0 then (if (x1 &&& (((1 : Int32) <<< (x2 &&& 31)) ^^^ (-1 : Int32))) = 0 then (some ((1 : Int32), σ)) else (cond (ckI x2 7) (f_X7_rowsEnding_L55 FU σ (x1 &&& (((1 : Int32) <<< (x2 &&& 31)) ^^^ (-1 : Int32))) ((x1 &&& (((1 : Int32) <<< (x2 &&& 31)) ^^^ (-1 : Int32))) &&& (σ.2.2 3 x2.toNatClampNeg)) (0 : Int32) (0 : Int32)) none)) else (some ((0 : Int32), σ)))
abbrev rm_X7_rowsEnding : Room := { frames := 0, cells := 0, slots := 0, locals := 0 }
set_option maxHeartbeats 4000000 in
set_option maxRecDepth 100000 in
theorem c_X7_rowsEnding (l : Launch) (D : va_G) (ca : Nat → ClassId) (ad : Nat → Nat) (σ : St) (x1 : Int32) (x2 : Int32) (sz : Nat) (out : Int32 × St) (hf : f_X7_rowsEnding σ x1 x2 = some out) : Met l yX7_rowsEnding (.code yX7_rowsEnding cX7_rowsEnding 7 (some .int) :: WL) rm_X7_rowsEnding (PreC D ca (CW ca ad σ) sz [.ref (ad 38), .int x1, .int x2]) (PostI D (va_A (CW ca ad σ) sz) (CW ca ad out.2) out.1) 0 0 (va_A (CW ca ad σ) sz) := by
  refine Met.ofW (cc := cX7_rowsEnding) (maxL := 7) (ret := (some .int)) (by decide) rfl ?_
  intro p e s m args below meth c s₁ B hml hv
  obtain ⟨rfl, hsz, hP, hK, hD, hN⟩ := hv
  subst hsz
  have C := Cx.mk (own := RX7) B hml rfl hK hN (ws := (CW ca ad σ))
  have w : Wd (va_A (CW ca ad σ) s.heap.size) s D (CW ca ad σ) s.heap [] := ⟨hP, hD.self, va_S.rf⟩
  have hl := lv_entry ([.ref (ad 38), .int x1, .int x2]) (n := 7) (Nat.le_of_ble_eq_true rfl)
  rw [lg_entry_eq]
  generalize (lg_sl ([.ref (ad 38), .int x1, .int x2]) ++ List.replicate (7 - (lg_sl ([.ref (ad 38), .int x1, .int x2])).length) Slot.unset).toArray = ls at hl ⊢
  have hl : lv_has ls 7 [(0, .ref (ad 38)), (1, .int x1), (2, .int x2)] := hl
  change W p l e rm_X7_rowsEnding s m _ below meth c _ [] 0 0 _ _
  clear B hP hD hK hN hml
  generalize va_A (CW ca ad σ) s.heap.size = A at C w ⊢
  generalize ([.ref (ad 38), .int x1, .int x2] : List Value).toArray = av at C ⊢
  obtain ⟨Q, hQ⟩ : ∃ Q, Q = MQ below (PostI D A (CW ca ad out.2) out.1) av s 0 0 A := ⟨_, rfl⟩
  rw [← hQ]
  have hx := C.1
  have hb := C.2.1
  have L55 : ∀ (n55 : Nat) (σ : St) (x3 : Int32) (x4 : Int32) (x5 : Int32) (x6 : Int32), f_X7_rowsEnding_L55 n55 σ x3 x4 x5 x6 = some out → Bk p l e rm_X7_rowsEnding s m av below meth c A D 7 Q (CW ca ad σ) 55 [(0, .ref (ad 38)), (3, .int x3), (4, .int x4), (5, .int x5), (6, .int x6)] [] := by
    intro n55
    induction n55 with
    | zero => intro σ x3 x4 x5 x6 h; exact absurd h (by simp [f_X7_rowsEnding_L55])
    | succ n55 ih55 =>
      have b95 : ∀ (σ : St) (x3 : Int32) (x4 : Int32) (x5 : Int32) (x6 : Int32), f_X7_rowsEnding_b95 (f_X7_rowsEnding_L55 n55) σ x3 x4 x5 x6 = some out → Bk p l e rm_X7_rowsEnding s m av below meth c A D 7 Q (CW ca ad σ) 95 [(0, .ref (ad 38)), (3, .int x3), (4, .int x4), (5, .int x5), (6, .int x6)] [] := by
        intro σ x3 x4 x5 x6 h H locs ls w hl
        unfold f_X7_rowsEnding_b95 at h
        refine lv_iinc (v := (x6 + (1 : Int32))) (lv' := [(6, .int (x6 + (1 : Int32))), (0, .ref (ad 38)), (3, .int x3), (4, .int x4), (5, .int x5)]) hx hb dX7_rowsEnding_95 hl (k := 4) rfl rfl (by decide) rfl (fun ls hl => ?_)
        refine lv_goto (tgt := 55) hx hb dX7_rowsEnding_98 (by decide) ?_
        exact ih55 _ _ _ _ _ h _ _ _ w (lv_sub hl [1, 2, 3, 4, 0] rfl)
      intro σ x3 x4 x5 x6 h H locs ls w hl
      change f_X7_rowsEnding_b55 (f_X7_rowsEnding_L55 n55) σ x3 x4 x5 x6 = some out at h
      unfold f_X7_rowsEnding_b55 at h
      refine lv_iload hx hb dX7_rowsEnding_55 (lv_at hl 4 rfl) ?_
      refine lv_aload_n hx hb dX7_rowsEnding_57 rfl (lv_at hl 0 rfl) ?_
      refine gC38_0 C w wl_82 dX7_rowsEnding_58 ?_
      refine gC1_6 (v := (σ.1 106)) C w rfl wl_552 dX7_rowsEnding_61 ?_
      refine lv_icmp_ge (tgt := 101) hx hb dX7_rowsEnding_64 (by decide) (fun c1 => ?_) (fun c1 => ?_)
      · have h := it_t h c1
        refine lv_iload hx hb dX7_rowsEnding_101 (lv_at hl 3 rfl) ?_
        rw [hQ]
        exact rI (F := CW ca ad) C w h dX7_rowsEnding_103
      · have h := it_f h c1
        refine lv_iload hx hb dX7_rowsEnding_67 (lv_at hl 2 rfl) ?_
        refine lv_iload hx hb dX7_rowsEnding_69 (lv_at hl 4 rfl) ?_
        refine lv_ishr hx hb dX7_rowsEnding_71 ?_
        refine lv_iconst (v := 1) hx hb dX7_rowsEnding_72 (by decide) ?_
        refine lv_iand hx hb dX7_rowsEnding_73 ?_
        refine lv_iconst (v := 1) hx hb dX7_rowsEnding_74 (by decide) ?_
        refine lv_icmp_ne (tgt := 95) hx hb dX7_rowsEnding_75 (by decide) (fun c2 => ?_) (fun c2 => ?_)
        · have h := it_f h c2
          exact b95 _ _ _ _ _ h _ _ _ w (lv_sub hl [0, 1, 2, 3, 4] rfl)
        · have h := it_t h c2
          refine lv_iload hx hb dX7_rowsEnding_78 (lv_at hl 3 rfl) ?_
          refine lv_aload_n hx hb dX7_rowsEnding_80 rfl (lv_at hl 0 rfl) ?_
          refine gC38_2 C w wl_80 dX7_rowsEnding_81 ?_
          refine lv_iload_n hx hb dX7_rowsEnding_84 rfl (lv_at hl 1 rfl) ?_
          refine lv_bipush (v := 7) hx hb dX7_rowsEnding_85 (by decide) ?_
          refine lv_imul hx hb dX7_rowsEnding_87 ?_
          refine lv_iload hx hb dX7_rowsEnding_88 (lv_at hl 4 rfl) ?_
          refine lv_iadd hx hb dX7_rowsEnding_90 ?_
          obtain ⟨i3, h⟩ := ck_t h
          refine ldC39 (v := (σ.2.2 39 (((x3 * (7 : Int32)) + x6)).toNatClampNeg)) C w i3 rfl dX7_rowsEnding_91 ?_
          refine lv_iadd hx hb dX7_rowsEnding_92 ?_
          refine lv_istore (lv' := [(5, .int (x5 + (σ.2.2 39 (((x3 * (7 : Int32)) + x6)).toNatClampNeg))), (0, .ref (ad 38)), (3, .int x3), (4, .int x4), (6, .int x6)]) hx hb dX7_rowsEnding_93 hl (by decide) rfl (fun ls hl => ?_)
          exact b95 _ _ _ _ _ h _ _ _ w (lv_sub hl [1, 2, 3, 0, 4] rfl)
  have h := hf
  unfold f_X7_rowsEnding at h
  refine lv_iload_n hx hb dX7_rowsEnding_0 rfl (lv_at hl 1 rfl) ?_
  refine lv_iload_n hx hb dX7_rowsEnding_1 rfl (lv_at hl 2 rfl) ?_
  refine lv_ishr hx hb dX7_rowsEnding_2 ?_
  refine lv_iconst (v := 1) hx hb dX7_rowsEnding_3 (by decide) ?_
  refine lv_iand hx hb dX7_rowsEnding_4 ?_
  refine lv_if_eq (tgt := 20) hx hb dX7_rowsEnding_5 (by decide) (fun c1 => ?_) (fun c1 => ?_)
  · have h := it_t h c1
    refine lv_iconst (v := 0) hx hb dX7_rowsEnding_20 (by decide) ?_
    rw [hQ]
    exact rI (F := CW ca ad) C w h dX7_rowsEnding_21
  · have h := it_f h c1
    refine lv_iload_n hx hb dX7_rowsEnding_8 rfl (lv_at hl 1 rfl) ?_
    refine lv_aload_n hx hb dX7_rowsEnding_9 rfl (lv_at hl 0 rfl) ?_
    refine gC38_0 C w wl_82 dX7_rowsEnding_10 ?_
    refine gC1_7 (v := (σ.1 107)) C w rfl wl_559 dX7_rowsEnding_13 ?_
    refine lv_iand hx hb dX7_rowsEnding_16 ?_
    refine lv_if_eq (tgt := 22) hx hb dX7_rowsEnding_17 (by decide) (fun c2 => ?_) (fun c2 => ?_)
    · have h := it_t h c2
      refine lv_iload_n hx hb dX7_rowsEnding_22 rfl (lv_at hl 1 rfl) ?_
      refine lv_iconst (v := 1) hx hb dX7_rowsEnding_23 (by decide) ?_
      refine lv_iload_n hx hb dX7_rowsEnding_24 rfl (lv_at hl 2 rfl) ?_
      refine lv_ishl hx hb dX7_rowsEnding_25 ?_
      refine lv_iconst (v := -1) hx hb dX7_rowsEnding_26 (by decide) ?_
      refine lv_ixor hx hb dX7_rowsEnding_27 ?_
      refine lv_iand hx hb dX7_rowsEnding_28 ?_
      refine lv_istore_n (lv' := [(3, .int (x1 &&& (((1 : Int32) <<< (x2 &&& 31)) ^^^ (-1 : Int32)))), (0, .ref (ad 38)), (1, .int x1), (2, .int x2)]) hx hb dX7_rowsEnding_29 rfl hl (by decide) rfl (fun ls hl => ?_)
      refine lv_iload_n hx hb dX7_rowsEnding_30 rfl (lv_at hl 0 rfl) ?_
      refine lv_if_ne (tgt := 36) hx hb dX7_rowsEnding_31 (by decide) (fun c3 => ?_) (fun c3 => ?_)
      · have h := it_f h c3
        refine lv_iload_n hx hb dX7_rowsEnding_36 rfl (lv_at hl 0 rfl) ?_
        refine lv_aload_n hx hb dX7_rowsEnding_37 rfl (lv_at hl 1 rfl) ?_
        refine gC38_0 C w wl_82 dX7_rowsEnding_38 ?_
        refine gC1_1 C w wl_558 dX7_rowsEnding_41 ?_
        refine lv_iload_n hx hb dX7_rowsEnding_44 rfl (lv_at hl 3 rfl) ?_
        obtain ⟨i4, h⟩ := ck_t h
        refine ldC3 (v := (σ.2.2 3 x2.toNatClampNeg)) C w i4 rfl dX7_rowsEnding_45 ?_
        refine lv_iand hx hb dX7_rowsEnding_46 ?_
        refine lv_istore (lv' := [(4, .int ((x1 &&& (((1 : Int32) <<< (x2 &&& 31)) ^^^ (-1 : Int32))) &&& (σ.2.2 3 x2.toNatClampNeg))), (3, .int (x1 &&& (((1 : Int32) <<< (x2 &&& 31)) ^^^ (-1 : Int32)))), (0, .ref (ad 38)), (1, .int x1), (2, .int x2)]) hx hb dX7_rowsEnding_47 hl (by decide) rfl (fun ls hl => ?_)
        refine lv_iconst (v := 0) hx hb dX7_rowsEnding_49 (by decide) ?_
        refine lv_istore (lv' := [(5, .int (0 : Int32)), (4, .int ((x1 &&& (((1 : Int32) <<< (x2 &&& 31)) ^^^ (-1 : Int32))) &&& (σ.2.2 3 x2.toNatClampNeg))), (3, .int (x1 &&& (((1 : Int32) <<< (x2 &&& 31)) ^^^ (-1 : Int32)))), (0, .ref (ad 38)), (1, .int x1), (2, .int x2)]) hx hb dX7_rowsEnding_50 hl (by decide) rfl (fun ls hl => ?_)
        refine lv_iconst (v := 0) hx hb dX7_rowsEnding_52 (by decide) ?_
        refine lv_istore (lv' := [(6, .int (0 : Int32)), (5, .int (0 : Int32)), (4, .int ((x1 &&& (((1 : Int32) <<< (x2 &&& 31)) ^^^ (-1 : Int32))) &&& (σ.2.2 3 x2.toNatClampNeg))), (3, .int (x1 &&& (((1 : Int32) <<< (x2 &&& 31)) ^^^ (-1 : Int32)))), (0, .ref (ad 38)), (1, .int x1), (2, .int x2)]) hx hb dX7_rowsEnding_53 hl (by decide) rfl (fun ls hl => ?_)
        exact L55 FU _ _ _ _ _ h _ _ _ w (lv_sub hl [4, 3, 2, 1, 0] rfl)
      · have h := it_t h c3
        refine lv_iconst (v := 1) hx hb dX7_rowsEnding_34 (by decide) ?_
        rw [hQ]
        exact rI (F := CW ca ad) C w h dX7_rowsEnding_35
    · have h := it_f h c2
      refine lv_iconst (v := 0) hx hb dX7_rowsEnding_20 (by decide) ?_
      rw [hQ]
      exact rI (F := CW ca ad) C w h dX7_rowsEnding_21
theorem hd_X7_countRowsBySets : yX7_countRowsBySets.cls = RX7 ∧ yX7_countRowsBySets.cls ≠ "java/lang/invoke/MethodHandle" ∧ yX7_countRowsBySets.cls ≠ "java/lang/invoke/VarHandle" ∧ (parseMethodDescriptor yX7_countRowsBySets.desc).map (fun d => d.parameters.length) = some 0 := by decide +kernel
def f_X7_countRowsBySets_b126 (K23 : St → Int32 → Option (St)) (σ : St) (x1 : Int32) : Option (St) := K23 σ (x1 + (1 : Int32))
def f_X7_countRowsBySets_b85 (K23 : St → Int32 → Option (St)) (K85 : St → Int32 → Int32 → Int32 → Option (St)) (σ : St) (x1 : Int32) (x2 : Int32) (x3 : Int32) : Option (St) := if (σ.1 106) ≤ x3 then (f_X7_countRowsBySets_b126 K23 σ x1) else ((f_J6_bitCount_0f7a4 x1).bind fun q1 => if q1 ≤ (1 : Int32) then (f_X7_countRowsBySets_b126 K23 σ x1) else (cond (ckI x3 7) (cond (ckI x3 7) (K85 (sE σ 40 x3.toNatClampNeg ((σ.2.2 40 x3.toNatClampNeg) + (((x1 >>> (x3 &&& 31)) &&& (1 : Int32)) * x2))) x1 x2 (x3 + (1 : Int32))) none) none))
def f_X7_countRowsBySets_L85 (K23 : St → Int32 → Option (St)) : Nat → St → Int32 → Int32 → Int32 → Option (St)
  | 0 => fun _ _ _ _ => none
  | n + 1 => f_X7_countRowsBySets_b85 K23 (f_X7_countRowsBySets_L85 K23 n)
def f_X7_countRowsBySets_b40 (K23 : St → Int32 → Option (St)) (K40 : St → Int32 → Int32 → Int32 → Option (St)) (σ : St) (x1 : Int32) (x2 : Int32) (x3 : Int32) : Option (St) := if (σ.1 106) ≤ x3 then (f_X7_countRowsBySets_L85 K23 FU σ x1 x2 (0 : Int32)) else ((f_X7_rowsEnding σ x1 x3).bind fun q1 => cond (ckI ((x1 * (7 : Int32)) + x3) 896) (K40 (sE q1.2 39 ((((x1 * (7 : Int32)) + x3)).toNatClampNeg) q1.1) x1 (x2 + q1.1) (x3 + (1 : Int32))) none)
def f_X7_countRowsBySets_L40 (K23 : St → Int32 → Option (St)) : Nat → St → Int32 → Int32 → Int32 → Option (St)
  | 0 => fun _ _ _ _ => none
  | n + 1 => f_X7_countRowsBySets_b40 K23 (f_X7_countRowsBySets_L40 K23 n)
def f_X7_countRowsBySets_b23 (K23 : St → Int32 → Option (St)) (σ : St) (x1 : Int32) : Option (St) := if ((1 : Int32) <<< ((σ.1 106) &&& 31)) ≤ x1 then (some σ) else (f_X7_countRowsBySets_L40 K23 FU σ x1 (0 : Int32) (0 : Int32))
def f_X7_countRowsBySets_L23 : Nat → St → Int32 → Option (St)
  | 0 => fun _ _ => none
  | n + 1 => f_X7_countRowsBySets_b23 (f_X7_countRowsBySets_L23 n)
def f_X7_countRowsBySets_b2 (K2 : St → Int32 → Option (St)) (σ : St) (x1 : Int32) : Option (St) := if (7 : Int32) ≤ x1 then (f_X7_countRowsBySets_L23 FU σ (1 : Int32)) else (cond (ckI x1 7) (K2 (sE σ 40 x1.toNatClampNeg (0 : Int32)) (x1 + (1 : Int32))) none)
def f_X7_countRowsBySets_L2 : Nat → St → Int32 → Option (St)
  | 0 => fun _ _ => none
  | n + 1 => f_X7_countRowsBySets_b2 (f_X7_countRowsBySets_L2 n)
def f_X7_countRowsBySets (σ : St) : Option (St) := f_X7_countRowsBySets_L2 FU σ (0 : Int32)
abbrev rm_X7_countRowsBySets : Room := { frames := 1, cells := 0, slots := 0, locals := 60 }
set_option maxHeartbeats 4000000 in
set_option maxRecDepth 100000 in
theorem c_X7_countRowsBySets (l : Launch) (D : va_G) (ca : Nat → ClassId) (ad : Nat → Nat) (σ : St)  (sz : Nat) (out : St) (hf : f_X7_countRowsBySets σ  = some out) : Met l yX7_countRowsBySets (.code yX7_countRowsBySets cX7_countRowsBySets 5 none :: WL) rm_X7_countRowsBySets (PreC D ca (CW ca ad σ) sz [.ref (ad 38)]) (PostV D (va_A (CW ca ad σ) sz) (CW ca ad out)) 0 0 (va_A (CW ca ad σ) sz) := by
  refine Met.ofW (cc := cX7_countRowsBySets) (maxL := 5) (ret := none) (by decide) rfl ?_
  intro p e s m args below meth c s₁ B hml hv
  obtain ⟨rfl, hsz, hP, hK, hD, hN⟩ := hv
  subst hsz
  have C := Cx.mk (own := RX7) B hml rfl hK hN (ws := (CW ca ad σ))
  have w : Wd (va_A (CW ca ad σ) s.heap.size) s D (CW ca ad σ) s.heap [] := ⟨hP, hD.self, va_S.rf⟩
  have hl := lv_entry ([.ref (ad 38)]) (n := 5) (Nat.le_of_ble_eq_true rfl)
  rw [lg_entry_eq]
  generalize (lg_sl ([.ref (ad 38)]) ++ List.replicate (5 - (lg_sl ([.ref (ad 38)])).length) Slot.unset).toArray = ls at hl ⊢
  have hl : lv_has ls 5 [(0, .ref (ad 38))] := hl
  change W p l e rm_X7_countRowsBySets s m _ below meth c _ [] 0 0 _ _
  clear B hP hD hK hN hml
  generalize va_A (CW ca ad σ) s.heap.size = A at C w ⊢
  generalize ([.ref (ad 38)] : List Value).toArray = av at C ⊢
  obtain ⟨Q, hQ⟩ : ∃ Q, Q = MQ below (PostV D A (CW ca ad out)) av s 0 0 A := ⟨_, rfl⟩
  rw [← hQ]
  have hx := C.1
  have hb := C.2.1
  have L23 : ∀ (n23 : Nat) (σ : St) (x1 : Int32), f_X7_countRowsBySets_L23 n23 σ x1 = some out → Bk p l e rm_X7_countRowsBySets s m av below meth c A D 5 Q (CW ca ad σ) 23 [(0, .ref (ad 38)), (1, .int x1)] [] := by
    intro n23
    induction n23 with
    | zero => intro σ x1 h; exact absurd h (by simp [f_X7_countRowsBySets_L23])
    | succ n23 ih23 =>
      have b126 : ∀ (σ : St) (x1 : Int32), f_X7_countRowsBySets_b126 (f_X7_countRowsBySets_L23 n23) σ x1 = some out → Bk p l e rm_X7_countRowsBySets s m av below meth c A D 5 Q (CW ca ad σ) 126 [(0, .ref (ad 38)), (1, .int x1)] [] := by
        intro σ x1 h H locs ls w hl
        unfold f_X7_countRowsBySets_b126 at h
        refine lv_iinc (v := (x1 + (1 : Int32))) (lv' := [(1, .int (x1 + (1 : Int32))), (0, .ref (ad 38))]) hx hb dX7_countRowsBySets_126 hl (k := 1) rfl rfl (by decide) rfl (fun ls hl => ?_)
        refine lv_goto (tgt := 23) hx hb dX7_countRowsBySets_129 (by decide) ?_
        exact ih23 _ _ h _ _ _ w (lv_sub hl [1, 0] rfl)
      have L85 : ∀ (n85 : Nat) (σ : St) (x1 : Int32) (x2 : Int32) (x3 : Int32), f_X7_countRowsBySets_L85 (f_X7_countRowsBySets_L23 n23) n85 σ x1 x2 x3 = some out → Bk p l e rm_X7_countRowsBySets s m av below meth c A D 5 Q (CW ca ad σ) 85 [(0, .ref (ad 38)), (1, .int x1), (2, .int x2), (3, .int x3)] [] := by
        intro n85
        induction n85 with
        | zero => intro σ x1 x2 x3 h; exact absurd h (by simp [f_X7_countRowsBySets_L85])
        | succ n85 ih85 =>
          intro σ x1 x2 x3 h H locs ls w hl
          change f_X7_countRowsBySets_b85 (f_X7_countRowsBySets_L23 n23) (f_X7_countRowsBySets_L85 (f_X7_countRowsBySets_L23 n23) n85) σ x1 x2 x3 = some out at h
          unfold f_X7_countRowsBySets_b85 at h
          refine lv_iload_n hx hb dX7_countRowsBySets_85 rfl (lv_at hl 3 rfl) ?_
          refine lv_aload_n hx hb dX7_countRowsBySets_86 rfl (lv_at hl 0 rfl) ?_
          refine gC38_0 C w wl_82 dX7_countRowsBySets_87 ?_
          refine gC1_6 (v := (σ.1 106)) C w rfl wl_552 dX7_countRowsBySets_90 ?_
          refine lv_icmp_ge (tgt := 126) hx hb dX7_countRowsBySets_93 (by decide) (fun c1 => ?_) (fun c1 => ?_)
          · have h := it_t h c1
            exact b126 _ _ h _ _ _ w (lv_sub hl [0, 1] rfl)
          · have h := it_f h c1
            refine lv_iload_n hx hb dX7_countRowsBySets_96 rfl (lv_at hl 1 rfl) ?_
            obtain ⟨q1, hq1, h⟩ := ob_t h
            refine res_i C w (run_S (As := [.int x1]) (rest := []) C w hl.1 (c_J6_bitCount_0f7a4 l D ca _ x1 _ q1 hq1) rfl rfl wl_721 wl_722 wl_723 wl_724 hd_J6_bitCount_0f7a4 rfl ⟨Nat.le_of_ble_eq_true rfl, Nat.le_of_ble_eq_true rfl⟩ rfl (Nat.le_of_ble_eq_true rfl) dX7_countRowsBySets_97) (fun H locs w => ?_)
            refine lv_iconst (v := 1) hx hb dX7_countRowsBySets_100 (by decide) ?_
            refine lv_icmp_le (tgt := 126) hx hb dX7_countRowsBySets_101 (by decide) (fun c2 => ?_) (fun c2 => ?_)
            · have h := it_t h c2
              exact b126 _ _ h _ _ _ w (lv_sub hl [0, 1] rfl)
            · have h := it_f h c2
              refine lv_aload_n hx hb dX7_countRowsBySets_104 rfl (lv_at hl 0 rfl) ?_
              refine gC38_3 C w wl_81 dX7_countRowsBySets_105 ?_
              refine lv_iload_n hx hb dX7_countRowsBySets_108 rfl (lv_at hl 3 rfl) ?_
              refine lv_dup2_11 hx hb dX7_countRowsBySets_109 rfl rfl ?_
              obtain ⟨i3, h⟩ := ck_t h
              refine ldC40 (v := (σ.2.2 40 x3.toNatClampNeg)) C w i3 rfl dX7_countRowsBySets_110 ?_
              refine lv_iload_n hx hb dX7_countRowsBySets_111 rfl (lv_at hl 1 rfl) ?_
              refine lv_iload_n hx hb dX7_countRowsBySets_112 rfl (lv_at hl 3 rfl) ?_
              refine lv_ishr hx hb dX7_countRowsBySets_113 ?_
              refine lv_iconst (v := 1) hx hb dX7_countRowsBySets_114 (by decide) ?_
              refine lv_iand hx hb dX7_countRowsBySets_115 ?_
              refine lv_iload_n hx hb dX7_countRowsBySets_116 rfl (lv_at hl 2 rfl) ?_
              refine lv_imul hx hb dX7_countRowsBySets_117 ?_
              refine lv_iadd hx hb dX7_countRowsBySets_118 ?_
              obtain ⟨i4, h⟩ := ck_t h
              refine stC40 (j := x3.toNatClampNeg) C w i4 rfl dX7_countRowsBySets_119 (fun H locs w => ?_)
              refine lv_iinc (v := (x3 + (1 : Int32))) (lv' := [(3, .int (x3 + (1 : Int32))), (0, .ref (ad 38)), (1, .int x1), (2, .int x2)]) hx hb dX7_countRowsBySets_120 hl (k := 3) rfl rfl (by decide) rfl (fun ls hl => ?_)
              refine lv_goto (tgt := 85) hx hb dX7_countRowsBySets_123 (by decide) ?_
              exact ih85 _ _ _ _ h _ _ _ w (lv_sub hl [1, 2, 3, 0] rfl)
      have L40 : ∀ (n40 : Nat) (σ : St) (x1 : Int32) (x2 : Int32) (x3 : Int32), f_X7_countRowsBySets_L40 (f_X7_countRowsBySets_L23 n23) n40 σ x1 x2 x3 = some out → Bk p l e rm_X7_countRowsBySets s m av below meth c A D 5 Q (CW ca ad σ) 40 [(0, .ref (ad 38)), (1, .int x1), (2, .int x2), (3, .int x3)] [] := by
        intro n40
        induction n40 with
        | zero => intro σ x1 x2 x3 h; exact absurd h (by simp [f_X7_countRowsBySets_L40])
        | succ n40 ih40 =>
          intro σ x1 x2 x3 h H locs ls w hl
          change f_X7_countRowsBySets_b40 (f_X7_countRowsBySets_L23 n23) (f_X7_countRowsBySets_L40 (f_X7_countRowsBySets_L23 n23) n40) σ x1 x2 x3 = some out at h
          unfold f_X7_countRowsBySets_b40 at h
          refine lv_iload_n hx hb dX7_countRowsBySets_40 rfl (lv_at hl 3 rfl) ?_
          refine lv_aload_n hx hb dX7_countRowsBySets_41 rfl (lv_at hl 0 rfl) ?_
          refine gC38_0 C w wl_82 dX7_countRowsBySets_42 ?_
          refine gC1_6 (v := (σ.1 106)) C w rfl wl_552 dX7_countRowsBySets_45 ?_
          refine lv_icmp_ge (tgt := 83) hx hb dX7_countRowsBySets_48 (by decide) (fun c1 => ?_) (fun c1 => ?_)
          · have h := it_t h c1
            refine lv_iconst (v := 0) hx hb dX7_countRowsBySets_83 (by decide) ?_
            refine lv_istore_n (lv' := [(3, .int (0 : Int32)), (0, .ref (ad 38)), (1, .int x1), (2, .int x2)]) hx hb dX7_countRowsBySets_84 rfl hl (by decide) rfl (fun ls hl => ?_)
            exact L85 FU _ _ _ _ h _ _ _ w (lv_sub hl [1, 2, 3, 0] rfl)
          · have h := it_f h c1
            refine lv_aload_n hx hb dX7_countRowsBySets_51 rfl (lv_at hl 0 rfl) ?_
            refine lv_iload_n hx hb dX7_countRowsBySets_52 rfl (lv_at hl 1 rfl) ?_
            refine lv_iload_n hx hb dX7_countRowsBySets_53 rfl (lv_at hl 3 rfl) ?_
            obtain ⟨q1, hq1, h⟩ := ob_t h
            refine res_i C w (run_V (As := [.int x1, .int x3]) (rest := []) C w hl.1 (recvC38 C w) (c_X7_rowsEnding l D ca ad _ x1 x3 _ q1 hq1) rfl rfl wl_751 wl_752 wl_753 wl_41 wl_754 hd_X7_rowsEnding rfl ⟨Nat.le_of_ble_eq_true rfl, Nat.le_of_ble_eq_true rfl⟩ rfl (Nat.le_of_ble_eq_true rfl) dX7_countRowsBySets_54) (fun H locs w => ?_)
            refine lv_istore (lv' := [(4, .int q1.1), (0, .ref (ad 38)), (1, .int x1), (2, .int x2), (3, .int x3)]) hx hb dX7_countRowsBySets_57 hl (by decide) rfl (fun ls hl => ?_)
            refine lv_aload_n hx hb dX7_countRowsBySets_59 rfl (lv_at hl 1 rfl) ?_
            refine gC38_2 C w wl_80 dX7_countRowsBySets_60 ?_
            refine lv_iload_n hx hb dX7_countRowsBySets_63 rfl (lv_at hl 2 rfl) ?_
            refine lv_bipush (v := 7) hx hb dX7_countRowsBySets_64 (by decide) ?_
            refine lv_imul hx hb dX7_countRowsBySets_66 ?_
            refine lv_iload_n hx hb dX7_countRowsBySets_67 rfl (lv_at hl 4 rfl) ?_
            refine lv_iadd hx hb dX7_countRowsBySets_68 ?_
            refine lv_iload hx hb dX7_countRowsBySets_69 (lv_at hl 0 rfl) ?_
            obtain ⟨i2, h⟩ := ck_t h
            refine stC39 (j := (((x1 * (7 : Int32)) + x3)).toNatClampNeg) C w i2 rfl dX7_countRowsBySets_71 (fun H locs w => ?_)
            refine lv_iload_n hx hb dX7_countRowsBySets_72 rfl (lv_at hl 3 rfl) ?_
            refine lv_iload hx hb dX7_countRowsBySets_73 (lv_at hl 0 rfl) ?_
            refine lv_iadd hx hb dX7_countRowsBySets_75 ?_
            refine lv_istore_n (lv' := [(2, .int (x2 + q1.1)), (4, .int q1.1), (0, .ref (ad 38)), (1, .int x1), (3, .int x3)]) hx hb dX7_countRowsBySets_76 rfl hl (by decide) rfl (fun ls hl => ?_)
            refine lv_iinc (v := (x3 + (1 : Int32))) (lv' := [(3, .int (x3 + (1 : Int32))), (2, .int (x2 + q1.1)), (4, .int q1.1), (0, .ref (ad 38)), (1, .int x1)]) hx hb dX7_countRowsBySets_77 hl (k := 4) rfl rfl (by decide) rfl (fun ls hl => ?_)
            refine lv_goto (tgt := 40) hx hb dX7_countRowsBySets_80 (by decide) ?_
            exact ih40 _ _ _ _ h _ _ _ w (lv_sub hl [3, 4, 1, 0] rfl)
      intro σ x1 h H locs ls w hl
      change f_X7_countRowsBySets_b23 (f_X7_countRowsBySets_L23 n23) σ x1 = some out at h
      unfold f_X7_countRowsBySets_b23 at h
      refine lv_iload_n hx hb dX7_countRowsBySets_23 rfl (lv_at hl 1 rfl) ?_
      refine lv_iconst (v := 1) hx hb dX7_countRowsBySets_24 (by decide) ?_
      refine lv_aload_n hx hb dX7_countRowsBySets_25 rfl (lv_at hl 0 rfl) ?_
      refine gC38_0 C w wl_82 dX7_countRowsBySets_26 ?_
      refine gC1_6 (v := (σ.1 106)) C w rfl wl_552 dX7_countRowsBySets_29 ?_
      refine lv_ishl hx hb dX7_countRowsBySets_32 ?_
      refine lv_icmp_ge (tgt := 132) hx hb dX7_countRowsBySets_33 (by decide) (fun c1 => ?_) (fun c1 => ?_)
      · have h := it_t h c1
        rw [hQ]
        exact rV (F := CW ca ad) C w h dX7_countRowsBySets_132
      · have h := it_f h c1
        refine lv_iconst (v := 0) hx hb dX7_countRowsBySets_36 (by decide) ?_
        refine lv_istore_n (lv' := [(2, .int (0 : Int32)), (0, .ref (ad 38)), (1, .int x1)]) hx hb dX7_countRowsBySets_37 rfl hl (by decide) rfl (fun ls hl => ?_)
        refine lv_iconst (v := 0) hx hb dX7_countRowsBySets_38 (by decide) ?_
        refine lv_istore_n (lv' := [(3, .int (0 : Int32)), (2, .int (0 : Int32)), (0, .ref (ad 38)), (1, .int x1)]) hx hb dX7_countRowsBySets_39 rfl hl (by decide) rfl (fun ls hl => ?_)
        exact L40 FU _ _ _ _ h _ _ _ w (lv_sub hl [2, 3, 1, 0] rfl)
  have L2 : ∀ (n2 : Nat) (σ : St) (x1 : Int32), f_X7_countRowsBySets_L2 n2 σ x1 = some out → Bk p l e rm_X7_countRowsBySets s m av below meth c A D 5 Q (CW ca ad σ) 2 [(0, .ref (ad 38)), (1, .int x1)] [] := by
    intro n2
    induction n2 with
    | zero => intro σ x1 h; exact absurd h (by simp [f_X7_countRowsBySets_L2])
    | succ n2 ih2 =>
      intro σ x1 h H locs ls w hl
      change f_X7_countRowsBySets_b2 (f_X7_countRowsBySets_L2 n2) σ x1 = some out at h
      unfold f_X7_countRowsBySets_b2 at h
      refine lv_iload_n hx hb dX7_countRowsBySets_2 rfl (lv_at hl 1 rfl) ?_
      refine lv_bipush (v := 7) hx hb dX7_countRowsBySets_3 (by decide) ?_
      refine lv_icmp_ge (tgt := 21) hx hb dX7_countRowsBySets_5 (by decide) (fun c1 => ?_) (fun c1 => ?_)
      · have h := it_t h c1
        refine lv_iconst (v := 1) hx hb dX7_countRowsBySets_21 (by decide) ?_
        refine lv_istore_n (lv' := [(1, .int (1 : Int32)), (0, .ref (ad 38))]) hx hb dX7_countRowsBySets_22 rfl hl (by decide) rfl (fun ls hl => ?_)
        exact L23 FU _ _ h _ _ _ w (lv_sub hl [1, 0] rfl)
      · have h := it_f h c1
        refine lv_aload_n hx hb dX7_countRowsBySets_8 rfl (lv_at hl 0 rfl) ?_
        refine gC38_3 C w wl_81 dX7_countRowsBySets_9 ?_
        refine lv_iload_n hx hb dX7_countRowsBySets_12 rfl (lv_at hl 1 rfl) ?_
        refine lv_iconst (v := 0) hx hb dX7_countRowsBySets_13 (by decide) ?_
        obtain ⟨i2, h⟩ := ck_t h
        refine stC40 (j := x1.toNatClampNeg) C w i2 rfl dX7_countRowsBySets_14 (fun H locs w => ?_)
        refine lv_iinc (v := (x1 + (1 : Int32))) (lv' := [(1, .int (x1 + (1 : Int32))), (0, .ref (ad 38))]) hx hb dX7_countRowsBySets_15 hl (k := 1) rfl rfl (by decide) rfl (fun ls hl => ?_)
        refine lv_goto (tgt := 2) hx hb dX7_countRowsBySets_18 (by decide) ?_
        exact ih2 _ _ h _ _ _ w (lv_sub hl [1, 0] rfl)
  have h := hf
  unfold f_X7_countRowsBySets at h
  refine lv_iconst (v := 0) hx hb dX7_countRowsBySets_0 (by decide) ?_
  refine lv_istore_n (lv' := [(1, .int (0 : Int32)), (0, .ref (ad 38))]) hx hb dX7_countRowsBySets_1 rfl hl (by decide) rfl (fun ls hl => ?_)
  exact L2 FU _ _ h _ _ _ w (lv_sub hl [1, 0] rfl)
theorem hd_X7_onMost : yX7_onMost.cls = RX7 ∧ yX7_onMost.cls ≠ "java/lang/invoke/MethodHandle" ∧ yX7_onMost.cls ≠ "java/lang/invoke/VarHandle" ∧ (parseMethodDescriptor yX7_onMost.desc).map (fun d => d.parameters.length) = some 0 := by decide +kernel
def f_X7_onMost_b66 (K8 : St → Int32 → Int32 → Option (Int32 × St)) (σ : St) (x1 : Int32) (x2 : Int32) : Option (Int32 × St) := K8 σ x1 (x2 + (1 : Int32))
def f_X7_onMost_b64 (K8 : St → Int32 → Int32 → Option (Int32 × St)) (σ : St) (x2 : Int32) : Option (Int32 × St) := f_X7_onMost_b66 K8 σ x2 x2
def f_X7_onMost_b39 (K8 : St → Int32 → Int32 → Option (Int32 × St)) (σ : St) (x1 : Int32) (x2 : Int32) (y0 : Int32) : Option (Int32 × St) := if y0 = 0 then (if x1 = (-1 : Int32) then (f_X7_onMost_b64 K8 σ x2) else (cond (ckI x2 7) (cond (ckI x1 7) (if (σ.2.2 40 x2.toNatClampNeg) ≤ (σ.2.2 40 x1.toNatClampNeg) then (f_X7_onMost_b66 K8 σ x1 x2) else (f_X7_onMost_b64 K8 σ x2)) none) none)) else (f_X7_onMost_b66 K8 σ x1 x2)
def f_X7_onMost_b8 (K8 : St → Int32 → Int32 → Option (Int32 × St)) (σ : St) (x1 : Int32) (x2 : Int32) : Option (Int32 × St) := if (σ.1 106) ≤ x2 then (some (x1, σ)) else (if (((σ.1 107) >>> (x2 &&& 31)) &&& (1 : Int32)) = (1 : Int32) then (f_X7_onMost_b39 K8 σ x1 x2 (1 : Int32)) else (f_X7_onMost_b39 K8 σ x1 x2 (0 : Int32)))
def f_X7_onMost_L8 : Nat → St → Int32 → Int32 → Option (Int32 × St)
  | 0 => fun _ _ _ => none
  | n + 1 => f_X7_onMost_b8 (f_X7_onMost_L8 n)
def f_X7_onMost (σ : St) : Option (Int32 × St) := (f_X7_countRowsBySets σ).bind fun q1 => f_X7_onMost_L8 FU q1 (-1 : Int32) (0 : Int32)
abbrev rm_X7_onMost : Room := { frames := 2, cells := 0, slots := 0, locals := 120 }
set_option maxHeartbeats 4000000 in
set_option maxRecDepth 100000 in
theorem c_X7_onMost (l : Launch) (D : va_G) (ca : Nat → ClassId) (ad : Nat → Nat) (σ : St)  (sz : Nat) (out : Int32 × St) (hf : f_X7_onMost σ  = some out) : Met l yX7_onMost (.code yX7_onMost cX7_onMost 4 (some .int) :: WL) rm_X7_onMost (PreC D ca (CW ca ad σ) sz [.ref (ad 38)]) (PostI D (va_A (CW ca ad σ) sz) (CW ca ad out.2) out.1) 0 0 (va_A (CW ca ad σ) sz) := by
  refine Met.ofW (cc := cX7_onMost) (maxL := 4) (ret := (some .int)) (by decide) rfl ?_
  intro p e s m args below meth c s₁ B hml hv
  obtain ⟨rfl, hsz, hP, hK, hD, hN⟩ := hv
  subst hsz
  have C := Cx.mk (own := RX7) B hml rfl hK hN (ws := (CW ca ad σ))
  have w : Wd (va_A (CW ca ad σ) s.heap.size) s D (CW ca ad σ) s.heap [] := ⟨hP, hD.self, va_S.rf⟩
  have hl := lv_entry ([.ref (ad 38)]) (n := 4) (Nat.le_of_ble_eq_true rfl)
  rw [lg_entry_eq]
  generalize (lg_sl ([.ref (ad 38)]) ++ List.replicate (4 - (lg_sl ([.ref (ad 38)])).length) Slot.unset).toArray = ls at hl ⊢
  have hl : lv_has ls 4 [(0, .ref (ad 38))] := hl
  change W p l e rm_X7_onMost s m _ below meth c _ [] 0 0 _ _
  clear B hP hD hK hN hml
  generalize va_A (CW ca ad σ) s.heap.size = A at C w ⊢
  generalize ([.ref (ad 38)] : List Value).toArray = av at C ⊢
  obtain ⟨Q, hQ⟩ : ∃ Q, Q = MQ below (PostI D A (CW ca ad out.2) out.1) av s 0 0 A := ⟨_, rfl⟩
  rw [← hQ]
  have hx := C.1
  have hb := C.2.1
  have L8 : ∀ (n8 : Nat) (σ : St) (x1 : Int32) (x2 : Int32), f_X7_onMost_L8 n8 σ x1 x2 = some out → Bk p l e rm_X7_onMost s m av below meth c A D 4 Q (CW ca ad σ) 8 [(0, .ref (ad 38)), (1, .int x1), (2, .int x2)] [] := by
    intro n8
    induction n8 with
    | zero => intro σ x1 x2 h; exact absurd h (by simp [f_X7_onMost_L8])
    | succ n8 ih8 =>
      have b66 : ∀ (σ : St) (x1 : Int32) (x2 : Int32), f_X7_onMost_b66 (f_X7_onMost_L8 n8) σ x1 x2 = some out → Bk p l e rm_X7_onMost s m av below meth c A D 4 Q (CW ca ad σ) 66 [(0, .ref (ad 38)), (1, .int x1), (2, .int x2)] [] := by
        intro σ x1 x2 h H locs ls w hl
        unfold f_X7_onMost_b66 at h
        refine lv_iinc (v := (x2 + (1 : Int32))) (lv' := [(2, .int (x2 + (1 : Int32))), (0, .ref (ad 38)), (1, .int x1)]) hx hb dX7_onMost_66 hl (k := 2) rfl rfl (by decide) rfl (fun ls hl => ?_)
        refine lv_goto (tgt := 8) hx hb dX7_onMost_69 (by decide) ?_
        exact ih8 _ _ _ h _ _ _ w (lv_sub hl [1, 2, 0] rfl)
      have b64 : ∀ (σ : St) (x2 : Int32), f_X7_onMost_b64 (f_X7_onMost_L8 n8) σ x2 = some out → Bk p l e rm_X7_onMost s m av below meth c A D 4 Q (CW ca ad σ) 64 [(0, .ref (ad 38)), (2, .int x2)] [] := by
        intro σ x2 h H locs ls w hl
        unfold f_X7_onMost_b64 at h
        refine lv_iload_n hx hb dX7_onMost_64 rfl (lv_at hl 1 rfl) ?_
        refine lv_istore_n (lv' := [(1, .int x2), (0, .ref (ad 38)), (2, .int x2)]) hx hb dX7_onMost_65 rfl hl (by decide) rfl (fun ls hl => ?_)
        exact b66 _ _ _ h _ _ _ w (lv_sub hl [1, 0, 2] rfl)
      have b39 : ∀ (σ : St) (x1 : Int32) (x2 : Int32) (y0 : Int32), f_X7_onMost_b39 (f_X7_onMost_L8 n8) σ x1 x2 y0 = some out → Bk p l e rm_X7_onMost s m av below meth c A D 4 Q (CW ca ad σ) 39 [(0, .ref (ad 38)), (1, .int x1), (2, .int x2)] [.int y0] := by
        intro σ x1 x2 y0 h H locs ls w hl
        unfold f_X7_onMost_b39 at h
        refine lv_istore_n (lv' := [(3, .int y0), (0, .ref (ad 38)), (1, .int x1), (2, .int x2)]) hx hb dX7_onMost_39 rfl hl (by decide) rfl (fun ls hl => ?_)
        refine lv_iload_n hx hb dX7_onMost_40 rfl (lv_at hl 0 rfl) ?_
        refine lv_if_ne (tgt := 66) hx hb dX7_onMost_41 (by decide) (fun c1 => ?_) (fun c1 => ?_)
        · have h := it_f h c1
          exact b66 _ _ _ h _ _ _ w (lv_sub hl [1, 2, 3] rfl)
        · have h := it_t h c1
          refine lv_iload_n hx hb dX7_onMost_44 rfl (lv_at hl 2 rfl) ?_
          refine lv_iconst (v := -1) hx hb dX7_onMost_45 (by decide) ?_
          refine lv_icmp_eq (tgt := 64) hx hb dX7_onMost_46 (by decide) (fun c2 => ?_) (fun c2 => ?_)
          · have h := it_t h c2
            exact b64 _ _ h _ _ _ w (lv_sub hl [1, 3] rfl)
          · have h := it_f h c2
            refine lv_aload_n hx hb dX7_onMost_49 rfl (lv_at hl 1 rfl) ?_
            refine gC38_3 C w wl_81 dX7_onMost_50 ?_
            refine lv_iload_n hx hb dX7_onMost_53 rfl (lv_at hl 3 rfl) ?_
            obtain ⟨i3, h⟩ := ck_t h
            refine ldC40 (v := (σ.2.2 40 x2.toNatClampNeg)) C w i3 rfl dX7_onMost_54 ?_
            refine lv_aload_n hx hb dX7_onMost_55 rfl (lv_at hl 1 rfl) ?_
            refine gC38_3 C w wl_81 dX7_onMost_56 ?_
            refine lv_iload_n hx hb dX7_onMost_59 rfl (lv_at hl 2 rfl) ?_
            obtain ⟨i4, h⟩ := ck_t h
            refine ldC40 (v := (σ.2.2 40 x1.toNatClampNeg)) C w i4 rfl dX7_onMost_60 ?_
            refine lv_icmp_le (tgt := 66) hx hb dX7_onMost_61 (by decide) (fun c5 => ?_) (fun c5 => ?_)
            · have h := it_t h c5
              exact b66 _ _ _ h _ _ _ w (lv_sub hl [1, 2, 3] rfl)
            · have h := it_f h c5
              exact b64 _ _ h _ _ _ w (lv_sub hl [1, 3] rfl)
      intro σ x1 x2 h H locs ls w hl
      change f_X7_onMost_b8 (f_X7_onMost_L8 n8) σ x1 x2 = some out at h
      unfold f_X7_onMost_b8 at h
      refine lv_iload_n hx hb dX7_onMost_8 rfl (lv_at hl 2 rfl) ?_
      refine lv_aload_n hx hb dX7_onMost_9 rfl (lv_at hl 0 rfl) ?_
      refine gC38_0 C w wl_82 dX7_onMost_10 ?_
      refine gC1_6 (v := (σ.1 106)) C w rfl wl_552 dX7_onMost_13 ?_
      refine lv_icmp_ge (tgt := 72) hx hb dX7_onMost_16 (by decide) (fun c1 => ?_) (fun c1 => ?_)
      · have h := it_t h c1
        refine lv_iload_n hx hb dX7_onMost_72 rfl (lv_at hl 1 rfl) ?_
        rw [hQ]
        exact rI (F := CW ca ad) C w h dX7_onMost_73
      · have h := it_f h c1
        refine lv_aload_n hx hb dX7_onMost_19 rfl (lv_at hl 0 rfl) ?_
        refine gC38_0 C w wl_82 dX7_onMost_20 ?_
        refine gC1_7 (v := (σ.1 107)) C w rfl wl_559 dX7_onMost_23 ?_
        refine lv_iload_n hx hb dX7_onMost_26 rfl (lv_at hl 2 rfl) ?_
        refine lv_ishr hx hb dX7_onMost_27 ?_
        refine lv_iconst (v := 1) hx hb dX7_onMost_28 (by decide) ?_
        refine lv_iand hx hb dX7_onMost_29 ?_
        refine lv_iconst (v := 1) hx hb dX7_onMost_30 (by decide) ?_
        refine lv_icmp_ne (tgt := 38) hx hb dX7_onMost_31 (by decide) (fun c2 => ?_) (fun c2 => ?_)
        · have h := it_f h c2
          refine lv_iconst (v := 0) hx hb dX7_onMost_38 (by decide) ?_
          exact b39 _ _ _ _ h _ _ _ w (lv_sub hl [0, 1, 2] rfl)
        · have h := it_t h c2
          refine lv_iconst (v := 1) hx hb dX7_onMost_34 (by decide) ?_
          refine lv_goto (tgt := 39) hx hb dX7_onMost_35 (by decide) ?_
          exact b39 _ _ _ _ h _ _ _ w (lv_sub hl [0, 1, 2] rfl)
  have h := hf
  unfold f_X7_onMost at h
  refine lv_aload_n hx hb dX7_onMost_0 rfl (lv_at hl 0 rfl) ?_
  obtain ⟨q1, hq1, h⟩ := ob_t h
  refine res_v C w (run_V (As := []) (rest := []) C w hl.1 (recvC38 C w) (c_X7_countRowsBySets l D ca ad _  _ q1 hq1) rfl rfl wl_747 wl_748 wl_749 wl_41 wl_750 hd_X7_countRowsBySets rfl ⟨Nat.le_of_ble_eq_true rfl, Nat.le_of_ble_eq_true rfl⟩ rfl (Nat.le_of_ble_eq_true rfl) dX7_onMost_1) (fun H locs w => ?_)
  refine lv_iconst (v := -1) hx hb dX7_onMost_4 (by decide) ?_
  refine lv_istore_n (lv' := [(1, .int (-1 : Int32)), (0, .ref (ad 38))]) hx hb dX7_onMost_5 rfl hl (by decide) rfl (fun ls hl => ?_)
  refine lv_iconst (v := 0) hx hb dX7_onMost_6 (by decide) ?_
  refine lv_istore_n (lv' := [(2, .int (0 : Int32)), (1, .int (-1 : Int32)), (0, .ref (ad 38))]) hx hb dX7_onMost_7 rfl hl (by decide) rfl (fun ls hl => ?_)
  exact L8 FU _ _ _ h _ _ _ w (lv_sub hl [2, 1, 0] rfl)
theorem hd_X10_most : yX10_most.cls = RX10 ∧ yX10_most.cls ≠ "java/lang/invoke/MethodHandle" ∧ yX10_most.cls ≠ "java/lang/invoke/VarHandle" ∧ (parseMethodDescriptor yX10_most.desc).map (fun d => d.parameters.length) = some 0 := by decide +kernel
def f_X10_most (σ : St) : Option (Int32 × St) := (f_X7_onMost σ).bind fun q1 => some (q1.1, q1.2)
abbrev rm_X10_most : Room := { frames := 3, cells := 0, slots := 0, locals := 180 }
set_option maxHeartbeats 4000000 in
set_option maxRecDepth 100000 in
theorem c_X10_most (l : Launch) (D : va_G) (ca : Nat → ClassId) (ad : Nat → Nat) (σ : St)  (sz : Nat) (out : Int32 × St) (hf : f_X10_most σ  = some out) : Met l yX10_most (.code yX10_most cX10_most 1 (some .int) :: WL) rm_X10_most (PreC D ca (CW ca ad σ) sz [.ref (ad 0)]) (PostI D (va_A (CW ca ad σ) sz) (CW ca ad out.2) out.1) 0 0 (va_A (CW ca ad σ) sz) := by
  refine Met.ofW (cc := cX10_most) (maxL := 1) (ret := (some .int)) (by decide) rfl ?_
  intro p e s m args below meth c s₁ B hml hv
  obtain ⟨rfl, hsz, hP, hK, hD, hN⟩ := hv
  subst hsz
  have C := Cx.mk (own := RX10) B hml rfl hK hN (ws := (CW ca ad σ))
  have w : Wd (va_A (CW ca ad σ) s.heap.size) s D (CW ca ad σ) s.heap [] := ⟨hP, hD.self, va_S.rf⟩
  have hl := lv_entry ([.ref (ad 0)]) (n := 1) (Nat.le_of_ble_eq_true rfl)
  rw [lg_entry_eq]
  generalize (lg_sl ([.ref (ad 0)]) ++ List.replicate (1 - (lg_sl ([.ref (ad 0)])).length) Slot.unset).toArray = ls at hl ⊢
  have hl : lv_has ls 1 [(0, .ref (ad 0))] := hl
  change W p l e rm_X10_most s m _ below meth c _ [] 0 0 _ _
  clear B hP hD hK hN hml
  generalize va_A (CW ca ad σ) s.heap.size = A at C w ⊢
  generalize ([.ref (ad 0)] : List Value).toArray = av at C ⊢
  obtain ⟨Q, hQ⟩ : ∃ Q, Q = MQ below (PostI D A (CW ca ad out.2) out.1) av s 0 0 A := ⟨_, rfl⟩
  rw [← hQ]
  have hx := C.1
  have hb := C.2.1
  have h := hf
  unfold f_X10_most at h
  refine lv_aload_n hx hb dX10_most_0 rfl (lv_at hl 0 rfl) ?_
  refine gC0_5 C w wl_42 dX10_most_1 ?_
  obtain ⟨q1, hq1, h⟩ := ob_t h
  refine res_i C w (run_V (As := []) (rest := []) C w hl.1 (recvC38 C w) (c_X7_onMost l D ca ad _  _ q1 hq1) rfl rfl wl_743 wl_744 wl_745 wl_41 wl_746 hd_X7_onMost rfl ⟨Nat.le_of_ble_eq_true rfl, Nat.le_of_ble_eq_true rfl⟩ rfl (Nat.le_of_ble_eq_true rfl) dX10_most_4) (fun H locs w => ?_)
  rw [hQ]
  exact rI (F := CW ca ad) C w h dX10_most_7
theorem hd_X2_addNote : yX2_addNote.cls = RX2 ∧ yX2_addNote.cls ≠ "java/lang/invoke/MethodHandle" ∧ yX2_addNote.cls ≠ "java/lang/invoke/VarHandle" ∧ (parseMethodDescriptor yX2_addNote.desc).map (fun d => d.parameters.length) = some 5 := by decide +kernel
def f_X2_addNote_1 (σ : St) (x1 : Int32) (x2 : Int32) (x3 : Int32) (x4 : Int32) (x5 : Int32) : Option (St) := if (6 : Int32) ≤ (σ.1 109) then (some σ) else (cond (ckI ((σ.1 109) * (5 : Int32)) 30) (cond (ckI (((σ.1 109) * (5 : Int32)) + (1 : Int32)) 30) (cond (ckI (((σ.1 109) * (5 : Int32)) + (2 : Int32)) 30) (cond (ckI (((σ.1 109) * (5 : Int32)) + (3 : Int32)) 30) (cond (ckI (((σ.1 109) * (5 : Int32)) + (4 : Int32)) 30) (some (sI (sE (sE (sE (sE (sE σ 4 ((((σ.1 109) * (5 : Int32))).toNatClampNeg) x1) 4 (((((σ.1 109) * (5 : Int32)) + (1 : Int32))).toNatClampNeg) x2) 4 (((((σ.1 109) * (5 : Int32)) + (2 : Int32))).toNatClampNeg) x3) 4 (((((σ.1 109) * (5 : Int32)) + (3 : Int32))).toNatClampNeg) x4) 4 (((((σ.1 109) * (5 : Int32)) + (4 : Int32))).toNatClampNeg) x5) 109 ((σ.1 109) + (1 : Int32)))) none) none) none) none) none)
abbrev rm_X2_addNote_1 : Room := { frames := 0, cells := 0, slots := 0, locals := 0 }
set_option maxHeartbeats 4000000 in
set_option maxRecDepth 100000 in
theorem c_X2_addNote_1 (l : Launch) (D : va_G) (ca : Nat → ClassId) (ad : Nat → Nat) (σ : St) (x1 : Int32) (x2 : Int32) (x3 : Int32) (x4 : Int32) (x5 : Int32) (sz : Nat) (out : St) (hf : f_X2_addNote_1 σ x1 x2 x3 x4 x5 = some out) : Met l yX2_addNote (.code yX2_addNote cX2_addNote 7 none :: WL) rm_X2_addNote_1 (PreC D ca (CW ca ad σ) sz [.ref (ad 1), .int x1, .int x2, .int x3, .int x4, .int x5]) (PostV D (va_A (CW ca ad σ) sz) (CW ca ad out)) 0 0 (va_A (CW ca ad σ) sz) := by
  refine Met.ofW (cc := cX2_addNote) (maxL := 7) (ret := none) (by decide) rfl ?_
  intro p e s m args below meth c s₁ B hml hv
  obtain ⟨rfl, hsz, hP, hK, hD, hN⟩ := hv
  subst hsz
  have C := Cx.mk (own := RX2) B hml rfl hK hN (ws := (CW ca ad σ))
  have w : Wd (va_A (CW ca ad σ) s.heap.size) s D (CW ca ad σ) s.heap [] := ⟨hP, hD.self, va_S.rf⟩
  have hl := lv_entry ([.ref (ad 1), .int x1, .int x2, .int x3, .int x4, .int x5]) (n := 7) (Nat.le_of_ble_eq_true rfl)
  rw [lg_entry_eq]
  generalize (lg_sl ([.ref (ad 1), .int x1, .int x2, .int x3, .int x4, .int x5]) ++ List.replicate (7 - (lg_sl ([.ref (ad 1), .int x1, .int x2, .int x3, .int x4, .int x5])).length) Slot.unset).toArray = ls at hl ⊢
  have hl : lv_has ls 7 [(0, .ref (ad 1)), (1, .int x1), (2, .int x2), (3, .int x3), (4, .int x4), (5, .int x5)] := hl
  change W p l e rm_X2_addNote_1 s m _ below meth c _ [] 0 0 _ _
  clear B hP hD hK hN hml
  generalize va_A (CW ca ad σ) s.heap.size = A at C w ⊢
  generalize ([.ref (ad 1), .int x1, .int x2, .int x3, .int x4, .int x5] : List Value).toArray = av at C ⊢
  obtain ⟨Q, hQ⟩ : ∃ Q, Q = MQ below (PostV D A (CW ca ad out)) av s 0 0 A := ⟨_, rfl⟩
  rw [← hQ]
  have hx := C.1
  have hb := C.2.1
  have h := hf
  unfold f_X2_addNote_1 at h
  refine lv_aload_n hx hb dX2_addNote_0 rfl (lv_at hl 0 rfl) ?_
  refine gC1_9 (v := (σ.1 109)) C w rfl wl_129 dX2_addNote_1 ?_
  refine lv_bipush (v := 6) hx hb dX2_addNote_4 (by decide) ?_
  refine lv_icmp_ge (tgt := 77) hx hb dX2_addNote_6 (by decide) (fun c1 => ?_) (fun c1 => ?_)
  · have h := it_t h c1
    rw [hQ]
    exact rV (F := CW ca ad) C w h dX2_addNote_77
  · have h := it_f h c1
    refine lv_aload_n hx hb dX2_addNote_9 rfl (lv_at hl 0 rfl) ?_
    refine gC1_9 (v := (σ.1 109)) C w rfl wl_129 dX2_addNote_10 ?_
    refine lv_iconst (v := 5) hx hb dX2_addNote_13 (by decide) ?_
    refine lv_imul hx hb dX2_addNote_14 ?_
    refine lv_istore (lv' := [(6, .int ((σ.1 109) * (5 : Int32))), (0, .ref (ad 1)), (1, .int x1), (2, .int x2), (3, .int x3), (4, .int x4), (5, .int x5)]) hx hb dX2_addNote_15 hl (by decide) rfl (fun ls hl => ?_)
    refine lv_aload_n hx hb dX2_addNote_17 rfl (lv_at hl 1 rfl) ?_
    refine gC1_2 C w wl_72 dX2_addNote_18 ?_
    refine lv_iload hx hb dX2_addNote_21 (lv_at hl 0 rfl) ?_
    refine lv_iload_n hx hb dX2_addNote_23 rfl (lv_at hl 2 rfl) ?_
    obtain ⟨i2, h⟩ := ck_t h
    refine stC4 (j := (((σ.1 109) * (5 : Int32))).toNatClampNeg) C w i2 rfl dX2_addNote_24 (fun H locs w => ?_)
    refine lv_aload_n hx hb dX2_addNote_25 rfl (lv_at hl 1 rfl) ?_
    refine gC1_2 C w wl_72 dX2_addNote_26 ?_
    refine lv_iload hx hb dX2_addNote_29 (lv_at hl 0 rfl) ?_
    refine lv_iconst (v := 1) hx hb dX2_addNote_31 (by decide) ?_
    refine lv_iadd hx hb dX2_addNote_32 ?_
    refine lv_iload_n hx hb dX2_addNote_33 rfl (lv_at hl 3 rfl) ?_
    obtain ⟨i3, h⟩ := ck_t h
    refine stC4 (j := ((((σ.1 109) * (5 : Int32)) + (1 : Int32))).toNatClampNeg) C w i3 rfl dX2_addNote_34 (fun H locs w => ?_)
    refine lv_aload_n hx hb dX2_addNote_35 rfl (lv_at hl 1 rfl) ?_
    refine gC1_2 C w wl_72 dX2_addNote_36 ?_
    refine lv_iload hx hb dX2_addNote_39 (lv_at hl 0 rfl) ?_
    refine lv_iconst (v := 2) hx hb dX2_addNote_41 (by decide) ?_
    refine lv_iadd hx hb dX2_addNote_42 ?_
    refine lv_iload_n hx hb dX2_addNote_43 rfl (lv_at hl 4 rfl) ?_
    obtain ⟨i4, h⟩ := ck_t h
    refine stC4 (j := ((((σ.1 109) * (5 : Int32)) + (2 : Int32))).toNatClampNeg) C w i4 rfl dX2_addNote_44 (fun H locs w => ?_)
    refine lv_aload_n hx hb dX2_addNote_45 rfl (lv_at hl 1 rfl) ?_
    refine gC1_2 C w wl_72 dX2_addNote_46 ?_
    refine lv_iload hx hb dX2_addNote_49 (lv_at hl 0 rfl) ?_
    refine lv_iconst (v := 3) hx hb dX2_addNote_51 (by decide) ?_
    refine lv_iadd hx hb dX2_addNote_52 ?_
    refine lv_iload hx hb dX2_addNote_53 (lv_at hl 5 rfl) ?_
    obtain ⟨i5, h⟩ := ck_t h
    refine stC4 (j := ((((σ.1 109) * (5 : Int32)) + (3 : Int32))).toNatClampNeg) C w i5 rfl dX2_addNote_55 (fun H locs w => ?_)
    refine lv_aload_n hx hb dX2_addNote_56 rfl (lv_at hl 1 rfl) ?_
    refine gC1_2 C w wl_72 dX2_addNote_57 ?_
    refine lv_iload hx hb dX2_addNote_60 (lv_at hl 0 rfl) ?_
    refine lv_iconst (v := 4) hx hb dX2_addNote_62 (by decide) ?_
    refine lv_iadd hx hb dX2_addNote_63 ?_
    refine lv_iload hx hb dX2_addNote_64 (lv_at hl 6 rfl) ?_
    obtain ⟨i6, h⟩ := ck_t h
    refine stC4 (j := ((((σ.1 109) * (5 : Int32)) + (4 : Int32))).toNatClampNeg) C w i6 rfl dX2_addNote_66 (fun H locs w => ?_)
    refine lv_aload_n hx hb dX2_addNote_67 rfl (lv_at hl 1 rfl) ?_
    refine lv_dup hx hb dX2_addNote_68 rfl ?_
    refine gC1_9 (v := (σ.1 109)) C w rfl wl_129 dX2_addNote_69 ?_
    refine lv_iconst (v := 1) hx hb dX2_addNote_72 (by decide) ?_
    refine lv_iadd hx hb dX2_addNote_73 ?_
    refine pC1_9 C w wl_129 dX2_addNote_74 (fun H locs w => ?_)
    rw [hQ]
    exact rV (F := CW ca ad) C w h dX2_addNote_77
theorem hd_X10_note : yX10_note.cls = RX10 ∧ yX10_note.cls ≠ "java/lang/invoke/MethodHandle" ∧ yX10_note.cls ≠ "java/lang/invoke/VarHandle" ∧ (parseMethodDescriptor yX10_note.desc).map (fun d => d.parameters.length) = some 5 := by decide +kernel
def f_X10_note_b44 (σ : St) : Option (Int32 × St) := (f_X10_refuseAsBad σ).bind fun q1 => some (q1.1, q1.2)
def f_X10_note (σ : St) (x1 : Int32) (x2 : Int32) (x3 : Int32) (x4 : Int32) (x5 : Int32) : Option (Int32 × St) := (f_X10_isTree σ x1).bind fun q1 => if q1.1 = 0 then (f_X10_note_b44 q1.2) else ((f_X3_isLetter x2).bind fun q2 => if q2 = 0 then (f_X10_note_b44 q1.2) else ((f_X10_within x3 (0 : Int32) (99 : Int32)).bind fun q3 => if q3 = 0 then (f_X10_note_b44 q1.2) else ((f_X3_isLetter x4).bind fun q4 => if q4 = 0 then (f_X10_note_b44 q1.2) else ((f_X10_within x5 (0 : Int32) (20 : Int32)).bind fun q5 => if q5 = 0 then (f_X10_note_b44 q1.2) else (if (q1.2.1 109) < (6 : Int32) then ((f_X2_addNote_1 q1.2 x1 x2 x3 x4 x5).bind fun q6 => some ((q6.1 109), q6)) else ((f_X10_refuseAsFull q1.2).bind fun q7 => some (q7.1, q7.2)))))))
abbrev rm_X10_note : Room := { frames := 2, cells := 0, slots := 0, locals := 120 }
set_option maxHeartbeats 4000000 in
set_option maxRecDepth 100000 in
theorem c_X10_note (l : Launch) (D : va_G) (ca : Nat → ClassId) (ad : Nat → Nat) (σ : St) (x1 : Int32) (x2 : Int32) (x3 : Int32) (x4 : Int32) (x5 : Int32) (sz : Nat) (out : Int32 × St) (hf : f_X10_note σ x1 x2 x3 x4 x5 = some out) : Met l yX10_note (.code yX10_note cX10_note 6 (some .int) :: WL) rm_X10_note (PreC D ca (CW ca ad σ) sz [.ref (ad 0), .int x1, .int x2, .int x3, .int x4, .int x5]) (PostI D (va_A (CW ca ad σ) sz) (CW ca ad out.2) out.1) 0 0 (va_A (CW ca ad σ) sz) := by
  refine Met.ofW (cc := cX10_note) (maxL := 6) (ret := (some .int)) (by decide) rfl ?_
  intro p e s m args below meth c s₁ B hml hv
  obtain ⟨rfl, hsz, hP, hK, hD, hN⟩ := hv
  subst hsz
  have C := Cx.mk (own := RX10) B hml rfl hK hN (ws := (CW ca ad σ))
  have w : Wd (va_A (CW ca ad σ) s.heap.size) s D (CW ca ad σ) s.heap [] := ⟨hP, hD.self, va_S.rf⟩
  have hl := lv_entry ([.ref (ad 0), .int x1, .int x2, .int x3, .int x4, .int x5]) (n := 6) (Nat.le_of_ble_eq_true rfl)
  rw [lg_entry_eq]
  generalize (lg_sl ([.ref (ad 0), .int x1, .int x2, .int x3, .int x4, .int x5]) ++ List.replicate (6 - (lg_sl ([.ref (ad 0), .int x1, .int x2, .int x3, .int x4, .int x5])).length) Slot.unset).toArray = ls at hl ⊢
  have hl : lv_has ls 6 [(0, .ref (ad 0)), (1, .int x1), (2, .int x2), (3, .int x3), (4, .int x4), (5, .int x5)] := hl
  change W p l e rm_X10_note s m _ below meth c _ [] 0 0 _ _
  clear B hP hD hK hN hml
  generalize va_A (CW ca ad σ) s.heap.size = A at C w ⊢
  generalize ([.ref (ad 0), .int x1, .int x2, .int x3, .int x4, .int x5] : List Value).toArray = av at C ⊢
  obtain ⟨Q, hQ⟩ : ∃ Q, Q = MQ below (PostI D A (CW ca ad out.2) out.1) av s 0 0 A := ⟨_, rfl⟩
  rw [← hQ]
  have hx := C.1
  have hb := C.2.1
  have b44 : ∀ (σ : St), f_X10_note_b44 σ = some out → Bk p l e rm_X10_note s m av below meth c A D 6 Q (CW ca ad σ) 44 [(0, .ref (ad 0))] [] := by
    intro σ h H locs ls w hl
    unfold f_X10_note_b44 at h
    refine lv_aload_n hx hb dX10_note_44 rfl (lv_at hl 0 rfl) ?_
    obtain ⟨q1, hq1, h⟩ := ob_t h
    refine res_i C w (run_V (As := []) (rest := []) C w hl.1 (recvC0 C w) (c_X10_refuseAsBad l D ca ad _  _ q1 hq1) rfl rfl wl_117 wl_118 wl_119 wl_2 wl_120 hd_X10_refuseAsBad rfl ⟨Nat.le_of_ble_eq_true rfl, Nat.le_of_ble_eq_true rfl⟩ rfl (Nat.le_of_ble_eq_true rfl) dX10_note_45) (fun H locs w => ?_)
    rw [hQ]
    exact rI (F := CW ca ad) C w h dX10_note_48
  have h := hf
  unfold f_X10_note at h
  refine lv_aload_n hx hb dX10_note_0 rfl (lv_at hl 0 rfl) ?_
  refine lv_iload_n hx hb dX10_note_1 rfl (lv_at hl 1 rfl) ?_
  obtain ⟨q1, hq1, h⟩ := ob_t h
  refine res_i C w (run_V (As := [.int x1]) (rest := []) C w hl.1 (recvC0 C w) (c_X10_isTree l D ca ad _ x1 _ q1 hq1) rfl rfl wl_176 wl_177 wl_178 wl_2 wl_179 hd_X10_isTree rfl ⟨Nat.le_of_ble_eq_true rfl, Nat.le_of_ble_eq_true rfl⟩ rfl (Nat.le_of_ble_eq_true rfl) dX10_note_2) (fun H locs w => ?_)
  refine lv_if_eq (tgt := 44) hx hb dX10_note_5 (by decide) (fun c1 => ?_) (fun c1 => ?_)
  · have h := it_t h c1
    exact b44 _ h _ _ _ w (lv_sub hl [0] rfl)
  · have h := it_f h c1
    refine lv_iload_n hx hb dX10_note_8 rfl (lv_at hl 2 rfl) ?_
    obtain ⟨q2, hq2, h⟩ := ob_t h
    refine res_i C w (run_S (As := [.int x2]) (rest := []) C w hl.1 (c_X3_isLetter l D ca _ x2 _ q2 hq2) rfl rfl wl_459 wl_460 wl_461 wl_462 hd_X3_isLetter rfl ⟨Nat.le_of_ble_eq_true rfl, Nat.le_of_ble_eq_true rfl⟩ rfl (Nat.le_of_ble_eq_true rfl) dX10_note_9) (fun H locs w => ?_)
    refine lv_if_eq (tgt := 44) hx hb dX10_note_12 (by decide) (fun c2 => ?_) (fun c2 => ?_)
    · have h := it_t h c2
      exact b44 _ h _ _ _ w (lv_sub hl [0] rfl)
    · have h := it_f h c2
      refine lv_iload_n hx hb dX10_note_15 rfl (lv_at hl 3 rfl) ?_
      refine lv_iconst (v := 0) hx hb dX10_note_16 (by decide) ?_
      refine lv_bipush (v := 99) hx hb dX10_note_17 (by decide) ?_
      obtain ⟨q3, hq3, h⟩ := ob_t h
      refine res_i C w (run_S (As := [.int x3, .int (0 : Int32), .int (99 : Int32)]) (rest := []) C w hl.1 (c_X10_within l D ca _ x3 (0 : Int32) (99 : Int32) _ q3 hq3) rfl rfl wl_114 wl_115 wl_2 wl_116 hd_X10_within rfl ⟨Nat.le_of_ble_eq_true rfl, Nat.le_of_ble_eq_true rfl⟩ rfl (Nat.le_of_ble_eq_true rfl) dX10_note_19) (fun H locs w => ?_)
      refine lv_if_eq (tgt := 44) hx hb dX10_note_22 (by decide) (fun c3 => ?_) (fun c3 => ?_)
      · have h := it_t h c3
        exact b44 _ h _ _ _ w (lv_sub hl [0] rfl)
      · have h := it_f h c3
        refine lv_iload hx hb dX10_note_25 (lv_at hl 4 rfl) ?_
        obtain ⟨q4, hq4, h⟩ := ob_t h
        refine res_i C w (run_S (As := [.int x4]) (rest := []) C w hl.1 (c_X3_isLetter l D ca _ x4 _ q4 hq4) rfl rfl wl_459 wl_460 wl_461 wl_462 hd_X3_isLetter rfl ⟨Nat.le_of_ble_eq_true rfl, Nat.le_of_ble_eq_true rfl⟩ rfl (Nat.le_of_ble_eq_true rfl) dX10_note_27) (fun H locs w => ?_)
        refine lv_if_eq (tgt := 44) hx hb dX10_note_30 (by decide) (fun c4 => ?_) (fun c4 => ?_)
        · have h := it_t h c4
          exact b44 _ h _ _ _ w (lv_sub hl [0] rfl)
        · have h := it_f h c4
          refine lv_iload hx hb dX10_note_33 (lv_at hl 5 rfl) ?_
          refine lv_iconst (v := 0) hx hb dX10_note_35 (by decide) ?_
          refine lv_bipush (v := 20) hx hb dX10_note_36 (by decide) ?_
          obtain ⟨q5, hq5, h⟩ := ob_t h
          refine res_i C w (run_S (As := [.int x5, .int (0 : Int32), .int (20 : Int32)]) (rest := []) C w hl.1 (c_X10_within l D ca _ x5 (0 : Int32) (20 : Int32) _ q5 hq5) rfl rfl wl_114 wl_115 wl_2 wl_116 hd_X10_within rfl ⟨Nat.le_of_ble_eq_true rfl, Nat.le_of_ble_eq_true rfl⟩ rfl (Nat.le_of_ble_eq_true rfl) dX10_note_38) (fun H locs w => ?_)
          refine lv_if_ne (tgt := 49) hx hb dX10_note_41 (by decide) (fun c5 => ?_) (fun c5 => ?_)
          · have h := it_f h c5
            refine lv_aload_n hx hb dX10_note_49 rfl (lv_at hl 0 rfl) ?_
            refine gC0_1 C w wl_34 dX10_note_50 ?_
            refine gC1_9 (v := (q1.2.1 109)) C w rfl wl_763 dX10_note_53 ?_
            refine lv_bipush (v := 6) hx hb dX10_note_56 (by decide) ?_
            refine lv_icmp_lt (tgt := 66) hx hb dX10_note_58 (by decide) (fun c6 => ?_) (fun c6 => ?_)
            · have h := it_t h c6
              refine lv_aload_n hx hb dX10_note_66 rfl (lv_at hl 0 rfl) ?_
              refine gC0_1 C w wl_34 dX10_note_67 ?_
              refine lv_iload_n hx hb dX10_note_70 rfl (lv_at hl 1 rfl) ?_
              refine lv_iload_n hx hb dX10_note_71 rfl (lv_at hl 2 rfl) ?_
              refine lv_iload_n hx hb dX10_note_72 rfl (lv_at hl 3 rfl) ?_
              refine lv_iload hx hb dX10_note_73 (lv_at hl 4 rfl) ?_
              refine lv_iload hx hb dX10_note_75 (lv_at hl 5 rfl) ?_
              obtain ⟨q6, hq6, h⟩ := ob_t h
              refine res_v C w (run_V (As := [.int x1, .int x2, .int x3, .int x4, .int x5]) (rest := []) C w hl.1 (recvC1 C w) (c_X2_addNote_1 l D ca ad _ x1 x2 x3 x4 x5 _ q6 hq6) rfl rfl wl_764 wl_765 wl_766 wl_33 wl_767 hd_X2_addNote rfl ⟨Nat.le_of_ble_eq_true rfl, Nat.le_of_ble_eq_true rfl⟩ rfl (Nat.le_of_ble_eq_true rfl) dX10_note_77) (fun H locs w => ?_)
              refine lv_aload_n hx hb dX10_note_80 rfl (lv_at hl 0 rfl) ?_
              refine gC0_1 C w wl_34 dX10_note_81 ?_
              refine gC1_9 (v := (q6.1 109)) C w rfl wl_763 dX10_note_84 ?_
              rw [hQ]
              exact rI (F := CW ca ad) C w h dX10_note_87
            · have h := it_f h c6
              refine lv_aload_n hx hb dX10_note_61 rfl (lv_at hl 0 rfl) ?_
              obtain ⟨q7, hq7, h⟩ := ob_t h
              refine res_i C w (run_V (As := []) (rest := []) C w hl.1 (recvC0 C w) (c_X10_refuseAsFull l D ca ad _  _ q7 hq7) rfl rfl wl_153 wl_154 wl_155 wl_2 wl_156 hd_X10_refuseAsFull rfl ⟨Nat.le_of_ble_eq_true rfl, Nat.le_of_ble_eq_true rfl⟩ rfl (Nat.le_of_ble_eq_true rfl) dX10_note_62) (fun H locs w => ?_)
              rw [hQ]
              exact rI (F := CW ca ad) C w h dX10_note_65
          · have h := it_t h c5
            exact b44 _ h _ _ _ w (lv_sub hl [0] rfl)
theorem hd_X2_addReadOne : yX2_addReadOne.cls = RX2 ∧ yX2_addReadOne.cls ≠ "java/lang/invoke/MethodHandle" ∧ yX2_addReadOne.cls ≠ "java/lang/invoke/VarHandle" ∧ (parseMethodDescriptor yX2_addReadOne.desc).map (fun d => d.parameters.length) = some 3 := by decide +kernel
def f_X2_addReadOne_1 (σ : St) (x1 : Int32) (x2 : Int32) (x3 : Int32) : Option (St) := if (6 : Int32) ≤ (σ.1 110) then (some σ) else (cond (ckI ((σ.1 110) * (3 : Int32)) 18) (cond (ckI (((σ.1 110) * (3 : Int32)) + (1 : Int32)) 18) (cond (ckI (((σ.1 110) * (3 : Int32)) + (2 : Int32)) 18) (some (sI (sE (sE (sE σ 5 ((((σ.1 110) * (3 : Int32))).toNatClampNeg) x1) 5 (((((σ.1 110) * (3 : Int32)) + (1 : Int32))).toNatClampNeg) x2) 5 (((((σ.1 110) * (3 : Int32)) + (2 : Int32))).toNatClampNeg) x3) 110 ((σ.1 110) + (1 : Int32)))) none) none) none)
abbrev rm_X2_addReadOne_1 : Room := { frames := 0, cells := 0, slots := 0, locals := 0 }
set_option maxHeartbeats 4000000 in
set_option maxRecDepth 100000 in
theorem c_X2_addReadOne_1 (l : Launch) (D : va_G) (ca : Nat → ClassId) (ad : Nat → Nat) (σ : St) (x1 : Int32) (x2 : Int32) (x3 : Int32) (sz : Nat) (out : St) (hf : f_X2_addReadOne_1 σ x1 x2 x3 = some out) : Met l yX2_addReadOne (.code yX2_addReadOne cX2_addReadOne 5 none :: WL) rm_X2_addReadOne_1 (PreC D ca (CW ca ad σ) sz [.ref (ad 1), .int x1, .int x2, .int x3]) (PostV D (va_A (CW ca ad σ) sz) (CW ca ad out)) 0 0 (va_A (CW ca ad σ) sz) := by
  refine Met.ofW (cc := cX2_addReadOne) (maxL := 5) (ret := none) (by decide) rfl ?_
  intro p e s m args below meth c s₁ B hml hv
  obtain ⟨rfl, hsz, hP, hK, hD, hN⟩ := hv
  subst hsz
  have C := Cx.mk (own := RX2) B hml rfl hK hN (ws := (CW ca ad σ))
  have w : Wd (va_A (CW ca ad σ) s.heap.size) s D (CW ca ad σ) s.heap [] := ⟨hP, hD.self, va_S.rf⟩
  have hl := lv_entry ([.ref (ad 1), .int x1, .int x2, .int x3]) (n := 5) (Nat.le_of_ble_eq_true rfl)
  rw [lg_entry_eq]
  generalize (lg_sl ([.ref (ad 1), .int x1, .int x2, .int x3]) ++ List.replicate (5 - (lg_sl ([.ref (ad 1), .int x1, .int x2, .int x3])).length) Slot.unset).toArray = ls at hl ⊢
  have hl : lv_has ls 5 [(0, .ref (ad 1)), (1, .int x1), (2, .int x2), (3, .int x3)] := hl
  change W p l e rm_X2_addReadOne_1 s m _ below meth c _ [] 0 0 _ _
  clear B hP hD hK hN hml
  generalize va_A (CW ca ad σ) s.heap.size = A at C w ⊢
  generalize ([.ref (ad 1), .int x1, .int x2, .int x3] : List Value).toArray = av at C ⊢
  obtain ⟨Q, hQ⟩ : ∃ Q, Q = MQ below (PostV D A (CW ca ad out)) av s 0 0 A := ⟨_, rfl⟩
  rw [← hQ]
  have hx := C.1
  have hb := C.2.1
  have h := hf
  unfold f_X2_addReadOne_1 at h
  refine lv_aload_n hx hb dX2_addReadOne_0 rfl (lv_at hl 0 rfl) ?_
  refine gC1_10 (v := (σ.1 110)) C w rfl wl_130 dX2_addReadOne_1 ?_
  refine lv_bipush (v := 6) hx hb dX2_addReadOne_4 (by decide) ?_
  refine lv_icmp_ge (tgt := 55) hx hb dX2_addReadOne_6 (by decide) (fun c1 => ?_) (fun c1 => ?_)
  · have h := it_t h c1
    rw [hQ]
    exact rV (F := CW ca ad) C w h dX2_addReadOne_55
  · have h := it_f h c1
    refine lv_aload_n hx hb dX2_addReadOne_9 rfl (lv_at hl 0 rfl) ?_
    refine gC1_10 (v := (σ.1 110)) C w rfl wl_130 dX2_addReadOne_10 ?_
    refine lv_iconst (v := 3) hx hb dX2_addReadOne_13 (by decide) ?_
    refine lv_imul hx hb dX2_addReadOne_14 ?_
    refine lv_istore (lv' := [(4, .int ((σ.1 110) * (3 : Int32))), (0, .ref (ad 1)), (1, .int x1), (2, .int x2), (3, .int x3)]) hx hb dX2_addReadOne_15 hl (by decide) rfl (fun ls hl => ?_)
    refine lv_aload_n hx hb dX2_addReadOne_17 rfl (lv_at hl 1 rfl) ?_
    refine gC1_3 C w wl_73 dX2_addReadOne_18 ?_
    refine lv_iload hx hb dX2_addReadOne_21 (lv_at hl 0 rfl) ?_
    refine lv_iload_n hx hb dX2_addReadOne_23 rfl (lv_at hl 2 rfl) ?_
    obtain ⟨i2, h⟩ := ck_t h
    refine stC5 (j := (((σ.1 110) * (3 : Int32))).toNatClampNeg) C w i2 rfl dX2_addReadOne_24 (fun H locs w => ?_)
    refine lv_aload_n hx hb dX2_addReadOne_25 rfl (lv_at hl 1 rfl) ?_
    refine gC1_3 C w wl_73 dX2_addReadOne_26 ?_
    refine lv_iload hx hb dX2_addReadOne_29 (lv_at hl 0 rfl) ?_
    refine lv_iconst (v := 1) hx hb dX2_addReadOne_31 (by decide) ?_
    refine lv_iadd hx hb dX2_addReadOne_32 ?_
    refine lv_iload_n hx hb dX2_addReadOne_33 rfl (lv_at hl 3 rfl) ?_
    obtain ⟨i3, h⟩ := ck_t h
    refine stC5 (j := ((((σ.1 110) * (3 : Int32)) + (1 : Int32))).toNatClampNeg) C w i3 rfl dX2_addReadOne_34 (fun H locs w => ?_)
    refine lv_aload_n hx hb dX2_addReadOne_35 rfl (lv_at hl 1 rfl) ?_
    refine gC1_3 C w wl_73 dX2_addReadOne_36 ?_
    refine lv_iload hx hb dX2_addReadOne_39 (lv_at hl 0 rfl) ?_
    refine lv_iconst (v := 2) hx hb dX2_addReadOne_41 (by decide) ?_
    refine lv_iadd hx hb dX2_addReadOne_42 ?_
    refine lv_iload_n hx hb dX2_addReadOne_43 rfl (lv_at hl 4 rfl) ?_
    obtain ⟨i4, h⟩ := ck_t h
    refine stC5 (j := ((((σ.1 110) * (3 : Int32)) + (2 : Int32))).toNatClampNeg) C w i4 rfl dX2_addReadOne_44 (fun H locs w => ?_)
    refine lv_aload_n hx hb dX2_addReadOne_45 rfl (lv_at hl 1 rfl) ?_
    refine lv_dup hx hb dX2_addReadOne_46 rfl ?_
    refine gC1_10 (v := (σ.1 110)) C w rfl wl_130 dX2_addReadOne_47 ?_
    refine lv_iconst (v := 1) hx hb dX2_addReadOne_50 (by decide) ?_
    refine lv_iadd hx hb dX2_addReadOne_51 ?_
    refine pC1_10 C w wl_130 dX2_addReadOne_52 (fun H locs w => ?_)
    rw [hQ]
    exact rV (F := CW ca ad) C w h dX2_addReadOne_55
theorem hd_X10_came : yX10_came.cls = RX10 ∧ yX10_came.cls ≠ "java/lang/invoke/MethodHandle" ∧ yX10_came.cls ≠ "java/lang/invoke/VarHandle" ∧ (parseMethodDescriptor yX10_came.desc).map (fun d => d.parameters.length) = some 3 := by decide +kernel
def f_X10_came_b28 (σ : St) : Option (Int32 × St) := (f_X10_refuseAsBad σ).bind fun q1 => some (q1.1, q1.2)
def f_X10_came (σ : St) (x1 : Int32) (x2 : Int32) (x3 : Int32) : Option (Int32 × St) := (f_X7_isTold σ x1).bind fun q1 => if q1.1 = 0 then (f_X10_came_b28 q1.2) else ((f_X10_within x2 (0 : Int32) (99 : Int32)).bind fun q2 => if q2 = 0 then (f_X10_came_b28 q1.2) else ((f_X3_isLetter x3).bind fun q3 => if q3 = 0 then (f_X10_came_b28 q1.2) else (if (q1.2.1 110) < (6 : Int32) then ((f_X2_addReadOne_1 q1.2 x1 x2 x3).bind fun q4 => some ((q4.1 110), q4)) else ((f_X10_refuseAsFull q1.2).bind fun q5 => some (q5.1, q5.2)))))
abbrev rm_X10_came : Room := { frames := 2, cells := 0, slots := 0, locals := 120 }
set_option maxHeartbeats 4000000 in
set_option maxRecDepth 100000 in
theorem c_X10_came (l : Launch) (D : va_G) (ca : Nat → ClassId) (ad : Nat → Nat) (σ : St) (x1 : Int32) (x2 : Int32) (x3 : Int32) (sz : Nat) (out : Int32 × St) (hf : f_X10_came σ x1 x2 x3 = some out) : Met l yX10_came (.code yX10_came cX10_came 4 (some .int) :: WL) rm_X10_came (PreC D ca (CW ca ad σ) sz [.ref (ad 0), .int x1, .int x2, .int x3]) (PostI D (va_A (CW ca ad σ) sz) (CW ca ad out.2) out.1) 0 0 (va_A (CW ca ad σ) sz) := by
  refine Met.ofW (cc := cX10_came) (maxL := 4) (ret := (some .int)) (by decide) rfl ?_
  intro p e s m args below meth c s₁ B hml hv
  obtain ⟨rfl, hsz, hP, hK, hD, hN⟩ := hv
  subst hsz
  have C := Cx.mk (own := RX10) B hml rfl hK hN (ws := (CW ca ad σ))
  have w : Wd (va_A (CW ca ad σ) s.heap.size) s D (CW ca ad σ) s.heap [] := ⟨hP, hD.self, va_S.rf⟩
  have hl := lv_entry ([.ref (ad 0), .int x1, .int x2, .int x3]) (n := 4) (Nat.le_of_ble_eq_true rfl)
  rw [lg_entry_eq]
  generalize (lg_sl ([.ref (ad 0), .int x1, .int x2, .int x3]) ++ List.replicate (4 - (lg_sl ([.ref (ad 0), .int x1, .int x2, .int x3])).length) Slot.unset).toArray = ls at hl ⊢
  have hl : lv_has ls 4 [(0, .ref (ad 0)), (1, .int x1), (2, .int x2), (3, .int x3)] := hl
  change W p l e rm_X10_came s m _ below meth c _ [] 0 0 _ _
  clear B hP hD hK hN hml
  generalize va_A (CW ca ad σ) s.heap.size = A at C w ⊢
  generalize ([.ref (ad 0), .int x1, .int x2, .int x3] : List Value).toArray = av at C ⊢
  obtain ⟨Q, hQ⟩ : ∃ Q, Q = MQ below (PostI D A (CW ca ad out.2) out.1) av s 0 0 A := ⟨_, rfl⟩
  rw [← hQ]
  have hx := C.1
  have hb := C.2.1
  have b28 : ∀ (σ : St), f_X10_came_b28 σ = some out → Bk p l e rm_X10_came s m av below meth c A D 4 Q (CW ca ad σ) 28 [(0, .ref (ad 0))] [] := by
    intro σ h H locs ls w hl
    unfold f_X10_came_b28 at h
    refine lv_aload_n hx hb dX10_came_28 rfl (lv_at hl 0 rfl) ?_
    obtain ⟨q1, hq1, h⟩ := ob_t h
    refine res_i C w (run_V (As := []) (rest := []) C w hl.1 (recvC0 C w) (c_X10_refuseAsBad l D ca ad _  _ q1 hq1) rfl rfl wl_117 wl_118 wl_119 wl_2 wl_120 hd_X10_refuseAsBad rfl ⟨Nat.le_of_ble_eq_true rfl, Nat.le_of_ble_eq_true rfl⟩ rfl (Nat.le_of_ble_eq_true rfl) dX10_came_29) (fun H locs w => ?_)
    rw [hQ]
    exact rI (F := CW ca ad) C w h dX10_came_32
  have h := hf
  unfold f_X10_came at h
  refine lv_aload_n hx hb dX10_came_0 rfl (lv_at hl 0 rfl) ?_
  refine gC0_5 C w wl_42 dX10_came_1 ?_
  refine lv_iload_n hx hb dX10_came_4 rfl (lv_at hl 1 rfl) ?_
  obtain ⟨q1, hq1, h⟩ := ob_t h
  refine res_i C w (run_V (As := [.int x1]) (rest := []) C w hl.1 (recvC38 C w) (c_X7_isTold l D ca ad _ x1 _ q1 hq1) rfl rfl wl_547 wl_548 wl_549 wl_41 wl_550 hd_X7_isTold rfl ⟨Nat.le_of_ble_eq_true rfl, Nat.le_of_ble_eq_true rfl⟩ rfl (Nat.le_of_ble_eq_true rfl) dX10_came_5) (fun H locs w => ?_)
  refine lv_if_eq (tgt := 28) hx hb dX10_came_8 (by decide) (fun c1 => ?_) (fun c1 => ?_)
  · have h := it_t h c1
    exact b28 _ h _ _ _ w (lv_sub hl [0] rfl)
  · have h := it_f h c1
    refine lv_iload_n hx hb dX10_came_11 rfl (lv_at hl 2 rfl) ?_
    refine lv_iconst (v := 0) hx hb dX10_came_12 (by decide) ?_
    refine lv_bipush (v := 99) hx hb dX10_came_13 (by decide) ?_
    obtain ⟨q2, hq2, h⟩ := ob_t h
    refine res_i C w (run_S (As := [.int x2, .int (0 : Int32), .int (99 : Int32)]) (rest := []) C w hl.1 (c_X10_within l D ca _ x2 (0 : Int32) (99 : Int32) _ q2 hq2) rfl rfl wl_114 wl_115 wl_2 wl_116 hd_X10_within rfl ⟨Nat.le_of_ble_eq_true rfl, Nat.le_of_ble_eq_true rfl⟩ rfl (Nat.le_of_ble_eq_true rfl) dX10_came_15) (fun H locs w => ?_)
    refine lv_if_eq (tgt := 28) hx hb dX10_came_18 (by decide) (fun c2 => ?_) (fun c2 => ?_)
    · have h := it_t h c2
      exact b28 _ h _ _ _ w (lv_sub hl [0] rfl)
    · have h := it_f h c2
      refine lv_iload_n hx hb dX10_came_21 rfl (lv_at hl 3 rfl) ?_
      obtain ⟨q3, hq3, h⟩ := ob_t h
      refine res_i C w (run_S (As := [.int x3]) (rest := []) C w hl.1 (c_X3_isLetter l D ca _ x3 _ q3 hq3) rfl rfl wl_459 wl_460 wl_461 wl_462 hd_X3_isLetter rfl ⟨Nat.le_of_ble_eq_true rfl, Nat.le_of_ble_eq_true rfl⟩ rfl (Nat.le_of_ble_eq_true rfl) dX10_came_22) (fun H locs w => ?_)
      refine lv_if_ne (tgt := 33) hx hb dX10_came_25 (by decide) (fun c3 => ?_) (fun c3 => ?_)
      · have h := it_f h c3
        refine lv_aload_n hx hb dX10_came_33 rfl (lv_at hl 0 rfl) ?_
        refine gC0_1 C w wl_34 dX10_came_34 ?_
        refine gC1_10 (v := (q1.2.1 110)) C w rfl wl_777 dX10_came_37 ?_
        refine lv_bipush (v := 6) hx hb dX10_came_40 (by decide) ?_
        refine lv_icmp_lt (tgt := 50) hx hb dX10_came_42 (by decide) (fun c4 => ?_) (fun c4 => ?_)
        · have h := it_t h c4
          refine lv_aload_n hx hb dX10_came_50 rfl (lv_at hl 0 rfl) ?_
          refine gC0_1 C w wl_34 dX10_came_51 ?_
          refine lv_iload_n hx hb dX10_came_54 rfl (lv_at hl 1 rfl) ?_
          refine lv_iload_n hx hb dX10_came_55 rfl (lv_at hl 2 rfl) ?_
          refine lv_iload_n hx hb dX10_came_56 rfl (lv_at hl 3 rfl) ?_
          obtain ⟨q4, hq4, h⟩ := ob_t h
          refine res_v C w (run_V (As := [.int x1, .int x2, .int x3]) (rest := []) C w hl.1 (recvC1 C w) (c_X2_addReadOne_1 l D ca ad _ x1 x2 x3 _ q4 hq4) rfl rfl wl_778 wl_779 wl_780 wl_33 wl_781 hd_X2_addReadOne rfl ⟨Nat.le_of_ble_eq_true rfl, Nat.le_of_ble_eq_true rfl⟩ rfl (Nat.le_of_ble_eq_true rfl) dX10_came_57) (fun H locs w => ?_)
          refine lv_aload_n hx hb dX10_came_60 rfl (lv_at hl 0 rfl) ?_
          refine gC0_1 C w wl_34 dX10_came_61 ?_
          refine gC1_10 (v := (q4.1 110)) C w rfl wl_777 dX10_came_64 ?_
          rw [hQ]
          exact rI (F := CW ca ad) C w h dX10_came_67
        · have h := it_f h c4
          refine lv_aload_n hx hb dX10_came_45 rfl (lv_at hl 0 rfl) ?_
          obtain ⟨q5, hq5, h⟩ := ob_t h
          refine res_i C w (run_V (As := []) (rest := []) C w hl.1 (recvC0 C w) (c_X10_refuseAsFull l D ca ad _  _ q5 hq5) rfl rfl wl_153 wl_154 wl_155 wl_2 wl_156 hd_X10_refuseAsFull rfl ⟨Nat.le_of_ble_eq_true rfl, Nat.le_of_ble_eq_true rfl⟩ rfl (Nat.le_of_ble_eq_true rfl) dX10_came_46) (fun H locs w => ?_)
          rw [hQ]
          exact rI (F := CW ca ad) C w h dX10_came_49
      · have h := it_t h c3
        exact b28 _ h _ _ _ w (lv_sub hl [0] rfl)
theorem hd_X10_forget : yX10_forget.cls = RX10 ∧ yX10_forget.cls ≠ "java/lang/invoke/MethodHandle" ∧ yX10_forget.cls ≠ "java/lang/invoke/VarHandle" ∧ (parseMethodDescriptor yX10_forget.desc).map (fun d => d.parameters.length) = some 1 := by decide +kernel
def f_X10_forget_b59 (σ : St) (x2 : Int32) : Option (Int32 × St) := some (x2, σ)
def f_X10_forget_b35 (σ : St) (x1 : Int32) (y0 : Int32) : Option (Int32 × St) := if x1 = 0 then (f_X10_forget_b59 (sI σ 109 (0 : Int32)) y0) else (f_X10_forget_b59 (sI σ 110 (0 : Int32)) y0)
def f_X10_forget (σ : St) (x1 : Int32) : Option (Int32 × St) := (f_X10_within x1 (0 : Int32) (1 : Int32)).bind fun q1 => if q1 = 0 then ((f_X10_refuseAsBad σ).bind fun q2 => some (q2.1, q2.2)) else (if x1 = 0 then (f_X10_forget_b35 σ x1 (σ.1 109)) else (f_X10_forget_b35 σ x1 (σ.1 110)))
abbrev rm_X10_forget : Room := { frames := 1, cells := 0, slots := 0, locals := 60 }
set_option maxHeartbeats 4000000 in
set_option maxRecDepth 100000 in
theorem c_X10_forget (l : Launch) (D : va_G) (ca : Nat → ClassId) (ad : Nat → Nat) (σ : St) (x1 : Int32) (sz : Nat) (out : Int32 × St) (hf : f_X10_forget σ x1 = some out) : Met l yX10_forget (.code yX10_forget cX10_forget 3 (some .int) :: WL) rm_X10_forget (PreC D ca (CW ca ad σ) sz [.ref (ad 0), .int x1]) (PostI D (va_A (CW ca ad σ) sz) (CW ca ad out.2) out.1) 0 0 (va_A (CW ca ad σ) sz) := by
  refine Met.ofW (cc := cX10_forget) (maxL := 3) (ret := (some .int)) (by decide) rfl ?_
  intro p e s m args below meth c s₁ B hml hv
  obtain ⟨rfl, hsz, hP, hK, hD, hN⟩ := hv
  subst hsz
  have C := Cx.mk (own := RX10) B hml rfl hK hN (ws := (CW ca ad σ))
  have w : Wd (va_A (CW ca ad σ) s.heap.size) s D (CW ca ad σ) s.heap [] := ⟨hP, hD.self, va_S.rf⟩
  have hl := lv_entry ([.ref (ad 0), .int x1]) (n := 3) (Nat.le_of_ble_eq_true rfl)
  rw [lg_entry_eq]
  generalize (lg_sl ([.ref (ad 0), .int x1]) ++ List.replicate (3 - (lg_sl ([.ref (ad 0), .int x1])).length) Slot.unset).toArray = ls at hl ⊢
  have hl : lv_has ls 3 [(0, .ref (ad 0)), (1, .int x1)] := hl
  change W p l e rm_X10_forget s m _ below meth c _ [] 0 0 _ _
  clear B hP hD hK hN hml
  generalize va_A (CW ca ad σ) s.heap.size = A at C w ⊢
  generalize ([.ref (ad 0), .int x1] : List Value).toArray = av at C ⊢
  obtain ⟨Q, hQ⟩ : ∃ Q, Q = MQ below (PostI D A (CW ca ad out.2) out.1) av s 0 0 A := ⟨_, rfl⟩
  rw [← hQ]
  have hx := C.1
  have hb := C.2.1
  have b59 : ∀ (σ : St) (x2 : Int32), f_X10_forget_b59 σ x2 = some out → Bk p l e rm_X10_forget s m av below meth c A D 3 Q (CW ca ad σ) 59 [(2, .int x2)] [] := by
    intro σ x2 h H locs ls w hl
    unfold f_X10_forget_b59 at h
    refine lv_iload_n hx hb dX10_forget_59 rfl (lv_at hl 0 rfl) ?_
    rw [hQ]
    exact rI (F := CW ca ad) C w h dX10_forget_60
  have b35 : ∀ (σ : St) (x1 : Int32) (y0 : Int32), f_X10_forget_b35 σ x1 y0 = some out → Bk p l e rm_X10_forget s m av below meth c A D 3 Q (CW ca ad σ) 35 [(0, .ref (ad 0)), (1, .int x1)] [.int y0] := by
    intro σ x1 y0 h H locs ls w hl
    unfold f_X10_forget_b35 at h
    refine lv_istore_n (lv' := [(2, .int y0), (0, .ref (ad 0)), (1, .int x1)]) hx hb dX10_forget_35 rfl hl (by decide) rfl (fun ls hl => ?_)
    refine lv_iload_n hx hb dX10_forget_36 rfl (lv_at hl 2 rfl) ?_
    refine lv_if_ne (tgt := 51) hx hb dX10_forget_37 (by decide) (fun c1 => ?_) (fun c1 => ?_)
    · have h := it_f h c1
      refine lv_aload_n hx hb dX10_forget_51 rfl (lv_at hl 1 rfl) ?_
      refine gC0_1 C w wl_34 dX10_forget_52 ?_
      refine lv_iconst (v := 0) hx hb dX10_forget_55 (by decide) ?_
      refine pC1_10 C w wl_777 dX10_forget_56 (fun H locs w => ?_)
      exact b59 _ _ h _ _ _ w (lv_sub hl [0] rfl)
    · have h := it_t h c1
      refine lv_aload_n hx hb dX10_forget_40 rfl (lv_at hl 1 rfl) ?_
      refine gC0_1 C w wl_34 dX10_forget_41 ?_
      refine lv_iconst (v := 0) hx hb dX10_forget_44 (by decide) ?_
      refine pC1_9 C w wl_763 dX10_forget_45 (fun H locs w => ?_)
      refine lv_goto (tgt := 59) hx hb dX10_forget_48 (by decide) ?_
      exact b59 _ _ h _ _ _ w (lv_sub hl [0] rfl)
  have h := hf
  unfold f_X10_forget at h
  refine lv_iload_n hx hb dX10_forget_0 rfl (lv_at hl 1 rfl) ?_
  refine lv_iconst (v := 0) hx hb dX10_forget_1 (by decide) ?_
  refine lv_iconst (v := 1) hx hb dX10_forget_2 (by decide) ?_
  obtain ⟨q1, hq1, h⟩ := ob_t h
  refine res_i C w (run_S (As := [.int x1, .int (0 : Int32), .int (1 : Int32)]) (rest := []) C w hl.1 (c_X10_within l D ca _ x1 (0 : Int32) (1 : Int32) _ q1 hq1) rfl rfl wl_114 wl_115 wl_2 wl_116 hd_X10_within rfl ⟨Nat.le_of_ble_eq_true rfl, Nat.le_of_ble_eq_true rfl⟩ rfl (Nat.le_of_ble_eq_true rfl) dX10_forget_3) (fun H locs w => ?_)
  refine lv_if_ne (tgt := 14) hx hb dX10_forget_6 (by decide) (fun c1 => ?_) (fun c1 => ?_)
  · have h := it_f h c1
    refine lv_iload_n hx hb dX10_forget_14 rfl (lv_at hl 1 rfl) ?_
    refine lv_if_ne (tgt := 28) hx hb dX10_forget_15 (by decide) (fun c2 => ?_) (fun c2 => ?_)
    · have h := it_f h c2
      refine lv_aload_n hx hb dX10_forget_28 rfl (lv_at hl 0 rfl) ?_
      refine gC0_1 C w wl_34 dX10_forget_29 ?_
      refine gC1_10 (v := (σ.1 110)) C w rfl wl_777 dX10_forget_32 ?_
      exact b35 _ _ _ h _ _ _ w (lv_sub hl [0, 1] rfl)
    · have h := it_t h c2
      refine lv_aload_n hx hb dX10_forget_18 rfl (lv_at hl 0 rfl) ?_
      refine gC0_1 C w wl_34 dX10_forget_19 ?_
      refine gC1_9 (v := (σ.1 109)) C w rfl wl_763 dX10_forget_22 ?_
      refine lv_goto (tgt := 35) hx hb dX10_forget_25 (by decide) ?_
      exact b35 _ _ _ h _ _ _ w (lv_sub hl [0, 1] rfl)
  · have h := it_t h c1
    refine lv_aload_n hx hb dX10_forget_9 rfl (lv_at hl 0 rfl) ?_
    obtain ⟨q2, hq2, h⟩ := ob_t h
    refine res_i C w (run_V (As := []) (rest := []) C w hl.1 (recvC0 C w) (c_X10_refuseAsBad l D ca ad _  _ q2 hq2) rfl rfl wl_117 wl_118 wl_119 wl_2 wl_120 hd_X10_refuseAsBad rfl ⟨Nat.le_of_ble_eq_true rfl, Nat.le_of_ble_eq_true rfl⟩ rfl (Nat.le_of_ble_eq_true rfl) dX10_forget_10) (fun H locs w => ?_)
    rw [hQ]
    exact rI (F := CW ca ad) C w h dX10_forget_13
theorem hd_X10_fitsAllNotes : yX10_fitsAllNotes.cls = RX10 ∧ yX10_fitsAllNotes.cls ≠ "java/lang/invoke/MethodHandle" ∧ yX10_fitsAllNotes.cls ≠ "java/lang/invoke/VarHandle" ∧ (parseMethodDescriptor yX10_fitsAllNotes.desc).map (fun d => d.parameters.length) = some 2 := by decide +kernel
def f_X10_fitsAllNotes_b105 (K11 : St → Int32 → Int32 → Int32 → Option (Int32 × St)) (σ : St) (x1 : Int32) (x2 : Int32) (x4 : Int32) : Option (Int32 × St) := K11 σ x1 x2 (x4 + (1 : Int32))
def f_X10_fitsAllNotes_b88 (K11 : St → Int32 → Int32 → Int32 → Option (Int32 × St)) (σ : St) (x1 : Int32) (x2 : Int32) (x4 : Int32) (x5 : Int32) (y0 : Int32) : Option (Int32 × St) := cond (ckI x5 30) (if (σ.2.2 4 x5.toNatClampNeg) = x2 then (if y0 = 0 then (some ((0 : Int32), σ)) else (f_X10_fitsAllNotes_b105 K11 σ x1 x2 x4)) else (f_X10_fitsAllNotes_b105 K11 σ x1 x2 x4)) none
def f_X10_fitsAllNotes_b87 (K11 : St → Int32 → Int32 → Int32 → Option (Int32 × St)) (σ : St) (x1 : Int32) (x2 : Int32) (x4 : Int32) (x5 : Int32) : Option (Int32 × St) := f_X10_fitsAllNotes_b88 K11 σ x1 x2 x4 x5 (0 : Int32)
def f_X10_fitsAllNotes_b11 (K11 : St → Int32 → Int32 → Int32 → Option (Int32 × St)) (σ : St) (x1 : Int32) (x2 : Int32) (x4 : Int32) : Option (Int32 × St) := if (σ.1 109) ≤ x4 then (some ((1 : Int32), σ)) else (cond (ckI ((x4 * (5 : Int32)) + (2 : Int32)) 30) (cond (ckI x1 6) (cond (ckI ((x4 * (5 : Int32)) + (1 : Int32)) 30) ((kcopied x1.toNatClampNeg (σ.2.2 4 (((x4 * (5 : Int32)) + (1 : Int32))).toNatClampNeg) (σ.2.2 4 (((x4 * (5 : Int32)) + (2 : Int32))).toNatClampNeg)).bind fun q1 => cond (ckI ((x4 * (5 : Int32)) + (3 : Int32)) 30) (if q1 = (σ.2.2 4 (((x4 * (5 : Int32)) + (3 : Int32))).toNatClampNeg) then (cond (ckI x1 6) ((klasts x1.toNatClampNeg (σ.2.2 4 (((x4 * (5 : Int32)) + (2 : Int32))).toNatClampNeg)).bind fun q2 => cond (ckI ((x4 * (5 : Int32)) + (4 : Int32)) 30) (if q2 = (σ.2.2 4 (((x4 * (5 : Int32)) + (4 : Int32))).toNatClampNeg) then (f_X10_fitsAllNotes_b88 K11 σ x1 x2 x4 (x4 * (5 : Int32)) (1 : Int32)) else (f_X10_fitsAllNotes_b87 K11 σ x1 x2 x4 (x4 * (5 : Int32)))) none) none) else (f_X10_fitsAllNotes_b87 K11 σ x1 x2 x4 (x4 * (5 : Int32)))) none) none) none) none)
def f_X10_fitsAllNotes_L11 : Nat → St → Int32 → Int32 → Int32 → Option (Int32 × St)
  | 0 => fun _ _ _ _ => none
  | n + 1 => f_X10_fitsAllNotes_b11 (f_X10_fitsAllNotes_L11 n)
def f_X10_fitsAllNotes (σ : St) (x1 : Int32) (x2 : Int32) : Option (Int32 × St) := f_X10_fitsAllNotes_L11 FU σ x1 x2 (0 : Int32)
abbrev rm_X10_fitsAllNotes : Room := { frames := 4, cells := 0, slots := 0, locals := 240 }
set_option maxHeartbeats 4000000 in
set_option maxRecDepth 100000 in
theorem c_X10_fitsAllNotes (l : Launch) (D : va_G) (ca : Nat → ClassId) (ad : Nat → Nat) (σ : St) (x1 : Int32) (x2 : Int32) (sz : Nat) (out : Int32 × St) (hf : f_X10_fitsAllNotes σ x1 x2 = some out) : Met l yX10_fitsAllNotes (.code yX10_fitsAllNotes cX10_fitsAllNotes 8 (some .boolean) :: WL) rm_X10_fitsAllNotes (PreC D ca (CW ca ad σ) sz [.ref (ad 0), .int x1, .int x2]) (PostI D (va_A (CW ca ad σ) sz) (CW ca ad out.2) out.1) 0 0 (va_A (CW ca ad σ) sz) := by
  refine Met.ofW (cc := cX10_fitsAllNotes) (maxL := 8) (ret := (some .boolean)) (by decide) rfl ?_
  intro p e s m args below meth c s₁ B hml hv
  obtain ⟨rfl, hsz, hP, hK, hD, hN⟩ := hv
  subst hsz
  have C := Cx.mk (own := RX10) B hml rfl hK hN (ws := (CW ca ad σ))
  have w : Wd (va_A (CW ca ad σ) s.heap.size) s D (CW ca ad σ) s.heap [] := ⟨hP, hD.self, va_S.rf⟩
  have hl := lv_entry ([.ref (ad 0), .int x1, .int x2]) (n := 8) (Nat.le_of_ble_eq_true rfl)
  rw [lg_entry_eq]
  generalize (lg_sl ([.ref (ad 0), .int x1, .int x2]) ++ List.replicate (8 - (lg_sl ([.ref (ad 0), .int x1, .int x2])).length) Slot.unset).toArray = ls at hl ⊢
  have hl : lv_has ls 8 [(0, .ref (ad 0)), (1, .int x1), (2, .int x2)] := hl
  change W p l e rm_X10_fitsAllNotes s m _ below meth c _ [] 0 0 _ _
  clear B hP hD hK hN hml
  generalize va_A (CW ca ad σ) s.heap.size = A at C w ⊢
  generalize ([.ref (ad 0), .int x1, .int x2] : List Value).toArray = av at C ⊢
  obtain ⟨Q, hQ⟩ : ∃ Q, Q = MQ below (PostI D A (CW ca ad out.2) out.1) av s 0 0 A := ⟨_, rfl⟩
  rw [← hQ]
  have hx := C.1
  have hb := C.2.1
  have L11 : ∀ (n11 : Nat) (σ : St) (x1 : Int32) (x2 : Int32) (x4 : Int32), f_X10_fitsAllNotes_L11 n11 σ x1 x2 x4 = some out → Bk p l e rm_X10_fitsAllNotes s m av below meth c A D 8 Q (CW ca ad σ) 11 [(0, .ref (ad 0)), (1, .int x1), (2, .int x2), (3, .ref (ad 4)), (4, .int x4)] [] := by
    intro n11
    induction n11 with
    | zero => intro σ x1 x2 x4 h; exact absurd h (by simp [f_X10_fitsAllNotes_L11])
    | succ n11 ih11 =>
      have b105 : ∀ (σ : St) (x1 : Int32) (x2 : Int32) (x4 : Int32), f_X10_fitsAllNotes_b105 (f_X10_fitsAllNotes_L11 n11) σ x1 x2 x4 = some out → Bk p l e rm_X10_fitsAllNotes s m av below meth c A D 8 Q (CW ca ad σ) 105 [(0, .ref (ad 0)), (1, .int x1), (2, .int x2), (3, .ref (ad 4)), (4, .int x4)] [] := by
        intro σ x1 x2 x4 h H locs ls w hl
        unfold f_X10_fitsAllNotes_b105 at h
        refine lv_iinc (v := (x4 + (1 : Int32))) (lv' := [(4, .int (x4 + (1 : Int32))), (0, .ref (ad 0)), (1, .int x1), (2, .int x2), (3, .ref (ad 4))]) hx hb dX10_fitsAllNotes_105 hl (k := 4) rfl rfl (by decide) rfl (fun ls hl => ?_)
        refine lv_goto (tgt := 11) hx hb dX10_fitsAllNotes_108 (by decide) ?_
        exact ih11 _ _ _ _ h _ _ _ w (lv_sub hl [1, 2, 3, 4, 0] rfl)
      have b88 : ∀ (σ : St) (x1 : Int32) (x2 : Int32) (x4 : Int32) (x5 : Int32) (y0 : Int32), f_X10_fitsAllNotes_b88 (f_X10_fitsAllNotes_L11 n11) σ x1 x2 x4 x5 y0 = some out → Bk p l e rm_X10_fitsAllNotes s m av below meth c A D 8 Q (CW ca ad σ) 88 [(0, .ref (ad 0)), (1, .int x1), (2, .int x2), (3, .ref (ad 4)), (4, .int x4), (5, .int x5)] [.int y0] := by
        intro σ x1 x2 x4 x5 y0 h H locs ls w hl
        unfold f_X10_fitsAllNotes_b88 at h
        refine lv_istore (lv' := [(7, .int y0), (0, .ref (ad 0)), (1, .int x1), (2, .int x2), (3, .ref (ad 4)), (4, .int x4), (5, .int x5)]) hx hb dX10_fitsAllNotes_88 hl (by decide) rfl (fun ls hl => ?_)
        refine lv_aload_n hx hb dX10_fitsAllNotes_90 rfl (lv_at hl 4 rfl) ?_
        refine lv_iload hx hb dX10_fitsAllNotes_91 (lv_at hl 6 rfl) ?_
        obtain ⟨i1, h⟩ := ck_t h
        refine ldC4 (v := (σ.2.2 4 x5.toNatClampNeg)) C w i1 rfl dX10_fitsAllNotes_93 ?_
        refine lv_iload_n hx hb dX10_fitsAllNotes_94 rfl (lv_at hl 3 rfl) ?_
        refine lv_icmp_ne (tgt := 105) hx hb dX10_fitsAllNotes_95 (by decide) (fun c2 => ?_) (fun c2 => ?_)
        · have h := it_f h c2
          exact b105 _ _ _ _ h _ _ _ w (lv_sub hl [1, 2, 3, 4, 5] rfl)
        · have h := it_t h c2
          refine lv_iload hx hb dX10_fitsAllNotes_98 (lv_at hl 0 rfl) ?_
          refine lv_if_ne (tgt := 105) hx hb dX10_fitsAllNotes_100 (by decide) (fun c3 => ?_) (fun c3 => ?_)
          · have h := it_f h c3
            exact b105 _ _ _ _ h _ _ _ w (lv_sub hl [1, 2, 3, 4, 5] rfl)
          · have h := it_t h c3
            refine lv_iconst (v := 0) hx hb dX10_fitsAllNotes_103 (by decide) ?_
            rw [hQ]
            exact rZ (F := CW ca ad) C w (by decide) h dX10_fitsAllNotes_104
      have b87 : ∀ (σ : St) (x1 : Int32) (x2 : Int32) (x4 : Int32) (x5 : Int32), f_X10_fitsAllNotes_b87 (f_X10_fitsAllNotes_L11 n11) σ x1 x2 x4 x5 = some out → Bk p l e rm_X10_fitsAllNotes s m av below meth c A D 8 Q (CW ca ad σ) 87 [(0, .ref (ad 0)), (1, .int x1), (2, .int x2), (3, .ref (ad 4)), (4, .int x4), (5, .int x5)] [] := by
        intro σ x1 x2 x4 x5 h H locs ls w hl
        unfold f_X10_fitsAllNotes_b87 at h
        refine lv_iconst (v := 0) hx hb dX10_fitsAllNotes_87 (by decide) ?_
        exact b88 _ _ _ _ _ _ h _ _ _ w (lv_sub hl [0, 1, 2, 3, 4, 5] rfl)
      intro σ x1 x2 x4 h H locs ls w hl
      change f_X10_fitsAllNotes_b11 (f_X10_fitsAllNotes_L11 n11) σ x1 x2 x4 = some out at h
      unfold f_X10_fitsAllNotes_b11 at h
      refine lv_iload hx hb dX10_fitsAllNotes_11 (lv_at hl 4 rfl) ?_
      refine lv_aload_n hx hb dX10_fitsAllNotes_13 rfl (lv_at hl 0 rfl) ?_
      refine gC0_1 C w wl_34 dX10_fitsAllNotes_14 ?_
      refine gC1_9 (v := (σ.1 109)) C w rfl wl_763 dX10_fitsAllNotes_17 ?_
      refine lv_icmp_ge (tgt := 111) hx hb dX10_fitsAllNotes_20 (by decide) (fun c1 => ?_) (fun c1 => ?_)
      · have h := it_t h c1
        refine lv_iconst (v := 1) hx hb dX10_fitsAllNotes_111 (by decide) ?_
        rw [hQ]
        exact rZ (F := CW ca ad) C w (by decide) h dX10_fitsAllNotes_112
      · have h := it_f h c1
        refine lv_iload hx hb dX10_fitsAllNotes_23 (lv_at hl 4 rfl) ?_
        refine lv_iconst (v := 5) hx hb dX10_fitsAllNotes_25 (by decide) ?_
        refine lv_imul hx hb dX10_fitsAllNotes_26 ?_
        refine lv_istore (lv' := [(5, .int (x4 * (5 : Int32))), (0, .ref (ad 0)), (1, .int x1), (2, .int x2), (3, .ref (ad 4)), (4, .int x4)]) hx hb dX10_fitsAllNotes_27 hl (by decide) rfl (fun ls hl => ?_)
        refine lv_aload_n hx hb dX10_fitsAllNotes_29 rfl (lv_at hl 4 rfl) ?_
        refine lv_iload hx hb dX10_fitsAllNotes_30 (lv_at hl 0 rfl) ?_
        refine lv_iconst (v := 2) hx hb dX10_fitsAllNotes_32 (by decide) ?_
        refine lv_iadd hx hb dX10_fitsAllNotes_33 ?_
        obtain ⟨i2, h⟩ := ck_t h
        refine ldC4 (v := (σ.2.2 4 (((x4 * (5 : Int32)) + (2 : Int32))).toNatClampNeg)) C w i2 rfl dX10_fitsAllNotes_34 ?_
        refine lv_istore (lv' := [(6, .int (σ.2.2 4 (((x4 * (5 : Int32)) + (2 : Int32))).toNatClampNeg)), (5, .int (x4 * (5 : Int32))), (0, .ref (ad 0)), (1, .int x1), (2, .int x2), (3, .ref (ad 4)), (4, .int x4)]) hx hb dX10_fitsAllNotes_35 hl (by decide) rfl (fun ls hl => ?_)
        refine lv_aload_n hx hb dX10_fitsAllNotes_37 rfl (lv_at hl 2 rfl) ?_
        refine gC0_0 C w wl_30 dX10_fitsAllNotes_38 ?_
        refine lv_iload_n hx hb dX10_fitsAllNotes_41 rfl (lv_at hl 3 rfl) ?_
        obtain ⟨i3, h⟩ := ck_t h
        refine ldC30 C w i3 dX10_fitsAllNotes_42 ?_
        refine lv_aload_n hx hb dX10_fitsAllNotes_43 rfl (lv_at hl 5 rfl) ?_
        refine lv_iload hx hb dX10_fitsAllNotes_44 (lv_at hl 1 rfl) ?_
        refine lv_iconst (v := 1) hx hb dX10_fitsAllNotes_46 (by decide) ?_
        refine lv_iadd hx hb dX10_fitsAllNotes_47 ?_
        obtain ⟨i4, h⟩ := ck_t h
        refine ldC4 (v := (σ.2.2 4 (((x4 * (5 : Int32)) + (1 : Int32))).toNatClampNeg)) C w i4 rfl dX10_fitsAllNotes_48 ?_
        refine lv_iload hx hb dX10_fitsAllNotes_49 (lv_at hl 0 rfl) ?_
        obtain ⟨q1, hq1, h⟩ := ob_t h
        refine res_i C w (run_copied (rest := []) C w hl.1 hq1 wl_483 ⟨Nat.le_of_ble_eq_true rfl, Nat.le_of_ble_eq_true rfl⟩ (Nat.le_of_ble_eq_true rfl) dX10_fitsAllNotes_51) (fun H locs w => ?_)
        refine lv_aload_n hx hb dX10_fitsAllNotes_54 rfl (lv_at hl 5 rfl) ?_
        refine lv_iload hx hb dX10_fitsAllNotes_55 (lv_at hl 1 rfl) ?_
        refine lv_iconst (v := 3) hx hb dX10_fitsAllNotes_57 (by decide) ?_
        refine lv_iadd hx hb dX10_fitsAllNotes_58 ?_
        obtain ⟨i5, h⟩ := ck_t h
        refine ldC4 (v := (σ.2.2 4 (((x4 * (5 : Int32)) + (3 : Int32))).toNatClampNeg)) C w i5 rfl dX10_fitsAllNotes_59 ?_
        refine lv_icmp_ne (tgt := 87) hx hb dX10_fitsAllNotes_60 (by decide) (fun c6 => ?_) (fun c6 => ?_)
        · have h := it_f h c6
          exact b87 _ _ _ _ _ h _ _ _ w (lv_sub hl [2, 3, 4, 5, 6, 1] rfl)
        · have h := it_t h c6
          refine lv_aload_n hx hb dX10_fitsAllNotes_63 rfl (lv_at hl 2 rfl) ?_
          refine gC0_0 C w wl_30 dX10_fitsAllNotes_64 ?_
          refine lv_iload_n hx hb dX10_fitsAllNotes_67 rfl (lv_at hl 3 rfl) ?_
          obtain ⟨i7, h⟩ := ck_t h
          refine ldC30 C w i7 dX10_fitsAllNotes_68 ?_
          refine lv_iload hx hb dX10_fitsAllNotes_69 (lv_at hl 0 rfl) ?_
          obtain ⟨q2, hq2, h⟩ := ob_t h
          refine res_i C w (run_lasts (rest := []) C w hl.1 hq2 wl_509 ⟨Nat.le_of_ble_eq_true rfl, Nat.le_of_ble_eq_true rfl⟩ (Nat.le_of_ble_eq_true rfl) dX10_fitsAllNotes_71) (fun H locs w => ?_)
          refine lv_aload_n hx hb dX10_fitsAllNotes_74 rfl (lv_at hl 5 rfl) ?_
          refine lv_iload hx hb dX10_fitsAllNotes_75 (lv_at hl 1 rfl) ?_
          refine lv_iconst (v := 4) hx hb dX10_fitsAllNotes_77 (by decide) ?_
          refine lv_iadd hx hb dX10_fitsAllNotes_78 ?_
          obtain ⟨i8, h⟩ := ck_t h
          refine ldC4 (v := (σ.2.2 4 (((x4 * (5 : Int32)) + (4 : Int32))).toNatClampNeg)) C w i8 rfl dX10_fitsAllNotes_79 ?_
          refine lv_icmp_ne (tgt := 87) hx hb dX10_fitsAllNotes_80 (by decide) (fun c9 => ?_) (fun c9 => ?_)
          · have h := it_f h c9
            exact b87 _ _ _ _ _ h _ _ _ w (lv_sub hl [2, 3, 4, 5, 6, 1] rfl)
          · have h := it_t h c9
            refine lv_iconst (v := 1) hx hb dX10_fitsAllNotes_83 (by decide) ?_
            refine lv_goto (tgt := 88) hx hb dX10_fitsAllNotes_84 (by decide) ?_
            exact b88 _ _ _ _ _ _ h _ _ _ w (lv_sub hl [2, 3, 4, 5, 6, 1] rfl)
  have h := hf
  unfold f_X10_fitsAllNotes at h
  refine lv_aload_n hx hb dX10_fitsAllNotes_0 rfl (lv_at hl 0 rfl) ?_
  refine gC0_1 C w wl_34 dX10_fitsAllNotes_1 ?_
  refine gC1_2 C w wl_806 dX10_fitsAllNotes_4 ?_
  refine lv_astore_n (lv' := [(3, .ref (ad 4)), (0, .ref (ad 0)), (1, .int x1), (2, .int x2)]) hx hb dX10_fitsAllNotes_7 rfl hl (by decide) rfl (fun ls hl => ?_)
  refine lv_iconst (v := 0) hx hb dX10_fitsAllNotes_8 (by decide) ?_
  refine lv_istore (lv' := [(4, .int (0 : Int32)), (3, .ref (ad 4)), (0, .ref (ad 0)), (1, .int x1), (2, .int x2)]) hx hb dX10_fitsAllNotes_9 hl (by decide) rfl (fun ls hl => ?_)
  exact L11 FU _ _ _ _ h _ _ _ w (lv_sub hl [2, 3, 4, 1, 0] rfl)
theorem hd_X10_fittingKinds : yX10_fittingKinds.cls = RX10 ∧ yX10_fittingKinds.cls ≠ "java/lang/invoke/MethodHandle" ∧ yX10_fittingKinds.cls ≠ "java/lang/invoke/VarHandle" ∧ (parseMethodDescriptor yX10_fittingKinds.desc).map (fun d => d.parameters.length) = some 1 := by decide +kernel
def f_X10_fittingKinds_b25 (K4 : St → Int32 → Int32 → Int32 → Option (Int32 × St)) (σ : St) (x1 : Int32) (x2 : Int32) (x3 : Int32) : Option (Int32 × St) := K4 σ x1 x2 (x3 + (1 : Int32))
def f_X10_fittingKinds_b4 (K4 : St → Int32 → Int32 → Int32 → Option (Int32 × St)) (σ : St) (x1 : Int32) (x2 : Int32) (x3 : Int32) : Option (Int32 × St) := if (6 : Int32) ≤ x3 then (some (x2, σ)) else ((f_X10_fitsAllNotes σ x3 x1).bind fun q1 => if q1.1 = 0 then (f_X10_fittingKinds_b25 K4 q1.2 x1 x2 x3) else (f_X10_fittingKinds_b25 K4 q1.2 x1 (x2 ||| ((1 : Int32) <<< (x3 &&& 31))) x3))
def f_X10_fittingKinds_L4 : Nat → St → Int32 → Int32 → Int32 → Option (Int32 × St)
  | 0 => fun _ _ _ _ => none
  | n + 1 => f_X10_fittingKinds_b4 (f_X10_fittingKinds_L4 n)
def f_X10_fittingKinds (σ : St) (x1 : Int32) : Option (Int32 × St) := f_X10_fittingKinds_L4 FU σ x1 (0 : Int32) (0 : Int32)
abbrev rm_X10_fittingKinds : Room := { frames := 5, cells := 0, slots := 0, locals := 300 }
set_option maxHeartbeats 4000000 in
set_option maxRecDepth 100000 in
theorem c_X10_fittingKinds (l : Launch) (D : va_G) (ca : Nat → ClassId) (ad : Nat → Nat) (σ : St) (x1 : Int32) (sz : Nat) (out : Int32 × St) (hf : f_X10_fittingKinds σ x1 = some out) : Met l yX10_fittingKinds (.code yX10_fittingKinds cX10_fittingKinds 4 (some .int) :: WL) rm_X10_fittingKinds (PreC D ca (CW ca ad σ) sz [.ref (ad 0), .int x1]) (PostI D (va_A (CW ca ad σ) sz) (CW ca ad out.2) out.1) 0 0 (va_A (CW ca ad σ) sz) := by
  refine Met.ofW (cc := cX10_fittingKinds) (maxL := 4) (ret := (some .int)) (by decide) rfl ?_
  intro p e s m args below meth c s₁ B hml hv
  obtain ⟨rfl, hsz, hP, hK, hD, hN⟩ := hv
  subst hsz
  have C := Cx.mk (own := RX10) B hml rfl hK hN (ws := (CW ca ad σ))
  have w : Wd (va_A (CW ca ad σ) s.heap.size) s D (CW ca ad σ) s.heap [] := ⟨hP, hD.self, va_S.rf⟩
  have hl := lv_entry ([.ref (ad 0), .int x1]) (n := 4) (Nat.le_of_ble_eq_true rfl)
  rw [lg_entry_eq]
  generalize (lg_sl ([.ref (ad 0), .int x1]) ++ List.replicate (4 - (lg_sl ([.ref (ad 0), .int x1])).length) Slot.unset).toArray = ls at hl ⊢
  have hl : lv_has ls 4 [(0, .ref (ad 0)), (1, .int x1)] := hl
  change W p l e rm_X10_fittingKinds s m _ below meth c _ [] 0 0 _ _
  clear B hP hD hK hN hml
  generalize va_A (CW ca ad σ) s.heap.size = A at C w ⊢
  generalize ([.ref (ad 0), .int x1] : List Value).toArray = av at C ⊢
  obtain ⟨Q, hQ⟩ : ∃ Q, Q = MQ below (PostI D A (CW ca ad out.2) out.1) av s 0 0 A := ⟨_, rfl⟩
  rw [← hQ]
  have hx := C.1
  have hb := C.2.1
  have L4 : ∀ (n4 : Nat) (σ : St) (x1 : Int32) (x2 : Int32) (x3 : Int32), f_X10_fittingKinds_L4 n4 σ x1 x2 x3 = some out → Bk p l e rm_X10_fittingKinds s m av below meth c A D 4 Q (CW ca ad σ) 4 [(0, .ref (ad 0)), (1, .int x1), (2, .int x2), (3, .int x3)] [] := by
    intro n4
    induction n4 with
    | zero => intro σ x1 x2 x3 h; exact absurd h (by simp [f_X10_fittingKinds_L4])
    | succ n4 ih4 =>
      have b25 : ∀ (σ : St) (x1 : Int32) (x2 : Int32) (x3 : Int32), f_X10_fittingKinds_b25 (f_X10_fittingKinds_L4 n4) σ x1 x2 x3 = some out → Bk p l e rm_X10_fittingKinds s m av below meth c A D 4 Q (CW ca ad σ) 25 [(0, .ref (ad 0)), (1, .int x1), (2, .int x2), (3, .int x3)] [] := by
        intro σ x1 x2 x3 h H locs ls w hl
        unfold f_X10_fittingKinds_b25 at h
        refine lv_iinc (v := (x3 + (1 : Int32))) (lv' := [(3, .int (x3 + (1 : Int32))), (0, .ref (ad 0)), (1, .int x1), (2, .int x2)]) hx hb dX10_fittingKinds_25 hl (k := 3) rfl rfl (by decide) rfl (fun ls hl => ?_)
        refine lv_goto (tgt := 4) hx hb dX10_fittingKinds_28 (by decide) ?_
        exact ih4 _ _ _ _ h _ _ _ w (lv_sub hl [1, 2, 3, 0] rfl)
      intro σ x1 x2 x3 h H locs ls w hl
      change f_X10_fittingKinds_b4 (f_X10_fittingKinds_L4 n4) σ x1 x2 x3 = some out at h
      unfold f_X10_fittingKinds_b4 at h
      refine lv_iload_n hx hb dX10_fittingKinds_4 rfl (lv_at hl 3 rfl) ?_
      refine lv_bipush (v := 6) hx hb dX10_fittingKinds_5 (by decide) ?_
      refine lv_icmp_ge (tgt := 31) hx hb dX10_fittingKinds_7 (by decide) (fun c1 => ?_) (fun c1 => ?_)
      · have h := it_t h c1
        refine lv_iload_n hx hb dX10_fittingKinds_31 rfl (lv_at hl 2 rfl) ?_
        rw [hQ]
        exact rI (F := CW ca ad) C w h dX10_fittingKinds_32
      · have h := it_f h c1
        refine lv_aload_n hx hb dX10_fittingKinds_10 rfl (lv_at hl 0 rfl) ?_
        refine lv_iload_n hx hb dX10_fittingKinds_11 rfl (lv_at hl 3 rfl) ?_
        refine lv_iload_n hx hb dX10_fittingKinds_12 rfl (lv_at hl 1 rfl) ?_
        obtain ⟨q1, hq1, h⟩ := ob_t h
        refine res_i C w (run_V (As := [.int x3, .int x1]) (rest := []) C w hl.1 (recvC0 C w) (c_X10_fitsAllNotes l D ca ad _ x3 x1 _ q1 hq1) rfl rfl wl_802 wl_803 wl_804 wl_2 wl_805 hd_X10_fitsAllNotes rfl ⟨Nat.le_of_ble_eq_true rfl, Nat.le_of_ble_eq_true rfl⟩ rfl (Nat.le_of_ble_eq_true rfl) dX10_fittingKinds_13) (fun H locs w => ?_)
        refine lv_if_eq (tgt := 25) hx hb dX10_fittingKinds_16 (by decide) (fun c2 => ?_) (fun c2 => ?_)
        · have h := it_t h c2
          exact b25 _ _ _ _ h _ _ _ w (lv_sub hl [0, 1, 2, 3] rfl)
        · have h := it_f h c2
          refine lv_iload_n hx hb dX10_fittingKinds_19 rfl (lv_at hl 2 rfl) ?_
          refine lv_iconst (v := 1) hx hb dX10_fittingKinds_20 (by decide) ?_
          refine lv_iload_n hx hb dX10_fittingKinds_21 rfl (lv_at hl 3 rfl) ?_
          refine lv_ishl hx hb dX10_fittingKinds_22 ?_
          refine lv_ior hx hb dX10_fittingKinds_23 ?_
          refine lv_istore_n (lv' := [(2, .int (x2 ||| ((1 : Int32) <<< (x3 &&& 31)))), (0, .ref (ad 0)), (1, .int x1), (3, .int x3)]) hx hb dX10_fittingKinds_24 rfl hl (by decide) rfl (fun ls hl => ?_)
          exact b25 _ _ _ _ h _ _ _ w (lv_sub hl [1, 2, 0, 3] rfl)
  have h := hf
  unfold f_X10_fittingKinds at h
  refine lv_iconst (v := 0) hx hb dX10_fittingKinds_0 (by decide) ?_
  refine lv_istore_n (lv' := [(2, .int (0 : Int32)), (0, .ref (ad 0)), (1, .int x1)]) hx hb dX10_fittingKinds_1 rfl hl (by decide) rfl (fun ls hl => ?_)
  refine lv_iconst (v := 0) hx hb dX10_fittingKinds_2 (by decide) ?_
  refine lv_istore_n (lv' := [(3, .int (0 : Int32)), (2, .int (0 : Int32)), (0, .ref (ad 0)), (1, .int x1)]) hx hb dX10_fittingKinds_3 rfl hl (by decide) rfl (fun ls hl => ?_)
  exact L4 FU _ _ _ _ h _ _ _ w (lv_sub hl [2, 3, 1, 0] rfl)
theorem hd_X10_is : yX10_is.cls = RX10 ∧ yX10_is.cls ≠ "java/lang/invoke/MethodHandle" ∧ yX10_is.cls ≠ "java/lang/invoke/VarHandle" ∧ (parseMethodDescriptor yX10_is.desc).map (fun d => d.parameters.length) = some 1 := by decide +kernel
def f_X10_is (σ : St) (x1 : Int32) : Option (Int32 × St) := (f_X10_isTree σ x1).bind fun q1 => if q1.1 = 0 then ((f_X10_refuseAsBad q1.2).bind fun q3 => some (q3.1, q3.2)) else ((f_X10_fittingKinds q1.2 x1).bind fun q2 => some (q2.1, q2.2))
abbrev rm_X10_is : Room := { frames := 6, cells := 0, slots := 0, locals := 360 }
set_option maxHeartbeats 4000000 in
set_option maxRecDepth 100000 in
theorem c_X10_is (l : Launch) (D : va_G) (ca : Nat → ClassId) (ad : Nat → Nat) (σ : St) (x1 : Int32) (sz : Nat) (out : Int32 × St) (hf : f_X10_is σ x1 = some out) : Met l yX10_is (.code yX10_is cX10_is 2 (some .int) :: WL) rm_X10_is (PreC D ca (CW ca ad σ) sz [.ref (ad 0), .int x1]) (PostI D (va_A (CW ca ad σ) sz) (CW ca ad out.2) out.1) 0 0 (va_A (CW ca ad σ) sz) := by
  refine Met.ofW (cc := cX10_is) (maxL := 2) (ret := (some .int)) (by decide) rfl ?_
  intro p e s m args below meth c s₁ B hml hv
  obtain ⟨rfl, hsz, hP, hK, hD, hN⟩ := hv
  subst hsz
  have C := Cx.mk (own := RX10) B hml rfl hK hN (ws := (CW ca ad σ))
  have w : Wd (va_A (CW ca ad σ) s.heap.size) s D (CW ca ad σ) s.heap [] := ⟨hP, hD.self, va_S.rf⟩
  have hl := lv_entry ([.ref (ad 0), .int x1]) (n := 2) (Nat.le_of_ble_eq_true rfl)
  rw [lg_entry_eq]
  generalize (lg_sl ([.ref (ad 0), .int x1]) ++ List.replicate (2 - (lg_sl ([.ref (ad 0), .int x1])).length) Slot.unset).toArray = ls at hl ⊢
  have hl : lv_has ls 2 [(0, .ref (ad 0)), (1, .int x1)] := hl
  change W p l e rm_X10_is s m _ below meth c _ [] 0 0 _ _
  clear B hP hD hK hN hml
  generalize va_A (CW ca ad σ) s.heap.size = A at C w ⊢
  generalize ([.ref (ad 0), .int x1] : List Value).toArray = av at C ⊢
  obtain ⟨Q, hQ⟩ : ∃ Q, Q = MQ below (PostI D A (CW ca ad out.2) out.1) av s 0 0 A := ⟨_, rfl⟩
  rw [← hQ]
  have hx := C.1
  have hb := C.2.1
  have h := hf
  unfold f_X10_is at h
  refine lv_aload_n hx hb dX10_is_0 rfl (lv_at hl 0 rfl) ?_
  refine lv_iload_n hx hb dX10_is_1 rfl (lv_at hl 1 rfl) ?_
  obtain ⟨q1, hq1, h⟩ := ob_t h
  refine res_i C w (run_V (As := [.int x1]) (rest := []) C w hl.1 (recvC0 C w) (c_X10_isTree l D ca ad _ x1 _ q1 hq1) rfl rfl wl_176 wl_177 wl_178 wl_2 wl_179 hd_X10_isTree rfl ⟨Nat.le_of_ble_eq_true rfl, Nat.le_of_ble_eq_true rfl⟩ rfl (Nat.le_of_ble_eq_true rfl) dX10_is_2) (fun H locs w => ?_)
  refine lv_if_ne (tgt := 13) hx hb dX10_is_5 (by decide) (fun c1 => ?_) (fun c1 => ?_)
  · have h := it_f h c1
    refine lv_aload_n hx hb dX10_is_13 rfl (lv_at hl 0 rfl) ?_
    refine lv_iload_n hx hb dX10_is_14 rfl (lv_at hl 1 rfl) ?_
    obtain ⟨q2, hq2, h⟩ := ob_t h
    refine res_i C w (run_V (As := [.int x1]) (rest := []) C w hl.1 (recvC0 C w) (c_X10_fittingKinds l D ca ad _ x1 _ q2 hq2) rfl rfl wl_798 wl_799 wl_800 wl_2 wl_801 hd_X10_fittingKinds rfl ⟨Nat.le_of_ble_eq_true rfl, Nat.le_of_ble_eq_true rfl⟩ rfl (Nat.le_of_ble_eq_true rfl) dX10_is_15) (fun H locs w => ?_)
    rw [hQ]
    exact rI (F := CW ca ad) C w h dX10_is_18
  · have h := it_t h c1
    refine lv_aload_n hx hb dX10_is_8 rfl (lv_at hl 0 rfl) ?_
    obtain ⟨q3, hq3, h⟩ := ob_t h
    refine res_i C w (run_V (As := []) (rest := []) C w hl.1 (recvC0 C w) (c_X10_refuseAsBad l D ca ad _  _ q3 hq3) rfl rfl wl_117 wl_118 wl_119 wl_2 wl_120 hd_X10_refuseAsBad rfl ⟨Nat.le_of_ble_eq_true rfl, Nat.le_of_ble_eq_true rfl⟩ rfl (Nat.le_of_ble_eq_true rfl) dX10_is_9) (fun H locs w => ?_)
    rw [hQ]
    exact rI (F := CW ca ad) C w h dX10_is_12
theorem hd_X10_mostAlike : yX10_mostAlike.cls = RX10 ∧ yX10_mostAlike.cls ≠ "java/lang/invoke/MethodHandle" ∧ yX10_mostAlike.cls ≠ "java/lang/invoke/VarHandle" ∧ (parseMethodDescriptor yX10_mostAlike.desc).map (fun d => d.parameters.length) = some 2 := by decide +kernel
def f_X10_mostAlike_b148 (K64 : St → Int32 → Int32 → Int32 → Option (Int32 × St)) (K77 : St → Int32 → Int32 → Int32 → Int32 → Int32 → Option (Int32 × St)) (σ : St) (x1 : Int32) (x3 : Int32) (x4 : Int32) (x5 : Int32) (x6 : Int32) : Option (Int32 × St) := K77 σ x1 x3 x4 x5 (x6 + (1 : Int32))
def f_X10_mostAlike_b104 (K64 : St → Int32 → Int32 → Int32 → Option (Int32 × St)) (K77 : St → Int32 → Int32 → Int32 → Int32 → Int32 → Option (Int32 × St)) (σ : St) (x1 : Int32) (x3 : Int32) (x4 : Int32) (x5 : Int32) (x6 : Int32) (y0 : Int32) : Option (Int32 × St) := if y0 = 0 then (f_X10_mostAlike_b148 K64 K77 σ x1 x3 x4 x5 x6) else (cond (ckI x4 6) (cond (ckI x6 6) (if (σ.2.2 43 x4.toNatClampNeg) = (σ.2.2 43 x6.toNatClampNeg) then (cond (ckI x4 6) (cond (ckI x6 6) (if (σ.2.2 44 x4.toNatClampNeg) = (σ.2.2 44 x6.toNatClampNeg) then (f_X10_mostAlike_b148 K64 K77 σ x1 x3 x4 (x5 + (1 : Int32)) x6) else (f_X10_mostAlike_b148 K64 K77 σ x1 x3 x4 x5 x6)) none) none) else (f_X10_mostAlike_b148 K64 K77 σ x1 x3 x4 x5 x6)) none) none)
def f_X10_mostAlike_b77 (K64 : St → Int32 → Int32 → Int32 → Option (Int32 × St)) (K77 : St → Int32 → Int32 → Int32 → Int32 → Int32 → Option (Int32 × St)) (σ : St) (x1 : Int32) (x3 : Int32) (x4 : Int32) (x5 : Int32) (x6 : Int32) : Option (Int32 × St) := if (6 : Int32) ≤ x6 then (K64 σ x1 (if x3 < x5 then x5 else x3) (x4 + (1 : Int32))) else (if (((x1 >>> (x4 &&& 31)) &&& (x1 >>> (x6 &&& 31))) &&& (1 : Int32)) = (1 : Int32) then (f_X10_mostAlike_b104 K64 K77 σ x1 x3 x4 x5 x6 (1 : Int32)) else (f_X10_mostAlike_b104 K64 K77 σ x1 x3 x4 x5 x6 (0 : Int32)))
def f_X10_mostAlike_L77 (K64 : St → Int32 → Int32 → Int32 → Option (Int32 × St)) : Nat → St → Int32 → Int32 → Int32 → Int32 → Int32 → Option (Int32 × St)
  | 0 => fun _ _ _ _ _ _ => none
  | n + 1 => f_X10_mostAlike_b77 K64 (f_X10_mostAlike_L77 K64 n)
def f_X10_mostAlike_b64 (K64 : St → Int32 → Int32 → Int32 → Option (Int32 × St)) (σ : St) (x1 : Int32) (x3 : Int32) (x4 : Int32) : Option (Int32 × St) := if (6 : Int32) ≤ x4 then (some (x3, σ)) else (f_X10_mostAlike_L77 K64 FU σ x1 x3 x4 (0 : Int32) (0 : Int32))
def f_X10_mostAlike_L64 : Nat → St → Int32 → Int32 → Int32 → Option (Int32 × St)
  | 0 => fun _ _ _ _ => none
  | n + 1 => f_X10_mostAlike_b64 (f_X10_mostAlike_L64 n)
def f_X10_mostAlike_b2 (K2 : St → Int32 → Int32 → Int32 → Option (Int32 × St)) (σ : St) (x1 : Int32) (x2 : Int32) (x3 : Int32) : Option (Int32 × St) := if (6 : Int32) ≤ x3 then (f_X10_mostAlike_L64 FU σ x1 (0 : Int32) (0 : Int32)) else (cond (ckI x3 6) ((kcopied x3.toNatClampNeg x2 (σ.1 108)).bind fun q1 => cond (ckI x3 6) (cond (ckI x3 6) ((klasts x3.toNatClampNeg (σ.1 108)).bind fun q2 => cond (ckI x3 6) (K2 (sE (sE σ 43 x3.toNatClampNeg q1) 44 x3.toNatClampNeg q2) x1 x2 (x3 + (1 : Int32))) none) none) none) none)
def f_X10_mostAlike_L2 : Nat → St → Int32 → Int32 → Int32 → Option (Int32 × St)
  | 0 => fun _ _ _ _ => none
  | n + 1 => f_X10_mostAlike_b2 (f_X10_mostAlike_L2 n)
def f_X10_mostAlike (σ : St) (x1 : Int32) (x2 : Int32) : Option (Int32 × St) := f_X10_mostAlike_L2 FU σ x1 x2 (0 : Int32)
abbrev rm_X10_mostAlike : Room := { frames := 4, cells := 0, slots := 0, locals := 240 }
set_option maxHeartbeats 4000000 in
set_option maxRecDepth 100000 in
theorem c_X10_mostAlike (l : Launch) (D : va_G) (ca : Nat → ClassId) (ad : Nat → Nat) (σ : St) (x1 : Int32) (x2 : Int32) (sz : Nat) (out : Int32 × St) (hf : f_X10_mostAlike σ x1 x2 = some out) : Met l yX10_mostAlike (.code yX10_mostAlike cX10_mostAlike 8 (some .int) :: WL) rm_X10_mostAlike (PreC D ca (CW ca ad σ) sz [.ref (ad 0), .int x1, .int x2]) (PostI D (va_A (CW ca ad σ) sz) (CW ca ad out.2) out.1) 0 0 (va_A (CW ca ad σ) sz) := by
  refine Met.ofW (cc := cX10_mostAlike) (maxL := 8) (ret := (some .int)) (by decide) rfl ?_
  intro p e s m args below meth c s₁ B hml hv
  obtain ⟨rfl, hsz, hP, hK, hD, hN⟩ := hv
  subst hsz
  have C := Cx.mk (own := RX10) B hml rfl hK hN (ws := (CW ca ad σ))
  have w : Wd (va_A (CW ca ad σ) s.heap.size) s D (CW ca ad σ) s.heap [] := ⟨hP, hD.self, va_S.rf⟩
  have hl := lv_entry ([.ref (ad 0), .int x1, .int x2]) (n := 8) (Nat.le_of_ble_eq_true rfl)
  rw [lg_entry_eq]
  generalize (lg_sl ([.ref (ad 0), .int x1, .int x2]) ++ List.replicate (8 - (lg_sl ([.ref (ad 0), .int x1, .int x2])).length) Slot.unset).toArray = ls at hl ⊢
  have hl : lv_has ls 8 [(0, .ref (ad 0)), (1, .int x1), (2, .int x2)] := hl
  change W p l e rm_X10_mostAlike s m _ below meth c _ [] 0 0 _ _
  clear B hP hD hK hN hml
  generalize va_A (CW ca ad σ) s.heap.size = A at C w ⊢
  generalize ([.ref (ad 0), .int x1, .int x2] : List Value).toArray = av at C ⊢
  obtain ⟨Q, hQ⟩ : ∃ Q, Q = MQ below (PostI D A (CW ca ad out.2) out.1) av s 0 0 A := ⟨_, rfl⟩
  rw [← hQ]
  have hx := C.1
  have hb := C.2.1
  have L64 : ∀ (n64 : Nat) (σ : St) (x1 : Int32) (x3 : Int32) (x4 : Int32), f_X10_mostAlike_L64 n64 σ x1 x3 x4 = some out → Bk p l e rm_X10_mostAlike s m av below meth c A D 8 Q (CW ca ad σ) 64 [(0, .ref (ad 0)), (1, .int x1), (3, .int x3), (4, .int x4)] [] := by
    intro n64
    induction n64 with
    | zero => intro σ x1 x3 x4 h; exact absurd h (by simp [f_X10_mostAlike_L64])
    | succ n64 ih64 =>
      have L77 : ∀ (n77 : Nat) (σ : St) (x1 : Int32) (x3 : Int32) (x4 : Int32) (x5 : Int32) (x6 : Int32), f_X10_mostAlike_L77 (f_X10_mostAlike_L64 n64) n77 σ x1 x3 x4 x5 x6 = some out → Bk p l e rm_X10_mostAlike s m av below meth c A D 8 Q (CW ca ad σ) 77 [(0, .ref (ad 0)), (1, .int x1), (3, .int x3), (4, .int x4), (5, .int x5), (6, .int x6)] [] := by
        intro n77
        induction n77 with
        | zero => intro σ x1 x3 x4 x5 x6 h; exact absurd h (by simp [f_X10_mostAlike_L77])
        | succ n77 ih77 =>
          have b148 : ∀ (σ : St) (x1 : Int32) (x3 : Int32) (x4 : Int32) (x5 : Int32) (x6 : Int32), f_X10_mostAlike_b148 (f_X10_mostAlike_L64 n64) (f_X10_mostAlike_L77 (f_X10_mostAlike_L64 n64) n77) σ x1 x3 x4 x5 x6 = some out → Bk p l e rm_X10_mostAlike s m av below meth c A D 8 Q (CW ca ad σ) 148 [(0, .ref (ad 0)), (1, .int x1), (3, .int x3), (4, .int x4), (5, .int x5), (6, .int x6)] [] := by
            intro σ x1 x3 x4 x5 x6 h H locs ls w hl
            unfold f_X10_mostAlike_b148 at h
            refine lv_iinc (v := (x6 + (1 : Int32))) (lv' := [(6, .int (x6 + (1 : Int32))), (0, .ref (ad 0)), (1, .int x1), (3, .int x3), (4, .int x4), (5, .int x5)]) hx hb dX10_mostAlike_148 hl (k := 5) rfl rfl (by decide) rfl (fun ls hl => ?_)
            refine lv_goto (tgt := 77) hx hb dX10_mostAlike_151 (by decide) ?_
            exact ih77 _ _ _ _ _ _ h _ _ _ w (lv_sub hl [1, 2, 3, 4, 5, 0] rfl)
          have b104 : ∀ (σ : St) (x1 : Int32) (x3 : Int32) (x4 : Int32) (x5 : Int32) (x6 : Int32) (y0 : Int32), f_X10_mostAlike_b104 (f_X10_mostAlike_L64 n64) (f_X10_mostAlike_L77 (f_X10_mostAlike_L64 n64) n77) σ x1 x3 x4 x5 x6 y0 = some out → Bk p l e rm_X10_mostAlike s m av below meth c A D 8 Q (CW ca ad σ) 104 [(0, .ref (ad 0)), (1, .int x1), (3, .int x3), (4, .int x4), (5, .int x5), (6, .int x6)] [.int y0] := by
            intro σ x1 x3 x4 x5 x6 y0 h H locs ls w hl
            unfold f_X10_mostAlike_b104 at h
            refine lv_istore (lv' := [(7, .int y0), (0, .ref (ad 0)), (1, .int x1), (3, .int x3), (4, .int x4), (5, .int x5), (6, .int x6)]) hx hb dX10_mostAlike_104 hl (by decide) rfl (fun ls hl => ?_)
            refine lv_iload hx hb dX10_mostAlike_106 (lv_at hl 0 rfl) ?_
            refine lv_if_eq (tgt := 148) hx hb dX10_mostAlike_108 (by decide) (fun c1 => ?_) (fun c1 => ?_)
            · have h := it_t h c1
              exact b148 _ _ _ _ _ _ h _ _ _ w (lv_sub hl [1, 2, 3, 4, 5, 6] rfl)
            · have h := it_f h c1
              refine lv_aload_n hx hb dX10_mostAlike_111 rfl (lv_at hl 1 rfl) ?_
              refine gC0_8 C w wl_50 dX10_mostAlike_112 ?_
              refine lv_iload hx hb dX10_mostAlike_115 (lv_at hl 4 rfl) ?_
              obtain ⟨i2, h⟩ := ck_t h
              refine ldC43 (v := (σ.2.2 43 x4.toNatClampNeg)) C w i2 rfl dX10_mostAlike_117 ?_
              refine lv_aload_n hx hb dX10_mostAlike_118 rfl (lv_at hl 1 rfl) ?_
              refine gC0_8 C w wl_50 dX10_mostAlike_119 ?_
              refine lv_iload hx hb dX10_mostAlike_122 (lv_at hl 6 rfl) ?_
              obtain ⟨i3, h⟩ := ck_t h
              refine ldC43 (v := (σ.2.2 43 x6.toNatClampNeg)) C w i3 rfl dX10_mostAlike_124 ?_
              refine lv_icmp_ne (tgt := 148) hx hb dX10_mostAlike_125 (by decide) (fun c4 => ?_) (fun c4 => ?_)
              · have h := it_f h c4
                exact b148 _ _ _ _ _ _ h _ _ _ w (lv_sub hl [1, 2, 3, 4, 5, 6] rfl)
              · have h := it_t h c4
                refine lv_aload_n hx hb dX10_mostAlike_128 rfl (lv_at hl 1 rfl) ?_
                refine gC0_9 C w wl_51 dX10_mostAlike_129 ?_
                refine lv_iload hx hb dX10_mostAlike_132 (lv_at hl 4 rfl) ?_
                obtain ⟨i5, h⟩ := ck_t h
                refine ldC44 (v := (σ.2.2 44 x4.toNatClampNeg)) C w i5 rfl dX10_mostAlike_134 ?_
                refine lv_aload_n hx hb dX10_mostAlike_135 rfl (lv_at hl 1 rfl) ?_
                refine gC0_9 C w wl_51 dX10_mostAlike_136 ?_
                refine lv_iload hx hb dX10_mostAlike_139 (lv_at hl 6 rfl) ?_
                obtain ⟨i6, h⟩ := ck_t h
                refine ldC44 (v := (σ.2.2 44 x6.toNatClampNeg)) C w i6 rfl dX10_mostAlike_141 ?_
                refine lv_icmp_ne (tgt := 148) hx hb dX10_mostAlike_142 (by decide) (fun c7 => ?_) (fun c7 => ?_)
                · have h := it_f h c7
                  exact b148 _ _ _ _ _ _ h _ _ _ w (lv_sub hl [1, 2, 3, 4, 5, 6] rfl)
                · have h := it_t h c7
                  refine lv_iinc (v := (x5 + (1 : Int32))) (lv' := [(5, .int (x5 + (1 : Int32))), (7, .int y0), (0, .ref (ad 0)), (1, .int x1), (3, .int x3), (4, .int x4), (6, .int x6)]) hx hb dX10_mostAlike_145 hl (k := 5) rfl rfl (by decide) rfl (fun ls hl => ?_)
                  exact b148 _ _ _ _ _ _ h _ _ _ w (lv_sub hl [2, 3, 4, 5, 0, 6] rfl)
          intro σ x1 x3 x4 x5 x6 h H locs ls w hl
          change f_X10_mostAlike_b77 (f_X10_mostAlike_L64 n64) (f_X10_mostAlike_L77 (f_X10_mostAlike_L64 n64) n77) σ x1 x3 x4 x5 x6 = some out at h
          unfold f_X10_mostAlike_b77 at h
          refine lv_iload hx hb dX10_mostAlike_77 (lv_at hl 5 rfl) ?_
          refine lv_bipush (v := 6) hx hb dX10_mostAlike_79 (by decide) ?_
          refine lv_icmp_ge (tgt := 154) hx hb dX10_mostAlike_81 (by decide) (fun c1 => ?_) (fun c1 => ?_)
          · have h := it_t h c1
            refine lv_iload_n hx hb dX10_mostAlike_154 rfl (lv_at hl 2 rfl) ?_
            refine lv_iload hx hb dX10_mostAlike_155 (lv_at hl 4 rfl) ?_
            refine va_mmax hx hb (C.2.2.1.trans hl.1.symm) C.ow (C.ts _ wl_823) (C.ts _ wl_824) (C.ts _ wl_224) (C.ts _ wl_825) (Nat.le_of_ble_eq_true rfl) (Nat.le_of_ble_eq_true rfl) (Nat.le_refl 0) (Nat.le_refl 0) dX10_mostAlike_157 ?_
            refine lv_istore_n (lv' := [(3, .int (if x3 < x5 then x5 else x3)), (0, .ref (ad 0)), (1, .int x1), (4, .int x4), (5, .int x5), (6, .int x6)]) hx hb dX10_mostAlike_160 rfl hl (by decide) rfl (fun ls hl => ?_)
            refine lv_iinc (v := (x4 + (1 : Int32))) (lv' := [(4, .int (x4 + (1 : Int32))), (3, .int (if x3 < x5 then x5 else x3)), (0, .ref (ad 0)), (1, .int x1), (5, .int x5), (6, .int x6)]) hx hb dX10_mostAlike_161 hl (k := 3) rfl rfl (by decide) rfl (fun ls hl => ?_)
            refine lv_goto (tgt := 64) hx hb dX10_mostAlike_164 (by decide) ?_
            exact ih64 _ _ _ _ h _ _ _ w (lv_sub hl [2, 3, 1, 0] rfl)
          · have h := it_f h c1
            refine lv_iload_n hx hb dX10_mostAlike_84 rfl (lv_at hl 1 rfl) ?_
            refine lv_iload hx hb dX10_mostAlike_85 (lv_at hl 3 rfl) ?_
            refine lv_ishr hx hb dX10_mostAlike_87 ?_
            refine lv_iload_n hx hb dX10_mostAlike_88 rfl (lv_at hl 1 rfl) ?_
            refine lv_iload hx hb dX10_mostAlike_89 (lv_at hl 5 rfl) ?_
            refine lv_ishr hx hb dX10_mostAlike_91 ?_
            refine lv_iand hx hb dX10_mostAlike_92 ?_
            refine lv_iconst (v := 1) hx hb dX10_mostAlike_93 (by decide) ?_
            refine lv_iand hx hb dX10_mostAlike_94 ?_
            refine lv_iconst (v := 1) hx hb dX10_mostAlike_95 (by decide) ?_
            refine lv_icmp_ne (tgt := 103) hx hb dX10_mostAlike_96 (by decide) (fun c2 => ?_) (fun c2 => ?_)
            · have h := it_f h c2
              refine lv_iconst (v := 0) hx hb dX10_mostAlike_103 (by decide) ?_
              exact b104 _ _ _ _ _ _ _ h _ _ _ w (lv_sub hl [0, 1, 2, 3, 4, 5] rfl)
            · have h := it_t h c2
              refine lv_iconst (v := 1) hx hb dX10_mostAlike_99 (by decide) ?_
              refine lv_goto (tgt := 104) hx hb dX10_mostAlike_100 (by decide) ?_
              exact b104 _ _ _ _ _ _ _ h _ _ _ w (lv_sub hl [0, 1, 2, 3, 4, 5] rfl)
      intro σ x1 x3 x4 h H locs ls w hl
      change f_X10_mostAlike_b64 (f_X10_mostAlike_L64 n64) σ x1 x3 x4 = some out at h
      unfold f_X10_mostAlike_b64 at h
      refine lv_iload hx hb dX10_mostAlike_64 (lv_at hl 3 rfl) ?_
      refine lv_bipush (v := 6) hx hb dX10_mostAlike_66 (by decide) ?_
      refine lv_icmp_ge (tgt := 167) hx hb dX10_mostAlike_68 (by decide) (fun c1 => ?_) (fun c1 => ?_)
      · have h := it_t h c1
        refine lv_iload_n hx hb dX10_mostAlike_167 rfl (lv_at hl 2 rfl) ?_
        rw [hQ]
        exact rI (F := CW ca ad) C w h dX10_mostAlike_168
      · have h := it_f h c1
        refine lv_iconst (v := 0) hx hb dX10_mostAlike_71 (by decide) ?_
        refine lv_istore (lv' := [(5, .int (0 : Int32)), (0, .ref (ad 0)), (1, .int x1), (3, .int x3), (4, .int x4)]) hx hb dX10_mostAlike_72 hl (by decide) rfl (fun ls hl => ?_)
        refine lv_iconst (v := 0) hx hb dX10_mostAlike_74 (by decide) ?_
        refine lv_istore (lv' := [(6, .int (0 : Int32)), (5, .int (0 : Int32)), (0, .ref (ad 0)), (1, .int x1), (3, .int x3), (4, .int x4)]) hx hb dX10_mostAlike_75 hl (by decide) rfl (fun ls hl => ?_)
        exact L77 FU _ _ _ _ _ _ h _ _ _ w (lv_sub hl [2, 3, 4, 5, 1, 0] rfl)
  have L2 : ∀ (n2 : Nat) (σ : St) (x1 : Int32) (x2 : Int32) (x3 : Int32), f_X10_mostAlike_L2 n2 σ x1 x2 x3 = some out → Bk p l e rm_X10_mostAlike s m av below meth c A D 8 Q (CW ca ad σ) 2 [(0, .ref (ad 0)), (1, .int x1), (2, .int x2), (3, .int x3)] [] := by
    intro n2
    induction n2 with
    | zero => intro σ x1 x2 x3 h; exact absurd h (by simp [f_X10_mostAlike_L2])
    | succ n2 ih2 =>
      intro σ x1 x2 x3 h H locs ls w hl
      change f_X10_mostAlike_b2 (f_X10_mostAlike_L2 n2) σ x1 x2 x3 = some out at h
      unfold f_X10_mostAlike_b2 at h
      refine lv_iload_n hx hb dX10_mostAlike_2 rfl (lv_at hl 3 rfl) ?_
      refine lv_bipush (v := 6) hx hb dX10_mostAlike_3 (by decide) ?_
      refine lv_icmp_ge (tgt := 59) hx hb dX10_mostAlike_5 (by decide) (fun c1 => ?_) (fun c1 => ?_)
      · have h := it_t h c1
        refine lv_iconst (v := 0) hx hb dX10_mostAlike_59 (by decide) ?_
        refine lv_istore_n (lv' := [(3, .int (0 : Int32)), (0, .ref (ad 0)), (1, .int x1), (2, .int x2)]) hx hb dX10_mostAlike_60 rfl hl (by decide) rfl (fun ls hl => ?_)
        refine lv_iconst (v := 0) hx hb dX10_mostAlike_61 (by decide) ?_
        refine lv_istore (lv' := [(4, .int (0 : Int32)), (3, .int (0 : Int32)), (0, .ref (ad 0)), (1, .int x1), (2, .int x2)]) hx hb dX10_mostAlike_62 hl (by decide) rfl (fun ls hl => ?_)
        exact L64 FU _ _ _ _ h _ _ _ w (lv_sub hl [2, 3, 1, 0] rfl)
      · have h := it_f h c1
        refine lv_aload_n hx hb dX10_mostAlike_8 rfl (lv_at hl 0 rfl) ?_
        refine gC0_8 C w wl_50 dX10_mostAlike_9 ?_
        refine lv_iload_n hx hb dX10_mostAlike_12 rfl (lv_at hl 3 rfl) ?_
        refine lv_aload_n hx hb dX10_mostAlike_13 rfl (lv_at hl 0 rfl) ?_
        refine gC0_0 C w wl_30 dX10_mostAlike_14 ?_
        refine lv_iload_n hx hb dX10_mostAlike_17 rfl (lv_at hl 3 rfl) ?_
        obtain ⟨i2, h⟩ := ck_t h
        refine ldC30 C w i2 dX10_mostAlike_18 ?_
        refine lv_iload_n hx hb dX10_mostAlike_19 rfl (lv_at hl 2 rfl) ?_
        refine lv_aload_n hx hb dX10_mostAlike_20 rfl (lv_at hl 0 rfl) ?_
        refine gC0_1 C w wl_34 dX10_mostAlike_21 ?_
        refine gC1_8 (v := (σ.1 108)) C w rfl wl_417 dX10_mostAlike_24 ?_
        obtain ⟨q1, hq1, h⟩ := ob_t h
        refine res_i C w (run_copied (rest := [.int x3, .ref (ad 43)]) C w hl.1 hq1 wl_483 ⟨Nat.le_of_ble_eq_true rfl, Nat.le_of_ble_eq_true rfl⟩ (Nat.le_of_ble_eq_true rfl) dX10_mostAlike_27) (fun H locs w => ?_)
        obtain ⟨i3, h⟩ := ck_t h
        refine stC43 (j := x3.toNatClampNeg) C w i3 rfl dX10_mostAlike_30 (fun H locs w => ?_)
        refine lv_aload_n hx hb dX10_mostAlike_31 rfl (lv_at hl 0 rfl) ?_
        refine gC0_9 C w wl_51 dX10_mostAlike_32 ?_
        refine lv_iload_n hx hb dX10_mostAlike_35 rfl (lv_at hl 3 rfl) ?_
        refine lv_aload_n hx hb dX10_mostAlike_36 rfl (lv_at hl 0 rfl) ?_
        refine gC0_0 C w wl_30 dX10_mostAlike_37 ?_
        refine lv_iload_n hx hb dX10_mostAlike_40 rfl (lv_at hl 3 rfl) ?_
        obtain ⟨i4, h⟩ := ck_t h
        refine ldC30 C w i4 dX10_mostAlike_41 ?_
        refine lv_aload_n hx hb dX10_mostAlike_42 rfl (lv_at hl 0 rfl) ?_
        refine gC0_1 C w wl_34 dX10_mostAlike_43 ?_
        refine gC1_8 (v := (σ.1 108)) C w rfl wl_417 dX10_mostAlike_46 ?_
        obtain ⟨q2, hq2, h⟩ := ob_t h
        refine res_i C w (run_lasts (rest := [.int x3, .ref (ad 44)]) C w hl.1 hq2 wl_509 ⟨Nat.le_of_ble_eq_true rfl, Nat.le_of_ble_eq_true rfl⟩ (Nat.le_of_ble_eq_true rfl) dX10_mostAlike_49) (fun H locs w => ?_)
        obtain ⟨i5, h⟩ := ck_t h
        refine stC44 (j := x3.toNatClampNeg) C w i5 rfl dX10_mostAlike_52 (fun H locs w => ?_)
        refine lv_iinc (v := (x3 + (1 : Int32))) (lv' := [(3, .int (x3 + (1 : Int32))), (0, .ref (ad 0)), (1, .int x1), (2, .int x2)]) hx hb dX10_mostAlike_53 hl (k := 3) rfl rfl (by decide) rfl (fun ls hl => ?_)
        refine lv_goto (tgt := 2) hx hb dX10_mostAlike_56 (by decide) ?_
        exact ih2 _ _ _ _ h _ _ _ w (lv_sub hl [1, 2, 3, 0] rfl)
  have h := hf
  unfold f_X10_mostAlike at h
  refine lv_iconst (v := 0) hx hb dX10_mostAlike_0 (by decide) ?_
  refine lv_istore_n (lv' := [(3, .int (0 : Int32)), (0, .ref (ad 0)), (1, .int x1), (2, .int x2)]) hx hb dX10_mostAlike_1 rfl hl (by decide) rfl (fun ls hl => ?_)
  exact L2 FU _ _ _ _ h _ _ _ w (lv_sub hl [1, 2, 3, 0] rfl)
theorem hd_X10_next : yX10_next.cls = RX10 ∧ yX10_next.cls ≠ "java/lang/invoke/MethodHandle" ∧ yX10_next.cls ≠ "java/lang/invoke/VarHandle" ∧ (parseMethodDescriptor yX10_next.desc).map (fun d => d.parameters.length) = some 1 := by decide +kernel
def f_X10_next_b68 (K28 : St → Int32 → Int32 → Int32 → Int32 → Option (Int32 × St)) (σ : St) (x2 : Int32) (x3 : Int32) (x4 : Int32) (x5 : Int32) : Option (Int32 × St) := K28 σ x2 x3 x4 (x5 + (1 : Int32))
def f_X10_next_b74 (σ : St) (x4 : Int32) : Option (Int32 × St) := some (x4, σ)
def f_X10_next_b28 (K28 : St → Int32 → Int32 → Int32 → Int32 → Option (Int32 × St)) (σ : St) (x2 : Int32) (x3 : Int32) (x4 : Int32) (x5 : Int32) : Option (Int32 × St) := if (85 : Int32) ≤ x5 then (f_X10_next_b74 σ x4) else (if x2 = 0 then (f_X10_next_b74 σ x4) else ((f_X3_shortLetter x5).bind fun q1 => (f_X10_mostAlike σ x2 q1).bind fun q2 => if x3 ≤ q2.1 then (f_X10_next_b68 K28 q2.2 x2 x3 x4 x5) else (f_X10_next_b68 K28 q2.2 x2 q2.1 q1 x5)))
def f_X10_next_L28 : Nat → St → Int32 → Int32 → Int32 → Int32 → Option (Int32 × St)
  | 0 => fun _ _ _ _ _ => none
  | n + 1 => f_X10_next_b28 (f_X10_next_L28 n)
def f_X10_next (σ : St) (x1 : Int32) : Option (Int32 × St) := (f_X10_isTree σ x1).bind fun q1 => if q1.1 = 0 then ((f_X10_refuseAsBad q1.2).bind fun q3 => some (q3.1, q3.2)) else ((f_X10_fittingKinds q1.2 x1).bind fun q2 => f_X10_next_L28 FU q2.2 q2.1 (7 : Int32) (-1 : Int32) (1 : Int32))
abbrev rm_X10_next : Room := { frames := 6, cells := 0, slots := 0, locals := 360 }
set_option maxHeartbeats 4000000 in
set_option maxRecDepth 100000 in
theorem c_X10_next (l : Launch) (D : va_G) (ca : Nat → ClassId) (ad : Nat → Nat) (σ : St) (x1 : Int32) (sz : Nat) (out : Int32 × St) (hf : f_X10_next σ x1 = some out) : Met l yX10_next (.code yX10_next cX10_next 8 (some .int) :: WL) rm_X10_next (PreC D ca (CW ca ad σ) sz [.ref (ad 0), .int x1]) (PostI D (va_A (CW ca ad σ) sz) (CW ca ad out.2) out.1) 0 0 (va_A (CW ca ad σ) sz) := by
  refine Met.ofW (cc := cX10_next) (maxL := 8) (ret := (some .int)) (by decide) rfl ?_
  intro p e s m args below meth c s₁ B hml hv
  obtain ⟨rfl, hsz, hP, hK, hD, hN⟩ := hv
  subst hsz
  have C := Cx.mk (own := RX10) B hml rfl hK hN (ws := (CW ca ad σ))
  have w : Wd (va_A (CW ca ad σ) s.heap.size) s D (CW ca ad σ) s.heap [] := ⟨hP, hD.self, va_S.rf⟩
  have hl := lv_entry ([.ref (ad 0), .int x1]) (n := 8) (Nat.le_of_ble_eq_true rfl)
  rw [lg_entry_eq]
  generalize (lg_sl ([.ref (ad 0), .int x1]) ++ List.replicate (8 - (lg_sl ([.ref (ad 0), .int x1])).length) Slot.unset).toArray = ls at hl ⊢
  have hl : lv_has ls 8 [(0, .ref (ad 0)), (1, .int x1)] := hl
  change W p l e rm_X10_next s m _ below meth c _ [] 0 0 _ _
  clear B hP hD hK hN hml
  generalize va_A (CW ca ad σ) s.heap.size = A at C w ⊢
  generalize ([.ref (ad 0), .int x1] : List Value).toArray = av at C ⊢
  obtain ⟨Q, hQ⟩ : ∃ Q, Q = MQ below (PostI D A (CW ca ad out.2) out.1) av s 0 0 A := ⟨_, rfl⟩
  rw [← hQ]
  have hx := C.1
  have hb := C.2.1
  have b74 : ∀ (σ : St) (x4 : Int32), f_X10_next_b74 σ x4 = some out → Bk p l e rm_X10_next s m av below meth c A D 8 Q (CW ca ad σ) 74 [(4, .int x4)] [] := by
    intro σ x4 h H locs ls w hl
    unfold f_X10_next_b74 at h
    refine lv_iload hx hb dX10_next_74 (lv_at hl 0 rfl) ?_
    rw [hQ]
    exact rI (F := CW ca ad) C w h dX10_next_76
  have L28 : ∀ (n28 : Nat) (σ : St) (x2 : Int32) (x3 : Int32) (x4 : Int32) (x5 : Int32), f_X10_next_L28 n28 σ x2 x3 x4 x5 = some out → Bk p l e rm_X10_next s m av below meth c A D 8 Q (CW ca ad σ) 28 [(0, .ref (ad 0)), (2, .int x2), (3, .int x3), (4, .int x4), (5, .int x5)] [] := by
    intro n28
    induction n28 with
    | zero => intro σ x2 x3 x4 x5 h; exact absurd h (by simp [f_X10_next_L28])
    | succ n28 ih28 =>
      have b68 : ∀ (σ : St) (x2 : Int32) (x3 : Int32) (x4 : Int32) (x5 : Int32), f_X10_next_b68 (f_X10_next_L28 n28) σ x2 x3 x4 x5 = some out → Bk p l e rm_X10_next s m av below meth c A D 8 Q (CW ca ad σ) 68 [(0, .ref (ad 0)), (2, .int x2), (3, .int x3), (4, .int x4), (5, .int x5)] [] := by
        intro σ x2 x3 x4 x5 h H locs ls w hl
        unfold f_X10_next_b68 at h
        refine lv_iinc (v := (x5 + (1 : Int32))) (lv' := [(5, .int (x5 + (1 : Int32))), (0, .ref (ad 0)), (2, .int x2), (3, .int x3), (4, .int x4)]) hx hb dX10_next_68 hl (k := 4) rfl rfl (by decide) rfl (fun ls hl => ?_)
        refine lv_goto (tgt := 28) hx hb dX10_next_71 (by decide) ?_
        exact ih28 _ _ _ _ _ h _ _ _ w (lv_sub hl [1, 2, 3, 4, 0] rfl)
      intro σ x2 x3 x4 x5 h H locs ls w hl
      change f_X10_next_b28 (f_X10_next_L28 n28) σ x2 x3 x4 x5 = some out at h
      unfold f_X10_next_b28 at h
      refine lv_iload hx hb dX10_next_28 (lv_at hl 4 rfl) ?_
      refine lv_bipush (v := 85) hx hb dX10_next_30 (by decide) ?_
      refine lv_icmp_ge (tgt := 74) hx hb dX10_next_32 (by decide) (fun c1 => ?_) (fun c1 => ?_)
      · have h := it_t h c1
        exact b74 _ _ h _ _ _ w (lv_sub hl [3] rfl)
      · have h := it_f h c1
        refine lv_iload_n hx hb dX10_next_35 rfl (lv_at hl 1 rfl) ?_
        refine lv_if_eq (tgt := 74) hx hb dX10_next_36 (by decide) (fun c2 => ?_) (fun c2 => ?_)
        · have h := it_t h c2
          exact b74 _ _ h _ _ _ w (lv_sub hl [3] rfl)
        · have h := it_f h c2
          refine lv_iload hx hb dX10_next_39 (lv_at hl 4 rfl) ?_
          obtain ⟨q1, hq1, h⟩ := ob_t h
          refine res_i C w (run_S (As := [.int x5]) (rest := []) C w hl.1 (c_X3_shortLetter l D ca _ x5 _ q1 hq1) rfl rfl wl_682 wl_683 wl_461 wl_684 hd_X3_shortLetter rfl ⟨Nat.le_of_ble_eq_true rfl, Nat.le_of_ble_eq_true rfl⟩ rfl (Nat.le_of_ble_eq_true rfl) dX10_next_41) (fun H locs w => ?_)
          refine lv_istore (lv' := [(6, .int q1), (0, .ref (ad 0)), (2, .int x2), (3, .int x3), (4, .int x4), (5, .int x5)]) hx hb dX10_next_44 hl (by decide) rfl (fun ls hl => ?_)
          refine lv_aload_n hx hb dX10_next_46 rfl (lv_at hl 1 rfl) ?_
          refine lv_iload_n hx hb dX10_next_47 rfl (lv_at hl 2 rfl) ?_
          refine lv_iload hx hb dX10_next_48 (lv_at hl 0 rfl) ?_
          obtain ⟨q2, hq2, h⟩ := ob_t h
          refine res_i C w (run_V (As := [.int x2, .int q1]) (rest := []) C w hl.1 (recvC0 C w) (c_X10_mostAlike l D ca ad _ x2 q1 _ q2 hq2) rfl rfl wl_819 wl_820 wl_821 wl_2 wl_822 hd_X10_mostAlike rfl ⟨Nat.le_of_ble_eq_true rfl, Nat.le_of_ble_eq_true rfl⟩ rfl (Nat.le_of_ble_eq_true rfl) dX10_next_50) (fun H locs w => ?_)
          refine lv_istore (lv' := [(7, .int q2.1), (6, .int q1), (0, .ref (ad 0)), (2, .int x2), (3, .int x3), (4, .int x4), (5, .int x5)]) hx hb dX10_next_53 hl (by decide) rfl (fun ls hl => ?_)
          refine lv_iload hx hb dX10_next_55 (lv_at hl 0 rfl) ?_
          refine lv_iload_n hx hb dX10_next_57 rfl (lv_at hl 4 rfl) ?_
          refine lv_icmp_ge (tgt := 68) hx hb dX10_next_58 (by decide) (fun c3 => ?_) (fun c3 => ?_)
          · have h := it_t h c3
            exact b68 _ _ _ _ _ h _ _ _ w (lv_sub hl [2, 3, 4, 5, 6] rfl)
          · have h := it_f h c3
            refine lv_iload hx hb dX10_next_61 (lv_at hl 0 rfl) ?_
            refine lv_istore_n (lv' := [(3, .int q2.1), (7, .int q2.1), (6, .int q1), (0, .ref (ad 0)), (2, .int x2), (4, .int x4), (5, .int x5)]) hx hb dX10_next_63 rfl hl (by decide) rfl (fun ls hl => ?_)
            refine lv_iload hx hb dX10_next_64 (lv_at hl 2 rfl) ?_
            refine lv_istore (lv' := [(4, .int q1), (3, .int q2.1), (7, .int q2.1), (6, .int q1), (0, .ref (ad 0)), (2, .int x2), (5, .int x5)]) hx hb dX10_next_66 hl (by decide) rfl (fun ls hl => ?_)
            exact b68 _ _ _ _ _ h _ _ _ w (lv_sub hl [4, 5, 1, 0, 6] rfl)
  have h := hf
  unfold f_X10_next at h
  refine lv_aload_n hx hb dX10_next_0 rfl (lv_at hl 0 rfl) ?_
  refine lv_iload_n hx hb dX10_next_1 rfl (lv_at hl 1 rfl) ?_
  obtain ⟨q1, hq1, h⟩ := ob_t h
  refine res_i C w (run_V (As := [.int x1]) (rest := []) C w hl.1 (recvC0 C w) (c_X10_isTree l D ca ad _ x1 _ q1 hq1) rfl rfl wl_176 wl_177 wl_178 wl_2 wl_179 hd_X10_isTree rfl ⟨Nat.le_of_ble_eq_true rfl, Nat.le_of_ble_eq_true rfl⟩ rfl (Nat.le_of_ble_eq_true rfl) dX10_next_2) (fun H locs w => ?_)
  refine lv_if_ne (tgt := 13) hx hb dX10_next_5 (by decide) (fun c1 => ?_) (fun c1 => ?_)
  · have h := it_f h c1
    refine lv_aload_n hx hb dX10_next_13 rfl (lv_at hl 0 rfl) ?_
    refine lv_iload_n hx hb dX10_next_14 rfl (lv_at hl 1 rfl) ?_
    obtain ⟨q2, hq2, h⟩ := ob_t h
    refine res_i C w (run_V (As := [.int x1]) (rest := []) C w hl.1 (recvC0 C w) (c_X10_fittingKinds l D ca ad _ x1 _ q2 hq2) rfl rfl wl_798 wl_799 wl_800 wl_2 wl_801 hd_X10_fittingKinds rfl ⟨Nat.le_of_ble_eq_true rfl, Nat.le_of_ble_eq_true rfl⟩ rfl (Nat.le_of_ble_eq_true rfl) dX10_next_15) (fun H locs w => ?_)
    refine lv_istore_n (lv' := [(2, .int q2.1), (0, .ref (ad 0)), (1, .int x1)]) hx hb dX10_next_18 rfl hl (by decide) rfl (fun ls hl => ?_)
    refine lv_bipush (v := 7) hx hb dX10_next_19 (by decide) ?_
    refine lv_istore_n (lv' := [(3, .int (7 : Int32)), (2, .int q2.1), (0, .ref (ad 0)), (1, .int x1)]) hx hb dX10_next_21 rfl hl (by decide) rfl (fun ls hl => ?_)
    refine lv_iconst (v := -1) hx hb dX10_next_22 (by decide) ?_
    refine lv_istore (lv' := [(4, .int (-1 : Int32)), (3, .int (7 : Int32)), (2, .int q2.1), (0, .ref (ad 0)), (1, .int x1)]) hx hb dX10_next_23 hl (by decide) rfl (fun ls hl => ?_)
    refine lv_iconst (v := 1) hx hb dX10_next_25 (by decide) ?_
    refine lv_istore (lv' := [(5, .int (1 : Int32)), (4, .int (-1 : Int32)), (3, .int (7 : Int32)), (2, .int q2.1), (0, .ref (ad 0)), (1, .int x1)]) hx hb dX10_next_26 hl (by decide) rfl (fun ls hl => ?_)
    exact L28 FU _ _ _ _ _ h _ _ _ w (lv_sub hl [4, 3, 2, 1, 0] rfl)
  · have h := it_t h c1
    refine lv_aload_n hx hb dX10_next_8 rfl (lv_at hl 0 rfl) ?_
    obtain ⟨q3, hq3, h⟩ := ob_t h
    refine res_i C w (run_V (As := []) (rest := []) C w hl.1 (recvC0 C w) (c_X10_refuseAsBad l D ca ad _  _ q3 hq3) rfl rfl wl_117 wl_118 wl_119 wl_2 wl_120 hd_X10_refuseAsBad rfl ⟨Nat.le_of_ble_eq_true rfl, Nat.le_of_ble_eq_true rfl⟩ rfl (Nat.le_of_ble_eq_true rfl) dX10_next_9) (fun H locs w => ?_)
    rw [hQ]
    exact rI (F := CW ca ad) C w h dX10_next_12
theorem hd_X10_mayHaveBeenPutIn : yX10_mayHaveBeenPutIn.cls = RX10 ∧ yX10_mayHaveBeenPutIn.cls ≠ "java/lang/invoke/MethodHandle" ∧ yX10_mayHaveBeenPutIn.cls ≠ "java/lang/invoke/VarHandle" ∧ (parseMethodDescriptor yX10_mayHaveBeenPutIn.desc).map (fun d => d.parameters.length) = some 1 := by decide +kernel
def f_X10_mayHaveBeenPutIn_b2 (K2 : St → Int32 → Int32 → Option (Int32 × St)) (σ : St) (x1 : Int32) (x2 : Int32) : Option (Int32 × St) := if (σ.1 110) ≤ x2 then (some ((1 : Int32), σ)) else (cond (ckI (x2 * (3 : Int32)) 18) (cond (ckI ((x2 * (3 : Int32)) + (1 : Int32)) 18) ((f_X7_follow σ (σ.2.2 5 ((x2 * (3 : Int32))).toNatClampNeg) x1 (σ.2.2 5 (((x2 * (3 : Int32)) + (1 : Int32))).toNatClampNeg)).bind fun q1 => cond (ckI ((x2 * (3 : Int32)) + (2 : Int32)) 18) (if (q1.1 3808) = (q1.2.2 5 (((x2 * (3 : Int32)) + (2 : Int32))).toNatClampNeg) then (K2 q1 x1 (x2 + (1 : Int32))) else (some ((0 : Int32), q1))) none) none) none)
def f_X10_mayHaveBeenPutIn_L2 : Nat → St → Int32 → Int32 → Option (Int32 × St)
  | 0 => fun _ _ _ => none
  | n + 1 => f_X10_mayHaveBeenPutIn_b2 (f_X10_mayHaveBeenPutIn_L2 n)
def f_X10_mayHaveBeenPutIn (σ : St) (x1 : Int32) : Option (Int32 × St) := f_X10_mayHaveBeenPutIn_L2 FU σ x1 (0 : Int32)
abbrev rm_X10_mayHaveBeenPutIn : Room := { frames := 5, cells := 0, slots := 0, locals := 300 }
set_option maxHeartbeats 4000000 in
set_option maxRecDepth 100000 in
theorem c_X10_mayHaveBeenPutIn (l : Launch) (D : va_G) (ca : Nat → ClassId) (ad : Nat → Nat) (σ : St) (x1 : Int32) (sz : Nat) (out : Int32 × St) (hf : f_X10_mayHaveBeenPutIn σ x1 = some out) : Met l yX10_mayHaveBeenPutIn (.code yX10_mayHaveBeenPutIn cX10_mayHaveBeenPutIn 4 (some .boolean) :: WL) rm_X10_mayHaveBeenPutIn (PreC D ca (CW ca ad σ) sz [.ref (ad 0), .int x1]) (PostI D (va_A (CW ca ad σ) sz) (CW ca ad out.2) out.1) 0 0 (va_A (CW ca ad σ) sz) := by
  refine Met.ofW (cc := cX10_mayHaveBeenPutIn) (maxL := 4) (ret := (some .boolean)) (by decide) rfl ?_
  intro p e s m args below meth c s₁ B hml hv
  obtain ⟨rfl, hsz, hP, hK, hD, hN⟩ := hv
  subst hsz
  have C := Cx.mk (own := RX10) B hml rfl hK hN (ws := (CW ca ad σ))
  have w : Wd (va_A (CW ca ad σ) s.heap.size) s D (CW ca ad σ) s.heap [] := ⟨hP, hD.self, va_S.rf⟩
  have hl := lv_entry ([.ref (ad 0), .int x1]) (n := 4) (Nat.le_of_ble_eq_true rfl)
  rw [lg_entry_eq]
  generalize (lg_sl ([.ref (ad 0), .int x1]) ++ List.replicate (4 - (lg_sl ([.ref (ad 0), .int x1])).length) Slot.unset).toArray = ls at hl ⊢
  have hl : lv_has ls 4 [(0, .ref (ad 0)), (1, .int x1)] := hl
  change W p l e rm_X10_mayHaveBeenPutIn s m _ below meth c _ [] 0 0 _ _
  clear B hP hD hK hN hml
  generalize va_A (CW ca ad σ) s.heap.size = A at C w ⊢
  generalize ([.ref (ad 0), .int x1] : List Value).toArray = av at C ⊢
  obtain ⟨Q, hQ⟩ : ∃ Q, Q = MQ below (PostI D A (CW ca ad out.2) out.1) av s 0 0 A := ⟨_, rfl⟩
  rw [← hQ]
  have hx := C.1
  have hb := C.2.1
  have L2 : ∀ (n2 : Nat) (σ : St) (x1 : Int32) (x2 : Int32), f_X10_mayHaveBeenPutIn_L2 n2 σ x1 x2 = some out → Bk p l e rm_X10_mayHaveBeenPutIn s m av below meth c A D 4 Q (CW ca ad σ) 2 [(0, .ref (ad 0)), (1, .int x1), (2, .int x2)] [] := by
    intro n2
    induction n2 with
    | zero => intro σ x1 x2 h; exact absurd h (by simp [f_X10_mayHaveBeenPutIn_L2])
    | succ n2 ih2 =>
      intro σ x1 x2 h H locs ls w hl
      change f_X10_mayHaveBeenPutIn_b2 (f_X10_mayHaveBeenPutIn_L2 n2) σ x1 x2 = some out at h
      unfold f_X10_mayHaveBeenPutIn_b2 at h
      refine lv_iload_n hx hb dX10_mayHaveBeenPutIn_2 rfl (lv_at hl 2 rfl) ?_
      refine lv_aload_n hx hb dX10_mayHaveBeenPutIn_3 rfl (lv_at hl 0 rfl) ?_
      refine gC0_1 C w wl_34 dX10_mayHaveBeenPutIn_4 ?_
      refine gC1_10 (v := (σ.1 110)) C w rfl wl_777 dX10_mayHaveBeenPutIn_7 ?_
      refine lv_icmp_ge (tgt := 74) hx hb dX10_mayHaveBeenPutIn_10 (by decide) (fun c1 => ?_) (fun c1 => ?_)
      · have h := it_t h c1
        refine lv_iconst (v := 1) hx hb dX10_mayHaveBeenPutIn_74 (by decide) ?_
        rw [hQ]
        exact rZ (F := CW ca ad) C w (by decide) h dX10_mayHaveBeenPutIn_75
      · have h := it_f h c1
        refine lv_iload_n hx hb dX10_mayHaveBeenPutIn_13 rfl (lv_at hl 2 rfl) ?_
        refine lv_iconst (v := 3) hx hb dX10_mayHaveBeenPutIn_14 (by decide) ?_
        refine lv_imul hx hb dX10_mayHaveBeenPutIn_15 ?_
        refine lv_istore_n (lv' := [(3, .int (x2 * (3 : Int32))), (0, .ref (ad 0)), (1, .int x1), (2, .int x2)]) hx hb dX10_mayHaveBeenPutIn_16 rfl hl (by decide) rfl (fun ls hl => ?_)
        refine lv_aload_n hx hb dX10_mayHaveBeenPutIn_17 rfl (lv_at hl 1 rfl) ?_
        refine gC0_5 C w wl_42 dX10_mayHaveBeenPutIn_18 ?_
        refine lv_aload_n hx hb dX10_mayHaveBeenPutIn_21 rfl (lv_at hl 1 rfl) ?_
        refine gC0_1 C w wl_34 dX10_mayHaveBeenPutIn_22 ?_
        refine gC1_3 C w wl_842 dX10_mayHaveBeenPutIn_25 ?_
        refine lv_iload_n hx hb dX10_mayHaveBeenPutIn_28 rfl (lv_at hl 0 rfl) ?_
        obtain ⟨i2, h⟩ := ck_t h
        refine ldC5 (v := (σ.2.2 5 ((x2 * (3 : Int32))).toNatClampNeg)) C w i2 rfl dX10_mayHaveBeenPutIn_29 ?_
        refine lv_iload_n hx hb dX10_mayHaveBeenPutIn_30 rfl (lv_at hl 2 rfl) ?_
        refine lv_aload_n hx hb dX10_mayHaveBeenPutIn_31 rfl (lv_at hl 1 rfl) ?_
        refine gC0_1 C w wl_34 dX10_mayHaveBeenPutIn_32 ?_
        refine gC1_3 C w wl_842 dX10_mayHaveBeenPutIn_35 ?_
        refine lv_iload_n hx hb dX10_mayHaveBeenPutIn_38 rfl (lv_at hl 0 rfl) ?_
        refine lv_iconst (v := 1) hx hb dX10_mayHaveBeenPutIn_39 (by decide) ?_
        refine lv_iadd hx hb dX10_mayHaveBeenPutIn_40 ?_
        obtain ⟨i3, h⟩ := ck_t h
        refine ldC5 (v := (σ.2.2 5 (((x2 * (3 : Int32)) + (1 : Int32))).toNatClampNeg)) C w i3 rfl dX10_mayHaveBeenPutIn_41 ?_
        obtain ⟨q1, hq1, h⟩ := ob_t h
        refine res_v C w (run_V (As := [.int (σ.2.2 5 ((x2 * (3 : Int32))).toNatClampNeg), .int x1, .int (σ.2.2 5 (((x2 * (3 : Int32)) + (1 : Int32))).toNatClampNeg)]) (rest := []) C w hl.1 (recvC38 C w) (c_X7_follow l D ca ad _ (σ.2.2 5 ((x2 * (3 : Int32))).toNatClampNeg) x1 (σ.2.2 5 (((x2 * (3 : Int32)) + (1 : Int32))).toNatClampNeg) _ q1 hq1) rfl rfl wl_560 wl_561 wl_562 wl_41 wl_563 hd_X7_follow rfl ⟨Nat.le_of_ble_eq_true rfl, Nat.le_of_ble_eq_true rfl⟩ rfl (Nat.le_of_ble_eq_true rfl) dX10_mayHaveBeenPutIn_42) (fun H locs w => ?_)
        refine lv_aload_n hx hb dX10_mayHaveBeenPutIn_45 rfl (lv_at hl 1 rfl) ?_
        refine gC0_5 C w wl_42 dX10_mayHaveBeenPutIn_46 ?_
        refine gC38_8 (v := (q1.1 3808)) C w rfl wl_545 dX10_mayHaveBeenPutIn_49 ?_
        refine lv_aload_n hx hb dX10_mayHaveBeenPutIn_52 rfl (lv_at hl 1 rfl) ?_
        refine gC0_1 C w wl_34 dX10_mayHaveBeenPutIn_53 ?_
        refine gC1_3 C w wl_842 dX10_mayHaveBeenPutIn_56 ?_
        refine lv_iload_n hx hb dX10_mayHaveBeenPutIn_59 rfl (lv_at hl 0 rfl) ?_
        refine lv_iconst (v := 2) hx hb dX10_mayHaveBeenPutIn_60 (by decide) ?_
        refine lv_iadd hx hb dX10_mayHaveBeenPutIn_61 ?_
        obtain ⟨i4, h⟩ := ck_t h
        refine ldC5 (v := (q1.2.2 5 (((x2 * (3 : Int32)) + (2 : Int32))).toNatClampNeg)) C w i4 rfl dX10_mayHaveBeenPutIn_62 ?_
        refine lv_icmp_eq (tgt := 68) hx hb dX10_mayHaveBeenPutIn_63 (by decide) (fun c5 => ?_) (fun c5 => ?_)
        · have h := it_t h c5
          refine lv_iinc (v := (x2 + (1 : Int32))) (lv' := [(2, .int (x2 + (1 : Int32))), (3, .int (x2 * (3 : Int32))), (0, .ref (ad 0)), (1, .int x1)]) hx hb dX10_mayHaveBeenPutIn_68 hl (k := 3) rfl rfl (by decide) rfl (fun ls hl => ?_)
          refine lv_goto (tgt := 2) hx hb dX10_mayHaveBeenPutIn_71 (by decide) ?_
          exact ih2 _ _ _ h _ _ _ w (lv_sub hl [2, 3, 0] rfl)
        · have h := it_f h c5
          refine lv_iconst (v := 0) hx hb dX10_mayHaveBeenPutIn_66 (by decide) ?_
          rw [hQ]
          exact rZ (F := CW ca ad) C w (by decide) h dX10_mayHaveBeenPutIn_67
  have h := hf
  unfold f_X10_mayHaveBeenPutIn at h
  refine lv_iconst (v := 0) hx hb dX10_mayHaveBeenPutIn_0 (by decide) ?_
  refine lv_istore_n (lv' := [(2, .int (0 : Int32)), (0, .ref (ad 0)), (1, .int x1)]) hx hb dX10_mayHaveBeenPutIn_1 rfl hl (by decide) rfl (fun ls hl => ?_)
  exact L2 FU _ _ _ h _ _ _ w (lv_sub hl [1, 2, 0] rfl)
theorem hd_X10_first : yX10_first.cls = RX10 ∧ yX10_first.cls ≠ "java/lang/invoke/MethodHandle" ∧ yX10_first.cls ≠ "java/lang/invoke/VarHandle" ∧ (parseMethodDescriptor yX10_first.desc).map (fun d => d.parameters.length) = some 1 := by decide +kernel
def f_X10_first_b58 (K21 : St → Int32 → Int32 → Int32 → Int32 → Option (Int32 × St)) (σ : St) (x1 : Int32) (x2 : Int32) (x3 : Int32) (x4 : Int32) : Option (Int32 × St) := K21 σ x1 x2 x3 (x4 + (1 : Int32))
def f_X10_first_b54 (K21 : St → Int32 → Int32 → Int32 → Int32 → Option (Int32 × St)) (σ : St) (x1 : Int32) (x2 : Int32) (x4 : Int32) (y0 : Int32) : Option (Int32 × St) := f_X10_first_b58 K21 σ x1 (x2 + (1 : Int32)) y0 x4
def f_X10_first_b21 (K21 : St → Int32 → Int32 → Int32 → Int32 → Option (Int32 × St)) (σ : St) (x1 : Int32) (x2 : Int32) (x3 : Int32) (x4 : Int32) : Option (Int32 × St) := if (85 : Int32) ≤ x4 then (if x1 = 0 then (some (x2, σ)) else (some (x3, σ))) else ((f_X3_shortLetter x4).bind fun q1 => (f_X10_mayHaveBeenPutIn σ q1).bind fun q2 => if q2.1 = 0 then (f_X10_first_b58 K21 q2.2 x1 x2 x3 x4) else (if x2 = 0 then (f_X10_first_b54 K21 q2.2 x1 x2 x4 q1) else (f_X10_first_b54 K21 q2.2 x1 x2 x4 x3)))
def f_X10_first_L21 : Nat → St → Int32 → Int32 → Int32 → Int32 → Option (Int32 × St)
  | 0 => fun _ _ _ _ _ => none
  | n + 1 => f_X10_first_b21 (f_X10_first_L21 n)
def f_X10_first (σ : St) (x1 : Int32) : Option (Int32 × St) := (f_X10_within x1 (0 : Int32) (1 : Int32)).bind fun q1 => if q1 = 0 then ((f_X10_refuseAsBad σ).bind fun q2 => some (q2.1, q2.2)) else (f_X10_first_L21 FU σ x1 (0 : Int32) (-1 : Int32) (0 : Int32))
abbrev rm_X10_first : Room := { frames := 6, cells := 0, slots := 0, locals := 360 }
set_option maxHeartbeats 4000000 in
set_option maxRecDepth 100000 in
theorem c_X10_first (l : Launch) (D : va_G) (ca : Nat → ClassId) (ad : Nat → Nat) (σ : St) (x1 : Int32) (sz : Nat) (out : Int32 × St) (hf : f_X10_first σ x1 = some out) : Met l yX10_first (.code yX10_first cX10_first 6 (some .int) :: WL) rm_X10_first (PreC D ca (CW ca ad σ) sz [.ref (ad 0), .int x1]) (PostI D (va_A (CW ca ad σ) sz) (CW ca ad out.2) out.1) 0 0 (va_A (CW ca ad σ) sz) := by
  refine Met.ofW (cc := cX10_first) (maxL := 6) (ret := (some .int)) (by decide) rfl ?_
  intro p e s m args below meth c s₁ B hml hv
  obtain ⟨rfl, hsz, hP, hK, hD, hN⟩ := hv
  subst hsz
  have C := Cx.mk (own := RX10) B hml rfl hK hN (ws := (CW ca ad σ))
  have w : Wd (va_A (CW ca ad σ) s.heap.size) s D (CW ca ad σ) s.heap [] := ⟨hP, hD.self, va_S.rf⟩
  have hl := lv_entry ([.ref (ad 0), .int x1]) (n := 6) (Nat.le_of_ble_eq_true rfl)
  rw [lg_entry_eq]
  generalize (lg_sl ([.ref (ad 0), .int x1]) ++ List.replicate (6 - (lg_sl ([.ref (ad 0), .int x1])).length) Slot.unset).toArray = ls at hl ⊢
  have hl : lv_has ls 6 [(0, .ref (ad 0)), (1, .int x1)] := hl
  change W p l e rm_X10_first s m _ below meth c _ [] 0 0 _ _
  clear B hP hD hK hN hml
  generalize va_A (CW ca ad σ) s.heap.size = A at C w ⊢
  generalize ([.ref (ad 0), .int x1] : List Value).toArray = av at C ⊢
  obtain ⟨Q, hQ⟩ : ∃ Q, Q = MQ below (PostI D A (CW ca ad out.2) out.1) av s 0 0 A := ⟨_, rfl⟩
  rw [← hQ]
  have hx := C.1
  have hb := C.2.1
  have L21 : ∀ (n21 : Nat) (σ : St) (x1 : Int32) (x2 : Int32) (x3 : Int32) (x4 : Int32), f_X10_first_L21 n21 σ x1 x2 x3 x4 = some out → Bk p l e rm_X10_first s m av below meth c A D 6 Q (CW ca ad σ) 21 [(0, .ref (ad 0)), (1, .int x1), (2, .int x2), (3, .int x3), (4, .int x4)] [] := by
    intro n21
    induction n21 with
    | zero => intro σ x1 x2 x3 x4 h; exact absurd h (by simp [f_X10_first_L21])
    | succ n21 ih21 =>
      have b58 : ∀ (σ : St) (x1 : Int32) (x2 : Int32) (x3 : Int32) (x4 : Int32), f_X10_first_b58 (f_X10_first_L21 n21) σ x1 x2 x3 x4 = some out → Bk p l e rm_X10_first s m av below meth c A D 6 Q (CW ca ad σ) 58 [(0, .ref (ad 0)), (1, .int x1), (2, .int x2), (3, .int x3), (4, .int x4)] [] := by
        intro σ x1 x2 x3 x4 h H locs ls w hl
        unfold f_X10_first_b58 at h
        refine lv_iinc (v := (x4 + (1 : Int32))) (lv' := [(4, .int (x4 + (1 : Int32))), (0, .ref (ad 0)), (1, .int x1), (2, .int x2), (3, .int x3)]) hx hb dX10_first_58 hl (k := 4) rfl rfl (by decide) rfl (fun ls hl => ?_)
        refine lv_goto (tgt := 21) hx hb dX10_first_61 (by decide) ?_
        exact ih21 _ _ _ _ _ h _ _ _ w (lv_sub hl [1, 2, 3, 4, 0] rfl)
      have b54 : ∀ (σ : St) (x1 : Int32) (x2 : Int32) (x4 : Int32) (y0 : Int32), f_X10_first_b54 (f_X10_first_L21 n21) σ x1 x2 x4 y0 = some out → Bk p l e rm_X10_first s m av below meth c A D 6 Q (CW ca ad σ) 54 [(0, .ref (ad 0)), (1, .int x1), (2, .int x2), (4, .int x4)] [.int y0] := by
        intro σ x1 x2 x4 y0 h H locs ls w hl
        unfold f_X10_first_b54 at h
        refine lv_istore_n (lv' := [(3, .int y0), (0, .ref (ad 0)), (1, .int x1), (2, .int x2), (4, .int x4)]) hx hb dX10_first_54 rfl hl (by decide) rfl (fun ls hl => ?_)
        refine lv_iinc (v := (x2 + (1 : Int32))) (lv' := [(2, .int (x2 + (1 : Int32))), (3, .int y0), (0, .ref (ad 0)), (1, .int x1), (4, .int x4)]) hx hb dX10_first_55 hl (k := 3) rfl rfl (by decide) rfl (fun ls hl => ?_)
        exact b58 _ _ _ _ _ h _ _ _ w (lv_sub hl [2, 3, 0, 1, 4] rfl)
      intro σ x1 x2 x3 x4 h H locs ls w hl
      change f_X10_first_b21 (f_X10_first_L21 n21) σ x1 x2 x3 x4 = some out at h
      unfold f_X10_first_b21 at h
      refine lv_iload hx hb dX10_first_21 (lv_at hl 4 rfl) ?_
      refine lv_bipush (v := 85) hx hb dX10_first_23 (by decide) ?_
      refine lv_icmp_ge (tgt := 64) hx hb dX10_first_25 (by decide) (fun c1 => ?_) (fun c1 => ?_)
      · have h := it_t h c1
        refine lv_iload_n hx hb dX10_first_64 rfl (lv_at hl 1 rfl) ?_
        refine lv_if_ne (tgt := 72) hx hb dX10_first_65 (by decide) (fun c2 => ?_) (fun c2 => ?_)
        · have h := it_f h c2
          refine lv_iload_n hx hb dX10_first_72 rfl (lv_at hl 3 rfl) ?_
          rw [hQ]
          exact rI (F := CW ca ad) C w h dX10_first_73
        · have h := it_t h c2
          refine lv_iload_n hx hb dX10_first_68 rfl (lv_at hl 2 rfl) ?_
          refine lv_goto (tgt := 73) hx hb dX10_first_69 (by decide) ?_
          rw [hQ]
          exact rI (F := CW ca ad) C w h dX10_first_73
      · have h := it_f h c1
        refine lv_iload hx hb dX10_first_28 (lv_at hl 4 rfl) ?_
        obtain ⟨q1, hq1, h⟩ := ob_t h
        refine res_i C w (run_S (As := [.int x4]) (rest := []) C w hl.1 (c_X3_shortLetter l D ca _ x4 _ q1 hq1) rfl rfl wl_682 wl_683 wl_461 wl_684 hd_X3_shortLetter rfl ⟨Nat.le_of_ble_eq_true rfl, Nat.le_of_ble_eq_true rfl⟩ rfl (Nat.le_of_ble_eq_true rfl) dX10_first_30) (fun H locs w => ?_)
        refine lv_istore (lv' := [(5, .int q1), (0, .ref (ad 0)), (1, .int x1), (2, .int x2), (3, .int x3), (4, .int x4)]) hx hb dX10_first_33 hl (by decide) rfl (fun ls hl => ?_)
        refine lv_aload_n hx hb dX10_first_35 rfl (lv_at hl 1 rfl) ?_
        refine lv_iload hx hb dX10_first_36 (lv_at hl 0 rfl) ?_
        obtain ⟨q2, hq2, h⟩ := ob_t h
        refine res_i C w (run_V (As := [.int q1]) (rest := []) C w hl.1 (recvC0 C w) (c_X10_mayHaveBeenPutIn l D ca ad _ q1 _ q2 hq2) rfl rfl wl_838 wl_839 wl_840 wl_2 wl_841 hd_X10_mayHaveBeenPutIn rfl ⟨Nat.le_of_ble_eq_true rfl, Nat.le_of_ble_eq_true rfl⟩ rfl (Nat.le_of_ble_eq_true rfl) dX10_first_38) (fun H locs w => ?_)
        refine lv_if_eq (tgt := 58) hx hb dX10_first_41 (by decide) (fun c3 => ?_) (fun c3 => ?_)
        · have h := it_t h c3
          exact b58 _ _ _ _ _ h _ _ _ w (lv_sub hl [1, 2, 3, 4, 5] rfl)
        · have h := it_f h c3
          refine lv_iload_n hx hb dX10_first_44 rfl (lv_at hl 3 rfl) ?_
          refine lv_if_ne (tgt := 53) hx hb dX10_first_45 (by decide) (fun c4 => ?_) (fun c4 => ?_)
          · have h := it_f h c4
            refine lv_iload_n hx hb dX10_first_53 rfl (lv_at hl 4 rfl) ?_
            exact b54 _ _ _ _ _ h _ _ _ w (lv_sub hl [1, 2, 3, 5] rfl)
          · have h := it_t h c4
            refine lv_iload hx hb dX10_first_48 (lv_at hl 0 rfl) ?_
            refine lv_goto (tgt := 54) hx hb dX10_first_50 (by decide) ?_
            exact b54 _ _ _ _ _ h _ _ _ w (lv_sub hl [1, 2, 3, 5] rfl)
  have h := hf
  unfold f_X10_first at h
  refine lv_iload_n hx hb dX10_first_0 rfl (lv_at hl 1 rfl) ?_
  refine lv_iconst (v := 0) hx hb dX10_first_1 (by decide) ?_
  refine lv_iconst (v := 1) hx hb dX10_first_2 (by decide) ?_
  obtain ⟨q1, hq1, h⟩ := ob_t h
  refine res_i C w (run_S (As := [.int x1, .int (0 : Int32), .int (1 : Int32)]) (rest := []) C w hl.1 (c_X10_within l D ca _ x1 (0 : Int32) (1 : Int32) _ q1 hq1) rfl rfl wl_114 wl_115 wl_2 wl_116 hd_X10_within rfl ⟨Nat.le_of_ble_eq_true rfl, Nat.le_of_ble_eq_true rfl⟩ rfl (Nat.le_of_ble_eq_true rfl) dX10_first_3) (fun H locs w => ?_)
  refine lv_if_ne (tgt := 14) hx hb dX10_first_6 (by decide) (fun c1 => ?_) (fun c1 => ?_)
  · have h := it_f h c1
    refine lv_iconst (v := 0) hx hb dX10_first_14 (by decide) ?_
    refine lv_istore_n (lv' := [(2, .int (0 : Int32)), (0, .ref (ad 0)), (1, .int x1)]) hx hb dX10_first_15 rfl hl (by decide) rfl (fun ls hl => ?_)
    refine lv_iconst (v := -1) hx hb dX10_first_16 (by decide) ?_
    refine lv_istore_n (lv' := [(3, .int (-1 : Int32)), (2, .int (0 : Int32)), (0, .ref (ad 0)), (1, .int x1)]) hx hb dX10_first_17 rfl hl (by decide) rfl (fun ls hl => ?_)
    refine lv_iconst (v := 0) hx hb dX10_first_18 (by decide) ?_
    refine lv_istore (lv' := [(4, .int (0 : Int32)), (3, .int (-1 : Int32)), (2, .int (0 : Int32)), (0, .ref (ad 0)), (1, .int x1)]) hx hb dX10_first_19 hl (by decide) rfl (fun ls hl => ?_)
    exact L21 FU _ _ _ _ _ h _ _ _ w (lv_sub hl [3, 4, 2, 1, 0] rfl)
  · have h := it_t h c1
    refine lv_aload_n hx hb dX10_first_9 rfl (lv_at hl 0 rfl) ?_
    obtain ⟨q2, hq2, h⟩ := ob_t h
    refine res_i C w (run_V (As := []) (rest := []) C w hl.1 (recvC0 C w) (c_X10_refuseAsBad l D ca ad _  _ q2 hq2) rfl rfl wl_117 wl_118 wl_119 wl_2 wl_120 hd_X10_refuseAsBad rfl ⟨Nat.le_of_ble_eq_true rfl, Nat.le_of_ble_eq_true rfl⟩ rfl (Nat.le_of_ble_eq_true rfl) dX10_first_10) (fun H locs w => ?_)
    rw [hQ]
    exact rI (F := CW ca ad) C w h dX10_first_13
theorem hd_X10_foresters : yX10_foresters.cls = RX10 ∧ yX10_foresters.cls ≠ "java/lang/invoke/MethodHandle" ∧ yX10_foresters.cls ≠ "java/lang/invoke/VarHandle" ∧ (parseMethodDescriptor yX10_foresters.desc).map (fun d => d.parameters.length) = some 4 := by decide +kernel
def f_X10_foresters_b44 (σ : St) : Option (Int32 × St) := (f_X10_refuseAsBad σ).bind fun q1 => some (q1.1, q1.2)
def f_X10_foresters_b108 (K55 : St → Int32 → Int32 → Int32 → Int32 → Int32 → Int32 → Option (Int32 × St)) (σ : St) (x1 : Int32) (x2 : Int32) (x3 : Int32) (x4 : Int32) (x5 : Int32) (x6 : Int32) : Option (Int32 × St) := K55 σ x1 x2 x3 x4 x5 (x6 + (1 : Int32))
def f_X10_foresters_b201 (K120 : St → Int32 → Int32 → Int32 → Option (Int32 × St)) (σ : St) (x5 : Int32) (x6 : Int32) (x7 : Int32) : Option (Int32 × St) := K120 σ x5 x6 (x7 + (1 : Int32))
def f_X10_foresters_b180 (K120 : St → Int32 → Int32 → Int32 → Option (Int32 × St)) (σ : St) (x5 : Int32) (x6 : Int32) (x7 : Int32) (x8 : Int32) (y0 : Int32) : Option (Int32 × St) := if x8 = 0 then (f_X10_foresters_b201 K120 σ x5 x6 x7) else (if y0 = 0 then (f_X10_foresters_b201 K120 σ x5 x6 x7) else (f_X10_foresters_b201 K120 σ x5 (x6 ||| ((1 : Int32) <<< (x7 &&& 31))) x7))
def f_X10_foresters_b152 (K120 : St → Int32 → Int32 → Int32 → Option (Int32 × St)) (σ : St) (x5 : Int32) (x6 : Int32) (x7 : Int32) (y0 : Int32) : Option (Int32 × St) := (f_X10_gain x7 (1 : Int32) x5).bind fun q1 => (f_X10_gain (x7 ^^^ (2 : Int32)) (1 : Int32) x5).bind fun q2 => if q1 < q2 then (f_X10_foresters_b180 K120 σ x5 x6 x7 y0 (0 : Int32)) else (f_X10_foresters_b180 K120 σ x5 x6 x7 y0 (1 : Int32))
def f_X10_foresters_b120 (K120 : St → Int32 → Int32 → Int32 → Option (Int32 × St)) (σ : St) (x5 : Int32) (x6 : Int32) (x7 : Int32) : Option (Int32 × St) := if (4 : Int32) ≤ x7 then (some (x6, σ)) else ((f_X10_gain x7 (0 : Int32) x5).bind fun q1 => (f_X10_gain (x7 ^^^ (1 : Int32)) (0 : Int32) x5).bind fun q2 => if q1 < q2 then (f_X10_foresters_b152 K120 σ x5 x6 x7 (0 : Int32)) else (f_X10_foresters_b152 K120 σ x5 x6 x7 (1 : Int32)))
def f_X10_foresters_L120 : Nat → St → Int32 → Int32 → Int32 → Option (Int32 × St)
  | 0 => fun _ _ _ _ => none
  | n + 1 => f_X10_foresters_b120 (f_X10_foresters_L120 n)
def f_X10_foresters_b55 (K55 : St → Int32 → Int32 → Int32 → Int32 → Int32 → Int32 → Option (Int32 × St)) (σ : St) (x1 : Int32) (x2 : Int32) (x3 : Int32) (x4 : Int32) (x5 : Int32) (x6 : Int32) : Option (Int32 × St) := if (4 : Int32) ≤ x6 then (f_X10_foresters_L120 FU σ x5 (0 : Int32) (0 : Int32)) else ((f_X7_joins σ x3 x4 ((σ.1 107) ||| (((x6 &&& (1 : Int32)) <<< (x1 &&& 31)) ||| ((x6 >>> ((1 : Int32) &&& 31)) <<< (x2 &&& 31))))).bind fun q1 => if q1.1 = 0 then (f_X10_foresters_b108 K55 q1.2 x1 x2 x3 x4 x5 x6) else (f_X10_foresters_b108 K55 q1.2 x1 x2 x3 x4 (x5 ||| ((1 : Int32) <<< (x6 &&& 31))) x6))
def f_X10_foresters_L55 : Nat → St → Int32 → Int32 → Int32 → Int32 → Int32 → Int32 → Option (Int32 × St)
  | 0 => fun _ _ _ _ _ _ _ => none
  | n + 1 => f_X10_foresters_b55 (f_X10_foresters_L55 n)
def f_X10_foresters (σ : St) (x1 : Int32) (x2 : Int32) (x3 : Int32) (x4 : Int32) : Option (Int32 × St) := (f_X10_isTree σ x1).bind fun q1 => if q1.1 = 0 then (f_X10_foresters_b44 q1.2) else ((f_X10_isTree q1.2 x2).bind fun q2 => if q2.1 = 0 then (f_X10_foresters_b44 q2.2) else ((f_X10_isTree q2.2 x3).bind fun q3 => if q3.1 = 0 then (f_X10_foresters_b44 q3.2) else ((f_X10_isTree q3.2 x4).bind fun q4 => if q4.1 = 0 then (f_X10_foresters_b44 q4.2) else ((f_X10_allUnlike x1 x2 x3 x4).bind fun q5 => if q5 = 0 then (f_X10_foresters_b44 q4.2) else (f_X10_foresters_L55 FU q4.2 x1 x2 x3 x4 (0 : Int32) (0 : Int32))))))
abbrev rm_X10_foresters : Room := { frames := 2, cells := 0, slots := 0, locals := 120 }
set_option maxHeartbeats 4000000 in
set_option maxRecDepth 100000 in
theorem c_X10_foresters (l : Launch) (D : va_G) (ca : Nat → ClassId) (ad : Nat → Nat) (σ : St) (x1 : Int32) (x2 : Int32) (x3 : Int32) (x4 : Int32) (sz : Nat) (out : Int32 × St) (hf : f_X10_foresters σ x1 x2 x3 x4 = some out) : Met l yX10_foresters (.code yX10_foresters cX10_foresters 10 (some .int) :: WL) rm_X10_foresters (PreC D ca (CW ca ad σ) sz [.ref (ad 0), .int x1, .int x2, .int x3, .int x4]) (PostI D (va_A (CW ca ad σ) sz) (CW ca ad out.2) out.1) 0 0 (va_A (CW ca ad σ) sz) := by
  refine Met.ofW (cc := cX10_foresters) (maxL := 10) (ret := (some .int)) (by decide) rfl ?_
  intro p e s m args below meth c s₁ B hml hv
  obtain ⟨rfl, hsz, hP, hK, hD, hN⟩ := hv
  subst hsz
  have C := Cx.mk (own := RX10) B hml rfl hK hN (ws := (CW ca ad σ))
  have w : Wd (va_A (CW ca ad σ) s.heap.size) s D (CW ca ad σ) s.heap [] := ⟨hP, hD.self, va_S.rf⟩
  have hl := lv_entry ([.ref (ad 0), .int x1, .int x2, .int x3, .int x4]) (n := 10) (Nat.le_of_ble_eq_true rfl)
  rw [lg_entry_eq]
  generalize (lg_sl ([.ref (ad 0), .int x1, .int x2, .int x3, .int x4]) ++ List.replicate (10 - (lg_sl ([.ref (ad 0), .int x1, .int x2, .int x3, .int x4])).length) Slot.unset).toArray = ls at hl ⊢
  have hl : lv_has ls 10 [(0, .ref (ad 0)), (1, .int x1), (2, .int x2), (3, .int x3), (4, .int x4)] := hl
  change W p l e rm_X10_foresters s m _ below meth c _ [] 0 0 _ _
  clear B hP hD hK hN hml
  generalize va_A (CW ca ad σ) s.heap.size = A at C w ⊢
  generalize ([.ref (ad 0), .int x1, .int x2, .int x3, .int x4] : List Value).toArray = av at C ⊢
  obtain ⟨Q, hQ⟩ : ∃ Q, Q = MQ below (PostI D A (CW ca ad out.2) out.1) av s 0 0 A := ⟨_, rfl⟩
  rw [← hQ]
  have hx := C.1
  have hb := C.2.1
  have b44 : ∀ (σ : St), f_X10_foresters_b44 σ = some out → Bk p l e rm_X10_foresters s m av below meth c A D 10 Q (CW ca ad σ) 44 [(0, .ref (ad 0))] [] := by
    intro σ h H locs ls w hl
    unfold f_X10_foresters_b44 at h
    refine lv_aload_n hx hb dX10_foresters_44 rfl (lv_at hl 0 rfl) ?_
    obtain ⟨q1, hq1, h⟩ := ob_t h
    refine res_i C w (run_V (As := []) (rest := []) C w hl.1 (recvC0 C w) (c_X10_refuseAsBad l D ca ad _  _ q1 hq1) rfl rfl wl_117 wl_118 wl_119 wl_2 wl_120 hd_X10_refuseAsBad rfl ⟨Nat.le_of_ble_eq_true rfl, Nat.le_of_ble_eq_true rfl⟩ rfl (Nat.le_of_ble_eq_true rfl) dX10_foresters_45) (fun H locs w => ?_)
    rw [hQ]
    exact rI (F := CW ca ad) C w h dX10_foresters_48
  have L120 : ∀ (n120 : Nat) (σ : St) (x5 : Int32) (x6 : Int32) (x7 : Int32), f_X10_foresters_L120 n120 σ x5 x6 x7 = some out → Bk p l e rm_X10_foresters s m av below meth c A D 10 Q (CW ca ad σ) 120 [(5, .int x5), (6, .int x6), (7, .int x7)] [] := by
    intro n120
    induction n120 with
    | zero => intro σ x5 x6 x7 h; exact absurd h (by simp [f_X10_foresters_L120])
    | succ n120 ih120 =>
      have b201 : ∀ (σ : St) (x5 : Int32) (x6 : Int32) (x7 : Int32), f_X10_foresters_b201 (f_X10_foresters_L120 n120) σ x5 x6 x7 = some out → Bk p l e rm_X10_foresters s m av below meth c A D 10 Q (CW ca ad σ) 201 [(5, .int x5), (6, .int x6), (7, .int x7)] [] := by
        intro σ x5 x6 x7 h H locs ls w hl
        unfold f_X10_foresters_b201 at h
        refine lv_iinc (v := (x7 + (1 : Int32))) (lv' := [(7, .int (x7 + (1 : Int32))), (5, .int x5), (6, .int x6)]) hx hb dX10_foresters_201 hl (k := 2) rfl rfl (by decide) rfl (fun ls hl => ?_)
        refine lv_goto (tgt := 120) hx hb dX10_foresters_204 (by decide) ?_
        exact ih120 _ _ _ _ h _ _ _ w (lv_sub hl [1, 2, 0] rfl)
      have b180 : ∀ (σ : St) (x5 : Int32) (x6 : Int32) (x7 : Int32) (x8 : Int32) (y0 : Int32), f_X10_foresters_b180 (f_X10_foresters_L120 n120) σ x5 x6 x7 x8 y0 = some out → Bk p l e rm_X10_foresters s m av below meth c A D 10 Q (CW ca ad σ) 180 [(5, .int x5), (6, .int x6), (7, .int x7), (8, .int x8)] [.int y0] := by
        intro σ x5 x6 x7 x8 y0 h H locs ls w hl
        unfold f_X10_foresters_b180 at h
        refine lv_istore (lv' := [(9, .int y0), (5, .int x5), (6, .int x6), (7, .int x7), (8, .int x8)]) hx hb dX10_foresters_180 hl (by decide) rfl (fun ls hl => ?_)
        refine lv_iload hx hb dX10_foresters_182 (lv_at hl 4 rfl) ?_
        refine lv_if_eq (tgt := 201) hx hb dX10_foresters_184 (by decide) (fun c1 => ?_) (fun c1 => ?_)
        · have h := it_t h c1
          exact b201 _ _ _ _ h _ _ _ w (lv_sub hl [1, 2, 3] rfl)
        · have h := it_f h c1
          refine lv_iload hx hb dX10_foresters_187 (lv_at hl 0 rfl) ?_
          refine lv_if_eq (tgt := 201) hx hb dX10_foresters_189 (by decide) (fun c2 => ?_) (fun c2 => ?_)
          · have h := it_t h c2
            exact b201 _ _ _ _ h _ _ _ w (lv_sub hl [1, 2, 3] rfl)
          · have h := it_f h c2
            refine lv_iload hx hb dX10_foresters_192 (lv_at hl 2 rfl) ?_
            refine lv_iconst (v := 1) hx hb dX10_foresters_194 (by decide) ?_
            refine lv_iload hx hb dX10_foresters_195 (lv_at hl 3 rfl) ?_
            refine lv_ishl hx hb dX10_foresters_197 ?_
            refine lv_ior hx hb dX10_foresters_198 ?_
            refine lv_istore (lv' := [(6, .int (x6 ||| ((1 : Int32) <<< (x7 &&& 31)))), (9, .int y0), (5, .int x5), (7, .int x7), (8, .int x8)]) hx hb dX10_foresters_199 hl (by decide) rfl (fun ls hl => ?_)
            exact b201 _ _ _ _ h _ _ _ w (lv_sub hl [2, 0, 3] rfl)
      have b152 : ∀ (σ : St) (x5 : Int32) (x6 : Int32) (x7 : Int32) (y0 : Int32), f_X10_foresters_b152 (f_X10_foresters_L120 n120) σ x5 x6 x7 y0 = some out → Bk p l e rm_X10_foresters s m av below meth c A D 10 Q (CW ca ad σ) 152 [(5, .int x5), (6, .int x6), (7, .int x7)] [.int y0] := by
        intro σ x5 x6 x7 y0 h H locs ls w hl
        unfold f_X10_foresters_b152 at h
        refine lv_istore (lv' := [(8, .int y0), (5, .int x5), (6, .int x6), (7, .int x7)]) hx hb dX10_foresters_152 hl (by decide) rfl (fun ls hl => ?_)
        refine lv_iload hx hb dX10_foresters_154 (lv_at hl 3 rfl) ?_
        refine lv_iconst (v := 1) hx hb dX10_foresters_156 (by decide) ?_
        refine lv_iload hx hb dX10_foresters_157 (lv_at hl 1 rfl) ?_
        obtain ⟨q1, hq1, h⟩ := ob_t h
        refine res_i C w (run_S (As := [.int x7, .int (1 : Int32), .int x5]) (rest := []) C w hl.1 (c_X10_gain l D ca _ x7 (1 : Int32) x5 _ q1 hq1) rfl rfl wl_859 wl_860 wl_2 wl_861 hd_X10_gain rfl ⟨Nat.le_of_ble_eq_true rfl, Nat.le_of_ble_eq_true rfl⟩ rfl (Nat.le_of_ble_eq_true rfl) dX10_foresters_159) (fun H locs w => ?_)
        refine lv_iload hx hb dX10_foresters_162 (lv_at hl 3 rfl) ?_
        refine lv_iconst (v := 2) hx hb dX10_foresters_164 (by decide) ?_
        refine lv_ixor hx hb dX10_foresters_165 ?_
        refine lv_iconst (v := 1) hx hb dX10_foresters_166 (by decide) ?_
        refine lv_iload hx hb dX10_foresters_167 (lv_at hl 1 rfl) ?_
        obtain ⟨q2, hq2, h⟩ := ob_t h
        refine res_i C w (run_S (As := [.int (x7 ^^^ (2 : Int32)), .int (1 : Int32), .int x5]) (rest := [.int q1]) C w hl.1 (c_X10_gain l D ca _ (x7 ^^^ (2 : Int32)) (1 : Int32) x5 _ q2 hq2) rfl rfl wl_859 wl_860 wl_2 wl_861 hd_X10_gain rfl ⟨Nat.le_of_ble_eq_true rfl, Nat.le_of_ble_eq_true rfl⟩ rfl (Nat.le_of_ble_eq_true rfl) dX10_foresters_169) (fun H locs w => ?_)
        refine lv_icmp_lt (tgt := 179) hx hb dX10_foresters_172 (by decide) (fun c1 => ?_) (fun c1 => ?_)
        · have h := it_t h c1
          refine lv_iconst (v := 0) hx hb dX10_foresters_179 (by decide) ?_
          exact b180 _ _ _ _ _ _ h _ _ _ w (lv_sub hl [1, 2, 3, 0] rfl)
        · have h := it_f h c1
          refine lv_iconst (v := 1) hx hb dX10_foresters_175 (by decide) ?_
          refine lv_goto (tgt := 180) hx hb dX10_foresters_176 (by decide) ?_
          exact b180 _ _ _ _ _ _ h _ _ _ w (lv_sub hl [1, 2, 3, 0] rfl)
      intro σ x5 x6 x7 h H locs ls w hl
      change f_X10_foresters_b120 (f_X10_foresters_L120 n120) σ x5 x6 x7 = some out at h
      unfold f_X10_foresters_b120 at h
      refine lv_iload hx hb dX10_foresters_120 (lv_at hl 2 rfl) ?_
      refine lv_iconst (v := 4) hx hb dX10_foresters_122 (by decide) ?_
      refine lv_icmp_ge (tgt := 207) hx hb dX10_foresters_123 (by decide) (fun c1 => ?_) (fun c1 => ?_)
      · have h := it_t h c1
        refine lv_iload hx hb dX10_foresters_207 (lv_at hl 1 rfl) ?_
        rw [hQ]
        exact rI (F := CW ca ad) C w h dX10_foresters_209
      · have h := it_f h c1
        refine lv_iload hx hb dX10_foresters_126 (lv_at hl 2 rfl) ?_
        refine lv_iconst (v := 0) hx hb dX10_foresters_128 (by decide) ?_
        refine lv_iload hx hb dX10_foresters_129 (lv_at hl 0 rfl) ?_
        obtain ⟨q1, hq1, h⟩ := ob_t h
        refine res_i C w (run_S (As := [.int x7, .int (0 : Int32), .int x5]) (rest := []) C w hl.1 (c_X10_gain l D ca _ x7 (0 : Int32) x5 _ q1 hq1) rfl rfl wl_859 wl_860 wl_2 wl_861 hd_X10_gain rfl ⟨Nat.le_of_ble_eq_true rfl, Nat.le_of_ble_eq_true rfl⟩ rfl (Nat.le_of_ble_eq_true rfl) dX10_foresters_131) (fun H locs w => ?_)
        refine lv_iload hx hb dX10_foresters_134 (lv_at hl 2 rfl) ?_
        refine lv_iconst (v := 1) hx hb dX10_foresters_136 (by decide) ?_
        refine lv_ixor hx hb dX10_foresters_137 ?_
        refine lv_iconst (v := 0) hx hb dX10_foresters_138 (by decide) ?_
        refine lv_iload hx hb dX10_foresters_139 (lv_at hl 0 rfl) ?_
        obtain ⟨q2, hq2, h⟩ := ob_t h
        refine res_i C w (run_S (As := [.int (x7 ^^^ (1 : Int32)), .int (0 : Int32), .int x5]) (rest := [.int q1]) C w hl.1 (c_X10_gain l D ca _ (x7 ^^^ (1 : Int32)) (0 : Int32) x5 _ q2 hq2) rfl rfl wl_859 wl_860 wl_2 wl_861 hd_X10_gain rfl ⟨Nat.le_of_ble_eq_true rfl, Nat.le_of_ble_eq_true rfl⟩ rfl (Nat.le_of_ble_eq_true rfl) dX10_foresters_141) (fun H locs w => ?_)
        refine lv_icmp_lt (tgt := 151) hx hb dX10_foresters_144 (by decide) (fun c2 => ?_) (fun c2 => ?_)
        · have h := it_t h c2
          refine lv_iconst (v := 0) hx hb dX10_foresters_151 (by decide) ?_
          exact b152 _ _ _ _ _ h _ _ _ w (lv_sub hl [0, 1, 2] rfl)
        · have h := it_f h c2
          refine lv_iconst (v := 1) hx hb dX10_foresters_147 (by decide) ?_
          refine lv_goto (tgt := 152) hx hb dX10_foresters_148 (by decide) ?_
          exact b152 _ _ _ _ _ h _ _ _ w (lv_sub hl [0, 1, 2] rfl)
  have L55 : ∀ (n55 : Nat) (σ : St) (x1 : Int32) (x2 : Int32) (x3 : Int32) (x4 : Int32) (x5 : Int32) (x6 : Int32), f_X10_foresters_L55 n55 σ x1 x2 x3 x4 x5 x6 = some out → Bk p l e rm_X10_foresters s m av below meth c A D 10 Q (CW ca ad σ) 55 [(0, .ref (ad 0)), (1, .int x1), (2, .int x2), (3, .int x3), (4, .int x4), (5, .int x5), (6, .int x6)] [] := by
    intro n55
    induction n55 with
    | zero => intro σ x1 x2 x3 x4 x5 x6 h; exact absurd h (by simp [f_X10_foresters_L55])
    | succ n55 ih55 =>
      have b108 : ∀ (σ : St) (x1 : Int32) (x2 : Int32) (x3 : Int32) (x4 : Int32) (x5 : Int32) (x6 : Int32), f_X10_foresters_b108 (f_X10_foresters_L55 n55) σ x1 x2 x3 x4 x5 x6 = some out → Bk p l e rm_X10_foresters s m av below meth c A D 10 Q (CW ca ad σ) 108 [(0, .ref (ad 0)), (1, .int x1), (2, .int x2), (3, .int x3), (4, .int x4), (5, .int x5), (6, .int x6)] [] := by
        intro σ x1 x2 x3 x4 x5 x6 h H locs ls w hl
        unfold f_X10_foresters_b108 at h
        refine lv_iinc (v := (x6 + (1 : Int32))) (lv' := [(6, .int (x6 + (1 : Int32))), (0, .ref (ad 0)), (1, .int x1), (2, .int x2), (3, .int x3), (4, .int x4), (5, .int x5)]) hx hb dX10_foresters_108 hl (k := 6) rfl rfl (by decide) rfl (fun ls hl => ?_)
        refine lv_goto (tgt := 55) hx hb dX10_foresters_111 (by decide) ?_
        exact ih55 _ _ _ _ _ _ _ h _ _ _ w (lv_sub hl [1, 2, 3, 4, 5, 6, 0] rfl)
      intro σ x1 x2 x3 x4 x5 x6 h H locs ls w hl
      change f_X10_foresters_b55 (f_X10_foresters_L55 n55) σ x1 x2 x3 x4 x5 x6 = some out at h
      unfold f_X10_foresters_b55 at h
      refine lv_iload hx hb dX10_foresters_55 (lv_at hl 6 rfl) ?_
      refine lv_iconst (v := 4) hx hb dX10_foresters_57 (by decide) ?_
      refine lv_icmp_ge (tgt := 114) hx hb dX10_foresters_58 (by decide) (fun c1 => ?_) (fun c1 => ?_)
      · have h := it_t h c1
        refine lv_iconst (v := 0) hx hb dX10_foresters_114 (by decide) ?_
        refine lv_istore (lv' := [(6, .int (0 : Int32)), (0, .ref (ad 0)), (1, .int x1), (2, .int x2), (3, .int x3), (4, .int x4), (5, .int x5)]) hx hb dX10_foresters_115 hl (by decide) rfl (fun ls hl => ?_)
        refine lv_iconst (v := 0) hx hb dX10_foresters_117 (by decide) ?_
        refine lv_istore (lv' := [(7, .int (0 : Int32)), (6, .int (0 : Int32)), (0, .ref (ad 0)), (1, .int x1), (2, .int x2), (3, .int x3), (4, .int x4), (5, .int x5)]) hx hb dX10_foresters_118 hl (by decide) rfl (fun ls hl => ?_)
        exact L120 FU _ _ _ _ h _ _ _ w (lv_sub hl [7, 1, 0] rfl)
      · have h := it_f h c1
        refine lv_iload hx hb dX10_foresters_61 (lv_at hl 6 rfl) ?_
        refine lv_iconst (v := 1) hx hb dX10_foresters_63 (by decide) ?_
        refine lv_iand hx hb dX10_foresters_64 ?_
        refine lv_iload_n hx hb dX10_foresters_65 rfl (lv_at hl 1 rfl) ?_
        refine lv_ishl hx hb dX10_foresters_66 ?_
        refine lv_iload hx hb dX10_foresters_67 (lv_at hl 6 rfl) ?_
        refine lv_iconst (v := 1) hx hb dX10_foresters_69 (by decide) ?_
        refine lv_ishr hx hb dX10_foresters_70 ?_
        refine lv_iload_n hx hb dX10_foresters_71 rfl (lv_at hl 2 rfl) ?_
        refine lv_ishl hx hb dX10_foresters_72 ?_
        refine lv_ior hx hb dX10_foresters_73 ?_
        refine lv_istore (lv' := [(7, .int (((x6 &&& (1 : Int32)) <<< (x1 &&& 31)) ||| ((x6 >>> ((1 : Int32) &&& 31)) <<< (x2 &&& 31)))), (0, .ref (ad 0)), (1, .int x1), (2, .int x2), (3, .int x3), (4, .int x4), (5, .int x5), (6, .int x6)]) hx hb dX10_foresters_74 hl (by decide) rfl (fun ls hl => ?_)
        refine lv_aload_n hx hb dX10_foresters_76 rfl (lv_at hl 1 rfl) ?_
        refine gC0_5 C w wl_42 dX10_foresters_77 ?_
        refine lv_iload_n hx hb dX10_foresters_80 rfl (lv_at hl 4 rfl) ?_
        refine lv_iload hx hb dX10_foresters_81 (lv_at hl 5 rfl) ?_
        refine lv_aload_n hx hb dX10_foresters_83 rfl (lv_at hl 1 rfl) ?_
        refine gC0_1 C w wl_34 dX10_foresters_84 ?_
        refine gC1_7 (v := (σ.1 107)) C w rfl wl_399 dX10_foresters_87 ?_
        refine lv_iload hx hb dX10_foresters_90 (lv_at hl 0 rfl) ?_
        refine lv_ior hx hb dX10_foresters_92 ?_
        obtain ⟨q1, hq1, h⟩ := ob_t h
        refine res_i C w (run_V (As := [.int x3, .int x4, .int ((σ.1 107) ||| (((x6 &&& (1 : Int32)) <<< (x1 &&& 31)) ||| ((x6 >>> ((1 : Int32) &&& 31)) <<< (x2 &&& 31))))]) (rest := []) C w hl.1 (recvC38 C w) (c_X7_joins l D ca ad _ x3 x4 ((σ.1 107) ||| (((x6 &&& (1 : Int32)) <<< (x1 &&& 31)) ||| ((x6 >>> ((1 : Int32) &&& 31)) <<< (x2 &&& 31)))) _ q1 hq1) rfl rfl wl_858 wl_606 wl_607 wl_41 wl_608 hd_X7_joins rfl ⟨Nat.le_of_ble_eq_true rfl, Nat.le_of_ble_eq_true rfl⟩ rfl (Nat.le_of_ble_eq_true rfl) dX10_foresters_93) (fun H locs w => ?_)
        refine lv_if_eq (tgt := 108) hx hb dX10_foresters_96 (by decide) (fun c2 => ?_) (fun c2 => ?_)
        · have h := it_t h c2
          exact b108 _ _ _ _ _ _ _ h _ _ _ w (lv_sub hl [1, 2, 3, 4, 5, 6, 7] rfl)
        · have h := it_f h c2
          refine lv_iload hx hb dX10_foresters_99 (lv_at hl 6 rfl) ?_
          refine lv_iconst (v := 1) hx hb dX10_foresters_101 (by decide) ?_
          refine lv_iload hx hb dX10_foresters_102 (lv_at hl 7 rfl) ?_
          refine lv_ishl hx hb dX10_foresters_104 ?_
          refine lv_ior hx hb dX10_foresters_105 ?_
          refine lv_istore (lv' := [(5, .int (x5 ||| ((1 : Int32) <<< (x6 &&& 31)))), (7, .int (((x6 &&& (1 : Int32)) <<< (x1 &&& 31)) ||| ((x6 >>> ((1 : Int32) &&& 31)) <<< (x2 &&& 31)))), (0, .ref (ad 0)), (1, .int x1), (2, .int x2), (3, .int x3), (4, .int x4), (6, .int x6)]) hx hb dX10_foresters_106 hl (by decide) rfl (fun ls hl => ?_)
          exact b108 _ _ _ _ _ _ _ h _ _ _ w (lv_sub hl [2, 3, 4, 5, 6, 0, 7] rfl)
  have h := hf
  unfold f_X10_foresters at h
  refine lv_aload_n hx hb dX10_foresters_0 rfl (lv_at hl 0 rfl) ?_
  refine lv_iload_n hx hb dX10_foresters_1 rfl (lv_at hl 1 rfl) ?_
  obtain ⟨q1, hq1, h⟩ := ob_t h
  refine res_i C w (run_V (As := [.int x1]) (rest := []) C w hl.1 (recvC0 C w) (c_X10_isTree l D ca ad _ x1 _ q1 hq1) rfl rfl wl_176 wl_177 wl_178 wl_2 wl_179 hd_X10_isTree rfl ⟨Nat.le_of_ble_eq_true rfl, Nat.le_of_ble_eq_true rfl⟩ rfl (Nat.le_of_ble_eq_true rfl) dX10_foresters_2) (fun H locs w => ?_)
  refine lv_if_eq (tgt := 44) hx hb dX10_foresters_5 (by decide) (fun c1 => ?_) (fun c1 => ?_)
  · have h := it_t h c1
    exact b44 _ h _ _ _ w (lv_sub hl [0] rfl)
  · have h := it_f h c1
    refine lv_aload_n hx hb dX10_foresters_8 rfl (lv_at hl 0 rfl) ?_
    refine lv_iload_n hx hb dX10_foresters_9 rfl (lv_at hl 2 rfl) ?_
    obtain ⟨q2, hq2, h⟩ := ob_t h
    refine res_i C w (run_V (As := [.int x2]) (rest := []) C w hl.1 (recvC0 C w) (c_X10_isTree l D ca ad _ x2 _ q2 hq2) rfl rfl wl_176 wl_177 wl_178 wl_2 wl_179 hd_X10_isTree rfl ⟨Nat.le_of_ble_eq_true rfl, Nat.le_of_ble_eq_true rfl⟩ rfl (Nat.le_of_ble_eq_true rfl) dX10_foresters_10) (fun H locs w => ?_)
    refine lv_if_eq (tgt := 44) hx hb dX10_foresters_13 (by decide) (fun c2 => ?_) (fun c2 => ?_)
    · have h := it_t h c2
      exact b44 _ h _ _ _ w (lv_sub hl [0] rfl)
    · have h := it_f h c2
      refine lv_aload_n hx hb dX10_foresters_16 rfl (lv_at hl 0 rfl) ?_
      refine lv_iload_n hx hb dX10_foresters_17 rfl (lv_at hl 3 rfl) ?_
      obtain ⟨q3, hq3, h⟩ := ob_t h
      refine res_i C w (run_V (As := [.int x3]) (rest := []) C w hl.1 (recvC0 C w) (c_X10_isTree l D ca ad _ x3 _ q3 hq3) rfl rfl wl_176 wl_177 wl_178 wl_2 wl_179 hd_X10_isTree rfl ⟨Nat.le_of_ble_eq_true rfl, Nat.le_of_ble_eq_true rfl⟩ rfl (Nat.le_of_ble_eq_true rfl) dX10_foresters_18) (fun H locs w => ?_)
      refine lv_if_eq (tgt := 44) hx hb dX10_foresters_21 (by decide) (fun c3 => ?_) (fun c3 => ?_)
      · have h := it_t h c3
        exact b44 _ h _ _ _ w (lv_sub hl [0] rfl)
      · have h := it_f h c3
        refine lv_aload_n hx hb dX10_foresters_24 rfl (lv_at hl 0 rfl) ?_
        refine lv_iload hx hb dX10_foresters_25 (lv_at hl 4 rfl) ?_
        obtain ⟨q4, hq4, h⟩ := ob_t h
        refine res_i C w (run_V (As := [.int x4]) (rest := []) C w hl.1 (recvC0 C w) (c_X10_isTree l D ca ad _ x4 _ q4 hq4) rfl rfl wl_176 wl_177 wl_178 wl_2 wl_179 hd_X10_isTree rfl ⟨Nat.le_of_ble_eq_true rfl, Nat.le_of_ble_eq_true rfl⟩ rfl (Nat.le_of_ble_eq_true rfl) dX10_foresters_27) (fun H locs w => ?_)
        refine lv_if_eq (tgt := 44) hx hb dX10_foresters_30 (by decide) (fun c4 => ?_) (fun c4 => ?_)
        · have h := it_t h c4
          exact b44 _ h _ _ _ w (lv_sub hl [0] rfl)
        · have h := it_f h c4
          refine lv_iload_n hx hb dX10_foresters_33 rfl (lv_at hl 1 rfl) ?_
          refine lv_iload_n hx hb dX10_foresters_34 rfl (lv_at hl 2 rfl) ?_
          refine lv_iload_n hx hb dX10_foresters_35 rfl (lv_at hl 3 rfl) ?_
          refine lv_iload hx hb dX10_foresters_36 (lv_at hl 4 rfl) ?_
          obtain ⟨q5, hq5, h⟩ := ob_t h
          refine res_i C w (run_S (As := [.int x1, .int x2, .int x3, .int x4]) (rest := []) C w hl.1 (c_X10_allUnlike l D ca _ x1 x2 x3 x4 _ q5 hq5) rfl rfl wl_855 wl_856 wl_2 wl_857 hd_X10_allUnlike rfl ⟨Nat.le_of_ble_eq_true rfl, Nat.le_of_ble_eq_true rfl⟩ rfl (Nat.le_of_ble_eq_true rfl) dX10_foresters_38) (fun H locs w => ?_)
          refine lv_if_ne (tgt := 49) hx hb dX10_foresters_41 (by decide) (fun c5 => ?_) (fun c5 => ?_)
          · have h := it_f h c5
            refine lv_iconst (v := 0) hx hb dX10_foresters_49 (by decide) ?_
            refine lv_istore (lv' := [(5, .int (0 : Int32)), (0, .ref (ad 0)), (1, .int x1), (2, .int x2), (3, .int x3), (4, .int x4)]) hx hb dX10_foresters_50 hl (by decide) rfl (fun ls hl => ?_)
            refine lv_iconst (v := 0) hx hb dX10_foresters_52 (by decide) ?_
            refine lv_istore (lv' := [(6, .int (0 : Int32)), (5, .int (0 : Int32)), (0, .ref (ad 0)), (1, .int x1), (2, .int x2), (3, .int x3), (4, .int x4)]) hx hb dX10_foresters_53 hl (by decide) rfl (fun ls hl => ?_)
            exact L55 FU _ _ _ _ _ _ _ h _ _ _ w (lv_sub hl [2, 3, 4, 5, 6, 1, 0] rfl)
          · have h := it_t h c5
            exact b44 _ h _ _ _ w (lv_sub hl [0] rfl)
theorem hd_X10_keepChanceToStand : yX10_keepChanceToStand.cls = RX10 ∧ yX10_keepChanceToStand.cls ≠ "java/lang/invoke/MethodHandle" ∧ yX10_keepChanceToStand.cls ≠ "java/lang/invoke/VarHandle" ∧ (parseMethodDescriptor yX10_keepChanceToStand.desc).map (fun d => d.parameters.length) = some 2 := by decide +kernel
def f_X10_keepChanceToStand_b43 (K10 : St → Int32 → Int32 → Int32 → Int32 → Option (St)) (σ : St) (x2 : Int32) (x3 : Int32) (x4 : Int32) (x5 : Int32) : Option (St) := K10 σ x2 x3 x4 (x5 + (-1 : Int32))
def f_X10_keepChanceToStand_b62 (K62 : St → Int32 → Int32 → Int32 → Int32 → Option (St)) (σ : St) (x2 : Int32) (x3 : Int32) (x4 : Int32) (x5 : Int32) : Option (St) := if (1000000 : Int32) < x5 then (some σ) else (if x2 < x5 then (some σ) else (K62 (sL (sL σ 11 ((σ.2.1 11) * x3.toInt64)) 12 ((σ.2.1 12) * x4.toInt64)) x2 x3 x4 (x5 * (10 : Int32))))
def f_X10_keepChanceToStand_L62 : Nat → St → Int32 → Int32 → Int32 → Int32 → Option (St)
  | 0 => fun _ _ _ _ _ => none
  | n + 1 => f_X10_keepChanceToStand_b62 (f_X10_keepChanceToStand_L62 n)
def f_X10_keepChanceToStand_b10 (K10 : St → Int32 → Int32 → Int32 → Int32 → Option (St)) (σ : St) (x2 : Int32) (x3 : Int32) (x4 : Int32) (x5 : Int32) : Option (St) := if x5 ≤ (1 : Int32) then (f_X10_keepChanceToStand_L62 FU (sL (sL σ 11 (1 : Int64)) 12 (1 : Int64)) x2 x3 x4 (1 : Int32)) else (if x5 = 0 then none else (if (x3 - x3 / x5 * x5) = 0 then (if x5 = 0 then none else (if (x4 - x4 / x5 * x5) = 0 then (if x5 = 0 then none else (if x5 = 0 then none else (f_X10_keepChanceToStand_b43 K10 σ x2 (x3 / x5) (x4 / x5) x5))) else (f_X10_keepChanceToStand_b43 K10 σ x2 x3 x4 x5))) else (f_X10_keepChanceToStand_b43 K10 σ x2 x3 x4 x5)))
def f_X10_keepChanceToStand_L10 : Nat → St → Int32 → Int32 → Int32 → Int32 → Option (St)
  | 0 => fun _ _ _ _ _ => none
  | n + 1 => f_X10_keepChanceToStand_b10 (f_X10_keepChanceToStand_L10 n)
def f_X10_keepChanceToStand (σ : St) (x1 : Int32) (x2 : Int32) : Option (St) := f_X10_keepChanceToStand_L10 FU σ x2 x1 (10 : Int32) (10 : Int32)
abbrev rm_X10_keepChanceToStand : Room := { frames := 0, cells := 0, slots := 0, locals := 0 }
set_option maxHeartbeats 4000000 in
set_option maxRecDepth 100000 in
theorem c_X10_keepChanceToStand (l : Launch) (D : va_G) (ca : Nat → ClassId) (ad : Nat → Nat) (σ : St) (x1 : Int32) (x2 : Int32) (sz : Nat) (out : St) (hf : f_X10_keepChanceToStand σ x1 x2 = some out) : Met l yX10_keepChanceToStand (.code yX10_keepChanceToStand cX10_keepChanceToStand 6 none :: WL) rm_X10_keepChanceToStand (PreC D ca (CW ca ad σ) sz [.ref (ad 0), .int x1, .int x2]) (PostV D (va_A (CW ca ad σ) sz) (CW ca ad out)) 0 0 (va_A (CW ca ad σ) sz) := by
  refine Met.ofW (cc := cX10_keepChanceToStand) (maxL := 6) (ret := none) (by decide) rfl ?_
  intro p e s m args below meth c s₁ B hml hv
  obtain ⟨rfl, hsz, hP, hK, hD, hN⟩ := hv
  subst hsz
  have C := Cx.mk (own := RX10) B hml rfl hK hN (ws := (CW ca ad σ))
  have w : Wd (va_A (CW ca ad σ) s.heap.size) s D (CW ca ad σ) s.heap [] := ⟨hP, hD.self, va_S.rf⟩
  have hl := lv_entry ([.ref (ad 0), .int x1, .int x2]) (n := 6) (Nat.le_of_ble_eq_true rfl)
  rw [lg_entry_eq]
  generalize (lg_sl ([.ref (ad 0), .int x1, .int x2]) ++ List.replicate (6 - (lg_sl ([.ref (ad 0), .int x1, .int x2])).length) Slot.unset).toArray = ls at hl ⊢
  have hl : lv_has ls 6 [(0, .ref (ad 0)), (1, .int x1), (2, .int x2)] := hl
  change W p l e rm_X10_keepChanceToStand s m _ below meth c _ [] 0 0 _ _
  clear B hP hD hK hN hml
  generalize va_A (CW ca ad σ) s.heap.size = A at C w ⊢
  generalize ([.ref (ad 0), .int x1, .int x2] : List Value).toArray = av at C ⊢
  obtain ⟨Q, hQ⟩ : ∃ Q, Q = MQ below (PostV D A (CW ca ad out)) av s 0 0 A := ⟨_, rfl⟩
  rw [← hQ]
  have hx := C.1
  have hb := C.2.1
  have L62 : ∀ (n62 : Nat) (σ : St) (x2 : Int32) (x3 : Int32) (x4 : Int32) (x5 : Int32), f_X10_keepChanceToStand_L62 n62 σ x2 x3 x4 x5 = some out → Bk p l e rm_X10_keepChanceToStand s m av below meth c A D 6 Q (CW ca ad σ) 62 [(0, .ref (ad 0)), (2, .int x2), (3, .int x3), (4, .int x4), (5, .int x5)] [] := by
    intro n62
    induction n62 with
    | zero => intro σ x2 x3 x4 x5 h; exact absurd h (by simp [f_X10_keepChanceToStand_L62])
    | succ n62 ih62 =>
      intro σ x2 x3 x4 x5 h H locs ls w hl
      change f_X10_keepChanceToStand_b62 (f_X10_keepChanceToStand_L62 n62) σ x2 x3 x4 x5 = some out at h
      unfold f_X10_keepChanceToStand_b62 at h
      refine lv_iload hx hb dX10_keepChanceToStand_62 (lv_at hl 4 rfl) ?_
      refine lv_ldcw (v := 1000000) hx hb C.ow (C.ts _ wl_874) dX10_keepChanceToStand_64 ?_
      refine lv_icmp_gt (tgt := 109) hx hb dX10_keepChanceToStand_67 (by decide) (fun c1 => ?_) (fun c1 => ?_)
      · have h := it_t h c1
        rw [hQ]
        exact rV (F := CW ca ad) C w h dX10_keepChanceToStand_109
      · have h := it_f h c1
        refine lv_iload hx hb dX10_keepChanceToStand_70 (lv_at hl 4 rfl) ?_
        refine lv_iload_n hx hb dX10_keepChanceToStand_72 rfl (lv_at hl 1 rfl) ?_
        refine lv_icmp_gt (tgt := 109) hx hb dX10_keepChanceToStand_73 (by decide) (fun c2 => ?_) (fun c2 => ?_)
        · have h := it_t h c2
          rw [hQ]
          exact rV (F := CW ca ad) C w h dX10_keepChanceToStand_109
        · have h := it_f h c2
          refine lv_aload_n hx hb dX10_keepChanceToStand_76 rfl (lv_at hl 0 rfl) ?_
          refine lv_dup hx hb dX10_keepChanceToStand_77 rfl ?_
          refine gC0_11 (v := (σ.2.1 11)) C w rfl wl_52 dX10_keepChanceToStand_78 ?_
          refine lv_iload_n hx hb dX10_keepChanceToStand_81 rfl (lv_at hl 2 rfl) ?_
          refine lv_i2l hx hb dX10_keepChanceToStand_82 rfl ?_
          refine lv_lmul hx hb dX10_keepChanceToStand_83 ?_
          refine pC0_11 C w wl_52 dX10_keepChanceToStand_84 (fun H locs w => ?_)
          refine lv_aload_n hx hb dX10_keepChanceToStand_87 rfl (lv_at hl 0 rfl) ?_
          refine lv_dup hx hb dX10_keepChanceToStand_88 rfl ?_
          refine gC0_12 (v := (σ.2.1 12)) C w rfl wl_53 dX10_keepChanceToStand_89 ?_
          refine lv_iload hx hb dX10_keepChanceToStand_92 (lv_at hl 3 rfl) ?_
          refine lv_i2l hx hb dX10_keepChanceToStand_94 rfl ?_
          refine lv_lmul hx hb dX10_keepChanceToStand_95 ?_
          refine pC0_12 C w wl_53 dX10_keepChanceToStand_96 (fun H locs w => ?_)
          refine lv_iload hx hb dX10_keepChanceToStand_99 (lv_at hl 4 rfl) ?_
          refine lv_bipush (v := 10) hx hb dX10_keepChanceToStand_101 (by decide) ?_
          refine lv_imul hx hb dX10_keepChanceToStand_103 ?_
          refine lv_istore (lv' := [(5, .int (x5 * (10 : Int32))), (0, .ref (ad 0)), (2, .int x2), (3, .int x3), (4, .int x4)]) hx hb dX10_keepChanceToStand_104 hl (by decide) rfl (fun ls hl => ?_)
          refine lv_goto (tgt := 62) hx hb dX10_keepChanceToStand_106 (by decide) ?_
          exact ih62 _ _ _ _ _ h _ _ _ w (lv_sub hl [1, 2, 3, 4, 0] rfl)
  have L10 : ∀ (n10 : Nat) (σ : St) (x2 : Int32) (x3 : Int32) (x4 : Int32) (x5 : Int32), f_X10_keepChanceToStand_L10 n10 σ x2 x3 x4 x5 = some out → Bk p l e rm_X10_keepChanceToStand s m av below meth c A D 6 Q (CW ca ad σ) 10 [(0, .ref (ad 0)), (2, .int x2), (3, .int x3), (4, .int x4), (5, .int x5)] [] := by
    intro n10
    induction n10 with
    | zero => intro σ x2 x3 x4 x5 h; exact absurd h (by simp [f_X10_keepChanceToStand_L10])
    | succ n10 ih10 =>
      have b43 : ∀ (σ : St) (x2 : Int32) (x3 : Int32) (x4 : Int32) (x5 : Int32), f_X10_keepChanceToStand_b43 (f_X10_keepChanceToStand_L10 n10) σ x2 x3 x4 x5 = some out → Bk p l e rm_X10_keepChanceToStand s m av below meth c A D 6 Q (CW ca ad σ) 43 [(0, .ref (ad 0)), (2, .int x2), (3, .int x3), (4, .int x4), (5, .int x5)] [] := by
        intro σ x2 x3 x4 x5 h H locs ls w hl
        unfold f_X10_keepChanceToStand_b43 at h
        refine lv_iinc (v := (x5 + (-1 : Int32))) (lv' := [(5, .int (x5 + (-1 : Int32))), (0, .ref (ad 0)), (2, .int x2), (3, .int x3), (4, .int x4)]) hx hb dX10_keepChanceToStand_43 hl (k := 4) rfl rfl (by decide) rfl (fun ls hl => ?_)
        refine lv_goto (tgt := 10) hx hb dX10_keepChanceToStand_46 (by decide) ?_
        exact ih10 _ _ _ _ _ h _ _ _ w (lv_sub hl [1, 2, 3, 4, 0] rfl)
      intro σ x2 x3 x4 x5 h H locs ls w hl
      change f_X10_keepChanceToStand_b10 (f_X10_keepChanceToStand_L10 n10) σ x2 x3 x4 x5 = some out at h
      unfold f_X10_keepChanceToStand_b10 at h
      refine lv_iload hx hb dX10_keepChanceToStand_10 (lv_at hl 4 rfl) ?_
      refine lv_iconst (v := 1) hx hb dX10_keepChanceToStand_12 (by decide) ?_
      refine lv_icmp_le (tgt := 49) hx hb dX10_keepChanceToStand_13 (by decide) (fun c1 => ?_) (fun c1 => ?_)
      · have h := it_t h c1
        refine lv_aload_n hx hb dX10_keepChanceToStand_49 rfl (lv_at hl 0 rfl) ?_
        refine lv_lconst (v := 1) hx hb dX10_keepChanceToStand_50 (by decide) ?_
        refine pC0_11 C w wl_52 dX10_keepChanceToStand_51 (fun H locs w => ?_)
        refine lv_aload_n hx hb dX10_keepChanceToStand_54 rfl (lv_at hl 0 rfl) ?_
        refine lv_lconst (v := 1) hx hb dX10_keepChanceToStand_55 (by decide) ?_
        refine pC0_12 C w wl_53 dX10_keepChanceToStand_56 (fun H locs w => ?_)
        refine lv_iconst (v := 1) hx hb dX10_keepChanceToStand_59 (by decide) ?_
        refine lv_istore (lv' := [(5, .int (1 : Int32)), (0, .ref (ad 0)), (2, .int x2), (3, .int x3), (4, .int x4)]) hx hb dX10_keepChanceToStand_60 hl (by decide) rfl (fun ls hl => ?_)
        exact L62 FU _ _ _ _ _ h _ _ _ w (lv_sub hl [1, 2, 3, 4, 0] rfl)
      · have h := it_f h c1
        refine lv_iload_n hx hb dX10_keepChanceToStand_16 rfl (lv_at hl 2 rfl) ?_
        refine lv_iload hx hb dX10_keepChanceToStand_17 (lv_at hl 4 rfl) ?_
        obtain ⟨n2, h⟩ := dz_t h
        refine lv_irem hx hb dX10_keepChanceToStand_19 n2 ?_
        refine lv_if_ne (tgt := 43) hx hb dX10_keepChanceToStand_20 (by decide) (fun c3 => ?_) (fun c3 => ?_)
        · have h := it_f h c3
          exact b43 _ _ _ _ _ h _ _ _ w (lv_sub hl [0, 1, 2, 3, 4] rfl)
        · have h := it_t h c3
          refine lv_iload hx hb dX10_keepChanceToStand_23 (lv_at hl 3 rfl) ?_
          refine lv_iload hx hb dX10_keepChanceToStand_25 (lv_at hl 4 rfl) ?_
          obtain ⟨n4, h⟩ := dz_t h
          refine lv_irem hx hb dX10_keepChanceToStand_27 n4 ?_
          refine lv_if_ne (tgt := 43) hx hb dX10_keepChanceToStand_28 (by decide) (fun c5 => ?_) (fun c5 => ?_)
          · have h := it_f h c5
            exact b43 _ _ _ _ _ h _ _ _ w (lv_sub hl [0, 1, 2, 3, 4] rfl)
          · have h := it_t h c5
            refine lv_iload_n hx hb dX10_keepChanceToStand_31 rfl (lv_at hl 2 rfl) ?_
            refine lv_iload hx hb dX10_keepChanceToStand_32 (lv_at hl 4 rfl) ?_
            obtain ⟨n6, h⟩ := dz_t h
            refine lv_idiv hx hb dX10_keepChanceToStand_34 n6 ?_
            refine lv_istore_n (lv' := [(3, .int (x3 / x5)), (0, .ref (ad 0)), (2, .int x2), (4, .int x4), (5, .int x5)]) hx hb dX10_keepChanceToStand_35 rfl hl (by decide) rfl (fun ls hl => ?_)
            refine lv_iload hx hb dX10_keepChanceToStand_36 (lv_at hl 3 rfl) ?_
            refine lv_iload hx hb dX10_keepChanceToStand_38 (lv_at hl 4 rfl) ?_
            obtain ⟨n7, h⟩ := dz_t h
            refine lv_idiv hx hb dX10_keepChanceToStand_40 n7 ?_
            refine lv_istore (lv' := [(4, .int (x4 / x5)), (3, .int (x3 / x5)), (0, .ref (ad 0)), (2, .int x2), (5, .int x5)]) hx hb dX10_keepChanceToStand_41 hl (by decide) rfl (fun ls hl => ?_)
            exact b43 _ _ _ _ _ h _ _ _ w (lv_sub hl [2, 3, 1, 0, 4] rfl)
  have h := hf
  unfold f_X10_keepChanceToStand at h
  refine lv_iload_n hx hb dX10_keepChanceToStand_0 rfl (lv_at hl 1 rfl) ?_
  refine lv_istore_n (lv' := [(3, .int x1), (0, .ref (ad 0)), (1, .int x1), (2, .int x2)]) hx hb dX10_keepChanceToStand_1 rfl hl (by decide) rfl (fun ls hl => ?_)
  refine lv_bipush (v := 10) hx hb dX10_keepChanceToStand_2 (by decide) ?_
  refine lv_istore (lv' := [(4, .int (10 : Int32)), (3, .int x1), (0, .ref (ad 0)), (1, .int x1), (2, .int x2)]) hx hb dX10_keepChanceToStand_4 hl (by decide) rfl (fun ls hl => ?_)
  refine lv_bipush (v := 10) hx hb dX10_keepChanceToStand_6 (by decide) ?_
  refine lv_istore (lv' := [(5, .int (10 : Int32)), (4, .int (10 : Int32)), (3, .int x1), (0, .ref (ad 0)), (1, .int x1), (2, .int x2)]) hx hb dX10_keepChanceToStand_8 hl (by decide) rfl (fun ls hl => ?_)
  exact L10 FU _ _ _ _ _ h _ _ _ w (lv_sub hl [3, 5, 2, 1, 0] rfl)
theorem hd_X10_storms : yX10_storms.cls = RX10 ∧ yX10_storms.cls ≠ "java/lang/invoke/MethodHandle" ∧ yX10_storms.cls ≠ "java/lang/invoke/VarHandle" ∧ (parseMethodDescriptor yX10_storms.desc).map (fun d => d.parameters.length) = some 3 := by decide +kernel
def f_X10_storms_b26 (σ : St) : Option (Int32 × St) := (f_X10_refuseAsBad σ).bind fun q1 => some (q1.1, q1.2)
def f_X10_storms (σ : St) (x1 : Int32) (x2 : Int32) (x3 : Int32) : Option (Int32 × St) := (f_X10_isTree σ x1).bind fun q1 => if q1.1 = 0 then (f_X10_storms_b26 q1.2) else ((f_X10_isTree q1.2 x2).bind fun q2 => if q2.1 = 0 then (f_X10_storms_b26 q2.2) else ((f_X10_within x3 (0 : Int32) (10 : Int32)).bind fun q3 => if q3 = 0 then (f_X10_storms_b26 q2.2) else ((f_X7_seek (sL (sL q2.2 11 (0 : Int64)) 12 (1 : Int64)) x1 x2 (0 : Int32) (-1 : Int32)).bind fun q4 => if q4.1 = 0 then (some ((1 : Int32), q4.2)) else ((f_X10_keepChanceToStand q4.2 ((10 : Int32) - x3) (q4.2.1 3806)).bind fun q5 => some ((1 : Int32), q5)))))
abbrev rm_X10_storms : Room := { frames := 14, cells := 0, slots := 0, locals := 840 }
set_option maxHeartbeats 4000000 in
set_option maxRecDepth 100000 in
theorem c_X10_storms (l : Launch) (D : va_G) (ca : Nat → ClassId) (ad : Nat → Nat) (σ : St) (x1 : Int32) (x2 : Int32) (x3 : Int32) (sz : Nat) (out : Int32 × St) (hf : f_X10_storms σ x1 x2 x3 = some out) : Met l yX10_storms (.code yX10_storms cX10_storms 4 (some .int) :: WL) rm_X10_storms (PreC D ca (CW ca ad σ) sz [.ref (ad 0), .int x1, .int x2, .int x3]) (PostI D (va_A (CW ca ad σ) sz) (CW ca ad out.2) out.1) 0 0 (va_A (CW ca ad σ) sz) := by
  refine Met.ofW (cc := cX10_storms) (maxL := 4) (ret := (some .int)) (by decide) rfl ?_
  intro p e s m args below meth c s₁ B hml hv
  obtain ⟨rfl, hsz, hP, hK, hD, hN⟩ := hv
  subst hsz
  have C := Cx.mk (own := RX10) B hml rfl hK hN (ws := (CW ca ad σ))
  have w : Wd (va_A (CW ca ad σ) s.heap.size) s D (CW ca ad σ) s.heap [] := ⟨hP, hD.self, va_S.rf⟩
  have hl := lv_entry ([.ref (ad 0), .int x1, .int x2, .int x3]) (n := 4) (Nat.le_of_ble_eq_true rfl)
  rw [lg_entry_eq]
  generalize (lg_sl ([.ref (ad 0), .int x1, .int x2, .int x3]) ++ List.replicate (4 - (lg_sl ([.ref (ad 0), .int x1, .int x2, .int x3])).length) Slot.unset).toArray = ls at hl ⊢
  have hl : lv_has ls 4 [(0, .ref (ad 0)), (1, .int x1), (2, .int x2), (3, .int x3)] := hl
  change W p l e rm_X10_storms s m _ below meth c _ [] 0 0 _ _
  clear B hP hD hK hN hml
  generalize va_A (CW ca ad σ) s.heap.size = A at C w ⊢
  generalize ([.ref (ad 0), .int x1, .int x2, .int x3] : List Value).toArray = av at C ⊢
  obtain ⟨Q, hQ⟩ : ∃ Q, Q = MQ below (PostI D A (CW ca ad out.2) out.1) av s 0 0 A := ⟨_, rfl⟩
  rw [← hQ]
  have hx := C.1
  have hb := C.2.1
  have b26 : ∀ (σ : St), f_X10_storms_b26 σ = some out → Bk p l e rm_X10_storms s m av below meth c A D 4 Q (CW ca ad σ) 26 [(0, .ref (ad 0))] [] := by
    intro σ h H locs ls w hl
    unfold f_X10_storms_b26 at h
    refine lv_aload_n hx hb dX10_storms_26 rfl (lv_at hl 0 rfl) ?_
    obtain ⟨q1, hq1, h⟩ := ob_t h
    refine res_i C w (run_V (As := []) (rest := []) C w hl.1 (recvC0 C w) (c_X10_refuseAsBad l D ca ad _  _ q1 hq1) rfl rfl wl_117 wl_118 wl_119 wl_2 wl_120 hd_X10_refuseAsBad rfl ⟨Nat.le_of_ble_eq_true rfl, Nat.le_of_ble_eq_true rfl⟩ rfl (Nat.le_of_ble_eq_true rfl) dX10_storms_27) (fun H locs w => ?_)
    rw [hQ]
    exact rI (F := CW ca ad) C w h dX10_storms_30
  have h := hf
  unfold f_X10_storms at h
  refine lv_aload_n hx hb dX10_storms_0 rfl (lv_at hl 0 rfl) ?_
  refine lv_iload_n hx hb dX10_storms_1 rfl (lv_at hl 1 rfl) ?_
  obtain ⟨q1, hq1, h⟩ := ob_t h
  refine res_i C w (run_V (As := [.int x1]) (rest := []) C w hl.1 (recvC0 C w) (c_X10_isTree l D ca ad _ x1 _ q1 hq1) rfl rfl wl_176 wl_177 wl_178 wl_2 wl_179 hd_X10_isTree rfl ⟨Nat.le_of_ble_eq_true rfl, Nat.le_of_ble_eq_true rfl⟩ rfl (Nat.le_of_ble_eq_true rfl) dX10_storms_2) (fun H locs w => ?_)
  refine lv_if_eq (tgt := 26) hx hb dX10_storms_5 (by decide) (fun c1 => ?_) (fun c1 => ?_)
  · have h := it_t h c1
    exact b26 _ h _ _ _ w (lv_sub hl [0] rfl)
  · have h := it_f h c1
    refine lv_aload_n hx hb dX10_storms_8 rfl (lv_at hl 0 rfl) ?_
    refine lv_iload_n hx hb dX10_storms_9 rfl (lv_at hl 2 rfl) ?_
    obtain ⟨q2, hq2, h⟩ := ob_t h
    refine res_i C w (run_V (As := [.int x2]) (rest := []) C w hl.1 (recvC0 C w) (c_X10_isTree l D ca ad _ x2 _ q2 hq2) rfl rfl wl_176 wl_177 wl_178 wl_2 wl_179 hd_X10_isTree rfl ⟨Nat.le_of_ble_eq_true rfl, Nat.le_of_ble_eq_true rfl⟩ rfl (Nat.le_of_ble_eq_true rfl) dX10_storms_10) (fun H locs w => ?_)
    refine lv_if_eq (tgt := 26) hx hb dX10_storms_13 (by decide) (fun c2 => ?_) (fun c2 => ?_)
    · have h := it_t h c2
      exact b26 _ h _ _ _ w (lv_sub hl [0] rfl)
    · have h := it_f h c2
      refine lv_iload_n hx hb dX10_storms_16 rfl (lv_at hl 3 rfl) ?_
      refine lv_iconst (v := 0) hx hb dX10_storms_17 (by decide) ?_
      refine lv_bipush (v := 10) hx hb dX10_storms_18 (by decide) ?_
      obtain ⟨q3, hq3, h⟩ := ob_t h
      refine res_i C w (run_S (As := [.int x3, .int (0 : Int32), .int (10 : Int32)]) (rest := []) C w hl.1 (c_X10_within l D ca _ x3 (0 : Int32) (10 : Int32) _ q3 hq3) rfl rfl wl_114 wl_115 wl_2 wl_116 hd_X10_within rfl ⟨Nat.le_of_ble_eq_true rfl, Nat.le_of_ble_eq_true rfl⟩ rfl (Nat.le_of_ble_eq_true rfl) dX10_storms_20) (fun H locs w => ?_)
      refine lv_if_ne (tgt := 31) hx hb dX10_storms_23 (by decide) (fun c3 => ?_) (fun c3 => ?_)
      · have h := it_f h c3
        refine lv_aload_n hx hb dX10_storms_31 rfl (lv_at hl 0 rfl) ?_
        refine lv_lconst (v := 0) hx hb dX10_storms_32 (by decide) ?_
        refine pC0_11 C w wl_52 dX10_storms_33 (fun H locs w => ?_)
        refine lv_aload_n hx hb dX10_storms_36 rfl (lv_at hl 0 rfl) ?_
        refine lv_lconst (v := 1) hx hb dX10_storms_37 (by decide) ?_
        refine pC0_12 C w wl_53 dX10_storms_38 (fun H locs w => ?_)
        refine lv_aload_n hx hb dX10_storms_41 rfl (lv_at hl 0 rfl) ?_
        refine gC0_5 C w wl_42 dX10_storms_42 ?_
        refine lv_iload_n hx hb dX10_storms_45 rfl (lv_at hl 1 rfl) ?_
        refine lv_iload_n hx hb dX10_storms_46 rfl (lv_at hl 2 rfl) ?_
        refine lv_iconst (v := 0) hx hb dX10_storms_47 (by decide) ?_
        refine lv_iconst (v := -1) hx hb dX10_storms_48 (by decide) ?_
        obtain ⟨q4, hq4, h⟩ := ob_t h
        refine res_i C w (run_V (As := [.int x1, .int x2, .int (0 : Int32), .int (-1 : Int32)]) (rest := []) C w hl.1 (recvC38 C w) (c_X7_seek l D ca ad _ x1 x2 (0 : Int32) (-1 : Int32) _ q4 hq4) rfl rfl wl_599 wl_600 wl_601 wl_41 wl_602 hd_X7_seek rfl ⟨Nat.le_of_ble_eq_true rfl, Nat.le_of_ble_eq_true rfl⟩ rfl (Nat.le_of_ble_eq_true rfl) dX10_storms_49) (fun H locs w => ?_)
        refine lv_if_eq (tgt := 70) hx hb dX10_storms_52 (by decide) (fun c4 => ?_) (fun c4 => ?_)
        · have h := it_t h c4
          refine lv_iconst (v := 1) hx hb dX10_storms_70 (by decide) ?_
          rw [hQ]
          exact rI (F := CW ca ad) C w h dX10_storms_71
        · have h := it_f h c4
          refine lv_aload_n hx hb dX10_storms_55 rfl (lv_at hl 0 rfl) ?_
          refine lv_bipush (v := 10) hx hb dX10_storms_56 (by decide) ?_
          refine lv_iload_n hx hb dX10_storms_58 rfl (lv_at hl 3 rfl) ?_
          refine lv_isub hx hb dX10_storms_59 ?_
          refine lv_aload_n hx hb dX10_storms_60 rfl (lv_at hl 0 rfl) ?_
          refine gC0_5 C w wl_42 dX10_storms_61 ?_
          refine gC38_6 (v := (q4.2.1 3806)) C w rfl wl_598 dX10_storms_64 ?_
          obtain ⟨q5, hq5, h⟩ := ob_t h
          refine res_v C w (run_V (As := [.int ((10 : Int32) - x3), .int (q4.2.1 3806)]) (rest := []) C w hl.1 (recvC0 C w) (c_X10_keepChanceToStand l D ca ad _ ((10 : Int32) - x3) (q4.2.1 3806) _ q5 hq5) rfl rfl wl_870 wl_871 wl_872 wl_2 wl_873 hd_X10_keepChanceToStand rfl ⟨Nat.le_of_ble_eq_true rfl, Nat.le_of_ble_eq_true rfl⟩ rfl (Nat.le_of_ble_eq_true rfl) dX10_storms_67) (fun H locs w => ?_)
          refine lv_iconst (v := 1) hx hb dX10_storms_70 (by decide) ?_
          rw [hQ]
          exact rI (F := CW ca ad) C w h dX10_storms_71
      · have h := it_t h c3
        exact b26 _ h _ _ _ w (lv_sub hl [0] rfl)
theorem hd_X10_forests : yX10_forests.cls = RX10 ∧ yX10_forests.cls ≠ "java/lang/invoke/MethodHandle" ∧ yX10_forests.cls ≠ "java/lang/invoke/VarHandle" ∧ (parseMethodDescriptor yX10_forests.desc).map (fun d => d.parameters.length) = some 3 := by decide +kernel
def f_X10_forests_b29 (σ : St) : Option (Int32 × St) := (f_X10_refuseAsBad σ).bind fun q1 => some (q1.1, q1.2)
def f_X10_forests_b143 (K66 : St → Int32 → Int32 → Int32 → Int32 → Int32 → Int64 → Int32 → Option (Int32 × St)) (σ : St) (x2 : Int32) (x3 : Int32) (x4 : Int32) (x5 : Int32) (x6 : Int32) (x7 : Int64) (x9 : Int32) : Option (Int32 × St) := K66 σ x2 x3 x4 x5 x6 x7 (x9 + (1 : Int32))
def f_X10_forests_b66 (K66 : St → Int32 → Int32 → Int32 → Int32 → Int32 → Int64 → Int32 → Option (Int32 × St)) (σ : St) (x2 : Int32) (x3 : Int32) (x4 : Int32) (x5 : Int32) (x6 : Int32) (x7 : Int64) (x9 : Int32) : Option (Int32 × St) := if x2 ≤ x9 then (if x3 = 0 then (some (x5, σ)) else (some (x6, σ))) else ((f_X10_drawn x7).bind fun q1 => if x4.toInt64 = 0 then none else ((f_X10_drawn q1).bind fun q2 => if x4.toInt64 = 0 then none else ((f_X7_seek σ ((((q1 / (65536 : Int64)) - (q1 / (65536 : Int64)) / x4.toInt64 * x4.toInt64)).toInt32) ((((q2 / (65536 : Int64)) - (q2 / (65536 : Int64)) / x4.toInt64 * x4.toInt64)).toInt32) (0 : Int32) (-1 : Int32)).bind fun q3 => if q3.1 = 0 then (f_X10_forests_b143 K66 q3.2 x2 x3 x4 x5 x6 q2 x9) else (f_X10_forests_b143 K66 q3.2 x2 x3 x4 (x5 + (1 : Int32)) (x6 + (q3.2.1 3807)) q2 x9))))
def f_X10_forests_L66 : Nat → St → Int32 → Int32 → Int32 → Int32 → Int32 → Int64 → Int32 → Option (Int32 × St)
  | 0 => fun _ _ _ _ _ _ _ _ => none
  | n + 1 => f_X10_forests_b66 (f_X10_forests_L66 n)
def f_X10_forests (σ : St) (x1 : Int32) (x2 : Int32) (x3 : Int32) : Option (Int32 × St) := (f_X10_within x1 (0 : Int32) (999999 : Int32)).bind fun q1 => if q1 = 0 then (f_X10_forests_b29 σ) else ((f_X10_within x2 (0 : Int32) (60 : Int32)).bind fun q2 => if q2 = 0 then (f_X10_forests_b29 σ) else ((f_X10_within x3 (0 : Int32) (1 : Int32)).bind fun q3 => if q3 = 0 then (f_X10_forests_b29 σ) else (if (σ.1 106) = 0 then ((f_X10_refuseAsNo σ).bind fun q4 => some (q4.1, q4.2)) else (f_X10_forests_L66 FU σ x2 x3 (σ.1 106) (0 : Int32) (0 : Int32) x1.toInt64 (0 : Int32)))))
abbrev rm_X10_forests : Room := { frames := 14, cells := 0, slots := 0, locals := 840 }
set_option maxHeartbeats 4000000 in
set_option maxRecDepth 100000 in
theorem c_X10_forests (l : Launch) (D : va_G) (ca : Nat → ClassId) (ad : Nat → Nat) (σ : St) (x1 : Int32) (x2 : Int32) (x3 : Int32) (sz : Nat) (out : Int32 × St) (hf : f_X10_forests σ x1 x2 x3 = some out) : Met l yX10_forests (.code yX10_forests cX10_forests 12 (some .int) :: WL) rm_X10_forests (PreC D ca (CW ca ad σ) sz [.ref (ad 0), .int x1, .int x2, .int x3]) (PostI D (va_A (CW ca ad σ) sz) (CW ca ad out.2) out.1) 0 0 (va_A (CW ca ad σ) sz) := by
  refine Met.ofW (cc := cX10_forests) (maxL := 12) (ret := (some .int)) (by decide) rfl ?_
  intro p e s m args below meth c s₁ B hml hv
  obtain ⟨rfl, hsz, hP, hK, hD, hN⟩ := hv
  subst hsz
  have C := Cx.mk (own := RX10) B hml rfl hK hN (ws := (CW ca ad σ))
  have w : Wd (va_A (CW ca ad σ) s.heap.size) s D (CW ca ad σ) s.heap [] := ⟨hP, hD.self, va_S.rf⟩
  have hl := lv_entry ([.ref (ad 0), .int x1, .int x2, .int x3]) (n := 12) (Nat.le_of_ble_eq_true rfl)
  rw [lg_entry_eq]
  generalize (lg_sl ([.ref (ad 0), .int x1, .int x2, .int x3]) ++ List.replicate (12 - (lg_sl ([.ref (ad 0), .int x1, .int x2, .int x3])).length) Slot.unset).toArray = ls at hl ⊢
  have hl : lv_has ls 12 [(0, .ref (ad 0)), (1, .int x1), (2, .int x2), (3, .int x3)] := hl
  change W p l e rm_X10_forests s m _ below meth c _ [] 0 0 _ _
  clear B hP hD hK hN hml
  generalize va_A (CW ca ad σ) s.heap.size = A at C w ⊢
  generalize ([.ref (ad 0), .int x1, .int x2, .int x3] : List Value).toArray = av at C ⊢
  obtain ⟨Q, hQ⟩ : ∃ Q, Q = MQ below (PostI D A (CW ca ad out.2) out.1) av s 0 0 A := ⟨_, rfl⟩
  rw [← hQ]
  have hx := C.1
  have hb := C.2.1
  have b29 : ∀ (σ : St), f_X10_forests_b29 σ = some out → Bk p l e rm_X10_forests s m av below meth c A D 12 Q (CW ca ad σ) 29 [(0, .ref (ad 0))] [] := by
    intro σ h H locs ls w hl
    unfold f_X10_forests_b29 at h
    refine lv_aload_n hx hb dX10_forests_29 rfl (lv_at hl 0 rfl) ?_
    obtain ⟨q1, hq1, h⟩ := ob_t h
    refine res_i C w (run_V (As := []) (rest := []) C w hl.1 (recvC0 C w) (c_X10_refuseAsBad l D ca ad _  _ q1 hq1) rfl rfl wl_117 wl_118 wl_119 wl_2 wl_120 hd_X10_refuseAsBad rfl ⟨Nat.le_of_ble_eq_true rfl, Nat.le_of_ble_eq_true rfl⟩ rfl (Nat.le_of_ble_eq_true rfl) dX10_forests_30) (fun H locs w => ?_)
    rw [hQ]
    exact rI (F := CW ca ad) C w h dX10_forests_33
  have L66 : ∀ (n66 : Nat) (σ : St) (x2 : Int32) (x3 : Int32) (x4 : Int32) (x5 : Int32) (x6 : Int32) (x7 : Int64) (x9 : Int32), f_X10_forests_L66 n66 σ x2 x3 x4 x5 x6 x7 x9 = some out → Bk p l e rm_X10_forests s m av below meth c A D 12 Q (CW ca ad σ) 66 [(0, .ref (ad 0)), (2, .int x2), (3, .int x3), (4, .int x4), (5, .int x5), (6, .int x6), (7, .long x7), (9, .int x9)] [] := by
    intro n66
    induction n66 with
    | zero => intro σ x2 x3 x4 x5 x6 x7 x9 h; exact absurd h (by simp [f_X10_forests_L66])
    | succ n66 ih66 =>
      have b143 : ∀ (σ : St) (x2 : Int32) (x3 : Int32) (x4 : Int32) (x5 : Int32) (x6 : Int32) (x7 : Int64) (x9 : Int32), f_X10_forests_b143 (f_X10_forests_L66 n66) σ x2 x3 x4 x5 x6 x7 x9 = some out → Bk p l e rm_X10_forests s m av below meth c A D 12 Q (CW ca ad σ) 143 [(0, .ref (ad 0)), (2, .int x2), (3, .int x3), (4, .int x4), (5, .int x5), (6, .int x6), (7, .long x7), (9, .int x9)] [] := by
        intro σ x2 x3 x4 x5 x6 x7 x9 h H locs ls w hl
        unfold f_X10_forests_b143 at h
        refine lv_iinc (v := (x9 + (1 : Int32))) (lv' := [(9, .int (x9 + (1 : Int32))), (0, .ref (ad 0)), (2, .int x2), (3, .int x3), (4, .int x4), (5, .int x5), (6, .int x6), (7, .long x7)]) hx hb dX10_forests_143 hl (k := 7) rfl rfl (by decide) rfl (fun ls hl => ?_)
        refine lv_goto (tgt := 66) hx hb dX10_forests_146 (by decide) ?_
        exact ih66 _ _ _ _ _ _ _ _ h _ _ _ w (lv_sub hl [1, 2, 3, 4, 5, 6, 7, 0] rfl)
      intro σ x2 x3 x4 x5 x6 x7 x9 h H locs ls w hl
      change f_X10_forests_b66 (f_X10_forests_L66 n66) σ x2 x3 x4 x5 x6 x7 x9 = some out at h
      unfold f_X10_forests_b66 at h
      refine lv_iload hx hb dX10_forests_66 (lv_at hl 7 rfl) ?_
      refine lv_iload_n hx hb dX10_forests_68 rfl (lv_at hl 1 rfl) ?_
      refine lv_icmp_ge (tgt := 149) hx hb dX10_forests_69 (by decide) (fun c1 => ?_) (fun c1 => ?_)
      · have h := it_t h c1
        refine lv_iload_n hx hb dX10_forests_149 rfl (lv_at hl 2 rfl) ?_
        refine lv_if_ne (tgt := 158) hx hb dX10_forests_150 (by decide) (fun c2 => ?_) (fun c2 => ?_)
        · have h := it_f h c2
          refine lv_iload hx hb dX10_forests_158 (lv_at hl 5 rfl) ?_
          rw [hQ]
          exact rI (F := CW ca ad) C w h dX10_forests_160
        · have h := it_t h c2
          refine lv_iload hx hb dX10_forests_153 (lv_at hl 4 rfl) ?_
          refine lv_goto (tgt := 160) hx hb dX10_forests_155 (by decide) ?_
          rw [hQ]
          exact rI (F := CW ca ad) C w h dX10_forests_160
      · have h := it_f h c1
        refine lv_lload hx hb dX10_forests_72 (lv_at hl 6 rfl) ?_
        obtain ⟨q1, hq1, h⟩ := ob_t h
        refine res_l C w (run_S (As := [.long x7]) (rest := []) C w hl.1 (c_X10_drawn l D ca _ x7 _ q1 hq1) rfl rfl wl_891 wl_892 wl_2 wl_893 hd_X10_drawn rfl ⟨Nat.le_of_ble_eq_true rfl, Nat.le_of_ble_eq_true rfl⟩ rfl (Nat.le_of_ble_eq_true rfl) dX10_forests_74) (fun H locs w => ?_)
        refine lv_lstore (lv' := [(7, .long q1), (0, .ref (ad 0)), (2, .int x2), (3, .int x3), (4, .int x4), (5, .int x5), (6, .int x6), (9, .int x9)]) hx hb dX10_forests_77 hl (by decide) rfl (fun ls hl => ?_)
        refine lv_lload hx hb dX10_forests_79 (lv_at hl 0 rfl) ?_
        refine lv_ldc2 (v := 65536) hx hb C.ow (C.ts _ wl_890) dX10_forests_81 ?_
        refine lv_ldiv hx hb dX10_forests_84 (by decide) ?_
        refine lv_iload hx hb dX10_forests_85 (lv_at hl 4 rfl) ?_
        refine lv_i2l hx hb dX10_forests_87 rfl ?_
        obtain ⟨n3, h⟩ := dl_t h
        refine lv_lrem hx hb dX10_forests_88 n3 ?_
        refine lv_l2i hx hb dX10_forests_89 rfl ?_
        refine lv_istore (lv' := [(10, .int ((((q1 / (65536 : Int64)) - (q1 / (65536 : Int64)) / x4.toInt64 * x4.toInt64)).toInt32)), (7, .long q1), (0, .ref (ad 0)), (2, .int x2), (3, .int x3), (4, .int x4), (5, .int x5), (6, .int x6), (9, .int x9)]) hx hb dX10_forests_90 hl (by decide) rfl (fun ls hl => ?_)
        refine lv_lload hx hb dX10_forests_92 (lv_at hl 1 rfl) ?_
        obtain ⟨q2, hq2, h⟩ := ob_t h
        refine res_l C w (run_S (As := [.long q1]) (rest := []) C w hl.1 (c_X10_drawn l D ca _ q1 _ q2 hq2) rfl rfl wl_891 wl_892 wl_2 wl_893 hd_X10_drawn rfl ⟨Nat.le_of_ble_eq_true rfl, Nat.le_of_ble_eq_true rfl⟩ rfl (Nat.le_of_ble_eq_true rfl) dX10_forests_94) (fun H locs w => ?_)
        refine lv_lstore (lv' := [(7, .long q2), (10, .int ((((q1 / (65536 : Int64)) - (q1 / (65536 : Int64)) / x4.toInt64 * x4.toInt64)).toInt32)), (0, .ref (ad 0)), (2, .int x2), (3, .int x3), (4, .int x4), (5, .int x5), (6, .int x6), (9, .int x9)]) hx hb dX10_forests_97 hl (by decide) rfl (fun ls hl => ?_)
        refine lv_lload hx hb dX10_forests_99 (lv_at hl 0 rfl) ?_
        refine lv_ldc2 (v := 65536) hx hb C.ow (C.ts _ wl_890) dX10_forests_101 ?_
        refine lv_ldiv hx hb dX10_forests_104 (by decide) ?_
        refine lv_iload hx hb dX10_forests_105 (lv_at hl 5 rfl) ?_
        refine lv_i2l hx hb dX10_forests_107 rfl ?_
        obtain ⟨n4, h⟩ := dl_t h
        refine lv_lrem hx hb dX10_forests_108 n4 ?_
        refine lv_l2i hx hb dX10_forests_109 rfl ?_
        refine lv_istore (lv' := [(11, .int ((((q2 / (65536 : Int64)) - (q2 / (65536 : Int64)) / x4.toInt64 * x4.toInt64)).toInt32)), (7, .long q2), (10, .int ((((q1 / (65536 : Int64)) - (q1 / (65536 : Int64)) / x4.toInt64 * x4.toInt64)).toInt32)), (0, .ref (ad 0)), (2, .int x2), (3, .int x3), (4, .int x4), (5, .int x5), (6, .int x6), (9, .int x9)]) hx hb dX10_forests_110 hl (by decide) rfl (fun ls hl => ?_)
        refine lv_aload_n hx hb dX10_forests_112 rfl (lv_at hl 3 rfl) ?_
        refine gC0_5 C w wl_42 dX10_forests_113 ?_
        refine lv_iload hx hb dX10_forests_116 (lv_at hl 2 rfl) ?_
        refine lv_iload hx hb dX10_forests_118 (lv_at hl 0 rfl) ?_
        refine lv_iconst (v := 0) hx hb dX10_forests_120 (by decide) ?_
        refine lv_iconst (v := -1) hx hb dX10_forests_121 (by decide) ?_
        obtain ⟨q3, hq3, h⟩ := ob_t h
        refine res_i C w (run_V (As := [.int ((((q1 / (65536 : Int64)) - (q1 / (65536 : Int64)) / x4.toInt64 * x4.toInt64)).toInt32), .int ((((q2 / (65536 : Int64)) - (q2 / (65536 : Int64)) / x4.toInt64 * x4.toInt64)).toInt32), .int (0 : Int32), .int (-1 : Int32)]) (rest := []) C w hl.1 (recvC38 C w) (c_X7_seek l D ca ad _ ((((q1 / (65536 : Int64)) - (q1 / (65536 : Int64)) / x4.toInt64 * x4.toInt64)).toInt32) ((((q2 / (65536 : Int64)) - (q2 / (65536 : Int64)) / x4.toInt64 * x4.toInt64)).toInt32) (0 : Int32) (-1 : Int32) _ q3 hq3) rfl rfl wl_599 wl_600 wl_601 wl_41 wl_602 hd_X7_seek rfl ⟨Nat.le_of_ble_eq_true rfl, Nat.le_of_ble_eq_true rfl⟩ rfl (Nat.le_of_ble_eq_true rfl) dX10_forests_122) (fun H locs w => ?_)
        refine lv_if_eq (tgt := 143) hx hb dX10_forests_125 (by decide) (fun c5 => ?_) (fun c5 => ?_)
        · have h := it_t h c5
          exact b143 _ _ _ _ _ _ _ _ h _ _ _ w (lv_sub hl [3, 4, 5, 6, 7, 8, 1, 9] rfl)
        · have h := it_f h c5
          refine lv_iinc (v := (x5 + (1 : Int32))) (lv' := [(5, .int (x5 + (1 : Int32))), (11, .int ((((q2 / (65536 : Int64)) - (q2 / (65536 : Int64)) / x4.toInt64 * x4.toInt64)).toInt32)), (7, .long q2), (10, .int ((((q1 / (65536 : Int64)) - (q1 / (65536 : Int64)) / x4.toInt64 * x4.toInt64)).toInt32)), (0, .ref (ad 0)), (2, .int x2), (3, .int x3), (4, .int x4), (6, .int x6), (9, .int x9)]) hx hb dX10_forests_128 hl (k := 7) rfl rfl (by decide) rfl (fun ls hl => ?_)
          refine lv_iload hx hb dX10_forests_131 (lv_at hl 8 rfl) ?_
          refine lv_aload_n hx hb dX10_forests_133 rfl (lv_at hl 4 rfl) ?_
          refine gC0_5 C w wl_42 dX10_forests_134 ?_
          refine gC38_7 (v := (q3.2.1 3807)) C w rfl wl_546 dX10_forests_137 ?_
          refine lv_iadd hx hb dX10_forests_140 ?_
          refine lv_istore (lv' := [(6, .int (x6 + (q3.2.1 3807))), (5, .int (x5 + (1 : Int32))), (11, .int ((((q2 / (65536 : Int64)) - (q2 / (65536 : Int64)) / x4.toInt64 * x4.toInt64)).toInt32)), (7, .long q2), (10, .int ((((q1 / (65536 : Int64)) - (q1 / (65536 : Int64)) / x4.toInt64 * x4.toInt64)).toInt32)), (0, .ref (ad 0)), (2, .int x2), (3, .int x3), (4, .int x4), (9, .int x9)]) hx hb dX10_forests_141 hl (by decide) rfl (fun ls hl => ?_)
          exact b143 _ _ _ _ _ _ _ _ h _ _ _ w (lv_sub hl [5, 6, 7, 8, 1, 0, 3, 9] rfl)
  have h := hf
  unfold f_X10_forests at h
  refine lv_iload_n hx hb dX10_forests_0 rfl (lv_at hl 1 rfl) ?_
  refine lv_iconst (v := 0) hx hb dX10_forests_1 (by decide) ?_
  refine lv_ldc (v := 999999) hx hb C.ow (C.ts _ wl_889) dX10_forests_2 ?_
  obtain ⟨q1, hq1, h⟩ := ob_t h
  refine res_i C w (run_S (As := [.int x1, .int (0 : Int32), .int (999999 : Int32)]) (rest := []) C w hl.1 (c_X10_within l D ca _ x1 (0 : Int32) (999999 : Int32) _ q1 hq1) rfl rfl wl_114 wl_115 wl_2 wl_116 hd_X10_within rfl ⟨Nat.le_of_ble_eq_true rfl, Nat.le_of_ble_eq_true rfl⟩ rfl (Nat.le_of_ble_eq_true rfl) dX10_forests_4) (fun H locs w => ?_)
  refine lv_if_eq (tgt := 29) hx hb dX10_forests_7 (by decide) (fun c1 => ?_) (fun c1 => ?_)
  · have h := it_t h c1
    exact b29 _ h _ _ _ w (lv_sub hl [0] rfl)
  · have h := it_f h c1
    refine lv_iload_n hx hb dX10_forests_10 rfl (lv_at hl 2 rfl) ?_
    refine lv_iconst (v := 0) hx hb dX10_forests_11 (by decide) ?_
    refine lv_bipush (v := 60) hx hb dX10_forests_12 (by decide) ?_
    obtain ⟨q2, hq2, h⟩ := ob_t h
    refine res_i C w (run_S (As := [.int x2, .int (0 : Int32), .int (60 : Int32)]) (rest := []) C w hl.1 (c_X10_within l D ca _ x2 (0 : Int32) (60 : Int32) _ q2 hq2) rfl rfl wl_114 wl_115 wl_2 wl_116 hd_X10_within rfl ⟨Nat.le_of_ble_eq_true rfl, Nat.le_of_ble_eq_true rfl⟩ rfl (Nat.le_of_ble_eq_true rfl) dX10_forests_14) (fun H locs w => ?_)
    refine lv_if_eq (tgt := 29) hx hb dX10_forests_17 (by decide) (fun c2 => ?_) (fun c2 => ?_)
    · have h := it_t h c2
      exact b29 _ h _ _ _ w (lv_sub hl [0] rfl)
    · have h := it_f h c2
      refine lv_iload_n hx hb dX10_forests_20 rfl (lv_at hl 3 rfl) ?_
      refine lv_iconst (v := 0) hx hb dX10_forests_21 (by decide) ?_
      refine lv_iconst (v := 1) hx hb dX10_forests_22 (by decide) ?_
      obtain ⟨q3, hq3, h⟩ := ob_t h
      refine res_i C w (run_S (As := [.int x3, .int (0 : Int32), .int (1 : Int32)]) (rest := []) C w hl.1 (c_X10_within l D ca _ x3 (0 : Int32) (1 : Int32) _ q3 hq3) rfl rfl wl_114 wl_115 wl_2 wl_116 hd_X10_within rfl ⟨Nat.le_of_ble_eq_true rfl, Nat.le_of_ble_eq_true rfl⟩ rfl (Nat.le_of_ble_eq_true rfl) dX10_forests_23) (fun H locs w => ?_)
      refine lv_if_ne (tgt := 34) hx hb dX10_forests_26 (by decide) (fun c3 => ?_) (fun c3 => ?_)
      · have h := it_f h c3
        refine lv_aload_n hx hb dX10_forests_34 rfl (lv_at hl 0 rfl) ?_
        refine gC0_1 C w wl_34 dX10_forests_35 ?_
        refine gC1_6 (v := (σ.1 106)) C w rfl wl_113 dX10_forests_38 ?_
        refine lv_istore (lv' := [(4, .int (σ.1 106)), (0, .ref (ad 0)), (1, .int x1), (2, .int x2), (3, .int x3)]) hx hb dX10_forests_41 hl (by decide) rfl (fun ls hl => ?_)
        refine lv_iload hx hb dX10_forests_43 (lv_at hl 0 rfl) ?_
        refine lv_if_ne (tgt := 53) hx hb dX10_forests_45 (by decide) (fun c4 => ?_) (fun c4 => ?_)
        · have h := it_f h c4
          refine lv_iconst (v := 0) hx hb dX10_forests_53 (by decide) ?_
          refine lv_istore (lv' := [(5, .int (0 : Int32)), (4, .int (σ.1 106)), (0, .ref (ad 0)), (1, .int x1), (2, .int x2), (3, .int x3)]) hx hb dX10_forests_54 hl (by decide) rfl (fun ls hl => ?_)
          refine lv_iconst (v := 0) hx hb dX10_forests_56 (by decide) ?_
          refine lv_istore (lv' := [(6, .int (0 : Int32)), (5, .int (0 : Int32)), (4, .int (σ.1 106)), (0, .ref (ad 0)), (1, .int x1), (2, .int x2), (3, .int x3)]) hx hb dX10_forests_57 hl (by decide) rfl (fun ls hl => ?_)
          refine lv_iload_n hx hb dX10_forests_59 rfl (lv_at hl 4 rfl) ?_
          refine lv_i2l hx hb dX10_forests_60 rfl ?_
          refine lv_lstore (lv' := [(7, .long x1.toInt64), (6, .int (0 : Int32)), (5, .int (0 : Int32)), (4, .int (σ.1 106)), (0, .ref (ad 0)), (1, .int x1), (2, .int x2), (3, .int x3)]) hx hb dX10_forests_61 hl (by decide) rfl (fun ls hl => ?_)
          refine lv_iconst (v := 0) hx hb dX10_forests_63 (by decide) ?_
          refine lv_istore (lv' := [(9, .int (0 : Int32)), (7, .long x1.toInt64), (6, .int (0 : Int32)), (5, .int (0 : Int32)), (4, .int (σ.1 106)), (0, .ref (ad 0)), (1, .int x1), (2, .int x2), (3, .int x3)]) hx hb dX10_forests_64 hl (by decide) rfl (fun ls hl => ?_)
          exact L66 FU _ _ _ _ _ _ _ _ h _ _ _ w (lv_sub hl [5, 7, 8, 4, 3, 2, 1, 0] rfl)
        · have h := it_t h c4
          refine lv_aload_n hx hb dX10_forests_48 rfl (lv_at hl 1 rfl) ?_
          obtain ⟨q4, hq4, h⟩ := ob_t h
          refine res_i C w (run_V (As := []) (rest := []) C w hl.1 (recvC0 C w) (c_X10_refuseAsNo l D ca ad _  _ q4 hq4) rfl rfl wl_428 wl_429 wl_430 wl_2 wl_431 hd_X10_refuseAsNo rfl ⟨Nat.le_of_ble_eq_true rfl, Nat.le_of_ble_eq_true rfl⟩ rfl (Nat.le_of_ble_eq_true rfl) dX10_forests_49) (fun H locs w => ?_)
          rw [hQ]
          exact rI (F := CW ca ad) C w h dX10_forests_52
      · have h := it_t h c3
        exact b29 _ h _ _ _ w (lv_sub hl [0] rfl)
theorem hd_X10_part : yX10_part.cls = RX10 ∧ yX10_part.cls ≠ "java/lang/invoke/MethodHandle" ∧ yX10_part.cls ≠ "java/lang/invoke/VarHandle" ∧ (parseMethodDescriptor yX10_part.desc).map (fun d => d.parameters.length) = some 1 := by decide +kernel
def f_X10_part (σ : St) (x1 : Int32) : Option (Int64 × St) := (f_X10_within x1 (0 : Int32) (1 : Int32)).bind fun q1 => if q1 = 0 then ((f_X10_refuseAsBad σ).bind fun q2 => some ((q2.1).toInt64, q2.2)) else (if x1 = 0 then (some ((σ.2.1 11), σ)) else (some ((σ.2.1 12), σ)))
abbrev rm_X10_part : Room := { frames := 1, cells := 0, slots := 0, locals := 60 }
set_option maxHeartbeats 4000000 in
set_option maxRecDepth 100000 in
theorem c_X10_part (l : Launch) (D : va_G) (ca : Nat → ClassId) (ad : Nat → Nat) (σ : St) (x1 : Int32) (sz : Nat) (out : Int64 × St) (hf : f_X10_part σ x1 = some out) : Met l yX10_part (.code yX10_part cX10_part 2 (some .long) :: WL) rm_X10_part (PreC D ca (CW ca ad σ) sz [.ref (ad 0), .int x1]) (PostL D (va_A (CW ca ad σ) sz) (CW ca ad out.2) out.1) 0 0 (va_A (CW ca ad σ) sz) := by
  refine Met.ofW (cc := cX10_part) (maxL := 2) (ret := (some .long)) (by decide) rfl ?_
  intro p e s m args below meth c s₁ B hml hv
  obtain ⟨rfl, hsz, hP, hK, hD, hN⟩ := hv
  subst hsz
  have C := Cx.mk (own := RX10) B hml rfl hK hN (ws := (CW ca ad σ))
  have w : Wd (va_A (CW ca ad σ) s.heap.size) s D (CW ca ad σ) s.heap [] := ⟨hP, hD.self, va_S.rf⟩
  have hl := lv_entry ([.ref (ad 0), .int x1]) (n := 2) (Nat.le_of_ble_eq_true rfl)
  rw [lg_entry_eq]
  generalize (lg_sl ([.ref (ad 0), .int x1]) ++ List.replicate (2 - (lg_sl ([.ref (ad 0), .int x1])).length) Slot.unset).toArray = ls at hl ⊢
  have hl : lv_has ls 2 [(0, .ref (ad 0)), (1, .int x1)] := hl
  change W p l e rm_X10_part s m _ below meth c _ [] 0 0 _ _
  clear B hP hD hK hN hml
  generalize va_A (CW ca ad σ) s.heap.size = A at C w ⊢
  generalize ([.ref (ad 0), .int x1] : List Value).toArray = av at C ⊢
  obtain ⟨Q, hQ⟩ : ∃ Q, Q = MQ below (PostL D A (CW ca ad out.2) out.1) av s 0 0 A := ⟨_, rfl⟩
  rw [← hQ]
  have hx := C.1
  have hb := C.2.1
  have h := hf
  unfold f_X10_part at h
  refine lv_iload_n hx hb dX10_part_0 rfl (lv_at hl 1 rfl) ?_
  refine lv_iconst (v := 0) hx hb dX10_part_1 (by decide) ?_
  refine lv_iconst (v := 1) hx hb dX10_part_2 (by decide) ?_
  obtain ⟨q1, hq1, h⟩ := ob_t h
  refine res_i C w (run_S (As := [.int x1, .int (0 : Int32), .int (1 : Int32)]) (rest := []) C w hl.1 (c_X10_within l D ca _ x1 (0 : Int32) (1 : Int32) _ q1 hq1) rfl rfl wl_114 wl_115 wl_2 wl_116 hd_X10_within rfl ⟨Nat.le_of_ble_eq_true rfl, Nat.le_of_ble_eq_true rfl⟩ rfl (Nat.le_of_ble_eq_true rfl) dX10_part_3) (fun H locs w => ?_)
  refine lv_if_ne (tgt := 15) hx hb dX10_part_6 (by decide) (fun c1 => ?_) (fun c1 => ?_)
  · have h := it_f h c1
    refine lv_iload_n hx hb dX10_part_15 rfl (lv_at hl 1 rfl) ?_
    refine lv_if_ne (tgt := 26) hx hb dX10_part_16 (by decide) (fun c2 => ?_) (fun c2 => ?_)
    · have h := it_f h c2
      refine lv_aload_n hx hb dX10_part_26 rfl (lv_at hl 0 rfl) ?_
      refine gC0_12 (v := (σ.2.1 12)) C w rfl wl_53 dX10_part_27 ?_
      rw [hQ]
      exact rJ (F := CW ca ad) C w h dX10_part_30
    · have h := it_t h c2
      refine lv_aload_n hx hb dX10_part_19 rfl (lv_at hl 0 rfl) ?_
      refine gC0_11 (v := (σ.2.1 11)) C w rfl wl_52 dX10_part_20 ?_
      refine lv_goto (tgt := 30) hx hb dX10_part_23 (by decide) ?_
      rw [hQ]
      exact rJ (F := CW ca ad) C w h dX10_part_30
  · have h := it_t h c1
    refine lv_aload_n hx hb dX10_part_9 rfl (lv_at hl 0 rfl) ?_
    obtain ⟨q2, hq2, h⟩ := ob_t h
    refine res_i C w (run_V (As := []) (rest := []) C w hl.1 (recvC0 C w) (c_X10_refuseAsBad l D ca ad _  _ q2 hq2) rfl rfl wl_117 wl_118 wl_119 wl_2 wl_120 hd_X10_refuseAsBad rfl ⟨Nat.le_of_ble_eq_true rfl, Nat.le_of_ble_eq_true rfl⟩ rfl (Nat.le_of_ble_eq_true rfl) dX10_part_10) (fun H locs w => ?_)
    refine lv_i2l hx hb dX10_part_13 rfl ?_
    rw [hQ]
    exact rJ (F := CW ca ad) C w h dX10_part_14
theorem hd_X2_takeAll : yX2_takeAll.cls = RX2 ∧ yX2_takeAll.cls ≠ "java/lang/invoke/MethodHandle" ∧ yX2_takeAll.cls ≠ "java/lang/invoke/VarHandle" ∧ (parseMethodDescriptor yX2_takeAll.desc).map (fun d => d.parameters.length) = some 1 := by decide +kernel
def f_X2_takeAll_15_1 (σ : St) : Option (St) := some (sI (sI (sI (sI (sI (sI (scp (scp (scp (scp (scp (scp σ 2 16 (0 : Int32) (0 : Int32) (7 : Int32)) 3 17 (0 : Int32) (0 : Int32) (7 : Int32)) 4 18 (0 : Int32) (0 : Int32) (30 : Int32)) 5 19 (0 : Int32) (0 : Int32) (18 : Int32)) 6 20 (0 : Int32) (0 : Int32) (8 : Int32)) 7 21 (0 : Int32) (0 : Int32) (8 : Int32)) 1506 (σ.1 106)) 1507 (σ.1 107)) 1508 (σ.1 108)) 1509 (σ.1 109)) 1510 (σ.1 110)) 1511 (σ.1 111))
abbrev rm_X2_takeAll_15_1 : Room := { frames := 1, cells := 0, slots := 0, locals := 60 }
set_option maxHeartbeats 4000000 in
set_option maxRecDepth 100000 in
theorem c_X2_takeAll_15_1 (l : Launch) (D : va_G) (ca : Nat → ClassId) (ad : Nat → Nat) (σ : St)  (sz : Nat) (out : St) (hf : f_X2_takeAll_15_1 σ  = some out) : Met l yX2_takeAll (.code yX2_takeAll cX2_takeAll 2 none :: WL) rm_X2_takeAll_15_1 (PreC D ca (CW ca ad σ) sz [.ref (ad 15), .ref (ad 1)]) (PostV D (va_A (CW ca ad σ) sz) (CW ca ad out)) 0 0 (va_A (CW ca ad σ) sz) := by
  refine Met.ofW (cc := cX2_takeAll) (maxL := 2) (ret := none) (by decide) rfl ?_
  intro p e s m args below meth c s₁ B hml hv
  obtain ⟨rfl, hsz, hP, hK, hD, hN⟩ := hv
  subst hsz
  have C := Cx.mk (own := RX2) B hml rfl hK hN (ws := (CW ca ad σ))
  have w : Wd (va_A (CW ca ad σ) s.heap.size) s D (CW ca ad σ) s.heap [] := ⟨hP, hD.self, va_S.rf⟩
  have hl := lv_entry ([.ref (ad 15), .ref (ad 1)]) (n := 2) (Nat.le_of_ble_eq_true rfl)
  rw [lg_entry_eq]
  generalize (lg_sl ([.ref (ad 15), .ref (ad 1)]) ++ List.replicate (2 - (lg_sl ([.ref (ad 15), .ref (ad 1)])).length) Slot.unset).toArray = ls at hl ⊢
  have hl : lv_has ls 2 [(0, .ref (ad 15)), (1, .ref (ad 1))] := hl
  change W p l e rm_X2_takeAll_15_1 s m _ below meth c _ [] 0 0 _ _
  clear B hP hD hK hN hml
  generalize va_A (CW ca ad σ) s.heap.size = A at C w ⊢
  generalize ([.ref (ad 15), .ref (ad 1)] : List Value).toArray = av at C ⊢
  obtain ⟨Q, hQ⟩ : ∃ Q, Q = MQ below (PostV D A (CW ca ad out)) av s 0 0 A := ⟨_, rfl⟩
  rw [← hQ]
  have hx := C.1
  have hb := C.2.1
  have h := hf
  unfold f_X2_takeAll_15_1 at h
  refine lv_aload_n hx hb dX2_takeAll_0 rfl (lv_at hl 1 rfl) ?_
  refine gC1_0 C w wl_70 dX2_takeAll_1 ?_
  refine lv_iconst (v := 0) hx hb dX2_takeAll_4 (by decide) ?_
  refine lv_aload_n hx hb dX2_takeAll_5 rfl (lv_at hl 0 rfl) ?_
  refine gC15_0 C w wl_70 dX2_takeAll_6 ?_
  refine lv_iconst (v := 0) hx hb dX2_takeAll_9 (by decide) ?_
  refine lv_bipush (v := 7) hx hb dX2_takeAll_10 (by decide) ?_
  refine cp2_16 C w hl.1 (by decide) (by decide) (by decide) (by decide) (by decide) wl_337 (Nat.le_of_ble_eq_true rfl) (Nat.le_of_ble_eq_true rfl) dX2_takeAll_12 (fun H locs w => ?_)
  refine lv_aload_n hx hb dX2_takeAll_15 rfl (lv_at hl 1 rfl) ?_
  refine gC1_1 C w wl_71 dX2_takeAll_16 ?_
  refine lv_iconst (v := 0) hx hb dX2_takeAll_19 (by decide) ?_
  refine lv_aload_n hx hb dX2_takeAll_20 rfl (lv_at hl 0 rfl) ?_
  refine gC15_1 C w wl_71 dX2_takeAll_21 ?_
  refine lv_iconst (v := 0) hx hb dX2_takeAll_24 (by decide) ?_
  refine lv_bipush (v := 7) hx hb dX2_takeAll_25 (by decide) ?_
  refine cp3_17 C w hl.1 (by decide) (by decide) (by decide) (by decide) (by decide) wl_337 (Nat.le_of_ble_eq_true rfl) (Nat.le_of_ble_eq_true rfl) dX2_takeAll_27 (fun H locs w => ?_)
  refine lv_aload_n hx hb dX2_takeAll_30 rfl (lv_at hl 1 rfl) ?_
  refine gC1_2 C w wl_72 dX2_takeAll_31 ?_
  refine lv_iconst (v := 0) hx hb dX2_takeAll_34 (by decide) ?_
  refine lv_aload_n hx hb dX2_takeAll_35 rfl (lv_at hl 0 rfl) ?_
  refine gC15_2 C w wl_72 dX2_takeAll_36 ?_
  refine lv_iconst (v := 0) hx hb dX2_takeAll_39 (by decide) ?_
  refine lv_bipush (v := 30) hx hb dX2_takeAll_40 (by decide) ?_
  refine cp4_18 C w hl.1 (by decide) (by decide) (by decide) (by decide) (by decide) wl_337 (Nat.le_of_ble_eq_true rfl) (Nat.le_of_ble_eq_true rfl) dX2_takeAll_42 (fun H locs w => ?_)
  refine lv_aload_n hx hb dX2_takeAll_45 rfl (lv_at hl 1 rfl) ?_
  refine gC1_3 C w wl_73 dX2_takeAll_46 ?_
  refine lv_iconst (v := 0) hx hb dX2_takeAll_49 (by decide) ?_
  refine lv_aload_n hx hb dX2_takeAll_50 rfl (lv_at hl 0 rfl) ?_
  refine gC15_3 C w wl_73 dX2_takeAll_51 ?_
  refine lv_iconst (v := 0) hx hb dX2_takeAll_54 (by decide) ?_
  refine lv_bipush (v := 18) hx hb dX2_takeAll_55 (by decide) ?_
  refine cp5_19 C w hl.1 (by decide) (by decide) (by decide) (by decide) (by decide) wl_337 (Nat.le_of_ble_eq_true rfl) (Nat.le_of_ble_eq_true rfl) dX2_takeAll_57 (fun H locs w => ?_)
  refine lv_aload_n hx hb dX2_takeAll_60 rfl (lv_at hl 1 rfl) ?_
  refine gC1_4 C w wl_74 dX2_takeAll_61 ?_
  refine lv_iconst (v := 0) hx hb dX2_takeAll_64 (by decide) ?_
  refine lv_aload_n hx hb dX2_takeAll_65 rfl (lv_at hl 0 rfl) ?_
  refine gC15_4 C w wl_74 dX2_takeAll_66 ?_
  refine lv_iconst (v := 0) hx hb dX2_takeAll_69 (by decide) ?_
  refine lv_bipush (v := 8) hx hb dX2_takeAll_70 (by decide) ?_
  refine cp6_20 C w hl.1 (by decide) (by decide) (by decide) (by decide) (by decide) wl_337 (Nat.le_of_ble_eq_true rfl) (Nat.le_of_ble_eq_true rfl) dX2_takeAll_72 (fun H locs w => ?_)
  refine lv_aload_n hx hb dX2_takeAll_75 rfl (lv_at hl 1 rfl) ?_
  refine gC1_5 C w wl_75 dX2_takeAll_76 ?_
  refine lv_iconst (v := 0) hx hb dX2_takeAll_79 (by decide) ?_
  refine lv_aload_n hx hb dX2_takeAll_80 rfl (lv_at hl 0 rfl) ?_
  refine gC15_5 C w wl_75 dX2_takeAll_81 ?_
  refine lv_iconst (v := 0) hx hb dX2_takeAll_84 (by decide) ?_
  refine lv_bipush (v := 8) hx hb dX2_takeAll_85 (by decide) ?_
  refine cp7_21 C w hl.1 (by decide) (by decide) (by decide) (by decide) (by decide) wl_337 (Nat.le_of_ble_eq_true rfl) (Nat.le_of_ble_eq_true rfl) dX2_takeAll_87 (fun H locs w => ?_)
  refine lv_aload_n hx hb dX2_takeAll_90 rfl (lv_at hl 0 rfl) ?_
  refine lv_aload_n hx hb dX2_takeAll_91 rfl (lv_at hl 1 rfl) ?_
  refine gC1_6 (v := (σ.1 106)) C w rfl wl_126 dX2_takeAll_92 ?_
  refine pC15_6 C w wl_126 dX2_takeAll_95 (fun H locs w => ?_)
  refine lv_aload_n hx hb dX2_takeAll_98 rfl (lv_at hl 0 rfl) ?_
  refine lv_aload_n hx hb dX2_takeAll_99 rfl (lv_at hl 1 rfl) ?_
  refine gC1_7 (v := (σ.1 107)) C w rfl wl_127 dX2_takeAll_100 ?_
  refine pC15_7 C w wl_127 dX2_takeAll_103 (fun H locs w => ?_)
  refine lv_aload_n hx hb dX2_takeAll_106 rfl (lv_at hl 0 rfl) ?_
  refine lv_aload_n hx hb dX2_takeAll_107 rfl (lv_at hl 1 rfl) ?_
  refine gC1_8 (v := (σ.1 108)) C w rfl wl_128 dX2_takeAll_108 ?_
  refine pC15_8 C w wl_128 dX2_takeAll_111 (fun H locs w => ?_)
  refine lv_aload_n hx hb dX2_takeAll_114 rfl (lv_at hl 0 rfl) ?_
  refine lv_aload_n hx hb dX2_takeAll_115 rfl (lv_at hl 1 rfl) ?_
  refine gC1_9 (v := (σ.1 109)) C w rfl wl_129 dX2_takeAll_116 ?_
  refine pC15_9 C w wl_129 dX2_takeAll_119 (fun H locs w => ?_)
  refine lv_aload_n hx hb dX2_takeAll_122 rfl (lv_at hl 0 rfl) ?_
  refine lv_aload_n hx hb dX2_takeAll_123 rfl (lv_at hl 1 rfl) ?_
  refine gC1_10 (v := (σ.1 110)) C w rfl wl_130 dX2_takeAll_124 ?_
  refine pC15_10 C w wl_130 dX2_takeAll_127 (fun H locs w => ?_)
  refine lv_aload_n hx hb dX2_takeAll_130 rfl (lv_at hl 0 rfl) ?_
  refine lv_aload_n hx hb dX2_takeAll_131 rfl (lv_at hl 1 rfl) ?_
  refine gC1_11 (v := (σ.1 111)) C w rfl wl_131 dX2_takeAll_132 ?_
  refine pC15_11 C w wl_131 dX2_takeAll_135 (fun H locs w => ?_)
  rw [hQ]
  exact rV (F := CW ca ad) C w h dX2_takeAll_138
def f_X2_takeAll_22_1 (σ : St) : Option (St) := some (sI (sI (sI (sI (sI (sI (scp (scp (scp (scp (scp (scp σ 2 23 (0 : Int32) (0 : Int32) (7 : Int32)) 3 24 (0 : Int32) (0 : Int32) (7 : Int32)) 4 25 (0 : Int32) (0 : Int32) (30 : Int32)) 5 26 (0 : Int32) (0 : Int32) (18 : Int32)) 6 27 (0 : Int32) (0 : Int32) (8 : Int32)) 7 28 (0 : Int32) (0 : Int32) (8 : Int32)) 2206 (σ.1 106)) 2207 (σ.1 107)) 2208 (σ.1 108)) 2209 (σ.1 109)) 2210 (σ.1 110)) 2211 (σ.1 111))
abbrev rm_X2_takeAll_22_1 : Room := { frames := 1, cells := 0, slots := 0, locals := 60 }
set_option maxHeartbeats 4000000 in
set_option maxRecDepth 100000 in
theorem c_X2_takeAll_22_1 (l : Launch) (D : va_G) (ca : Nat → ClassId) (ad : Nat → Nat) (σ : St)  (sz : Nat) (out : St) (hf : f_X2_takeAll_22_1 σ  = some out) : Met l yX2_takeAll (.code yX2_takeAll cX2_takeAll 2 none :: WL) rm_X2_takeAll_22_1 (PreC D ca (CW ca ad σ) sz [.ref (ad 22), .ref (ad 1)]) (PostV D (va_A (CW ca ad σ) sz) (CW ca ad out)) 0 0 (va_A (CW ca ad σ) sz) := by
  refine Met.ofW (cc := cX2_takeAll) (maxL := 2) (ret := none) (by decide) rfl ?_
  intro p e s m args below meth c s₁ B hml hv
  obtain ⟨rfl, hsz, hP, hK, hD, hN⟩ := hv
  subst hsz
  have C := Cx.mk (own := RX2) B hml rfl hK hN (ws := (CW ca ad σ))
  have w : Wd (va_A (CW ca ad σ) s.heap.size) s D (CW ca ad σ) s.heap [] := ⟨hP, hD.self, va_S.rf⟩
  have hl := lv_entry ([.ref (ad 22), .ref (ad 1)]) (n := 2) (Nat.le_of_ble_eq_true rfl)
  rw [lg_entry_eq]
  generalize (lg_sl ([.ref (ad 22), .ref (ad 1)]) ++ List.replicate (2 - (lg_sl ([.ref (ad 22), .ref (ad 1)])).length) Slot.unset).toArray = ls at hl ⊢
  have hl : lv_has ls 2 [(0, .ref (ad 22)), (1, .ref (ad 1))] := hl
  change W p l e rm_X2_takeAll_22_1 s m _ below meth c _ [] 0 0 _ _
  clear B hP hD hK hN hml
  generalize va_A (CW ca ad σ) s.heap.size = A at C w ⊢
  generalize ([.ref (ad 22), .ref (ad 1)] : List Value).toArray = av at C ⊢
  obtain ⟨Q, hQ⟩ : ∃ Q, Q = MQ below (PostV D A (CW ca ad out)) av s 0 0 A := ⟨_, rfl⟩
  rw [← hQ]
  have hx := C.1
  have hb := C.2.1
  have h := hf
  unfold f_X2_takeAll_22_1 at h
  refine lv_aload_n hx hb dX2_takeAll_0 rfl (lv_at hl 1 rfl) ?_
  refine gC1_0 C w wl_70 dX2_takeAll_1 ?_
  refine lv_iconst (v := 0) hx hb dX2_takeAll_4 (by decide) ?_
  refine lv_aload_n hx hb dX2_takeAll_5 rfl (lv_at hl 0 rfl) ?_
  refine gC22_0 C w wl_70 dX2_takeAll_6 ?_
  refine lv_iconst (v := 0) hx hb dX2_takeAll_9 (by decide) ?_
  refine lv_bipush (v := 7) hx hb dX2_takeAll_10 (by decide) ?_
  refine cp2_23 C w hl.1 (by decide) (by decide) (by decide) (by decide) (by decide) wl_337 (Nat.le_of_ble_eq_true rfl) (Nat.le_of_ble_eq_true rfl) dX2_takeAll_12 (fun H locs w => ?_)
  refine lv_aload_n hx hb dX2_takeAll_15 rfl (lv_at hl 1 rfl) ?_
  refine gC1_1 C w wl_71 dX2_takeAll_16 ?_
  refine lv_iconst (v := 0) hx hb dX2_takeAll_19 (by decide) ?_
  refine lv_aload_n hx hb dX2_takeAll_20 rfl (lv_at hl 0 rfl) ?_
  refine gC22_1 C w wl_71 dX2_takeAll_21 ?_
  refine lv_iconst (v := 0) hx hb dX2_takeAll_24 (by decide) ?_
  refine lv_bipush (v := 7) hx hb dX2_takeAll_25 (by decide) ?_
  refine cp3_24 C w hl.1 (by decide) (by decide) (by decide) (by decide) (by decide) wl_337 (Nat.le_of_ble_eq_true rfl) (Nat.le_of_ble_eq_true rfl) dX2_takeAll_27 (fun H locs w => ?_)
  refine lv_aload_n hx hb dX2_takeAll_30 rfl (lv_at hl 1 rfl) ?_
  refine gC1_2 C w wl_72 dX2_takeAll_31 ?_
  refine lv_iconst (v := 0) hx hb dX2_takeAll_34 (by decide) ?_
  refine lv_aload_n hx hb dX2_takeAll_35 rfl (lv_at hl 0 rfl) ?_
  refine gC22_2 C w wl_72 dX2_takeAll_36 ?_
  refine lv_iconst (v := 0) hx hb dX2_takeAll_39 (by decide) ?_
  refine lv_bipush (v := 30) hx hb dX2_takeAll_40 (by decide) ?_
  refine cp4_25 C w hl.1 (by decide) (by decide) (by decide) (by decide) (by decide) wl_337 (Nat.le_of_ble_eq_true rfl) (Nat.le_of_ble_eq_true rfl) dX2_takeAll_42 (fun H locs w => ?_)
  refine lv_aload_n hx hb dX2_takeAll_45 rfl (lv_at hl 1 rfl) ?_
  refine gC1_3 C w wl_73 dX2_takeAll_46 ?_
  refine lv_iconst (v := 0) hx hb dX2_takeAll_49 (by decide) ?_
  refine lv_aload_n hx hb dX2_takeAll_50 rfl (lv_at hl 0 rfl) ?_
  refine gC22_3 C w wl_73 dX2_takeAll_51 ?_
  refine lv_iconst (v := 0) hx hb dX2_takeAll_54 (by decide) ?_
  refine lv_bipush (v := 18) hx hb dX2_takeAll_55 (by decide) ?_
  refine cp5_26 C w hl.1 (by decide) (by decide) (by decide) (by decide) (by decide) wl_337 (Nat.le_of_ble_eq_true rfl) (Nat.le_of_ble_eq_true rfl) dX2_takeAll_57 (fun H locs w => ?_)
  refine lv_aload_n hx hb dX2_takeAll_60 rfl (lv_at hl 1 rfl) ?_
  refine gC1_4 C w wl_74 dX2_takeAll_61 ?_
  refine lv_iconst (v := 0) hx hb dX2_takeAll_64 (by decide) ?_
  refine lv_aload_n hx hb dX2_takeAll_65 rfl (lv_at hl 0 rfl) ?_
  refine gC22_4 C w wl_74 dX2_takeAll_66 ?_
  refine lv_iconst (v := 0) hx hb dX2_takeAll_69 (by decide) ?_
  refine lv_bipush (v := 8) hx hb dX2_takeAll_70 (by decide) ?_
  refine cp6_27 C w hl.1 (by decide) (by decide) (by decide) (by decide) (by decide) wl_337 (Nat.le_of_ble_eq_true rfl) (Nat.le_of_ble_eq_true rfl) dX2_takeAll_72 (fun H locs w => ?_)
  refine lv_aload_n hx hb dX2_takeAll_75 rfl (lv_at hl 1 rfl) ?_
  refine gC1_5 C w wl_75 dX2_takeAll_76 ?_
  refine lv_iconst (v := 0) hx hb dX2_takeAll_79 (by decide) ?_
  refine lv_aload_n hx hb dX2_takeAll_80 rfl (lv_at hl 0 rfl) ?_
  refine gC22_5 C w wl_75 dX2_takeAll_81 ?_
  refine lv_iconst (v := 0) hx hb dX2_takeAll_84 (by decide) ?_
  refine lv_bipush (v := 8) hx hb dX2_takeAll_85 (by decide) ?_
  refine cp7_28 C w hl.1 (by decide) (by decide) (by decide) (by decide) (by decide) wl_337 (Nat.le_of_ble_eq_true rfl) (Nat.le_of_ble_eq_true rfl) dX2_takeAll_87 (fun H locs w => ?_)
  refine lv_aload_n hx hb dX2_takeAll_90 rfl (lv_at hl 0 rfl) ?_
  refine lv_aload_n hx hb dX2_takeAll_91 rfl (lv_at hl 1 rfl) ?_
  refine gC1_6 (v := (σ.1 106)) C w rfl wl_126 dX2_takeAll_92 ?_
  refine pC22_6 C w wl_126 dX2_takeAll_95 (fun H locs w => ?_)
  refine lv_aload_n hx hb dX2_takeAll_98 rfl (lv_at hl 0 rfl) ?_
  refine lv_aload_n hx hb dX2_takeAll_99 rfl (lv_at hl 1 rfl) ?_
  refine gC1_7 (v := (σ.1 107)) C w rfl wl_127 dX2_takeAll_100 ?_
  refine pC22_7 C w wl_127 dX2_takeAll_103 (fun H locs w => ?_)
  refine lv_aload_n hx hb dX2_takeAll_106 rfl (lv_at hl 0 rfl) ?_
  refine lv_aload_n hx hb dX2_takeAll_107 rfl (lv_at hl 1 rfl) ?_
  refine gC1_8 (v := (σ.1 108)) C w rfl wl_128 dX2_takeAll_108 ?_
  refine pC22_8 C w wl_128 dX2_takeAll_111 (fun H locs w => ?_)
  refine lv_aload_n hx hb dX2_takeAll_114 rfl (lv_at hl 0 rfl) ?_
  refine lv_aload_n hx hb dX2_takeAll_115 rfl (lv_at hl 1 rfl) ?_
  refine gC1_9 (v := (σ.1 109)) C w rfl wl_129 dX2_takeAll_116 ?_
  refine pC22_9 C w wl_129 dX2_takeAll_119 (fun H locs w => ?_)
  refine lv_aload_n hx hb dX2_takeAll_122 rfl (lv_at hl 0 rfl) ?_
  refine lv_aload_n hx hb dX2_takeAll_123 rfl (lv_at hl 1 rfl) ?_
  refine gC1_10 (v := (σ.1 110)) C w rfl wl_130 dX2_takeAll_124 ?_
  refine pC22_10 C w wl_130 dX2_takeAll_127 (fun H locs w => ?_)
  refine lv_aload_n hx hb dX2_takeAll_130 rfl (lv_at hl 0 rfl) ?_
  refine lv_aload_n hx hb dX2_takeAll_131 rfl (lv_at hl 1 rfl) ?_
  refine gC1_11 (v := (σ.1 111)) C w rfl wl_131 dX2_takeAll_132 ?_
  refine pC22_11 C w wl_131 dX2_takeAll_135 (fun H locs w => ?_)
  rw [hQ]
  exact rV (F := CW ca ad) C w h dX2_takeAll_138
theorem hd_X10_image : yX10_image.cls = RX10 ∧ yX10_image.cls ≠ "java/lang/invoke/MethodHandle" ∧ yX10_image.cls ≠ "java/lang/invoke/VarHandle" ∧ (parseMethodDescriptor yX10_image.desc).map (fun d => d.parameters.length) = some 1 := by decide +kernel
def f_X10_image (σ : St) (x1 : Int32) : Option (Int32 × St) := (f_X10_within x1 (0 : Int32) (1 : Int32)).bind fun q1 => if q1 = 0 then ((f_X10_refuseAsBad σ).bind fun q4 => some (q4.1, q4.2)) else (cond (ckI x1 2) (if x1 = 0 then ((f_X2_takeAll_15_1 σ).bind fun q2 => cond (ckI x1 2) (some ((1 : Int32), (sE q2 37 x1.toNatClampNeg (vp_nar .boolean (1 : Int32))))) none) else if x1 = 1 then ((f_X2_takeAll_22_1 σ).bind fun q3 => cond (ckI x1 2) (some ((1 : Int32), (sE q3 37 x1.toNatClampNeg (vp_nar .boolean (1 : Int32))))) none) else none) none)
abbrev rm_X10_image : Room := { frames := 2, cells := 0, slots := 0, locals := 120 }
set_option maxHeartbeats 4000000 in
set_option maxRecDepth 100000 in
theorem c_X10_image (l : Launch) (D : va_G) (ca : Nat → ClassId) (ad : Nat → Nat) (σ : St) (x1 : Int32) (sz : Nat) (out : Int32 × St) (hf : f_X10_image σ x1 = some out) : Met l yX10_image (.code yX10_image cX10_image 2 (some .int) :: WL) rm_X10_image (PreC D ca (CW ca ad σ) sz [.ref (ad 0), .int x1]) (PostI D (va_A (CW ca ad σ) sz) (CW ca ad out.2) out.1) 0 0 (va_A (CW ca ad σ) sz) := by
  refine Met.ofW (cc := cX10_image) (maxL := 2) (ret := (some .int)) (by decide) rfl ?_
  intro p e s m args below meth c s₁ B hml hv
  obtain ⟨rfl, hsz, hP, hK, hD, hN⟩ := hv
  subst hsz
  have C := Cx.mk (own := RX10) B hml rfl hK hN (ws := (CW ca ad σ))
  have w : Wd (va_A (CW ca ad σ) s.heap.size) s D (CW ca ad σ) s.heap [] := ⟨hP, hD.self, va_S.rf⟩
  have hl := lv_entry ([.ref (ad 0), .int x1]) (n := 2) (Nat.le_of_ble_eq_true rfl)
  rw [lg_entry_eq]
  generalize (lg_sl ([.ref (ad 0), .int x1]) ++ List.replicate (2 - (lg_sl ([.ref (ad 0), .int x1])).length) Slot.unset).toArray = ls at hl ⊢
  have hl : lv_has ls 2 [(0, .ref (ad 0)), (1, .int x1)] := hl
  change W p l e rm_X10_image s m _ below meth c _ [] 0 0 _ _
  clear B hP hD hK hN hml
  generalize va_A (CW ca ad σ) s.heap.size = A at C w ⊢
  generalize ([.ref (ad 0), .int x1] : List Value).toArray = av at C ⊢
  obtain ⟨Q, hQ⟩ : ∃ Q, Q = MQ below (PostI D A (CW ca ad out.2) out.1) av s 0 0 A := ⟨_, rfl⟩
  rw [← hQ]
  have hx := C.1
  have hb := C.2.1
  have h := hf
  unfold f_X10_image at h
  refine lv_iload_n hx hb dX10_image_0 rfl (lv_at hl 1 rfl) ?_
  refine lv_iconst (v := 0) hx hb dX10_image_1 (by decide) ?_
  refine lv_iconst (v := 1) hx hb dX10_image_2 (by decide) ?_
  obtain ⟨q1, hq1, h⟩ := ob_t h
  refine res_i C w (run_S (As := [.int x1, .int (0 : Int32), .int (1 : Int32)]) (rest := []) C w hl.1 (c_X10_within l D ca _ x1 (0 : Int32) (1 : Int32) _ q1 hq1) rfl rfl wl_114 wl_115 wl_2 wl_116 hd_X10_within rfl ⟨Nat.le_of_ble_eq_true rfl, Nat.le_of_ble_eq_true rfl⟩ rfl (Nat.le_of_ble_eq_true rfl) dX10_image_3) (fun H locs w => ?_)
  refine lv_if_ne (tgt := 14) hx hb dX10_image_6 (by decide) (fun c1 => ?_) (fun c1 => ?_)
  · have h := it_f h c1
    refine lv_aload_n hx hb dX10_image_14 rfl (lv_at hl 0 rfl) ?_
    refine gC0_3 C w wl_36 dX10_image_15 ?_
    refine lv_iload_n hx hb dX10_image_18 rfl (lv_at hl 1 rfl) ?_
    obtain ⟨i2, h⟩ := ck_t h
    refine ldC29 C w i2 dX10_image_19 ?_
    by_cases c3 : x1 = 0
    · have h := it_t h c3
      refine ref_eq (a' := ad 15) (by rw [c3]; rfl) ?_
      refine lv_aload_n hx hb dX10_image_20 rfl (lv_at hl 0 rfl) ?_
      refine gC0_1 C w wl_34 dX10_image_21 ?_
      obtain ⟨q2, hq2, h⟩ := ob_t h
      refine res_v C w (run_V (As := [.ref (ad 1)]) (rest := []) C w hl.1 (recvC15 C w) (c_X2_takeAll_15_1 l D ca ad _  _ q2 hq2) rfl rfl wl_333 wl_334 wl_335 wl_33 wl_336 hd_X2_takeAll rfl ⟨Nat.le_of_ble_eq_true rfl, Nat.le_of_ble_eq_true rfl⟩ rfl (Nat.le_of_ble_eq_true rfl) dX10_image_24) (fun H locs w => ?_)
      refine lv_aload_n hx hb dX10_image_27 rfl (lv_at hl 0 rfl) ?_
      refine gC0_4 C w wl_38 dX10_image_28 ?_
      refine lv_iload_n hx hb dX10_image_31 rfl (lv_at hl 1 rfl) ?_
      refine lv_iconst (v := 1) hx hb dX10_image_32 (by decide) ?_
      obtain ⟨i4, h⟩ := ck_t h
      refine stC37 (j := x1.toNatClampNeg) C w i4 rfl dX10_image_33 (fun H locs w => ?_)
      refine lv_iconst (v := 1) hx hb dX10_image_34 (by decide) ?_
      rw [hQ]
      exact rI (F := CW ca ad) C w h dX10_image_35
    have h := it_f h c3
    by_cases c31 : x1 = 1
    · have h := it_t h c31
      refine ref_eq (a' := ad 22) (by rw [c31]; rfl) ?_
      refine lv_aload_n hx hb dX10_image_20 rfl (lv_at hl 0 rfl) ?_
      refine gC0_1 C w wl_34 dX10_image_21 ?_
      obtain ⟨q3, hq3, h⟩ := ob_t h
      refine res_v C w (run_V (As := [.ref (ad 1)]) (rest := []) C w hl.1 (recvC22 C w) (c_X2_takeAll_22_1 l D ca ad _  _ q3 hq3) rfl rfl wl_333 wl_334 wl_335 wl_33 wl_336 hd_X2_takeAll rfl ⟨Nat.le_of_ble_eq_true rfl, Nat.le_of_ble_eq_true rfl⟩ rfl (Nat.le_of_ble_eq_true rfl) dX10_image_24) (fun H locs w => ?_)
      refine lv_aload_n hx hb dX10_image_27 rfl (lv_at hl 0 rfl) ?_
      refine gC0_4 C w wl_38 dX10_image_28 ?_
      refine lv_iload_n hx hb dX10_image_31 rfl (lv_at hl 1 rfl) ?_
      refine lv_iconst (v := 1) hx hb dX10_image_32 (by decide) ?_
      obtain ⟨i5, h⟩ := ck_t h
      refine stC37 (j := x1.toNatClampNeg) C w i5 rfl dX10_image_33 (fun H locs w => ?_)
      refine lv_iconst (v := 1) hx hb dX10_image_34 (by decide) ?_
      rw [hQ]
      exact rI (F := CW ca ad) C w h dX10_image_35
    exact absurd (it_f h c31) (by simp)
  · have h := it_t h c1
    refine lv_aload_n hx hb dX10_image_9 rfl (lv_at hl 0 rfl) ?_
    obtain ⟨q4, hq4, h⟩ := ob_t h
    refine res_i C w (run_V (As := []) (rest := []) C w hl.1 (recvC0 C w) (c_X10_refuseAsBad l D ca ad _  _ q4 hq4) rfl rfl wl_117 wl_118 wl_119 wl_2 wl_120 hd_X10_refuseAsBad rfl ⟨Nat.le_of_ble_eq_true rfl, Nat.le_of_ble_eq_true rfl⟩ rfl (Nat.le_of_ble_eq_true rfl) dX10_image_10) (fun H locs w => ?_)
    rw [hQ]
    exact rI (F := CW ca ad) C w h dX10_image_13
def f_X2_takeAll_1_15 (σ : St) : Option (St) := some (sI (sI (sI (sI (sI (sI (scp (scp (scp (scp (scp (scp σ 16 2 (0 : Int32) (0 : Int32) (7 : Int32)) 17 3 (0 : Int32) (0 : Int32) (7 : Int32)) 18 4 (0 : Int32) (0 : Int32) (30 : Int32)) 19 5 (0 : Int32) (0 : Int32) (18 : Int32)) 20 6 (0 : Int32) (0 : Int32) (8 : Int32)) 21 7 (0 : Int32) (0 : Int32) (8 : Int32)) 106 (σ.1 1506)) 107 (σ.1 1507)) 108 (σ.1 1508)) 109 (σ.1 1509)) 110 (σ.1 1510)) 111 (σ.1 1511))
abbrev rm_X2_takeAll_1_15 : Room := { frames := 1, cells := 0, slots := 0, locals := 60 }
set_option maxHeartbeats 4000000 in
set_option maxRecDepth 100000 in
theorem c_X2_takeAll_1_15 (l : Launch) (D : va_G) (ca : Nat → ClassId) (ad : Nat → Nat) (σ : St)  (sz : Nat) (out : St) (hf : f_X2_takeAll_1_15 σ  = some out) : Met l yX2_takeAll (.code yX2_takeAll cX2_takeAll 2 none :: WL) rm_X2_takeAll_1_15 (PreC D ca (CW ca ad σ) sz [.ref (ad 1), .ref (ad 15)]) (PostV D (va_A (CW ca ad σ) sz) (CW ca ad out)) 0 0 (va_A (CW ca ad σ) sz) := by
  refine Met.ofW (cc := cX2_takeAll) (maxL := 2) (ret := none) (by decide) rfl ?_
  intro p e s m args below meth c s₁ B hml hv
  obtain ⟨rfl, hsz, hP, hK, hD, hN⟩ := hv
  subst hsz
  have C := Cx.mk (own := RX2) B hml rfl hK hN (ws := (CW ca ad σ))
  have w : Wd (va_A (CW ca ad σ) s.heap.size) s D (CW ca ad σ) s.heap [] := ⟨hP, hD.self, va_S.rf⟩
  have hl := lv_entry ([.ref (ad 1), .ref (ad 15)]) (n := 2) (Nat.le_of_ble_eq_true rfl)
  rw [lg_entry_eq]
  generalize (lg_sl ([.ref (ad 1), .ref (ad 15)]) ++ List.replicate (2 - (lg_sl ([.ref (ad 1), .ref (ad 15)])).length) Slot.unset).toArray = ls at hl ⊢
  have hl : lv_has ls 2 [(0, .ref (ad 1)), (1, .ref (ad 15))] := hl
  change W p l e rm_X2_takeAll_1_15 s m _ below meth c _ [] 0 0 _ _
  clear B hP hD hK hN hml
  generalize va_A (CW ca ad σ) s.heap.size = A at C w ⊢
  generalize ([.ref (ad 1), .ref (ad 15)] : List Value).toArray = av at C ⊢
  obtain ⟨Q, hQ⟩ : ∃ Q, Q = MQ below (PostV D A (CW ca ad out)) av s 0 0 A := ⟨_, rfl⟩
  rw [← hQ]
  have hx := C.1
  have hb := C.2.1
  have h := hf
  unfold f_X2_takeAll_1_15 at h
  refine lv_aload_n hx hb dX2_takeAll_0 rfl (lv_at hl 1 rfl) ?_
  refine gC15_0 C w wl_70 dX2_takeAll_1 ?_
  refine lv_iconst (v := 0) hx hb dX2_takeAll_4 (by decide) ?_
  refine lv_aload_n hx hb dX2_takeAll_5 rfl (lv_at hl 0 rfl) ?_
  refine gC1_0 C w wl_70 dX2_takeAll_6 ?_
  refine lv_iconst (v := 0) hx hb dX2_takeAll_9 (by decide) ?_
  refine lv_bipush (v := 7) hx hb dX2_takeAll_10 (by decide) ?_
  refine cp16_2 C w hl.1 (by decide) (by decide) (by decide) (by decide) (by decide) wl_337 (Nat.le_of_ble_eq_true rfl) (Nat.le_of_ble_eq_true rfl) dX2_takeAll_12 (fun H locs w => ?_)
  refine lv_aload_n hx hb dX2_takeAll_15 rfl (lv_at hl 1 rfl) ?_
  refine gC15_1 C w wl_71 dX2_takeAll_16 ?_
  refine lv_iconst (v := 0) hx hb dX2_takeAll_19 (by decide) ?_
  refine lv_aload_n hx hb dX2_takeAll_20 rfl (lv_at hl 0 rfl) ?_
  refine gC1_1 C w wl_71 dX2_takeAll_21 ?_
  refine lv_iconst (v := 0) hx hb dX2_takeAll_24 (by decide) ?_
  refine lv_bipush (v := 7) hx hb dX2_takeAll_25 (by decide) ?_
  refine cp17_3 C w hl.1 (by decide) (by decide) (by decide) (by decide) (by decide) wl_337 (Nat.le_of_ble_eq_true rfl) (Nat.le_of_ble_eq_true rfl) dX2_takeAll_27 (fun H locs w => ?_)
  refine lv_aload_n hx hb dX2_takeAll_30 rfl (lv_at hl 1 rfl) ?_
  refine gC15_2 C w wl_72 dX2_takeAll_31 ?_
  refine lv_iconst (v := 0) hx hb dX2_takeAll_34 (by decide) ?_
  refine lv_aload_n hx hb dX2_takeAll_35 rfl (lv_at hl 0 rfl) ?_
  refine gC1_2 C w wl_72 dX2_takeAll_36 ?_
  refine lv_iconst (v := 0) hx hb dX2_takeAll_39 (by decide) ?_
  refine lv_bipush (v := 30) hx hb dX2_takeAll_40 (by decide) ?_
  refine cp18_4 C w hl.1 (by decide) (by decide) (by decide) (by decide) (by decide) wl_337 (Nat.le_of_ble_eq_true rfl) (Nat.le_of_ble_eq_true rfl) dX2_takeAll_42 (fun H locs w => ?_)
  refine lv_aload_n hx hb dX2_takeAll_45 rfl (lv_at hl 1 rfl) ?_
  refine gC15_3 C w wl_73 dX2_takeAll_46 ?_
  refine lv_iconst (v := 0) hx hb dX2_takeAll_49 (by decide) ?_
  refine lv_aload_n hx hb dX2_takeAll_50 rfl (lv_at hl 0 rfl) ?_
  refine gC1_3 C w wl_73 dX2_takeAll_51 ?_
  refine lv_iconst (v := 0) hx hb dX2_takeAll_54 (by decide) ?_
  refine lv_bipush (v := 18) hx hb dX2_takeAll_55 (by decide) ?_
  refine cp19_5 C w hl.1 (by decide) (by decide) (by decide) (by decide) (by decide) wl_337 (Nat.le_of_ble_eq_true rfl) (Nat.le_of_ble_eq_true rfl) dX2_takeAll_57 (fun H locs w => ?_)
  refine lv_aload_n hx hb dX2_takeAll_60 rfl (lv_at hl 1 rfl) ?_
  refine gC15_4 C w wl_74 dX2_takeAll_61 ?_
  refine lv_iconst (v := 0) hx hb dX2_takeAll_64 (by decide) ?_
  refine lv_aload_n hx hb dX2_takeAll_65 rfl (lv_at hl 0 rfl) ?_
  refine gC1_4 C w wl_74 dX2_takeAll_66 ?_
  refine lv_iconst (v := 0) hx hb dX2_takeAll_69 (by decide) ?_
  refine lv_bipush (v := 8) hx hb dX2_takeAll_70 (by decide) ?_
  refine cp20_6 C w hl.1 (by decide) (by decide) (by decide) (by decide) (by decide) wl_337 (Nat.le_of_ble_eq_true rfl) (Nat.le_of_ble_eq_true rfl) dX2_takeAll_72 (fun H locs w => ?_)
  refine lv_aload_n hx hb dX2_takeAll_75 rfl (lv_at hl 1 rfl) ?_
  refine gC15_5 C w wl_75 dX2_takeAll_76 ?_
  refine lv_iconst (v := 0) hx hb dX2_takeAll_79 (by decide) ?_
  refine lv_aload_n hx hb dX2_takeAll_80 rfl (lv_at hl 0 rfl) ?_
  refine gC1_5 C w wl_75 dX2_takeAll_81 ?_
  refine lv_iconst (v := 0) hx hb dX2_takeAll_84 (by decide) ?_
  refine lv_bipush (v := 8) hx hb dX2_takeAll_85 (by decide) ?_
  refine cp21_7 C w hl.1 (by decide) (by decide) (by decide) (by decide) (by decide) wl_337 (Nat.le_of_ble_eq_true rfl) (Nat.le_of_ble_eq_true rfl) dX2_takeAll_87 (fun H locs w => ?_)
  refine lv_aload_n hx hb dX2_takeAll_90 rfl (lv_at hl 0 rfl) ?_
  refine lv_aload_n hx hb dX2_takeAll_91 rfl (lv_at hl 1 rfl) ?_
  refine gC15_6 (v := (σ.1 1506)) C w rfl wl_126 dX2_takeAll_92 ?_
  refine pC1_6 C w wl_126 dX2_takeAll_95 (fun H locs w => ?_)
  refine lv_aload_n hx hb dX2_takeAll_98 rfl (lv_at hl 0 rfl) ?_
  refine lv_aload_n hx hb dX2_takeAll_99 rfl (lv_at hl 1 rfl) ?_
  refine gC15_7 (v := (σ.1 1507)) C w rfl wl_127 dX2_takeAll_100 ?_
  refine pC1_7 C w wl_127 dX2_takeAll_103 (fun H locs w => ?_)
  refine lv_aload_n hx hb dX2_takeAll_106 rfl (lv_at hl 0 rfl) ?_
  refine lv_aload_n hx hb dX2_takeAll_107 rfl (lv_at hl 1 rfl) ?_
  refine gC15_8 (v := (σ.1 1508)) C w rfl wl_128 dX2_takeAll_108 ?_
  refine pC1_8 C w wl_128 dX2_takeAll_111 (fun H locs w => ?_)
  refine lv_aload_n hx hb dX2_takeAll_114 rfl (lv_at hl 0 rfl) ?_
  refine lv_aload_n hx hb dX2_takeAll_115 rfl (lv_at hl 1 rfl) ?_
  refine gC15_9 (v := (σ.1 1509)) C w rfl wl_129 dX2_takeAll_116 ?_
  refine pC1_9 C w wl_129 dX2_takeAll_119 (fun H locs w => ?_)
  refine lv_aload_n hx hb dX2_takeAll_122 rfl (lv_at hl 0 rfl) ?_
  refine lv_aload_n hx hb dX2_takeAll_123 rfl (lv_at hl 1 rfl) ?_
  refine gC15_10 (v := (σ.1 1510)) C w rfl wl_130 dX2_takeAll_124 ?_
  refine pC1_10 C w wl_130 dX2_takeAll_127 (fun H locs w => ?_)
  refine lv_aload_n hx hb dX2_takeAll_130 rfl (lv_at hl 0 rfl) ?_
  refine lv_aload_n hx hb dX2_takeAll_131 rfl (lv_at hl 1 rfl) ?_
  refine gC15_11 (v := (σ.1 1511)) C w rfl wl_131 dX2_takeAll_132 ?_
  refine pC1_11 C w wl_131 dX2_takeAll_135 (fun H locs w => ?_)
  rw [hQ]
  exact rV (F := CW ca ad) C w h dX2_takeAll_138
def f_X2_takeAll_1_22 (σ : St) : Option (St) := some (sI (sI (sI (sI (sI (sI (scp (scp (scp (scp (scp (scp σ 23 2 (0 : Int32) (0 : Int32) (7 : Int32)) 24 3 (0 : Int32) (0 : Int32) (7 : Int32)) 25 4 (0 : Int32) (0 : Int32) (30 : Int32)) 26 5 (0 : Int32) (0 : Int32) (18 : Int32)) 27 6 (0 : Int32) (0 : Int32) (8 : Int32)) 28 7 (0 : Int32) (0 : Int32) (8 : Int32)) 106 (σ.1 2206)) 107 (σ.1 2207)) 108 (σ.1 2208)) 109 (σ.1 2209)) 110 (σ.1 2210)) 111 (σ.1 2211))
abbrev rm_X2_takeAll_1_22 : Room := { frames := 1, cells := 0, slots := 0, locals := 60 }
set_option maxHeartbeats 4000000 in
set_option maxRecDepth 100000 in
theorem c_X2_takeAll_1_22 (l : Launch) (D : va_G) (ca : Nat → ClassId) (ad : Nat → Nat) (σ : St)  (sz : Nat) (out : St) (hf : f_X2_takeAll_1_22 σ  = some out) : Met l yX2_takeAll (.code yX2_takeAll cX2_takeAll 2 none :: WL) rm_X2_takeAll_1_22 (PreC D ca (CW ca ad σ) sz [.ref (ad 1), .ref (ad 22)]) (PostV D (va_A (CW ca ad σ) sz) (CW ca ad out)) 0 0 (va_A (CW ca ad σ) sz) := by
  refine Met.ofW (cc := cX2_takeAll) (maxL := 2) (ret := none) (by decide) rfl ?_
  intro p e s m args below meth c s₁ B hml hv
  obtain ⟨rfl, hsz, hP, hK, hD, hN⟩ := hv
  subst hsz
  have C := Cx.mk (own := RX2) B hml rfl hK hN (ws := (CW ca ad σ))
  have w : Wd (va_A (CW ca ad σ) s.heap.size) s D (CW ca ad σ) s.heap [] := ⟨hP, hD.self, va_S.rf⟩
  have hl := lv_entry ([.ref (ad 1), .ref (ad 22)]) (n := 2) (Nat.le_of_ble_eq_true rfl)
  rw [lg_entry_eq]
  generalize (lg_sl ([.ref (ad 1), .ref (ad 22)]) ++ List.replicate (2 - (lg_sl ([.ref (ad 1), .ref (ad 22)])).length) Slot.unset).toArray = ls at hl ⊢
  have hl : lv_has ls 2 [(0, .ref (ad 1)), (1, .ref (ad 22))] := hl
  change W p l e rm_X2_takeAll_1_22 s m _ below meth c _ [] 0 0 _ _
  clear B hP hD hK hN hml
  generalize va_A (CW ca ad σ) s.heap.size = A at C w ⊢
  generalize ([.ref (ad 1), .ref (ad 22)] : List Value).toArray = av at C ⊢
  obtain ⟨Q, hQ⟩ : ∃ Q, Q = MQ below (PostV D A (CW ca ad out)) av s 0 0 A := ⟨_, rfl⟩
  rw [← hQ]
  have hx := C.1
  have hb := C.2.1
  have h := hf
  unfold f_X2_takeAll_1_22 at h
  refine lv_aload_n hx hb dX2_takeAll_0 rfl (lv_at hl 1 rfl) ?_
  refine gC22_0 C w wl_70 dX2_takeAll_1 ?_
  refine lv_iconst (v := 0) hx hb dX2_takeAll_4 (by decide) ?_
  refine lv_aload_n hx hb dX2_takeAll_5 rfl (lv_at hl 0 rfl) ?_
  refine gC1_0 C w wl_70 dX2_takeAll_6 ?_
  refine lv_iconst (v := 0) hx hb dX2_takeAll_9 (by decide) ?_
  refine lv_bipush (v := 7) hx hb dX2_takeAll_10 (by decide) ?_
  refine cp23_2 C w hl.1 (by decide) (by decide) (by decide) (by decide) (by decide) wl_337 (Nat.le_of_ble_eq_true rfl) (Nat.le_of_ble_eq_true rfl) dX2_takeAll_12 (fun H locs w => ?_)
  refine lv_aload_n hx hb dX2_takeAll_15 rfl (lv_at hl 1 rfl) ?_
  refine gC22_1 C w wl_71 dX2_takeAll_16 ?_
  refine lv_iconst (v := 0) hx hb dX2_takeAll_19 (by decide) ?_
  refine lv_aload_n hx hb dX2_takeAll_20 rfl (lv_at hl 0 rfl) ?_
  refine gC1_1 C w wl_71 dX2_takeAll_21 ?_
  refine lv_iconst (v := 0) hx hb dX2_takeAll_24 (by decide) ?_
  refine lv_bipush (v := 7) hx hb dX2_takeAll_25 (by decide) ?_
  refine cp24_3 C w hl.1 (by decide) (by decide) (by decide) (by decide) (by decide) wl_337 (Nat.le_of_ble_eq_true rfl) (Nat.le_of_ble_eq_true rfl) dX2_takeAll_27 (fun H locs w => ?_)
  refine lv_aload_n hx hb dX2_takeAll_30 rfl (lv_at hl 1 rfl) ?_
  refine gC22_2 C w wl_72 dX2_takeAll_31 ?_
  refine lv_iconst (v := 0) hx hb dX2_takeAll_34 (by decide) ?_
  refine lv_aload_n hx hb dX2_takeAll_35 rfl (lv_at hl 0 rfl) ?_
  refine gC1_2 C w wl_72 dX2_takeAll_36 ?_
  refine lv_iconst (v := 0) hx hb dX2_takeAll_39 (by decide) ?_
  refine lv_bipush (v := 30) hx hb dX2_takeAll_40 (by decide) ?_
  refine cp25_4 C w hl.1 (by decide) (by decide) (by decide) (by decide) (by decide) wl_337 (Nat.le_of_ble_eq_true rfl) (Nat.le_of_ble_eq_true rfl) dX2_takeAll_42 (fun H locs w => ?_)
  refine lv_aload_n hx hb dX2_takeAll_45 rfl (lv_at hl 1 rfl) ?_
  refine gC22_3 C w wl_73 dX2_takeAll_46 ?_
  refine lv_iconst (v := 0) hx hb dX2_takeAll_49 (by decide) ?_
  refine lv_aload_n hx hb dX2_takeAll_50 rfl (lv_at hl 0 rfl) ?_
  refine gC1_3 C w wl_73 dX2_takeAll_51 ?_
  refine lv_iconst (v := 0) hx hb dX2_takeAll_54 (by decide) ?_
  refine lv_bipush (v := 18) hx hb dX2_takeAll_55 (by decide) ?_
  refine cp26_5 C w hl.1 (by decide) (by decide) (by decide) (by decide) (by decide) wl_337 (Nat.le_of_ble_eq_true rfl) (Nat.le_of_ble_eq_true rfl) dX2_takeAll_57 (fun H locs w => ?_)
  refine lv_aload_n hx hb dX2_takeAll_60 rfl (lv_at hl 1 rfl) ?_
  refine gC22_4 C w wl_74 dX2_takeAll_61 ?_
  refine lv_iconst (v := 0) hx hb dX2_takeAll_64 (by decide) ?_
  refine lv_aload_n hx hb dX2_takeAll_65 rfl (lv_at hl 0 rfl) ?_
  refine gC1_4 C w wl_74 dX2_takeAll_66 ?_
  refine lv_iconst (v := 0) hx hb dX2_takeAll_69 (by decide) ?_
  refine lv_bipush (v := 8) hx hb dX2_takeAll_70 (by decide) ?_
  refine cp27_6 C w hl.1 (by decide) (by decide) (by decide) (by decide) (by decide) wl_337 (Nat.le_of_ble_eq_true rfl) (Nat.le_of_ble_eq_true rfl) dX2_takeAll_72 (fun H locs w => ?_)
  refine lv_aload_n hx hb dX2_takeAll_75 rfl (lv_at hl 1 rfl) ?_
  refine gC22_5 C w wl_75 dX2_takeAll_76 ?_
  refine lv_iconst (v := 0) hx hb dX2_takeAll_79 (by decide) ?_
  refine lv_aload_n hx hb dX2_takeAll_80 rfl (lv_at hl 0 rfl) ?_
  refine gC1_5 C w wl_75 dX2_takeAll_81 ?_
  refine lv_iconst (v := 0) hx hb dX2_takeAll_84 (by decide) ?_
  refine lv_bipush (v := 8) hx hb dX2_takeAll_85 (by decide) ?_
  refine cp28_7 C w hl.1 (by decide) (by decide) (by decide) (by decide) (by decide) wl_337 (Nat.le_of_ble_eq_true rfl) (Nat.le_of_ble_eq_true rfl) dX2_takeAll_87 (fun H locs w => ?_)
  refine lv_aload_n hx hb dX2_takeAll_90 rfl (lv_at hl 0 rfl) ?_
  refine lv_aload_n hx hb dX2_takeAll_91 rfl (lv_at hl 1 rfl) ?_
  refine gC22_6 (v := (σ.1 2206)) C w rfl wl_126 dX2_takeAll_92 ?_
  refine pC1_6 C w wl_126 dX2_takeAll_95 (fun H locs w => ?_)
  refine lv_aload_n hx hb dX2_takeAll_98 rfl (lv_at hl 0 rfl) ?_
  refine lv_aload_n hx hb dX2_takeAll_99 rfl (lv_at hl 1 rfl) ?_
  refine gC22_7 (v := (σ.1 2207)) C w rfl wl_127 dX2_takeAll_100 ?_
  refine pC1_7 C w wl_127 dX2_takeAll_103 (fun H locs w => ?_)
  refine lv_aload_n hx hb dX2_takeAll_106 rfl (lv_at hl 0 rfl) ?_
  refine lv_aload_n hx hb dX2_takeAll_107 rfl (lv_at hl 1 rfl) ?_
  refine gC22_8 (v := (σ.1 2208)) C w rfl wl_128 dX2_takeAll_108 ?_
  refine pC1_8 C w wl_128 dX2_takeAll_111 (fun H locs w => ?_)
  refine lv_aload_n hx hb dX2_takeAll_114 rfl (lv_at hl 0 rfl) ?_
  refine lv_aload_n hx hb dX2_takeAll_115 rfl (lv_at hl 1 rfl) ?_
  refine gC22_9 (v := (σ.1 2209)) C w rfl wl_129 dX2_takeAll_116 ?_
  refine pC1_9 C w wl_129 dX2_takeAll_119 (fun H locs w => ?_)
  refine lv_aload_n hx hb dX2_takeAll_122 rfl (lv_at hl 0 rfl) ?_
  refine lv_aload_n hx hb dX2_takeAll_123 rfl (lv_at hl 1 rfl) ?_
  refine gC22_10 (v := (σ.1 2210)) C w rfl wl_130 dX2_takeAll_124 ?_
  refine pC1_10 C w wl_130 dX2_takeAll_127 (fun H locs w => ?_)
  refine lv_aload_n hx hb dX2_takeAll_130 rfl (lv_at hl 0 rfl) ?_
  refine lv_aload_n hx hb dX2_takeAll_131 rfl (lv_at hl 1 rfl) ?_
  refine gC22_11 (v := (σ.1 2211)) C w rfl wl_131 dX2_takeAll_132 ?_
  refine pC1_11 C w wl_131 dX2_takeAll_135 (fun H locs w => ?_)
  rw [hQ]
  exact rV (F := CW ca ad) C w h dX2_takeAll_138
theorem hd_X10_from : yX10_from.cls = RX10 ∧ yX10_from.cls ≠ "java/lang/invoke/MethodHandle" ∧ yX10_from.cls ≠ "java/lang/invoke/VarHandle" ∧ (parseMethodDescriptor yX10_from.desc).map (fun d => d.parameters.length) = some 1 := by decide +kernel
def f_X10_from (σ : St) (x1 : Int32) : Option (Int32 × St) := (f_X10_within x1 (0 : Int32) (1 : Int32)).bind fun q1 => if q1 = 0 then ((f_X10_refuseAsBad σ).bind fun q5 => some (q5.1, q5.2)) else (cond (ckI x1 2) (if (σ.2.2 37 x1.toNatClampNeg) = 0 then ((f_X10_refuseAsNo σ).bind fun q4 => some (q4.1, q4.2)) else (cond (ckI x1 2) (if x1 = 0 then ((f_X2_takeAll_1_15 σ).bind fun q2 => some ((1 : Int32), q2)) else if x1 = 1 then ((f_X2_takeAll_1_22 σ).bind fun q3 => some ((1 : Int32), q3)) else none) none)) none)
abbrev rm_X10_from : Room := { frames := 2, cells := 0, slots := 0, locals := 120 }
set_option maxHeartbeats 4000000 in
set_option maxRecDepth 100000 in
theorem c_X10_from (l : Launch) (D : va_G) (ca : Nat → ClassId) (ad : Nat → Nat) (σ : St) (x1 : Int32) (sz : Nat) (out : Int32 × St) (hf : f_X10_from σ x1 = some out) : Met l yX10_from (.code yX10_from cX10_from 2 (some .int) :: WL) rm_X10_from (PreC D ca (CW ca ad σ) sz [.ref (ad 0), .int x1]) (PostI D (va_A (CW ca ad σ) sz) (CW ca ad out.2) out.1) 0 0 (va_A (CW ca ad σ) sz) := by
  refine Met.ofW (cc := cX10_from) (maxL := 2) (ret := (some .int)) (by decide) rfl ?_
  intro p e s m args below meth c s₁ B hml hv
  obtain ⟨rfl, hsz, hP, hK, hD, hN⟩ := hv
  subst hsz
  have C := Cx.mk (own := RX10) B hml rfl hK hN (ws := (CW ca ad σ))
  have w : Wd (va_A (CW ca ad σ) s.heap.size) s D (CW ca ad σ) s.heap [] := ⟨hP, hD.self, va_S.rf⟩
  have hl := lv_entry ([.ref (ad 0), .int x1]) (n := 2) (Nat.le_of_ble_eq_true rfl)
  rw [lg_entry_eq]
  generalize (lg_sl ([.ref (ad 0), .int x1]) ++ List.replicate (2 - (lg_sl ([.ref (ad 0), .int x1])).length) Slot.unset).toArray = ls at hl ⊢
  have hl : lv_has ls 2 [(0, .ref (ad 0)), (1, .int x1)] := hl
  change W p l e rm_X10_from s m _ below meth c _ [] 0 0 _ _
  clear B hP hD hK hN hml
  generalize va_A (CW ca ad σ) s.heap.size = A at C w ⊢
  generalize ([.ref (ad 0), .int x1] : List Value).toArray = av at C ⊢
  obtain ⟨Q, hQ⟩ : ∃ Q, Q = MQ below (PostI D A (CW ca ad out.2) out.1) av s 0 0 A := ⟨_, rfl⟩
  rw [← hQ]
  have hx := C.1
  have hb := C.2.1
  have h := hf
  unfold f_X10_from at h
  refine lv_iload_n hx hb dX10_from_0 rfl (lv_at hl 1 rfl) ?_
  refine lv_iconst (v := 0) hx hb dX10_from_1 (by decide) ?_
  refine lv_iconst (v := 1) hx hb dX10_from_2 (by decide) ?_
  obtain ⟨q1, hq1, h⟩ := ob_t h
  refine res_i C w (run_S (As := [.int x1, .int (0 : Int32), .int (1 : Int32)]) (rest := []) C w hl.1 (c_X10_within l D ca _ x1 (0 : Int32) (1 : Int32) _ q1 hq1) rfl rfl wl_114 wl_115 wl_2 wl_116 hd_X10_within rfl ⟨Nat.le_of_ble_eq_true rfl, Nat.le_of_ble_eq_true rfl⟩ rfl (Nat.le_of_ble_eq_true rfl) dX10_from_3) (fun H locs w => ?_)
  refine lv_if_ne (tgt := 14) hx hb dX10_from_6 (by decide) (fun c1 => ?_) (fun c1 => ?_)
  · have h := it_f h c1
    refine lv_aload_n hx hb dX10_from_14 rfl (lv_at hl 0 rfl) ?_
    refine gC0_4 C w wl_38 dX10_from_15 ?_
    refine lv_iload_n hx hb dX10_from_18 rfl (lv_at hl 1 rfl) ?_
    obtain ⟨i2, h⟩ := ck_t h
    refine ldC37 (v := (σ.2.2 37 x1.toNatClampNeg)) C w i2 rfl dX10_from_19 ?_
    refine lv_if_ne (tgt := 28) hx hb dX10_from_20 (by decide) (fun c3 => ?_) (fun c3 => ?_)
    · have h := it_f h c3
      refine lv_aload_n hx hb dX10_from_28 rfl (lv_at hl 0 rfl) ?_
      refine gC0_1 C w wl_34 dX10_from_29 ?_
      refine lv_aload_n hx hb dX10_from_32 rfl (lv_at hl 0 rfl) ?_
      refine gC0_3 C w wl_36 dX10_from_33 ?_
      refine lv_iload_n hx hb dX10_from_36 rfl (lv_at hl 1 rfl) ?_
      obtain ⟨i4, h⟩ := ck_t h
      refine ldC29 C w i4 dX10_from_37 ?_
      by_cases c5 : x1 = 0
      · have h := it_t h c5
        refine ref_eq (a' := ad 15) (by rw [c5]; rfl) ?_
        obtain ⟨q2, hq2, h⟩ := ob_t h
        refine res_v C w (run_V (As := [.ref (ad 15)]) (rest := []) C w hl.1 (recvC1 C w) (c_X2_takeAll_1_15 l D ca ad _  _ q2 hq2) rfl rfl wl_333 wl_334 wl_335 wl_33 wl_336 hd_X2_takeAll rfl ⟨Nat.le_of_ble_eq_true rfl, Nat.le_of_ble_eq_true rfl⟩ rfl (Nat.le_of_ble_eq_true rfl) dX10_from_38) (fun H locs w => ?_)
        refine lv_iconst (v := 1) hx hb dX10_from_41 (by decide) ?_
        rw [hQ]
        exact rI (F := CW ca ad) C w h dX10_from_42
      have h := it_f h c5
      by_cases c51 : x1 = 1
      · have h := it_t h c51
        refine ref_eq (a' := ad 22) (by rw [c51]; rfl) ?_
        obtain ⟨q3, hq3, h⟩ := ob_t h
        refine res_v C w (run_V (As := [.ref (ad 22)]) (rest := []) C w hl.1 (recvC1 C w) (c_X2_takeAll_1_22 l D ca ad _  _ q3 hq3) rfl rfl wl_333 wl_334 wl_335 wl_33 wl_336 hd_X2_takeAll rfl ⟨Nat.le_of_ble_eq_true rfl, Nat.le_of_ble_eq_true rfl⟩ rfl (Nat.le_of_ble_eq_true rfl) dX10_from_38) (fun H locs w => ?_)
        refine lv_iconst (v := 1) hx hb dX10_from_41 (by decide) ?_
        rw [hQ]
        exact rI (F := CW ca ad) C w h dX10_from_42
      exact absurd (it_f h c51) (by simp)
    · have h := it_t h c3
      refine lv_aload_n hx hb dX10_from_23 rfl (lv_at hl 0 rfl) ?_
      obtain ⟨q4, hq4, h⟩ := ob_t h
      refine res_i C w (run_V (As := []) (rest := []) C w hl.1 (recvC0 C w) (c_X10_refuseAsNo l D ca ad _  _ q4 hq4) rfl rfl wl_428 wl_429 wl_430 wl_2 wl_431 hd_X10_refuseAsNo rfl ⟨Nat.le_of_ble_eq_true rfl, Nat.le_of_ble_eq_true rfl⟩ rfl (Nat.le_of_ble_eq_true rfl) dX10_from_24) (fun H locs w => ?_)
      rw [hQ]
      exact rI (F := CW ca ad) C w h dX10_from_27
  · have h := it_t h c1
    refine lv_aload_n hx hb dX10_from_9 rfl (lv_at hl 0 rfl) ?_
    obtain ⟨q5, hq5, h⟩ := ob_t h
    refine res_i C w (run_V (As := []) (rest := []) C w hl.1 (recvC0 C w) (c_X10_refuseAsBad l D ca ad _  _ q5 hq5) rfl rfl wl_117 wl_118 wl_119 wl_2 wl_120 hd_X10_refuseAsBad rfl ⟨Nat.le_of_ble_eq_true rfl, Nat.le_of_ble_eq_true rfl⟩ rfl (Nat.le_of_ble_eq_true rfl) dX10_from_10) (fun H locs w => ?_)
    rw [hQ]
    exact rI (F := CW ca ad) C w h dX10_from_13
theorem hd_X10_status : yX10_status.cls = RX10 ∧ yX10_status.cls ≠ "java/lang/invoke/MethodHandle" ∧ yX10_status.cls ≠ "java/lang/invoke/VarHandle" ∧ (parseMethodDescriptor yX10_status.desc).map (fun d => d.parameters.length) = some 1 := by decide +kernel
def f_X10_status (σ : St) (x1 : Int32) : Option (Int32 × St) := if x1 = 0 then (some ((σ.1 13), σ)) else (if x1 = 1 then (some ((σ.1 14), σ)) else (if x1 = 2 then (some ((σ.1 15), σ)) else (some ((-1 : Int32), (sI σ 13 ((σ.1 13) + (1 : Int32)))))))
abbrev rm_X10_status : Room := { frames := 0, cells := 0, slots := 0, locals := 0 }
set_option maxHeartbeats 4000000 in
set_option maxRecDepth 100000 in
theorem c_X10_status (l : Launch) (D : va_G) (ca : Nat → ClassId) (ad : Nat → Nat) (σ : St) (x1 : Int32) (sz : Nat) (out : Int32 × St) (hf : f_X10_status σ x1 = some out) : Met l yX10_status (.code yX10_status cX10_status 2 (some .int) :: WL) rm_X10_status (PreC D ca (CW ca ad σ) sz [.ref (ad 0), .int x1]) (PostI D (va_A (CW ca ad σ) sz) (CW ca ad out.2) out.1) 0 0 (va_A (CW ca ad σ) sz) := by
  refine Met.ofW (cc := cX10_status) (maxL := 2) (ret := (some .int)) (by decide) rfl ?_
  intro p e s m args below meth c s₁ B hml hv
  obtain ⟨rfl, hsz, hP, hK, hD, hN⟩ := hv
  subst hsz
  have C := Cx.mk (own := RX10) B hml rfl hK hN (ws := (CW ca ad σ))
  have w : Wd (va_A (CW ca ad σ) s.heap.size) s D (CW ca ad σ) s.heap [] := ⟨hP, hD.self, va_S.rf⟩
  have hl := lv_entry ([.ref (ad 0), .int x1]) (n := 2) (Nat.le_of_ble_eq_true rfl)
  rw [lg_entry_eq]
  generalize (lg_sl ([.ref (ad 0), .int x1]) ++ List.replicate (2 - (lg_sl ([.ref (ad 0), .int x1])).length) Slot.unset).toArray = ls at hl ⊢
  have hl : lv_has ls 2 [(0, .ref (ad 0)), (1, .int x1)] := hl
  change W p l e rm_X10_status s m _ below meth c _ [] 0 0 _ _
  clear B hP hD hK hN hml
  generalize va_A (CW ca ad σ) s.heap.size = A at C w ⊢
  generalize ([.ref (ad 0), .int x1] : List Value).toArray = av at C ⊢
  obtain ⟨Q, hQ⟩ : ∃ Q, Q = MQ below (PostI D A (CW ca ad out.2) out.1) av s 0 0 A := ⟨_, rfl⟩
  rw [← hQ]
  have hx := C.1
  have hb := C.2.1
  have h := hf
  unfold f_X10_status at h
  refine lv_iload_n hx hb dX10_status_0 rfl (lv_at hl 1 rfl) ?_
  by_cases c1_0 : x1 = 0
  · have h := it_t h c1_0
    refine int_eq c1_0 ?_
    refine lv_tableIn (off := 27) (tgt := 28) hx hb dX10_status_1 (by decide) (by decide) (by decide) (by decide) ?_
    refine lv_aload_n hx hb dX10_status_28 rfl (lv_at hl 0 rfl) ?_
    refine gC0_13 (v := (σ.1 13)) C w rfl wl_121 dX10_status_29 ?_
    rw [hQ]
    exact rI (F := CW ca ad) C w h dX10_status_32
  have h := it_f h c1_0
  by_cases c1_1 : x1 = 1
  · have h := it_t h c1_1
    refine int_eq c1_1 ?_
    refine lv_tableIn (off := 32) (tgt := 33) hx hb dX10_status_1 (by decide) (by decide) (by decide) (by decide) ?_
    refine lv_aload_n hx hb dX10_status_33 rfl (lv_at hl 0 rfl) ?_
    refine gC0_14 (v := (σ.1 14)) C w rfl wl_432 dX10_status_34 ?_
    rw [hQ]
    exact rI (F := CW ca ad) C w h dX10_status_37
  have h := it_f h c1_1
  by_cases c1_2 : x1 = 2
  · have h := it_t h c1_2
    refine int_eq c1_2 ?_
    refine lv_tableIn (off := 37) (tgt := 38) hx hb dX10_status_1 (by decide) (by decide) (by decide) (by decide) ?_
    refine lv_aload_n hx hb dX10_status_38 rfl (lv_at hl 0 rfl) ?_
    refine gC0_15 (v := (σ.1 15)) C w rfl wl_157 dX10_status_39 ?_
    rw [hQ]
    exact rI (F := CW ca ad) C w h dX10_status_42
  have h := it_f h c1_2
  refine lv_tableOut (tgt := 43) hx hb dX10_status_1 (swo_0_2 c1_0 c1_1 c1_2) (by decide) ?_
  refine lv_aload_n hx hb dX10_status_43 rfl (lv_at hl 0 rfl) ?_
  refine lv_dup hx hb dX10_status_44 rfl ?_
  refine gC0_13 (v := (σ.1 13)) C w rfl wl_121 dX10_status_45 ?_
  refine lv_iconst (v := 1) hx hb dX10_status_48 (by decide) ?_
  refine lv_iadd hx hb dX10_status_49 ?_
  refine pC0_13 C w wl_121 dX10_status_50 (fun H locs w => ?_)
  refine lv_iconst (v := -1) hx hb dX10_status_53 (by decide) ?_
  rw [hQ]
  exact rI (F := CW ca ad) C w h dX10_status_54
theorem hd_X2_touches : yX2_touches.cls = RX2 ∧ yX2_touches.cls ≠ "java/lang/invoke/MethodHandle" ∧ yX2_touches.cls ≠ "java/lang/invoke/VarHandle" ∧ (parseMethodDescriptor yX2_touches.desc).map (fun d => d.parameters.length) = some 0 := by decide +kernel
def f_X2_touches_1_b4 (K4 : St → Int32 → Int32 → Option (Int32 × St)) (σ : St) (x1 : Int32) (x2 : Int32) : Option (Int32 × St) := if (σ.1 106) ≤ x2 then (some ((x1 / (2 : Int32)), σ)) else (cond (ckI x2 7) ((f_J6_bitCount_0f7a4 (σ.2.2 3 x2.toNatClampNeg)).bind fun q1 => K4 σ (x1 + q1) (x2 + (1 : Int32))) none)
def f_X2_touches_1_L4 : Nat → St → Int32 → Int32 → Option (Int32 × St)
  | 0 => fun _ _ _ => none
  | n + 1 => f_X2_touches_1_b4 (f_X2_touches_1_L4 n)
def f_X2_touches_1 (σ : St) : Option (Int32 × St) := f_X2_touches_1_L4 FU σ (0 : Int32) (0 : Int32)
abbrev rm_X2_touches_1 : Room := { frames := 1, cells := 0, slots := 0, locals := 60 }
set_option maxHeartbeats 4000000 in
set_option maxRecDepth 100000 in
theorem c_X2_touches_1 (l : Launch) (D : va_G) (ca : Nat → ClassId) (ad : Nat → Nat) (σ : St)  (sz : Nat) (out : Int32 × St) (hf : f_X2_touches_1 σ  = some out) : Met l yX2_touches (.code yX2_touches cX2_touches 3 (some .int) :: WL) rm_X2_touches_1 (PreC D ca (CW ca ad σ) sz [.ref (ad 1)]) (PostI D (va_A (CW ca ad σ) sz) (CW ca ad out.2) out.1) 0 0 (va_A (CW ca ad σ) sz) := by
  refine Met.ofW (cc := cX2_touches) (maxL := 3) (ret := (some .int)) (by decide) rfl ?_
  intro p e s m args below meth c s₁ B hml hv
  obtain ⟨rfl, hsz, hP, hK, hD, hN⟩ := hv
  subst hsz
  have C := Cx.mk (own := RX2) B hml rfl hK hN (ws := (CW ca ad σ))
  have w : Wd (va_A (CW ca ad σ) s.heap.size) s D (CW ca ad σ) s.heap [] := ⟨hP, hD.self, va_S.rf⟩
  have hl := lv_entry ([.ref (ad 1)]) (n := 3) (Nat.le_of_ble_eq_true rfl)
  rw [lg_entry_eq]
  generalize (lg_sl ([.ref (ad 1)]) ++ List.replicate (3 - (lg_sl ([.ref (ad 1)])).length) Slot.unset).toArray = ls at hl ⊢
  have hl : lv_has ls 3 [(0, .ref (ad 1))] := hl
  change W p l e rm_X2_touches_1 s m _ below meth c _ [] 0 0 _ _
  clear B hP hD hK hN hml
  generalize va_A (CW ca ad σ) s.heap.size = A at C w ⊢
  generalize ([.ref (ad 1)] : List Value).toArray = av at C ⊢
  obtain ⟨Q, hQ⟩ : ∃ Q, Q = MQ below (PostI D A (CW ca ad out.2) out.1) av s 0 0 A := ⟨_, rfl⟩
  rw [← hQ]
  have hx := C.1
  have hb := C.2.1
  have L4 : ∀ (n4 : Nat) (σ : St) (x1 : Int32) (x2 : Int32), f_X2_touches_1_L4 n4 σ x1 x2 = some out → Bk p l e rm_X2_touches_1 s m av below meth c A D 3 Q (CW ca ad σ) 4 [(0, .ref (ad 1)), (1, .int x1), (2, .int x2)] [] := by
    intro n4
    induction n4 with
    | zero => intro σ x1 x2 h; exact absurd h (by simp [f_X2_touches_1_L4])
    | succ n4 ih4 =>
      intro σ x1 x2 h H locs ls w hl
      change f_X2_touches_1_b4 (f_X2_touches_1_L4 n4) σ x1 x2 = some out at h
      unfold f_X2_touches_1_b4 at h
      refine lv_iload_n hx hb dX2_touches_4 rfl (lv_at hl 2 rfl) ?_
      refine lv_aload_n hx hb dX2_touches_5 rfl (lv_at hl 0 rfl) ?_
      refine gC1_6 (v := (σ.1 106)) C w rfl wl_126 dX2_touches_6 ?_
      refine lv_icmp_ge (tgt := 30) hx hb dX2_touches_9 (by decide) (fun c1 => ?_) (fun c1 => ?_)
      · have h := it_t h c1
        refine lv_iload_n hx hb dX2_touches_30 rfl (lv_at hl 1 rfl) ?_
        refine lv_iconst (v := 2) hx hb dX2_touches_31 (by decide) ?_
        refine lv_idiv hx hb dX2_touches_32 (by decide) ?_
        rw [hQ]
        exact rI (F := CW ca ad) C w h dX2_touches_33
      · have h := it_f h c1
        refine lv_iload_n hx hb dX2_touches_12 rfl (lv_at hl 1 rfl) ?_
        refine lv_aload_n hx hb dX2_touches_13 rfl (lv_at hl 0 rfl) ?_
        refine gC1_1 C w wl_71 dX2_touches_14 ?_
        refine lv_iload_n hx hb dX2_touches_17 rfl (lv_at hl 2 rfl) ?_
        obtain ⟨i2, h⟩ := ck_t h
        refine ldC3 (v := (σ.2.2 3 x2.toNatClampNeg)) C w i2 rfl dX2_touches_18 ?_
        obtain ⟨q1, hq1, h⟩ := ob_t h
        refine res_i C w (run_S (As := [.int (σ.2.2 3 x2.toNatClampNeg)]) (rest := [.int x1]) C w hl.1 (c_J6_bitCount_0f7a4 l D ca _ (σ.2.2 3 x2.toNatClampNeg) _ q1 hq1) rfl rfl wl_951 wl_722 wl_723 wl_724 hd_J6_bitCount_0f7a4 rfl ⟨Nat.le_of_ble_eq_true rfl, Nat.le_of_ble_eq_true rfl⟩ rfl (Nat.le_of_ble_eq_true rfl) dX2_touches_19) (fun H locs w => ?_)
        refine lv_iadd hx hb dX2_touches_22 ?_
        refine lv_istore_n (lv' := [(1, .int (x1 + q1)), (0, .ref (ad 1)), (2, .int x2)]) hx hb dX2_touches_23 rfl hl (by decide) rfl (fun ls hl => ?_)
        refine lv_iinc (v := (x2 + (1 : Int32))) (lv' := [(2, .int (x2 + (1 : Int32))), (1, .int (x1 + q1)), (0, .ref (ad 1))]) hx hb dX2_touches_24 hl (k := 2) rfl rfl (by decide) rfl (fun ls hl => ?_)
        refine lv_goto (tgt := 4) hx hb dX2_touches_27 (by decide) ?_
        exact ih4 _ _ _ h _ _ _ w (lv_sub hl [2, 1, 0] rfl)
  have h := hf
  unfold f_X2_touches_1 at h
  refine lv_iconst (v := 0) hx hb dX2_touches_0 (by decide) ?_
  refine lv_istore_n (lv' := [(1, .int (0 : Int32)), (0, .ref (ad 1))]) hx hb dX2_touches_1 rfl hl (by decide) rfl (fun ls hl => ?_)
  refine lv_iconst (v := 0) hx hb dX2_touches_2 (by decide) ?_
  refine lv_istore_n (lv' := [(2, .int (0 : Int32)), (1, .int (0 : Int32)), (0, .ref (ad 1))]) hx hb dX2_touches_3 rfl hl (by decide) rfl (fun ls hl => ?_)
  exact L4 FU _ _ _ h _ _ _ w (lv_sub hl [2, 1, 0] rfl)
theorem hd_X10_howMuch : yX10_howMuch.cls = RX10 ∧ yX10_howMuch.cls ≠ "java/lang/invoke/MethodHandle" ∧ yX10_howMuch.cls ≠ "java/lang/invoke/VarHandle" ∧ (parseMethodDescriptor yX10_howMuch.desc).map (fun d => d.parameters.length) = some 1 := by decide +kernel
def f_X10_howMuch (σ : St) (x1 : Int32) : Option (Int32 × St) := if x1 = 0 then (some ((σ.1 106), σ)) else (if x1 = 1 then (some ((σ.1 108), σ)) else (if x1 = 2 then ((f_J6_bitCount_0f7a4 (σ.1 107)).bind fun q1 => some (q1, σ)) else (if x1 = 3 then ((f_X2_touches_1 σ).bind fun q2 => some (q2.1, q2.2)) else (if x1 = 4 then (some ((σ.1 109), σ)) else (if x1 = 5 then (some ((σ.1 110), σ)) else (if x1 = 6 then (some ((σ.1 111), σ)) else (some ((σ.1 10), σ))))))))
abbrev rm_X10_howMuch : Room := { frames := 2, cells := 0, slots := 0, locals := 120 }
set_option maxHeartbeats 4000000 in
set_option maxRecDepth 100000 in
theorem c_X10_howMuch (l : Launch) (D : va_G) (ca : Nat → ClassId) (ad : Nat → Nat) (σ : St) (x1 : Int32) (sz : Nat) (out : Int32 × St) (hf : f_X10_howMuch σ x1 = some out) : Met l yX10_howMuch (.code yX10_howMuch cX10_howMuch 2 (some .int) :: WL) rm_X10_howMuch (PreC D ca (CW ca ad σ) sz [.ref (ad 0), .int x1]) (PostI D (va_A (CW ca ad σ) sz) (CW ca ad out.2) out.1) 0 0 (va_A (CW ca ad σ) sz) := by
  refine Met.ofW (cc := cX10_howMuch) (maxL := 2) (ret := (some .int)) (by decide) rfl ?_
  intro p e s m args below meth c s₁ B hml hv
  obtain ⟨rfl, hsz, hP, hK, hD, hN⟩ := hv
  subst hsz
  have C := Cx.mk (own := RX10) B hml rfl hK hN (ws := (CW ca ad σ))
  have w : Wd (va_A (CW ca ad σ) s.heap.size) s D (CW ca ad σ) s.heap [] := ⟨hP, hD.self, va_S.rf⟩
  have hl := lv_entry ([.ref (ad 0), .int x1]) (n := 2) (Nat.le_of_ble_eq_true rfl)
  rw [lg_entry_eq]
  generalize (lg_sl ([.ref (ad 0), .int x1]) ++ List.replicate (2 - (lg_sl ([.ref (ad 0), .int x1])).length) Slot.unset).toArray = ls at hl ⊢
  have hl : lv_has ls 2 [(0, .ref (ad 0)), (1, .int x1)] := hl
  change W p l e rm_X10_howMuch s m _ below meth c _ [] 0 0 _ _
  clear B hP hD hK hN hml
  generalize va_A (CW ca ad σ) s.heap.size = A at C w ⊢
  generalize ([.ref (ad 0), .int x1] : List Value).toArray = av at C ⊢
  obtain ⟨Q, hQ⟩ : ∃ Q, Q = MQ below (PostI D A (CW ca ad out.2) out.1) av s 0 0 A := ⟨_, rfl⟩
  rw [← hQ]
  have hx := C.1
  have hb := C.2.1
  have h := hf
  unfold f_X10_howMuch at h
  refine lv_iload_n hx hb dX10_howMuch_0 rfl (lv_at hl 1 rfl) ?_
  by_cases c1_0 : x1 = 0
  · have h := it_t h c1_0
    refine int_eq c1_0 ?_
    refine lv_tableIn (off := 43) (tgt := 44) hx hb dX10_howMuch_1 (by decide) (by decide) (by decide) (by decide) ?_
    refine lv_aload_n hx hb dX10_howMuch_44 rfl (lv_at hl 0 rfl) ?_
    refine gC0_1 C w wl_34 dX10_howMuch_45 ?_
    refine gC1_6 (v := (σ.1 106)) C w rfl wl_113 dX10_howMuch_48 ?_
    rw [hQ]
    exact rI (F := CW ca ad) C w h dX10_howMuch_51
  have h := it_f h c1_0
  by_cases c1_1 : x1 = 1
  · have h := it_t h c1_1
    refine int_eq c1_1 ?_
    refine lv_tableIn (off := 51) (tgt := 52) hx hb dX10_howMuch_1 (by decide) (by decide) (by decide) (by decide) ?_
    refine lv_aload_n hx hb dX10_howMuch_52 rfl (lv_at hl 0 rfl) ?_
    refine gC0_1 C w wl_34 dX10_howMuch_53 ?_
    refine gC1_8 (v := (σ.1 108)) C w rfl wl_417 dX10_howMuch_56 ?_
    rw [hQ]
    exact rI (F := CW ca ad) C w h dX10_howMuch_59
  have h := it_f h c1_1
  by_cases c1_2 : x1 = 2
  · have h := it_t h c1_2
    refine int_eq c1_2 ?_
    refine lv_tableIn (off := 59) (tgt := 60) hx hb dX10_howMuch_1 (by decide) (by decide) (by decide) (by decide) ?_
    refine lv_aload_n hx hb dX10_howMuch_60 rfl (lv_at hl 0 rfl) ?_
    refine gC0_1 C w wl_34 dX10_howMuch_61 ?_
    refine gC1_7 (v := (σ.1 107)) C w rfl wl_399 dX10_howMuch_64 ?_
    obtain ⟨q1, hq1, h⟩ := ob_t h
    refine res_i C w (run_S (As := [.int (σ.1 107)]) (rest := []) C w hl.1 (c_J6_bitCount_0f7a4 l D ca _ (σ.1 107) _ q1 hq1) rfl rfl wl_946 wl_722 wl_723 wl_724 hd_J6_bitCount_0f7a4 rfl ⟨Nat.le_of_ble_eq_true rfl, Nat.le_of_ble_eq_true rfl⟩ rfl (Nat.le_of_ble_eq_true rfl) dX10_howMuch_67) (fun H locs w => ?_)
    rw [hQ]
    exact rI (F := CW ca ad) C w h dX10_howMuch_70
  have h := it_f h c1_2
  by_cases c1_3 : x1 = 3
  · have h := it_t h c1_3
    refine int_eq c1_3 ?_
    refine lv_tableIn (off := 70) (tgt := 71) hx hb dX10_howMuch_1 (by decide) (by decide) (by decide) (by decide) ?_
    refine lv_aload_n hx hb dX10_howMuch_71 rfl (lv_at hl 0 rfl) ?_
    refine gC0_1 C w wl_34 dX10_howMuch_72 ?_
    obtain ⟨q2, hq2, h⟩ := ob_t h
    refine res_i C w (run_V (As := []) (rest := []) C w hl.1 (recvC1 C w) (c_X2_touches_1 l D ca ad _  _ q2 hq2) rfl rfl wl_947 wl_948 wl_949 wl_33 wl_950 hd_X2_touches rfl ⟨Nat.le_of_ble_eq_true rfl, Nat.le_of_ble_eq_true rfl⟩ rfl (Nat.le_of_ble_eq_true rfl) dX10_howMuch_75) (fun H locs w => ?_)
    rw [hQ]
    exact rI (F := CW ca ad) C w h dX10_howMuch_78
  have h := it_f h c1_3
  by_cases c1_4 : x1 = 4
  · have h := it_t h c1_4
    refine int_eq c1_4 ?_
    refine lv_tableIn (off := 78) (tgt := 79) hx hb dX10_howMuch_1 (by decide) (by decide) (by decide) (by decide) ?_
    refine lv_aload_n hx hb dX10_howMuch_79 rfl (lv_at hl 0 rfl) ?_
    refine gC0_1 C w wl_34 dX10_howMuch_80 ?_
    refine gC1_9 (v := (σ.1 109)) C w rfl wl_763 dX10_howMuch_83 ?_
    rw [hQ]
    exact rI (F := CW ca ad) C w h dX10_howMuch_86
  have h := it_f h c1_4
  by_cases c1_5 : x1 = 5
  · have h := it_t h c1_5
    refine int_eq c1_5 ?_
    refine lv_tableIn (off := 86) (tgt := 87) hx hb dX10_howMuch_1 (by decide) (by decide) (by decide) (by decide) ?_
    refine lv_aload_n hx hb dX10_howMuch_87 rfl (lv_at hl 0 rfl) ?_
    refine gC0_1 C w wl_34 dX10_howMuch_88 ?_
    refine gC1_10 (v := (σ.1 110)) C w rfl wl_777 dX10_howMuch_91 ?_
    rw [hQ]
    exact rI (F := CW ca ad) C w h dX10_howMuch_94
  have h := it_f h c1_5
  by_cases c1_6 : x1 = 6
  · have h := it_t h c1_6
    refine int_eq c1_6 ?_
    refine lv_tableIn (off := 94) (tgt := 95) hx hb dX10_howMuch_1 (by decide) (by decide) (by decide) (by decide) ?_
    refine lv_aload_n hx hb dX10_howMuch_95 rfl (lv_at hl 0 rfl) ?_
    refine gC0_1 C w wl_34 dX10_howMuch_96 ?_
    refine gC1_11 (v := (σ.1 111)) C w rfl wl_152 dX10_howMuch_99 ?_
    rw [hQ]
    exact rI (F := CW ca ad) C w h dX10_howMuch_102
  have h := it_f h c1_6
  refine lv_tableOut (tgt := 103) hx hb dX10_howMuch_1 (swo_0_6 c1_0 c1_1 c1_2 c1_3 c1_4 c1_5 c1_6) (by decide) ?_
  refine lv_aload_n hx hb dX10_howMuch_103 rfl (lv_at hl 0 rfl) ?_
  refine gC0_10 (v := (σ.1 10)) C w rfl wl_199 dX10_howMuch_104 ?_
  rw [hQ]
  exact rI (F := CW ca ad) C w h dX10_howMuch_107
theorem hd_X10_count : yX10_count.cls = RX10 ∧ yX10_count.cls ≠ "java/lang/invoke/MethodHandle" ∧ yX10_count.cls ≠ "java/lang/invoke/VarHandle" ∧ (parseMethodDescriptor yX10_count.desc).map (fun d => d.parameters.length) = some 1 := by decide +kernel
def f_X10_count (σ : St) (x1 : Int32) : Option (Int32 × St) := (f_X10_within x1 (0 : Int32) (7 : Int32)).bind fun q1 => if q1 = 0 then ((f_X10_refuseAsBad σ).bind fun q3 => some (q3.1, q3.2)) else ((f_X10_howMuch σ x1).bind fun q2 => some (q2.1, q2.2))
abbrev rm_X10_count : Room := { frames := 3, cells := 0, slots := 0, locals := 180 }
set_option maxHeartbeats 4000000 in
set_option maxRecDepth 100000 in
theorem c_X10_count (l : Launch) (D : va_G) (ca : Nat → ClassId) (ad : Nat → Nat) (σ : St) (x1 : Int32) (sz : Nat) (out : Int32 × St) (hf : f_X10_count σ x1 = some out) : Met l yX10_count (.code yX10_count cX10_count 2 (some .int) :: WL) rm_X10_count (PreC D ca (CW ca ad σ) sz [.ref (ad 0), .int x1]) (PostI D (va_A (CW ca ad σ) sz) (CW ca ad out.2) out.1) 0 0 (va_A (CW ca ad σ) sz) := by
  refine Met.ofW (cc := cX10_count) (maxL := 2) (ret := (some .int)) (by decide) rfl ?_
  intro p e s m args below meth c s₁ B hml hv
  obtain ⟨rfl, hsz, hP, hK, hD, hN⟩ := hv
  subst hsz
  have C := Cx.mk (own := RX10) B hml rfl hK hN (ws := (CW ca ad σ))
  have w : Wd (va_A (CW ca ad σ) s.heap.size) s D (CW ca ad σ) s.heap [] := ⟨hP, hD.self, va_S.rf⟩
  have hl := lv_entry ([.ref (ad 0), .int x1]) (n := 2) (Nat.le_of_ble_eq_true rfl)
  rw [lg_entry_eq]
  generalize (lg_sl ([.ref (ad 0), .int x1]) ++ List.replicate (2 - (lg_sl ([.ref (ad 0), .int x1])).length) Slot.unset).toArray = ls at hl ⊢
  have hl : lv_has ls 2 [(0, .ref (ad 0)), (1, .int x1)] := hl
  change W p l e rm_X10_count s m _ below meth c _ [] 0 0 _ _
  clear B hP hD hK hN hml
  generalize va_A (CW ca ad σ) s.heap.size = A at C w ⊢
  generalize ([.ref (ad 0), .int x1] : List Value).toArray = av at C ⊢
  obtain ⟨Q, hQ⟩ : ∃ Q, Q = MQ below (PostI D A (CW ca ad out.2) out.1) av s 0 0 A := ⟨_, rfl⟩
  rw [← hQ]
  have hx := C.1
  have hb := C.2.1
  have h := hf
  unfold f_X10_count at h
  refine lv_iload_n hx hb dX10_count_0 rfl (lv_at hl 1 rfl) ?_
  refine lv_iconst (v := 0) hx hb dX10_count_1 (by decide) ?_
  refine lv_bipush (v := 7) hx hb dX10_count_2 (by decide) ?_
  obtain ⟨q1, hq1, h⟩ := ob_t h
  refine res_i C w (run_S (As := [.int x1, .int (0 : Int32), .int (7 : Int32)]) (rest := []) C w hl.1 (c_X10_within l D ca _ x1 (0 : Int32) (7 : Int32) _ q1 hq1) rfl rfl wl_114 wl_115 wl_2 wl_116 hd_X10_within rfl ⟨Nat.le_of_ble_eq_true rfl, Nat.le_of_ble_eq_true rfl⟩ rfl (Nat.le_of_ble_eq_true rfl) dX10_count_4) (fun H locs w => ?_)
  refine lv_if_ne (tgt := 15) hx hb dX10_count_7 (by decide) (fun c1 => ?_) (fun c1 => ?_)
  · have h := it_f h c1
    refine lv_aload_n hx hb dX10_count_15 rfl (lv_at hl 0 rfl) ?_
    refine lv_iload_n hx hb dX10_count_16 rfl (lv_at hl 1 rfl) ?_
    obtain ⟨q2, hq2, h⟩ := ob_t h
    refine res_i C w (run_V (As := [.int x1]) (rest := []) C w hl.1 (recvC0 C w) (c_X10_howMuch l D ca ad _ x1 _ q2 hq2) rfl rfl wl_942 wl_943 wl_944 wl_2 wl_945 hd_X10_howMuch rfl ⟨Nat.le_of_ble_eq_true rfl, Nat.le_of_ble_eq_true rfl⟩ rfl (Nat.le_of_ble_eq_true rfl) dX10_count_17) (fun H locs w => ?_)
    rw [hQ]
    exact rI (F := CW ca ad) C w h dX10_count_20
  · have h := it_t h c1
    refine lv_aload_n hx hb dX10_count_10 rfl (lv_at hl 0 rfl) ?_
    obtain ⟨q3, hq3, h⟩ := ob_t h
    refine res_i C w (run_V (As := []) (rest := []) C w hl.1 (recvC0 C w) (c_X10_refuseAsBad l D ca ad _  _ q3 hq3) rfl rfl wl_117 wl_118 wl_119 wl_2 wl_120 hd_X10_refuseAsBad rfl ⟨Nat.le_of_ble_eq_true rfl, Nat.le_of_ble_eq_true rfl⟩ rfl (Nat.le_of_ble_eq_true rfl) dX10_count_11) (fun H locs w => ?_)
    rw [hQ]
    exact rI (F := CW ca ad) C w h dX10_count_14
theorem hd_X10_digest : yX10_digest.cls = RX10 ∧ yX10_digest.cls ≠ "java/lang/invoke/MethodHandle" ∧ yX10_digest.cls ≠ "java/lang/invoke/VarHandle" ∧ (parseMethodDescriptor yX10_digest.desc).map (fun d => d.parameters.length) = some 0 := by decide +kernel
def f_X10_digest_b143 (K143 : St → Int64 → Int32 → Option (Int64 × St)) (σ : St) (x1 : Int64) (x3 : Int32) : Option (Int64 × St) := if ((σ.1 110) * (3 : Int32)) ≤ x3 then (some ((((31 : Int64) * (((31 : Int64) * x1) + (σ.2.1 11))) + (σ.2.1 12)), σ)) else (cond (ckI x3 18) (K143 σ (((31 : Int64) * x1) + ((σ.2.2 5 x3.toNatClampNeg)).toInt64) (x3 + (1 : Int32))) none)
def f_X10_digest_L143 : Nat → St → Int64 → Int32 → Option (Int64 × St)
  | 0 => fun _ _ _ => none
  | n + 1 => f_X10_digest_b143 (f_X10_digest_L143 n)
def f_X10_digest_b105 (K105 : St → Int64 → Int32 → Option (Int64 × St)) (σ : St) (x1 : Int64) (x3 : Int32) : Option (Int64 × St) := if ((σ.1 109) * (5 : Int32)) ≤ x3 then (f_X10_digest_L143 FU σ x1 (0 : Int32)) else (cond (ckI x3 30) (K105 σ (((31 : Int64) * x1) + ((σ.2.2 4 x3.toNatClampNeg)).toInt64) (x3 + (1 : Int32))) none)
def f_X10_digest_L105 : Nat → St → Int64 → Int32 → Option (Int64 × St)
  | 0 => fun _ _ _ => none
  | n + 1 => f_X10_digest_b105 (f_X10_digest_L105 n)
def f_X10_digest_b33 (K33 : St → Int64 → Int32 → Option (Int64 × St)) (σ : St) (x1 : Int64) (x3 : Int32) : Option (Int64 × St) := if (σ.1 106) ≤ x3 then (f_X10_digest_L105 FU σ x1 (0 : Int32)) else (cond (ckI x3 7) (cond (ckI x3 7) (K33 σ (((31 : Int64) * (((31 : Int64) * (((31 : Int64) * x1) + ((σ.2.2 2 x3.toNatClampNeg)).toInt64)) + ((((σ.1 107) >>> (x3 &&& 31)) &&& (1 : Int32))).toInt64)) + ((σ.2.2 3 x3.toNatClampNeg)).toInt64) (x3 + (1 : Int32))) none) none)
def f_X10_digest_L33 : Nat → St → Int64 → Int32 → Option (Int64 × St)
  | 0 => fun _ _ _ => none
  | n + 1 => f_X10_digest_b33 (f_X10_digest_L33 n)
def f_X10_digest_b6 (K6 : St → Int64 → Int32 → Option (Int64 × St)) (σ : St) (x1 : Int64) (x3 : Int32) : Option (Int64 × St) := if (8 : Int32) ≤ x3 then (f_X10_digest_L33 FU σ x1 (0 : Int32)) else ((f_X10_howMuch σ x3).bind fun q1 => K6 q1.2 (((31 : Int64) * x1) + (q1.1).toInt64) (x3 + (1 : Int32)))
def f_X10_digest_L6 : Nat → St → Int64 → Int32 → Option (Int64 × St)
  | 0 => fun _ _ _ => none
  | n + 1 => f_X10_digest_b6 (f_X10_digest_L6 n)
def f_X10_digest (σ : St) : Option (Int64 × St) := f_X10_digest_L6 FU σ (1319 : Int64) (0 : Int32)
abbrev rm_X10_digest : Room := { frames := 3, cells := 0, slots := 0, locals := 180 }
set_option maxHeartbeats 4000000 in
set_option maxRecDepth 100000 in
theorem c_X10_digest (l : Launch) (D : va_G) (ca : Nat → ClassId) (ad : Nat → Nat) (σ : St)  (sz : Nat) (out : Int64 × St) (hf : f_X10_digest σ  = some out) : Met l yX10_digest (.code yX10_digest cX10_digest 4 (some .long) :: WL) rm_X10_digest (PreC D ca (CW ca ad σ) sz [.ref (ad 0)]) (PostL D (va_A (CW ca ad σ) sz) (CW ca ad out.2) out.1) 0 0 (va_A (CW ca ad σ) sz) := by
  refine Met.ofW (cc := cX10_digest) (maxL := 4) (ret := (some .long)) (by decide) rfl ?_
  intro p e s m args below meth c s₁ B hml hv
  obtain ⟨rfl, hsz, hP, hK, hD, hN⟩ := hv
  subst hsz
  have C := Cx.mk (own := RX10) B hml rfl hK hN (ws := (CW ca ad σ))
  have w : Wd (va_A (CW ca ad σ) s.heap.size) s D (CW ca ad σ) s.heap [] := ⟨hP, hD.self, va_S.rf⟩
  have hl := lv_entry ([.ref (ad 0)]) (n := 4) (Nat.le_of_ble_eq_true rfl)
  rw [lg_entry_eq]
  generalize (lg_sl ([.ref (ad 0)]) ++ List.replicate (4 - (lg_sl ([.ref (ad 0)])).length) Slot.unset).toArray = ls at hl ⊢
  have hl : lv_has ls 4 [(0, .ref (ad 0))] := hl
  change W p l e rm_X10_digest s m _ below meth c _ [] 0 0 _ _
  clear B hP hD hK hN hml
  generalize va_A (CW ca ad σ) s.heap.size = A at C w ⊢
  generalize ([.ref (ad 0)] : List Value).toArray = av at C ⊢
  obtain ⟨Q, hQ⟩ : ∃ Q, Q = MQ below (PostL D A (CW ca ad out.2) out.1) av s 0 0 A := ⟨_, rfl⟩
  rw [← hQ]
  have hx := C.1
  have hb := C.2.1
  have L143 : ∀ (n143 : Nat) (σ : St) (x1 : Int64) (x3 : Int32), f_X10_digest_L143 n143 σ x1 x3 = some out → Bk p l e rm_X10_digest s m av below meth c A D 4 Q (CW ca ad σ) 143 [(0, .ref (ad 0)), (1, .long x1), (3, .int x3)] [] := by
    intro n143
    induction n143 with
    | zero => intro σ x1 x3 h; exact absurd h (by simp [f_X10_digest_L143])
    | succ n143 ih143 =>
      intro σ x1 x3 h H locs ls w hl
      change f_X10_digest_b143 (f_X10_digest_L143 n143) σ x1 x3 = some out at h
      unfold f_X10_digest_b143 at h
      refine lv_iload_n hx hb dX10_digest_143 rfl (lv_at hl 2 rfl) ?_
      refine lv_aload_n hx hb dX10_digest_144 rfl (lv_at hl 0 rfl) ?_
      refine gC0_1 C w wl_34 dX10_digest_145 ?_
      refine gC1_10 (v := (σ.1 110)) C w rfl wl_777 dX10_digest_148 ?_
      refine lv_iconst (v := 3) hx hb dX10_digest_151 (by decide) ?_
      refine lv_imul hx hb dX10_digest_152 ?_
      refine lv_icmp_ge (tgt := 179) hx hb dX10_digest_153 (by decide) (fun c1 => ?_) (fun c1 => ?_)
      · have h := it_t h c1
        refine lv_ldc2 (v := 31) hx hb C.ow (C.ts _ wl_970) dX10_digest_179 ?_
        refine lv_lload_n hx hb dX10_digest_182 rfl (lv_at hl 1 rfl) ?_
        refine lv_lmul hx hb dX10_digest_183 ?_
        refine lv_aload_n hx hb dX10_digest_184 rfl (lv_at hl 0 rfl) ?_
        refine gC0_11 (v := (σ.2.1 11)) C w rfl wl_52 dX10_digest_185 ?_
        refine lv_ladd hx hb dX10_digest_188 ?_
        refine lv_lstore_n (lv' := [(1, .long (((31 : Int64) * x1) + (σ.2.1 11))), (0, .ref (ad 0)), (3, .int x3)]) hx hb dX10_digest_189 rfl hl (by decide) rfl (fun ls hl => ?_)
        refine lv_ldc2 (v := 31) hx hb C.ow (C.ts _ wl_970) dX10_digest_190 ?_
        refine lv_lload_n hx hb dX10_digest_193 rfl (lv_at hl 0 rfl) ?_
        refine lv_lmul hx hb dX10_digest_194 ?_
        refine lv_aload_n hx hb dX10_digest_195 rfl (lv_at hl 1 rfl) ?_
        refine gC0_12 (v := (σ.2.1 12)) C w rfl wl_53 dX10_digest_196 ?_
        refine lv_ladd hx hb dX10_digest_199 ?_
        rw [hQ]
        exact rJ (F := CW ca ad) C w h dX10_digest_200
      · have h := it_f h c1
        refine lv_ldc2 (v := 31) hx hb C.ow (C.ts _ wl_970) dX10_digest_156 ?_
        refine lv_lload_n hx hb dX10_digest_159 rfl (lv_at hl 1 rfl) ?_
        refine lv_lmul hx hb dX10_digest_160 ?_
        refine lv_aload_n hx hb dX10_digest_161 rfl (lv_at hl 0 rfl) ?_
        refine gC0_1 C w wl_34 dX10_digest_162 ?_
        refine gC1_3 C w wl_842 dX10_digest_165 ?_
        refine lv_iload_n hx hb dX10_digest_168 rfl (lv_at hl 2 rfl) ?_
        obtain ⟨i2, h⟩ := ck_t h
        refine ldC5 (v := (σ.2.2 5 x3.toNatClampNeg)) C w i2 rfl dX10_digest_169 ?_
        refine lv_i2l hx hb dX10_digest_170 rfl ?_
        refine lv_ladd hx hb dX10_digest_171 ?_
        refine lv_lstore_n (lv' := [(1, .long (((31 : Int64) * x1) + ((σ.2.2 5 x3.toNatClampNeg)).toInt64)), (0, .ref (ad 0)), (3, .int x3)]) hx hb dX10_digest_172 rfl hl (by decide) rfl (fun ls hl => ?_)
        refine lv_iinc (v := (x3 + (1 : Int32))) (lv' := [(3, .int (x3 + (1 : Int32))), (1, .long (((31 : Int64) * x1) + ((σ.2.2 5 x3.toNatClampNeg)).toInt64)), (0, .ref (ad 0))]) hx hb dX10_digest_173 hl (k := 2) rfl rfl (by decide) rfl (fun ls hl => ?_)
        refine lv_goto (tgt := 143) hx hb dX10_digest_176 (by decide) ?_
        exact ih143 _ _ _ h _ _ _ w (lv_sub hl [2, 1, 0] rfl)
  have L105 : ∀ (n105 : Nat) (σ : St) (x1 : Int64) (x3 : Int32), f_X10_digest_L105 n105 σ x1 x3 = some out → Bk p l e rm_X10_digest s m av below meth c A D 4 Q (CW ca ad σ) 105 [(0, .ref (ad 0)), (1, .long x1), (3, .int x3)] [] := by
    intro n105
    induction n105 with
    | zero => intro σ x1 x3 h; exact absurd h (by simp [f_X10_digest_L105])
    | succ n105 ih105 =>
      intro σ x1 x3 h H locs ls w hl
      change f_X10_digest_b105 (f_X10_digest_L105 n105) σ x1 x3 = some out at h
      unfold f_X10_digest_b105 at h
      refine lv_iload_n hx hb dX10_digest_105 rfl (lv_at hl 2 rfl) ?_
      refine lv_aload_n hx hb dX10_digest_106 rfl (lv_at hl 0 rfl) ?_
      refine gC0_1 C w wl_34 dX10_digest_107 ?_
      refine gC1_9 (v := (σ.1 109)) C w rfl wl_763 dX10_digest_110 ?_
      refine lv_iconst (v := 5) hx hb dX10_digest_113 (by decide) ?_
      refine lv_imul hx hb dX10_digest_114 ?_
      refine lv_icmp_ge (tgt := 141) hx hb dX10_digest_115 (by decide) (fun c1 => ?_) (fun c1 => ?_)
      · have h := it_t h c1
        refine lv_iconst (v := 0) hx hb dX10_digest_141 (by decide) ?_
        refine lv_istore_n (lv' := [(3, .int (0 : Int32)), (0, .ref (ad 0)), (1, .long x1)]) hx hb dX10_digest_142 rfl hl (by decide) rfl (fun ls hl => ?_)
        exact L143 FU _ _ _ h _ _ _ w (lv_sub hl [1, 2, 0] rfl)
      · have h := it_f h c1
        refine lv_ldc2 (v := 31) hx hb C.ow (C.ts _ wl_970) dX10_digest_118 ?_
        refine lv_lload_n hx hb dX10_digest_121 rfl (lv_at hl 1 rfl) ?_
        refine lv_lmul hx hb dX10_digest_122 ?_
        refine lv_aload_n hx hb dX10_digest_123 rfl (lv_at hl 0 rfl) ?_
        refine gC0_1 C w wl_34 dX10_digest_124 ?_
        refine gC1_2 C w wl_806 dX10_digest_127 ?_
        refine lv_iload_n hx hb dX10_digest_130 rfl (lv_at hl 2 rfl) ?_
        obtain ⟨i2, h⟩ := ck_t h
        refine ldC4 (v := (σ.2.2 4 x3.toNatClampNeg)) C w i2 rfl dX10_digest_131 ?_
        refine lv_i2l hx hb dX10_digest_132 rfl ?_
        refine lv_ladd hx hb dX10_digest_133 ?_
        refine lv_lstore_n (lv' := [(1, .long (((31 : Int64) * x1) + ((σ.2.2 4 x3.toNatClampNeg)).toInt64)), (0, .ref (ad 0)), (3, .int x3)]) hx hb dX10_digest_134 rfl hl (by decide) rfl (fun ls hl => ?_)
        refine lv_iinc (v := (x3 + (1 : Int32))) (lv' := [(3, .int (x3 + (1 : Int32))), (1, .long (((31 : Int64) * x1) + ((σ.2.2 4 x3.toNatClampNeg)).toInt64)), (0, .ref (ad 0))]) hx hb dX10_digest_135 hl (k := 2) rfl rfl (by decide) rfl (fun ls hl => ?_)
        refine lv_goto (tgt := 105) hx hb dX10_digest_138 (by decide) ?_
        exact ih105 _ _ _ h _ _ _ w (lv_sub hl [2, 1, 0] rfl)
  have L33 : ∀ (n33 : Nat) (σ : St) (x1 : Int64) (x3 : Int32), f_X10_digest_L33 n33 σ x1 x3 = some out → Bk p l e rm_X10_digest s m av below meth c A D 4 Q (CW ca ad σ) 33 [(0, .ref (ad 0)), (1, .long x1), (3, .int x3)] [] := by
    intro n33
    induction n33 with
    | zero => intro σ x1 x3 h; exact absurd h (by simp [f_X10_digest_L33])
    | succ n33 ih33 =>
      intro σ x1 x3 h H locs ls w hl
      change f_X10_digest_b33 (f_X10_digest_L33 n33) σ x1 x3 = some out at h
      unfold f_X10_digest_b33 at h
      refine lv_iload_n hx hb dX10_digest_33 rfl (lv_at hl 2 rfl) ?_
      refine lv_aload_n hx hb dX10_digest_34 rfl (lv_at hl 0 rfl) ?_
      refine gC0_1 C w wl_34 dX10_digest_35 ?_
      refine gC1_6 (v := (σ.1 106)) C w rfl wl_113 dX10_digest_38 ?_
      refine lv_icmp_ge (tgt := 103) hx hb dX10_digest_41 (by decide) (fun c1 => ?_) (fun c1 => ?_)
      · have h := it_t h c1
        refine lv_iconst (v := 0) hx hb dX10_digest_103 (by decide) ?_
        refine lv_istore_n (lv' := [(3, .int (0 : Int32)), (0, .ref (ad 0)), (1, .long x1)]) hx hb dX10_digest_104 rfl hl (by decide) rfl (fun ls hl => ?_)
        exact L105 FU _ _ _ h _ _ _ w (lv_sub hl [1, 2, 0] rfl)
      · have h := it_f h c1
        refine lv_ldc2 (v := 31) hx hb C.ow (C.ts _ wl_970) dX10_digest_44 ?_
        refine lv_lload_n hx hb dX10_digest_47 rfl (lv_at hl 1 rfl) ?_
        refine lv_lmul hx hb dX10_digest_48 ?_
        refine lv_aload_n hx hb dX10_digest_49 rfl (lv_at hl 0 rfl) ?_
        refine gC0_1 C w wl_34 dX10_digest_50 ?_
        refine gC1_0 C w wl_449 dX10_digest_53 ?_
        refine lv_iload_n hx hb dX10_digest_56 rfl (lv_at hl 2 rfl) ?_
        obtain ⟨i2, h⟩ := ck_t h
        refine ldC2 (v := (σ.2.2 2 x3.toNatClampNeg)) C w i2 rfl dX10_digest_57 ?_
        refine lv_i2l hx hb dX10_digest_58 rfl ?_
        refine lv_ladd hx hb dX10_digest_59 ?_
        refine lv_lstore_n (lv' := [(1, .long (((31 : Int64) * x1) + ((σ.2.2 2 x3.toNatClampNeg)).toInt64)), (0, .ref (ad 0)), (3, .int x3)]) hx hb dX10_digest_60 rfl hl (by decide) rfl (fun ls hl => ?_)
        refine lv_ldc2 (v := 31) hx hb C.ow (C.ts _ wl_970) dX10_digest_61 ?_
        refine lv_lload_n hx hb dX10_digest_64 rfl (lv_at hl 0 rfl) ?_
        refine lv_lmul hx hb dX10_digest_65 ?_
        refine lv_aload_n hx hb dX10_digest_66 rfl (lv_at hl 1 rfl) ?_
        refine gC0_1 C w wl_34 dX10_digest_67 ?_
        refine gC1_7 (v := (σ.1 107)) C w rfl wl_399 dX10_digest_70 ?_
        refine lv_iload_n hx hb dX10_digest_73 rfl (lv_at hl 2 rfl) ?_
        refine lv_ishr hx hb dX10_digest_74 ?_
        refine lv_iconst (v := 1) hx hb dX10_digest_75 (by decide) ?_
        refine lv_iand hx hb dX10_digest_76 ?_
        refine lv_i2l hx hb dX10_digest_77 rfl ?_
        refine lv_ladd hx hb dX10_digest_78 ?_
        refine lv_lstore_n (lv' := [(1, .long (((31 : Int64) * (((31 : Int64) * x1) + ((σ.2.2 2 x3.toNatClampNeg)).toInt64)) + ((((σ.1 107) >>> (x3 &&& 31)) &&& (1 : Int32))).toInt64)), (0, .ref (ad 0)), (3, .int x3)]) hx hb dX10_digest_79 rfl hl (by decide) rfl (fun ls hl => ?_)
        refine lv_ldc2 (v := 31) hx hb C.ow (C.ts _ wl_970) dX10_digest_80 ?_
        refine lv_lload_n hx hb dX10_digest_83 rfl (lv_at hl 0 rfl) ?_
        refine lv_lmul hx hb dX10_digest_84 ?_
        refine lv_aload_n hx hb dX10_digest_85 rfl (lv_at hl 1 rfl) ?_
        refine gC0_1 C w wl_34 dX10_digest_86 ?_
        refine gC1_1 C w wl_175 dX10_digest_89 ?_
        refine lv_iload_n hx hb dX10_digest_92 rfl (lv_at hl 2 rfl) ?_
        obtain ⟨i3, h⟩ := ck_t h
        refine ldC3 (v := (σ.2.2 3 x3.toNatClampNeg)) C w i3 rfl dX10_digest_93 ?_
        refine lv_i2l hx hb dX10_digest_94 rfl ?_
        refine lv_ladd hx hb dX10_digest_95 ?_
        refine lv_lstore_n (lv' := [(1, .long (((31 : Int64) * (((31 : Int64) * (((31 : Int64) * x1) + ((σ.2.2 2 x3.toNatClampNeg)).toInt64)) + ((((σ.1 107) >>> (x3 &&& 31)) &&& (1 : Int32))).toInt64)) + ((σ.2.2 3 x3.toNatClampNeg)).toInt64)), (0, .ref (ad 0)), (3, .int x3)]) hx hb dX10_digest_96 rfl hl (by decide) rfl (fun ls hl => ?_)
        refine lv_iinc (v := (x3 + (1 : Int32))) (lv' := [(3, .int (x3 + (1 : Int32))), (1, .long (((31 : Int64) * (((31 : Int64) * (((31 : Int64) * x1) + ((σ.2.2 2 x3.toNatClampNeg)).toInt64)) + ((((σ.1 107) >>> (x3 &&& 31)) &&& (1 : Int32))).toInt64)) + ((σ.2.2 3 x3.toNatClampNeg)).toInt64)), (0, .ref (ad 0))]) hx hb dX10_digest_97 hl (k := 2) rfl rfl (by decide) rfl (fun ls hl => ?_)
        refine lv_goto (tgt := 33) hx hb dX10_digest_100 (by decide) ?_
        exact ih33 _ _ _ h _ _ _ w (lv_sub hl [2, 1, 0] rfl)
  have L6 : ∀ (n6 : Nat) (σ : St) (x1 : Int64) (x3 : Int32), f_X10_digest_L6 n6 σ x1 x3 = some out → Bk p l e rm_X10_digest s m av below meth c A D 4 Q (CW ca ad σ) 6 [(0, .ref (ad 0)), (1, .long x1), (3, .int x3)] [] := by
    intro n6
    induction n6 with
    | zero => intro σ x1 x3 h; exact absurd h (by simp [f_X10_digest_L6])
    | succ n6 ih6 =>
      intro σ x1 x3 h H locs ls w hl
      change f_X10_digest_b6 (f_X10_digest_L6 n6) σ x1 x3 = some out at h
      unfold f_X10_digest_b6 at h
      refine lv_iload_n hx hb dX10_digest_6 rfl (lv_at hl 2 rfl) ?_
      refine lv_bipush (v := 8) hx hb dX10_digest_7 (by decide) ?_
      refine lv_icmp_ge (tgt := 31) hx hb dX10_digest_9 (by decide) (fun c1 => ?_) (fun c1 => ?_)
      · have h := it_t h c1
        refine lv_iconst (v := 0) hx hb dX10_digest_31 (by decide) ?_
        refine lv_istore_n (lv' := [(3, .int (0 : Int32)), (0, .ref (ad 0)), (1, .long x1)]) hx hb dX10_digest_32 rfl hl (by decide) rfl (fun ls hl => ?_)
        exact L33 FU _ _ _ h _ _ _ w (lv_sub hl [1, 2, 0] rfl)
      · have h := it_f h c1
        refine lv_ldc2 (v := 31) hx hb C.ow (C.ts _ wl_970) dX10_digest_12 ?_
        refine lv_lload_n hx hb dX10_digest_15 rfl (lv_at hl 1 rfl) ?_
        refine lv_lmul hx hb dX10_digest_16 ?_
        refine lv_aload_n hx hb dX10_digest_17 rfl (lv_at hl 0 rfl) ?_
        refine lv_iload_n hx hb dX10_digest_18 rfl (lv_at hl 2 rfl) ?_
        obtain ⟨q1, hq1, h⟩ := ob_t h
        refine res_i C w (run_V (As := [.int x3]) (rest := [.long ((31 : Int64) * x1)]) C w hl.1 (recvC0 C w) (c_X10_howMuch l D ca ad _ x3 _ q1 hq1) rfl rfl wl_942 wl_943 wl_944 wl_2 wl_945 hd_X10_howMuch rfl ⟨Nat.le_of_ble_eq_true rfl, Nat.le_of_ble_eq_true rfl⟩ rfl (Nat.le_of_ble_eq_true rfl) dX10_digest_19) (fun H locs w => ?_)
        refine lv_i2l hx hb dX10_digest_22 rfl ?_
        refine lv_ladd hx hb dX10_digest_23 ?_
        refine lv_lstore_n (lv' := [(1, .long (((31 : Int64) * x1) + (q1.1).toInt64)), (0, .ref (ad 0)), (3, .int x3)]) hx hb dX10_digest_24 rfl hl (by decide) rfl (fun ls hl => ?_)
        refine lv_iinc (v := (x3 + (1 : Int32))) (lv' := [(3, .int (x3 + (1 : Int32))), (1, .long (((31 : Int64) * x1) + (q1.1).toInt64)), (0, .ref (ad 0))]) hx hb dX10_digest_25 hl (k := 2) rfl rfl (by decide) rfl (fun ls hl => ?_)
        refine lv_goto (tgt := 6) hx hb dX10_digest_28 (by decide) ?_
        exact ih6 _ _ _ h _ _ _ w (lv_sub hl [2, 1, 0] rfl)
  have h := hf
  unfold f_X10_digest at h
  refine lv_ldc2 (v := 1319) hx hb C.ow (C.ts _ wl_969) dX10_digest_0 ?_
  refine lv_lstore_n (lv' := [(1, .long (1319 : Int64)), (0, .ref (ad 0))]) hx hb dX10_digest_3 rfl hl (by decide) rfl (fun ls hl => ?_)
  refine lv_iconst (v := 0) hx hb dX10_digest_4 (by decide) ?_
  refine lv_istore_n (lv' := [(3, .int (0 : Int32)), (1, .long (1319 : Int64)), (0, .ref (ad 0))]) hx hb dX10_digest_5 rfl hl (by decide) rfl (fun ls hl => ?_)
  exact L6 FU _ _ _ h _ _ _ w (lv_sub hl [2, 1, 0] rfl)
