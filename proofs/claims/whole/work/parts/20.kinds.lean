theorem hd_X10_within : yX10_within.cls ≠ "java/lang/invoke/MethodHandle" ∧ yX10_within.cls ≠ "java/lang/invoke/VarHandle" ∧ (parseMethodDescriptor yX10_within.desc).map (fun d => d.parameters.length) = some 3 := by decide +kernel
def f_X10_within (x0 : Int32) (x1 : Int32) (x2 : Int32) : Option (Int32) := if x0 < x1 then (some (0 : Int32)) else (if x2 < x0 then (some (0 : Int32)) else (some (1 : Int32)))
abbrev rm_X10_within : Room := { frames := 0, cells := 0, slots := 0, locals := 0 }
set_option maxHeartbeats 4000000 in
set_option maxRecDepth 100000 in
theorem c_X10_within (l : Launch) (D : va_G) (ca : Nat → ClassId) (ws : va_W) (x0 : Int32) (x1 : Int32) (x2 : Int32) (sz : Nat) (out : Int32) (hf : f_X10_within x0 x1 x2 = some out) : Met l yX10_within (.code yX10_within cX10_within 3 (some .boolean) :: WL) rm_X10_within (PreC D ca ws sz [.int x0, .int x1, .int x2]) (PostI D (va_A ws sz) ws out) 0 0 (va_A ws sz) := by
  refine Met.ofW (cc := cX10_within) (maxL := 3) (ret := (some .boolean)) (by decide) rfl ?_
  intro p e s m args below meth c s₁ B hml hv
  obtain ⟨rfl, hsz, hP, hK, hD, hN⟩ := hv
  subst hsz
  have C := Cx.mk (own := RX10) B hml rfl hK hN (ws := ws)
  have w : Wd (va_A ws s.heap.size) s D ws s.heap [] := ⟨hP, hD.self, va_S.rf⟩
  have hl := lv_entry ([.int x0, .int x1, .int x2]) (n := 3) (Nat.le_of_ble_eq_true rfl)
  rw [lg_entry_eq]
  generalize (lg_sl ([.int x0, .int x1, .int x2]) ++ List.replicate (3 - (lg_sl ([.int x0, .int x1, .int x2])).length) Slot.unset).toArray = ls at hl ⊢
  have hl : lv_has ls 3 [(0, .int x0), (1, .int x1), (2, .int x2)] := hl
  change W p l e rm_X10_within s m _ below meth c _ [] 0 0 _ _
  clear B hP hD hK hN hml
  generalize va_A ws s.heap.size = A at C w ⊢
  generalize ([.int x0, .int x1, .int x2] : List Value).toArray = av at C ⊢
  obtain ⟨Q, hQ⟩ : ∃ Q, Q = MQ below (PostI D A ws out) av s 0 0 A := ⟨_, rfl⟩
  rw [← hQ]
  have hx := C.1
  have hb := C.2.1
  have h := hf
  unfold f_X10_within at h
  refine lv_iload_n hx hb dX10_within_0 rfl (lv_at hl 0 rfl) ?_
  refine lv_iload_n hx hb dX10_within_1 rfl (lv_at hl 1 rfl) ?_
  refine lv_icmp_lt (tgt := 14) hx hb dX10_within_2 (by decide) (fun c1 => ?_) (fun c1 => ?_)
  · have h := it_t h c1
    refine lv_iconst (v := 0) hx hb dX10_within_14 (by decide) ?_
    rw [hQ]
    exact qZ C w (by decide) h dX10_within_15
  · have h := it_f h c1
    refine lv_iload_n hx hb dX10_within_5 rfl (lv_at hl 0 rfl) ?_
    refine lv_iload_n hx hb dX10_within_6 rfl (lv_at hl 2 rfl) ?_
    refine lv_icmp_gt (tgt := 14) hx hb dX10_within_7 (by decide) (fun c2 => ?_) (fun c2 => ?_)
    · have h := it_t h c2
      refine lv_iconst (v := 0) hx hb dX10_within_14 (by decide) ?_
      rw [hQ]
      exact qZ C w (by decide) h dX10_within_15
    · have h := it_f h c2
      refine lv_iconst (v := 1) hx hb dX10_within_10 (by decide) ?_
      refine lv_goto (tgt := 15) hx hb dX10_within_11 (by decide) ?_
      rw [hQ]
      exact qZ C w (by decide) h dX10_within_15
theorem hd_J6_bitCount_0f7a4 : yJ6_bitCount_0f7a4.cls ≠ "java/lang/invoke/MethodHandle" ∧ yJ6_bitCount_0f7a4.cls ≠ "java/lang/invoke/VarHandle" ∧ (parseMethodDescriptor yJ6_bitCount_0f7a4.desc).map (fun d => d.parameters.length) = some 1 := by decide +kernel
def f_J6_bitCount_0f7a4 (x0 : Int32) : Option (Int32) := some ((((((((x0 - ((((x0).toUInt32 >>> (((1 : Int32)).toUInt32 &&& Int32.toUInt32 31)).toInt32) &&& (1431655765 : Int32))) &&& (858993459 : Int32)) + (((((x0 - ((((x0).toUInt32 >>> (((1 : Int32)).toUInt32 &&& Int32.toUInt32 31)).toInt32) &&& (1431655765 : Int32)))).toUInt32 >>> (((2 : Int32)).toUInt32 &&& Int32.toUInt32 31)).toInt32) &&& (858993459 : Int32))) + ((((((x0 - ((((x0).toUInt32 >>> (((1 : Int32)).toUInt32 &&& Int32.toUInt32 31)).toInt32) &&& (1431655765 : Int32))) &&& (858993459 : Int32)) + (((((x0 - ((((x0).toUInt32 >>> (((1 : Int32)).toUInt32 &&& Int32.toUInt32 31)).toInt32) &&& (1431655765 : Int32)))).toUInt32 >>> (((2 : Int32)).toUInt32 &&& Int32.toUInt32 31)).toInt32) &&& (858993459 : Int32)))).toUInt32 >>> (((4 : Int32)).toUInt32 &&& Int32.toUInt32 31)).toInt32)) &&& (252645135 : Int32)) + ((((((((x0 - ((((x0).toUInt32 >>> (((1 : Int32)).toUInt32 &&& Int32.toUInt32 31)).toInt32) &&& (1431655765 : Int32))) &&& (858993459 : Int32)) + (((((x0 - ((((x0).toUInt32 >>> (((1 : Int32)).toUInt32 &&& Int32.toUInt32 31)).toInt32) &&& (1431655765 : Int32)))).toUInt32 >>> (((2 : Int32)).toUInt32 &&& Int32.toUInt32 31)).toInt32) &&& (858993459 : Int32))) + ((((((x0 - ((((x0).toUInt32 >>> (((1 : Int32)).toUInt32 &&& Int32.toUInt32 31)).toInt32) &&& (1431655765 : Int32))) &&& (858993459 : Int32)) + (((((x0 - ((((x0).toUInt32 >>> (((1 : Int32)).toUInt32 &&& Int32.toUInt32 31)).toInt32) &&& (1431655765 : Int32)))).toUInt32 >>> (((2 : Int32)).toUInt32 &&& Int32.toUInt32 31)).toInt32) &&& (858993459 : Int32)))).toUInt32 >>> (((4 : Int32)).toUInt32 &&& Int32.toUInt32 31)).toInt32)) &&& (252645135 : Int32))).toUInt32 >>> (((8 : Int32)).toUInt32 &&& Int32.toUInt32 31)).toInt32)) + (((((((((x0 - ((((x0).toUInt32 >>> (((1 : Int32)).toUInt32 &&& Int32.toUInt32 31)).toInt32) &&& (1431655765 : Int32))) &&& (858993459 : Int32)) + (((((x0 - ((((x0).toUInt32 >>> (((1 : Int32)).toUInt32 &&& Int32.toUInt32 31)).toInt32) &&& (1431655765 : Int32)))).toUInt32 >>> (((2 : Int32)).toUInt32 &&& Int32.toUInt32 31)).toInt32) &&& (858993459 : Int32))) + ((((((x0 - ((((x0).toUInt32 >>> (((1 : Int32)).toUInt32 &&& Int32.toUInt32 31)).toInt32) &&& (1431655765 : Int32))) &&& (858993459 : Int32)) + (((((x0 - ((((x0).toUInt32 >>> (((1 : Int32)).toUInt32 &&& Int32.toUInt32 31)).toInt32) &&& (1431655765 : Int32)))).toUInt32 >>> (((2 : Int32)).toUInt32 &&& Int32.toUInt32 31)).toInt32) &&& (858993459 : Int32)))).toUInt32 >>> (((4 : Int32)).toUInt32 &&& Int32.toUInt32 31)).toInt32)) &&& (252645135 : Int32)) + ((((((((x0 - ((((x0).toUInt32 >>> (((1 : Int32)).toUInt32 &&& Int32.toUInt32 31)).toInt32) &&& (1431655765 : Int32))) &&& (858993459 : Int32)) + (((((x0 - ((((x0).toUInt32 >>> (((1 : Int32)).toUInt32 &&& Int32.toUInt32 31)).toInt32) &&& (1431655765 : Int32)))).toUInt32 >>> (((2 : Int32)).toUInt32 &&& Int32.toUInt32 31)).toInt32) &&& (858993459 : Int32))) + ((((((x0 - ((((x0).toUInt32 >>> (((1 : Int32)).toUInt32 &&& Int32.toUInt32 31)).toInt32) &&& (1431655765 : Int32))) &&& (858993459 : Int32)) + (((((x0 - ((((x0).toUInt32 >>> (((1 : Int32)).toUInt32 &&& Int32.toUInt32 31)).toInt32) &&& (1431655765 : Int32)))).toUInt32 >>> (((2 : Int32)).toUInt32 &&& Int32.toUInt32 31)).toInt32) &&& (858993459 : Int32)))).toUInt32 >>> (((4 : Int32)).toUInt32 &&& Int32.toUInt32 31)).toInt32)) &&& (252645135 : Int32))).toUInt32 >>> (((8 : Int32)).toUInt32 &&& Int32.toUInt32 31)).toInt32))).toUInt32 >>> (((16 : Int32)).toUInt32 &&& Int32.toUInt32 31)).toInt32)) &&& (63 : Int32))
abbrev rm_J6_bitCount_0f7a4 : Room := { frames := 0, cells := 0, slots := 0, locals := 0 }
set_option maxHeartbeats 4000000 in
set_option maxRecDepth 100000 in
theorem c_J6_bitCount_0f7a4 (l : Launch) (D : va_G) (ca : Nat → ClassId) (ws : va_W) (x0 : Int32) (sz : Nat) (out : Int32) (hf : f_J6_bitCount_0f7a4 x0 = some out) : Met l yJ6_bitCount_0f7a4 (.code yJ6_bitCount_0f7a4 cJ6_bitCount_0f7a4 1 (some .int) :: WL) rm_J6_bitCount_0f7a4 (PreC D ca ws sz [.int x0]) (PostI D (va_A ws sz) ws out) 0 0 (va_A ws sz) := by
  refine Met.ofW (cc := cJ6_bitCount_0f7a4) (maxL := 1) (ret := (some .int)) (by decide) rfl ?_
  intro p e s m args below meth c s₁ B hml hv
  obtain ⟨rfl, hsz, hP, hK, hD, hN⟩ := hv
  subst hsz
  have C := Cx.mk (own := RJ6) B hml rfl hK hN (ws := ws)
  have w : Wd (va_A ws s.heap.size) s D ws s.heap [] := ⟨hP, hD.self, va_S.rf⟩
  have hl := lv_entry ([.int x0]) (n := 1) (Nat.le_of_ble_eq_true rfl)
  rw [lg_entry_eq]
  generalize (lg_sl ([.int x0]) ++ List.replicate (1 - (lg_sl ([.int x0])).length) Slot.unset).toArray = ls at hl ⊢
  have hl : lv_has ls 1 [(0, .int x0)] := hl
  change W p l e rm_J6_bitCount_0f7a4 s m _ below meth c _ [] 0 0 _ _
  clear B hP hD hK hN hml
  generalize va_A ws s.heap.size = A at C w ⊢
  generalize ([.int x0] : List Value).toArray = av at C ⊢
  obtain ⟨Q, hQ⟩ : ∃ Q, Q = MQ below (PostI D A ws out) av s 0 0 A := ⟨_, rfl⟩
  rw [← hQ]
  have hx := C.1
  have hb := C.2.1
  have h := hf
  unfold f_J6_bitCount_0f7a4 at h
  refine lv_iload_n hx hb dJ6_bitCount_0f7a4_0 rfl (lv_at hl 0 rfl) ?_
  refine lv_iload_n hx hb dJ6_bitCount_0f7a4_1 rfl (lv_at hl 0 rfl) ?_
  refine lv_iconst (v := 1) hx hb dJ6_bitCount_0f7a4_2 (by decide) ?_
  refine lv_iushr hx hb dJ6_bitCount_0f7a4_3 rfl ?_
  refine lv_ldcw (v := 1431655765) hx hb C.ow (C.ts _ wl_725) dJ6_bitCount_0f7a4_4 ?_
  refine lv_iand hx hb dJ6_bitCount_0f7a4_7 ?_
  refine lv_isub hx hb dJ6_bitCount_0f7a4_8 ?_
  refine lv_istore_n (lv' := [(0, .int (x0 - ((((x0).toUInt32 >>> (((1 : Int32)).toUInt32 &&& Int32.toUInt32 31)).toInt32) &&& (1431655765 : Int32))))]) hx hb dJ6_bitCount_0f7a4_9 rfl hl (by decide) rfl (fun ls hl => ?_)
  refine lv_iload_n hx hb dJ6_bitCount_0f7a4_10 rfl (lv_at hl 0 rfl) ?_
  refine lv_ldcw (v := 858993459) hx hb C.ow (C.ts _ wl_726) dJ6_bitCount_0f7a4_11 ?_
  refine lv_iand hx hb dJ6_bitCount_0f7a4_14 ?_
  refine lv_iload_n hx hb dJ6_bitCount_0f7a4_15 rfl (lv_at hl 0 rfl) ?_
  refine lv_iconst (v := 2) hx hb dJ6_bitCount_0f7a4_16 (by decide) ?_
  refine lv_iushr hx hb dJ6_bitCount_0f7a4_17 rfl ?_
  refine lv_ldcw (v := 858993459) hx hb C.ow (C.ts _ wl_726) dJ6_bitCount_0f7a4_18 ?_
  refine lv_iand hx hb dJ6_bitCount_0f7a4_21 ?_
  refine lv_iadd hx hb dJ6_bitCount_0f7a4_22 ?_
  refine lv_istore_n (lv' := [(0, .int (((x0 - ((((x0).toUInt32 >>> (((1 : Int32)).toUInt32 &&& Int32.toUInt32 31)).toInt32) &&& (1431655765 : Int32))) &&& (858993459 : Int32)) + (((((x0 - ((((x0).toUInt32 >>> (((1 : Int32)).toUInt32 &&& Int32.toUInt32 31)).toInt32) &&& (1431655765 : Int32)))).toUInt32 >>> (((2 : Int32)).toUInt32 &&& Int32.toUInt32 31)).toInt32) &&& (858993459 : Int32))))]) hx hb dJ6_bitCount_0f7a4_23 rfl hl (by decide) rfl (fun ls hl => ?_)
  refine lv_iload_n hx hb dJ6_bitCount_0f7a4_24 rfl (lv_at hl 0 rfl) ?_
  refine lv_iload_n hx hb dJ6_bitCount_0f7a4_25 rfl (lv_at hl 0 rfl) ?_
  refine lv_iconst (v := 4) hx hb dJ6_bitCount_0f7a4_26 (by decide) ?_
  refine lv_iushr hx hb dJ6_bitCount_0f7a4_27 rfl ?_
  refine lv_iadd hx hb dJ6_bitCount_0f7a4_28 ?_
  refine lv_ldcw (v := 252645135) hx hb C.ow (C.ts _ wl_727) dJ6_bitCount_0f7a4_29 ?_
  refine lv_iand hx hb dJ6_bitCount_0f7a4_32 ?_
  refine lv_istore_n (lv' := [(0, .int (((((x0 - ((((x0).toUInt32 >>> (((1 : Int32)).toUInt32 &&& Int32.toUInt32 31)).toInt32) &&& (1431655765 : Int32))) &&& (858993459 : Int32)) + (((((x0 - ((((x0).toUInt32 >>> (((1 : Int32)).toUInt32 &&& Int32.toUInt32 31)).toInt32) &&& (1431655765 : Int32)))).toUInt32 >>> (((2 : Int32)).toUInt32 &&& Int32.toUInt32 31)).toInt32) &&& (858993459 : Int32))) + ((((((x0 - ((((x0).toUInt32 >>> (((1 : Int32)).toUInt32 &&& Int32.toUInt32 31)).toInt32) &&& (1431655765 : Int32))) &&& (858993459 : Int32)) + (((((x0 - ((((x0).toUInt32 >>> (((1 : Int32)).toUInt32 &&& Int32.toUInt32 31)).toInt32) &&& (1431655765 : Int32)))).toUInt32 >>> (((2 : Int32)).toUInt32 &&& Int32.toUInt32 31)).toInt32) &&& (858993459 : Int32)))).toUInt32 >>> (((4 : Int32)).toUInt32 &&& Int32.toUInt32 31)).toInt32)) &&& (252645135 : Int32)))]) hx hb dJ6_bitCount_0f7a4_33 rfl hl (by decide) rfl (fun ls hl => ?_)
  refine lv_iload_n hx hb dJ6_bitCount_0f7a4_34 rfl (lv_at hl 0 rfl) ?_
  refine lv_iload_n hx hb dJ6_bitCount_0f7a4_35 rfl (lv_at hl 0 rfl) ?_
  refine lv_bipush (v := 8) hx hb dJ6_bitCount_0f7a4_36 (by decide) ?_
  refine lv_iushr hx hb dJ6_bitCount_0f7a4_38 rfl ?_
  refine lv_iadd hx hb dJ6_bitCount_0f7a4_39 ?_
  refine lv_istore_n (lv' := [(0, .int ((((((x0 - ((((x0).toUInt32 >>> (((1 : Int32)).toUInt32 &&& Int32.toUInt32 31)).toInt32) &&& (1431655765 : Int32))) &&& (858993459 : Int32)) + (((((x0 - ((((x0).toUInt32 >>> (((1 : Int32)).toUInt32 &&& Int32.toUInt32 31)).toInt32) &&& (1431655765 : Int32)))).toUInt32 >>> (((2 : Int32)).toUInt32 &&& Int32.toUInt32 31)).toInt32) &&& (858993459 : Int32))) + ((((((x0 - ((((x0).toUInt32 >>> (((1 : Int32)).toUInt32 &&& Int32.toUInt32 31)).toInt32) &&& (1431655765 : Int32))) &&& (858993459 : Int32)) + (((((x0 - ((((x0).toUInt32 >>> (((1 : Int32)).toUInt32 &&& Int32.toUInt32 31)).toInt32) &&& (1431655765 : Int32)))).toUInt32 >>> (((2 : Int32)).toUInt32 &&& Int32.toUInt32 31)).toInt32) &&& (858993459 : Int32)))).toUInt32 >>> (((4 : Int32)).toUInt32 &&& Int32.toUInt32 31)).toInt32)) &&& (252645135 : Int32)) + ((((((((x0 - ((((x0).toUInt32 >>> (((1 : Int32)).toUInt32 &&& Int32.toUInt32 31)).toInt32) &&& (1431655765 : Int32))) &&& (858993459 : Int32)) + (((((x0 - ((((x0).toUInt32 >>> (((1 : Int32)).toUInt32 &&& Int32.toUInt32 31)).toInt32) &&& (1431655765 : Int32)))).toUInt32 >>> (((2 : Int32)).toUInt32 &&& Int32.toUInt32 31)).toInt32) &&& (858993459 : Int32))) + ((((((x0 - ((((x0).toUInt32 >>> (((1 : Int32)).toUInt32 &&& Int32.toUInt32 31)).toInt32) &&& (1431655765 : Int32))) &&& (858993459 : Int32)) + (((((x0 - ((((x0).toUInt32 >>> (((1 : Int32)).toUInt32 &&& Int32.toUInt32 31)).toInt32) &&& (1431655765 : Int32)))).toUInt32 >>> (((2 : Int32)).toUInt32 &&& Int32.toUInt32 31)).toInt32) &&& (858993459 : Int32)))).toUInt32 >>> (((4 : Int32)).toUInt32 &&& Int32.toUInt32 31)).toInt32)) &&& (252645135 : Int32))).toUInt32 >>> (((8 : Int32)).toUInt32 &&& Int32.toUInt32 31)).toInt32)))]) hx hb dJ6_bitCount_0f7a4_40 rfl hl (by decide) rfl (fun ls hl => ?_)
  refine lv_iload_n hx hb dJ6_bitCount_0f7a4_41 rfl (lv_at hl 0 rfl) ?_
  refine lv_iload_n hx hb dJ6_bitCount_0f7a4_42 rfl (lv_at hl 0 rfl) ?_
  refine lv_bipush (v := 16) hx hb dJ6_bitCount_0f7a4_43 (by decide) ?_
  refine lv_iushr hx hb dJ6_bitCount_0f7a4_45 rfl ?_
  refine lv_iadd hx hb dJ6_bitCount_0f7a4_46 ?_
  refine lv_istore_n (lv' := [(0, .int (((((((x0 - ((((x0).toUInt32 >>> (((1 : Int32)).toUInt32 &&& Int32.toUInt32 31)).toInt32) &&& (1431655765 : Int32))) &&& (858993459 : Int32)) + (((((x0 - ((((x0).toUInt32 >>> (((1 : Int32)).toUInt32 &&& Int32.toUInt32 31)).toInt32) &&& (1431655765 : Int32)))).toUInt32 >>> (((2 : Int32)).toUInt32 &&& Int32.toUInt32 31)).toInt32) &&& (858993459 : Int32))) + ((((((x0 - ((((x0).toUInt32 >>> (((1 : Int32)).toUInt32 &&& Int32.toUInt32 31)).toInt32) &&& (1431655765 : Int32))) &&& (858993459 : Int32)) + (((((x0 - ((((x0).toUInt32 >>> (((1 : Int32)).toUInt32 &&& Int32.toUInt32 31)).toInt32) &&& (1431655765 : Int32)))).toUInt32 >>> (((2 : Int32)).toUInt32 &&& Int32.toUInt32 31)).toInt32) &&& (858993459 : Int32)))).toUInt32 >>> (((4 : Int32)).toUInt32 &&& Int32.toUInt32 31)).toInt32)) &&& (252645135 : Int32)) + ((((((((x0 - ((((x0).toUInt32 >>> (((1 : Int32)).toUInt32 &&& Int32.toUInt32 31)).toInt32) &&& (1431655765 : Int32))) &&& (858993459 : Int32)) + (((((x0 - ((((x0).toUInt32 >>> (((1 : Int32)).toUInt32 &&& Int32.toUInt32 31)).toInt32) &&& (1431655765 : Int32)))).toUInt32 >>> (((2 : Int32)).toUInt32 &&& Int32.toUInt32 31)).toInt32) &&& (858993459 : Int32))) + ((((((x0 - ((((x0).toUInt32 >>> (((1 : Int32)).toUInt32 &&& Int32.toUInt32 31)).toInt32) &&& (1431655765 : Int32))) &&& (858993459 : Int32)) + (((((x0 - ((((x0).toUInt32 >>> (((1 : Int32)).toUInt32 &&& Int32.toUInt32 31)).toInt32) &&& (1431655765 : Int32)))).toUInt32 >>> (((2 : Int32)).toUInt32 &&& Int32.toUInt32 31)).toInt32) &&& (858993459 : Int32)))).toUInt32 >>> (((4 : Int32)).toUInt32 &&& Int32.toUInt32 31)).toInt32)) &&& (252645135 : Int32))).toUInt32 >>> (((8 : Int32)).toUInt32 &&& Int32.toUInt32 31)).toInt32)) + (((((((((x0 - ((((x0).toUInt32 >>> (((1 : Int32)).toUInt32 &&& Int32.toUInt32 31)).toInt32) &&& (1431655765 : Int32))) &&& (858993459 : Int32)) + (((((x0 - ((((x0).toUInt32 >>> (((1 : Int32)).toUInt32 &&& Int32.toUInt32 31)).toInt32) &&& (1431655765 : Int32)))).toUInt32 >>> (((2 : Int32)).toUInt32 &&& Int32.toUInt32 31)).toInt32) &&& (858993459 : Int32))) + ((((((x0 - ((((x0).toUInt32 >>> (((1 : Int32)).toUInt32 &&& Int32.toUInt32 31)).toInt32) &&& (1431655765 : Int32))) &&& (858993459 : Int32)) + (((((x0 - ((((x0).toUInt32 >>> (((1 : Int32)).toUInt32 &&& Int32.toUInt32 31)).toInt32) &&& (1431655765 : Int32)))).toUInt32 >>> (((2 : Int32)).toUInt32 &&& Int32.toUInt32 31)).toInt32) &&& (858993459 : Int32)))).toUInt32 >>> (((4 : Int32)).toUInt32 &&& Int32.toUInt32 31)).toInt32)) &&& (252645135 : Int32)) + ((((((((x0 - ((((x0).toUInt32 >>> (((1 : Int32)).toUInt32 &&& Int32.toUInt32 31)).toInt32) &&& (1431655765 : Int32))) &&& (858993459 : Int32)) + (((((x0 - ((((x0).toUInt32 >>> (((1 : Int32)).toUInt32 &&& Int32.toUInt32 31)).toInt32) &&& (1431655765 : Int32)))).toUInt32 >>> (((2 : Int32)).toUInt32 &&& Int32.toUInt32 31)).toInt32) &&& (858993459 : Int32))) + ((((((x0 - ((((x0).toUInt32 >>> (((1 : Int32)).toUInt32 &&& Int32.toUInt32 31)).toInt32) &&& (1431655765 : Int32))) &&& (858993459 : Int32)) + (((((x0 - ((((x0).toUInt32 >>> (((1 : Int32)).toUInt32 &&& Int32.toUInt32 31)).toInt32) &&& (1431655765 : Int32)))).toUInt32 >>> (((2 : Int32)).toUInt32 &&& Int32.toUInt32 31)).toInt32) &&& (858993459 : Int32)))).toUInt32 >>> (((4 : Int32)).toUInt32 &&& Int32.toUInt32 31)).toInt32)) &&& (252645135 : Int32))).toUInt32 >>> (((8 : Int32)).toUInt32 &&& Int32.toUInt32 31)).toInt32))).toUInt32 >>> (((16 : Int32)).toUInt32 &&& Int32.toUInt32 31)).toInt32)))]) hx hb dJ6_bitCount_0f7a4_47 rfl hl (by decide) rfl (fun ls hl => ?_)
  refine lv_iload_n hx hb dJ6_bitCount_0f7a4_48 rfl (lv_at hl 0 rfl) ?_
  refine lv_bipush (v := 63) hx hb dJ6_bitCount_0f7a4_49 (by decide) ?_
  refine lv_iand hx hb dJ6_bitCount_0f7a4_51 ?_
  rw [hQ]
  exact qI C w h dJ6_bitCount_0f7a4_52
theorem hd_X3_isLetter : yX3_isLetter.cls ≠ "java/lang/invoke/MethodHandle" ∧ yX3_isLetter.cls ≠ "java/lang/invoke/VarHandle" ∧ (parseMethodDescriptor yX3_isLetter.desc).map (fun d => d.parameters.length) = some 1 := by decide +kernel
def f_X3_isLetter_b16 (K16 : Int32 → Int32 → Option (Int32)) (x1 : Int32) (x2 : Int32) : Option (Int32) := if (6 : Int32) ≤ x2 then (some (1 : Int32)) else (if x1 ≤ 0 then (some (1 : Int32)) else ((f_X10_within (x1 - x1 / (10 : Int32) * (10 : Int32)) (1 : Int32) (4 : Int32)).bind fun q1 => if q1 = 0 then (some (0 : Int32)) else (K16 (x1 / (10 : Int32)) (x2 + (1 : Int32)))))
def f_X3_isLetter_L16 : Nat → Int32 → Int32 → Option (Int32)
  | 0 => fun _ _ => none
  | n + 1 => f_X3_isLetter_b16 (f_X3_isLetter_L16 n)
def f_X3_isLetter (x0 : Int32) : Option (Int32) := if x0 < 0 then (some (0 : Int32)) else (if x0 ≤ (444444 : Int32) then (f_X3_isLetter_L16 FU x0 (0 : Int32)) else (some (0 : Int32)))
abbrev rm_X3_isLetter : Room := { frames := 1, cells := 0, slots := 0, locals := 60 }
set_option maxHeartbeats 4000000 in
set_option maxRecDepth 100000 in
theorem c_X3_isLetter (l : Launch) (D : va_G) (ca : Nat → ClassId) (ws : va_W) (x0 : Int32) (sz : Nat) (out : Int32) (hf : f_X3_isLetter x0 = some out) : Met l yX3_isLetter (.code yX3_isLetter cX3_isLetter 3 (some .boolean) :: WL) rm_X3_isLetter (PreC D ca ws sz [.int x0]) (PostI D (va_A ws sz) ws out) 0 0 (va_A ws sz) := by
  refine Met.ofW (cc := cX3_isLetter) (maxL := 3) (ret := (some .boolean)) (by decide) rfl ?_
  intro p e s m args below meth c s₁ B hml hv
  obtain ⟨rfl, hsz, hP, hK, hD, hN⟩ := hv
  subst hsz
  have C := Cx.mk (own := RX3) B hml rfl hK hN (ws := ws)
  have w : Wd (va_A ws s.heap.size) s D ws s.heap [] := ⟨hP, hD.self, va_S.rf⟩
  have hl := lv_entry ([.int x0]) (n := 3) (Nat.le_of_ble_eq_true rfl)
  rw [lg_entry_eq]
  generalize (lg_sl ([.int x0]) ++ List.replicate (3 - (lg_sl ([.int x0])).length) Slot.unset).toArray = ls at hl ⊢
  have hl : lv_has ls 3 [(0, .int x0)] := hl
  change W p l e rm_X3_isLetter s m _ below meth c _ [] 0 0 _ _
  clear B hP hD hK hN hml
  generalize va_A ws s.heap.size = A at C w ⊢
  generalize ([.int x0] : List Value).toArray = av at C ⊢
  obtain ⟨Q, hQ⟩ : ∃ Q, Q = MQ below (PostI D A ws out) av s 0 0 A := ⟨_, rfl⟩
  rw [← hQ]
  have hx := C.1
  have hb := C.2.1
  have L16 : ∀ (n16 : Nat) (x1 : Int32) (x2 : Int32), f_X3_isLetter_L16 n16 x1 x2 = some out → Bk p l e rm_X3_isLetter s m av below meth c A D 3 Q ws 16 [(1, .int x1), (2, .int x2)] [] := by
    intro n16
    induction n16 with
    | zero => intro x1 x2 h; exact absurd h (by simp [f_X3_isLetter_L16])
    | succ n16 ih16 =>
      intro x1 x2 h H locs ls w hl
      change f_X3_isLetter_b16 (f_X3_isLetter_L16 n16) x1 x2 = some out at h
      unfold f_X3_isLetter_b16 at h
      refine lv_iload_n hx hb dX3_isLetter_16 rfl (lv_at hl 1 rfl) ?_
      refine lv_bipush (v := 6) hx hb dX3_isLetter_17 (by decide) ?_
      refine lv_icmp_ge (tgt := 51) hx hb dX3_isLetter_19 (by decide) (fun c1 => ?_) (fun c1 => ?_)
      · have h := it_t h c1
        refine lv_iconst (v := 1) hx hb dX3_isLetter_51 (by decide) ?_
        rw [hQ]
        exact qZ C w (by decide) h dX3_isLetter_52
      · have h := it_f h c1
        refine lv_iload_n hx hb dX3_isLetter_22 rfl (lv_at hl 0 rfl) ?_
        refine lv_if_le (tgt := 51) hx hb dX3_isLetter_23 (by decide) (fun c2 => ?_) (fun c2 => ?_)
        · have h := it_t h c2
          refine lv_iconst (v := 1) hx hb dX3_isLetter_51 (by decide) ?_
          rw [hQ]
          exact qZ C w (by decide) h dX3_isLetter_52
        · have h := it_f h c2
          refine lv_iload_n hx hb dX3_isLetter_26 rfl (lv_at hl 0 rfl) ?_
          refine lv_bipush (v := 10) hx hb dX3_isLetter_27 (by decide) ?_
          refine lv_irem hx hb dX3_isLetter_29 (by decide) ?_
          refine lv_iconst (v := 1) hx hb dX3_isLetter_30 (by decide) ?_
          refine lv_iconst (v := 4) hx hb dX3_isLetter_31 (by decide) ?_
          obtain ⟨q1, hq1, h⟩ := ob_t h
          refine res_i C w (run_SN (As := [.int (x1 - x1 / (10 : Int32) * (10 : Int32)), .int (1 : Int32), .int (4 : Int32)]) (rest := []) C w hl.1 (c_X10_within l D ca _ (x1 - x1 / (10 : Int32) * (10 : Int32)) (1 : Int32) (4 : Int32) _ q1 hq1) rfl rfl C.nx.1.1.1 wl_115 wl_2 wl_116 hd_X10_within rfl ⟨Nat.le_of_ble_eq_true rfl, Nat.le_of_ble_eq_true rfl⟩ rfl (Nat.le_of_ble_eq_true rfl) dX3_isLetter_32) (fun H locs w => ?_)
          refine lv_if_ne (tgt := 40) hx hb dX3_isLetter_35 (by decide) (fun c3 => ?_) (fun c3 => ?_)
          · have h := it_f h c3
            refine lv_iload_n hx hb dX3_isLetter_40 rfl (lv_at hl 0 rfl) ?_
            refine lv_bipush (v := 10) hx hb dX3_isLetter_41 (by decide) ?_
            refine lv_idiv hx hb dX3_isLetter_43 (by decide) ?_
            refine lv_istore_n (lv' := [(1, .int (x1 / (10 : Int32))), (2, .int x2)]) hx hb dX3_isLetter_44 rfl hl (by decide) rfl (fun ls hl => ?_)
            refine lv_iinc (v := (x2 + (1 : Int32))) (lv' := [(2, .int (x2 + (1 : Int32))), (1, .int (x1 / (10 : Int32)))]) hx hb dX3_isLetter_45 hl (k := 1) rfl rfl (by decide) rfl (fun ls hl => ?_)
            refine lv_goto (tgt := 16) hx hb dX3_isLetter_48 (by decide) ?_
            exact ih16 _ _ h _ _ _ w (lv_sub hl [1, 0] rfl)
          · have h := it_t h c3
            refine lv_iconst (v := 0) hx hb dX3_isLetter_38 (by decide) ?_
            rw [hQ]
            exact qZ C w (by decide) h dX3_isLetter_39
  have h := hf
  unfold f_X3_isLetter at h
  refine lv_iload_n hx hb dX3_isLetter_0 rfl (lv_at hl 0 rfl) ?_
  refine lv_if_lt (tgt := 10) hx hb dX3_isLetter_1 (by decide) (fun c1 => ?_) (fun c1 => ?_)
  · have h := it_t h c1
    refine lv_iconst (v := 0) hx hb dX3_isLetter_10 (by decide) ?_
    rw [hQ]
    exact qZ C w (by decide) h dX3_isLetter_11
  · have h := it_f h c1
    refine lv_iload_n hx hb dX3_isLetter_4 rfl (lv_at hl 0 rfl) ?_
    refine lv_ldc (v := 444444) hx hb C.ow (C.ts _ wl_463) dX3_isLetter_5 ?_
    refine lv_icmp_le (tgt := 12) hx hb dX3_isLetter_7 (by decide) (fun c2 => ?_) (fun c2 => ?_)
    · have h := it_t h c2
      refine lv_iload_n hx hb dX3_isLetter_12 rfl (lv_at hl 0 rfl) ?_
      refine lv_istore_n (lv' := [(1, .int x0), (0, .int x0)]) hx hb dX3_isLetter_13 rfl hl (by decide) rfl (fun ls hl => ?_)
      refine lv_iconst (v := 0) hx hb dX3_isLetter_14 (by decide) ?_
      refine lv_istore_n (lv' := [(2, .int (0 : Int32)), (1, .int x0), (0, .int x0)]) hx hb dX3_isLetter_15 rfl hl (by decide) rfl (fun ls hl => ?_)
      exact L16 FU _ _ h _ _ _ w (lv_sub hl [1, 0] rfl)
    · have h := it_f h c2
      refine lv_iconst (v := 0) hx hb dX3_isLetter_10 (by decide) ?_
      rw [hQ]
      exact qZ C w (by decide) h dX3_isLetter_11
theorem hd_X3_raised : yX3_raised.cls ≠ "java/lang/invoke/MethodHandle" ∧ yX3_raised.cls ≠ "java/lang/invoke/VarHandle" ∧ (parseMethodDescriptor yX3_raised.desc).map (fun d => d.parameters.length) = some 1 := by decide +kernel
def f_X3_raised_b49 (x1 : Int32) : Option (Int32) := some x1
def f_X3_raised_b9 (K9 : Int32 → Int32 → Int32 → Int32 → Option (Int32)) (x1 : Int32) (x2 : Int32) (x3 : Int32) (x4 : Int32) : Option (Int32) := if (6 : Int32) ≤ x4 then (f_X3_raised_b49 x1) else (if x2 ≤ 0 then (f_X3_raised_b49 x1) else (K9 (x1 + ((((x2 - x2 / (10 : Int32) * (10 : Int32)) - (x2 - x2 / (10 : Int32) * (10 : Int32)) / (4 : Int32) * (4 : Int32)) + (1 : Int32)) * x3)) (x2 / (10 : Int32)) (x3 * (10 : Int32)) (x4 + (1 : Int32))))
def f_X3_raised_L9 : Nat → Int32 → Int32 → Int32 → Int32 → Option (Int32)
  | 0 => fun _ _ _ _ => none
  | n + 1 => f_X3_raised_b9 (f_X3_raised_L9 n)
def f_X3_raised (x0 : Int32) : Option (Int32) := f_X3_raised_L9 FU (0 : Int32) x0 (1 : Int32) (0 : Int32)
abbrev rm_X3_raised : Room := { frames := 0, cells := 0, slots := 0, locals := 0 }
set_option maxHeartbeats 4000000 in
set_option maxRecDepth 100000 in
theorem c_X3_raised (l : Launch) (D : va_G) (ca : Nat → ClassId) (ws : va_W) (x0 : Int32) (sz : Nat) (out : Int32) (hf : f_X3_raised x0 = some out) : Met l yX3_raised (.code yX3_raised cX3_raised 5 (some .int) :: WL) rm_X3_raised (PreC D ca ws sz [.int x0]) (PostI D (va_A ws sz) ws out) 0 0 (va_A ws sz) := by
  refine Met.ofW (cc := cX3_raised) (maxL := 5) (ret := (some .int)) (by decide) rfl ?_
  intro p e s m args below meth c s₁ B hml hv
  obtain ⟨rfl, hsz, hP, hK, hD, hN⟩ := hv
  subst hsz
  have C := Cx.mk (own := RX3) B hml rfl hK hN (ws := ws)
  have w : Wd (va_A ws s.heap.size) s D ws s.heap [] := ⟨hP, hD.self, va_S.rf⟩
  have hl := lv_entry ([.int x0]) (n := 5) (Nat.le_of_ble_eq_true rfl)
  rw [lg_entry_eq]
  generalize (lg_sl ([.int x0]) ++ List.replicate (5 - (lg_sl ([.int x0])).length) Slot.unset).toArray = ls at hl ⊢
  have hl : lv_has ls 5 [(0, .int x0)] := hl
  change W p l e rm_X3_raised s m _ below meth c _ [] 0 0 _ _
  clear B hP hD hK hN hml
  generalize va_A ws s.heap.size = A at C w ⊢
  generalize ([.int x0] : List Value).toArray = av at C ⊢
  obtain ⟨Q, hQ⟩ : ∃ Q, Q = MQ below (PostI D A ws out) av s 0 0 A := ⟨_, rfl⟩
  rw [← hQ]
  have hx := C.1
  have hb := C.2.1
  have b49 : ∀ (x1 : Int32), f_X3_raised_b49 x1 = some out → Bk p l e rm_X3_raised s m av below meth c A D 5 Q ws 49 [(1, .int x1)] [] := by
    intro x1 h H locs ls w hl
    unfold f_X3_raised_b49 at h
    refine lv_iload_n hx hb dX3_raised_49 rfl (lv_at hl 0 rfl) ?_
    rw [hQ]
    exact qI C w h dX3_raised_50
  have L9 : ∀ (n9 : Nat) (x1 : Int32) (x2 : Int32) (x3 : Int32) (x4 : Int32), f_X3_raised_L9 n9 x1 x2 x3 x4 = some out → Bk p l e rm_X3_raised s m av below meth c A D 5 Q ws 9 [(1, .int x1), (2, .int x2), (3, .int x3), (4, .int x4)] [] := by
    intro n9
    induction n9 with
    | zero => intro x1 x2 x3 x4 h; exact absurd h (by simp [f_X3_raised_L9])
    | succ n9 ih9 =>
      intro x1 x2 x3 x4 h H locs ls w hl
      change f_X3_raised_b9 (f_X3_raised_L9 n9) x1 x2 x3 x4 = some out at h
      unfold f_X3_raised_b9 at h
      refine lv_iload hx hb dX3_raised_9 (lv_at hl 3 rfl) ?_
      refine lv_bipush (v := 6) hx hb dX3_raised_11 (by decide) ?_
      refine lv_icmp_ge (tgt := 49) hx hb dX3_raised_13 (by decide) (fun c1 => ?_) (fun c1 => ?_)
      · have h := it_t h c1
        exact b49 _ h _ _ _ w (lv_sub hl [0] rfl)
      · have h := it_f h c1
        refine lv_iload_n hx hb dX3_raised_16 rfl (lv_at hl 1 rfl) ?_
        refine lv_if_le (tgt := 49) hx hb dX3_raised_17 (by decide) (fun c2 => ?_) (fun c2 => ?_)
        · have h := it_t h c2
          exact b49 _ h _ _ _ w (lv_sub hl [0] rfl)
        · have h := it_f h c2
          refine lv_iload_n hx hb dX3_raised_20 rfl (lv_at hl 0 rfl) ?_
          refine lv_iload_n hx hb dX3_raised_21 rfl (lv_at hl 1 rfl) ?_
          refine lv_bipush (v := 10) hx hb dX3_raised_22 (by decide) ?_
          refine lv_irem hx hb dX3_raised_24 (by decide) ?_
          refine lv_iconst (v := 4) hx hb dX3_raised_25 (by decide) ?_
          refine lv_irem hx hb dX3_raised_26 (by decide) ?_
          refine lv_iconst (v := 1) hx hb dX3_raised_27 (by decide) ?_
          refine lv_iadd hx hb dX3_raised_28 ?_
          refine lv_iload_n hx hb dX3_raised_29 rfl (lv_at hl 2 rfl) ?_
          refine lv_imul hx hb dX3_raised_30 ?_
          refine lv_iadd hx hb dX3_raised_31 ?_
          refine lv_istore_n (lv' := [(1, .int (x1 + ((((x2 - x2 / (10 : Int32) * (10 : Int32)) - (x2 - x2 / (10 : Int32) * (10 : Int32)) / (4 : Int32) * (4 : Int32)) + (1 : Int32)) * x3))), (2, .int x2), (3, .int x3), (4, .int x4)]) hx hb dX3_raised_32 rfl hl (by decide) rfl (fun ls hl => ?_)
          refine lv_iload_n hx hb dX3_raised_33 rfl (lv_at hl 2 rfl) ?_
          refine lv_bipush (v := 10) hx hb dX3_raised_34 (by decide) ?_
          refine lv_imul hx hb dX3_raised_36 ?_
          refine lv_istore_n (lv' := [(3, .int (x3 * (10 : Int32))), (1, .int (x1 + ((((x2 - x2 / (10 : Int32) * (10 : Int32)) - (x2 - x2 / (10 : Int32) * (10 : Int32)) / (4 : Int32) * (4 : Int32)) + (1 : Int32)) * x3))), (2, .int x2), (4, .int x4)]) hx hb dX3_raised_37 rfl hl (by decide) rfl (fun ls hl => ?_)
          refine lv_iload_n hx hb dX3_raised_38 rfl (lv_at hl 2 rfl) ?_
          refine lv_bipush (v := 10) hx hb dX3_raised_39 (by decide) ?_
          refine lv_idiv hx hb dX3_raised_41 (by decide) ?_
          refine lv_istore_n (lv' := [(2, .int (x2 / (10 : Int32))), (3, .int (x3 * (10 : Int32))), (1, .int (x1 + ((((x2 - x2 / (10 : Int32) * (10 : Int32)) - (x2 - x2 / (10 : Int32) * (10 : Int32)) / (4 : Int32) * (4 : Int32)) + (1 : Int32)) * x3))), (4, .int x4)]) hx hb dX3_raised_42 rfl hl (by decide) rfl (fun ls hl => ?_)
          refine lv_iinc (v := (x4 + (1 : Int32))) (lv' := [(4, .int (x4 + (1 : Int32))), (2, .int (x2 / (10 : Int32))), (3, .int (x3 * (10 : Int32))), (1, .int (x1 + ((((x2 - x2 / (10 : Int32) * (10 : Int32)) - (x2 - x2 / (10 : Int32) * (10 : Int32)) / (4 : Int32) * (4 : Int32)) + (1 : Int32)) * x3)))]) hx hb dX3_raised_43 hl (k := 3) rfl rfl (by decide) rfl (fun ls hl => ?_)
          refine lv_goto (tgt := 9) hx hb dX3_raised_46 (by decide) ?_
          exact ih9 _ _ _ _ h _ _ _ w (lv_sub hl [3, 1, 2, 0] rfl)
  have h := hf
  unfold f_X3_raised at h
  refine lv_iconst (v := 0) hx hb dX3_raised_0 (by decide) ?_
  refine lv_istore_n (lv' := [(1, .int (0 : Int32)), (0, .int x0)]) hx hb dX3_raised_1 rfl hl (by decide) rfl (fun ls hl => ?_)
  refine lv_iload_n hx hb dX3_raised_2 rfl (lv_at hl 1 rfl) ?_
  refine lv_istore_n (lv' := [(2, .int x0), (1, .int (0 : Int32)), (0, .int x0)]) hx hb dX3_raised_3 rfl hl (by decide) rfl (fun ls hl => ?_)
  refine lv_iconst (v := 1) hx hb dX3_raised_4 (by decide) ?_
  refine lv_istore_n (lv' := [(3, .int (1 : Int32)), (2, .int x0), (1, .int (0 : Int32)), (0, .int x0)]) hx hb dX3_raised_5 rfl hl (by decide) rfl (fun ls hl => ?_)
  refine lv_iconst (v := 0) hx hb dX3_raised_6 (by decide) ?_
  refine lv_istore (lv' := [(4, .int (0 : Int32)), (3, .int (1 : Int32)), (2, .int x0), (1, .int (0 : Int32)), (0, .int x0)]) hx hb dX3_raised_7 hl (by decide) rfl (fun ls hl => ?_)
  exact L9 FU _ _ _ _ h _ _ _ w (lv_sub hl [3, 2, 1, 0] rfl)
theorem hd_X3_turned : yX3_turned.cls ≠ "java/lang/invoke/MethodHandle" ∧ yX3_turned.cls ≠ "java/lang/invoke/VarHandle" ∧ (parseMethodDescriptor yX3_turned.desc).map (fun d => d.parameters.length) = some 1 := by decide +kernel
def f_X3_turned_b37 (x1 : Int32) : Option (Int32) := some x1
def f_X3_turned_b6 (K6 : Int32 → Int32 → Int32 → Option (Int32)) (x1 : Int32) (x2 : Int32) (x3 : Int32) : Option (Int32) := if (6 : Int32) ≤ x3 then (f_X3_turned_b37 x1) else (if x2 ≤ 0 then (f_X3_turned_b37 x1) else (K6 ((x1 * (10 : Int32)) + (x2 - x2 / (10 : Int32) * (10 : Int32))) (x2 / (10 : Int32)) (x3 + (1 : Int32))))
def f_X3_turned_L6 : Nat → Int32 → Int32 → Int32 → Option (Int32)
  | 0 => fun _ _ _ => none
  | n + 1 => f_X3_turned_b6 (f_X3_turned_L6 n)
def f_X3_turned (x0 : Int32) : Option (Int32) := f_X3_turned_L6 FU (0 : Int32) x0 (0 : Int32)
abbrev rm_X3_turned : Room := { frames := 0, cells := 0, slots := 0, locals := 0 }
set_option maxHeartbeats 4000000 in
set_option maxRecDepth 100000 in
theorem c_X3_turned (l : Launch) (D : va_G) (ca : Nat → ClassId) (ws : va_W) (x0 : Int32) (sz : Nat) (out : Int32) (hf : f_X3_turned x0 = some out) : Met l yX3_turned (.code yX3_turned cX3_turned 4 (some .int) :: WL) rm_X3_turned (PreC D ca ws sz [.int x0]) (PostI D (va_A ws sz) ws out) 0 0 (va_A ws sz) := by
  refine Met.ofW (cc := cX3_turned) (maxL := 4) (ret := (some .int)) (by decide) rfl ?_
  intro p e s m args below meth c s₁ B hml hv
  obtain ⟨rfl, hsz, hP, hK, hD, hN⟩ := hv
  subst hsz
  have C := Cx.mk (own := RX3) B hml rfl hK hN (ws := ws)
  have w : Wd (va_A ws s.heap.size) s D ws s.heap [] := ⟨hP, hD.self, va_S.rf⟩
  have hl := lv_entry ([.int x0]) (n := 4) (Nat.le_of_ble_eq_true rfl)
  rw [lg_entry_eq]
  generalize (lg_sl ([.int x0]) ++ List.replicate (4 - (lg_sl ([.int x0])).length) Slot.unset).toArray = ls at hl ⊢
  have hl : lv_has ls 4 [(0, .int x0)] := hl
  change W p l e rm_X3_turned s m _ below meth c _ [] 0 0 _ _
  clear B hP hD hK hN hml
  generalize va_A ws s.heap.size = A at C w ⊢
  generalize ([.int x0] : List Value).toArray = av at C ⊢
  obtain ⟨Q, hQ⟩ : ∃ Q, Q = MQ below (PostI D A ws out) av s 0 0 A := ⟨_, rfl⟩
  rw [← hQ]
  have hx := C.1
  have hb := C.2.1
  have b37 : ∀ (x1 : Int32), f_X3_turned_b37 x1 = some out → Bk p l e rm_X3_turned s m av below meth c A D 4 Q ws 37 [(1, .int x1)] [] := by
    intro x1 h H locs ls w hl
    unfold f_X3_turned_b37 at h
    refine lv_iload_n hx hb dX3_turned_37 rfl (lv_at hl 0 rfl) ?_
    rw [hQ]
    exact qI C w h dX3_turned_38
  have L6 : ∀ (n6 : Nat) (x1 : Int32) (x2 : Int32) (x3 : Int32), f_X3_turned_L6 n6 x1 x2 x3 = some out → Bk p l e rm_X3_turned s m av below meth c A D 4 Q ws 6 [(1, .int x1), (2, .int x2), (3, .int x3)] [] := by
    intro n6
    induction n6 with
    | zero => intro x1 x2 x3 h; exact absurd h (by simp [f_X3_turned_L6])
    | succ n6 ih6 =>
      intro x1 x2 x3 h H locs ls w hl
      change f_X3_turned_b6 (f_X3_turned_L6 n6) x1 x2 x3 = some out at h
      unfold f_X3_turned_b6 at h
      refine lv_iload_n hx hb dX3_turned_6 rfl (lv_at hl 2 rfl) ?_
      refine lv_bipush (v := 6) hx hb dX3_turned_7 (by decide) ?_
      refine lv_icmp_ge (tgt := 37) hx hb dX3_turned_9 (by decide) (fun c1 => ?_) (fun c1 => ?_)
      · have h := it_t h c1
        exact b37 _ h _ _ _ w (lv_sub hl [0] rfl)
      · have h := it_f h c1
        refine lv_iload_n hx hb dX3_turned_12 rfl (lv_at hl 1 rfl) ?_
        refine lv_if_le (tgt := 37) hx hb dX3_turned_13 (by decide) (fun c2 => ?_) (fun c2 => ?_)
        · have h := it_t h c2
          exact b37 _ h _ _ _ w (lv_sub hl [0] rfl)
        · have h := it_f h c2
          refine lv_iload_n hx hb dX3_turned_16 rfl (lv_at hl 0 rfl) ?_
          refine lv_bipush (v := 10) hx hb dX3_turned_17 (by decide) ?_
          refine lv_imul hx hb dX3_turned_19 ?_
          refine lv_iload_n hx hb dX3_turned_20 rfl (lv_at hl 1 rfl) ?_
          refine lv_bipush (v := 10) hx hb dX3_turned_21 (by decide) ?_
          refine lv_irem hx hb dX3_turned_23 (by decide) ?_
          refine lv_iadd hx hb dX3_turned_24 ?_
          refine lv_istore_n (lv' := [(1, .int ((x1 * (10 : Int32)) + (x2 - x2 / (10 : Int32) * (10 : Int32)))), (2, .int x2), (3, .int x3)]) hx hb dX3_turned_25 rfl hl (by decide) rfl (fun ls hl => ?_)
          refine lv_iload_n hx hb dX3_turned_26 rfl (lv_at hl 1 rfl) ?_
          refine lv_bipush (v := 10) hx hb dX3_turned_27 (by decide) ?_
          refine lv_idiv hx hb dX3_turned_29 (by decide) ?_
          refine lv_istore_n (lv' := [(2, .int (x2 / (10 : Int32))), (1, .int ((x1 * (10 : Int32)) + (x2 - x2 / (10 : Int32) * (10 : Int32)))), (3, .int x3)]) hx hb dX3_turned_30 rfl hl (by decide) rfl (fun ls hl => ?_)
          refine lv_iinc (v := (x3 + (1 : Int32))) (lv' := [(3, .int (x3 + (1 : Int32))), (2, .int (x2 / (10 : Int32))), (1, .int ((x1 * (10 : Int32)) + (x2 - x2 / (10 : Int32) * (10 : Int32))))]) hx hb dX3_turned_31 hl (k := 2) rfl rfl (by decide) rfl (fun ls hl => ?_)
          refine lv_goto (tgt := 6) hx hb dX3_turned_34 (by decide) ?_
          exact ih6 _ _ _ h _ _ _ w (lv_sub hl [2, 1, 0] rfl)
  have h := hf
  unfold f_X3_turned at h
  refine lv_iconst (v := 0) hx hb dX3_turned_0 (by decide) ?_
  refine lv_istore_n (lv' := [(1, .int (0 : Int32)), (0, .int x0)]) hx hb dX3_turned_1 rfl hl (by decide) rfl (fun ls hl => ?_)
  refine lv_iload_n hx hb dX3_turned_2 rfl (lv_at hl 1 rfl) ?_
  refine lv_istore_n (lv' := [(2, .int x0), (1, .int (0 : Int32)), (0, .int x0)]) hx hb dX3_turned_3 rfl hl (by decide) rfl (fun ls hl => ?_)
  refine lv_iconst (v := 0) hx hb dX3_turned_4 (by decide) ?_
  refine lv_istore_n (lv' := [(3, .int (0 : Int32)), (2, .int x0), (1, .int (0 : Int32)), (0, .int x0)]) hx hb dX3_turned_5 rfl hl (by decide) rfl (fun ls hl => ?_)
  exact L6 FU _ _ _ h _ _ _ w (lv_sub hl [2, 1, 0] rfl)
theorem hd_X3_together : yX3_together.cls ≠ "java/lang/invoke/MethodHandle" ∧ yX3_together.cls ≠ "java/lang/invoke/VarHandle" ∧ (parseMethodDescriptor yX3_together.desc).map (fun d => d.parameters.length) = some 2 := by decide +kernel
def f_X3_together_b8 (x0 : Int32) (x1 : Int32) : Option (Int32) := some (x0 + x1)
def f_X3_together (x0 : Int32) (x1 : Int32) : Option (Int32) := if x0 = 0 then (f_X3_together_b8 x0 x1) else (if x1 = 0 then (f_X3_together_b8 x0 x1) else (if ((x0 + x1) - (1 : Int32)) ≤ (4 : Int32) then (some ((x0 + x1) - (1 : Int32))) else (some (((x0 + x1) - (1 : Int32)) - (4 : Int32)))))
abbrev rm_X3_together : Room := { frames := 0, cells := 0, slots := 0, locals := 0 }
set_option maxHeartbeats 4000000 in
set_option maxRecDepth 100000 in
theorem c_X3_together (l : Launch) (D : va_G) (ca : Nat → ClassId) (ws : va_W) (x0 : Int32) (x1 : Int32) (sz : Nat) (out : Int32) (hf : f_X3_together x0 x1 = some out) : Met l yX3_together (.code yX3_together cX3_together 3 (some .int) :: WL) rm_X3_together (PreC D ca ws sz [.int x0, .int x1]) (PostI D (va_A ws sz) ws out) 0 0 (va_A ws sz) := by
  refine Met.ofW (cc := cX3_together) (maxL := 3) (ret := (some .int)) (by decide) rfl ?_
  intro p e s m args below meth c s₁ B hml hv
  obtain ⟨rfl, hsz, hP, hK, hD, hN⟩ := hv
  subst hsz
  have C := Cx.mk (own := RX3) B hml rfl hK hN (ws := ws)
  have w : Wd (va_A ws s.heap.size) s D ws s.heap [] := ⟨hP, hD.self, va_S.rf⟩
  have hl := lv_entry ([.int x0, .int x1]) (n := 3) (Nat.le_of_ble_eq_true rfl)
  rw [lg_entry_eq]
  generalize (lg_sl ([.int x0, .int x1]) ++ List.replicate (3 - (lg_sl ([.int x0, .int x1])).length) Slot.unset).toArray = ls at hl ⊢
  have hl : lv_has ls 3 [(0, .int x0), (1, .int x1)] := hl
  change W p l e rm_X3_together s m _ below meth c _ [] 0 0 _ _
  clear B hP hD hK hN hml
  generalize va_A ws s.heap.size = A at C w ⊢
  generalize ([.int x0, .int x1] : List Value).toArray = av at C ⊢
  obtain ⟨Q, hQ⟩ : ∃ Q, Q = MQ below (PostI D A ws out) av s 0 0 A := ⟨_, rfl⟩
  rw [← hQ]
  have hx := C.1
  have hb := C.2.1
  have b8 : ∀ (x0 : Int32) (x1 : Int32), f_X3_together_b8 x0 x1 = some out → Bk p l e rm_X3_together s m av below meth c A D 3 Q ws 8 [(0, .int x0), (1, .int x1)] [] := by
    intro x0 x1 h H locs ls w hl
    unfold f_X3_together_b8 at h
    refine lv_iload_n hx hb dX3_together_8 rfl (lv_at hl 0 rfl) ?_
    refine lv_iload_n hx hb dX3_together_9 rfl (lv_at hl 1 rfl) ?_
    refine lv_iadd hx hb dX3_together_10 ?_
    rw [hQ]
    exact qI C w h dX3_together_11
  have h := hf
  unfold f_X3_together at h
  refine lv_iload_n hx hb dX3_together_0 rfl (lv_at hl 0 rfl) ?_
  refine lv_if_eq (tgt := 8) hx hb dX3_together_1 (by decide) (fun c1 => ?_) (fun c1 => ?_)
  · have h := it_t h c1
    exact b8 _ _ h _ _ _ w (lv_sub hl [0, 1] rfl)
  · have h := it_f h c1
    refine lv_iload_n hx hb dX3_together_4 rfl (lv_at hl 1 rfl) ?_
    refine lv_if_ne (tgt := 12) hx hb dX3_together_5 (by decide) (fun c2 => ?_) (fun c2 => ?_)
    · have h := it_f h c2
      refine lv_iload_n hx hb dX3_together_12 rfl (lv_at hl 0 rfl) ?_
      refine lv_iload_n hx hb dX3_together_13 rfl (lv_at hl 1 rfl) ?_
      refine lv_iadd hx hb dX3_together_14 ?_
      refine lv_iconst (v := 1) hx hb dX3_together_15 (by decide) ?_
      refine lv_isub hx hb dX3_together_16 ?_
      refine lv_istore_n (lv' := [(2, .int ((x0 + x1) - (1 : Int32))), (0, .int x0), (1, .int x1)]) hx hb dX3_together_17 rfl hl (by decide) rfl (fun ls hl => ?_)
      refine lv_iload_n hx hb dX3_together_18 rfl (lv_at hl 0 rfl) ?_
      refine lv_iconst (v := 4) hx hb dX3_together_19 (by decide) ?_
      refine lv_icmp_le (tgt := 29) hx hb dX3_together_20 (by decide) (fun c3 => ?_) (fun c3 => ?_)
      · have h := it_t h c3
        refine lv_iload_n hx hb dX3_together_29 rfl (lv_at hl 0 rfl) ?_
        rw [hQ]
        exact qI C w h dX3_together_30
      · have h := it_f h c3
        refine lv_iload_n hx hb dX3_together_23 rfl (lv_at hl 0 rfl) ?_
        refine lv_iconst (v := 4) hx hb dX3_together_24 (by decide) ?_
        refine lv_isub hx hb dX3_together_25 ?_
        refine lv_goto (tgt := 30) hx hb dX3_together_26 (by decide) ?_
        rw [hQ]
        exact qI C w h dX3_together_30
    · have h := it_t h c2
      exact b8 _ _ h _ _ _ w (lv_sub hl [0, 1] rfl)
theorem hd_X3_third : yX3_third.cls ≠ "java/lang/invoke/MethodHandle" ∧ yX3_third.cls ≠ "java/lang/invoke/VarHandle" ∧ (parseMethodDescriptor yX3_third.desc).map (fun d => d.parameters.length) = some 2 := by decide +kernel
def f_X3_third_b31 (K16 : Int32 → Int32 → Int32 → Int32 → Option (Int32)) (x2 : Int32) (x3 : Int32) (x4 : Int32) (x5 : Int32) : Option (Int32) := (f_X3_together (x2 - x2 / (10 : Int32) * (10 : Int32)) (x3 - x3 / (10 : Int32) * (10 : Int32))).bind fun q1 => K16 (x2 / (10 : Int32)) (x3 / (10 : Int32)) ((x4 * (10 : Int32)) + q1) (x5 + (1 : Int32))
def f_X3_third_b66 (x4 : Int32) : Option (Int32) := some x4
def f_X3_third_b16 (K16 : Int32 → Int32 → Int32 → Int32 → Option (Int32)) (x2 : Int32) (x3 : Int32) (x4 : Int32) (x5 : Int32) : Option (Int32) := if (6 : Int32) ≤ x5 then (f_X3_third_b66 x4) else (if 0 < x2 then (f_X3_third_b31 K16 x2 x3 x4 x5) else (if x3 ≤ 0 then (f_X3_third_b66 x4) else (f_X3_third_b31 K16 x2 x3 x4 x5)))
def f_X3_third_L16 : Nat → Int32 → Int32 → Int32 → Int32 → Option (Int32)
  | 0 => fun _ _ _ _ => none
  | n + 1 => f_X3_third_b16 (f_X3_third_L16 n)
def f_X3_third (x0 : Int32) (x1 : Int32) : Option (Int32) := (f_X3_turned x0).bind fun q1 => (f_X3_turned x1).bind fun q2 => f_X3_third_L16 FU q1 q2 (0 : Int32) (0 : Int32)
abbrev rm_X3_third : Room := { frames := 1, cells := 0, slots := 0, locals := 60 }
set_option maxHeartbeats 4000000 in
set_option maxRecDepth 100000 in
theorem c_X3_third (l : Launch) (D : va_G) (ca : Nat → ClassId) (ws : va_W) (x0 : Int32) (x1 : Int32) (sz : Nat) (out : Int32) (hf : f_X3_third x0 x1 = some out) : Met l yX3_third (.code yX3_third cX3_third 6 (some .int) :: WL) rm_X3_third (PreC D ca ws sz [.int x0, .int x1]) (PostI D (va_A ws sz) ws out) 0 0 (va_A ws sz) := by
  refine Met.ofW (cc := cX3_third) (maxL := 6) (ret := (some .int)) (by decide) rfl ?_
  intro p e s m args below meth c s₁ B hml hv
  obtain ⟨rfl, hsz, hP, hK, hD, hN⟩ := hv
  subst hsz
  have C := Cx.mk (own := RX3) B hml rfl hK hN (ws := ws)
  have w : Wd (va_A ws s.heap.size) s D ws s.heap [] := ⟨hP, hD.self, va_S.rf⟩
  have hl := lv_entry ([.int x0, .int x1]) (n := 6) (Nat.le_of_ble_eq_true rfl)
  rw [lg_entry_eq]
  generalize (lg_sl ([.int x0, .int x1]) ++ List.replicate (6 - (lg_sl ([.int x0, .int x1])).length) Slot.unset).toArray = ls at hl ⊢
  have hl : lv_has ls 6 [(0, .int x0), (1, .int x1)] := hl
  change W p l e rm_X3_third s m _ below meth c _ [] 0 0 _ _
  clear B hP hD hK hN hml
  generalize va_A ws s.heap.size = A at C w ⊢
  generalize ([.int x0, .int x1] : List Value).toArray = av at C ⊢
  obtain ⟨Q, hQ⟩ : ∃ Q, Q = MQ below (PostI D A ws out) av s 0 0 A := ⟨_, rfl⟩
  rw [← hQ]
  have hx := C.1
  have hb := C.2.1
  have b66 : ∀ (x4 : Int32), f_X3_third_b66 x4 = some out → Bk p l e rm_X3_third s m av below meth c A D 6 Q ws 66 [(4, .int x4)] [] := by
    intro x4 h H locs ls w hl
    unfold f_X3_third_b66 at h
    refine lv_iload hx hb dX3_third_66 (lv_at hl 0 rfl) ?_
    rw [hQ]
    exact qI C w h dX3_third_68
  have L16 : ∀ (n16 : Nat) (x2 : Int32) (x3 : Int32) (x4 : Int32) (x5 : Int32), f_X3_third_L16 n16 x2 x3 x4 x5 = some out → Bk p l e rm_X3_third s m av below meth c A D 6 Q ws 16 [(2, .int x2), (3, .int x3), (4, .int x4), (5, .int x5)] [] := by
    intro n16
    induction n16 with
    | zero => intro x2 x3 x4 x5 h; exact absurd h (by simp [f_X3_third_L16])
    | succ n16 ih16 =>
      have b31 : ∀ (x2 : Int32) (x3 : Int32) (x4 : Int32) (x5 : Int32), f_X3_third_b31 (f_X3_third_L16 n16) x2 x3 x4 x5 = some out → Bk p l e rm_X3_third s m av below meth c A D 6 Q ws 31 [(2, .int x2), (3, .int x3), (4, .int x4), (5, .int x5)] [] := by
        intro x2 x3 x4 x5 h H locs ls w hl
        unfold f_X3_third_b31 at h
        refine lv_iload hx hb dX3_third_31 (lv_at hl 2 rfl) ?_
        refine lv_bipush (v := 10) hx hb dX3_third_33 (by decide) ?_
        refine lv_imul hx hb dX3_third_35 ?_
        refine lv_iload_n hx hb dX3_third_36 rfl (lv_at hl 0 rfl) ?_
        refine lv_bipush (v := 10) hx hb dX3_third_37 (by decide) ?_
        refine lv_irem hx hb dX3_third_39 (by decide) ?_
        refine lv_iload_n hx hb dX3_third_40 rfl (lv_at hl 1 rfl) ?_
        refine lv_bipush (v := 10) hx hb dX3_third_41 (by decide) ?_
        refine lv_irem hx hb dX3_third_43 (by decide) ?_
        obtain ⟨q1, hq1, h⟩ := ob_t h
        refine res_i C w (run_S (As := [.int (x2 - x2 / (10 : Int32) * (10 : Int32)), .int (x3 - x3 / (10 : Int32) * (10 : Int32))]) (rest := [.int (x4 * (10 : Int32))]) C w hl.1 (c_X3_together l D ca _ (x2 - x2 / (10 : Int32) * (10 : Int32)) (x3 - x3 / (10 : Int32) * (10 : Int32)) _ q1 hq1) rfl rfl wl_697 wl_698 wl_461 wl_699 hd_X3_together rfl ⟨Nat.le_of_ble_eq_true rfl, Nat.le_of_ble_eq_true rfl⟩ rfl (Nat.le_of_ble_eq_true rfl) dX3_third_44) (fun H locs w => ?_)
        refine lv_iadd hx hb dX3_third_47 ?_
        refine lv_istore (lv' := [(4, .int ((x4 * (10 : Int32)) + q1)), (2, .int x2), (3, .int x3), (5, .int x5)]) hx hb dX3_third_48 hl (by decide) rfl (fun ls hl => ?_)
        refine lv_iload_n hx hb dX3_third_50 rfl (lv_at hl 1 rfl) ?_
        refine lv_bipush (v := 10) hx hb dX3_third_51 (by decide) ?_
        refine lv_idiv hx hb dX3_third_53 (by decide) ?_
        refine lv_istore_n (lv' := [(2, .int (x2 / (10 : Int32))), (4, .int ((x4 * (10 : Int32)) + q1)), (3, .int x3), (5, .int x5)]) hx hb dX3_third_54 rfl hl (by decide) rfl (fun ls hl => ?_)
        refine lv_iload_n hx hb dX3_third_55 rfl (lv_at hl 2 rfl) ?_
        refine lv_bipush (v := 10) hx hb dX3_third_56 (by decide) ?_
        refine lv_idiv hx hb dX3_third_58 (by decide) ?_
        refine lv_istore_n (lv' := [(3, .int (x3 / (10 : Int32))), (2, .int (x2 / (10 : Int32))), (4, .int ((x4 * (10 : Int32)) + q1)), (5, .int x5)]) hx hb dX3_third_59 rfl hl (by decide) rfl (fun ls hl => ?_)
        refine lv_iinc (v := (x5 + (1 : Int32))) (lv' := [(5, .int (x5 + (1 : Int32))), (3, .int (x3 / (10 : Int32))), (2, .int (x2 / (10 : Int32))), (4, .int ((x4 * (10 : Int32)) + q1))]) hx hb dX3_third_60 hl (k := 3) rfl rfl (by decide) rfl (fun ls hl => ?_)
        refine lv_goto (tgt := 16) hx hb dX3_third_63 (by decide) ?_
        exact ih16 _ _ _ _ h _ _ _ w (lv_sub hl [2, 1, 3, 0] rfl)
      intro x2 x3 x4 x5 h H locs ls w hl
      change f_X3_third_b16 (f_X3_third_L16 n16) x2 x3 x4 x5 = some out at h
      unfold f_X3_third_b16 at h
      refine lv_iload hx hb dX3_third_16 (lv_at hl 3 rfl) ?_
      refine lv_bipush (v := 6) hx hb dX3_third_18 (by decide) ?_
      refine lv_icmp_ge (tgt := 66) hx hb dX3_third_20 (by decide) (fun c1 => ?_) (fun c1 => ?_)
      · have h := it_t h c1
        exact b66 _ h _ _ _ w (lv_sub hl [2] rfl)
      · have h := it_f h c1
        refine lv_iload_n hx hb dX3_third_23 rfl (lv_at hl 0 rfl) ?_
        refine lv_if_gt (tgt := 31) hx hb dX3_third_24 (by decide) (fun c2 => ?_) (fun c2 => ?_)
        · have h := it_t h c2
          exact b31 _ _ _ _ h _ _ _ w (lv_sub hl [0, 1, 2, 3] rfl)
        · have h := it_f h c2
          refine lv_iload_n hx hb dX3_third_27 rfl (lv_at hl 1 rfl) ?_
          refine lv_if_le (tgt := 66) hx hb dX3_third_28 (by decide) (fun c3 => ?_) (fun c3 => ?_)
          · have h := it_t h c3
            exact b66 _ h _ _ _ w (lv_sub hl [2] rfl)
          · have h := it_f h c3
            exact b31 _ _ _ _ h _ _ _ w (lv_sub hl [0, 1, 2, 3] rfl)
  have h := hf
  unfold f_X3_third at h
  refine lv_iload_n hx hb dX3_third_0 rfl (lv_at hl 0 rfl) ?_
  obtain ⟨q1, hq1, h⟩ := ob_t h
  refine res_i C w (run_S (As := [.int x0]) (rest := []) C w hl.1 (c_X3_turned l D ca _ x0 _ q1 hq1) rfl rfl wl_696 wl_495 wl_461 wl_496 hd_X3_turned rfl ⟨Nat.le_of_ble_eq_true rfl, Nat.le_of_ble_eq_true rfl⟩ rfl (Nat.le_of_ble_eq_true rfl) dX3_third_1) (fun H locs w => ?_)
  refine lv_istore_n (lv' := [(2, .int q1), (0, .int x0), (1, .int x1)]) hx hb dX3_third_4 rfl hl (by decide) rfl (fun ls hl => ?_)
  refine lv_iload_n hx hb dX3_third_5 rfl (lv_at hl 2 rfl) ?_
  obtain ⟨q2, hq2, h⟩ := ob_t h
  refine res_i C w (run_S (As := [.int x1]) (rest := []) C w hl.1 (c_X3_turned l D ca _ x1 _ q2 hq2) rfl rfl wl_696 wl_495 wl_461 wl_496 hd_X3_turned rfl ⟨Nat.le_of_ble_eq_true rfl, Nat.le_of_ble_eq_true rfl⟩ rfl (Nat.le_of_ble_eq_true rfl) dX3_third_6) (fun H locs w => ?_)
  refine lv_istore_n (lv' := [(3, .int q2), (2, .int q1), (0, .int x0), (1, .int x1)]) hx hb dX3_third_9 rfl hl (by decide) rfl (fun ls hl => ?_)
  refine lv_iconst (v := 0) hx hb dX3_third_10 (by decide) ?_
  refine lv_istore (lv' := [(4, .int (0 : Int32)), (3, .int q2), (2, .int q1), (0, .int x0), (1, .int x1)]) hx hb dX3_third_11 hl (by decide) rfl (fun ls hl => ?_)
  refine lv_iconst (v := 0) hx hb dX3_third_13 (by decide) ?_
  refine lv_istore (lv' := [(5, .int (0 : Int32)), (4, .int (0 : Int32)), (3, .int q2), (2, .int q1), (0, .int x0), (1, .int x1)]) hx hb dX3_third_14 hl (by decide) rfl (fun ls hl => ?_)
  exact L16 FU _ _ _ _ h _ _ _ w (lv_sub hl [3, 2, 1, 0] rfl)
theorem hd_X3_shortLetter : yX3_shortLetter.cls ≠ "java/lang/invoke/MethodHandle" ∧ yX3_shortLetter.cls ≠ "java/lang/invoke/VarHandle" ∧ (parseMethodDescriptor yX3_shortLetter.desc).map (fun d => d.parameters.length) = some 1 := by decide +kernel
def f_X3_shortLetter_b48 (x1 : Int32) : Option (Int32) := some x1
def f_X3_shortLetter_b9 (K9 : Int32 → Int32 → Int32 → Int32 → Option (Int32)) (x1 : Int32) (x2 : Int32) (x3 : Int32) (x4 : Int32) : Option (Int32) := if (3 : Int32) ≤ x4 then (f_X3_shortLetter_b48 x1) else (if x2 ≤ 0 then (f_X3_shortLetter_b48 x1) else (K9 (x1 + ((((x2 - (1 : Int32)) - (x2 - (1 : Int32)) / (4 : Int32) * (4 : Int32)) + (1 : Int32)) * x3)) ((x2 - (1 : Int32)) / (4 : Int32)) (x3 * (10 : Int32)) (x4 + (1 : Int32))))
def f_X3_shortLetter_L9 : Nat → Int32 → Int32 → Int32 → Int32 → Option (Int32)
  | 0 => fun _ _ _ _ => none
  | n + 1 => f_X3_shortLetter_b9 (f_X3_shortLetter_L9 n)
def f_X3_shortLetter (x0 : Int32) : Option (Int32) := f_X3_shortLetter_L9 FU (0 : Int32) x0 (1 : Int32) (0 : Int32)
abbrev rm_X3_shortLetter : Room := { frames := 0, cells := 0, slots := 0, locals := 0 }
set_option maxHeartbeats 4000000 in
set_option maxRecDepth 100000 in
theorem c_X3_shortLetter (l : Launch) (D : va_G) (ca : Nat → ClassId) (ws : va_W) (x0 : Int32) (sz : Nat) (out : Int32) (hf : f_X3_shortLetter x0 = some out) : Met l yX3_shortLetter (.code yX3_shortLetter cX3_shortLetter 5 (some .int) :: WL) rm_X3_shortLetter (PreC D ca ws sz [.int x0]) (PostI D (va_A ws sz) ws out) 0 0 (va_A ws sz) := by
  refine Met.ofW (cc := cX3_shortLetter) (maxL := 5) (ret := (some .int)) (by decide) rfl ?_
  intro p e s m args below meth c s₁ B hml hv
  obtain ⟨rfl, hsz, hP, hK, hD, hN⟩ := hv
  subst hsz
  have C := Cx.mk (own := RX3) B hml rfl hK hN (ws := ws)
  have w : Wd (va_A ws s.heap.size) s D ws s.heap [] := ⟨hP, hD.self, va_S.rf⟩
  have hl := lv_entry ([.int x0]) (n := 5) (Nat.le_of_ble_eq_true rfl)
  rw [lg_entry_eq]
  generalize (lg_sl ([.int x0]) ++ List.replicate (5 - (lg_sl ([.int x0])).length) Slot.unset).toArray = ls at hl ⊢
  have hl : lv_has ls 5 [(0, .int x0)] := hl
  change W p l e rm_X3_shortLetter s m _ below meth c _ [] 0 0 _ _
  clear B hP hD hK hN hml
  generalize va_A ws s.heap.size = A at C w ⊢
  generalize ([.int x0] : List Value).toArray = av at C ⊢
  obtain ⟨Q, hQ⟩ : ∃ Q, Q = MQ below (PostI D A ws out) av s 0 0 A := ⟨_, rfl⟩
  rw [← hQ]
  have hx := C.1
  have hb := C.2.1
  have b48 : ∀ (x1 : Int32), f_X3_shortLetter_b48 x1 = some out → Bk p l e rm_X3_shortLetter s m av below meth c A D 5 Q ws 48 [(1, .int x1)] [] := by
    intro x1 h H locs ls w hl
    unfold f_X3_shortLetter_b48 at h
    refine lv_iload_n hx hb dX3_shortLetter_48 rfl (lv_at hl 0 rfl) ?_
    rw [hQ]
    exact qI C w h dX3_shortLetter_49
  have L9 : ∀ (n9 : Nat) (x1 : Int32) (x2 : Int32) (x3 : Int32) (x4 : Int32), f_X3_shortLetter_L9 n9 x1 x2 x3 x4 = some out → Bk p l e rm_X3_shortLetter s m av below meth c A D 5 Q ws 9 [(1, .int x1), (2, .int x2), (3, .int x3), (4, .int x4)] [] := by
    intro n9
    induction n9 with
    | zero => intro x1 x2 x3 x4 h; exact absurd h (by simp [f_X3_shortLetter_L9])
    | succ n9 ih9 =>
      intro x1 x2 x3 x4 h H locs ls w hl
      change f_X3_shortLetter_b9 (f_X3_shortLetter_L9 n9) x1 x2 x3 x4 = some out at h
      unfold f_X3_shortLetter_b9 at h
      refine lv_iload hx hb dX3_shortLetter_9 (lv_at hl 3 rfl) ?_
      refine lv_iconst (v := 3) hx hb dX3_shortLetter_11 (by decide) ?_
      refine lv_icmp_ge (tgt := 48) hx hb dX3_shortLetter_12 (by decide) (fun c1 => ?_) (fun c1 => ?_)
      · have h := it_t h c1
        exact b48 _ h _ _ _ w (lv_sub hl [0] rfl)
      · have h := it_f h c1
        refine lv_iload_n hx hb dX3_shortLetter_15 rfl (lv_at hl 1 rfl) ?_
        refine lv_if_le (tgt := 48) hx hb dX3_shortLetter_16 (by decide) (fun c2 => ?_) (fun c2 => ?_)
        · have h := it_t h c2
          exact b48 _ h _ _ _ w (lv_sub hl [0] rfl)
        · have h := it_f h c2
          refine lv_iload_n hx hb dX3_shortLetter_19 rfl (lv_at hl 0 rfl) ?_
          refine lv_iload_n hx hb dX3_shortLetter_20 rfl (lv_at hl 1 rfl) ?_
          refine lv_iconst (v := 1) hx hb dX3_shortLetter_21 (by decide) ?_
          refine lv_isub hx hb dX3_shortLetter_22 ?_
          refine lv_iconst (v := 4) hx hb dX3_shortLetter_23 (by decide) ?_
          refine lv_irem hx hb dX3_shortLetter_24 (by decide) ?_
          refine lv_iconst (v := 1) hx hb dX3_shortLetter_25 (by decide) ?_
          refine lv_iadd hx hb dX3_shortLetter_26 ?_
          refine lv_iload_n hx hb dX3_shortLetter_27 rfl (lv_at hl 2 rfl) ?_
          refine lv_imul hx hb dX3_shortLetter_28 ?_
          refine lv_iadd hx hb dX3_shortLetter_29 ?_
          refine lv_istore_n (lv' := [(1, .int (x1 + ((((x2 - (1 : Int32)) - (x2 - (1 : Int32)) / (4 : Int32) * (4 : Int32)) + (1 : Int32)) * x3))), (2, .int x2), (3, .int x3), (4, .int x4)]) hx hb dX3_shortLetter_30 rfl hl (by decide) rfl (fun ls hl => ?_)
          refine lv_iload_n hx hb dX3_shortLetter_31 rfl (lv_at hl 2 rfl) ?_
          refine lv_bipush (v := 10) hx hb dX3_shortLetter_32 (by decide) ?_
          refine lv_imul hx hb dX3_shortLetter_34 ?_
          refine lv_istore_n (lv' := [(3, .int (x3 * (10 : Int32))), (1, .int (x1 + ((((x2 - (1 : Int32)) - (x2 - (1 : Int32)) / (4 : Int32) * (4 : Int32)) + (1 : Int32)) * x3))), (2, .int x2), (4, .int x4)]) hx hb dX3_shortLetter_35 rfl hl (by decide) rfl (fun ls hl => ?_)
          refine lv_iload_n hx hb dX3_shortLetter_36 rfl (lv_at hl 2 rfl) ?_
          refine lv_iconst (v := 1) hx hb dX3_shortLetter_37 (by decide) ?_
          refine lv_isub hx hb dX3_shortLetter_38 ?_
          refine lv_iconst (v := 4) hx hb dX3_shortLetter_39 (by decide) ?_
          refine lv_idiv hx hb dX3_shortLetter_40 (by decide) ?_
          refine lv_istore_n (lv' := [(2, .int ((x2 - (1 : Int32)) / (4 : Int32))), (3, .int (x3 * (10 : Int32))), (1, .int (x1 + ((((x2 - (1 : Int32)) - (x2 - (1 : Int32)) / (4 : Int32) * (4 : Int32)) + (1 : Int32)) * x3))), (4, .int x4)]) hx hb dX3_shortLetter_41 rfl hl (by decide) rfl (fun ls hl => ?_)
          refine lv_iinc (v := (x4 + (1 : Int32))) (lv' := [(4, .int (x4 + (1 : Int32))), (2, .int ((x2 - (1 : Int32)) / (4 : Int32))), (3, .int (x3 * (10 : Int32))), (1, .int (x1 + ((((x2 - (1 : Int32)) - (x2 - (1 : Int32)) / (4 : Int32) * (4 : Int32)) + (1 : Int32)) * x3)))]) hx hb dX3_shortLetter_42 hl (k := 3) rfl rfl (by decide) rfl (fun ls hl => ?_)
          refine lv_goto (tgt := 9) hx hb dX3_shortLetter_45 (by decide) ?_
          exact ih9 _ _ _ _ h _ _ _ w (lv_sub hl [3, 1, 2, 0] rfl)
  have h := hf
  unfold f_X3_shortLetter at h
  refine lv_iconst (v := 0) hx hb dX3_shortLetter_0 (by decide) ?_
  refine lv_istore_n (lv' := [(1, .int (0 : Int32)), (0, .int x0)]) hx hb dX3_shortLetter_1 rfl hl (by decide) rfl (fun ls hl => ?_)
  refine lv_iload_n hx hb dX3_shortLetter_2 rfl (lv_at hl 1 rfl) ?_
  refine lv_istore_n (lv' := [(2, .int x0), (1, .int (0 : Int32)), (0, .int x0)]) hx hb dX3_shortLetter_3 rfl hl (by decide) rfl (fun ls hl => ?_)
  refine lv_iconst (v := 1) hx hb dX3_shortLetter_4 (by decide) ?_
  refine lv_istore_n (lv' := [(3, .int (1 : Int32)), (2, .int x0), (1, .int (0 : Int32)), (0, .int x0)]) hx hb dX3_shortLetter_5 rfl hl (by decide) rfl (fun ls hl => ?_)
  refine lv_iconst (v := 0) hx hb dX3_shortLetter_6 (by decide) ?_
  refine lv_istore (lv' := [(4, .int (0 : Int32)), (3, .int (1 : Int32)), (2, .int x0), (1, .int (0 : Int32)), (0, .int x0)]) hx hb dX3_shortLetter_7 hl (by decide) rfl (fun ls hl => ?_)
  exact L9 FU _ _ _ _ h _ _ _ w (lv_sub hl [3, 2, 1, 0] rfl)
theorem hd_X10_allUnlike : yX10_allUnlike.cls ≠ "java/lang/invoke/MethodHandle" ∧ yX10_allUnlike.cls ≠ "java/lang/invoke/VarHandle" ∧ (parseMethodDescriptor yX10_allUnlike.desc).map (fun d => d.parameters.length) = some 4 := by decide +kernel
def f_X10_allUnlike (x0 : Int32) (x1 : Int32) (x2 : Int32) (x3 : Int32) : Option (Int32) := if x0 = x1 then (some (0 : Int32)) else (if x0 = x2 then (some (0 : Int32)) else (if x0 = x3 then (some (0 : Int32)) else (if x1 = x2 then (some (0 : Int32)) else (if x1 = x3 then (some (0 : Int32)) else (if x2 = x3 then (some (0 : Int32)) else (some (1 : Int32)))))))
abbrev rm_X10_allUnlike : Room := { frames := 0, cells := 0, slots := 0, locals := 0 }
set_option maxHeartbeats 4000000 in
set_option maxRecDepth 100000 in
theorem c_X10_allUnlike (l : Launch) (D : va_G) (ca : Nat → ClassId) (ws : va_W) (x0 : Int32) (x1 : Int32) (x2 : Int32) (x3 : Int32) (sz : Nat) (out : Int32) (hf : f_X10_allUnlike x0 x1 x2 x3 = some out) : Met l yX10_allUnlike (.code yX10_allUnlike cX10_allUnlike 4 (some .boolean) :: WL) rm_X10_allUnlike (PreC D ca ws sz [.int x0, .int x1, .int x2, .int x3]) (PostI D (va_A ws sz) ws out) 0 0 (va_A ws sz) := by
  refine Met.ofW (cc := cX10_allUnlike) (maxL := 4) (ret := (some .boolean)) (by decide) rfl ?_
  intro p e s m args below meth c s₁ B hml hv
  obtain ⟨rfl, hsz, hP, hK, hD, hN⟩ := hv
  subst hsz
  have C := Cx.mk (own := RX10) B hml rfl hK hN (ws := ws)
  have w : Wd (va_A ws s.heap.size) s D ws s.heap [] := ⟨hP, hD.self, va_S.rf⟩
  have hl := lv_entry ([.int x0, .int x1, .int x2, .int x3]) (n := 4) (Nat.le_of_ble_eq_true rfl)
  rw [lg_entry_eq]
  generalize (lg_sl ([.int x0, .int x1, .int x2, .int x3]) ++ List.replicate (4 - (lg_sl ([.int x0, .int x1, .int x2, .int x3])).length) Slot.unset).toArray = ls at hl ⊢
  have hl : lv_has ls 4 [(0, .int x0), (1, .int x1), (2, .int x2), (3, .int x3)] := hl
  change W p l e rm_X10_allUnlike s m _ below meth c _ [] 0 0 _ _
  clear B hP hD hK hN hml
  generalize va_A ws s.heap.size = A at C w ⊢
  generalize ([.int x0, .int x1, .int x2, .int x3] : List Value).toArray = av at C ⊢
  obtain ⟨Q, hQ⟩ : ∃ Q, Q = MQ below (PostI D A ws out) av s 0 0 A := ⟨_, rfl⟩
  rw [← hQ]
  have hx := C.1
  have hb := C.2.1
  have h := hf
  unfold f_X10_allUnlike at h
  refine lv_iload_n hx hb dX10_allUnlike_0 rfl (lv_at hl 0 rfl) ?_
  refine lv_iload_n hx hb dX10_allUnlike_1 rfl (lv_at hl 1 rfl) ?_
  refine lv_icmp_eq (tgt := 34) hx hb dX10_allUnlike_2 (by decide) (fun c1 => ?_) (fun c1 => ?_)
  · have h := it_t h c1
    refine lv_iconst (v := 0) hx hb dX10_allUnlike_34 (by decide) ?_
    rw [hQ]
    exact qZ C w (by decide) h dX10_allUnlike_35
  · have h := it_f h c1
    refine lv_iload_n hx hb dX10_allUnlike_5 rfl (lv_at hl 0 rfl) ?_
    refine lv_iload_n hx hb dX10_allUnlike_6 rfl (lv_at hl 2 rfl) ?_
    refine lv_icmp_eq (tgt := 34) hx hb dX10_allUnlike_7 (by decide) (fun c2 => ?_) (fun c2 => ?_)
    · have h := it_t h c2
      refine lv_iconst (v := 0) hx hb dX10_allUnlike_34 (by decide) ?_
      rw [hQ]
      exact qZ C w (by decide) h dX10_allUnlike_35
    · have h := it_f h c2
      refine lv_iload_n hx hb dX10_allUnlike_10 rfl (lv_at hl 0 rfl) ?_
      refine lv_iload_n hx hb dX10_allUnlike_11 rfl (lv_at hl 3 rfl) ?_
      refine lv_icmp_eq (tgt := 34) hx hb dX10_allUnlike_12 (by decide) (fun c3 => ?_) (fun c3 => ?_)
      · have h := it_t h c3
        refine lv_iconst (v := 0) hx hb dX10_allUnlike_34 (by decide) ?_
        rw [hQ]
        exact qZ C w (by decide) h dX10_allUnlike_35
      · have h := it_f h c3
        refine lv_iload_n hx hb dX10_allUnlike_15 rfl (lv_at hl 1 rfl) ?_
        refine lv_iload_n hx hb dX10_allUnlike_16 rfl (lv_at hl 2 rfl) ?_
        refine lv_icmp_eq (tgt := 34) hx hb dX10_allUnlike_17 (by decide) (fun c4 => ?_) (fun c4 => ?_)
        · have h := it_t h c4
          refine lv_iconst (v := 0) hx hb dX10_allUnlike_34 (by decide) ?_
          rw [hQ]
          exact qZ C w (by decide) h dX10_allUnlike_35
        · have h := it_f h c4
          refine lv_iload_n hx hb dX10_allUnlike_20 rfl (lv_at hl 1 rfl) ?_
          refine lv_iload_n hx hb dX10_allUnlike_21 rfl (lv_at hl 3 rfl) ?_
          refine lv_icmp_eq (tgt := 34) hx hb dX10_allUnlike_22 (by decide) (fun c5 => ?_) (fun c5 => ?_)
          · have h := it_t h c5
            refine lv_iconst (v := 0) hx hb dX10_allUnlike_34 (by decide) ?_
            rw [hQ]
            exact qZ C w (by decide) h dX10_allUnlike_35
          · have h := it_f h c5
            refine lv_iload_n hx hb dX10_allUnlike_25 rfl (lv_at hl 2 rfl) ?_
            refine lv_iload_n hx hb dX10_allUnlike_26 rfl (lv_at hl 3 rfl) ?_
            refine lv_icmp_eq (tgt := 34) hx hb dX10_allUnlike_27 (by decide) (fun c6 => ?_) (fun c6 => ?_)
            · have h := it_t h c6
              refine lv_iconst (v := 0) hx hb dX10_allUnlike_34 (by decide) ?_
              rw [hQ]
              exact qZ C w (by decide) h dX10_allUnlike_35
            · have h := it_f h c6
              refine lv_iconst (v := 1) hx hb dX10_allUnlike_30 (by decide) ?_
              refine lv_goto (tgt := 35) hx hb dX10_allUnlike_31 (by decide) ?_
              rw [hQ]
              exact qZ C w (by decide) h dX10_allUnlike_35
theorem hd_X10_gain : yX10_gain.cls ≠ "java/lang/invoke/MethodHandle" ∧ yX10_gain.cls ≠ "java/lang/invoke/VarHandle" ∧ (parseMethodDescriptor yX10_gain.desc).map (fun d => d.parameters.length) = some 3 := by decide +kernel
def f_X10_gain_b29 (x3 : Int32) (y0 : Int32) : Option (Int32) := if x3 = 0 then (if y0 = 0 then (some (0 : Int32)) else (some (1 : Int32))) else (if y0 = 0 then (some (-1 : Int32)) else (some (2 : Int32)))
def f_X10_gain_b14 (x0 : Int32) (x2 : Int32) (y0 : Int32) : Option (Int32) := if ((x2 >>> (x0 &&& 31)) &&& (1 : Int32)) = (1 : Int32) then (f_X10_gain_b29 y0 (1 : Int32)) else (f_X10_gain_b29 y0 (0 : Int32))
def f_X10_gain (x0 : Int32) (x1 : Int32) (x2 : Int32) : Option (Int32) := if ((x0 >>> (x1 &&& 31)) &&& (1 : Int32)) = (1 : Int32) then (f_X10_gain_b14 x0 x2 (1 : Int32)) else (f_X10_gain_b14 x0 x2 (0 : Int32))
abbrev rm_X10_gain : Room := { frames := 0, cells := 0, slots := 0, locals := 0 }
set_option maxHeartbeats 4000000 in
set_option maxRecDepth 100000 in
theorem c_X10_gain (l : Launch) (D : va_G) (ca : Nat → ClassId) (ws : va_W) (x0 : Int32) (x1 : Int32) (x2 : Int32) (sz : Nat) (out : Int32) (hf : f_X10_gain x0 x1 x2 = some out) : Met l yX10_gain (.code yX10_gain cX10_gain 5 (some .int) :: WL) rm_X10_gain (PreC D ca ws sz [.int x0, .int x1, .int x2]) (PostI D (va_A ws sz) ws out) 0 0 (va_A ws sz) := by
  refine Met.ofW (cc := cX10_gain) (maxL := 5) (ret := (some .int)) (by decide) rfl ?_
  intro p e s m args below meth c s₁ B hml hv
  obtain ⟨rfl, hsz, hP, hK, hD, hN⟩ := hv
  subst hsz
  have C := Cx.mk (own := RX10) B hml rfl hK hN (ws := ws)
  have w : Wd (va_A ws s.heap.size) s D ws s.heap [] := ⟨hP, hD.self, va_S.rf⟩
  have hl := lv_entry ([.int x0, .int x1, .int x2]) (n := 5) (Nat.le_of_ble_eq_true rfl)
  rw [lg_entry_eq]
  generalize (lg_sl ([.int x0, .int x1, .int x2]) ++ List.replicate (5 - (lg_sl ([.int x0, .int x1, .int x2])).length) Slot.unset).toArray = ls at hl ⊢
  have hl : lv_has ls 5 [(0, .int x0), (1, .int x1), (2, .int x2)] := hl
  change W p l e rm_X10_gain s m _ below meth c _ [] 0 0 _ _
  clear B hP hD hK hN hml
  generalize va_A ws s.heap.size = A at C w ⊢
  generalize ([.int x0, .int x1, .int x2] : List Value).toArray = av at C ⊢
  obtain ⟨Q, hQ⟩ : ∃ Q, Q = MQ below (PostI D A ws out) av s 0 0 A := ⟨_, rfl⟩
  rw [← hQ]
  have hx := C.1
  have hb := C.2.1
  have b29 : ∀ (x3 : Int32) (y0 : Int32), f_X10_gain_b29 x3 y0 = some out → Bk p l e rm_X10_gain s m av below meth c A D 5 Q ws 29 [(3, .int x3)] [.int y0] := by
    intro x3 y0 h H locs ls w hl
    unfold f_X10_gain_b29 at h
    refine lv_istore (lv' := [(4, .int y0), (3, .int x3)]) hx hb dX10_gain_29 hl (by decide) rfl (fun ls hl => ?_)
    refine lv_iload_n hx hb dX10_gain_31 rfl (lv_at hl 1 rfl) ?_
    refine lv_if_eq (tgt := 46) hx hb dX10_gain_32 (by decide) (fun c1 => ?_) (fun c1 => ?_)
    · have h := it_t h c1
      refine lv_iload hx hb dX10_gain_46 (lv_at hl 0 rfl) ?_
      refine lv_if_eq (tgt := 55) hx hb dX10_gain_48 (by decide) (fun c2 => ?_) (fun c2 => ?_)
      · have h := it_t h c2
        refine lv_iconst (v := 0) hx hb dX10_gain_55 (by decide) ?_
        rw [hQ]
        exact qI C w h dX10_gain_56
      · have h := it_f h c2
        refine lv_iconst (v := 1) hx hb dX10_gain_51 (by decide) ?_
        refine lv_goto (tgt := 56) hx hb dX10_gain_52 (by decide) ?_
        rw [hQ]
        exact qI C w h dX10_gain_56
    · have h := it_f h c1
      refine lv_iload hx hb dX10_gain_35 (lv_at hl 0 rfl) ?_
      refine lv_if_eq (tgt := 44) hx hb dX10_gain_37 (by decide) (fun c3 => ?_) (fun c3 => ?_)
      · have h := it_t h c3
        refine lv_iconst (v := -1) hx hb dX10_gain_44 (by decide) ?_
        rw [hQ]
        exact qI C w h dX10_gain_45
      · have h := it_f h c3
        refine lv_iconst (v := 2) hx hb dX10_gain_40 (by decide) ?_
        refine lv_goto (tgt := 45) hx hb dX10_gain_41 (by decide) ?_
        rw [hQ]
        exact qI C w h dX10_gain_45
  have b14 : ∀ (x0 : Int32) (x2 : Int32) (y0 : Int32), f_X10_gain_b14 x0 x2 y0 = some out → Bk p l e rm_X10_gain s m av below meth c A D 5 Q ws 14 [(0, .int x0), (2, .int x2)] [.int y0] := by
    intro x0 x2 y0 h H locs ls w hl
    unfold f_X10_gain_b14 at h
    refine lv_istore_n (lv' := [(3, .int y0), (0, .int x0), (2, .int x2)]) hx hb dX10_gain_14 rfl hl (by decide) rfl (fun ls hl => ?_)
    refine lv_iload_n hx hb dX10_gain_15 rfl (lv_at hl 2 rfl) ?_
    refine lv_iload_n hx hb dX10_gain_16 rfl (lv_at hl 1 rfl) ?_
    refine lv_ishr hx hb dX10_gain_17 ?_
    refine lv_iconst (v := 1) hx hb dX10_gain_18 (by decide) ?_
    refine lv_iand hx hb dX10_gain_19 ?_
    refine lv_iconst (v := 1) hx hb dX10_gain_20 (by decide) ?_
    refine lv_icmp_ne (tgt := 28) hx hb dX10_gain_21 (by decide) (fun c1 => ?_) (fun c1 => ?_)
    · have h := it_f h c1
      refine lv_iconst (v := 0) hx hb dX10_gain_28 (by decide) ?_
      exact b29 _ _ h _ _ _ w (lv_sub hl [0] rfl)
    · have h := it_t h c1
      refine lv_iconst (v := 1) hx hb dX10_gain_24 (by decide) ?_
      refine lv_goto (tgt := 29) hx hb dX10_gain_25 (by decide) ?_
      exact b29 _ _ h _ _ _ w (lv_sub hl [0] rfl)
  have h := hf
  unfold f_X10_gain at h
  refine lv_iload_n hx hb dX10_gain_0 rfl (lv_at hl 0 rfl) ?_
  refine lv_iload_n hx hb dX10_gain_1 rfl (lv_at hl 1 rfl) ?_
  refine lv_ishr hx hb dX10_gain_2 ?_
  refine lv_iconst (v := 1) hx hb dX10_gain_3 (by decide) ?_
  refine lv_iand hx hb dX10_gain_4 ?_
  refine lv_iconst (v := 1) hx hb dX10_gain_5 (by decide) ?_
  refine lv_icmp_ne (tgt := 13) hx hb dX10_gain_6 (by decide) (fun c1 => ?_) (fun c1 => ?_)
  · have h := it_f h c1
    refine lv_iconst (v := 0) hx hb dX10_gain_13 (by decide) ?_
    exact b14 _ _ _ h _ _ _ w (lv_sub hl [0, 2] rfl)
  · have h := it_t h c1
    refine lv_iconst (v := 1) hx hb dX10_gain_9 (by decide) ?_
    refine lv_goto (tgt := 14) hx hb dX10_gain_10 (by decide) ?_
    exact b14 _ _ _ h _ _ _ w (lv_sub hl [0, 2] rfl)
theorem hd_X10_drawn : yX10_drawn.cls ≠ "java/lang/invoke/MethodHandle" ∧ yX10_drawn.cls ≠ "java/lang/invoke/VarHandle" ∧ (parseMethodDescriptor yX10_drawn.desc).map (fun d => d.parameters.length) = some 1 := by decide +kernel
def f_X10_drawn (x0 : Int64) : Option (Int64) := some (((x0 * (1103515245 : Int64)) + (12345 : Int64)) - ((x0 * (1103515245 : Int64)) + (12345 : Int64)) / (2147483648 : Int64) * (2147483648 : Int64))
abbrev rm_X10_drawn : Room := { frames := 0, cells := 0, slots := 0, locals := 0 }
set_option maxHeartbeats 4000000 in
set_option maxRecDepth 100000 in
theorem c_X10_drawn (l : Launch) (D : va_G) (ca : Nat → ClassId) (ws : va_W) (x0 : Int64) (sz : Nat) (out : Int64) (hf : f_X10_drawn x0 = some out) : Met l yX10_drawn (.code yX10_drawn cX10_drawn 2 (some .long) :: WL) rm_X10_drawn (PreC D ca ws sz [.long x0]) (PostL D (va_A ws sz) ws out) 0 0 (va_A ws sz) := by
  refine Met.ofW (cc := cX10_drawn) (maxL := 2) (ret := (some .long)) (by decide) rfl ?_
  intro p e s m args below meth c s₁ B hml hv
  obtain ⟨rfl, hsz, hP, hK, hD, hN⟩ := hv
  subst hsz
  have C := Cx.mk (own := RX10) B hml rfl hK hN (ws := ws)
  have w : Wd (va_A ws s.heap.size) s D ws s.heap [] := ⟨hP, hD.self, va_S.rf⟩
  have hl := lv_entry ([.long x0]) (n := 2) (Nat.le_of_ble_eq_true rfl)
  rw [lg_entry_eq]
  generalize (lg_sl ([.long x0]) ++ List.replicate (2 - (lg_sl ([.long x0])).length) Slot.unset).toArray = ls at hl ⊢
  have hl : lv_has ls 2 [(0, .long x0)] := hl
  change W p l e rm_X10_drawn s m _ below meth c _ [] 0 0 _ _
  clear B hP hD hK hN hml
  generalize va_A ws s.heap.size = A at C w ⊢
  generalize ([.long x0] : List Value).toArray = av at C ⊢
  obtain ⟨Q, hQ⟩ : ∃ Q, Q = MQ below (PostL D A ws out) av s 0 0 A := ⟨_, rfl⟩
  rw [← hQ]
  have hx := C.1
  have hb := C.2.1
  have h := hf
  unfold f_X10_drawn at h
  refine lv_lload_n hx hb dX10_drawn_0 rfl (lv_at hl 0 rfl) ?_
  refine lv_ldc2 (v := 1103515245) hx hb C.ow (C.ts _ wl_894) dX10_drawn_1 ?_
  refine lv_lmul hx hb dX10_drawn_4 ?_
  refine lv_ldc2 (v := 12345) hx hb C.ow (C.ts _ wl_895) dX10_drawn_5 ?_
  refine lv_ladd hx hb dX10_drawn_8 ?_
  refine lv_ldc2 (v := 2147483648) hx hb C.ow (C.ts _ wl_896) dX10_drawn_9 ?_
  refine lv_lrem hx hb dX10_drawn_12 (by decide) ?_
  rw [hQ]
  exact qJ C w h dX10_drawn_13
theorem hd_X5_copied : yX5_copied.cls = RX5 ∧ yX5_copied.cls ≠ "java/lang/invoke/MethodHandle" ∧ yX5_copied.cls ≠ "java/lang/invoke/VarHandle" ∧ (parseMethodDescriptor yX5_copied.desc).map (fun d => d.parameters.length) = some 2 := by decide +kernel
def f_X5_copied (x1 : Int32) (x2 : Int32) : Option (Int32) := some x1
abbrev rm_X5_copied : Room := { frames := 0, cells := 0, slots := 0, locals := 0 }
set_option maxHeartbeats 4000000 in
set_option maxRecDepth 100000 in
theorem c_X5_copied (l : Launch) (D : va_G) (ca : Nat → ClassId) (ws : va_W) (h0 : Nat) (hq : Rcv ws h0) (x1 : Int32) (x2 : Int32) (sz : Nat) (out : Int32) (hf : f_X5_copied x1 x2 = some out) : Met l yX5_copied (.code yX5_copied cX5_copied 3 (some .int) :: WL) rm_X5_copied (PreC D ca ws sz [.ref h0, .int x1, .int x2]) (PostI D (va_A ws sz) ws out) 0 0 (va_A ws sz) := by
  refine Met.ofW (cc := cX5_copied) (maxL := 3) (ret := (some .int)) (by decide) rfl ?_
  intro p e s m args below meth c s₁ B hml hv
  obtain ⟨rfl, hsz, hP, hK, hD, hN⟩ := hv
  subst hsz
  have C := Cx.mk (own := RX5) B hml rfl hK hN (ws := ws)
  have w : Wd (va_A ws s.heap.size) s D ws s.heap [] := ⟨hP, hD.self, va_S.rf⟩
  have hl := lv_entry ([.ref h0, .int x1, .int x2]) (n := 3) (Nat.le_of_ble_eq_true rfl)
  rw [lg_entry_eq]
  generalize (lg_sl ([.ref h0, .int x1, .int x2]) ++ List.replicate (3 - (lg_sl ([.ref h0, .int x1, .int x2])).length) Slot.unset).toArray = ls at hl ⊢
  have hl : lv_has ls 3 [(0, .ref h0), (1, .int x1), (2, .int x2)] := hl
  change W p l e rm_X5_copied s m _ below meth c _ [] 0 0 _ _
  clear B hP hD hK hN hml
  generalize va_A ws s.heap.size = A at C w ⊢
  generalize ([.ref h0, .int x1, .int x2] : List Value).toArray = av at C ⊢
  obtain ⟨Q, hQ⟩ : ∃ Q, Q = MQ below (PostI D A ws out) av s 0 0 A := ⟨_, rfl⟩
  rw [← hQ]
  have hx := C.1
  have hb := C.2.1
  have h := hf
  unfold f_X5_copied at h
  refine lv_iload_n hx hb dX5_copied_0 rfl (lv_at hl 1 rfl) ?_
  rw [hQ]
  exact qI C w h dX5_copied_1
theorem hd_X5_lasts : yX5_lasts.cls = RX5 ∧ yX5_lasts.cls ≠ "java/lang/invoke/MethodHandle" ∧ yX5_lasts.cls ≠ "java/lang/invoke/VarHandle" ∧ (parseMethodDescriptor yX5_lasts.desc).map (fun d => d.parameters.length) = some 1 := by decide +kernel
def f_X5_lasts (x1 : Int32) : Option (Int32) := some (1 : Int32)
abbrev rm_X5_lasts : Room := { frames := 0, cells := 0, slots := 0, locals := 0 }
set_option maxHeartbeats 4000000 in
set_option maxRecDepth 100000 in
theorem c_X5_lasts (l : Launch) (D : va_G) (ca : Nat → ClassId) (ws : va_W) (h0 : Nat) (hq : Rcv ws h0) (x1 : Int32) (sz : Nat) (out : Int32) (hf : f_X5_lasts x1 = some out) : Met l yX5_lasts (.code yX5_lasts cX5_lasts 2 (some .int) :: WL) rm_X5_lasts (PreC D ca ws sz [.ref h0, .int x1]) (PostI D (va_A ws sz) ws out) 0 0 (va_A ws sz) := by
  refine Met.ofW (cc := cX5_lasts) (maxL := 2) (ret := (some .int)) (by decide) rfl ?_
  intro p e s m args below meth c s₁ B hml hv
  obtain ⟨rfl, hsz, hP, hK, hD, hN⟩ := hv
  subst hsz
  have C := Cx.mk (own := RX5) B hml rfl hK hN (ws := ws)
  have w : Wd (va_A ws s.heap.size) s D ws s.heap [] := ⟨hP, hD.self, va_S.rf⟩
  have hl := lv_entry ([.ref h0, .int x1]) (n := 2) (Nat.le_of_ble_eq_true rfl)
  rw [lg_entry_eq]
  generalize (lg_sl ([.ref h0, .int x1]) ++ List.replicate (2 - (lg_sl ([.ref h0, .int x1])).length) Slot.unset).toArray = ls at hl ⊢
  have hl : lv_has ls 2 [(0, .ref h0), (1, .int x1)] := hl
  change W p l e rm_X5_lasts s m _ below meth c _ [] 0 0 _ _
  clear B hP hD hK hN hml
  generalize va_A ws s.heap.size = A at C w ⊢
  generalize ([.ref h0, .int x1] : List Value).toArray = av at C ⊢
  obtain ⟨Q, hQ⟩ : ∃ Q, Q = MQ below (PostI D A ws out) av s 0 0 A := ⟨_, rfl⟩
  rw [← hQ]
  have hx := C.1
  have hb := C.2.1
  have h := hf
  unfold f_X5_lasts at h
  refine lv_iconst (v := 1) hx hb dX5_lasts_0 (by decide) ?_
  rw [hQ]
  exact qI C w h dX5_lasts_1
theorem hd_X0_copied : yX0_copied.cls = RX0 ∧ yX0_copied.cls ≠ "java/lang/invoke/MethodHandle" ∧ yX0_copied.cls ≠ "java/lang/invoke/VarHandle" ∧ (parseMethodDescriptor yX0_copied.desc).map (fun d => d.parameters.length) = some 2 := by decide +kernel
def f_X0_copied (x1 : Int32) (x2 : Int32) : Option (Int32) := (f_X5_copied x1 x2).bind fun q1 => some (q1 / (10 : Int32))
abbrev rm_X0_copied : Room := { frames := 1, cells := 0, slots := 0, locals := 60 }
set_option maxHeartbeats 4000000 in
set_option maxRecDepth 100000 in
theorem c_X0_copied (l : Launch) (D : va_G) (ca : Nat → ClassId) (ws : va_W) (h0 : Nat) (hq : Rcv ws h0) (x1 : Int32) (x2 : Int32) (sz : Nat) (out : Int32) (hf : f_X0_copied x1 x2 = some out) : Met l yX0_copied (.code yX0_copied cX0_copied 3 (some .int) :: WL) rm_X0_copied (PreC D ca ws sz [.ref h0, .int x1, .int x2]) (PostI D (va_A ws sz) ws out) 0 0 (va_A ws sz) := by
  refine Met.ofW (cc := cX0_copied) (maxL := 3) (ret := (some .int)) (by decide) rfl ?_
  intro p e s m args below meth c s₁ B hml hv
  obtain ⟨rfl, hsz, hP, hK, hD, hN⟩ := hv
  subst hsz
  have C := Cx.mk (own := RX0) B hml rfl hK hN (ws := ws)
  have w : Wd (va_A ws s.heap.size) s D ws s.heap [] := ⟨hP, hD.self, va_S.rf⟩
  have hl := lv_entry ([.ref h0, .int x1, .int x2]) (n := 3) (Nat.le_of_ble_eq_true rfl)
  rw [lg_entry_eq]
  generalize (lg_sl ([.ref h0, .int x1, .int x2]) ++ List.replicate (3 - (lg_sl ([.ref h0, .int x1, .int x2])).length) Slot.unset).toArray = ls at hl ⊢
  have hl : lv_has ls 3 [(0, .ref h0), (1, .int x1), (2, .int x2)] := hl
  change W p l e rm_X0_copied s m _ below meth c _ [] 0 0 _ _
  clear B hP hD hK hN hml
  generalize va_A ws s.heap.size = A at C w ⊢
  generalize ([.ref h0, .int x1, .int x2] : List Value).toArray = av at C ⊢
  obtain ⟨Q, hQ⟩ : ∃ Q, Q = MQ below (PostI D A ws out) av s 0 0 A := ⟨_, rfl⟩
  rw [← hQ]
  have hx := C.1
  have hb := C.2.1
  have h := hf
  unfold f_X0_copied at h
  refine lv_aload_n hx hb dX0_copied_0 rfl (lv_at hl 0 rfl) ?_
  refine lv_iload_n hx hb dX0_copied_1 rfl (lv_at hl 1 rfl) ?_
  refine lv_iload_n hx hb dX0_copied_2 rfl (lv_at hl 2 rfl) ?_
  obtain ⟨q1, hq1, h⟩ := ob_t h
  refine res_i C w (run_SU (As := [.int x1, .int x2]) (rest := []) C w hl.1 hq (c_X5_copied l D ca _ h0 hq x1 x2 _ q1 hq1) rfl rfl wl_470 wl_465 wl_471 wl_472 wl_14 wl_473 hs_X5_copied rfl ⟨Nat.le_of_ble_eq_true rfl, Nat.le_of_ble_eq_true rfl⟩ rfl (Nat.le_of_ble_eq_true rfl) dX0_copied_3) (fun H locs w => ?_)
  refine lv_bipush (v := 10) hx hb dX0_copied_6 (by decide) ?_
  refine lv_idiv hx hb dX0_copied_8 (by decide) ?_
  rw [hQ]
  exact qI C w h dX0_copied_9
theorem hd_X4_lasts : yX4_lasts.cls = RX4 ∧ yX4_lasts.cls ≠ "java/lang/invoke/MethodHandle" ∧ yX4_lasts.cls ≠ "java/lang/invoke/VarHandle" ∧ (parseMethodDescriptor yX4_lasts.desc).map (fun d => d.parameters.length) = some 1 := by decide +kernel
def f_X4_lasts (x1 : Int32) : Option (Int32) := (f_X5_lasts x1).bind fun q1 => some (q1 + (1 : Int32))
abbrev rm_X4_lasts : Room := { frames := 1, cells := 0, slots := 0, locals := 60 }
set_option maxHeartbeats 4000000 in
set_option maxRecDepth 100000 in
theorem c_X4_lasts (l : Launch) (D : va_G) (ca : Nat → ClassId) (ws : va_W) (h0 : Nat) (hq : Rcv ws h0) (x1 : Int32) (sz : Nat) (out : Int32) (hf : f_X4_lasts x1 = some out) : Met l yX4_lasts (.code yX4_lasts cX4_lasts 2 (some .int) :: WL) rm_X4_lasts (PreC D ca ws sz [.ref h0, .int x1]) (PostI D (va_A ws sz) ws out) 0 0 (va_A ws sz) := by
  refine Met.ofW (cc := cX4_lasts) (maxL := 2) (ret := (some .int)) (by decide) rfl ?_
  intro p e s m args below meth c s₁ B hml hv
  obtain ⟨rfl, hsz, hP, hK, hD, hN⟩ := hv
  subst hsz
  have C := Cx.mk (own := RX4) B hml rfl hK hN (ws := ws)
  have w : Wd (va_A ws s.heap.size) s D ws s.heap [] := ⟨hP, hD.self, va_S.rf⟩
  have hl := lv_entry ([.ref h0, .int x1]) (n := 2) (Nat.le_of_ble_eq_true rfl)
  rw [lg_entry_eq]
  generalize (lg_sl ([.ref h0, .int x1]) ++ List.replicate (2 - (lg_sl ([.ref h0, .int x1])).length) Slot.unset).toArray = ls at hl ⊢
  have hl : lv_has ls 2 [(0, .ref h0), (1, .int x1)] := hl
  change W p l e rm_X4_lasts s m _ below meth c _ [] 0 0 _ _
  clear B hP hD hK hN hml
  generalize va_A ws s.heap.size = A at C w ⊢
  generalize ([.ref h0, .int x1] : List Value).toArray = av at C ⊢
  obtain ⟨Q, hQ⟩ : ∃ Q, Q = MQ below (PostI D A ws out) av s 0 0 A := ⟨_, rfl⟩
  rw [← hQ]
  have hx := C.1
  have hb := C.2.1
  have h := hf
  unfold f_X4_lasts at h
  refine lv_aload_n hx hb dX4_lasts_0 rfl (lv_at hl 0 rfl) ?_
  refine lv_iload_n hx hb dX4_lasts_1 rfl (lv_at hl 1 rfl) ?_
  obtain ⟨q1, hq1, h⟩ := ob_t h
  refine res_i C w (run_SU (As := [.int x1]) (rest := []) C w hl.1 hq (c_X5_lasts l D ca _ h0 hq x1 _ q1 hq1) rfl rfl wl_507 wl_498 wl_508 wl_500 wl_14 wl_501 hs_X5_lasts rfl ⟨Nat.le_of_ble_eq_true rfl, Nat.le_of_ble_eq_true rfl⟩ rfl (Nat.le_of_ble_eq_true rfl) dX4_lasts_2) (fun H locs w => ?_)
  refine lv_iconst (v := 1) hx hb dX4_lasts_5 (by decide) ?_
  refine lv_iadd hx hb dX4_lasts_6 ?_
  rw [hQ]
  exact qI C w h dX4_lasts_7
theorem hd_X1_copied : yX1_copied.cls = RX1 ∧ yX1_copied.cls ≠ "java/lang/invoke/MethodHandle" ∧ yX1_copied.cls ≠ "java/lang/invoke/VarHandle" ∧ (parseMethodDescriptor yX1_copied.desc).map (fun d => d.parameters.length) = some 2 := by decide +kernel
def f_X1_copied (x1 : Int32) (x2 : Int32) : Option (Int32) := (f_X5_copied x1 x2).bind fun q1 => (f_X3_raised q1).bind fun q2 => some q2
abbrev rm_X1_copied : Room := { frames := 1, cells := 0, slots := 0, locals := 60 }
set_option maxHeartbeats 4000000 in
set_option maxRecDepth 100000 in
theorem c_X1_copied (l : Launch) (D : va_G) (ca : Nat → ClassId) (ws : va_W) (h0 : Nat) (hq : Rcv ws h0) (x1 : Int32) (x2 : Int32) (sz : Nat) (out : Int32) (hf : f_X1_copied x1 x2 = some out) : Met l yX1_copied (.code yX1_copied cX1_copied 3 (some .int) :: WL) rm_X1_copied (PreC D ca ws sz [.ref h0, .int x1, .int x2]) (PostI D (va_A ws sz) ws out) 0 0 (va_A ws sz) := by
  refine Met.ofW (cc := cX1_copied) (maxL := 3) (ret := (some .int)) (by decide) rfl ?_
  intro p e s m args below meth c s₁ B hml hv
  obtain ⟨rfl, hsz, hP, hK, hD, hN⟩ := hv
  subst hsz
  have C := Cx.mk (own := RX1) B hml rfl hK hN (ws := ws)
  have w : Wd (va_A ws s.heap.size) s D ws s.heap [] := ⟨hP, hD.self, va_S.rf⟩
  have hl := lv_entry ([.ref h0, .int x1, .int x2]) (n := 3) (Nat.le_of_ble_eq_true rfl)
  rw [lg_entry_eq]
  generalize (lg_sl ([.ref h0, .int x1, .int x2]) ++ List.replicate (3 - (lg_sl ([.ref h0, .int x1, .int x2])).length) Slot.unset).toArray = ls at hl ⊢
  have hl : lv_has ls 3 [(0, .ref h0), (1, .int x1), (2, .int x2)] := hl
  change W p l e rm_X1_copied s m _ below meth c _ [] 0 0 _ _
  clear B hP hD hK hN hml
  generalize va_A ws s.heap.size = A at C w ⊢
  generalize ([.ref h0, .int x1, .int x2] : List Value).toArray = av at C ⊢
  obtain ⟨Q, hQ⟩ : ∃ Q, Q = MQ below (PostI D A ws out) av s 0 0 A := ⟨_, rfl⟩
  rw [← hQ]
  have hx := C.1
  have hb := C.2.1
  have h := hf
  unfold f_X1_copied at h
  refine lv_aload_n hx hb dX1_copied_0 rfl (lv_at hl 0 rfl) ?_
  refine lv_iload_n hx hb dX1_copied_1 rfl (lv_at hl 1 rfl) ?_
  refine lv_iload_n hx hb dX1_copied_2 rfl (lv_at hl 2 rfl) ?_
  obtain ⟨q1, hq1, h⟩ := ob_t h
  refine res_i C w (run_SU (As := [.int x1, .int x2]) (rest := []) C w hl.1 hq (c_X5_copied l D ca _ h0 hq x1 x2 _ q1 hq1) rfl rfl wl_477 wl_465 wl_478 wl_472 wl_14 wl_473 hs_X5_copied rfl ⟨Nat.le_of_ble_eq_true rfl, Nat.le_of_ble_eq_true rfl⟩ rfl (Nat.le_of_ble_eq_true rfl) dX1_copied_3) (fun H locs w => ?_)
  obtain ⟨q2, hq2, h⟩ := ob_t h
  refine res_i C w (run_S (As := [.int q1]) (rest := []) C w hl.1 (c_X3_raised l D ca _ q1 _ q2 hq2) rfl rfl wl_479 wl_480 wl_461 wl_481 hd_X3_raised rfl ⟨Nat.le_of_ble_eq_true rfl, Nat.le_of_ble_eq_true rfl⟩ rfl (Nat.le_of_ble_eq_true rfl) dX1_copied_6) (fun H locs w => ?_)
  rw [hQ]
  exact qI C w h dX1_copied_9
theorem hd_X8_copied : yX8_copied.cls = RX8 ∧ yX8_copied.cls ≠ "java/lang/invoke/MethodHandle" ∧ yX8_copied.cls ≠ "java/lang/invoke/VarHandle" ∧ (parseMethodDescriptor yX8_copied.desc).map (fun d => d.parameters.length) = some 2 := by decide +kernel
def f_X8_copied (x1 : Int32) (x2 : Int32) : Option (Int32) := (f_X5_copied x1 x2).bind fun q1 => (f_X3_turned q1).bind fun q2 => some q2
abbrev rm_X8_copied : Room := { frames := 1, cells := 0, slots := 0, locals := 60 }
set_option maxHeartbeats 4000000 in
set_option maxRecDepth 100000 in
theorem c_X8_copied (l : Launch) (D : va_G) (ca : Nat → ClassId) (ws : va_W) (h0 : Nat) (hq : Rcv ws h0) (x1 : Int32) (x2 : Int32) (sz : Nat) (out : Int32) (hf : f_X8_copied x1 x2 = some out) : Met l yX8_copied (.code yX8_copied cX8_copied 3 (some .int) :: WL) rm_X8_copied (PreC D ca ws sz [.ref h0, .int x1, .int x2]) (PostI D (va_A ws sz) ws out) 0 0 (va_A ws sz) := by
  refine Met.ofW (cc := cX8_copied) (maxL := 3) (ret := (some .int)) (by decide) rfl ?_
  intro p e s m args below meth c s₁ B hml hv
  obtain ⟨rfl, hsz, hP, hK, hD, hN⟩ := hv
  subst hsz
  have C := Cx.mk (own := RX8) B hml rfl hK hN (ws := ws)
  have w : Wd (va_A ws s.heap.size) s D ws s.heap [] := ⟨hP, hD.self, va_S.rf⟩
  have hl := lv_entry ([.ref h0, .int x1, .int x2]) (n := 3) (Nat.le_of_ble_eq_true rfl)
  rw [lg_entry_eq]
  generalize (lg_sl ([.ref h0, .int x1, .int x2]) ++ List.replicate (3 - (lg_sl ([.ref h0, .int x1, .int x2])).length) Slot.unset).toArray = ls at hl ⊢
  have hl : lv_has ls 3 [(0, .ref h0), (1, .int x1), (2, .int x2)] := hl
  change W p l e rm_X8_copied s m _ below meth c _ [] 0 0 _ _
  clear B hP hD hK hN hml
  generalize va_A ws s.heap.size = A at C w ⊢
  generalize ([.ref h0, .int x1, .int x2] : List Value).toArray = av at C ⊢
  obtain ⟨Q, hQ⟩ : ∃ Q, Q = MQ below (PostI D A ws out) av s 0 0 A := ⟨_, rfl⟩
  rw [← hQ]
  have hx := C.1
  have hb := C.2.1
  have h := hf
  unfold f_X8_copied at h
  refine lv_aload_n hx hb dX8_copied_0 rfl (lv_at hl 0 rfl) ?_
  refine lv_iload_n hx hb dX8_copied_1 rfl (lv_at hl 1 rfl) ?_
  refine lv_iload_n hx hb dX8_copied_2 rfl (lv_at hl 2 rfl) ?_
  obtain ⟨q1, hq1, h⟩ := ob_t h
  refine res_i C w (run_SX (As := [.int x1, .int x2]) (rest := []) C w hl.1 hq (c_X5_copied l D ca _ h0 hq x1 x2 _ q1 hq1) rfl rfl wx_0 wx_1 wl_519 wl_508 wl_472 wl_14 wl_473 hs_X5_copied rfl ⟨Nat.le_of_ble_eq_true rfl, Nat.le_of_ble_eq_true rfl⟩ rfl (Nat.le_of_ble_eq_true rfl) dX8_copied_3 rfl rfl) (fun H locs w => ?_)
  obtain ⟨q2, hq2, h⟩ := ob_t h
  refine res_i C w (run_S (As := [.int q1]) (rest := []) C w hl.1 (c_X3_turned l D ca _ q1 _ q2 hq2) rfl rfl wl_494 wl_495 wl_461 wl_496 hd_X3_turned rfl ⟨Nat.le_of_ble_eq_true rfl, Nat.le_of_ble_eq_true rfl⟩ rfl (Nat.le_of_ble_eq_true rfl) dX8_copied_6) (fun H locs w => ?_)
  rw [hQ]
  exact qI C w h dX8_copied_9
theorem hd_X8_lasts : yX8_lasts.cls = RX8 ∧ yX8_lasts.cls ≠ "java/lang/invoke/MethodHandle" ∧ yX8_lasts.cls ≠ "java/lang/invoke/VarHandle" ∧ (parseMethodDescriptor yX8_lasts.desc).map (fun d => d.parameters.length) = some 1 := by decide +kernel
def f_X8_lasts (x1 : Int32) : Option (Int32) := (f_X4_lasts x1).bind fun q1 => some ((2 : Int32) * q1)
abbrev rm_X8_lasts : Room := { frames := 2, cells := 0, slots := 0, locals := 120 }
set_option maxHeartbeats 4000000 in
set_option maxRecDepth 100000 in
theorem c_X8_lasts (l : Launch) (D : va_G) (ca : Nat → ClassId) (ws : va_W) (h0 : Nat) (hq : Rcv ws h0) (x1 : Int32) (sz : Nat) (out : Int32) (hf : f_X8_lasts x1 = some out) : Met l yX8_lasts (.code yX8_lasts cX8_lasts 2 (some .int) :: WL) rm_X8_lasts (PreC D ca ws sz [.ref h0, .int x1]) (PostI D (va_A ws sz) ws out) 0 0 (va_A ws sz) := by
  refine Met.ofW (cc := cX8_lasts) (maxL := 2) (ret := (some .int)) (by decide) rfl ?_
  intro p e s m args below meth c s₁ B hml hv
  obtain ⟨rfl, hsz, hP, hK, hD, hN⟩ := hv
  subst hsz
  have C := Cx.mk (own := RX8) B hml rfl hK hN (ws := ws)
  have w : Wd (va_A ws s.heap.size) s D ws s.heap [] := ⟨hP, hD.self, va_S.rf⟩
  have hl := lv_entry ([.ref h0, .int x1]) (n := 2) (Nat.le_of_ble_eq_true rfl)
  rw [lg_entry_eq]
  generalize (lg_sl ([.ref h0, .int x1]) ++ List.replicate (2 - (lg_sl ([.ref h0, .int x1])).length) Slot.unset).toArray = ls at hl ⊢
  have hl : lv_has ls 2 [(0, .ref h0), (1, .int x1)] := hl
  change W p l e rm_X8_lasts s m _ below meth c _ [] 0 0 _ _
  clear B hP hD hK hN hml
  generalize va_A ws s.heap.size = A at C w ⊢
  generalize ([.ref h0, .int x1] : List Value).toArray = av at C ⊢
  obtain ⟨Q, hQ⟩ : ∃ Q, Q = MQ below (PostI D A ws out) av s 0 0 A := ⟨_, rfl⟩
  rw [← hQ]
  have hx := C.1
  have hb := C.2.1
  have h := hf
  unfold f_X8_lasts at h
  refine lv_iconst (v := 2) hx hb dX8_lasts_0 (by decide) ?_
  refine lv_aload_n hx hb dX8_lasts_1 rfl (lv_at hl 0 rfl) ?_
  refine lv_iload_n hx hb dX8_lasts_2 rfl (lv_at hl 1 rfl) ?_
  obtain ⟨q1, hq1, h⟩ := ob_t h
  refine res_i C w (run_SU (As := [.int x1]) (rest := [.int (2 : Int32)]) C w hl.1 hq (c_X4_lasts l D ca _ h0 hq x1 _ q1 hq1) rfl rfl wl_517 wl_518 wl_519 wl_505 wl_20 wl_506 hs_X4_lasts rfl ⟨Nat.le_of_ble_eq_true rfl, Nat.le_of_ble_eq_true rfl⟩ rfl (Nat.le_of_ble_eq_true rfl) dX8_lasts_3) (fun H locs w => ?_)
  refine lv_imul hx hb dX8_lasts_6 ?_
  rw [hQ]
  exact qI C w h dX8_lasts_7
theorem hd_X6_copied : yX6_copied.cls = RX6 ∧ yX6_copied.cls ≠ "java/lang/invoke/MethodHandle" ∧ yX6_copied.cls ≠ "java/lang/invoke/VarHandle" ∧ (parseMethodDescriptor yX6_copied.desc).map (fun d => d.parameters.length) = some 2 := by decide +kernel
def f_X6_copied (x1 : Int32) (x2 : Int32) : Option (Int32) := if (x2 - x2 / (2 : Int32) * (2 : Int32)) = 0 then (some x1) else ((f_X0_copied x1 x2).bind fun q1 => some q1)
abbrev rm_X6_copied : Room := { frames := 2, cells := 0, slots := 0, locals := 120 }
set_option maxHeartbeats 4000000 in
set_option maxRecDepth 100000 in
theorem c_X6_copied (l : Launch) (D : va_G) (ca : Nat → ClassId) (ws : va_W) (h0 : Nat) (hq : Rcv ws h0) (x1 : Int32) (x2 : Int32) (sz : Nat) (out : Int32) (hf : f_X6_copied x1 x2 = some out) : Met l yX6_copied (.code yX6_copied cX6_copied 3 (some .int) :: WL) rm_X6_copied (PreC D ca ws sz [.ref h0, .int x1, .int x2]) (PostI D (va_A ws sz) ws out) 0 0 (va_A ws sz) := by
  refine Met.ofW (cc := cX6_copied) (maxL := 3) (ret := (some .int)) (by decide) rfl ?_
  intro p e s m args below meth c s₁ B hml hv
  obtain ⟨rfl, hsz, hP, hK, hD, hN⟩ := hv
  subst hsz
  have C := Cx.mk (own := RX6) B hml rfl hK hN (ws := ws)
  have w : Wd (va_A ws s.heap.size) s D ws s.heap [] := ⟨hP, hD.self, va_S.rf⟩
  have hl := lv_entry ([.ref h0, .int x1, .int x2]) (n := 3) (Nat.le_of_ble_eq_true rfl)
  rw [lg_entry_eq]
  generalize (lg_sl ([.ref h0, .int x1, .int x2]) ++ List.replicate (3 - (lg_sl ([.ref h0, .int x1, .int x2])).length) Slot.unset).toArray = ls at hl ⊢
  have hl : lv_has ls 3 [(0, .ref h0), (1, .int x1), (2, .int x2)] := hl
  change W p l e rm_X6_copied s m _ below meth c _ [] 0 0 _ _
  clear B hP hD hK hN hml
  generalize va_A ws s.heap.size = A at C w ⊢
  generalize ([.ref h0, .int x1, .int x2] : List Value).toArray = av at C ⊢
  obtain ⟨Q, hQ⟩ : ∃ Q, Q = MQ below (PostI D A ws out) av s 0 0 A := ⟨_, rfl⟩
  rw [← hQ]
  have hx := C.1
  have hb := C.2.1
  have h := hf
  unfold f_X6_copied at h
  refine lv_iload_n hx hb dX6_copied_0 rfl (lv_at hl 2 rfl) ?_
  refine lv_iconst (v := 2) hx hb dX6_copied_1 (by decide) ?_
  refine lv_irem hx hb dX6_copied_2 (by decide) ?_
  refine lv_if_ne (tgt := 10) hx hb dX6_copied_3 (by decide) (fun c1 => ?_) (fun c1 => ?_)
  · have h := it_f h c1
    refine lv_aload_n hx hb dX6_copied_10 rfl (lv_at hl 0 rfl) ?_
    refine lv_iload_n hx hb dX6_copied_11 rfl (lv_at hl 1 rfl) ?_
    refine lv_iload_n hx hb dX6_copied_12 rfl (lv_at hl 2 rfl) ?_
    obtain ⟨q1, hq1, h⟩ := ob_t h
    refine res_i C w (run_SU (As := [.int x1, .int x2]) (rest := []) C w hl.1 hq (c_X0_copied l D ca _ h0 hq x1 x2 _ q1 hq1) rfl rfl wl_488 wl_489 wl_490 wl_468 wl_17 wl_469 hs_X0_copied rfl ⟨Nat.le_of_ble_eq_true rfl, Nat.le_of_ble_eq_true rfl⟩ rfl (Nat.le_of_ble_eq_true rfl) dX6_copied_13) (fun H locs w => ?_)
    rw [hQ]
    exact qI C w h dX6_copied_16
  · have h := it_t h c1
    refine lv_iload_n hx hb dX6_copied_6 rfl (lv_at hl 1 rfl) ?_
    refine lv_goto (tgt := 16) hx hb dX6_copied_7 (by decide) ?_
    rw [hQ]
    exact qI C w h dX6_copied_16
theorem hd_X6_lasts : yX6_lasts.cls = RX6 ∧ yX6_lasts.cls ≠ "java/lang/invoke/MethodHandle" ∧ yX6_lasts.cls ≠ "java/lang/invoke/VarHandle" ∧ (parseMethodDescriptor yX6_lasts.desc).map (fun d => d.parameters.length) = some 1 := by decide +kernel
def f_X6_lasts (x1 : Int32) : Option (Int32) := if (x1 - x1 / (4 : Int32) * (4 : Int32)) = 0 then ((f_X5_lasts x1).bind fun q2 => some (q2 + (3 : Int32))) else ((f_X5_lasts x1).bind fun q1 => some q1)
abbrev rm_X6_lasts : Room := { frames := 1, cells := 0, slots := 0, locals := 60 }
set_option maxHeartbeats 4000000 in
set_option maxRecDepth 100000 in
theorem c_X6_lasts (l : Launch) (D : va_G) (ca : Nat → ClassId) (ws : va_W) (h0 : Nat) (hq : Rcv ws h0) (x1 : Int32) (sz : Nat) (out : Int32) (hf : f_X6_lasts x1 = some out) : Met l yX6_lasts (.code yX6_lasts cX6_lasts 2 (some .int) :: WL) rm_X6_lasts (PreC D ca ws sz [.ref h0, .int x1]) (PostI D (va_A ws sz) ws out) 0 0 (va_A ws sz) := by
  refine Met.ofW (cc := cX6_lasts) (maxL := 2) (ret := (some .int)) (by decide) rfl ?_
  intro p e s m args below meth c s₁ B hml hv
  obtain ⟨rfl, hsz, hP, hK, hD, hN⟩ := hv
  subst hsz
  have C := Cx.mk (own := RX6) B hml rfl hK hN (ws := ws)
  have w : Wd (va_A ws s.heap.size) s D ws s.heap [] := ⟨hP, hD.self, va_S.rf⟩
  have hl := lv_entry ([.ref h0, .int x1]) (n := 2) (Nat.le_of_ble_eq_true rfl)
  rw [lg_entry_eq]
  generalize (lg_sl ([.ref h0, .int x1]) ++ List.replicate (2 - (lg_sl ([.ref h0, .int x1])).length) Slot.unset).toArray = ls at hl ⊢
  have hl : lv_has ls 2 [(0, .ref h0), (1, .int x1)] := hl
  change W p l e rm_X6_lasts s m _ below meth c _ [] 0 0 _ _
  clear B hP hD hK hN hml
  generalize va_A ws s.heap.size = A at C w ⊢
  generalize ([.ref h0, .int x1] : List Value).toArray = av at C ⊢
  obtain ⟨Q, hQ⟩ : ∃ Q, Q = MQ below (PostI D A ws out) av s 0 0 A := ⟨_, rfl⟩
  rw [← hQ]
  have hx := C.1
  have hb := C.2.1
  have h := hf
  unfold f_X6_lasts at h
  refine lv_iload_n hx hb dX6_lasts_0 rfl (lv_at hl 1 rfl) ?_
  refine lv_iconst (v := 4) hx hb dX6_lasts_1 (by decide) ?_
  refine lv_irem hx hb dX6_lasts_2 (by decide) ?_
  refine lv_if_ne (tgt := 16) hx hb dX6_lasts_3 (by decide) (fun c1 => ?_) (fun c1 => ?_)
  · have h := it_f h c1
    refine lv_aload_n hx hb dX6_lasts_16 rfl (lv_at hl 0 rfl) ?_
    refine lv_iload_n hx hb dX6_lasts_17 rfl (lv_at hl 1 rfl) ?_
    obtain ⟨q1, hq1, h⟩ := ob_t h
    refine res_i C w (run_SX (As := [.int x1]) (rest := []) C w hl.1 hq (c_X5_lasts l D ca _ h0 hq x1 _ q1 hq1) rfl rfl wx_2 wx_3 wl_490 wl_471 wl_500 wl_14 wl_501 hs_X5_lasts rfl ⟨Nat.le_of_ble_eq_true rfl, Nat.le_of_ble_eq_true rfl⟩ rfl (Nat.le_of_ble_eq_true rfl) dX6_lasts_18 rfl rfl) (fun H locs w => ?_)
    rw [hQ]
    exact qI C w h dX6_lasts_21
  · have h := it_t h c1
    refine lv_aload_n hx hb dX6_lasts_6 rfl (lv_at hl 0 rfl) ?_
    refine lv_iload_n hx hb dX6_lasts_7 rfl (lv_at hl 1 rfl) ?_
    obtain ⟨q2, hq2, h⟩ := ob_t h
    refine res_i C w (run_SX (As := [.int x1]) (rest := []) C w hl.1 hq (c_X5_lasts l D ca _ h0 hq x1 _ q2 hq2) rfl rfl wx_2 wx_3 wl_490 wl_471 wl_500 wl_14 wl_501 hs_X5_lasts rfl ⟨Nat.le_of_ble_eq_true rfl, Nat.le_of_ble_eq_true rfl⟩ rfl (Nat.le_of_ble_eq_true rfl) dX6_lasts_8 rfl rfl) (fun H locs w => ?_)
    refine lv_iconst (v := 3) hx hb dX6_lasts_11 (by decide) ?_
    refine lv_iadd hx hb dX6_lasts_12 ?_
    refine lv_goto (tgt := 21) hx hb dX6_lasts_13 (by decide) ?_
    rw [hQ]
    exact qI C w h dX6_lasts_21
