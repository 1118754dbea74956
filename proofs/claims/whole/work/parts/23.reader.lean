theorem hd_X9_behindRun : yX9_behindRun.cls = RX9 ∧ yX9_behindRun.cls ≠ "java/lang/invoke/MethodHandle" ∧ yX9_behindRun.cls ≠ "java/lang/invoke/VarHandle" ∧ (parseMethodDescriptor yX9_behindRun.desc).map (fun d => d.parameters.length) = some 3 := by decide +kernel
def f_X9_behindRun_b40 (σ : St) (x4 : Int32) : Option (Int32 × St) := some (x4, σ)
def f_X9_behindRun_b3 (K3 : St → Int32 → Int32 → Int32 → Option (Int32 × St)) (σ : St) (x2 : Int32) (x3 : Int32) (x4 : Int32) : Option (Int32 × St) := if (σ.1 4102) ≤ x4 then (f_X9_behindRun_b40 σ x4) else (cond (ckI x4 150) (if (σ.2.2 42 x4.toNatClampNeg) < x2 then (f_X9_behindRun_b40 σ x4) else (cond (ckI x4 150) (if x3 < (σ.2.2 42 x4.toNatClampNeg) then (f_X9_behindRun_b40 σ x4) else (K3 σ x2 x3 (x4 + (1 : Int32)))) none)) none)
def f_X9_behindRun_L3 : Nat → St → Int32 → Int32 → Int32 → Option (Int32 × St)
  | 0 => fun _ _ _ _ => none
  | n + 1 => f_X9_behindRun_b3 (f_X9_behindRun_L3 n)
def f_X9_behindRun (σ : St) (x1 : Int32) (x2 : Int32) (x3 : Int32) : Option (Int32 × St) := f_X9_behindRun_L3 FU σ x2 x3 x1
abbrev rm_X9_behindRun : Room := { frames := 0, cells := 0, slots := 0, locals := 0 }
set_option maxHeartbeats 4000000 in
set_option maxRecDepth 100000 in
theorem c_X9_behindRun (l : Launch) (D : va_G) (ca : Nat → ClassId) (ad : Nat → Nat) (σ : St) (x1 : Int32) (x2 : Int32) (x3 : Int32) (sz : Nat) (out : Int32 × St) (hf : f_X9_behindRun σ x1 x2 x3 = some out) : Met l yX9_behindRun (.code yX9_behindRun cX9_behindRun 5 (some .int) :: WL) rm_X9_behindRun (PreC D ca (CW ca ad σ) sz [.ref (ad 41), .int x1, .int x2, .int x3]) (PostI D (va_A (CW ca ad σ) sz) (CW ca ad out.2) out.1) 0 0 (va_A (CW ca ad σ) sz) := by
  refine Met.ofW (cc := cX9_behindRun) (maxL := 5) (ret := (some .int)) (by decide) rfl ?_
  intro p e s m args below meth c s₁ B hml hv
  obtain ⟨rfl, hsz, hP, hK, hD, hN⟩ := hv
  subst hsz
  have C := Cx.mk (own := RX9) B hml rfl hK hN (ws := (CW ca ad σ))
  have w : Wd (va_A (CW ca ad σ) s.heap.size) s D (CW ca ad σ) s.heap [] := ⟨hP, hD.self, va_S.rf⟩
  have hl := lv_entry ([.ref (ad 41), .int x1, .int x2, .int x3]) (n := 5) (Nat.le_of_ble_eq_true rfl)
  rw [lg_entry_eq]
  generalize (lg_sl ([.ref (ad 41), .int x1, .int x2, .int x3]) ++ List.replicate (5 - (lg_sl ([.ref (ad 41), .int x1, .int x2, .int x3])).length) Slot.unset).toArray = ls at hl ⊢
  have hl : lv_has ls 5 [(0, .ref (ad 41)), (1, .int x1), (2, .int x2), (3, .int x3)] := hl
  change W p l e rm_X9_behindRun s m _ below meth c _ [] 0 0 _ _
  clear B hP hD hK hN hml
  generalize va_A (CW ca ad σ) s.heap.size = A at C w ⊢
  generalize ([.ref (ad 41), .int x1, .int x2, .int x3] : List Value).toArray = av at C ⊢
  obtain ⟨Q, hQ⟩ : ∃ Q, Q = MQ below (PostI D A (CW ca ad out.2) out.1) av s 0 0 A := ⟨_, rfl⟩
  rw [← hQ]
  have hx := C.1
  have hb := C.2.1
  have b40 : ∀ (σ : St) (x4 : Int32), f_X9_behindRun_b40 σ x4 = some out → Bk p l e rm_X9_behindRun s m av below meth c A D 5 Q (CW ca ad σ) 40 [(4, .int x4)] [] := by
    intro σ x4 h H locs ls w hl
    unfold f_X9_behindRun_b40 at h
    refine lv_iload hx hb dX9_behindRun_40 (lv_at hl 0 rfl) ?_
    rw [hQ]
    exact rI (F := CW ca ad) C w h dX9_behindRun_42
  have L3 : ∀ (n3 : Nat) (σ : St) (x2 : Int32) (x3 : Int32) (x4 : Int32), f_X9_behindRun_L3 n3 σ x2 x3 x4 = some out → Bk p l e rm_X9_behindRun s m av below meth c A D 5 Q (CW ca ad σ) 3 [(0, .ref (ad 41)), (2, .int x2), (3, .int x3), (4, .int x4)] [] := by
    intro n3
    induction n3 with
    | zero => intro σ x2 x3 x4 h; exact absurd h (by simp [f_X9_behindRun_L3])
    | succ n3 ih3 =>
      intro σ x2 x3 x4 h H locs ls w hl
      change f_X9_behindRun_b3 (f_X9_behindRun_L3 n3) σ x2 x3 x4 = some out at h
      unfold f_X9_behindRun_b3 at h
      refine lv_iload hx hb dX9_behindRun_3 (lv_at hl 3 rfl) ?_
      refine lv_aload_n hx hb dX9_behindRun_5 rfl (lv_at hl 0 rfl) ?_
      refine gC41_2 (v := (σ.1 4102)) C w rfl wl_226 dX9_behindRun_6 ?_
      refine lv_icmp_ge (tgt := 40) hx hb dX9_behindRun_9 (by decide) (fun c1 => ?_) (fun c1 => ?_)
      · have h := it_t h c1
        exact b40 _ _ h _ _ _ w (lv_sub hl [3] rfl)
      · have h := it_f h c1
        refine lv_aload_n hx hb dX9_behindRun_12 rfl (lv_at hl 0 rfl) ?_
        refine gC41_0 C w wl_88 dX9_behindRun_13 ?_
        refine lv_iload hx hb dX9_behindRun_16 (lv_at hl 3 rfl) ?_
        obtain ⟨i2, h⟩ := ck_t h
        refine ldC42 (v := (σ.2.2 42 x4.toNatClampNeg)) C w i2 rfl dX9_behindRun_18 ?_
        refine lv_iload_n hx hb dX9_behindRun_19 rfl (lv_at hl 1 rfl) ?_
        refine lv_icmp_lt (tgt := 40) hx hb dX9_behindRun_20 (by decide) (fun c3 => ?_) (fun c3 => ?_)
        · have h := it_t h c3
          exact b40 _ _ h _ _ _ w (lv_sub hl [3] rfl)
        · have h := it_f h c3
          refine lv_aload_n hx hb dX9_behindRun_23 rfl (lv_at hl 0 rfl) ?_
          refine gC41_0 C w wl_88 dX9_behindRun_24 ?_
          refine lv_iload hx hb dX9_behindRun_27 (lv_at hl 3 rfl) ?_
          obtain ⟨i4, h⟩ := ck_t h
          refine ldC42 (v := (σ.2.2 42 x4.toNatClampNeg)) C w i4 rfl dX9_behindRun_29 ?_
          refine lv_iload_n hx hb dX9_behindRun_30 rfl (lv_at hl 2 rfl) ?_
          refine lv_icmp_gt (tgt := 40) hx hb dX9_behindRun_31 (by decide) (fun c5 => ?_) (fun c5 => ?_)
          · have h := it_t h c5
            exact b40 _ _ h _ _ _ w (lv_sub hl [3] rfl)
          · have h := it_f h c5
            refine lv_iinc (v := (x4 + (1 : Int32))) (lv' := [(4, .int (x4 + (1 : Int32))), (0, .ref (ad 41)), (2, .int x2), (3, .int x3)]) hx hb dX9_behindRun_34 hl (k := 3) rfl rfl (by decide) rfl (fun ls hl => ?_)
            refine lv_goto (tgt := 3) hx hb dX9_behindRun_37 (by decide) ?_
            exact ih3 _ _ _ _ h _ _ _ w (lv_sub hl [1, 2, 3, 0] rfl)
  have h := hf
  unfold f_X9_behindRun at h
  refine lv_iload_n hx hb dX9_behindRun_0 rfl (lv_at hl 1 rfl) ?_
  refine lv_istore (lv' := [(4, .int x1), (0, .ref (ad 41)), (1, .int x1), (2, .int x2), (3, .int x3)]) hx hb dX9_behindRun_1 hl (by decide) rfl (fun ls hl => ?_)
  exact L3 FU _ _ _ _ h _ _ _ w (lv_sub hl [1, 3, 4, 0] rfl)
theorem hd_X9_numberAtStart : yX9_numberAtStart.cls = RX9 ∧ yX9_numberAtStart.cls ≠ "java/lang/invoke/MethodHandle" ∧ yX9_numberAtStart.cls ≠ "java/lang/invoke/VarHandle" ∧ (parseMethodDescriptor yX9_numberAtStart.desc).map (fun d => d.parameters.length) = some 0 := by decide +kernel
def f_X9_numberAtStart_b7 (K7 : St → Int32 → Int32 → Option (Int32 × St)) (σ : St) (x1 : Int32) (x2 : Int32) : Option (Int32 × St) := if (σ.1 4103) ≤ x2 then (some (x1, σ)) else (cond (ckI x2 150) (K7 σ (((x1 * (10 : Int32)) + (σ.2.2 42 x2.toNatClampNeg)) - (48 : Int32)) (x2 + (1 : Int32))) none)
def f_X9_numberAtStart_L7 : Nat → St → Int32 → Int32 → Option (Int32 × St)
  | 0 => fun _ _ _ => none
  | n + 1 => f_X9_numberAtStart_b7 (f_X9_numberAtStart_L7 n)
def f_X9_numberAtStart (σ : St) : Option (Int32 × St) := f_X9_numberAtStart_L7 FU σ (0 : Int32) (σ.1 4104)
abbrev rm_X9_numberAtStart : Room := { frames := 0, cells := 0, slots := 0, locals := 0 }
set_option maxHeartbeats 4000000 in
set_option maxRecDepth 100000 in
theorem c_X9_numberAtStart (l : Launch) (D : va_G) (ca : Nat → ClassId) (ad : Nat → Nat) (σ : St)  (sz : Nat) (out : Int32 × St) (hf : f_X9_numberAtStart σ  = some out) : Met l yX9_numberAtStart (.code yX9_numberAtStart cX9_numberAtStart 3 (some .int) :: WL) rm_X9_numberAtStart (PreC D ca (CW ca ad σ) sz [.ref (ad 41)]) (PostI D (va_A (CW ca ad σ) sz) (CW ca ad out.2) out.1) 0 0 (va_A (CW ca ad σ) sz) := by
  refine Met.ofW (cc := cX9_numberAtStart) (maxL := 3) (ret := (some .int)) (by decide) rfl ?_
  intro p e s m args below meth c s₁ B hml hv
  obtain ⟨rfl, hsz, hP, hK, hD, hN⟩ := hv
  subst hsz
  have C := Cx.mk (own := RX9) B hml rfl hK hN (ws := (CW ca ad σ))
  have w : Wd (va_A (CW ca ad σ) s.heap.size) s D (CW ca ad σ) s.heap [] := ⟨hP, hD.self, va_S.rf⟩
  have hl := lv_entry ([.ref (ad 41)]) (n := 3) (Nat.le_of_ble_eq_true rfl)
  rw [lg_entry_eq]
  generalize (lg_sl ([.ref (ad 41)]) ++ List.replicate (3 - (lg_sl ([.ref (ad 41)])).length) Slot.unset).toArray = ls at hl ⊢
  have hl : lv_has ls 3 [(0, .ref (ad 41))] := hl
  change W p l e rm_X9_numberAtStart s m _ below meth c _ [] 0 0 _ _
  clear B hP hD hK hN hml
  generalize va_A (CW ca ad σ) s.heap.size = A at C w ⊢
  generalize ([.ref (ad 41)] : List Value).toArray = av at C ⊢
  obtain ⟨Q, hQ⟩ : ∃ Q, Q = MQ below (PostI D A (CW ca ad out.2) out.1) av s 0 0 A := ⟨_, rfl⟩
  rw [← hQ]
  have hx := C.1
  have hb := C.2.1
  have L7 : ∀ (n7 : Nat) (σ : St) (x1 : Int32) (x2 : Int32), f_X9_numberAtStart_L7 n7 σ x1 x2 = some out → Bk p l e rm_X9_numberAtStart s m av below meth c A D 3 Q (CW ca ad σ) 7 [(0, .ref (ad 41)), (1, .int x1), (2, .int x2)] [] := by
    intro n7
    induction n7 with
    | zero => intro σ x1 x2 h; exact absurd h (by simp [f_X9_numberAtStart_L7])
    | succ n7 ih7 =>
      intro σ x1 x2 h H locs ls w hl
      change f_X9_numberAtStart_b7 (f_X9_numberAtStart_L7 n7) σ x1 x2 = some out at h
      unfold f_X9_numberAtStart_b7 at h
      refine lv_iload_n hx hb dX9_numberAtStart_7 rfl (lv_at hl 2 rfl) ?_
      refine lv_aload_n hx hb dX9_numberAtStart_8 rfl (lv_at hl 0 rfl) ?_
      refine gC41_3 (v := (σ.1 4103)) C w rfl wl_227 dX9_numberAtStart_9 ?_
      refine lv_icmp_ge (tgt := 36) hx hb dX9_numberAtStart_12 (by decide) (fun c1 => ?_) (fun c1 => ?_)
      · have h := it_t h c1
        refine lv_iload_n hx hb dX9_numberAtStart_36 rfl (lv_at hl 1 rfl) ?_
        rw [hQ]
        exact rI (F := CW ca ad) C w h dX9_numberAtStart_37
      · have h := it_f h c1
        refine lv_iload_n hx hb dX9_numberAtStart_15 rfl (lv_at hl 1 rfl) ?_
        refine lv_bipush (v := 10) hx hb dX9_numberAtStart_16 (by decide) ?_
        refine lv_imul hx hb dX9_numberAtStart_18 ?_
        refine lv_aload_n hx hb dX9_numberAtStart_19 rfl (lv_at hl 0 rfl) ?_
        refine gC41_0 C w wl_88 dX9_numberAtStart_20 ?_
        refine lv_iload_n hx hb dX9_numberAtStart_23 rfl (lv_at hl 2 rfl) ?_
        obtain ⟨i2, h⟩ := ck_t h
        refine ldC42 (v := (σ.2.2 42 x2.toNatClampNeg)) C w i2 rfl dX9_numberAtStart_24 ?_
        refine lv_iadd hx hb dX9_numberAtStart_25 ?_
        refine lv_bipush (v := 48) hx hb dX9_numberAtStart_26 (by decide) ?_
        refine lv_isub hx hb dX9_numberAtStart_28 ?_
        refine lv_istore_n (lv' := [(1, .int (((x1 * (10 : Int32)) + (σ.2.2 42 x2.toNatClampNeg)) - (48 : Int32))), (0, .ref (ad 41)), (2, .int x2)]) hx hb dX9_numberAtStart_29 rfl hl (by decide) rfl (fun ls hl => ?_)
        refine lv_iinc (v := (x2 + (1 : Int32))) (lv' := [(2, .int (x2 + (1 : Int32))), (1, .int (((x1 * (10 : Int32)) + (σ.2.2 42 x2.toNatClampNeg)) - (48 : Int32))), (0, .ref (ad 41))]) hx hb dX9_numberAtStart_30 hl (k := 2) rfl rfl (by decide) rfl (fun ls hl => ?_)
        refine lv_goto (tgt := 7) hx hb dX9_numberAtStart_33 (by decide) ?_
        exact ih7 _ _ _ h _ _ _ w (lv_sub hl [2, 1, 0] rfl)
  have h := hf
  unfold f_X9_numberAtStart at h
  refine lv_iconst (v := 0) hx hb dX9_numberAtStart_0 (by decide) ?_
  refine lv_istore_n (lv' := [(1, .int (0 : Int32)), (0, .ref (ad 41))]) hx hb dX9_numberAtStart_1 rfl hl (by decide) rfl (fun ls hl => ?_)
  refine lv_aload_n hx hb dX9_numberAtStart_2 rfl (lv_at hl 1 rfl) ?_
  refine gC41_4 (v := (σ.1 4104)) C w rfl wl_230 dX9_numberAtStart_3 ?_
  refine lv_istore_n (lv' := [(2, .int (σ.1 4104)), (1, .int (0 : Int32)), (0, .ref (ad 41))]) hx hb dX9_numberAtStart_6 rfl hl (by decide) rfl (fun ls hl => ?_)
  exact L7 FU _ _ _ h _ _ _ w (lv_sub hl [2, 1, 0] rfl)
theorem hd_X9_advance : yX9_advance.cls = RX9 ∧ yX9_advance.cls ≠ "java/lang/invoke/MethodHandle" ∧ yX9_advance.cls ≠ "java/lang/invoke/VarHandle" ∧ (parseMethodDescriptor yX9_advance.desc).map (fun d => d.parameters.length) = some 0 := by decide +kernel
def f_X9_advance_b160 (σ : St) (y0 : Int32) : Option (St) := some (sI σ 4106 y0)
def f_X9_advance_b140 (σ : St) (y0 : Int32) : Option (St) := if y0 = (2 : Int32) then ((f_X9_numberAtStart (sI σ 4105 y0)).bind fun q1 => f_X9_advance_b160 q1.2 q1.1) else (f_X9_advance_b160 (sI σ 4105 y0) (0 : Int32))
def f_X9_advance_b186 (σ : St) (y0 : Int32) : Option (St) := some (sI (sI σ 4105 y0) 4103 ((σ.1 4103) + (1 : Int32)))
def f_X9_advance (σ : St) : Option (St) := (f_X9_behindRun σ (σ.1 4103) (32 : Int32) (32 : Int32)).bind fun q1 => if q1.1 < (q1.2.1 4102) then (cond (ckI q1.1 150) ((f_X10_within (q1.2.2.2 42 (q1.1).toNatClampNeg) (97 : Int32) (122 : Int32)).bind fun q2 => if q2 = 0 then (cond (ckI q1.1 150) ((f_X10_within (q1.2.2.2 42 (q1.1).toNatClampNeg) (48 : Int32) (57 : Int32)).bind fun q3 => if q3 = 0 then (cond (ckI q1.1 150) (if (q1.2.2.2 42 (q1.1).toNatClampNeg) = (59 : Int32) then (f_X9_advance_b186 (sI (sI q1.2 4103 q1.1) 4104 q1.1) (3 : Int32)) else (f_X9_advance_b186 (sI (sI q1.2 4103 q1.1) 4104 q1.1) (4 : Int32))) none) else ((f_X9_behindRun (sI (sI q1.2 4103 q1.1) 4104 q1.1) q1.1 (48 : Int32) (57 : Int32)).bind fun q4 => if (q4.1 - (q4.2.1 4104)) ≤ (2 : Int32) then (f_X9_advance_b140 (sI q4.2 4103 q4.1) (2 : Int32)) else (f_X9_advance_b140 (sI q4.2 4103 q4.1) (4 : Int32)))) none) else ((f_X9_behindRun (sI (sI (sI q1.2 4103 q1.1) 4104 q1.1) 4105 (1 : Int32)) q1.1 (97 : Int32) (122 : Int32)).bind fun q5 => some (sI q5.2 4103 q5.1))) none) else (some (sI (sI (sI q1.2 4103 q1.1) 4104 q1.1) 4105 (0 : Int32)))
abbrev rm_X9_advance : Room := { frames := 1, cells := 0, slots := 0, locals := 60 }
set_option maxHeartbeats 4000000 in
set_option maxRecDepth 100000 in
theorem c_X9_advance (l : Launch) (D : va_G) (ca : Nat → ClassId) (ad : Nat → Nat) (σ : St)  (sz : Nat) (out : St) (hf : f_X9_advance σ  = some out) : Met l yX9_advance (.code yX9_advance cX9_advance 1 none :: WL) rm_X9_advance (PreC D ca (CW ca ad σ) sz [.ref (ad 41)]) (PostV D (va_A (CW ca ad σ) sz) (CW ca ad out)) 0 0 (va_A (CW ca ad σ) sz) := by
  refine Met.ofW (cc := cX9_advance) (maxL := 1) (ret := none) (by decide) rfl ?_
  intro p e s m args below meth c s₁ B hml hv
  obtain ⟨rfl, hsz, hP, hK, hD, hN⟩ := hv
  subst hsz
  have C := Cx.mk (own := RX9) B hml rfl hK hN (ws := (CW ca ad σ))
  have w : Wd (va_A (CW ca ad σ) s.heap.size) s D (CW ca ad σ) s.heap [] := ⟨hP, hD.self, va_S.rf⟩
  have hl := lv_entry ([.ref (ad 41)]) (n := 1) (Nat.le_of_ble_eq_true rfl)
  rw [lg_entry_eq]
  generalize (lg_sl ([.ref (ad 41)]) ++ List.replicate (1 - (lg_sl ([.ref (ad 41)])).length) Slot.unset).toArray = ls at hl ⊢
  have hl : lv_has ls 1 [(0, .ref (ad 41))] := hl
  change W p l e rm_X9_advance s m _ below meth c _ [] 0 0 _ _
  clear B hP hD hK hN hml
  generalize va_A (CW ca ad σ) s.heap.size = A at C w ⊢
  generalize ([.ref (ad 41)] : List Value).toArray = av at C ⊢
  obtain ⟨Q, hQ⟩ : ∃ Q, Q = MQ below (PostV D A (CW ca ad out)) av s 0 0 A := ⟨_, rfl⟩
  rw [← hQ]
  have hx := C.1
  have hb := C.2.1
  have b160 : ∀ (σ : St) (y0 : Int32), f_X9_advance_b160 σ y0 = some out → Bk p l e rm_X9_advance s m av below meth c A D 1 Q (CW ca ad σ) 160 [] [.int y0, .ref (ad 41)] := by
    intro σ y0 h H locs ls w hl
    unfold f_X9_advance_b160 at h
    refine pC41_6 C w wl_236 dX9_advance_160 (fun H locs w => ?_)
    refine lv_goto (tgt := 199) hx hb dX9_advance_163 (by decide) ?_
    rw [hQ]
    exact rV (F := CW ca ad) C w h dX9_advance_199
  have b140 : ∀ (σ : St) (y0 : Int32), f_X9_advance_b140 σ y0 = some out → Bk p l e rm_X9_advance s m av below meth c A D 1 Q (CW ca ad σ) 140 [(0, .ref (ad 41))] [.int y0, .ref (ad 41)] := by
    intro σ y0 h H locs ls w hl
    unfold f_X9_advance_b140 at h
    refine pC41_5 C w wl_229 dX9_advance_140 (fun H locs w => ?_)
    refine lv_aload_n hx hb dX9_advance_143 rfl (lv_at hl 0 rfl) ?_
    refine lv_aload_n hx hb dX9_advance_144 rfl (lv_at hl 0 rfl) ?_
    refine gC41_5 (v := y0) C w rfl wl_229 dX9_advance_145 ?_
    refine lv_iconst (v := 2) hx hb dX9_advance_148 (by decide) ?_
    refine lv_icmp_ne (tgt := 159) hx hb dX9_advance_149 (by decide) (fun c1 => ?_) (fun c1 => ?_)
    · have h := it_f h c1
      refine lv_iconst (v := 0) hx hb dX9_advance_159 (by decide) ?_
      exact b160 _ _ h _ _ _ w (lv_sub hl [] rfl)
    · have h := it_t h c1
      refine lv_aload_n hx hb dX9_advance_152 rfl (lv_at hl 0 rfl) ?_
      obtain ⟨q1, hq1, h⟩ := ob_t h
      refine res_i C w (run_V (As := []) (rest := [.ref (ad 41)]) C w hl.1 (recvC41 C w) (c_X9_numberAtStart l D ca ad _  _ q1 hq1) rfl rfl wl_241 wl_242 wl_243 wl_47 wl_244 hd_X9_numberAtStart rfl ⟨Nat.le_of_ble_eq_true rfl, Nat.le_of_ble_eq_true rfl⟩ rfl (Nat.le_of_ble_eq_true rfl) dX9_advance_153) (fun H locs w => ?_)
      refine lv_goto (tgt := 160) hx hb dX9_advance_156 (by decide) ?_
      exact b160 _ _ h _ _ _ w (lv_sub hl [] rfl)
  have b186 : ∀ (σ : St) (y0 : Int32), f_X9_advance_b186 σ y0 = some out → Bk p l e rm_X9_advance s m av below meth c A D 1 Q (CW ca ad σ) 186 [(0, .ref (ad 41))] [.int y0, .ref (ad 41)] := by
    intro σ y0 h H locs ls w hl
    unfold f_X9_advance_b186 at h
    refine pC41_5 C w wl_229 dX9_advance_186 (fun H locs w => ?_)
    refine lv_aload_n hx hb dX9_advance_189 rfl (lv_at hl 0 rfl) ?_
    refine lv_dup hx hb dX9_advance_190 rfl ?_
    refine gC41_3 (v := (σ.1 4103)) C w rfl wl_227 dX9_advance_191 ?_
    refine lv_iconst (v := 1) hx hb dX9_advance_194 (by decide) ?_
    refine lv_iadd hx hb dX9_advance_195 ?_
    refine pC41_3 C w wl_227 dX9_advance_196 (fun H locs w => ?_)
    rw [hQ]
    exact rV (F := CW ca ad) C w h dX9_advance_199
  have h := hf
  unfold f_X9_advance at h
  refine lv_aload_n hx hb dX9_advance_0 rfl (lv_at hl 0 rfl) ?_
  refine lv_aload_n hx hb dX9_advance_1 rfl (lv_at hl 0 rfl) ?_
  refine lv_aload_n hx hb dX9_advance_2 rfl (lv_at hl 0 rfl) ?_
  refine gC41_3 (v := (σ.1 4103)) C w rfl wl_227 dX9_advance_3 ?_
  refine lv_bipush (v := 32) hx hb dX9_advance_6 (by decide) ?_
  refine lv_bipush (v := 32) hx hb dX9_advance_8 (by decide) ?_
  obtain ⟨q1, hq1, h⟩ := ob_t h
  refine res_i C w (run_V (As := [.int (σ.1 4103), .int (32 : Int32), .int (32 : Int32)]) (rest := [.ref (ad 41)]) C w hl.1 (recvC41 C w) (c_X9_behindRun l D ca ad _ (σ.1 4103) (32 : Int32) (32 : Int32) _ q1 hq1) rfl rfl wl_237 wl_238 wl_239 wl_47 wl_240 hd_X9_behindRun rfl ⟨Nat.le_of_ble_eq_true rfl, Nat.le_of_ble_eq_true rfl⟩ rfl (Nat.le_of_ble_eq_true rfl) dX9_advance_10) (fun H locs w => ?_)
  refine pC41_3 C w wl_227 dX9_advance_13 (fun H locs w => ?_)
  refine lv_aload_n hx hb dX9_advance_16 rfl (lv_at hl 0 rfl) ?_
  refine lv_aload_n hx hb dX9_advance_17 rfl (lv_at hl 0 rfl) ?_
  refine gC41_3 (v := q1.1) C w rfl wl_227 dX9_advance_18 ?_
  refine pC41_4 C w wl_230 dX9_advance_21 (fun H locs w => ?_)
  refine lv_aload_n hx hb dX9_advance_24 rfl (lv_at hl 0 rfl) ?_
  refine gC41_3 (v := q1.1) C w rfl wl_227 dX9_advance_25 ?_
  refine lv_aload_n hx hb dX9_advance_28 rfl (lv_at hl 0 rfl) ?_
  refine gC41_2 (v := (q1.2.1 4102)) C w rfl wl_226 dX9_advance_29 ?_
  refine lv_icmp_lt (tgt := 43) hx hb dX9_advance_32 (by decide) (fun c1 => ?_) (fun c1 => ?_)
  · have h := it_t h c1
    refine lv_aload_n hx hb dX9_advance_43 rfl (lv_at hl 0 rfl) ?_
    refine gC41_0 C w wl_88 dX9_advance_44 ?_
    refine lv_aload_n hx hb dX9_advance_47 rfl (lv_at hl 0 rfl) ?_
    refine gC41_3 (v := q1.1) C w rfl wl_227 dX9_advance_48 ?_
    obtain ⟨i2, h⟩ := ck_t h
    refine ldC42 (v := (q1.2.2.2 42 (q1.1).toNatClampNeg)) C w i2 rfl dX9_advance_51 ?_
    refine lv_bipush (v := 97) hx hb dX9_advance_52 (by decide) ?_
    refine lv_bipush (v := 122) hx hb dX9_advance_54 (by decide) ?_
    obtain ⟨q2, hq2, h⟩ := ob_t h
    refine res_i C w (run_SN (As := [.int (q1.2.2.2 42 (q1.1).toNatClampNeg), .int (97 : Int32), .int (122 : Int32)]) (rest := []) C w hl.1 (c_X10_within l D ca _ (q1.2.2.2 42 (q1.1).toNatClampNeg) (97 : Int32) (122 : Int32) _ q2 hq2) rfl rfl C.nx.1.1.2.2 wl_115 wl_2 wl_116 hd_X10_within rfl ⟨Nat.le_of_ble_eq_true rfl, Nat.le_of_ble_eq_true rfl⟩ rfl (Nat.le_of_ble_eq_true rfl) dX9_advance_56) (fun H locs w => ?_)
    refine lv_if_eq (tgt := 86) hx hb dX9_advance_59 (by decide) (fun c3 => ?_) (fun c3 => ?_)
    · have h := it_t h c3
      refine lv_aload_n hx hb dX9_advance_86 rfl (lv_at hl 0 rfl) ?_
      refine gC41_0 C w wl_88 dX9_advance_87 ?_
      refine lv_aload_n hx hb dX9_advance_90 rfl (lv_at hl 0 rfl) ?_
      refine gC41_3 (v := q1.1) C w rfl wl_227 dX9_advance_91 ?_
      obtain ⟨i4, h⟩ := ck_t h
      refine ldC42 (v := (q1.2.2.2 42 (q1.1).toNatClampNeg)) C w i4 rfl dX9_advance_94 ?_
      refine lv_bipush (v := 48) hx hb dX9_advance_95 (by decide) ?_
      refine lv_bipush (v := 57) hx hb dX9_advance_97 (by decide) ?_
      obtain ⟨q3, hq3, h⟩ := ob_t h
      refine res_i C w (run_SN (As := [.int (q1.2.2.2 42 (q1.1).toNatClampNeg), .int (48 : Int32), .int (57 : Int32)]) (rest := []) C w hl.1 (c_X10_within l D ca _ (q1.2.2.2 42 (q1.1).toNatClampNeg) (48 : Int32) (57 : Int32) _ q3 hq3) rfl rfl C.nx.1.1.2.2 wl_115 wl_2 wl_116 hd_X10_within rfl ⟨Nat.le_of_ble_eq_true rfl, Nat.le_of_ble_eq_true rfl⟩ rfl (Nat.le_of_ble_eq_true rfl) dX9_advance_99) (fun H locs w => ?_)
      refine lv_if_eq (tgt := 166) hx hb dX9_advance_102 (by decide) (fun c5 => ?_) (fun c5 => ?_)
      · have h := it_t h c5
        refine lv_aload_n hx hb dX9_advance_166 rfl (lv_at hl 0 rfl) ?_
        refine lv_aload_n hx hb dX9_advance_167 rfl (lv_at hl 0 rfl) ?_
        refine gC41_0 C w wl_88 dX9_advance_168 ?_
        refine lv_aload_n hx hb dX9_advance_171 rfl (lv_at hl 0 rfl) ?_
        refine gC41_3 (v := q1.1) C w rfl wl_227 dX9_advance_172 ?_
        obtain ⟨i6, h⟩ := ck_t h
        refine ldC42 (v := (q1.2.2.2 42 (q1.1).toNatClampNeg)) C w i6 rfl dX9_advance_175 ?_
        refine lv_bipush (v := 59) hx hb dX9_advance_176 (by decide) ?_
        refine lv_icmp_ne (tgt := 185) hx hb dX9_advance_178 (by decide) (fun c7 => ?_) (fun c7 => ?_)
        · have h := it_f h c7
          refine lv_iconst (v := 4) hx hb dX9_advance_185 (by decide) ?_
          exact b186 _ _ h _ _ _ w (lv_sub hl [0] rfl)
        · have h := it_t h c7
          refine lv_iconst (v := 3) hx hb dX9_advance_181 (by decide) ?_
          refine lv_goto (tgt := 186) hx hb dX9_advance_182 (by decide) ?_
          exact b186 _ _ h _ _ _ w (lv_sub hl [0] rfl)
      · have h := it_f h c5
        refine lv_aload_n hx hb dX9_advance_105 rfl (lv_at hl 0 rfl) ?_
        refine lv_aload_n hx hb dX9_advance_106 rfl (lv_at hl 0 rfl) ?_
        refine lv_aload_n hx hb dX9_advance_107 rfl (lv_at hl 0 rfl) ?_
        refine gC41_3 (v := q1.1) C w rfl wl_227 dX9_advance_108 ?_
        refine lv_bipush (v := 48) hx hb dX9_advance_111 (by decide) ?_
        refine lv_bipush (v := 57) hx hb dX9_advance_113 (by decide) ?_
        obtain ⟨q4, hq4, h⟩ := ob_t h
        refine res_i C w (run_V (As := [.int q1.1, .int (48 : Int32), .int (57 : Int32)]) (rest := [.ref (ad 41)]) C w hl.1 (recvC41 C w) (c_X9_behindRun l D ca ad _ q1.1 (48 : Int32) (57 : Int32) _ q4 hq4) rfl rfl wl_237 wl_238 wl_239 wl_47 wl_240 hd_X9_behindRun rfl ⟨Nat.le_of_ble_eq_true rfl, Nat.le_of_ble_eq_true rfl⟩ rfl (Nat.le_of_ble_eq_true rfl) dX9_advance_115) (fun H locs w => ?_)
        refine pC41_3 C w wl_227 dX9_advance_118 (fun H locs w => ?_)
        refine lv_aload_n hx hb dX9_advance_121 rfl (lv_at hl 0 rfl) ?_
        refine lv_aload_n hx hb dX9_advance_122 rfl (lv_at hl 0 rfl) ?_
        refine gC41_3 (v := q4.1) C w rfl wl_227 dX9_advance_123 ?_
        refine lv_aload_n hx hb dX9_advance_126 rfl (lv_at hl 0 rfl) ?_
        refine gC41_4 (v := (q4.2.1 4104)) C w rfl wl_230 dX9_advance_127 ?_
        refine lv_isub hx hb dX9_advance_130 ?_
        refine lv_iconst (v := 2) hx hb dX9_advance_131 (by decide) ?_
        refine lv_icmp_le (tgt := 139) hx hb dX9_advance_132 (by decide) (fun c8 => ?_) (fun c8 => ?_)
        · have h := it_t h c8
          refine lv_iconst (v := 2) hx hb dX9_advance_139 (by decide) ?_
          exact b140 _ _ h _ _ _ w (lv_sub hl [0] rfl)
        · have h := it_f h c8
          refine lv_iconst (v := 4) hx hb dX9_advance_135 (by decide) ?_
          refine lv_goto (tgt := 140) hx hb dX9_advance_136 (by decide) ?_
          exact b140 _ _ h _ _ _ w (lv_sub hl [0] rfl)
    · have h := it_f h c3
      refine lv_aload_n hx hb dX9_advance_62 rfl (lv_at hl 0 rfl) ?_
      refine lv_iconst (v := 1) hx hb dX9_advance_63 (by decide) ?_
      refine pC41_5 C w wl_229 dX9_advance_64 (fun H locs w => ?_)
      refine lv_aload_n hx hb dX9_advance_67 rfl (lv_at hl 0 rfl) ?_
      refine lv_aload_n hx hb dX9_advance_68 rfl (lv_at hl 0 rfl) ?_
      refine lv_aload_n hx hb dX9_advance_69 rfl (lv_at hl 0 rfl) ?_
      refine gC41_3 (v := q1.1) C w rfl wl_227 dX9_advance_70 ?_
      refine lv_bipush (v := 97) hx hb dX9_advance_73 (by decide) ?_
      refine lv_bipush (v := 122) hx hb dX9_advance_75 (by decide) ?_
      obtain ⟨q5, hq5, h⟩ := ob_t h
      refine res_i C w (run_V (As := [.int q1.1, .int (97 : Int32), .int (122 : Int32)]) (rest := [.ref (ad 41)]) C w hl.1 (recvC41 C w) (c_X9_behindRun l D ca ad _ q1.1 (97 : Int32) (122 : Int32) _ q5 hq5) rfl rfl wl_237 wl_238 wl_239 wl_47 wl_240 hd_X9_behindRun rfl ⟨Nat.le_of_ble_eq_true rfl, Nat.le_of_ble_eq_true rfl⟩ rfl (Nat.le_of_ble_eq_true rfl) dX9_advance_77) (fun H locs w => ?_)
      refine pC41_3 C w wl_227 dX9_advance_80 (fun H locs w => ?_)
      refine lv_goto (tgt := 199) hx hb dX9_advance_83 (by decide) ?_
      rw [hQ]
      exact rV (F := CW ca ad) C w h dX9_advance_199
  · have h := it_f h c1
    refine lv_aload_n hx hb dX9_advance_35 rfl (lv_at hl 0 rfl) ?_
    refine lv_iconst (v := 0) hx hb dX9_advance_36 (by decide) ?_
    refine pC41_5 C w wl_229 dX9_advance_37 (fun H locs w => ?_)
    refine lv_goto (tgt := 199) hx hb dX9_advance_40 (by decide) ?_
    rw [hQ]
    exact rV (F := CW ca ad) C w h dX9_advance_199
theorem hd_X9_takesNumber : yX9_takesNumber.cls = RX9 ∧ yX9_takesNumber.cls ≠ "java/lang/invoke/MethodHandle" ∧ yX9_takesNumber.cls ≠ "java/lang/invoke/VarHandle" ∧ (parseMethodDescriptor yX9_takesNumber.desc).map (fun d => d.parameters.length) = some 1 := by decide +kernel
def f_X9_takesNumber (σ : St) (x1 : Int32) : Option (Int32 × St) := (f_X9_advance σ).bind fun q1 => if (q1.1 4105) = (2 : Int32) then (if x1 < (q1.1 4106) then (some ((0 : Int32), q1)) else (some ((1 : Int32), q1))) else (some ((0 : Int32), q1))
abbrev rm_X9_takesNumber : Room := { frames := 2, cells := 0, slots := 0, locals := 120 }
set_option maxHeartbeats 4000000 in
set_option maxRecDepth 100000 in
theorem c_X9_takesNumber (l : Launch) (D : va_G) (ca : Nat → ClassId) (ad : Nat → Nat) (σ : St) (x1 : Int32) (sz : Nat) (out : Int32 × St) (hf : f_X9_takesNumber σ x1 = some out) : Met l yX9_takesNumber (.code yX9_takesNumber cX9_takesNumber 2 (some .boolean) :: WL) rm_X9_takesNumber (PreC D ca (CW ca ad σ) sz [.ref (ad 41), .int x1]) (PostI D (va_A (CW ca ad σ) sz) (CW ca ad out.2) out.1) 0 0 (va_A (CW ca ad σ) sz) := by
  refine Met.ofW (cc := cX9_takesNumber) (maxL := 2) (ret := (some .boolean)) (by decide) rfl ?_
  intro p e s m args below meth c s₁ B hml hv
  obtain ⟨rfl, hsz, hP, hK, hD, hN⟩ := hv
  subst hsz
  have C := Cx.mk (own := RX9) B hml rfl hK hN (ws := (CW ca ad σ))
  have w : Wd (va_A (CW ca ad σ) s.heap.size) s D (CW ca ad σ) s.heap [] := ⟨hP, hD.self, va_S.rf⟩
  have hl := lv_entry ([.ref (ad 41), .int x1]) (n := 2) (Nat.le_of_ble_eq_true rfl)
  rw [lg_entry_eq]
  generalize (lg_sl ([.ref (ad 41), .int x1]) ++ List.replicate (2 - (lg_sl ([.ref (ad 41), .int x1])).length) Slot.unset).toArray = ls at hl ⊢
  have hl : lv_has ls 2 [(0, .ref (ad 41)), (1, .int x1)] := hl
  change W p l e rm_X9_takesNumber s m _ below meth c _ [] 0 0 _ _
  clear B hP hD hK hN hml
  generalize va_A (CW ca ad σ) s.heap.size = A at C w ⊢
  generalize ([.ref (ad 41), .int x1] : List Value).toArray = av at C ⊢
  obtain ⟨Q, hQ⟩ : ∃ Q, Q = MQ below (PostI D A (CW ca ad out.2) out.1) av s 0 0 A := ⟨_, rfl⟩
  rw [← hQ]
  have hx := C.1
  have hb := C.2.1
  have h := hf
  unfold f_X9_takesNumber at h
  refine lv_aload_n hx hb dX9_takesNumber_0 rfl (lv_at hl 0 rfl) ?_
  obtain ⟨q1, hq1, h⟩ := ob_t h
  refine res_v C w (run_V (As := []) (rest := []) C w hl.1 (recvC41 C w) (c_X9_advance l D ca ad _  _ q1 hq1) rfl rfl wl_232 wl_233 wl_234 wl_47 wl_235 hd_X9_advance rfl ⟨Nat.le_of_ble_eq_true rfl, Nat.le_of_ble_eq_true rfl⟩ rfl (Nat.le_of_ble_eq_true rfl) dX9_takesNumber_1) (fun H locs w => ?_)
  refine lv_aload_n hx hb dX9_takesNumber_4 rfl (lv_at hl 0 rfl) ?_
  refine gC41_5 (v := (q1.1 4105)) C w rfl wl_229 dX9_takesNumber_5 ?_
  refine lv_iconst (v := 2) hx hb dX9_takesNumber_8 (by decide) ?_
  refine lv_icmp_ne (tgt := 24) hx hb dX9_takesNumber_9 (by decide) (fun c1 => ?_) (fun c1 => ?_)
  · have h := it_f h c1
    refine lv_iconst (v := 0) hx hb dX9_takesNumber_24 (by decide) ?_
    rw [hQ]
    exact rZ (F := CW ca ad) C w (by decide) h dX9_takesNumber_25
  · have h := it_t h c1
    refine lv_aload_n hx hb dX9_takesNumber_12 rfl (lv_at hl 0 rfl) ?_
    refine gC41_6 (v := (q1.1 4106)) C w rfl wl_236 dX9_takesNumber_13 ?_
    refine lv_iload_n hx hb dX9_takesNumber_16 rfl (lv_at hl 1 rfl) ?_
    refine lv_icmp_gt (tgt := 24) hx hb dX9_takesNumber_17 (by decide) (fun c2 => ?_) (fun c2 => ?_)
    · have h := it_t h c2
      refine lv_iconst (v := 0) hx hb dX9_takesNumber_24 (by decide) ?_
      rw [hQ]
      exact rZ (F := CW ca ad) C w (by decide) h dX9_takesNumber_25
    · have h := it_f h c2
      refine lv_iconst (v := 1) hx hb dX9_takesNumber_20 (by decide) ?_
      refine lv_goto (tgt := 25) hx hb dX9_takesNumber_21 (by decide) ?_
      rw [hQ]
      exact rZ (F := CW ca ad) C w (by decide) h dX9_takesNumber_25
theorem hd_X9_takesSemicolon : yX9_takesSemicolon.cls = RX9 ∧ yX9_takesSemicolon.cls ≠ "java/lang/invoke/MethodHandle" ∧ yX9_takesSemicolon.cls ≠ "java/lang/invoke/VarHandle" ∧ (parseMethodDescriptor yX9_takesSemicolon.desc).map (fun d => d.parameters.length) = some 0 := by decide +kernel
def f_X9_takesSemicolon (σ : St) : Option (Int32 × St) := (f_X9_advance σ).bind fun q1 => if (q1.1 4105) = (3 : Int32) then (some ((1 : Int32), q1)) else (some ((0 : Int32), q1))
abbrev rm_X9_takesSemicolon : Room := { frames := 2, cells := 0, slots := 0, locals := 120 }
set_option maxHeartbeats 4000000 in
set_option maxRecDepth 100000 in
theorem c_X9_takesSemicolon (l : Launch) (D : va_G) (ca : Nat → ClassId) (ad : Nat → Nat) (σ : St)  (sz : Nat) (out : Int32 × St) (hf : f_X9_takesSemicolon σ  = some out) : Met l yX9_takesSemicolon (.code yX9_takesSemicolon cX9_takesSemicolon 1 (some .boolean) :: WL) rm_X9_takesSemicolon (PreC D ca (CW ca ad σ) sz [.ref (ad 41)]) (PostI D (va_A (CW ca ad σ) sz) (CW ca ad out.2) out.1) 0 0 (va_A (CW ca ad σ) sz) := by
  refine Met.ofW (cc := cX9_takesSemicolon) (maxL := 1) (ret := (some .boolean)) (by decide) rfl ?_
  intro p e s m args below meth c s₁ B hml hv
  obtain ⟨rfl, hsz, hP, hK, hD, hN⟩ := hv
  subst hsz
  have C := Cx.mk (own := RX9) B hml rfl hK hN (ws := (CW ca ad σ))
  have w : Wd (va_A (CW ca ad σ) s.heap.size) s D (CW ca ad σ) s.heap [] := ⟨hP, hD.self, va_S.rf⟩
  have hl := lv_entry ([.ref (ad 41)]) (n := 1) (Nat.le_of_ble_eq_true rfl)
  rw [lg_entry_eq]
  generalize (lg_sl ([.ref (ad 41)]) ++ List.replicate (1 - (lg_sl ([.ref (ad 41)])).length) Slot.unset).toArray = ls at hl ⊢
  have hl : lv_has ls 1 [(0, .ref (ad 41))] := hl
  change W p l e rm_X9_takesSemicolon s m _ below meth c _ [] 0 0 _ _
  clear B hP hD hK hN hml
  generalize va_A (CW ca ad σ) s.heap.size = A at C w ⊢
  generalize ([.ref (ad 41)] : List Value).toArray = av at C ⊢
  obtain ⟨Q, hQ⟩ : ∃ Q, Q = MQ below (PostI D A (CW ca ad out.2) out.1) av s 0 0 A := ⟨_, rfl⟩
  rw [← hQ]
  have hx := C.1
  have hb := C.2.1
  have h := hf
  unfold f_X9_takesSemicolon at h
  refine lv_aload_n hx hb dX9_takesSemicolon_0 rfl (lv_at hl 0 rfl) ?_
  obtain ⟨q1, hq1, h⟩ := ob_t h
  refine res_v C w (run_V (As := []) (rest := []) C w hl.1 (recvC41 C w) (c_X9_advance l D ca ad _  _ q1 hq1) rfl rfl wl_232 wl_233 wl_234 wl_47 wl_235 hd_X9_advance rfl ⟨Nat.le_of_ble_eq_true rfl, Nat.le_of_ble_eq_true rfl⟩ rfl (Nat.le_of_ble_eq_true rfl) dX9_takesSemicolon_1) (fun H locs w => ?_)
  refine lv_aload_n hx hb dX9_takesSemicolon_4 rfl (lv_at hl 0 rfl) ?_
  refine gC41_5 (v := (q1.1 4105)) C w rfl wl_229 dX9_takesSemicolon_5 ?_
  refine lv_iconst (v := 3) hx hb dX9_takesSemicolon_8 (by decide) ?_
  refine lv_icmp_ne (tgt := 16) hx hb dX9_takesSemicolon_9 (by decide) (fun c1 => ?_) (fun c1 => ?_)
  · have h := it_f h c1
    refine lv_iconst (v := 0) hx hb dX9_takesSemicolon_16 (by decide) ?_
    rw [hQ]
    exact rZ (F := CW ca ad) C w (by decide) h dX9_takesSemicolon_17
  · have h := it_t h c1
    refine lv_iconst (v := 1) hx hb dX9_takesSemicolon_12 (by decide) ?_
    refine lv_goto (tgt := 17) hx hb dX9_takesSemicolon_13 (by decide) ?_
    rw [hQ]
    exact rZ (F := CW ca ad) C w (by decide) h dX9_takesSemicolon_17
def f_X2_startAt_8 (σ : St) (x1 : Int32) : Option (St) := some (sI (sI (sI (sI (sI (sI σ 806 (0 : Int32)) 807 (0 : Int32)) 808 x1) 809 (0 : Int32)) 810 (0 : Int32)) 811 (0 : Int32))
abbrev rm_X2_startAt_8 : Room := { frames := 0, cells := 0, slots := 0, locals := 0 }
set_option maxHeartbeats 4000000 in
set_option maxRecDepth 100000 in
theorem c_X2_startAt_8 (l : Launch) (D : va_G) (ca : Nat → ClassId) (ad : Nat → Nat) (σ : St) (x1 : Int32) (sz : Nat) (out : St) (hf : f_X2_startAt_8 σ x1 = some out) : Met l yX2_startAt (.code yX2_startAt cX2_startAt 2 none :: WL) rm_X2_startAt_8 (PreC D ca (CW ca ad σ) sz [.ref (ad 8), .int x1]) (PostV D (va_A (CW ca ad σ) sz) (CW ca ad out)) 0 0 (va_A (CW ca ad σ) sz) := by
  refine Met.ofW (cc := cX2_startAt) (maxL := 2) (ret := none) (by decide) rfl ?_
  intro p e s m args below meth c s₁ B hml hv
  obtain ⟨rfl, hsz, hP, hK, hD, hN⟩ := hv
  subst hsz
  have C := Cx.mk (own := RX2) B hml rfl hK hN (ws := (CW ca ad σ))
  have w : Wd (va_A (CW ca ad σ) s.heap.size) s D (CW ca ad σ) s.heap [] := ⟨hP, hD.self, va_S.rf⟩
  have hl := lv_entry ([.ref (ad 8), .int x1]) (n := 2) (Nat.le_of_ble_eq_true rfl)
  rw [lg_entry_eq]
  generalize (lg_sl ([.ref (ad 8), .int x1]) ++ List.replicate (2 - (lg_sl ([.ref (ad 8), .int x1])).length) Slot.unset).toArray = ls at hl ⊢
  have hl : lv_has ls 2 [(0, .ref (ad 8)), (1, .int x1)] := hl
  change W p l e rm_X2_startAt_8 s m _ below meth c _ [] 0 0 _ _
  clear B hP hD hK hN hml
  generalize va_A (CW ca ad σ) s.heap.size = A at C w ⊢
  generalize ([.ref (ad 8), .int x1] : List Value).toArray = av at C ⊢
  obtain ⟨Q, hQ⟩ : ∃ Q, Q = MQ below (PostV D A (CW ca ad out)) av s 0 0 A := ⟨_, rfl⟩
  rw [← hQ]
  have hx := C.1
  have hb := C.2.1
  have h := hf
  unfold f_X2_startAt_8 at h
  refine lv_aload_n hx hb dX2_startAt_0 rfl (lv_at hl 0 rfl) ?_
  refine lv_iconst (v := 0) hx hb dX2_startAt_1 (by decide) ?_
  refine pC8_6 C w wl_126 dX2_startAt_2 (fun H locs w => ?_)
  refine lv_aload_n hx hb dX2_startAt_5 rfl (lv_at hl 0 rfl) ?_
  refine lv_iconst (v := 0) hx hb dX2_startAt_6 (by decide) ?_
  refine pC8_7 C w wl_127 dX2_startAt_7 (fun H locs w => ?_)
  refine lv_aload_n hx hb dX2_startAt_10 rfl (lv_at hl 0 rfl) ?_
  refine lv_iload_n hx hb dX2_startAt_11 rfl (lv_at hl 1 rfl) ?_
  refine pC8_8 C w wl_128 dX2_startAt_12 (fun H locs w => ?_)
  refine lv_aload_n hx hb dX2_startAt_15 rfl (lv_at hl 0 rfl) ?_
  refine lv_iconst (v := 0) hx hb dX2_startAt_16 (by decide) ?_
  refine pC8_9 C w wl_129 dX2_startAt_17 (fun H locs w => ?_)
  refine lv_aload_n hx hb dX2_startAt_20 rfl (lv_at hl 0 rfl) ?_
  refine lv_iconst (v := 0) hx hb dX2_startAt_21 (by decide) ?_
  refine pC8_10 C w wl_130 dX2_startAt_22 (fun H locs w => ?_)
  refine lv_aload_n hx hb dX2_startAt_25 rfl (lv_at hl 0 rfl) ?_
  refine lv_iconst (v := 0) hx hb dX2_startAt_26 (by decide) ?_
  refine pC8_11 C w wl_131 dX2_startAt_27 (fun H locs w => ?_)
  rw [hQ]
  exact rV (F := CW ca ad) C w h dX2_startAt_30
theorem hd_X9_takesWood : yX9_takesWood.cls = RX9 ∧ yX9_takesWood.cls ≠ "java/lang/invoke/MethodHandle" ∧ yX9_takesWood.cls ≠ "java/lang/invoke/VarHandle" ∧ (parseMethodDescriptor yX9_takesWood.desc).map (fun d => d.parameters.length) = some 0 := by decide +kernel
def f_X9_takesWood (σ : St) : Option (Int32 × St) := (f_X9_takesNumber σ (99 : Int32)).bind fun q1 => if q1.1 = 0 then (some ((0 : Int32), q1.2)) else ((f_X2_startAt_8 q1.2 (q1.2.1 4106)).bind fun q2 => some ((1 : Int32), q2))
abbrev rm_X9_takesWood : Room := { frames := 3, cells := 0, slots := 0, locals := 180 }
set_option maxHeartbeats 4000000 in
set_option maxRecDepth 100000 in
theorem c_X9_takesWood (l : Launch) (D : va_G) (ca : Nat → ClassId) (ad : Nat → Nat) (σ : St)  (sz : Nat) (out : Int32 × St) (hf : f_X9_takesWood σ  = some out) : Met l yX9_takesWood (.code yX9_takesWood cX9_takesWood 1 (some .boolean) :: WL) rm_X9_takesWood (PreC D ca (CW ca ad σ) sz [.ref (ad 41)]) (PostI D (va_A (CW ca ad σ) sz) (CW ca ad out.2) out.1) 0 0 (va_A (CW ca ad σ) sz) := by
  refine Met.ofW (cc := cX9_takesWood) (maxL := 1) (ret := (some .boolean)) (by decide) rfl ?_
  intro p e s m args below meth c s₁ B hml hv
  obtain ⟨rfl, hsz, hP, hK, hD, hN⟩ := hv
  subst hsz
  have C := Cx.mk (own := RX9) B hml rfl hK hN (ws := (CW ca ad σ))
  have w : Wd (va_A (CW ca ad σ) s.heap.size) s D (CW ca ad σ) s.heap [] := ⟨hP, hD.self, va_S.rf⟩
  have hl := lv_entry ([.ref (ad 41)]) (n := 1) (Nat.le_of_ble_eq_true rfl)
  rw [lg_entry_eq]
  generalize (lg_sl ([.ref (ad 41)]) ++ List.replicate (1 - (lg_sl ([.ref (ad 41)])).length) Slot.unset).toArray = ls at hl ⊢
  have hl : lv_has ls 1 [(0, .ref (ad 41))] := hl
  change W p l e rm_X9_takesWood s m _ below meth c _ [] 0 0 _ _
  clear B hP hD hK hN hml
  generalize va_A (CW ca ad σ) s.heap.size = A at C w ⊢
  generalize ([.ref (ad 41)] : List Value).toArray = av at C ⊢
  obtain ⟨Q, hQ⟩ : ∃ Q, Q = MQ below (PostI D A (CW ca ad out.2) out.1) av s 0 0 A := ⟨_, rfl⟩
  rw [← hQ]
  have hx := C.1
  have hb := C.2.1
  have h := hf
  unfold f_X9_takesWood at h
  refine lv_aload_n hx hb dX9_takesWood_0 rfl (lv_at hl 0 rfl) ?_
  refine lv_bipush (v := 99) hx hb dX9_takesWood_1 (by decide) ?_
  obtain ⟨q1, hq1, h⟩ := ob_t h
  refine res_i C w (run_V (As := [.int (99 : Int32)]) (rest := []) C w hl.1 (recvC41 C w) (c_X9_takesNumber l D ca ad _ (99 : Int32) _ q1 hq1) rfl rfl wl_307 wl_308 wl_309 wl_47 wl_310 hd_X9_takesNumber rfl ⟨Nat.le_of_ble_eq_true rfl, Nat.le_of_ble_eq_true rfl⟩ rfl (Nat.le_of_ble_eq_true rfl) dX9_takesWood_3) (fun H locs w => ?_)
  refine lv_if_ne (tgt := 11) hx hb dX9_takesWood_6 (by decide) (fun c1 => ?_) (fun c1 => ?_)
  · have h := it_f h c1
    refine lv_aload_n hx hb dX9_takesWood_11 rfl (lv_at hl 0 rfl) ?_
    refine gC41_1 C w wl_89 dX9_takesWood_12 ?_
    refine lv_aload_n hx hb dX9_takesWood_15 rfl (lv_at hl 0 rfl) ?_
    refine gC41_6 (v := (q1.2.1 4106)) C w rfl wl_236 dX9_takesWood_16 ?_
    obtain ⟨q2, hq2, h⟩ := ob_t h
    refine res_v C w (run_V (As := [.int (q1.2.1 4106)]) (rest := []) C w hl.1 (recvC8 C w) (c_X2_startAt_8 l D ca ad _ (q1.2.1 4106) _ q2 hq2) rfl rfl wl_231 wl_123 wl_124 wl_33 wl_125 hd_X2_startAt rfl ⟨Nat.le_of_ble_eq_true rfl, Nat.le_of_ble_eq_true rfl⟩ rfl (Nat.le_of_ble_eq_true rfl) dX9_takesWood_19) (fun H locs w => ?_)
    refine lv_iconst (v := 1) hx hb dX9_takesWood_22 (by decide) ?_
    rw [hQ]
    exact rZ (F := CW ca ad) C w (by decide) h dX9_takesWood_23
  · have h := it_t h c1
    refine lv_iconst (v := 0) hx hb dX9_takesWood_9 (by decide) ?_
    rw [hQ]
    exact rZ (F := CW ca ad) C w (by decide) h dX9_takesWood_10
def f_X2_plant_8 (σ : St) (x1 : Int32) : Option (St) := if (7 : Int32) ≤ (σ.1 806) then (some σ) else (cond (ckI (σ.1 806) 7) (cond (ckI (σ.1 806) 7) (some (sI (sE (sE σ 9 (((σ.1 806)).toNatClampNeg) x1) 10 (((σ.1 806)).toNatClampNeg) (0 : Int32)) 806 ((σ.1 806) + (1 : Int32)))) none) none)
abbrev rm_X2_plant_8 : Room := { frames := 0, cells := 0, slots := 0, locals := 0 }
set_option maxHeartbeats 4000000 in
set_option maxRecDepth 100000 in
theorem c_X2_plant_8 (l : Launch) (D : va_G) (ca : Nat → ClassId) (ad : Nat → Nat) (σ : St) (x1 : Int32) (sz : Nat) (out : St) (hf : f_X2_plant_8 σ x1 = some out) : Met l yX2_plant (.code yX2_plant cX2_plant 2 none :: WL) rm_X2_plant_8 (PreC D ca (CW ca ad σ) sz [.ref (ad 8), .int x1]) (PostV D (va_A (CW ca ad σ) sz) (CW ca ad out)) 0 0 (va_A (CW ca ad σ) sz) := by
  refine Met.ofW (cc := cX2_plant) (maxL := 2) (ret := none) (by decide) rfl ?_
  intro p e s m args below meth c s₁ B hml hv
  obtain ⟨rfl, hsz, hP, hK, hD, hN⟩ := hv
  subst hsz
  have C := Cx.mk (own := RX2) B hml rfl hK hN (ws := (CW ca ad σ))
  have w : Wd (va_A (CW ca ad σ) s.heap.size) s D (CW ca ad σ) s.heap [] := ⟨hP, hD.self, va_S.rf⟩
  have hl := lv_entry ([.ref (ad 8), .int x1]) (n := 2) (Nat.le_of_ble_eq_true rfl)
  rw [lg_entry_eq]
  generalize (lg_sl ([.ref (ad 8), .int x1]) ++ List.replicate (2 - (lg_sl ([.ref (ad 8), .int x1])).length) Slot.unset).toArray = ls at hl ⊢
  have hl : lv_has ls 2 [(0, .ref (ad 8)), (1, .int x1)] := hl
  change W p l e rm_X2_plant_8 s m _ below meth c _ [] 0 0 _ _
  clear B hP hD hK hN hml
  generalize va_A (CW ca ad σ) s.heap.size = A at C w ⊢
  generalize ([.ref (ad 8), .int x1] : List Value).toArray = av at C ⊢
  obtain ⟨Q, hQ⟩ : ∃ Q, Q = MQ below (PostV D A (CW ca ad out)) av s 0 0 A := ⟨_, rfl⟩
  rw [← hQ]
  have hx := C.1
  have hb := C.2.1
  have h := hf
  unfold f_X2_plant_8 at h
  refine lv_aload_n hx hb dX2_plant_0 rfl (lv_at hl 0 rfl) ?_
  refine gC8_6 (v := (σ.1 806)) C w rfl wl_126 dX2_plant_1 ?_
  refine lv_bipush (v := 7) hx hb dX2_plant_4 (by decide) ?_
  refine lv_icmp_ge (tgt := 39) hx hb dX2_plant_6 (by decide) (fun c1 => ?_) (fun c1 => ?_)
  · have h := it_t h c1
    rw [hQ]
    exact rV (F := CW ca ad) C w h dX2_plant_39
  · have h := it_f h c1
    refine lv_aload_n hx hb dX2_plant_9 rfl (lv_at hl 0 rfl) ?_
    refine gC8_0 C w wl_70 dX2_plant_10 ?_
    refine lv_aload_n hx hb dX2_plant_13 rfl (lv_at hl 0 rfl) ?_
    refine gC8_6 (v := (σ.1 806)) C w rfl wl_126 dX2_plant_14 ?_
    refine lv_iload_n hx hb dX2_plant_17 rfl (lv_at hl 1 rfl) ?_
    obtain ⟨i2, h⟩ := ck_t h
    refine stC9 (j := ((σ.1 806)).toNatClampNeg) C w i2 rfl dX2_plant_18 (fun H locs w => ?_)
    refine lv_aload_n hx hb dX2_plant_19 rfl (lv_at hl 0 rfl) ?_
    refine gC8_1 C w wl_71 dX2_plant_20 ?_
    refine lv_aload_n hx hb dX2_plant_23 rfl (lv_at hl 0 rfl) ?_
    refine gC8_6 (v := (σ.1 806)) C w rfl wl_126 dX2_plant_24 ?_
    refine lv_iconst (v := 0) hx hb dX2_plant_27 (by decide) ?_
    obtain ⟨i3, h⟩ := ck_t h
    refine stC10 (j := ((σ.1 806)).toNatClampNeg) C w i3 rfl dX2_plant_28 (fun H locs w => ?_)
    refine lv_aload_n hx hb dX2_plant_29 rfl (lv_at hl 0 rfl) ?_
    refine lv_dup hx hb dX2_plant_30 rfl ?_
    refine gC8_6 (v := (σ.1 806)) C w rfl wl_126 dX2_plant_31 ?_
    refine lv_iconst (v := 1) hx hb dX2_plant_34 (by decide) ?_
    refine lv_iadd hx hb dX2_plant_35 ?_
    refine pC8_6 C w wl_126 dX2_plant_36 (fun H locs w => ?_)
    rw [hQ]
    exact rV (F := CW ca ad) C w h dX2_plant_39
theorem hd_X9_takesTree : yX9_takesTree.cls = RX9 ∧ yX9_takesTree.cls ≠ "java/lang/invoke/MethodHandle" ∧ yX9_takesTree.cls ≠ "java/lang/invoke/VarHandle" ∧ (parseMethodDescriptor yX9_takesTree.desc).map (fun d => d.parameters.length) = some 0 := by decide +kernel
def f_X9_takesTree (σ : St) : Option (Int32 × St) := (f_X9_takesNumber σ (5 : Int32)).bind fun q1 => if q1.1 = 0 then (some ((0 : Int32), q1.2)) else ((f_X2_plant_8 q1.2 (q1.2.1 4106)).bind fun q2 => some ((1 : Int32), q2))
abbrev rm_X9_takesTree : Room := { frames := 3, cells := 0, slots := 0, locals := 180 }
set_option maxHeartbeats 4000000 in
set_option maxRecDepth 100000 in
theorem c_X9_takesTree (l : Launch) (D : va_G) (ca : Nat → ClassId) (ad : Nat → Nat) (σ : St)  (sz : Nat) (out : Int32 × St) (hf : f_X9_takesTree σ  = some out) : Met l yX9_takesTree (.code yX9_takesTree cX9_takesTree 1 (some .boolean) :: WL) rm_X9_takesTree (PreC D ca (CW ca ad σ) sz [.ref (ad 41)]) (PostI D (va_A (CW ca ad σ) sz) (CW ca ad out.2) out.1) 0 0 (va_A (CW ca ad σ) sz) := by
  refine Met.ofW (cc := cX9_takesTree) (maxL := 1) (ret := (some .boolean)) (by decide) rfl ?_
  intro p e s m args below meth c s₁ B hml hv
  obtain ⟨rfl, hsz, hP, hK, hD, hN⟩ := hv
  subst hsz
  have C := Cx.mk (own := RX9) B hml rfl hK hN (ws := (CW ca ad σ))
  have w : Wd (va_A (CW ca ad σ) s.heap.size) s D (CW ca ad σ) s.heap [] := ⟨hP, hD.self, va_S.rf⟩
  have hl := lv_entry ([.ref (ad 41)]) (n := 1) (Nat.le_of_ble_eq_true rfl)
  rw [lg_entry_eq]
  generalize (lg_sl ([.ref (ad 41)]) ++ List.replicate (1 - (lg_sl ([.ref (ad 41)])).length) Slot.unset).toArray = ls at hl ⊢
  have hl : lv_has ls 1 [(0, .ref (ad 41))] := hl
  change W p l e rm_X9_takesTree s m _ below meth c _ [] 0 0 _ _
  clear B hP hD hK hN hml
  generalize va_A (CW ca ad σ) s.heap.size = A at C w ⊢
  generalize ([.ref (ad 41)] : List Value).toArray = av at C ⊢
  obtain ⟨Q, hQ⟩ : ∃ Q, Q = MQ below (PostI D A (CW ca ad out.2) out.1) av s 0 0 A := ⟨_, rfl⟩
  rw [← hQ]
  have hx := C.1
  have hb := C.2.1
  have h := hf
  unfold f_X9_takesTree at h
  refine lv_aload_n hx hb dX9_takesTree_0 rfl (lv_at hl 0 rfl) ?_
  refine lv_iconst (v := 5) hx hb dX9_takesTree_1 (by decide) ?_
  obtain ⟨q1, hq1, h⟩ := ob_t h
  refine res_i C w (run_V (As := [.int (5 : Int32)]) (rest := []) C w hl.1 (recvC41 C w) (c_X9_takesNumber l D ca ad _ (5 : Int32) _ q1 hq1) rfl rfl wl_307 wl_308 wl_309 wl_47 wl_310 hd_X9_takesNumber rfl ⟨Nat.le_of_ble_eq_true rfl, Nat.le_of_ble_eq_true rfl⟩ rfl (Nat.le_of_ble_eq_true rfl) dX9_takesTree_2) (fun H locs w => ?_)
  refine lv_if_ne (tgt := 10) hx hb dX9_takesTree_5 (by decide) (fun c1 => ?_) (fun c1 => ?_)
  · have h := it_f h c1
    refine lv_aload_n hx hb dX9_takesTree_10 rfl (lv_at hl 0 rfl) ?_
    refine gC41_1 C w wl_89 dX9_takesTree_11 ?_
    refine lv_aload_n hx hb dX9_takesTree_14 rfl (lv_at hl 0 rfl) ?_
    refine gC41_6 (v := (q1.2.1 4106)) C w rfl wl_236 dX9_takesTree_15 ?_
    obtain ⟨q2, hq2, h⟩ := ob_t h
    refine res_v C w (run_V (As := [.int (q1.2.1 4106)]) (rest := []) C w hl.1 (recvC8 C w) (c_X2_plant_8 l D ca ad _ (q1.2.1 4106) _ q2 hq2) rfl rfl wl_315 wl_159 wl_160 wl_33 wl_161 hd_X2_plant rfl ⟨Nat.le_of_ble_eq_true rfl, Nat.le_of_ble_eq_true rfl⟩ rfl (Nat.le_of_ble_eq_true rfl) dX9_takesTree_18) (fun H locs w => ?_)
    refine lv_iconst (v := 1) hx hb dX9_takesTree_21 (by decide) ?_
    rw [hQ]
    exact rZ (F := CW ca ad) C w (by decide) h dX9_takesTree_22
  · have h := it_t h c1
    refine lv_iconst (v := 0) hx hb dX9_takesTree_8 (by decide) ?_
    rw [hQ]
    exact rZ (F := CW ca ad) C w (by decide) h dX9_takesTree_9
def f_X2_join_8 (σ : St) (x1 : Int32) (x2 : Int32) (x3 : Int32) : Option (St) := cond (ckI x1 7) (cond (ckI x1 7) (cond (ckI x2 7) (cond (ckI x2 7) (some (sE (sE σ 10 x1.toNatClampNeg (((σ.2.2 10 x1.toNatClampNeg) &&& (((1 : Int32) <<< (x2 &&& 31)) ^^^ (-1 : Int32))) ||| (x3 <<< (x2 &&& 31)))) 10 x2.toNatClampNeg ((((sE σ 10 x1.toNatClampNeg (((σ.2.2 10 x1.toNatClampNeg) &&& (((1 : Int32) <<< (x2 &&& 31)) ^^^ (-1 : Int32))) ||| (x3 <<< (x2 &&& 31)))).2.2 10 x2.toNatClampNeg) &&& (((1 : Int32) <<< (x1 &&& 31)) ^^^ (-1 : Int32))) ||| (x3 <<< (x1 &&& 31))))) none) none) none) none
abbrev rm_X2_join_8 : Room := { frames := 0, cells := 0, slots := 0, locals := 0 }
set_option maxHeartbeats 4000000 in
set_option maxRecDepth 100000 in
theorem c_X2_join_8 (l : Launch) (D : va_G) (ca : Nat → ClassId) (ad : Nat → Nat) (σ : St) (x1 : Int32) (x2 : Int32) (x3 : Int32) (sz : Nat) (out : St) (hf : f_X2_join_8 σ x1 x2 x3 = some out) : Met l yX2_join (.code yX2_join cX2_join 4 none :: WL) rm_X2_join_8 (PreC D ca (CW ca ad σ) sz [.ref (ad 8), .int x1, .int x2, .int x3]) (PostV D (va_A (CW ca ad σ) sz) (CW ca ad out)) 0 0 (va_A (CW ca ad σ) sz) := by
  refine Met.ofW (cc := cX2_join) (maxL := 4) (ret := none) (by decide) rfl ?_
  intro p e s m args below meth c s₁ B hml hv
  obtain ⟨rfl, hsz, hP, hK, hD, hN⟩ := hv
  subst hsz
  have C := Cx.mk (own := RX2) B hml rfl hK hN (ws := (CW ca ad σ))
  have w : Wd (va_A (CW ca ad σ) s.heap.size) s D (CW ca ad σ) s.heap [] := ⟨hP, hD.self, va_S.rf⟩
  have hl := lv_entry ([.ref (ad 8), .int x1, .int x2, .int x3]) (n := 4) (Nat.le_of_ble_eq_true rfl)
  rw [lg_entry_eq]
  generalize (lg_sl ([.ref (ad 8), .int x1, .int x2, .int x3]) ++ List.replicate (4 - (lg_sl ([.ref (ad 8), .int x1, .int x2, .int x3])).length) Slot.unset).toArray = ls at hl ⊢
  have hl : lv_has ls 4 [(0, .ref (ad 8)), (1, .int x1), (2, .int x2), (3, .int x3)] := hl
  change W p l e rm_X2_join_8 s m _ below meth c _ [] 0 0 _ _
  clear B hP hD hK hN hml
  generalize va_A (CW ca ad σ) s.heap.size = A at C w ⊢
  generalize ([.ref (ad 8), .int x1, .int x2, .int x3] : List Value).toArray = av at C ⊢
  obtain ⟨Q, hQ⟩ : ∃ Q, Q = MQ below (PostV D A (CW ca ad out)) av s 0 0 A := ⟨_, rfl⟩
  rw [← hQ]
  have hx := C.1
  have hb := C.2.1
  have h := hf
  unfold f_X2_join_8 at h
  refine lv_aload_n hx hb dX2_join_0 rfl (lv_at hl 0 rfl) ?_
  refine gC8_1 C w wl_71 dX2_join_1 ?_
  refine lv_iload_n hx hb dX2_join_4 rfl (lv_at hl 1 rfl) ?_
  refine lv_aload_n hx hb dX2_join_5 rfl (lv_at hl 0 rfl) ?_
  refine gC8_1 C w wl_71 dX2_join_6 ?_
  refine lv_iload_n hx hb dX2_join_9 rfl (lv_at hl 1 rfl) ?_
  obtain ⟨i1, h⟩ := ck_t h
  refine ldC10 (v := (σ.2.2 10 x1.toNatClampNeg)) C w i1 rfl dX2_join_10 ?_
  refine lv_iconst (v := 1) hx hb dX2_join_11 (by decide) ?_
  refine lv_iload_n hx hb dX2_join_12 rfl (lv_at hl 2 rfl) ?_
  refine lv_ishl hx hb dX2_join_13 ?_
  refine lv_iconst (v := -1) hx hb dX2_join_14 (by decide) ?_
  refine lv_ixor hx hb dX2_join_15 ?_
  refine lv_iand hx hb dX2_join_16 ?_
  refine lv_iload_n hx hb dX2_join_17 rfl (lv_at hl 3 rfl) ?_
  refine lv_iload_n hx hb dX2_join_18 rfl (lv_at hl 2 rfl) ?_
  refine lv_ishl hx hb dX2_join_19 ?_
  refine lv_ior hx hb dX2_join_20 ?_
  obtain ⟨i2, h⟩ := ck_t h
  refine stC10 (j := x1.toNatClampNeg) C w i2 rfl dX2_join_21 (fun H locs w => ?_)
  refine lv_aload_n hx hb dX2_join_22 rfl (lv_at hl 0 rfl) ?_
  refine gC8_1 C w wl_71 dX2_join_23 ?_
  refine lv_iload_n hx hb dX2_join_26 rfl (lv_at hl 2 rfl) ?_
  refine lv_aload_n hx hb dX2_join_27 rfl (lv_at hl 0 rfl) ?_
  refine gC8_1 C w wl_71 dX2_join_28 ?_
  refine lv_iload_n hx hb dX2_join_31 rfl (lv_at hl 2 rfl) ?_
  obtain ⟨i3, h⟩ := ck_t h
  refine ldC10 (v := ((sE σ 10 x1.toNatClampNeg (((σ.2.2 10 x1.toNatClampNeg) &&& (((1 : Int32) <<< (x2 &&& 31)) ^^^ (-1 : Int32))) ||| (x3 <<< (x2 &&& 31)))).2.2 10 x2.toNatClampNeg)) C w i3 rfl dX2_join_32 ?_
  refine lv_iconst (v := 1) hx hb dX2_join_33 (by decide) ?_
  refine lv_iload_n hx hb dX2_join_34 rfl (lv_at hl 1 rfl) ?_
  refine lv_ishl hx hb dX2_join_35 ?_
  refine lv_iconst (v := -1) hx hb dX2_join_36 (by decide) ?_
  refine lv_ixor hx hb dX2_join_37 ?_
  refine lv_iand hx hb dX2_join_38 ?_
  refine lv_iload_n hx hb dX2_join_39 rfl (lv_at hl 3 rfl) ?_
  refine lv_iload_n hx hb dX2_join_40 rfl (lv_at hl 1 rfl) ?_
  refine lv_ishl hx hb dX2_join_41 ?_
  refine lv_ior hx hb dX2_join_42 ?_
  obtain ⟨i4, h⟩ := ck_t h
  refine stC10 (j := x2.toNatClampNeg) C w i4 rfl dX2_join_43 (fun H locs w => ?_)
  rw [hQ]
  exact rV (F := CW ca ad) C w h dX2_join_44
theorem hd_X9_takesTouch : yX9_takesTouch.cls = RX9 ∧ yX9_takesTouch.cls ≠ "java/lang/invoke/MethodHandle" ∧ yX9_takesTouch.cls ≠ "java/lang/invoke/VarHandle" ∧ (parseMethodDescriptor yX9_takesTouch.desc).map (fun d => d.parameters.length) = some 0 := by decide +kernel
def f_X9_takesTouch (σ : St) : Option (Int32 × St) := (f_X9_takesNumber σ ((σ.1 806) - (1 : Int32))).bind fun q1 => if q1.1 = 0 then (some ((0 : Int32), q1.2)) else ((f_X9_takesNumber q1.2 ((q1.2.1 806) - (1 : Int32))).bind fun q2 => if q2.1 = 0 then (some ((0 : Int32), q2.2)) else (if (q2.2.1 4106) = (q1.2.1 4106) then (some ((0 : Int32), q2.2)) else ((f_X2_join_8 q2.2 (q1.2.1 4106) (q2.2.1 4106) (1 : Int32)).bind fun q3 => some ((1 : Int32), q3))))
abbrev rm_X9_takesTouch : Room := { frames := 3, cells := 0, slots := 0, locals := 180 }
set_option maxHeartbeats 4000000 in
set_option maxRecDepth 100000 in
theorem c_X9_takesTouch (l : Launch) (D : va_G) (ca : Nat → ClassId) (ad : Nat → Nat) (σ : St)  (sz : Nat) (out : Int32 × St) (hf : f_X9_takesTouch σ  = some out) : Met l yX9_takesTouch (.code yX9_takesTouch cX9_takesTouch 2 (some .boolean) :: WL) rm_X9_takesTouch (PreC D ca (CW ca ad σ) sz [.ref (ad 41)]) (PostI D (va_A (CW ca ad σ) sz) (CW ca ad out.2) out.1) 0 0 (va_A (CW ca ad σ) sz) := by
  refine Met.ofW (cc := cX9_takesTouch) (maxL := 2) (ret := (some .boolean)) (by decide) rfl ?_
  intro p e s m args below meth c s₁ B hml hv
  obtain ⟨rfl, hsz, hP, hK, hD, hN⟩ := hv
  subst hsz
  have C := Cx.mk (own := RX9) B hml rfl hK hN (ws := (CW ca ad σ))
  have w : Wd (va_A (CW ca ad σ) s.heap.size) s D (CW ca ad σ) s.heap [] := ⟨hP, hD.self, va_S.rf⟩
  have hl := lv_entry ([.ref (ad 41)]) (n := 2) (Nat.le_of_ble_eq_true rfl)
  rw [lg_entry_eq]
  generalize (lg_sl ([.ref (ad 41)]) ++ List.replicate (2 - (lg_sl ([.ref (ad 41)])).length) Slot.unset).toArray = ls at hl ⊢
  have hl : lv_has ls 2 [(0, .ref (ad 41))] := hl
  change W p l e rm_X9_takesTouch s m _ below meth c _ [] 0 0 _ _
  clear B hP hD hK hN hml
  generalize va_A (CW ca ad σ) s.heap.size = A at C w ⊢
  generalize ([.ref (ad 41)] : List Value).toArray = av at C ⊢
  obtain ⟨Q, hQ⟩ : ∃ Q, Q = MQ below (PostI D A (CW ca ad out.2) out.1) av s 0 0 A := ⟨_, rfl⟩
  rw [← hQ]
  have hx := C.1
  have hb := C.2.1
  have h := hf
  unfold f_X9_takesTouch at h
  refine lv_aload_n hx hb dX9_takesTouch_0 rfl (lv_at hl 0 rfl) ?_
  refine lv_aload_n hx hb dX9_takesTouch_1 rfl (lv_at hl 0 rfl) ?_
  refine gC41_1 C w wl_89 dX9_takesTouch_2 ?_
  refine gC8_6 (v := (σ.1 806)) C w rfl wl_249 dX9_takesTouch_5 ?_
  refine lv_iconst (v := 1) hx hb dX9_takesTouch_8 (by decide) ?_
  refine lv_isub hx hb dX9_takesTouch_9 ?_
  obtain ⟨q1, hq1, h⟩ := ob_t h
  refine res_i C w (run_V (As := [.int ((σ.1 806) - (1 : Int32))]) (rest := []) C w hl.1 (recvC41 C w) (c_X9_takesNumber l D ca ad _ ((σ.1 806) - (1 : Int32)) _ q1 hq1) rfl rfl wl_307 wl_308 wl_309 wl_47 wl_310 hd_X9_takesNumber rfl ⟨Nat.le_of_ble_eq_true rfl, Nat.le_of_ble_eq_true rfl⟩ rfl (Nat.le_of_ble_eq_true rfl) dX9_takesTouch_10) (fun H locs w => ?_)
  refine lv_if_ne (tgt := 18) hx hb dX9_takesTouch_13 (by decide) (fun c1 => ?_) (fun c1 => ?_)
  · have h := it_f h c1
    refine lv_aload_n hx hb dX9_takesTouch_18 rfl (lv_at hl 0 rfl) ?_
    refine gC41_6 (v := (q1.2.1 4106)) C w rfl wl_236 dX9_takesTouch_19 ?_
    refine lv_istore_n (lv' := [(1, .int (q1.2.1 4106)), (0, .ref (ad 41))]) hx hb dX9_takesTouch_22 rfl hl (by decide) rfl (fun ls hl => ?_)
    refine lv_aload_n hx hb dX9_takesTouch_23 rfl (lv_at hl 1 rfl) ?_
    refine lv_aload_n hx hb dX9_takesTouch_24 rfl (lv_at hl 1 rfl) ?_
    refine gC41_1 C w wl_89 dX9_takesTouch_25 ?_
    refine gC8_6 (v := (q1.2.1 806)) C w rfl wl_249 dX9_takesTouch_28 ?_
    refine lv_iconst (v := 1) hx hb dX9_takesTouch_31 (by decide) ?_
    refine lv_isub hx hb dX9_takesTouch_32 ?_
    obtain ⟨q2, hq2, h⟩ := ob_t h
    refine res_i C w (run_V (As := [.int ((q1.2.1 806) - (1 : Int32))]) (rest := []) C w hl.1 (recvC41 C w) (c_X9_takesNumber l D ca ad _ ((q1.2.1 806) - (1 : Int32)) _ q2 hq2) rfl rfl wl_307 wl_308 wl_309 wl_47 wl_310 hd_X9_takesNumber rfl ⟨Nat.le_of_ble_eq_true rfl, Nat.le_of_ble_eq_true rfl⟩ rfl (Nat.le_of_ble_eq_true rfl) dX9_takesTouch_33) (fun H locs w => ?_)
    refine lv_if_eq (tgt := 47) hx hb dX9_takesTouch_36 (by decide) (fun c2 => ?_) (fun c2 => ?_)
    · have h := it_t h c2
      refine lv_iconst (v := 0) hx hb dX9_takesTouch_47 (by decide) ?_
      rw [hQ]
      exact rZ (F := CW ca ad) C w (by decide) h dX9_takesTouch_48
    · have h := it_f h c2
      refine lv_aload_n hx hb dX9_takesTouch_39 rfl (lv_at hl 1 rfl) ?_
      refine gC41_6 (v := (q2.2.1 4106)) C w rfl wl_236 dX9_takesTouch_40 ?_
      refine lv_iload_n hx hb dX9_takesTouch_43 rfl (lv_at hl 0 rfl) ?_
      refine lv_icmp_ne (tgt := 49) hx hb dX9_takesTouch_44 (by decide) (fun c3 => ?_) (fun c3 => ?_)
      · have h := it_f h c3
        refine lv_aload_n hx hb dX9_takesTouch_49 rfl (lv_at hl 1 rfl) ?_
        refine gC41_1 C w wl_89 dX9_takesTouch_50 ?_
        refine lv_iload_n hx hb dX9_takesTouch_53 rfl (lv_at hl 0 rfl) ?_
        refine lv_aload_n hx hb dX9_takesTouch_54 rfl (lv_at hl 1 rfl) ?_
        refine gC41_6 (v := (q2.2.1 4106)) C w rfl wl_236 dX9_takesTouch_55 ?_
        refine lv_iconst (v := 1) hx hb dX9_takesTouch_58 (by decide) ?_
        obtain ⟨q3, hq3, h⟩ := ob_t h
        refine res_v C w (run_V (As := [.int (q1.2.1 4106), .int (q2.2.1 4106), .int (1 : Int32)]) (rest := []) C w hl.1 (recvC8 C w) (c_X2_join_8 l D ca ad _ (q1.2.1 4106) (q2.2.1 4106) (1 : Int32) _ q3 hq3) rfl rfl wl_320 wl_181 wl_182 wl_33 wl_183 hd_X2_join rfl ⟨Nat.le_of_ble_eq_true rfl, Nat.le_of_ble_eq_true rfl⟩ rfl (Nat.le_of_ble_eq_true rfl) dX9_takesTouch_59) (fun H locs w => ?_)
        refine lv_iconst (v := 1) hx hb dX9_takesTouch_62 (by decide) ?_
        rw [hQ]
        exact rZ (F := CW ca ad) C w (by decide) h dX9_takesTouch_63
      · have h := it_t h c3
        refine lv_iconst (v := 0) hx hb dX9_takesTouch_47 (by decide) ?_
        rw [hQ]
        exact rZ (F := CW ca ad) C w (by decide) h dX9_takesTouch_48
  · have h := it_t h c1
    refine lv_iconst (v := 0) hx hb dX9_takesTouch_16 (by decide) ?_
    rw [hQ]
    exact rZ (F := CW ca ad) C w (by decide) h dX9_takesTouch_17
def f_X2_markFelled_8 (σ : St) (x1 : Int32) (x2 : Int32) : Option (St) := some (sI σ 807 (((σ.1 807) &&& (((1 : Int32) <<< (x1 &&& 31)) ^^^ (-1 : Int32))) ||| (x2 <<< (x1 &&& 31))))
abbrev rm_X2_markFelled_8 : Room := { frames := 0, cells := 0, slots := 0, locals := 0 }
set_option maxHeartbeats 4000000 in
set_option maxRecDepth 100000 in
theorem c_X2_markFelled_8 (l : Launch) (D : va_G) (ca : Nat → ClassId) (ad : Nat → Nat) (σ : St) (x1 : Int32) (x2 : Int32) (sz : Nat) (out : St) (hf : f_X2_markFelled_8 σ x1 x2 = some out) : Met l yX2_markFelled (.code yX2_markFelled cX2_markFelled 3 none :: WL) rm_X2_markFelled_8 (PreC D ca (CW ca ad σ) sz [.ref (ad 8), .int x1, .int x2]) (PostV D (va_A (CW ca ad σ) sz) (CW ca ad out)) 0 0 (va_A (CW ca ad σ) sz) := by
  refine Met.ofW (cc := cX2_markFelled) (maxL := 3) (ret := none) (by decide) rfl ?_
  intro p e s m args below meth c s₁ B hml hv
  obtain ⟨rfl, hsz, hP, hK, hD, hN⟩ := hv
  subst hsz
  have C := Cx.mk (own := RX2) B hml rfl hK hN (ws := (CW ca ad σ))
  have w : Wd (va_A (CW ca ad σ) s.heap.size) s D (CW ca ad σ) s.heap [] := ⟨hP, hD.self, va_S.rf⟩
  have hl := lv_entry ([.ref (ad 8), .int x1, .int x2]) (n := 3) (Nat.le_of_ble_eq_true rfl)
  rw [lg_entry_eq]
  generalize (lg_sl ([.ref (ad 8), .int x1, .int x2]) ++ List.replicate (3 - (lg_sl ([.ref (ad 8), .int x1, .int x2])).length) Slot.unset).toArray = ls at hl ⊢
  have hl : lv_has ls 3 [(0, .ref (ad 8)), (1, .int x1), (2, .int x2)] := hl
  change W p l e rm_X2_markFelled_8 s m _ below meth c _ [] 0 0 _ _
  clear B hP hD hK hN hml
  generalize va_A (CW ca ad σ) s.heap.size = A at C w ⊢
  generalize ([.ref (ad 8), .int x1, .int x2] : List Value).toArray = av at C ⊢
  obtain ⟨Q, hQ⟩ : ∃ Q, Q = MQ below (PostV D A (CW ca ad out)) av s 0 0 A := ⟨_, rfl⟩
  rw [← hQ]
  have hx := C.1
  have hb := C.2.1
  have h := hf
  unfold f_X2_markFelled_8 at h
  refine lv_aload_n hx hb dX2_markFelled_0 rfl (lv_at hl 0 rfl) ?_
  refine lv_aload_n hx hb dX2_markFelled_1 rfl (lv_at hl 0 rfl) ?_
  refine gC8_7 (v := (σ.1 807)) C w rfl wl_127 dX2_markFelled_2 ?_
  refine lv_iconst (v := 1) hx hb dX2_markFelled_5 (by decide) ?_
  refine lv_iload_n hx hb dX2_markFelled_6 rfl (lv_at hl 1 rfl) ?_
  refine lv_ishl hx hb dX2_markFelled_7 ?_
  refine lv_iconst (v := -1) hx hb dX2_markFelled_8 (by decide) ?_
  refine lv_ixor hx hb dX2_markFelled_9 ?_
  refine lv_iand hx hb dX2_markFelled_10 ?_
  refine lv_iload_n hx hb dX2_markFelled_11 rfl (lv_at hl 2 rfl) ?_
  refine lv_iload_n hx hb dX2_markFelled_12 rfl (lv_at hl 1 rfl) ?_
  refine lv_ishl hx hb dX2_markFelled_13 ?_
  refine lv_ior hx hb dX2_markFelled_14 ?_
  refine pC8_7 C w wl_127 dX2_markFelled_15 (fun H locs w => ?_)
  rw [hQ]
  exact rV (F := CW ca ad) C w h dX2_markFelled_18
theorem hd_X9_takesFelled : yX9_takesFelled.cls = RX9 ∧ yX9_takesFelled.cls ≠ "java/lang/invoke/MethodHandle" ∧ yX9_takesFelled.cls ≠ "java/lang/invoke/VarHandle" ∧ (parseMethodDescriptor yX9_takesFelled.desc).map (fun d => d.parameters.length) = some 0 := by decide +kernel
def f_X9_takesFelled (σ : St) : Option (Int32 × St) := (f_X9_takesNumber σ ((σ.1 806) - (1 : Int32))).bind fun q1 => if q1.1 = 0 then (some ((0 : Int32), q1.2)) else ((f_X2_markFelled_8 q1.2 (q1.2.1 4106) (1 : Int32)).bind fun q2 => some ((1 : Int32), q2))
abbrev rm_X9_takesFelled : Room := { frames := 3, cells := 0, slots := 0, locals := 180 }
set_option maxHeartbeats 4000000 in
set_option maxRecDepth 100000 in
theorem c_X9_takesFelled (l : Launch) (D : va_G) (ca : Nat → ClassId) (ad : Nat → Nat) (σ : St)  (sz : Nat) (out : Int32 × St) (hf : f_X9_takesFelled σ  = some out) : Met l yX9_takesFelled (.code yX9_takesFelled cX9_takesFelled 1 (some .boolean) :: WL) rm_X9_takesFelled (PreC D ca (CW ca ad σ) sz [.ref (ad 41)]) (PostI D (va_A (CW ca ad σ) sz) (CW ca ad out.2) out.1) 0 0 (va_A (CW ca ad σ) sz) := by
  refine Met.ofW (cc := cX9_takesFelled) (maxL := 1) (ret := (some .boolean)) (by decide) rfl ?_
  intro p e s m args below meth c s₁ B hml hv
  obtain ⟨rfl, hsz, hP, hK, hD, hN⟩ := hv
  subst hsz
  have C := Cx.mk (own := RX9) B hml rfl hK hN (ws := (CW ca ad σ))
  have w : Wd (va_A (CW ca ad σ) s.heap.size) s D (CW ca ad σ) s.heap [] := ⟨hP, hD.self, va_S.rf⟩
  have hl := lv_entry ([.ref (ad 41)]) (n := 1) (Nat.le_of_ble_eq_true rfl)
  rw [lg_entry_eq]
  generalize (lg_sl ([.ref (ad 41)]) ++ List.replicate (1 - (lg_sl ([.ref (ad 41)])).length) Slot.unset).toArray = ls at hl ⊢
  have hl : lv_has ls 1 [(0, .ref (ad 41))] := hl
  change W p l e rm_X9_takesFelled s m _ below meth c _ [] 0 0 _ _
  clear B hP hD hK hN hml
  generalize va_A (CW ca ad σ) s.heap.size = A at C w ⊢
  generalize ([.ref (ad 41)] : List Value).toArray = av at C ⊢
  obtain ⟨Q, hQ⟩ : ∃ Q, Q = MQ below (PostI D A (CW ca ad out.2) out.1) av s 0 0 A := ⟨_, rfl⟩
  rw [← hQ]
  have hx := C.1
  have hb := C.2.1
  have h := hf
  unfold f_X9_takesFelled at h
  refine lv_aload_n hx hb dX9_takesFelled_0 rfl (lv_at hl 0 rfl) ?_
  refine lv_aload_n hx hb dX9_takesFelled_1 rfl (lv_at hl 0 rfl) ?_
  refine gC41_1 C w wl_89 dX9_takesFelled_2 ?_
  refine gC8_6 (v := (σ.1 806)) C w rfl wl_249 dX9_takesFelled_5 ?_
  refine lv_iconst (v := 1) hx hb dX9_takesFelled_8 (by decide) ?_
  refine lv_isub hx hb dX9_takesFelled_9 ?_
  obtain ⟨q1, hq1, h⟩ := ob_t h
  refine res_i C w (run_V (As := [.int ((σ.1 806) - (1 : Int32))]) (rest := []) C w hl.1 (recvC41 C w) (c_X9_takesNumber l D ca ad _ ((σ.1 806) - (1 : Int32)) _ q1 hq1) rfl rfl wl_307 wl_308 wl_309 wl_47 wl_310 hd_X9_takesNumber rfl ⟨Nat.le_of_ble_eq_true rfl, Nat.le_of_ble_eq_true rfl⟩ rfl (Nat.le_of_ble_eq_true rfl) dX9_takesFelled_10) (fun H locs w => ?_)
  refine lv_if_ne (tgt := 18) hx hb dX9_takesFelled_13 (by decide) (fun c1 => ?_) (fun c1 => ?_)
  · have h := it_f h c1
    refine lv_aload_n hx hb dX9_takesFelled_18 rfl (lv_at hl 0 rfl) ?_
    refine gC41_1 C w wl_89 dX9_takesFelled_19 ?_
    refine lv_aload_n hx hb dX9_takesFelled_22 rfl (lv_at hl 0 rfl) ?_
    refine gC41_6 (v := (q1.2.1 4106)) C w rfl wl_236 dX9_takesFelled_23 ?_
    refine lv_iconst (v := 1) hx hb dX9_takesFelled_26 (by decide) ?_
    obtain ⟨q2, hq2, h⟩ := ob_t h
    refine res_v C w (run_V (As := [.int (q1.2.1 4106), .int (1 : Int32)]) (rest := []) C w hl.1 (recvC8 C w) (c_X2_markFelled_8 l D ca ad _ (q1.2.1 4106) (1 : Int32) _ q2 hq2) rfl rfl wl_325 wl_326 wl_327 wl_33 wl_328 hd_X2_markFelled rfl ⟨Nat.le_of_ble_eq_true rfl, Nat.le_of_ble_eq_true rfl⟩ rfl (Nat.le_of_ble_eq_true rfl) dX9_takesFelled_27) (fun H locs w => ?_)
    refine lv_iconst (v := 1) hx hb dX9_takesFelled_30 (by decide) ?_
    rw [hQ]
    exact rZ (F := CW ca ad) C w (by decide) h dX9_takesFelled_31
  · have h := it_t h c1
    refine lv_iconst (v := 0) hx hb dX9_takesFelled_16 (by decide) ?_
    rw [hQ]
    exact rZ (F := CW ca ad) C w (by decide) h dX9_takesFelled_17
theorem hd_J0_coder_7d493 : yJ0_coder_7d493.cls = RJ0 ∧ yJ0_coder_7d493.cls ≠ "java/lang/invoke/MethodHandle" ∧ yJ0_coder_7d493.cls ≠ "java/lang/invoke/VarHandle" ∧ (parseMethodDescriptor yJ0_coder_7d493.desc).map (fun d => d.parameters.length) = some 0 := by decide +kernel
def f_J0_coder_7d493_S0  : Option (Int32) := if (1 : Int32) = 0 then (some (1 : Int32)) else (some (0 : Int32))
abbrev rm_J0_coder_7d493_S0 : Room := { frames := 0, cells := 0, slots := 0, locals := 0 }
set_option maxHeartbeats 4000000 in
set_option maxRecDepth 100000 in
theorem c_J0_coder_7d493_S0 (l : Launch) (D : va_G) (ca : Nat → ClassId) (ws : va_W)  (sz : Nat) (out : Int32) (hf : f_J0_coder_7d493_S0  = some out) : Met l yJ0_coder_7d493 (.code yJ0_coder_7d493 cJ0_coder_7d493 1 (some .byte) :: WL) rm_J0_coder_7d493_S0 (PreC D ca ws sz [.ref (ca 10)]) (PostI D (va_A ws sz) ws out) 0 0 (va_A ws sz) := by
  refine Met.ofW (cc := cJ0_coder_7d493) (maxL := 1) (ret := (some .byte)) (by decide) rfl ?_
  intro p e s m args below meth c s₁ B hml hv
  obtain ⟨rfl, hsz, hP, hK, hD, hN⟩ := hv
  subst hsz
  have C := Cx.mk (own := RJ0) B hml rfl hK hN (ws := ws)
  have w : Wd (va_A ws s.heap.size) s D ws s.heap [] := ⟨hP, hD.self, va_S.rf⟩
  have hl := lv_entry ([.ref (ca 10)]) (n := 1) (Nat.le_of_ble_eq_true rfl)
  rw [lg_entry_eq]
  generalize (lg_sl ([.ref (ca 10)]) ++ List.replicate (1 - (lg_sl ([.ref (ca 10)])).length) Slot.unset).toArray = ls at hl ⊢
  have hl : lv_has ls 1 [(0, .ref (ca 10))] := hl
  change W p l e rm_J0_coder_7d493_S0 s m _ below meth c _ [] 0 0 _ _
  clear B hP hD hK hN hml
  generalize va_A ws s.heap.size = A at C w ⊢
  generalize ([.ref (ca 10)] : List Value).toArray = av at C ⊢
  obtain ⟨Q, hQ⟩ : ∃ Q, Q = MQ below (PostI D A ws out) av s 0 0 A := ⟨_, rfl⟩
  rw [← hQ]
  have hx := C.1
  have hb := C.2.1
  have h := hf
  unfold f_J0_coder_7d493_S0 at h
  refine gcs C w wl_264 dJ0_coder_7d493_0 ?_
  refine lv_if_eq (tgt := 13) hx hb dJ0_coder_7d493_3 (by decide) (fun c1 => ?_) (fun c1 => ?_)
  · have h := it_t h c1
    refine lv_iconst (v := 1) hx hb dJ0_coder_7d493_13 (by decide) ?_
    rw [hQ]
    exact qT C w (by decide) h dJ0_coder_7d493_14
  · have h := it_f h c1
    refine lv_aload_n hx hb dJ0_coder_7d493_6 rfl (lv_at hl 0 rfl) ?_
    refine gsc C w 0 (by decide) wl_265 dJ0_coder_7d493_7 ?_
    refine lv_goto (tgt := 14) hx hb dJ0_coder_7d493_10 (by decide) ?_
    rw [hQ]
    exact qT C w (by decide) h dJ0_coder_7d493_14
theorem hd_J0_length_8abf5 : yJ0_length_8abf5.cls = RJ0 ∧ yJ0_length_8abf5.cls ≠ "java/lang/invoke/MethodHandle" ∧ yJ0_length_8abf5.cls ≠ "java/lang/invoke/VarHandle" ∧ (parseMethodDescriptor yJ0_length_8abf5.desc).map (fun d => d.parameters.length) = some 0 := by decide +kernel
def f_J0_length_8abf5_S0  : Option (Int32) := (f_J0_coder_7d493_S0).bind fun q1 => some ((4 : Int32) >>> (q1 &&& 31))
abbrev rm_J0_length_8abf5_S0 : Room := { frames := 1, cells := 0, slots := 0, locals := 60 }
set_option maxHeartbeats 4000000 in
set_option maxRecDepth 100000 in
theorem c_J0_length_8abf5_S0 (l : Launch) (D : va_G) (ca : Nat → ClassId) (ws : va_W)  (sz : Nat) (out : Int32) (hf : f_J0_length_8abf5_S0  = some out) : Met l yJ0_length_8abf5 (.code yJ0_length_8abf5 cJ0_length_8abf5 1 (some .int) :: WL) rm_J0_length_8abf5_S0 (PreC D ca ws sz [.ref (ca 10)]) (PostI D (va_A ws sz) ws out) 0 0 (va_A ws sz) := by
  refine Met.ofW (cc := cJ0_length_8abf5) (maxL := 1) (ret := (some .int)) (by decide) rfl ?_
  intro p e s m args below meth c s₁ B hml hv
  obtain ⟨rfl, hsz, hP, hK, hD, hN⟩ := hv
  subst hsz
  have C := Cx.mk (own := RJ0) B hml rfl hK hN (ws := ws)
  have w : Wd (va_A ws s.heap.size) s D ws s.heap [] := ⟨hP, hD.self, va_S.rf⟩
  have hl := lv_entry ([.ref (ca 10)]) (n := 1) (Nat.le_of_ble_eq_true rfl)
  rw [lg_entry_eq]
  generalize (lg_sl ([.ref (ca 10)]) ++ List.replicate (1 - (lg_sl ([.ref (ca 10)])).length) Slot.unset).toArray = ls at hl ⊢
  have hl : lv_has ls 1 [(0, .ref (ca 10))] := hl
  change W p l e rm_J0_length_8abf5_S0 s m _ below meth c _ [] 0 0 _ _
  clear B hP hD hK hN hml
  generalize va_A ws s.heap.size = A at C w ⊢
  generalize ([.ref (ca 10)] : List Value).toArray = av at C ⊢
  obtain ⟨Q, hQ⟩ : ∃ Q, Q = MQ below (PostI D A ws out) av s 0 0 A := ⟨_, rfl⟩
  rw [← hQ]
  have hx := C.1
  have hb := C.2.1
  have h := hf
  unfold f_J0_length_8abf5_S0 at h
  refine lv_aload_n hx hb dJ0_length_8abf5_0 rfl (lv_at hl 0 rfl) ?_
  refine gsv C w 0 (by decide) wl_259 dJ0_length_8abf5_1 ?_
  refine gsn (v := 4) C w 0 (by decide) rfl dJ0_length_8abf5_4 ?_
  refine lv_aload_n hx hb dJ0_length_8abf5_5 rfl (lv_at hl 0 rfl) ?_
  obtain ⟨q1, hq1, h⟩ := ob_t h
  refine res_i C w (run_V (As := []) (rest := [.int (4 : Int32)]) C w hl.1 (srecv C w 0 (by decide)) (c_J0_coder_7d493_S0 l D ca _  _ q1 hq1) rfl rfl wl_260 wl_261 wl_262 wl_257 wl_263 hd_J0_coder_7d493 rfl ⟨Nat.le_of_ble_eq_true rfl, Nat.le_of_ble_eq_true rfl⟩ rfl (Nat.le_of_ble_eq_true rfl) dJ0_length_8abf5_6) (fun H locs w => ?_)
  refine lv_ishr hx hb dJ0_length_8abf5_9 ?_
  rw [hQ]
  exact qI C w h dJ0_length_8abf5_10
theorem hd_J0_isLatin1_aae02 : yJ0_isLatin1_aae02.cls = RJ0 ∧ yJ0_isLatin1_aae02.cls ≠ "java/lang/invoke/MethodHandle" ∧ yJ0_isLatin1_aae02.cls ≠ "java/lang/invoke/VarHandle" ∧ (parseMethodDescriptor yJ0_isLatin1_aae02.desc).map (fun d => d.parameters.length) = some 0 := by decide +kernel
def f_J0_isLatin1_aae02_S0  : Option (Int32) := if (1 : Int32) = 0 then (some (0 : Int32)) else (if (0 : Int32) = 0 then (some (1 : Int32)) else (some (0 : Int32)))
abbrev rm_J0_isLatin1_aae02_S0 : Room := { frames := 0, cells := 0, slots := 0, locals := 0 }
set_option maxHeartbeats 4000000 in
set_option maxRecDepth 100000 in
theorem c_J0_isLatin1_aae02_S0 (l : Launch) (D : va_G) (ca : Nat → ClassId) (ws : va_W)  (sz : Nat) (out : Int32) (hf : f_J0_isLatin1_aae02_S0  = some out) : Met l yJ0_isLatin1_aae02 (.code yJ0_isLatin1_aae02 cJ0_isLatin1_aae02 1 (some .boolean) :: WL) rm_J0_isLatin1_aae02_S0 (PreC D ca ws sz [.ref (ca 10)]) (PostI D (va_A ws sz) ws out) 0 0 (va_A ws sz) := by
  refine Met.ofW (cc := cJ0_isLatin1_aae02) (maxL := 1) (ret := (some .boolean)) (by decide) rfl ?_
  intro p e s m args below meth c s₁ B hml hv
  obtain ⟨rfl, hsz, hP, hK, hD, hN⟩ := hv
  subst hsz
  have C := Cx.mk (own := RJ0) B hml rfl hK hN (ws := ws)
  have w : Wd (va_A ws s.heap.size) s D ws s.heap [] := ⟨hP, hD.self, va_S.rf⟩
  have hl := lv_entry ([.ref (ca 10)]) (n := 1) (Nat.le_of_ble_eq_true rfl)
  rw [lg_entry_eq]
  generalize (lg_sl ([.ref (ca 10)]) ++ List.replicate (1 - (lg_sl ([.ref (ca 10)])).length) Slot.unset).toArray = ls at hl ⊢
  have hl : lv_has ls 1 [(0, .ref (ca 10))] := hl
  change W p l e rm_J0_isLatin1_aae02_S0 s m _ below meth c _ [] 0 0 _ _
  clear B hP hD hK hN hml
  generalize va_A ws s.heap.size = A at C w ⊢
  generalize ([.ref (ca 10)] : List Value).toArray = av at C ⊢
  obtain ⟨Q, hQ⟩ : ∃ Q, Q = MQ below (PostI D A ws out) av s 0 0 A := ⟨_, rfl⟩
  rw [← hQ]
  have hx := C.1
  have hb := C.2.1
  have h := hf
  unfold f_J0_isLatin1_aae02_S0 at h
  refine gcs C w wl_264 dJ0_isLatin1_aae02_0 ?_
  refine lv_if_eq (tgt := 17) hx hb dJ0_isLatin1_aae02_3 (by decide) (fun c1 => ?_) (fun c1 => ?_)
  · have h := it_t h c1
    refine lv_iconst (v := 0) hx hb dJ0_isLatin1_aae02_17 (by decide) ?_
    rw [hQ]
    exact qZ C w (by decide) h dJ0_isLatin1_aae02_18
  · have h := it_f h c1
    refine lv_aload_n hx hb dJ0_isLatin1_aae02_6 rfl (lv_at hl 0 rfl) ?_
    refine gsc C w 0 (by decide) wl_265 dJ0_isLatin1_aae02_7 ?_
    refine lv_if_ne (tgt := 17) hx hb dJ0_isLatin1_aae02_10 (by decide) (fun c2 => ?_) (fun c2 => ?_)
    · have h := it_f h c2
      refine lv_iconst (v := 0) hx hb dJ0_isLatin1_aae02_17 (by decide) ?_
      rw [hQ]
      exact qZ C w (by decide) h dJ0_isLatin1_aae02_18
    · have h := it_t h c2
      refine lv_iconst (v := 1) hx hb dJ0_isLatin1_aae02_13 (by decide) ?_
      refine lv_goto (tgt := 18) hx hb dJ0_isLatin1_aae02_14 (by decide) ?_
      rw [hQ]
      exact qZ C w (by decide) h dJ0_isLatin1_aae02_18
theorem hd_J3_checkIndex_8e157 : yJ3_checkIndex_8e157.cls ≠ "java/lang/invoke/MethodHandle" ∧ yJ3_checkIndex_8e157.cls ≠ "java/lang/invoke/VarHandle" ∧ (parseMethodDescriptor yJ3_checkIndex_8e157.desc).map (fun d => d.parameters.length) = some 3 := by decide +kernel
def f_J3_checkIndex_8e157_b9 (x0 : Int32) (x1 : Int32) : Option (Int32) := none
def f_J3_checkIndex_8e157 (x0 : Int32) (x1 : Int32) : Option (Int32) := if x0 < 0 then (f_J3_checkIndex_8e157_b9 x0 x1) else (if x0 < x1 then (some x0) else (f_J3_checkIndex_8e157_b9 x0 x1))
abbrev rm_J3_checkIndex_8e157 : Room := { frames := 0, cells := 0, slots := 0, locals := 0 }
set_option maxHeartbeats 4000000 in
set_option maxRecDepth 100000 in
theorem c_J3_checkIndex_8e157_n (l : Launch) (D : va_G) (ca : Nat → ClassId) (ws : va_W) (x0 : Int32) (x1 : Int32) (sz : Nat) (out : Int32) (hf : f_J3_checkIndex_8e157 x0 x1 = some out) : Met l yJ3_checkIndex_8e157 (.code yJ3_checkIndex_8e157 cJ3_checkIndex_8e157 3 (some .int) :: WL) rm_J3_checkIndex_8e157 (PreC D ca ws sz [.int x0, .int x1, .null]) (PostI D (va_A ws sz) ws out) 0 0 (va_A ws sz) := by
  refine Met.ofW (cc := cJ3_checkIndex_8e157) (maxL := 3) (ret := (some .int)) (by decide) rfl ?_
  intro p e s m args below meth c s₁ B hml hv
  obtain ⟨rfl, hsz, hP, hK, hD, hN⟩ := hv
  subst hsz
  have C := Cx.mk (own := RJ3) B hml rfl hK hN (ws := ws)
  have w : Wd (va_A ws s.heap.size) s D ws s.heap [] := ⟨hP, hD.self, va_S.rf⟩
  have hl := lv_entry ([.int x0, .int x1, .null]) (n := 3) (Nat.le_of_ble_eq_true rfl)
  rw [lg_entry_eq]
  generalize (lg_sl ([.int x0, .int x1, .null]) ++ List.replicate (3 - (lg_sl ([.int x0, .int x1, .null])).length) Slot.unset).toArray = ls at hl ⊢
  have hl : lv_has ls 3 [(0, .int x0), (1, .int x1), (2, .null)] := hl
  change W p l e rm_J3_checkIndex_8e157 s m _ below meth c _ [] 0 0 _ _
  clear B hP hD hK hN hml
  generalize va_A ws s.heap.size = A at C w ⊢
  generalize ([.int x0, .int x1, .null] : List Value).toArray = av at C ⊢
  obtain ⟨Q, hQ⟩ : ∃ Q, Q = MQ below (PostI D A ws out) av s 0 0 A := ⟨_, rfl⟩
  rw [← hQ]
  have hx := C.1
  have hb := C.2.1
  have b9 : ∀ (x0 : Int32) (x1 : Int32), f_J3_checkIndex_8e157_b9 x0 x1 = some out → Bk p l e rm_J3_checkIndex_8e157 s m av below meth c A D 3 Q ws 9 [(0, .int x0), (1, .int x1), (2, .null)] [] := by
    intro x0 x1 h H locs ls w hl
    unfold f_J3_checkIndex_8e157_b9 at h
    exact absurd h (by simp)
  have h := hf
  unfold f_J3_checkIndex_8e157 at h
  refine lv_iload_n hx hb dJ3_checkIndex_8e157_0 rfl (lv_at hl 0 rfl) ?_
  refine lv_if_lt (tgt := 9) hx hb dJ3_checkIndex_8e157_1 (by decide) (fun c1 => ?_) (fun c1 => ?_)
  · have h := it_t h c1
    exact b9 _ _ h _ _ _ w (lv_sub hl [0, 1, 2] rfl)
  · have h := it_f h c1
    refine lv_iload_n hx hb dJ3_checkIndex_8e157_4 rfl (lv_at hl 0 rfl) ?_
    refine lv_iload_n hx hb dJ3_checkIndex_8e157_5 rfl (lv_at hl 1 rfl) ?_
    refine lv_icmp_lt (tgt := 16) hx hb dJ3_checkIndex_8e157_6 (by decide) (fun c2 => ?_) (fun c2 => ?_)
    · have h := it_t h c2
      refine lv_iload_n hx hb dJ3_checkIndex_8e157_16 rfl (lv_at hl 0 rfl) ?_
      rw [hQ]
      exact qI C w h dJ3_checkIndex_8e157_17
    · have h := it_f h c2
      exact b9 _ _ h _ _ _ w (lv_sub hl [0, 1, 2] rfl)
set_option maxHeartbeats 4000000 in
set_option maxRecDepth 100000 in
theorem c_J3_checkIndex_8e157_r (l : Launch) (D : va_G) (ca : Nat → ClassId) (ws : va_W) (t : Nat) (x0 : Int32) (x1 : Int32) (sz : Nat) (out : Int32) (hf : f_J3_checkIndex_8e157 x0 x1 = some out) : Met l yJ3_checkIndex_8e157 (.code yJ3_checkIndex_8e157 cJ3_checkIndex_8e157 3 (some .int) :: WL) rm_J3_checkIndex_8e157 (PreC D ca ws sz [.int x0, .int x1, .ref t]) (PostI D (va_A ws sz) ws out) 0 0 (va_A ws sz) := by
  refine Met.ofW (cc := cJ3_checkIndex_8e157) (maxL := 3) (ret := (some .int)) (by decide) rfl ?_
  intro p e s m args below meth c s₁ B hml hv
  obtain ⟨rfl, hsz, hP, hK, hD, hN⟩ := hv
  subst hsz
  have C := Cx.mk (own := RJ3) B hml rfl hK hN (ws := ws)
  have w : Wd (va_A ws s.heap.size) s D ws s.heap [] := ⟨hP, hD.self, va_S.rf⟩
  have hl := lv_entry ([.int x0, .int x1, .ref t]) (n := 3) (Nat.le_of_ble_eq_true rfl)
  rw [lg_entry_eq]
  generalize (lg_sl ([.int x0, .int x1, .ref t]) ++ List.replicate (3 - (lg_sl ([.int x0, .int x1, .ref t])).length) Slot.unset).toArray = ls at hl ⊢
  have hl : lv_has ls 3 [(0, .int x0), (1, .int x1), (2, .ref t)] := hl
  change W p l e rm_J3_checkIndex_8e157 s m _ below meth c _ [] 0 0 _ _
  clear B hP hD hK hN hml
  generalize va_A ws s.heap.size = A at C w ⊢
  generalize ([.int x0, .int x1, .ref t] : List Value).toArray = av at C ⊢
  obtain ⟨Q, hQ⟩ : ∃ Q, Q = MQ below (PostI D A ws out) av s 0 0 A := ⟨_, rfl⟩
  rw [← hQ]
  have hx := C.1
  have hb := C.2.1
  have b9 : ∀ (x0 : Int32) (x1 : Int32), f_J3_checkIndex_8e157_b9 x0 x1 = some out → Bk p l e rm_J3_checkIndex_8e157 s m av below meth c A D 3 Q ws 9 [(0, .int x0), (1, .int x1), (2, .ref t)] [] := by
    intro x0 x1 h H locs ls w hl
    unfold f_J3_checkIndex_8e157_b9 at h
    exact absurd h (by simp)
  have h := hf
  unfold f_J3_checkIndex_8e157 at h
  refine lv_iload_n hx hb dJ3_checkIndex_8e157_0 rfl (lv_at hl 0 rfl) ?_
  refine lv_if_lt (tgt := 9) hx hb dJ3_checkIndex_8e157_1 (by decide) (fun c1 => ?_) (fun c1 => ?_)
  · have h := it_t h c1
    exact b9 _ _ h _ _ _ w (lv_sub hl [0, 1, 2] rfl)
  · have h := it_f h c1
    refine lv_iload_n hx hb dJ3_checkIndex_8e157_4 rfl (lv_at hl 0 rfl) ?_
    refine lv_iload_n hx hb dJ3_checkIndex_8e157_5 rfl (lv_at hl 1 rfl) ?_
    refine lv_icmp_lt (tgt := 16) hx hb dJ3_checkIndex_8e157_6 (by decide) (fun c2 => ?_) (fun c2 => ?_)
    · have h := it_t h c2
      refine lv_iload_n hx hb dJ3_checkIndex_8e157_16 rfl (lv_at hl 0 rfl) ?_
      rw [hQ]
      exact qI C w h dJ3_checkIndex_8e157_17
    · have h := it_f h c2
      exact b9 _ _ h _ _ _ w (lv_sub hl [0, 1, 2] rfl)
theorem hd_J0_checkIndex_df160 : yJ0_checkIndex_df160.cls ≠ "java/lang/invoke/MethodHandle" ∧ yJ0_checkIndex_df160.cls ≠ "java/lang/invoke/VarHandle" ∧ (parseMethodDescriptor yJ0_checkIndex_df160.desc).map (fun d => d.parameters.length) = some 2 := by decide +kernel
def f_J0_checkIndex_df160 (x0 : Int32) (x1 : Int32) : Option (Unit) := (f_J3_checkIndex_8e157 x0 x1).bind fun q1 => some ()
abbrev rm_J0_checkIndex_df160 : Room := { frames := 1, cells := 0, slots := 0, locals := 60 }
set_option maxHeartbeats 4000000 in
set_option maxRecDepth 100000 in
theorem c_J0_checkIndex_df160 (l : Launch) (D : va_G) (ca : Nat → ClassId) (ws : va_W) (x0 : Int32) (x1 : Int32) (sz : Nat) (out : Unit) (hf : f_J0_checkIndex_df160 x0 x1 = some out) : Met l yJ0_checkIndex_df160 (.code yJ0_checkIndex_df160 cJ0_checkIndex_df160 2 none :: WL) rm_J0_checkIndex_df160 (PreC D ca ws sz [.int x0, .int x1]) (PostV D (va_A ws sz) ws) 0 0 (va_A ws sz) := by
  refine Met.ofW (cc := cJ0_checkIndex_df160) (maxL := 2) (ret := none) (by decide) rfl ?_
  intro p e s m args below meth c s₁ B hml hv
  obtain ⟨rfl, hsz, hP, hK, hD, hN⟩ := hv
  subst hsz
  have C := Cx.mk (own := RJ0) B hml rfl hK hN (ws := ws)
  have w : Wd (va_A ws s.heap.size) s D ws s.heap [] := ⟨hP, hD.self, va_S.rf⟩
  have hl := lv_entry ([.int x0, .int x1]) (n := 2) (Nat.le_of_ble_eq_true rfl)
  rw [lg_entry_eq]
  generalize (lg_sl ([.int x0, .int x1]) ++ List.replicate (2 - (lg_sl ([.int x0, .int x1])).length) Slot.unset).toArray = ls at hl ⊢
  have hl : lv_has ls 2 [(0, .int x0), (1, .int x1)] := hl
  change W p l e rm_J0_checkIndex_df160 s m _ below meth c _ [] 0 0 _ _
  clear B hP hD hK hN hml
  generalize va_A ws s.heap.size = A at C w ⊢
  generalize ([.int x0, .int x1] : List Value).toArray = av at C ⊢
  obtain ⟨Q, hQ⟩ : ∃ Q, Q = MQ below (PostV D A ws) av s 0 0 A := ⟨_, rfl⟩
  rw [← hQ]
  have hx := C.1
  have hb := C.2.1
  have h := hf
  unfold f_J0_checkIndex_df160 at h
  refine lv_iload_n hx hb dJ0_checkIndex_df160_0 rfl (lv_at hl 0 rfl) ?_
  refine lv_iload_n hx hb dJ0_checkIndex_df160_1 rfl (lv_at hl 1 rfl) ?_
  refine gfm C w wl_281 dJ0_checkIndex_df160_2 ?_ (fun t => ?_)
  · obtain ⟨q1, hq1, h⟩ := ob_t h
    refine res_i C w (run_S (As := [.int x0, .int x1, .null]) (rest := []) C w hl.1 (c_J3_checkIndex_8e157_n l D ca _ x0 x1 _ q1 hq1) rfl rfl wl_282 wl_283 wl_284 wl_285 hd_J3_checkIndex_8e157 rfl ⟨Nat.le_of_ble_eq_true rfl, Nat.le_of_ble_eq_true rfl⟩ rfl (Nat.le_of_ble_eq_true rfl) dJ0_checkIndex_df160_5) (fun H locs w => ?_)
    refine lv_pop hx hb dJ0_checkIndex_df160_8 rfl ?_
    rw [hQ]
    exact qV C w h dJ0_checkIndex_df160_9
  · obtain ⟨q1, hq1, h⟩ := ob_t h
    refine res_i C w (run_S (As := [.int x0, .int x1, .ref t]) (rest := []) C w hl.1 (c_J3_checkIndex_8e157_r l D ca _ t x0 x1 _ q1 hq1) rfl rfl wl_282 wl_283 wl_284 wl_285 hd_J3_checkIndex_8e157 rfl ⟨Nat.le_of_ble_eq_true rfl, Nat.le_of_ble_eq_true rfl⟩ rfl (Nat.le_of_ble_eq_true rfl) dJ0_checkIndex_df160_5) (fun H locs w => ?_)
    refine lv_pop hx hb dJ0_checkIndex_df160_8 rfl ?_
    rw [hQ]
    exact qV C w h dJ0_checkIndex_df160_9
theorem hd_J1_charAt_3b067 : yJ1_charAt_3b067.cls ≠ "java/lang/invoke/MethodHandle" ∧ yJ1_charAt_3b067.cls ≠ "java/lang/invoke/VarHandle" ∧ (parseMethodDescriptor yJ1_charAt_3b067.desc).map (fun d => d.parameters.length) = some 2 := by decide +kernel
def f_J1_charAt_3b067_V0 (x1 : Int32) : Option (Int32) := (f_J0_checkIndex_df160 x1 (4 : Int32)).bind fun q1 => cond (ckI x1 4) (some ((((((strB.getD 0 []).getD x1.toNatClampNeg 0) &&& (255 : Int32))).toUInt32 % 65536).toInt32)) none
abbrev rm_J1_charAt_3b067_V0 : Room := { frames := 2, cells := 0, slots := 0, locals := 120 }
set_option maxHeartbeats 4000000 in
set_option maxRecDepth 100000 in
theorem c_J1_charAt_3b067_V0 (l : Launch) (D : va_G) (ca : Nat → ClassId) (ws : va_W) (x1 : Int32) (sz : Nat) (out : Int32) (hf : f_J1_charAt_3b067_V0 x1 = some out) : Met l yJ1_charAt_3b067 (.code yJ1_charAt_3b067 cJ1_charAt_3b067 2 (some .char) :: WL) rm_J1_charAt_3b067_V0 (PreC D ca ws sz [.ref (ca 20), .int x1]) (PostI D (va_A ws sz) ws out) 0 0 (va_A ws sz) := by
  refine Met.ofW (cc := cJ1_charAt_3b067) (maxL := 2) (ret := (some .char)) (by decide) rfl ?_
  intro p e s m args below meth c s₁ B hml hv
  obtain ⟨rfl, hsz, hP, hK, hD, hN⟩ := hv
  subst hsz
  have C := Cx.mk (own := RJ1) B hml rfl hK hN (ws := ws)
  have w : Wd (va_A ws s.heap.size) s D ws s.heap [] := ⟨hP, hD.self, va_S.rf⟩
  have hl := lv_entry ([.ref (ca 20), .int x1]) (n := 2) (Nat.le_of_ble_eq_true rfl)
  rw [lg_entry_eq]
  generalize (lg_sl ([.ref (ca 20), .int x1]) ++ List.replicate (2 - (lg_sl ([.ref (ca 20), .int x1])).length) Slot.unset).toArray = ls at hl ⊢
  have hl : lv_has ls 2 [(0, .ref (ca 20)), (1, .int x1)] := hl
  change W p l e rm_J1_charAt_3b067_V0 s m _ below meth c _ [] 0 0 _ _
  clear B hP hD hK hN hml
  generalize va_A ws s.heap.size = A at C w ⊢
  generalize ([.ref (ca 20), .int x1] : List Value).toArray = av at C ⊢
  obtain ⟨Q, hQ⟩ : ∃ Q, Q = MQ below (PostI D A ws out) av s 0 0 A := ⟨_, rfl⟩
  rw [← hQ]
  have hx := C.1
  have hb := C.2.1
  have h := hf
  unfold f_J1_charAt_3b067_V0 at h
  refine lv_iload_n hx hb dJ1_charAt_3b067_0 rfl (lv_at hl 1 rfl) ?_
  refine lv_aload_n hx hb dJ1_charAt_3b067_1 rfl (lv_at hl 0 rfl) ?_
  refine gsn (v := 4) C w 0 (by decide) rfl dJ1_charAt_3b067_2 ?_
  obtain ⟨q1, hq1, h⟩ := ob_t h
  refine res_v C w (run_S (As := [.int x1, .int (4 : Int32)]) (rest := []) C w hl.1 (c_J0_checkIndex_df160 l D ca _ x1 (4 : Int32) _ q1 hq1) rfl rfl wl_278 wl_279 wl_257 wl_280 hd_J0_checkIndex_df160 rfl ⟨Nat.le_of_ble_eq_true rfl, Nat.le_of_ble_eq_true rfl⟩ rfl (Nat.le_of_ble_eq_true rfl) dJ1_charAt_3b067_3) (fun H locs w => ?_)
  refine lv_aload_n hx hb dJ1_charAt_3b067_6 rfl (lv_at hl 0 rfl) ?_
  refine lv_iload_n hx hb dJ1_charAt_3b067_7 rfl (lv_at hl 1 rfl) ?_
  obtain ⟨i1, h⟩ := ck_t h
  refine gsb (v := ((strB.getD 0 []).getD x1.toNatClampNeg 0)) C w 0 (by decide) i1 rfl dJ1_charAt_3b067_8 ?_
  refine lv_sipush (v := 255) hx hb dJ1_charAt_3b067_9 (by decide) ?_
  refine lv_iand hx hb dJ1_charAt_3b067_12 ?_
  refine lv_i2c hx hb dJ1_charAt_3b067_13 rfl ?_
  rw [hQ]
  exact qT C w (pk_nc _) h dJ1_charAt_3b067_14
theorem hd_J0_charAt_5068e : yJ0_charAt_5068e.cls = RJ0 ∧ yJ0_charAt_5068e.cls ≠ "java/lang/invoke/MethodHandle" ∧ yJ0_charAt_5068e.cls ≠ "java/lang/invoke/VarHandle" ∧ (parseMethodDescriptor yJ0_charAt_5068e.desc).map (fun d => d.parameters.length) = some 1 := by decide +kernel
def f_J0_charAt_5068e_S0 (x1 : Int32) : Option (Int32) := (f_J0_isLatin1_aae02_S0).bind fun q1 => if q1 = 0 then (none) else ((f_J1_charAt_3b067_V0 x1).bind fun q2 => cond (ckC q2) (some q2) none)
abbrev rm_J0_charAt_5068e_S0 : Room := { frames := 3, cells := 0, slots := 0, locals := 180 }
set_option maxHeartbeats 4000000 in
set_option maxRecDepth 100000 in
theorem c_J0_charAt_5068e_S0 (l : Launch) (D : va_G) (ca : Nat → ClassId) (ws : va_W) (x1 : Int32) (sz : Nat) (out : Int32) (hf : f_J0_charAt_5068e_S0 x1 = some out) : Met l yJ0_charAt_5068e (.code yJ0_charAt_5068e cJ0_charAt_5068e 2 (some .char) :: WL) rm_J0_charAt_5068e_S0 (PreC D ca ws sz [.ref (ca 10), .int x1]) (PostI D (va_A ws sz) ws out) 0 0 (va_A ws sz) := by
  refine Met.ofW (cc := cJ0_charAt_5068e) (maxL := 2) (ret := (some .char)) (by decide) rfl ?_
  intro p e s m args below meth c s₁ B hml hv
  obtain ⟨rfl, hsz, hP, hK, hD, hN⟩ := hv
  subst hsz
  have C := Cx.mk (own := RJ0) B hml rfl hK hN (ws := ws)
  have w : Wd (va_A ws s.heap.size) s D ws s.heap [] := ⟨hP, hD.self, va_S.rf⟩
  have hl := lv_entry ([.ref (ca 10), .int x1]) (n := 2) (Nat.le_of_ble_eq_true rfl)
  rw [lg_entry_eq]
  generalize (lg_sl ([.ref (ca 10), .int x1]) ++ List.replicate (2 - (lg_sl ([.ref (ca 10), .int x1])).length) Slot.unset).toArray = ls at hl ⊢
  have hl : lv_has ls 2 [(0, .ref (ca 10)), (1, .int x1)] := hl
  change W p l e rm_J0_charAt_5068e_S0 s m _ below meth c _ [] 0 0 _ _
  clear B hP hD hK hN hml
  generalize va_A ws s.heap.size = A at C w ⊢
  generalize ([.ref (ca 10), .int x1] : List Value).toArray = av at C ⊢
  obtain ⟨Q, hQ⟩ : ∃ Q, Q = MQ below (PostI D A ws out) av s 0 0 A := ⟨_, rfl⟩
  rw [← hQ]
  have hx := C.1
  have hb := C.2.1
  have h := hf
  unfold f_J0_charAt_5068e_S0 at h
  refine lv_aload_n hx hb dJ0_charAt_5068e_0 rfl (lv_at hl 0 rfl) ?_
  obtain ⟨q1, hq1, h⟩ := ob_t h
  refine res_i C w (run_V (As := []) (rest := []) C w hl.1 (srecv C w 0 (by decide)) (c_J0_isLatin1_aae02_S0 l D ca _  _ q1 hq1) rfl rfl wl_270 wl_271 wl_272 wl_257 wl_273 hd_J0_isLatin1_aae02 rfl ⟨Nat.le_of_ble_eq_true rfl, Nat.le_of_ble_eq_true rfl⟩ rfl (Nat.le_of_ble_eq_true rfl) dJ0_charAt_5068e_1) (fun H locs w => ?_)
  refine lv_if_eq (tgt := 16) hx hb dJ0_charAt_5068e_4 (by decide) (fun c1 => ?_) (fun c1 => ?_)
  · have h := it_t h c1
    refine lv_aload_n hx hb dJ0_charAt_5068e_16 rfl (lv_at hl 0 rfl) ?_
    refine gsv C w 0 (by decide) wl_259 dJ0_charAt_5068e_17 ?_
    refine lv_iload_n hx hb dJ0_charAt_5068e_20 rfl (lv_at hl 1 rfl) ?_
    exact absurd h (by simp)
  · have h := it_f h c1
    refine lv_aload_n hx hb dJ0_charAt_5068e_7 rfl (lv_at hl 0 rfl) ?_
    refine gsv C w 0 (by decide) wl_259 dJ0_charAt_5068e_8 ?_
    refine lv_iload_n hx hb dJ0_charAt_5068e_11 rfl (lv_at hl 1 rfl) ?_
    obtain ⟨q2, hq2, h⟩ := ob_t h
    refine res_i C w (run_S (As := [.ref (ca 20), .int x1]) (rest := []) C w hl.1 (c_J1_charAt_3b067_V0 l D ca _ x1 _ q2 hq2) rfl rfl wl_274 wl_275 wl_276 wl_277 hd_J1_charAt_3b067 rfl ⟨Nat.le_of_ble_eq_true rfl, Nat.le_of_ble_eq_true rfl⟩ rfl (Nat.le_of_ble_eq_true rfl) dJ0_charAt_5068e_12) (fun H locs w => ?_)
    obtain ⟨z2, h⟩ := cc_t h
    rw [hQ]
    exact qT C w z2 h dJ0_charAt_5068e_15
theorem hd_X9_spells : yX9_spells.cls = RX9 ∧ yX9_spells.cls ≠ "java/lang/invoke/MethodHandle" ∧ yX9_spells.cls ≠ "java/lang/invoke/VarHandle" ∧ (parseMethodDescriptor yX9_spells.desc).map (fun d => d.parameters.length) = some 1 := by decide +kernel
def f_X9_spells_S0_b20 (K20 : St → Int32 → Option (Int32 × St)) (σ : St) (x2 : Int32) : Option (Int32 × St) := (f_J0_length_8abf5_S0).bind fun q1 => if q1 ≤ x2 then (some ((1 : Int32), σ)) else (cond (ckI ((σ.1 4104) + x2) 150) ((f_J0_charAt_5068e_S0 x2).bind fun q2 => if (σ.2.2 42 (((σ.1 4104) + x2)).toNatClampNeg) = q2 then (K20 σ (x2 + (1 : Int32))) else (some ((0 : Int32), σ))) none)
def f_X9_spells_S0_L20 : Nat → St → Int32 → Option (Int32 × St)
  | 0 => fun _ _ => none
  | n + 1 => f_X9_spells_S0_b20 (f_X9_spells_S0_L20 n)
def f_X9_spells_S0 (σ : St) : Option (Int32 × St) := (f_J0_length_8abf5_S0).bind fun q1 => if ((σ.1 4103) - (σ.1 4104)) = q1 then (f_X9_spells_S0_L20 FU σ (0 : Int32)) else (some ((0 : Int32), σ))
abbrev rm_X9_spells_S0 : Room := { frames := 4, cells := 0, slots := 0, locals := 240 }
set_option maxHeartbeats 4000000 in
set_option maxRecDepth 100000 in
theorem c_X9_spells_S0 (l : Launch) (D : va_G) (ca : Nat → ClassId) (ad : Nat → Nat) (σ : St)  (sz : Nat) (out : Int32 × St) (hf : f_X9_spells_S0 σ  = some out) : Met l yX9_spells (.code yX9_spells cX9_spells 3 (some .boolean) :: WL) rm_X9_spells_S0 (PreC D ca (CW ca ad σ) sz [.ref (ad 41), .ref (ca 10)]) (PostI D (va_A (CW ca ad σ) sz) (CW ca ad out.2) out.1) 0 0 (va_A (CW ca ad σ) sz) := by
  refine Met.ofW (cc := cX9_spells) (maxL := 3) (ret := (some .boolean)) (by decide) rfl ?_
  intro p e s m args below meth c s₁ B hml hv
  obtain ⟨rfl, hsz, hP, hK, hD, hN⟩ := hv
  subst hsz
  have C := Cx.mk (own := RX9) B hml rfl hK hN (ws := (CW ca ad σ))
  have w : Wd (va_A (CW ca ad σ) s.heap.size) s D (CW ca ad σ) s.heap [] := ⟨hP, hD.self, va_S.rf⟩
  have hl := lv_entry ([.ref (ad 41), .ref (ca 10)]) (n := 3) (Nat.le_of_ble_eq_true rfl)
  rw [lg_entry_eq]
  generalize (lg_sl ([.ref (ad 41), .ref (ca 10)]) ++ List.replicate (3 - (lg_sl ([.ref (ad 41), .ref (ca 10)])).length) Slot.unset).toArray = ls at hl ⊢
  have hl : lv_has ls 3 [(0, .ref (ad 41)), (1, .ref (ca 10))] := hl
  change W p l e rm_X9_spells_S0 s m _ below meth c _ [] 0 0 _ _
  clear B hP hD hK hN hml
  generalize va_A (CW ca ad σ) s.heap.size = A at C w ⊢
  generalize ([.ref (ad 41), .ref (ca 10)] : List Value).toArray = av at C ⊢
  obtain ⟨Q, hQ⟩ : ∃ Q, Q = MQ below (PostI D A (CW ca ad out.2) out.1) av s 0 0 A := ⟨_, rfl⟩
  rw [← hQ]
  have hx := C.1
  have hb := C.2.1
  have L20 : ∀ (n20 : Nat) (σ : St) (x2 : Int32), f_X9_spells_S0_L20 n20 σ x2 = some out → Bk p l e rm_X9_spells_S0 s m av below meth c A D 3 Q (CW ca ad σ) 20 [(0, .ref (ad 41)), (1, .ref (ca 10)), (2, .int x2)] [] := by
    intro n20
    induction n20 with
    | zero => intro σ x2 h; exact absurd h (by simp [f_X9_spells_S0_L20])
    | succ n20 ih20 =>
      intro σ x2 h H locs ls w hl
      change f_X9_spells_S0_b20 (f_X9_spells_S0_L20 n20) σ x2 = some out at h
      unfold f_X9_spells_S0_b20 at h
      refine lv_iload_n hx hb dX9_spells_20 rfl (lv_at hl 2 rfl) ?_
      refine lv_aload_n hx hb dX9_spells_21 rfl (lv_at hl 1 rfl) ?_
      obtain ⟨q1, hq1, h⟩ := ob_t h
      refine res_i C w (run_V (As := []) (rest := [.int x2]) C w hl.1 (srecv C w 0 (by decide)) (c_J0_length_8abf5_S0 l D ca _  _ q1 hq1) rfl rfl wl_254 wl_255 wl_256 wl_257 wl_258 hd_J0_length_8abf5 rfl ⟨Nat.le_of_ble_eq_true rfl, Nat.le_of_ble_eq_true rfl⟩ rfl (Nat.le_of_ble_eq_true rfl) dX9_spells_22) (fun H locs w => ?_)
      refine lv_icmp_ge (tgt := 55) hx hb dX9_spells_25 (by decide) (fun c1 => ?_) (fun c1 => ?_)
      · have h := it_t h c1
        refine lv_iconst (v := 1) hx hb dX9_spells_55 (by decide) ?_
        rw [hQ]
        exact rZ (F := CW ca ad) C w (by decide) h dX9_spells_56
      · have h := it_f h c1
        refine lv_aload_n hx hb dX9_spells_28 rfl (lv_at hl 0 rfl) ?_
        refine gC41_0 C w wl_88 dX9_spells_29 ?_
        refine lv_aload_n hx hb dX9_spells_32 rfl (lv_at hl 0 rfl) ?_
        refine gC41_4 (v := (σ.1 4104)) C w rfl wl_230 dX9_spells_33 ?_
        refine lv_iload_n hx hb dX9_spells_36 rfl (lv_at hl 2 rfl) ?_
        refine lv_iadd hx hb dX9_spells_37 ?_
        obtain ⟨i2, h⟩ := ck_t h
        refine ldC42 (v := (σ.2.2 42 (((σ.1 4104) + x2)).toNatClampNeg)) C w i2 rfl dX9_spells_38 ?_
        refine lv_aload_n hx hb dX9_spells_39 rfl (lv_at hl 1 rfl) ?_
        refine lv_iload_n hx hb dX9_spells_40 rfl (lv_at hl 2 rfl) ?_
        obtain ⟨q2, hq2, h⟩ := ob_t h
        refine res_i C w (run_V (As := [.int x2]) (rest := [.int (σ.2.2 42 (((σ.1 4104) + x2)).toNatClampNeg)]) C w hl.1 (srecv C w 0 (by decide)) (c_J0_charAt_5068e_S0 l D ca _ x2 _ q2 hq2) rfl rfl wl_266 wl_267 wl_268 wl_257 wl_269 hd_J0_charAt_5068e rfl ⟨Nat.le_of_ble_eq_true rfl, Nat.le_of_ble_eq_true rfl⟩ rfl (Nat.le_of_ble_eq_true rfl) dX9_spells_41) (fun H locs w => ?_)
        refine lv_icmp_eq (tgt := 49) hx hb dX9_spells_44 (by decide) (fun c3 => ?_) (fun c3 => ?_)
        · have h := it_t h c3
          refine lv_iinc (v := (x2 + (1 : Int32))) (lv' := [(2, .int (x2 + (1 : Int32))), (0, .ref (ad 41)), (1, .ref (ca 10))]) hx hb dX9_spells_49 hl (k := 2) rfl rfl (by decide) rfl (fun ls hl => ?_)
          refine lv_goto (tgt := 20) hx hb dX9_spells_52 (by decide) ?_
          exact ih20 _ _ h _ _ _ w (lv_sub hl [1, 2, 0] rfl)
        · have h := it_f h c3
          refine lv_iconst (v := 0) hx hb dX9_spells_47 (by decide) ?_
          rw [hQ]
          exact rZ (F := CW ca ad) C w (by decide) h dX9_spells_48
  have h := hf
  unfold f_X9_spells_S0 at h
  refine lv_aload_n hx hb dX9_spells_0 rfl (lv_at hl 0 rfl) ?_
  refine gC41_3 (v := (σ.1 4103)) C w rfl wl_227 dX9_spells_1 ?_
  refine lv_aload_n hx hb dX9_spells_4 rfl (lv_at hl 0 rfl) ?_
  refine gC41_4 (v := (σ.1 4104)) C w rfl wl_230 dX9_spells_5 ?_
  refine lv_isub hx hb dX9_spells_8 ?_
  refine lv_aload_n hx hb dX9_spells_9 rfl (lv_at hl 1 rfl) ?_
  obtain ⟨q1, hq1, h⟩ := ob_t h
  refine res_i C w (run_V (As := []) (rest := [.int ((σ.1 4103) - (σ.1 4104))]) C w hl.1 (srecv C w 0 (by decide)) (c_J0_length_8abf5_S0 l D ca _  _ q1 hq1) rfl rfl wl_254 wl_255 wl_256 wl_257 wl_258 hd_J0_length_8abf5 rfl ⟨Nat.le_of_ble_eq_true rfl, Nat.le_of_ble_eq_true rfl⟩ rfl (Nat.le_of_ble_eq_true rfl) dX9_spells_10) (fun H locs w => ?_)
  refine lv_icmp_eq (tgt := 18) hx hb dX9_spells_13 (by decide) (fun c1 => ?_) (fun c1 => ?_)
  · have h := it_t h c1
    refine lv_iconst (v := 0) hx hb dX9_spells_18 (by decide) ?_
    refine lv_istore_n (lv' := [(2, .int (0 : Int32)), (0, .ref (ad 41)), (1, .ref (ca 10))]) hx hb dX9_spells_19 rfl hl (by decide) rfl (fun ls hl => ?_)
    exact L20 FU _ _ h _ _ _ w (lv_sub hl [1, 2, 0] rfl)
  · have h := it_f h c1
    refine lv_iconst (v := 0) hx hb dX9_spells_16 (by decide) ?_
    rw [hQ]
    exact rZ (F := CW ca ad) C w (by decide) h dX9_spells_17
def f_J0_coder_7d493_S1  : Option (Int32) := if (1 : Int32) = 0 then (some (1 : Int32)) else (some (0 : Int32))
abbrev rm_J0_coder_7d493_S1 : Room := { frames := 0, cells := 0, slots := 0, locals := 0 }
set_option maxHeartbeats 4000000 in
set_option maxRecDepth 100000 in
theorem c_J0_coder_7d493_S1 (l : Launch) (D : va_G) (ca : Nat → ClassId) (ws : va_W)  (sz : Nat) (out : Int32) (hf : f_J0_coder_7d493_S1  = some out) : Met l yJ0_coder_7d493 (.code yJ0_coder_7d493 cJ0_coder_7d493 1 (some .byte) :: WL) rm_J0_coder_7d493_S1 (PreC D ca ws sz [.ref (ca 11)]) (PostI D (va_A ws sz) ws out) 0 0 (va_A ws sz) := by
  refine Met.ofW (cc := cJ0_coder_7d493) (maxL := 1) (ret := (some .byte)) (by decide) rfl ?_
  intro p e s m args below meth c s₁ B hml hv
  obtain ⟨rfl, hsz, hP, hK, hD, hN⟩ := hv
  subst hsz
  have C := Cx.mk (own := RJ0) B hml rfl hK hN (ws := ws)
  have w : Wd (va_A ws s.heap.size) s D ws s.heap [] := ⟨hP, hD.self, va_S.rf⟩
  have hl := lv_entry ([.ref (ca 11)]) (n := 1) (Nat.le_of_ble_eq_true rfl)
  rw [lg_entry_eq]
  generalize (lg_sl ([.ref (ca 11)]) ++ List.replicate (1 - (lg_sl ([.ref (ca 11)])).length) Slot.unset).toArray = ls at hl ⊢
  have hl : lv_has ls 1 [(0, .ref (ca 11))] := hl
  change W p l e rm_J0_coder_7d493_S1 s m _ below meth c _ [] 0 0 _ _
  clear B hP hD hK hN hml
  generalize va_A ws s.heap.size = A at C w ⊢
  generalize ([.ref (ca 11)] : List Value).toArray = av at C ⊢
  obtain ⟨Q, hQ⟩ : ∃ Q, Q = MQ below (PostI D A ws out) av s 0 0 A := ⟨_, rfl⟩
  rw [← hQ]
  have hx := C.1
  have hb := C.2.1
  have h := hf
  unfold f_J0_coder_7d493_S1 at h
  refine gcs C w wl_264 dJ0_coder_7d493_0 ?_
  refine lv_if_eq (tgt := 13) hx hb dJ0_coder_7d493_3 (by decide) (fun c1 => ?_) (fun c1 => ?_)
  · have h := it_t h c1
    refine lv_iconst (v := 1) hx hb dJ0_coder_7d493_13 (by decide) ?_
    rw [hQ]
    exact qT C w (by decide) h dJ0_coder_7d493_14
  · have h := it_f h c1
    refine lv_aload_n hx hb dJ0_coder_7d493_6 rfl (lv_at hl 0 rfl) ?_
    refine gsc C w 1 (by decide) wl_265 dJ0_coder_7d493_7 ?_
    refine lv_goto (tgt := 14) hx hb dJ0_coder_7d493_10 (by decide) ?_
    rw [hQ]
    exact qT C w (by decide) h dJ0_coder_7d493_14
def f_J0_length_8abf5_S1  : Option (Int32) := (f_J0_coder_7d493_S1).bind fun q1 => some ((4 : Int32) >>> (q1 &&& 31))
abbrev rm_J0_length_8abf5_S1 : Room := { frames := 1, cells := 0, slots := 0, locals := 60 }
set_option maxHeartbeats 4000000 in
set_option maxRecDepth 100000 in
theorem c_J0_length_8abf5_S1 (l : Launch) (D : va_G) (ca : Nat → ClassId) (ws : va_W)  (sz : Nat) (out : Int32) (hf : f_J0_length_8abf5_S1  = some out) : Met l yJ0_length_8abf5 (.code yJ0_length_8abf5 cJ0_length_8abf5 1 (some .int) :: WL) rm_J0_length_8abf5_S1 (PreC D ca ws sz [.ref (ca 11)]) (PostI D (va_A ws sz) ws out) 0 0 (va_A ws sz) := by
  refine Met.ofW (cc := cJ0_length_8abf5) (maxL := 1) (ret := (some .int)) (by decide) rfl ?_
  intro p e s m args below meth c s₁ B hml hv
  obtain ⟨rfl, hsz, hP, hK, hD, hN⟩ := hv
  subst hsz
  have C := Cx.mk (own := RJ0) B hml rfl hK hN (ws := ws)
  have w : Wd (va_A ws s.heap.size) s D ws s.heap [] := ⟨hP, hD.self, va_S.rf⟩
  have hl := lv_entry ([.ref (ca 11)]) (n := 1) (Nat.le_of_ble_eq_true rfl)
  rw [lg_entry_eq]
  generalize (lg_sl ([.ref (ca 11)]) ++ List.replicate (1 - (lg_sl ([.ref (ca 11)])).length) Slot.unset).toArray = ls at hl ⊢
  have hl : lv_has ls 1 [(0, .ref (ca 11))] := hl
  change W p l e rm_J0_length_8abf5_S1 s m _ below meth c _ [] 0 0 _ _
  clear B hP hD hK hN hml
  generalize va_A ws s.heap.size = A at C w ⊢
  generalize ([.ref (ca 11)] : List Value).toArray = av at C ⊢
  obtain ⟨Q, hQ⟩ : ∃ Q, Q = MQ below (PostI D A ws out) av s 0 0 A := ⟨_, rfl⟩
  rw [← hQ]
  have hx := C.1
  have hb := C.2.1
  have h := hf
  unfold f_J0_length_8abf5_S1 at h
  refine lv_aload_n hx hb dJ0_length_8abf5_0 rfl (lv_at hl 0 rfl) ?_
  refine gsv C w 1 (by decide) wl_259 dJ0_length_8abf5_1 ?_
  refine gsn (v := 4) C w 1 (by decide) rfl dJ0_length_8abf5_4 ?_
  refine lv_aload_n hx hb dJ0_length_8abf5_5 rfl (lv_at hl 0 rfl) ?_
  obtain ⟨q1, hq1, h⟩ := ob_t h
  refine res_i C w (run_V (As := []) (rest := [.int (4 : Int32)]) C w hl.1 (srecv C w 1 (by decide)) (c_J0_coder_7d493_S1 l D ca _  _ q1 hq1) rfl rfl wl_260 wl_261 wl_262 wl_257 wl_263 hd_J0_coder_7d493 rfl ⟨Nat.le_of_ble_eq_true rfl, Nat.le_of_ble_eq_true rfl⟩ rfl (Nat.le_of_ble_eq_true rfl) dJ0_length_8abf5_6) (fun H locs w => ?_)
  refine lv_ishr hx hb dJ0_length_8abf5_9 ?_
  rw [hQ]
  exact qI C w h dJ0_length_8abf5_10
def f_J0_isLatin1_aae02_S1  : Option (Int32) := if (1 : Int32) = 0 then (some (0 : Int32)) else (if (0 : Int32) = 0 then (some (1 : Int32)) else (some (0 : Int32)))
abbrev rm_J0_isLatin1_aae02_S1 : Room := { frames := 0, cells := 0, slots := 0, locals := 0 }
set_option maxHeartbeats 4000000 in
set_option maxRecDepth 100000 in
theorem c_J0_isLatin1_aae02_S1 (l : Launch) (D : va_G) (ca : Nat → ClassId) (ws : va_W)  (sz : Nat) (out : Int32) (hf : f_J0_isLatin1_aae02_S1  = some out) : Met l yJ0_isLatin1_aae02 (.code yJ0_isLatin1_aae02 cJ0_isLatin1_aae02 1 (some .boolean) :: WL) rm_J0_isLatin1_aae02_S1 (PreC D ca ws sz [.ref (ca 11)]) (PostI D (va_A ws sz) ws out) 0 0 (va_A ws sz) := by
  refine Met.ofW (cc := cJ0_isLatin1_aae02) (maxL := 1) (ret := (some .boolean)) (by decide) rfl ?_
  intro p e s m args below meth c s₁ B hml hv
  obtain ⟨rfl, hsz, hP, hK, hD, hN⟩ := hv
  subst hsz
  have C := Cx.mk (own := RJ0) B hml rfl hK hN (ws := ws)
  have w : Wd (va_A ws s.heap.size) s D ws s.heap [] := ⟨hP, hD.self, va_S.rf⟩
  have hl := lv_entry ([.ref (ca 11)]) (n := 1) (Nat.le_of_ble_eq_true rfl)
  rw [lg_entry_eq]
  generalize (lg_sl ([.ref (ca 11)]) ++ List.replicate (1 - (lg_sl ([.ref (ca 11)])).length) Slot.unset).toArray = ls at hl ⊢
  have hl : lv_has ls 1 [(0, .ref (ca 11))] := hl
  change W p l e rm_J0_isLatin1_aae02_S1 s m _ below meth c _ [] 0 0 _ _
  clear B hP hD hK hN hml
  generalize va_A ws s.heap.size = A at C w ⊢
  generalize ([.ref (ca 11)] : List Value).toArray = av at C ⊢
  obtain ⟨Q, hQ⟩ : ∃ Q, Q = MQ below (PostI D A ws out) av s 0 0 A := ⟨_, rfl⟩
  rw [← hQ]
  have hx := C.1
  have hb := C.2.1
  have h := hf
  unfold f_J0_isLatin1_aae02_S1 at h
  refine gcs C w wl_264 dJ0_isLatin1_aae02_0 ?_
  refine lv_if_eq (tgt := 17) hx hb dJ0_isLatin1_aae02_3 (by decide) (fun c1 => ?_) (fun c1 => ?_)
  · have h := it_t h c1
    refine lv_iconst (v := 0) hx hb dJ0_isLatin1_aae02_17 (by decide) ?_
    rw [hQ]
    exact qZ C w (by decide) h dJ0_isLatin1_aae02_18
  · have h := it_f h c1
    refine lv_aload_n hx hb dJ0_isLatin1_aae02_6 rfl (lv_at hl 0 rfl) ?_
    refine gsc C w 1 (by decide) wl_265 dJ0_isLatin1_aae02_7 ?_
    refine lv_if_ne (tgt := 17) hx hb dJ0_isLatin1_aae02_10 (by decide) (fun c2 => ?_) (fun c2 => ?_)
    · have h := it_f h c2
      refine lv_iconst (v := 0) hx hb dJ0_isLatin1_aae02_17 (by decide) ?_
      rw [hQ]
      exact qZ C w (by decide) h dJ0_isLatin1_aae02_18
    · have h := it_t h c2
      refine lv_iconst (v := 1) hx hb dJ0_isLatin1_aae02_13 (by decide) ?_
      refine lv_goto (tgt := 18) hx hb dJ0_isLatin1_aae02_14 (by decide) ?_
      rw [hQ]
      exact qZ C w (by decide) h dJ0_isLatin1_aae02_18
def f_J1_charAt_3b067_V1 (x1 : Int32) : Option (Int32) := (f_J0_checkIndex_df160 x1 (4 : Int32)).bind fun q1 => cond (ckI x1 4) (some ((((((strB.getD 1 []).getD x1.toNatClampNeg 0) &&& (255 : Int32))).toUInt32 % 65536).toInt32)) none
abbrev rm_J1_charAt_3b067_V1 : Room := { frames := 2, cells := 0, slots := 0, locals := 120 }
set_option maxHeartbeats 4000000 in
set_option maxRecDepth 100000 in
theorem c_J1_charAt_3b067_V1 (l : Launch) (D : va_G) (ca : Nat → ClassId) (ws : va_W) (x1 : Int32) (sz : Nat) (out : Int32) (hf : f_J1_charAt_3b067_V1 x1 = some out) : Met l yJ1_charAt_3b067 (.code yJ1_charAt_3b067 cJ1_charAt_3b067 2 (some .char) :: WL) rm_J1_charAt_3b067_V1 (PreC D ca ws sz [.ref (ca 21), .int x1]) (PostI D (va_A ws sz) ws out) 0 0 (va_A ws sz) := by
  refine Met.ofW (cc := cJ1_charAt_3b067) (maxL := 2) (ret := (some .char)) (by decide) rfl ?_
  intro p e s m args below meth c s₁ B hml hv
  obtain ⟨rfl, hsz, hP, hK, hD, hN⟩ := hv
  subst hsz
  have C := Cx.mk (own := RJ1) B hml rfl hK hN (ws := ws)
  have w : Wd (va_A ws s.heap.size) s D ws s.heap [] := ⟨hP, hD.self, va_S.rf⟩
  have hl := lv_entry ([.ref (ca 21), .int x1]) (n := 2) (Nat.le_of_ble_eq_true rfl)
  rw [lg_entry_eq]
  generalize (lg_sl ([.ref (ca 21), .int x1]) ++ List.replicate (2 - (lg_sl ([.ref (ca 21), .int x1])).length) Slot.unset).toArray = ls at hl ⊢
  have hl : lv_has ls 2 [(0, .ref (ca 21)), (1, .int x1)] := hl
  change W p l e rm_J1_charAt_3b067_V1 s m _ below meth c _ [] 0 0 _ _
  clear B hP hD hK hN hml
  generalize va_A ws s.heap.size = A at C w ⊢
  generalize ([.ref (ca 21), .int x1] : List Value).toArray = av at C ⊢
  obtain ⟨Q, hQ⟩ : ∃ Q, Q = MQ below (PostI D A ws out) av s 0 0 A := ⟨_, rfl⟩
  rw [← hQ]
  have hx := C.1
  have hb := C.2.1
  have h := hf
  unfold f_J1_charAt_3b067_V1 at h
  refine lv_iload_n hx hb dJ1_charAt_3b067_0 rfl (lv_at hl 1 rfl) ?_
  refine lv_aload_n hx hb dJ1_charAt_3b067_1 rfl (lv_at hl 0 rfl) ?_
  refine gsn (v := 4) C w 1 (by decide) rfl dJ1_charAt_3b067_2 ?_
  obtain ⟨q1, hq1, h⟩ := ob_t h
  refine res_v C w (run_S (As := [.int x1, .int (4 : Int32)]) (rest := []) C w hl.1 (c_J0_checkIndex_df160 l D ca _ x1 (4 : Int32) _ q1 hq1) rfl rfl wl_278 wl_279 wl_257 wl_280 hd_J0_checkIndex_df160 rfl ⟨Nat.le_of_ble_eq_true rfl, Nat.le_of_ble_eq_true rfl⟩ rfl (Nat.le_of_ble_eq_true rfl) dJ1_charAt_3b067_3) (fun H locs w => ?_)
  refine lv_aload_n hx hb dJ1_charAt_3b067_6 rfl (lv_at hl 0 rfl) ?_
  refine lv_iload_n hx hb dJ1_charAt_3b067_7 rfl (lv_at hl 1 rfl) ?_
  obtain ⟨i1, h⟩ := ck_t h
  refine gsb (v := ((strB.getD 1 []).getD x1.toNatClampNeg 0)) C w 1 (by decide) i1 rfl dJ1_charAt_3b067_8 ?_
  refine lv_sipush (v := 255) hx hb dJ1_charAt_3b067_9 (by decide) ?_
  refine lv_iand hx hb dJ1_charAt_3b067_12 ?_
  refine lv_i2c hx hb dJ1_charAt_3b067_13 rfl ?_
  rw [hQ]
  exact qT C w (pk_nc _) h dJ1_charAt_3b067_14
def f_J0_charAt_5068e_S1 (x1 : Int32) : Option (Int32) := (f_J0_isLatin1_aae02_S1).bind fun q1 => if q1 = 0 then (none) else ((f_J1_charAt_3b067_V1 x1).bind fun q2 => cond (ckC q2) (some q2) none)
abbrev rm_J0_charAt_5068e_S1 : Room := { frames := 3, cells := 0, slots := 0, locals := 180 }
set_option maxHeartbeats 4000000 in
set_option maxRecDepth 100000 in
theorem c_J0_charAt_5068e_S1 (l : Launch) (D : va_G) (ca : Nat → ClassId) (ws : va_W) (x1 : Int32) (sz : Nat) (out : Int32) (hf : f_J0_charAt_5068e_S1 x1 = some out) : Met l yJ0_charAt_5068e (.code yJ0_charAt_5068e cJ0_charAt_5068e 2 (some .char) :: WL) rm_J0_charAt_5068e_S1 (PreC D ca ws sz [.ref (ca 11), .int x1]) (PostI D (va_A ws sz) ws out) 0 0 (va_A ws sz) := by
  refine Met.ofW (cc := cJ0_charAt_5068e) (maxL := 2) (ret := (some .char)) (by decide) rfl ?_
  intro p e s m args below meth c s₁ B hml hv
  obtain ⟨rfl, hsz, hP, hK, hD, hN⟩ := hv
  subst hsz
  have C := Cx.mk (own := RJ0) B hml rfl hK hN (ws := ws)
  have w : Wd (va_A ws s.heap.size) s D ws s.heap [] := ⟨hP, hD.self, va_S.rf⟩
  have hl := lv_entry ([.ref (ca 11), .int x1]) (n := 2) (Nat.le_of_ble_eq_true rfl)
  rw [lg_entry_eq]
  generalize (lg_sl ([.ref (ca 11), .int x1]) ++ List.replicate (2 - (lg_sl ([.ref (ca 11), .int x1])).length) Slot.unset).toArray = ls at hl ⊢
  have hl : lv_has ls 2 [(0, .ref (ca 11)), (1, .int x1)] := hl
  change W p l e rm_J0_charAt_5068e_S1 s m _ below meth c _ [] 0 0 _ _
  clear B hP hD hK hN hml
  generalize va_A ws s.heap.size = A at C w ⊢
  generalize ([.ref (ca 11), .int x1] : List Value).toArray = av at C ⊢
  obtain ⟨Q, hQ⟩ : ∃ Q, Q = MQ below (PostI D A ws out) av s 0 0 A := ⟨_, rfl⟩
  rw [← hQ]
  have hx := C.1
  have hb := C.2.1
  have h := hf
  unfold f_J0_charAt_5068e_S1 at h
  refine lv_aload_n hx hb dJ0_charAt_5068e_0 rfl (lv_at hl 0 rfl) ?_
  obtain ⟨q1, hq1, h⟩ := ob_t h
  refine res_i C w (run_V (As := []) (rest := []) C w hl.1 (srecv C w 1 (by decide)) (c_J0_isLatin1_aae02_S1 l D ca _  _ q1 hq1) rfl rfl wl_270 wl_271 wl_272 wl_257 wl_273 hd_J0_isLatin1_aae02 rfl ⟨Nat.le_of_ble_eq_true rfl, Nat.le_of_ble_eq_true rfl⟩ rfl (Nat.le_of_ble_eq_true rfl) dJ0_charAt_5068e_1) (fun H locs w => ?_)
  refine lv_if_eq (tgt := 16) hx hb dJ0_charAt_5068e_4 (by decide) (fun c1 => ?_) (fun c1 => ?_)
  · have h := it_t h c1
    refine lv_aload_n hx hb dJ0_charAt_5068e_16 rfl (lv_at hl 0 rfl) ?_
    refine gsv C w 1 (by decide) wl_259 dJ0_charAt_5068e_17 ?_
    refine lv_iload_n hx hb dJ0_charAt_5068e_20 rfl (lv_at hl 1 rfl) ?_
    exact absurd h (by simp)
  · have h := it_f h c1
    refine lv_aload_n hx hb dJ0_charAt_5068e_7 rfl (lv_at hl 0 rfl) ?_
    refine gsv C w 1 (by decide) wl_259 dJ0_charAt_5068e_8 ?_
    refine lv_iload_n hx hb dJ0_charAt_5068e_11 rfl (lv_at hl 1 rfl) ?_
    obtain ⟨q2, hq2, h⟩ := ob_t h
    refine res_i C w (run_S (As := [.ref (ca 21), .int x1]) (rest := []) C w hl.1 (c_J1_charAt_3b067_V1 l D ca _ x1 _ q2 hq2) rfl rfl wl_274 wl_275 wl_276 wl_277 hd_J1_charAt_3b067 rfl ⟨Nat.le_of_ble_eq_true rfl, Nat.le_of_ble_eq_true rfl⟩ rfl (Nat.le_of_ble_eq_true rfl) dJ0_charAt_5068e_12) (fun H locs w => ?_)
    obtain ⟨z2, h⟩ := cc_t h
    rw [hQ]
    exact qT C w z2 h dJ0_charAt_5068e_15
def f_X9_spells_S1_b20 (K20 : St → Int32 → Option (Int32 × St)) (σ : St) (x2 : Int32) : Option (Int32 × St) := (f_J0_length_8abf5_S1).bind fun q1 => if q1 ≤ x2 then (some ((1 : Int32), σ)) else (cond (ckI ((σ.1 4104) + x2) 150) ((f_J0_charAt_5068e_S1 x2).bind fun q2 => if (σ.2.2 42 (((σ.1 4104) + x2)).toNatClampNeg) = q2 then (K20 σ (x2 + (1 : Int32))) else (some ((0 : Int32), σ))) none)
def f_X9_spells_S1_L20 : Nat → St → Int32 → Option (Int32 × St)
  | 0 => fun _ _ => none
  | n + 1 => f_X9_spells_S1_b20 (f_X9_spells_S1_L20 n)
def f_X9_spells_S1 (σ : St) : Option (Int32 × St) := (f_J0_length_8abf5_S1).bind fun q1 => if ((σ.1 4103) - (σ.1 4104)) = q1 then (f_X9_spells_S1_L20 FU σ (0 : Int32)) else (some ((0 : Int32), σ))
abbrev rm_X9_spells_S1 : Room := { frames := 4, cells := 0, slots := 0, locals := 240 }
set_option maxHeartbeats 4000000 in
set_option maxRecDepth 100000 in
theorem c_X9_spells_S1 (l : Launch) (D : va_G) (ca : Nat → ClassId) (ad : Nat → Nat) (σ : St)  (sz : Nat) (out : Int32 × St) (hf : f_X9_spells_S1 σ  = some out) : Met l yX9_spells (.code yX9_spells cX9_spells 3 (some .boolean) :: WL) rm_X9_spells_S1 (PreC D ca (CW ca ad σ) sz [.ref (ad 41), .ref (ca 11)]) (PostI D (va_A (CW ca ad σ) sz) (CW ca ad out.2) out.1) 0 0 (va_A (CW ca ad σ) sz) := by
  refine Met.ofW (cc := cX9_spells) (maxL := 3) (ret := (some .boolean)) (by decide) rfl ?_
  intro p e s m args below meth c s₁ B hml hv
  obtain ⟨rfl, hsz, hP, hK, hD, hN⟩ := hv
  subst hsz
  have C := Cx.mk (own := RX9) B hml rfl hK hN (ws := (CW ca ad σ))
  have w : Wd (va_A (CW ca ad σ) s.heap.size) s D (CW ca ad σ) s.heap [] := ⟨hP, hD.self, va_S.rf⟩
  have hl := lv_entry ([.ref (ad 41), .ref (ca 11)]) (n := 3) (Nat.le_of_ble_eq_true rfl)
  rw [lg_entry_eq]
  generalize (lg_sl ([.ref (ad 41), .ref (ca 11)]) ++ List.replicate (3 - (lg_sl ([.ref (ad 41), .ref (ca 11)])).length) Slot.unset).toArray = ls at hl ⊢
  have hl : lv_has ls 3 [(0, .ref (ad 41)), (1, .ref (ca 11))] := hl
  change W p l e rm_X9_spells_S1 s m _ below meth c _ [] 0 0 _ _
  clear B hP hD hK hN hml
  generalize va_A (CW ca ad σ) s.heap.size = A at C w ⊢
  generalize ([.ref (ad 41), .ref (ca 11)] : List Value).toArray = av at C ⊢
  obtain ⟨Q, hQ⟩ : ∃ Q, Q = MQ below (PostI D A (CW ca ad out.2) out.1) av s 0 0 A := ⟨_, rfl⟩
  rw [← hQ]
  have hx := C.1
  have hb := C.2.1
  have L20 : ∀ (n20 : Nat) (σ : St) (x2 : Int32), f_X9_spells_S1_L20 n20 σ x2 = some out → Bk p l e rm_X9_spells_S1 s m av below meth c A D 3 Q (CW ca ad σ) 20 [(0, .ref (ad 41)), (1, .ref (ca 11)), (2, .int x2)] [] := by
    intro n20
    induction n20 with
    | zero => intro σ x2 h; exact absurd h (by simp [f_X9_spells_S1_L20])
    | succ n20 ih20 =>
      intro σ x2 h H locs ls w hl
      change f_X9_spells_S1_b20 (f_X9_spells_S1_L20 n20) σ x2 = some out at h
      unfold f_X9_spells_S1_b20 at h
      refine lv_iload_n hx hb dX9_spells_20 rfl (lv_at hl 2 rfl) ?_
      refine lv_aload_n hx hb dX9_spells_21 rfl (lv_at hl 1 rfl) ?_
      obtain ⟨q1, hq1, h⟩ := ob_t h
      refine res_i C w (run_V (As := []) (rest := [.int x2]) C w hl.1 (srecv C w 1 (by decide)) (c_J0_length_8abf5_S1 l D ca _  _ q1 hq1) rfl rfl wl_254 wl_255 wl_256 wl_257 wl_258 hd_J0_length_8abf5 rfl ⟨Nat.le_of_ble_eq_true rfl, Nat.le_of_ble_eq_true rfl⟩ rfl (Nat.le_of_ble_eq_true rfl) dX9_spells_22) (fun H locs w => ?_)
      refine lv_icmp_ge (tgt := 55) hx hb dX9_spells_25 (by decide) (fun c1 => ?_) (fun c1 => ?_)
      · have h := it_t h c1
        refine lv_iconst (v := 1) hx hb dX9_spells_55 (by decide) ?_
        rw [hQ]
        exact rZ (F := CW ca ad) C w (by decide) h dX9_spells_56
      · have h := it_f h c1
        refine lv_aload_n hx hb dX9_spells_28 rfl (lv_at hl 0 rfl) ?_
        refine gC41_0 C w wl_88 dX9_spells_29 ?_
        refine lv_aload_n hx hb dX9_spells_32 rfl (lv_at hl 0 rfl) ?_
        refine gC41_4 (v := (σ.1 4104)) C w rfl wl_230 dX9_spells_33 ?_
        refine lv_iload_n hx hb dX9_spells_36 rfl (lv_at hl 2 rfl) ?_
        refine lv_iadd hx hb dX9_spells_37 ?_
        obtain ⟨i2, h⟩ := ck_t h
        refine ldC42 (v := (σ.2.2 42 (((σ.1 4104) + x2)).toNatClampNeg)) C w i2 rfl dX9_spells_38 ?_
        refine lv_aload_n hx hb dX9_spells_39 rfl (lv_at hl 1 rfl) ?_
        refine lv_iload_n hx hb dX9_spells_40 rfl (lv_at hl 2 rfl) ?_
        obtain ⟨q2, hq2, h⟩ := ob_t h
        refine res_i C w (run_V (As := [.int x2]) (rest := [.int (σ.2.2 42 (((σ.1 4104) + x2)).toNatClampNeg)]) C w hl.1 (srecv C w 1 (by decide)) (c_J0_charAt_5068e_S1 l D ca _ x2 _ q2 hq2) rfl rfl wl_266 wl_267 wl_268 wl_257 wl_269 hd_J0_charAt_5068e rfl ⟨Nat.le_of_ble_eq_true rfl, Nat.le_of_ble_eq_true rfl⟩ rfl (Nat.le_of_ble_eq_true rfl) dX9_spells_41) (fun H locs w => ?_)
        refine lv_icmp_eq (tgt := 49) hx hb dX9_spells_44 (by decide) (fun c3 => ?_) (fun c3 => ?_)
        · have h := it_t h c3
          refine lv_iinc (v := (x2 + (1 : Int32))) (lv' := [(2, .int (x2 + (1 : Int32))), (0, .ref (ad 41)), (1, .ref (ca 11))]) hx hb dX9_spells_49 hl (k := 2) rfl rfl (by decide) rfl (fun ls hl => ?_)
          refine lv_goto (tgt := 20) hx hb dX9_spells_52 (by decide) ?_
          exact ih20 _ _ h _ _ _ w (lv_sub hl [1, 2, 0] rfl)
        · have h := it_f h c3
          refine lv_iconst (v := 0) hx hb dX9_spells_47 (by decide) ?_
          rw [hQ]
          exact rZ (F := CW ca ad) C w (by decide) h dX9_spells_48
  have h := hf
  unfold f_X9_spells_S1 at h
  refine lv_aload_n hx hb dX9_spells_0 rfl (lv_at hl 0 rfl) ?_
  refine gC41_3 (v := (σ.1 4103)) C w rfl wl_227 dX9_spells_1 ?_
  refine lv_aload_n hx hb dX9_spells_4 rfl (lv_at hl 0 rfl) ?_
  refine gC41_4 (v := (σ.1 4104)) C w rfl wl_230 dX9_spells_5 ?_
  refine lv_isub hx hb dX9_spells_8 ?_
  refine lv_aload_n hx hb dX9_spells_9 rfl (lv_at hl 1 rfl) ?_
  obtain ⟨q1, hq1, h⟩ := ob_t h
  refine res_i C w (run_V (As := []) (rest := [.int ((σ.1 4103) - (σ.1 4104))]) C w hl.1 (srecv C w 1 (by decide)) (c_J0_length_8abf5_S1 l D ca _  _ q1 hq1) rfl rfl wl_254 wl_255 wl_256 wl_257 wl_258 hd_J0_length_8abf5 rfl ⟨Nat.le_of_ble_eq_true rfl, Nat.le_of_ble_eq_true rfl⟩ rfl (Nat.le_of_ble_eq_true rfl) dX9_spells_10) (fun H locs w => ?_)
  refine lv_icmp_eq (tgt := 18) hx hb dX9_spells_13 (by decide) (fun c1 => ?_) (fun c1 => ?_)
  · have h := it_t h c1
    refine lv_iconst (v := 0) hx hb dX9_spells_18 (by decide) ?_
    refine lv_istore_n (lv' := [(2, .int (0 : Int32)), (0, .ref (ad 41)), (1, .ref (ca 11))]) hx hb dX9_spells_19 rfl hl (by decide) rfl (fun ls hl => ?_)
    exact L20 FU _ _ h _ _ _ w (lv_sub hl [1, 2, 0] rfl)
  · have h := it_f h c1
    refine lv_iconst (v := 0) hx hb dX9_spells_16 (by decide) ?_
    rw [hQ]
    exact rZ (F := CW ca ad) C w (by decide) h dX9_spells_17
def f_J0_coder_7d493_S2  : Option (Int32) := if (1 : Int32) = 0 then (some (1 : Int32)) else (some (0 : Int32))
abbrev rm_J0_coder_7d493_S2 : Room := { frames := 0, cells := 0, slots := 0, locals := 0 }
set_option maxHeartbeats 4000000 in
set_option maxRecDepth 100000 in
theorem c_J0_coder_7d493_S2 (l : Launch) (D : va_G) (ca : Nat → ClassId) (ws : va_W)  (sz : Nat) (out : Int32) (hf : f_J0_coder_7d493_S2  = some out) : Met l yJ0_coder_7d493 (.code yJ0_coder_7d493 cJ0_coder_7d493 1 (some .byte) :: WL) rm_J0_coder_7d493_S2 (PreC D ca ws sz [.ref (ca 12)]) (PostI D (va_A ws sz) ws out) 0 0 (va_A ws sz) := by
  refine Met.ofW (cc := cJ0_coder_7d493) (maxL := 1) (ret := (some .byte)) (by decide) rfl ?_
  intro p e s m args below meth c s₁ B hml hv
  obtain ⟨rfl, hsz, hP, hK, hD, hN⟩ := hv
  subst hsz
  have C := Cx.mk (own := RJ0) B hml rfl hK hN (ws := ws)
  have w : Wd (va_A ws s.heap.size) s D ws s.heap [] := ⟨hP, hD.self, va_S.rf⟩
  have hl := lv_entry ([.ref (ca 12)]) (n := 1) (Nat.le_of_ble_eq_true rfl)
  rw [lg_entry_eq]
  generalize (lg_sl ([.ref (ca 12)]) ++ List.replicate (1 - (lg_sl ([.ref (ca 12)])).length) Slot.unset).toArray = ls at hl ⊢
  have hl : lv_has ls 1 [(0, .ref (ca 12))] := hl
  change W p l e rm_J0_coder_7d493_S2 s m _ below meth c _ [] 0 0 _ _
  clear B hP hD hK hN hml
  generalize va_A ws s.heap.size = A at C w ⊢
  generalize ([.ref (ca 12)] : List Value).toArray = av at C ⊢
  obtain ⟨Q, hQ⟩ : ∃ Q, Q = MQ below (PostI D A ws out) av s 0 0 A := ⟨_, rfl⟩
  rw [← hQ]
  have hx := C.1
  have hb := C.2.1
  have h := hf
  unfold f_J0_coder_7d493_S2 at h
  refine gcs C w wl_264 dJ0_coder_7d493_0 ?_
  refine lv_if_eq (tgt := 13) hx hb dJ0_coder_7d493_3 (by decide) (fun c1 => ?_) (fun c1 => ?_)
  · have h := it_t h c1
    refine lv_iconst (v := 1) hx hb dJ0_coder_7d493_13 (by decide) ?_
    rw [hQ]
    exact qT C w (by decide) h dJ0_coder_7d493_14
  · have h := it_f h c1
    refine lv_aload_n hx hb dJ0_coder_7d493_6 rfl (lv_at hl 0 rfl) ?_
    refine gsc C w 2 (by decide) wl_265 dJ0_coder_7d493_7 ?_
    refine lv_goto (tgt := 14) hx hb dJ0_coder_7d493_10 (by decide) ?_
    rw [hQ]
    exact qT C w (by decide) h dJ0_coder_7d493_14
def f_J0_length_8abf5_S2  : Option (Int32) := (f_J0_coder_7d493_S2).bind fun q1 => some ((5 : Int32) >>> (q1 &&& 31))
abbrev rm_J0_length_8abf5_S2 : Room := { frames := 1, cells := 0, slots := 0, locals := 60 }
set_option maxHeartbeats 4000000 in
set_option maxRecDepth 100000 in
theorem c_J0_length_8abf5_S2 (l : Launch) (D : va_G) (ca : Nat → ClassId) (ws : va_W)  (sz : Nat) (out : Int32) (hf : f_J0_length_8abf5_S2  = some out) : Met l yJ0_length_8abf5 (.code yJ0_length_8abf5 cJ0_length_8abf5 1 (some .int) :: WL) rm_J0_length_8abf5_S2 (PreC D ca ws sz [.ref (ca 12)]) (PostI D (va_A ws sz) ws out) 0 0 (va_A ws sz) := by
  refine Met.ofW (cc := cJ0_length_8abf5) (maxL := 1) (ret := (some .int)) (by decide) rfl ?_
  intro p e s m args below meth c s₁ B hml hv
  obtain ⟨rfl, hsz, hP, hK, hD, hN⟩ := hv
  subst hsz
  have C := Cx.mk (own := RJ0) B hml rfl hK hN (ws := ws)
  have w : Wd (va_A ws s.heap.size) s D ws s.heap [] := ⟨hP, hD.self, va_S.rf⟩
  have hl := lv_entry ([.ref (ca 12)]) (n := 1) (Nat.le_of_ble_eq_true rfl)
  rw [lg_entry_eq]
  generalize (lg_sl ([.ref (ca 12)]) ++ List.replicate (1 - (lg_sl ([.ref (ca 12)])).length) Slot.unset).toArray = ls at hl ⊢
  have hl : lv_has ls 1 [(0, .ref (ca 12))] := hl
  change W p l e rm_J0_length_8abf5_S2 s m _ below meth c _ [] 0 0 _ _
  clear B hP hD hK hN hml
  generalize va_A ws s.heap.size = A at C w ⊢
  generalize ([.ref (ca 12)] : List Value).toArray = av at C ⊢
  obtain ⟨Q, hQ⟩ : ∃ Q, Q = MQ below (PostI D A ws out) av s 0 0 A := ⟨_, rfl⟩
  rw [← hQ]
  have hx := C.1
  have hb := C.2.1
  have h := hf
  unfold f_J0_length_8abf5_S2 at h
  refine lv_aload_n hx hb dJ0_length_8abf5_0 rfl (lv_at hl 0 rfl) ?_
  refine gsv C w 2 (by decide) wl_259 dJ0_length_8abf5_1 ?_
  refine gsn (v := 5) C w 2 (by decide) rfl dJ0_length_8abf5_4 ?_
  refine lv_aload_n hx hb dJ0_length_8abf5_5 rfl (lv_at hl 0 rfl) ?_
  obtain ⟨q1, hq1, h⟩ := ob_t h
  refine res_i C w (run_V (As := []) (rest := [.int (5 : Int32)]) C w hl.1 (srecv C w 2 (by decide)) (c_J0_coder_7d493_S2 l D ca _  _ q1 hq1) rfl rfl wl_260 wl_261 wl_262 wl_257 wl_263 hd_J0_coder_7d493 rfl ⟨Nat.le_of_ble_eq_true rfl, Nat.le_of_ble_eq_true rfl⟩ rfl (Nat.le_of_ble_eq_true rfl) dJ0_length_8abf5_6) (fun H locs w => ?_)
  refine lv_ishr hx hb dJ0_length_8abf5_9 ?_
  rw [hQ]
  exact qI C w h dJ0_length_8abf5_10
def f_J0_isLatin1_aae02_S2  : Option (Int32) := if (1 : Int32) = 0 then (some (0 : Int32)) else (if (0 : Int32) = 0 then (some (1 : Int32)) else (some (0 : Int32)))
abbrev rm_J0_isLatin1_aae02_S2 : Room := { frames := 0, cells := 0, slots := 0, locals := 0 }
set_option maxHeartbeats 4000000 in
set_option maxRecDepth 100000 in
theorem c_J0_isLatin1_aae02_S2 (l : Launch) (D : va_G) (ca : Nat → ClassId) (ws : va_W)  (sz : Nat) (out : Int32) (hf : f_J0_isLatin1_aae02_S2  = some out) : Met l yJ0_isLatin1_aae02 (.code yJ0_isLatin1_aae02 cJ0_isLatin1_aae02 1 (some .boolean) :: WL) rm_J0_isLatin1_aae02_S2 (PreC D ca ws sz [.ref (ca 12)]) (PostI D (va_A ws sz) ws out) 0 0 (va_A ws sz) := by
  refine Met.ofW (cc := cJ0_isLatin1_aae02) (maxL := 1) (ret := (some .boolean)) (by decide) rfl ?_
  intro p e s m args below meth c s₁ B hml hv
  obtain ⟨rfl, hsz, hP, hK, hD, hN⟩ := hv
  subst hsz
  have C := Cx.mk (own := RJ0) B hml rfl hK hN (ws := ws)
  have w : Wd (va_A ws s.heap.size) s D ws s.heap [] := ⟨hP, hD.self, va_S.rf⟩
  have hl := lv_entry ([.ref (ca 12)]) (n := 1) (Nat.le_of_ble_eq_true rfl)
  rw [lg_entry_eq]
  generalize (lg_sl ([.ref (ca 12)]) ++ List.replicate (1 - (lg_sl ([.ref (ca 12)])).length) Slot.unset).toArray = ls at hl ⊢
  have hl : lv_has ls 1 [(0, .ref (ca 12))] := hl
  change W p l e rm_J0_isLatin1_aae02_S2 s m _ below meth c _ [] 0 0 _ _
  clear B hP hD hK hN hml
  generalize va_A ws s.heap.size = A at C w ⊢
  generalize ([.ref (ca 12)] : List Value).toArray = av at C ⊢
  obtain ⟨Q, hQ⟩ : ∃ Q, Q = MQ below (PostI D A ws out) av s 0 0 A := ⟨_, rfl⟩
  rw [← hQ]
  have hx := C.1
  have hb := C.2.1
  have h := hf
  unfold f_J0_isLatin1_aae02_S2 at h
  refine gcs C w wl_264 dJ0_isLatin1_aae02_0 ?_
  refine lv_if_eq (tgt := 17) hx hb dJ0_isLatin1_aae02_3 (by decide) (fun c1 => ?_) (fun c1 => ?_)
  · have h := it_t h c1
    refine lv_iconst (v := 0) hx hb dJ0_isLatin1_aae02_17 (by decide) ?_
    rw [hQ]
    exact qZ C w (by decide) h dJ0_isLatin1_aae02_18
  · have h := it_f h c1
    refine lv_aload_n hx hb dJ0_isLatin1_aae02_6 rfl (lv_at hl 0 rfl) ?_
    refine gsc C w 2 (by decide) wl_265 dJ0_isLatin1_aae02_7 ?_
    refine lv_if_ne (tgt := 17) hx hb dJ0_isLatin1_aae02_10 (by decide) (fun c2 => ?_) (fun c2 => ?_)
    · have h := it_f h c2
      refine lv_iconst (v := 0) hx hb dJ0_isLatin1_aae02_17 (by decide) ?_
      rw [hQ]
      exact qZ C w (by decide) h dJ0_isLatin1_aae02_18
    · have h := it_t h c2
      refine lv_iconst (v := 1) hx hb dJ0_isLatin1_aae02_13 (by decide) ?_
      refine lv_goto (tgt := 18) hx hb dJ0_isLatin1_aae02_14 (by decide) ?_
      rw [hQ]
      exact qZ C w (by decide) h dJ0_isLatin1_aae02_18
def f_J1_charAt_3b067_V2 (x1 : Int32) : Option (Int32) := (f_J0_checkIndex_df160 x1 (5 : Int32)).bind fun q1 => cond (ckI x1 5) (some ((((((strB.getD 2 []).getD x1.toNatClampNeg 0) &&& (255 : Int32))).toUInt32 % 65536).toInt32)) none
abbrev rm_J1_charAt_3b067_V2 : Room := { frames := 2, cells := 0, slots := 0, locals := 120 }
set_option maxHeartbeats 4000000 in
set_option maxRecDepth 100000 in
theorem c_J1_charAt_3b067_V2 (l : Launch) (D : va_G) (ca : Nat → ClassId) (ws : va_W) (x1 : Int32) (sz : Nat) (out : Int32) (hf : f_J1_charAt_3b067_V2 x1 = some out) : Met l yJ1_charAt_3b067 (.code yJ1_charAt_3b067 cJ1_charAt_3b067 2 (some .char) :: WL) rm_J1_charAt_3b067_V2 (PreC D ca ws sz [.ref (ca 22), .int x1]) (PostI D (va_A ws sz) ws out) 0 0 (va_A ws sz) := by
  refine Met.ofW (cc := cJ1_charAt_3b067) (maxL := 2) (ret := (some .char)) (by decide) rfl ?_
  intro p e s m args below meth c s₁ B hml hv
  obtain ⟨rfl, hsz, hP, hK, hD, hN⟩ := hv
  subst hsz
  have C := Cx.mk (own := RJ1) B hml rfl hK hN (ws := ws)
  have w : Wd (va_A ws s.heap.size) s D ws s.heap [] := ⟨hP, hD.self, va_S.rf⟩
  have hl := lv_entry ([.ref (ca 22), .int x1]) (n := 2) (Nat.le_of_ble_eq_true rfl)
  rw [lg_entry_eq]
  generalize (lg_sl ([.ref (ca 22), .int x1]) ++ List.replicate (2 - (lg_sl ([.ref (ca 22), .int x1])).length) Slot.unset).toArray = ls at hl ⊢
  have hl : lv_has ls 2 [(0, .ref (ca 22)), (1, .int x1)] := hl
  change W p l e rm_J1_charAt_3b067_V2 s m _ below meth c _ [] 0 0 _ _
  clear B hP hD hK hN hml
  generalize va_A ws s.heap.size = A at C w ⊢
  generalize ([.ref (ca 22), .int x1] : List Value).toArray = av at C ⊢
  obtain ⟨Q, hQ⟩ : ∃ Q, Q = MQ below (PostI D A ws out) av s 0 0 A := ⟨_, rfl⟩
  rw [← hQ]
  have hx := C.1
  have hb := C.2.1
  have h := hf
  unfold f_J1_charAt_3b067_V2 at h
  refine lv_iload_n hx hb dJ1_charAt_3b067_0 rfl (lv_at hl 1 rfl) ?_
  refine lv_aload_n hx hb dJ1_charAt_3b067_1 rfl (lv_at hl 0 rfl) ?_
  refine gsn (v := 5) C w 2 (by decide) rfl dJ1_charAt_3b067_2 ?_
  obtain ⟨q1, hq1, h⟩ := ob_t h
  refine res_v C w (run_S (As := [.int x1, .int (5 : Int32)]) (rest := []) C w hl.1 (c_J0_checkIndex_df160 l D ca _ x1 (5 : Int32) _ q1 hq1) rfl rfl wl_278 wl_279 wl_257 wl_280 hd_J0_checkIndex_df160 rfl ⟨Nat.le_of_ble_eq_true rfl, Nat.le_of_ble_eq_true rfl⟩ rfl (Nat.le_of_ble_eq_true rfl) dJ1_charAt_3b067_3) (fun H locs w => ?_)
  refine lv_aload_n hx hb dJ1_charAt_3b067_6 rfl (lv_at hl 0 rfl) ?_
  refine lv_iload_n hx hb dJ1_charAt_3b067_7 rfl (lv_at hl 1 rfl) ?_
  obtain ⟨i1, h⟩ := ck_t h
  refine gsb (v := ((strB.getD 2 []).getD x1.toNatClampNeg 0)) C w 2 (by decide) i1 rfl dJ1_charAt_3b067_8 ?_
  refine lv_sipush (v := 255) hx hb dJ1_charAt_3b067_9 (by decide) ?_
  refine lv_iand hx hb dJ1_charAt_3b067_12 ?_
  refine lv_i2c hx hb dJ1_charAt_3b067_13 rfl ?_
  rw [hQ]
  exact qT C w (pk_nc _) h dJ1_charAt_3b067_14
def f_J0_charAt_5068e_S2 (x1 : Int32) : Option (Int32) := (f_J0_isLatin1_aae02_S2).bind fun q1 => if q1 = 0 then (none) else ((f_J1_charAt_3b067_V2 x1).bind fun q2 => cond (ckC q2) (some q2) none)
abbrev rm_J0_charAt_5068e_S2 : Room := { frames := 3, cells := 0, slots := 0, locals := 180 }
set_option maxHeartbeats 4000000 in
set_option maxRecDepth 100000 in
theorem c_J0_charAt_5068e_S2 (l : Launch) (D : va_G) (ca : Nat → ClassId) (ws : va_W) (x1 : Int32) (sz : Nat) (out : Int32) (hf : f_J0_charAt_5068e_S2 x1 = some out) : Met l yJ0_charAt_5068e (.code yJ0_charAt_5068e cJ0_charAt_5068e 2 (some .char) :: WL) rm_J0_charAt_5068e_S2 (PreC D ca ws sz [.ref (ca 12), .int x1]) (PostI D (va_A ws sz) ws out) 0 0 (va_A ws sz) := by
  refine Met.ofW (cc := cJ0_charAt_5068e) (maxL := 2) (ret := (some .char)) (by decide) rfl ?_
  intro p e s m args below meth c s₁ B hml hv
  obtain ⟨rfl, hsz, hP, hK, hD, hN⟩ := hv
  subst hsz
  have C := Cx.mk (own := RJ0) B hml rfl hK hN (ws := ws)
  have w : Wd (va_A ws s.heap.size) s D ws s.heap [] := ⟨hP, hD.self, va_S.rf⟩
  have hl := lv_entry ([.ref (ca 12), .int x1]) (n := 2) (Nat.le_of_ble_eq_true rfl)
  rw [lg_entry_eq]
  generalize (lg_sl ([.ref (ca 12), .int x1]) ++ List.replicate (2 - (lg_sl ([.ref (ca 12), .int x1])).length) Slot.unset).toArray = ls at hl ⊢
  have hl : lv_has ls 2 [(0, .ref (ca 12)), (1, .int x1)] := hl
  change W p l e rm_J0_charAt_5068e_S2 s m _ below meth c _ [] 0 0 _ _
  clear B hP hD hK hN hml
  generalize va_A ws s.heap.size = A at C w ⊢
  generalize ([.ref (ca 12), .int x1] : List Value).toArray = av at C ⊢
  obtain ⟨Q, hQ⟩ : ∃ Q, Q = MQ below (PostI D A ws out) av s 0 0 A := ⟨_, rfl⟩
  rw [← hQ]
  have hx := C.1
  have hb := C.2.1
  have h := hf
  unfold f_J0_charAt_5068e_S2 at h
  refine lv_aload_n hx hb dJ0_charAt_5068e_0 rfl (lv_at hl 0 rfl) ?_
  obtain ⟨q1, hq1, h⟩ := ob_t h
  refine res_i C w (run_V (As := []) (rest := []) C w hl.1 (srecv C w 2 (by decide)) (c_J0_isLatin1_aae02_S2 l D ca _  _ q1 hq1) rfl rfl wl_270 wl_271 wl_272 wl_257 wl_273 hd_J0_isLatin1_aae02 rfl ⟨Nat.le_of_ble_eq_true rfl, Nat.le_of_ble_eq_true rfl⟩ rfl (Nat.le_of_ble_eq_true rfl) dJ0_charAt_5068e_1) (fun H locs w => ?_)
  refine lv_if_eq (tgt := 16) hx hb dJ0_charAt_5068e_4 (by decide) (fun c1 => ?_) (fun c1 => ?_)
  · have h := it_t h c1
    refine lv_aload_n hx hb dJ0_charAt_5068e_16 rfl (lv_at hl 0 rfl) ?_
    refine gsv C w 2 (by decide) wl_259 dJ0_charAt_5068e_17 ?_
    refine lv_iload_n hx hb dJ0_charAt_5068e_20 rfl (lv_at hl 1 rfl) ?_
    exact absurd h (by simp)
  · have h := it_f h c1
    refine lv_aload_n hx hb dJ0_charAt_5068e_7 rfl (lv_at hl 0 rfl) ?_
    refine gsv C w 2 (by decide) wl_259 dJ0_charAt_5068e_8 ?_
    refine lv_iload_n hx hb dJ0_charAt_5068e_11 rfl (lv_at hl 1 rfl) ?_
    obtain ⟨q2, hq2, h⟩ := ob_t h
    refine res_i C w (run_S (As := [.ref (ca 22), .int x1]) (rest := []) C w hl.1 (c_J1_charAt_3b067_V2 l D ca _ x1 _ q2 hq2) rfl rfl wl_274 wl_275 wl_276 wl_277 hd_J1_charAt_3b067 rfl ⟨Nat.le_of_ble_eq_true rfl, Nat.le_of_ble_eq_true rfl⟩ rfl (Nat.le_of_ble_eq_true rfl) dJ0_charAt_5068e_12) (fun H locs w => ?_)
    obtain ⟨z2, h⟩ := cc_t h
    rw [hQ]
    exact qT C w z2 h dJ0_charAt_5068e_15
def f_X9_spells_S2_b20 (K20 : St → Int32 → Option (Int32 × St)) (σ : St) (x2 : Int32) : Option (Int32 × St) := (f_J0_length_8abf5_S2).bind fun q1 => if q1 ≤ x2 then (some ((1 : Int32), σ)) else (cond (ckI ((σ.1 4104) + x2) 150) ((f_J0_charAt_5068e_S2 x2).bind fun q2 => if (σ.2.2 42 (((σ.1 4104) + x2)).toNatClampNeg) = q2 then (K20 σ (x2 + (1 : Int32))) else (some ((0 : Int32), σ))) none)
def f_X9_spells_S2_L20 : Nat → St → Int32 → Option (Int32 × St)
  | 0 => fun _ _ => none
  | n + 1 => f_X9_spells_S2_b20 (f_X9_spells_S2_L20 n)
def f_X9_spells_S2 (σ : St) : Option (Int32 × St) := (f_J0_length_8abf5_S2).bind fun q1 => if ((σ.1 4103) - (σ.1 4104)) = q1 then (f_X9_spells_S2_L20 FU σ (0 : Int32)) else (some ((0 : Int32), σ))
abbrev rm_X9_spells_S2 : Room := { frames := 4, cells := 0, slots := 0, locals := 240 }
set_option maxHeartbeats 4000000 in
set_option maxRecDepth 100000 in
theorem c_X9_spells_S2 (l : Launch) (D : va_G) (ca : Nat → ClassId) (ad : Nat → Nat) (σ : St)  (sz : Nat) (out : Int32 × St) (hf : f_X9_spells_S2 σ  = some out) : Met l yX9_spells (.code yX9_spells cX9_spells 3 (some .boolean) :: WL) rm_X9_spells_S2 (PreC D ca (CW ca ad σ) sz [.ref (ad 41), .ref (ca 12)]) (PostI D (va_A (CW ca ad σ) sz) (CW ca ad out.2) out.1) 0 0 (va_A (CW ca ad σ) sz) := by
  refine Met.ofW (cc := cX9_spells) (maxL := 3) (ret := (some .boolean)) (by decide) rfl ?_
  intro p e s m args below meth c s₁ B hml hv
  obtain ⟨rfl, hsz, hP, hK, hD, hN⟩ := hv
  subst hsz
  have C := Cx.mk (own := RX9) B hml rfl hK hN (ws := (CW ca ad σ))
  have w : Wd (va_A (CW ca ad σ) s.heap.size) s D (CW ca ad σ) s.heap [] := ⟨hP, hD.self, va_S.rf⟩
  have hl := lv_entry ([.ref (ad 41), .ref (ca 12)]) (n := 3) (Nat.le_of_ble_eq_true rfl)
  rw [lg_entry_eq]
  generalize (lg_sl ([.ref (ad 41), .ref (ca 12)]) ++ List.replicate (3 - (lg_sl ([.ref (ad 41), .ref (ca 12)])).length) Slot.unset).toArray = ls at hl ⊢
  have hl : lv_has ls 3 [(0, .ref (ad 41)), (1, .ref (ca 12))] := hl
  change W p l e rm_X9_spells_S2 s m _ below meth c _ [] 0 0 _ _
  clear B hP hD hK hN hml
  generalize va_A (CW ca ad σ) s.heap.size = A at C w ⊢
  generalize ([.ref (ad 41), .ref (ca 12)] : List Value).toArray = av at C ⊢
  obtain ⟨Q, hQ⟩ : ∃ Q, Q = MQ below (PostI D A (CW ca ad out.2) out.1) av s 0 0 A := ⟨_, rfl⟩
  rw [← hQ]
  have hx := C.1
  have hb := C.2.1
  have L20 : ∀ (n20 : Nat) (σ : St) (x2 : Int32), f_X9_spells_S2_L20 n20 σ x2 = some out → Bk p l e rm_X9_spells_S2 s m av below meth c A D 3 Q (CW ca ad σ) 20 [(0, .ref (ad 41)), (1, .ref (ca 12)), (2, .int x2)] [] := by
    intro n20
    induction n20 with
    | zero => intro σ x2 h; exact absurd h (by simp [f_X9_spells_S2_L20])
    | succ n20 ih20 =>
      intro σ x2 h H locs ls w hl
      change f_X9_spells_S2_b20 (f_X9_spells_S2_L20 n20) σ x2 = some out at h
      unfold f_X9_spells_S2_b20 at h
      refine lv_iload_n hx hb dX9_spells_20 rfl (lv_at hl 2 rfl) ?_
      refine lv_aload_n hx hb dX9_spells_21 rfl (lv_at hl 1 rfl) ?_
      obtain ⟨q1, hq1, h⟩ := ob_t h
      refine res_i C w (run_V (As := []) (rest := [.int x2]) C w hl.1 (srecv C w 2 (by decide)) (c_J0_length_8abf5_S2 l D ca _  _ q1 hq1) rfl rfl wl_254 wl_255 wl_256 wl_257 wl_258 hd_J0_length_8abf5 rfl ⟨Nat.le_of_ble_eq_true rfl, Nat.le_of_ble_eq_true rfl⟩ rfl (Nat.le_of_ble_eq_true rfl) dX9_spells_22) (fun H locs w => ?_)
      refine lv_icmp_ge (tgt := 55) hx hb dX9_spells_25 (by decide) (fun c1 => ?_) (fun c1 => ?_)
      · have h := it_t h c1
        refine lv_iconst (v := 1) hx hb dX9_spells_55 (by decide) ?_
        rw [hQ]
        exact rZ (F := CW ca ad) C w (by decide) h dX9_spells_56
      · have h := it_f h c1
        refine lv_aload_n hx hb dX9_spells_28 rfl (lv_at hl 0 rfl) ?_
        refine gC41_0 C w wl_88 dX9_spells_29 ?_
        refine lv_aload_n hx hb dX9_spells_32 rfl (lv_at hl 0 rfl) ?_
        refine gC41_4 (v := (σ.1 4104)) C w rfl wl_230 dX9_spells_33 ?_
        refine lv_iload_n hx hb dX9_spells_36 rfl (lv_at hl 2 rfl) ?_
        refine lv_iadd hx hb dX9_spells_37 ?_
        obtain ⟨i2, h⟩ := ck_t h
        refine ldC42 (v := (σ.2.2 42 (((σ.1 4104) + x2)).toNatClampNeg)) C w i2 rfl dX9_spells_38 ?_
        refine lv_aload_n hx hb dX9_spells_39 rfl (lv_at hl 1 rfl) ?_
        refine lv_iload_n hx hb dX9_spells_40 rfl (lv_at hl 2 rfl) ?_
        obtain ⟨q2, hq2, h⟩ := ob_t h
        refine res_i C w (run_V (As := [.int x2]) (rest := [.int (σ.2.2 42 (((σ.1 4104) + x2)).toNatClampNeg)]) C w hl.1 (srecv C w 2 (by decide)) (c_J0_charAt_5068e_S2 l D ca _ x2 _ q2 hq2) rfl rfl wl_266 wl_267 wl_268 wl_257 wl_269 hd_J0_charAt_5068e rfl ⟨Nat.le_of_ble_eq_true rfl, Nat.le_of_ble_eq_true rfl⟩ rfl (Nat.le_of_ble_eq_true rfl) dX9_spells_41) (fun H locs w => ?_)
        refine lv_icmp_eq (tgt := 49) hx hb dX9_spells_44 (by decide) (fun c3 => ?_) (fun c3 => ?_)
        · have h := it_t h c3
          refine lv_iinc (v := (x2 + (1 : Int32))) (lv' := [(2, .int (x2 + (1 : Int32))), (0, .ref (ad 41)), (1, .ref (ca 12))]) hx hb dX9_spells_49 hl (k := 2) rfl rfl (by decide) rfl (fun ls hl => ?_)
          refine lv_goto (tgt := 20) hx hb dX9_spells_52 (by decide) ?_
          exact ih20 _ _ h _ _ _ w (lv_sub hl [1, 2, 0] rfl)
        · have h := it_f h c3
          refine lv_iconst (v := 0) hx hb dX9_spells_47 (by decide) ?_
          rw [hQ]
          exact rZ (F := CW ca ad) C w (by decide) h dX9_spells_48
  have h := hf
  unfold f_X9_spells_S2 at h
  refine lv_aload_n hx hb dX9_spells_0 rfl (lv_at hl 0 rfl) ?_
  refine gC41_3 (v := (σ.1 4103)) C w rfl wl_227 dX9_spells_1 ?_
  refine lv_aload_n hx hb dX9_spells_4 rfl (lv_at hl 0 rfl) ?_
  refine gC41_4 (v := (σ.1 4104)) C w rfl wl_230 dX9_spells_5 ?_
  refine lv_isub hx hb dX9_spells_8 ?_
  refine lv_aload_n hx hb dX9_spells_9 rfl (lv_at hl 1 rfl) ?_
  obtain ⟨q1, hq1, h⟩ := ob_t h
  refine res_i C w (run_V (As := []) (rest := [.int ((σ.1 4103) - (σ.1 4104))]) C w hl.1 (srecv C w 2 (by decide)) (c_J0_length_8abf5_S2 l D ca _  _ q1 hq1) rfl rfl wl_254 wl_255 wl_256 wl_257 wl_258 hd_J0_length_8abf5 rfl ⟨Nat.le_of_ble_eq_true rfl, Nat.le_of_ble_eq_true rfl⟩ rfl (Nat.le_of_ble_eq_true rfl) dX9_spells_10) (fun H locs w => ?_)
  refine lv_icmp_eq (tgt := 18) hx hb dX9_spells_13 (by decide) (fun c1 => ?_) (fun c1 => ?_)
  · have h := it_t h c1
    refine lv_iconst (v := 0) hx hb dX9_spells_18 (by decide) ?_
    refine lv_istore_n (lv' := [(2, .int (0 : Int32)), (0, .ref (ad 41)), (1, .ref (ca 12))]) hx hb dX9_spells_19 rfl hl (by decide) rfl (fun ls hl => ?_)
    exact L20 FU _ _ h _ _ _ w (lv_sub hl [1, 2, 0] rfl)
  · have h := it_f h c1
    refine lv_iconst (v := 0) hx hb dX9_spells_16 (by decide) ?_
    rw [hQ]
    exact rZ (F := CW ca ad) C w (by decide) h dX9_spells_17
def f_J0_coder_7d493_S3  : Option (Int32) := if (1 : Int32) = 0 then (some (1 : Int32)) else (some (0 : Int32))
abbrev rm_J0_coder_7d493_S3 : Room := { frames := 0, cells := 0, slots := 0, locals := 0 }
set_option maxHeartbeats 4000000 in
set_option maxRecDepth 100000 in
theorem c_J0_coder_7d493_S3 (l : Launch) (D : va_G) (ca : Nat → ClassId) (ws : va_W)  (sz : Nat) (out : Int32) (hf : f_J0_coder_7d493_S3  = some out) : Met l yJ0_coder_7d493 (.code yJ0_coder_7d493 cJ0_coder_7d493 1 (some .byte) :: WL) rm_J0_coder_7d493_S3 (PreC D ca ws sz [.ref (ca 13)]) (PostI D (va_A ws sz) ws out) 0 0 (va_A ws sz) := by
  refine Met.ofW (cc := cJ0_coder_7d493) (maxL := 1) (ret := (some .byte)) (by decide) rfl ?_
  intro p e s m args below meth c s₁ B hml hv
  obtain ⟨rfl, hsz, hP, hK, hD, hN⟩ := hv
  subst hsz
  have C := Cx.mk (own := RJ0) B hml rfl hK hN (ws := ws)
  have w : Wd (va_A ws s.heap.size) s D ws s.heap [] := ⟨hP, hD.self, va_S.rf⟩
  have hl := lv_entry ([.ref (ca 13)]) (n := 1) (Nat.le_of_ble_eq_true rfl)
  rw [lg_entry_eq]
  generalize (lg_sl ([.ref (ca 13)]) ++ List.replicate (1 - (lg_sl ([.ref (ca 13)])).length) Slot.unset).toArray = ls at hl ⊢
  have hl : lv_has ls 1 [(0, .ref (ca 13))] := hl
  change W p l e rm_J0_coder_7d493_S3 s m _ below meth c _ [] 0 0 _ _
  clear B hP hD hK hN hml
  generalize va_A ws s.heap.size = A at C w ⊢
  generalize ([.ref (ca 13)] : List Value).toArray = av at C ⊢
  obtain ⟨Q, hQ⟩ : ∃ Q, Q = MQ below (PostI D A ws out) av s 0 0 A := ⟨_, rfl⟩
  rw [← hQ]
  have hx := C.1
  have hb := C.2.1
  have h := hf
  unfold f_J0_coder_7d493_S3 at h
  refine gcs C w wl_264 dJ0_coder_7d493_0 ?_
  refine lv_if_eq (tgt := 13) hx hb dJ0_coder_7d493_3 (by decide) (fun c1 => ?_) (fun c1 => ?_)
  · have h := it_t h c1
    refine lv_iconst (v := 1) hx hb dJ0_coder_7d493_13 (by decide) ?_
    rw [hQ]
    exact qT C w (by decide) h dJ0_coder_7d493_14
  · have h := it_f h c1
    refine lv_aload_n hx hb dJ0_coder_7d493_6 rfl (lv_at hl 0 rfl) ?_
    refine gsc C w 3 (by decide) wl_265 dJ0_coder_7d493_7 ?_
    refine lv_goto (tgt := 14) hx hb dJ0_coder_7d493_10 (by decide) ?_
    rw [hQ]
    exact qT C w (by decide) h dJ0_coder_7d493_14
def f_J0_length_8abf5_S3  : Option (Int32) := (f_J0_coder_7d493_S3).bind fun q1 => some ((4 : Int32) >>> (q1 &&& 31))
abbrev rm_J0_length_8abf5_S3 : Room := { frames := 1, cells := 0, slots := 0, locals := 60 }
set_option maxHeartbeats 4000000 in
set_option maxRecDepth 100000 in
theorem c_J0_length_8abf5_S3 (l : Launch) (D : va_G) (ca : Nat → ClassId) (ws : va_W)  (sz : Nat) (out : Int32) (hf : f_J0_length_8abf5_S3  = some out) : Met l yJ0_length_8abf5 (.code yJ0_length_8abf5 cJ0_length_8abf5 1 (some .int) :: WL) rm_J0_length_8abf5_S3 (PreC D ca ws sz [.ref (ca 13)]) (PostI D (va_A ws sz) ws out) 0 0 (va_A ws sz) := by
  refine Met.ofW (cc := cJ0_length_8abf5) (maxL := 1) (ret := (some .int)) (by decide) rfl ?_
  intro p e s m args below meth c s₁ B hml hv
  obtain ⟨rfl, hsz, hP, hK, hD, hN⟩ := hv
  subst hsz
  have C := Cx.mk (own := RJ0) B hml rfl hK hN (ws := ws)
  have w : Wd (va_A ws s.heap.size) s D ws s.heap [] := ⟨hP, hD.self, va_S.rf⟩
  have hl := lv_entry ([.ref (ca 13)]) (n := 1) (Nat.le_of_ble_eq_true rfl)
  rw [lg_entry_eq]
  generalize (lg_sl ([.ref (ca 13)]) ++ List.replicate (1 - (lg_sl ([.ref (ca 13)])).length) Slot.unset).toArray = ls at hl ⊢
  have hl : lv_has ls 1 [(0, .ref (ca 13))] := hl
  change W p l e rm_J0_length_8abf5_S3 s m _ below meth c _ [] 0 0 _ _
  clear B hP hD hK hN hml
  generalize va_A ws s.heap.size = A at C w ⊢
  generalize ([.ref (ca 13)] : List Value).toArray = av at C ⊢
  obtain ⟨Q, hQ⟩ : ∃ Q, Q = MQ below (PostI D A ws out) av s 0 0 A := ⟨_, rfl⟩
  rw [← hQ]
  have hx := C.1
  have hb := C.2.1
  have h := hf
  unfold f_J0_length_8abf5_S3 at h
  refine lv_aload_n hx hb dJ0_length_8abf5_0 rfl (lv_at hl 0 rfl) ?_
  refine gsv C w 3 (by decide) wl_259 dJ0_length_8abf5_1 ?_
  refine gsn (v := 4) C w 3 (by decide) rfl dJ0_length_8abf5_4 ?_
  refine lv_aload_n hx hb dJ0_length_8abf5_5 rfl (lv_at hl 0 rfl) ?_
  obtain ⟨q1, hq1, h⟩ := ob_t h
  refine res_i C w (run_V (As := []) (rest := [.int (4 : Int32)]) C w hl.1 (srecv C w 3 (by decide)) (c_J0_coder_7d493_S3 l D ca _  _ q1 hq1) rfl rfl wl_260 wl_261 wl_262 wl_257 wl_263 hd_J0_coder_7d493 rfl ⟨Nat.le_of_ble_eq_true rfl, Nat.le_of_ble_eq_true rfl⟩ rfl (Nat.le_of_ble_eq_true rfl) dJ0_length_8abf5_6) (fun H locs w => ?_)
  refine lv_ishr hx hb dJ0_length_8abf5_9 ?_
  rw [hQ]
  exact qI C w h dJ0_length_8abf5_10
def f_J0_isLatin1_aae02_S3  : Option (Int32) := if (1 : Int32) = 0 then (some (0 : Int32)) else (if (0 : Int32) = 0 then (some (1 : Int32)) else (some (0 : Int32)))
abbrev rm_J0_isLatin1_aae02_S3 : Room := { frames := 0, cells := 0, slots := 0, locals := 0 }
set_option maxHeartbeats 4000000 in
set_option maxRecDepth 100000 in
theorem c_J0_isLatin1_aae02_S3 (l : Launch) (D : va_G) (ca : Nat → ClassId) (ws : va_W)  (sz : Nat) (out : Int32) (hf : f_J0_isLatin1_aae02_S3  = some out) : Met l yJ0_isLatin1_aae02 (.code yJ0_isLatin1_aae02 cJ0_isLatin1_aae02 1 (some .boolean) :: WL) rm_J0_isLatin1_aae02_S3 (PreC D ca ws sz [.ref (ca 13)]) (PostI D (va_A ws sz) ws out) 0 0 (va_A ws sz) := by
  refine Met.ofW (cc := cJ0_isLatin1_aae02) (maxL := 1) (ret := (some .boolean)) (by decide) rfl ?_
  intro p e s m args below meth c s₁ B hml hv
  obtain ⟨rfl, hsz, hP, hK, hD, hN⟩ := hv
  subst hsz
  have C := Cx.mk (own := RJ0) B hml rfl hK hN (ws := ws)
  have w : Wd (va_A ws s.heap.size) s D ws s.heap [] := ⟨hP, hD.self, va_S.rf⟩
  have hl := lv_entry ([.ref (ca 13)]) (n := 1) (Nat.le_of_ble_eq_true rfl)
  rw [lg_entry_eq]
  generalize (lg_sl ([.ref (ca 13)]) ++ List.replicate (1 - (lg_sl ([.ref (ca 13)])).length) Slot.unset).toArray = ls at hl ⊢
  have hl : lv_has ls 1 [(0, .ref (ca 13))] := hl
  change W p l e rm_J0_isLatin1_aae02_S3 s m _ below meth c _ [] 0 0 _ _
  clear B hP hD hK hN hml
  generalize va_A ws s.heap.size = A at C w ⊢
  generalize ([.ref (ca 13)] : List Value).toArray = av at C ⊢
  obtain ⟨Q, hQ⟩ : ∃ Q, Q = MQ below (PostI D A ws out) av s 0 0 A := ⟨_, rfl⟩
  rw [← hQ]
  have hx := C.1
  have hb := C.2.1
  have h := hf
  unfold f_J0_isLatin1_aae02_S3 at h
  refine gcs C w wl_264 dJ0_isLatin1_aae02_0 ?_
  refine lv_if_eq (tgt := 17) hx hb dJ0_isLatin1_aae02_3 (by decide) (fun c1 => ?_) (fun c1 => ?_)
  · have h := it_t h c1
    refine lv_iconst (v := 0) hx hb dJ0_isLatin1_aae02_17 (by decide) ?_
    rw [hQ]
    exact qZ C w (by decide) h dJ0_isLatin1_aae02_18
  · have h := it_f h c1
    refine lv_aload_n hx hb dJ0_isLatin1_aae02_6 rfl (lv_at hl 0 rfl) ?_
    refine gsc C w 3 (by decide) wl_265 dJ0_isLatin1_aae02_7 ?_
    refine lv_if_ne (tgt := 17) hx hb dJ0_isLatin1_aae02_10 (by decide) (fun c2 => ?_) (fun c2 => ?_)
    · have h := it_f h c2
      refine lv_iconst (v := 0) hx hb dJ0_isLatin1_aae02_17 (by decide) ?_
      rw [hQ]
      exact qZ C w (by decide) h dJ0_isLatin1_aae02_18
    · have h := it_t h c2
      refine lv_iconst (v := 1) hx hb dJ0_isLatin1_aae02_13 (by decide) ?_
      refine lv_goto (tgt := 18) hx hb dJ0_isLatin1_aae02_14 (by decide) ?_
      rw [hQ]
      exact qZ C w (by decide) h dJ0_isLatin1_aae02_18
def f_J1_charAt_3b067_V3 (x1 : Int32) : Option (Int32) := (f_J0_checkIndex_df160 x1 (4 : Int32)).bind fun q1 => cond (ckI x1 4) (some ((((((strB.getD 3 []).getD x1.toNatClampNeg 0) &&& (255 : Int32))).toUInt32 % 65536).toInt32)) none
abbrev rm_J1_charAt_3b067_V3 : Room := { frames := 2, cells := 0, slots := 0, locals := 120 }
set_option maxHeartbeats 4000000 in
set_option maxRecDepth 100000 in
theorem c_J1_charAt_3b067_V3 (l : Launch) (D : va_G) (ca : Nat → ClassId) (ws : va_W) (x1 : Int32) (sz : Nat) (out : Int32) (hf : f_J1_charAt_3b067_V3 x1 = some out) : Met l yJ1_charAt_3b067 (.code yJ1_charAt_3b067 cJ1_charAt_3b067 2 (some .char) :: WL) rm_J1_charAt_3b067_V3 (PreC D ca ws sz [.ref (ca 23), .int x1]) (PostI D (va_A ws sz) ws out) 0 0 (va_A ws sz) := by
  refine Met.ofW (cc := cJ1_charAt_3b067) (maxL := 2) (ret := (some .char)) (by decide) rfl ?_
  intro p e s m args below meth c s₁ B hml hv
  obtain ⟨rfl, hsz, hP, hK, hD, hN⟩ := hv
  subst hsz
  have C := Cx.mk (own := RJ1) B hml rfl hK hN (ws := ws)
  have w : Wd (va_A ws s.heap.size) s D ws s.heap [] := ⟨hP, hD.self, va_S.rf⟩
  have hl := lv_entry ([.ref (ca 23), .int x1]) (n := 2) (Nat.le_of_ble_eq_true rfl)
  rw [lg_entry_eq]
  generalize (lg_sl ([.ref (ca 23), .int x1]) ++ List.replicate (2 - (lg_sl ([.ref (ca 23), .int x1])).length) Slot.unset).toArray = ls at hl ⊢
  have hl : lv_has ls 2 [(0, .ref (ca 23)), (1, .int x1)] := hl
  change W p l e rm_J1_charAt_3b067_V3 s m _ below meth c _ [] 0 0 _ _
  clear B hP hD hK hN hml
  generalize va_A ws s.heap.size = A at C w ⊢
  generalize ([.ref (ca 23), .int x1] : List Value).toArray = av at C ⊢
  obtain ⟨Q, hQ⟩ : ∃ Q, Q = MQ below (PostI D A ws out) av s 0 0 A := ⟨_, rfl⟩
  rw [← hQ]
  have hx := C.1
  have hb := C.2.1
  have h := hf
  unfold f_J1_charAt_3b067_V3 at h
  refine lv_iload_n hx hb dJ1_charAt_3b067_0 rfl (lv_at hl 1 rfl) ?_
  refine lv_aload_n hx hb dJ1_charAt_3b067_1 rfl (lv_at hl 0 rfl) ?_
  refine gsn (v := 4) C w 3 (by decide) rfl dJ1_charAt_3b067_2 ?_
  obtain ⟨q1, hq1, h⟩ := ob_t h
  refine res_v C w (run_S (As := [.int x1, .int (4 : Int32)]) (rest := []) C w hl.1 (c_J0_checkIndex_df160 l D ca _ x1 (4 : Int32) _ q1 hq1) rfl rfl wl_278 wl_279 wl_257 wl_280 hd_J0_checkIndex_df160 rfl ⟨Nat.le_of_ble_eq_true rfl, Nat.le_of_ble_eq_true rfl⟩ rfl (Nat.le_of_ble_eq_true rfl) dJ1_charAt_3b067_3) (fun H locs w => ?_)
  refine lv_aload_n hx hb dJ1_charAt_3b067_6 rfl (lv_at hl 0 rfl) ?_
  refine lv_iload_n hx hb dJ1_charAt_3b067_7 rfl (lv_at hl 1 rfl) ?_
  obtain ⟨i1, h⟩ := ck_t h
  refine gsb (v := ((strB.getD 3 []).getD x1.toNatClampNeg 0)) C w 3 (by decide) i1 rfl dJ1_charAt_3b067_8 ?_
  refine lv_sipush (v := 255) hx hb dJ1_charAt_3b067_9 (by decide) ?_
  refine lv_iand hx hb dJ1_charAt_3b067_12 ?_
  refine lv_i2c hx hb dJ1_charAt_3b067_13 rfl ?_
  rw [hQ]
  exact qT C w (pk_nc _) h dJ1_charAt_3b067_14
def f_J0_charAt_5068e_S3 (x1 : Int32) : Option (Int32) := (f_J0_isLatin1_aae02_S3).bind fun q1 => if q1 = 0 then (none) else ((f_J1_charAt_3b067_V3 x1).bind fun q2 => cond (ckC q2) (some q2) none)
abbrev rm_J0_charAt_5068e_S3 : Room := { frames := 3, cells := 0, slots := 0, locals := 180 }
set_option maxHeartbeats 4000000 in
set_option maxRecDepth 100000 in
theorem c_J0_charAt_5068e_S3 (l : Launch) (D : va_G) (ca : Nat → ClassId) (ws : va_W) (x1 : Int32) (sz : Nat) (out : Int32) (hf : f_J0_charAt_5068e_S3 x1 = some out) : Met l yJ0_charAt_5068e (.code yJ0_charAt_5068e cJ0_charAt_5068e 2 (some .char) :: WL) rm_J0_charAt_5068e_S3 (PreC D ca ws sz [.ref (ca 13), .int x1]) (PostI D (va_A ws sz) ws out) 0 0 (va_A ws sz) := by
  refine Met.ofW (cc := cJ0_charAt_5068e) (maxL := 2) (ret := (some .char)) (by decide) rfl ?_
  intro p e s m args below meth c s₁ B hml hv
  obtain ⟨rfl, hsz, hP, hK, hD, hN⟩ := hv
  subst hsz
  have C := Cx.mk (own := RJ0) B hml rfl hK hN (ws := ws)
  have w : Wd (va_A ws s.heap.size) s D ws s.heap [] := ⟨hP, hD.self, va_S.rf⟩
  have hl := lv_entry ([.ref (ca 13), .int x1]) (n := 2) (Nat.le_of_ble_eq_true rfl)
  rw [lg_entry_eq]
  generalize (lg_sl ([.ref (ca 13), .int x1]) ++ List.replicate (2 - (lg_sl ([.ref (ca 13), .int x1])).length) Slot.unset).toArray = ls at hl ⊢
  have hl : lv_has ls 2 [(0, .ref (ca 13)), (1, .int x1)] := hl
  change W p l e rm_J0_charAt_5068e_S3 s m _ below meth c _ [] 0 0 _ _
  clear B hP hD hK hN hml
  generalize va_A ws s.heap.size = A at C w ⊢
  generalize ([.ref (ca 13), .int x1] : List Value).toArray = av at C ⊢
  obtain ⟨Q, hQ⟩ : ∃ Q, Q = MQ below (PostI D A ws out) av s 0 0 A := ⟨_, rfl⟩
  rw [← hQ]
  have hx := C.1
  have hb := C.2.1
  have h := hf
  unfold f_J0_charAt_5068e_S3 at h
  refine lv_aload_n hx hb dJ0_charAt_5068e_0 rfl (lv_at hl 0 rfl) ?_
  obtain ⟨q1, hq1, h⟩ := ob_t h
  refine res_i C w (run_V (As := []) (rest := []) C w hl.1 (srecv C w 3 (by decide)) (c_J0_isLatin1_aae02_S3 l D ca _  _ q1 hq1) rfl rfl wl_270 wl_271 wl_272 wl_257 wl_273 hd_J0_isLatin1_aae02 rfl ⟨Nat.le_of_ble_eq_true rfl, Nat.le_of_ble_eq_true rfl⟩ rfl (Nat.le_of_ble_eq_true rfl) dJ0_charAt_5068e_1) (fun H locs w => ?_)
  refine lv_if_eq (tgt := 16) hx hb dJ0_charAt_5068e_4 (by decide) (fun c1 => ?_) (fun c1 => ?_)
  · have h := it_t h c1
    refine lv_aload_n hx hb dJ0_charAt_5068e_16 rfl (lv_at hl 0 rfl) ?_
    refine gsv C w 3 (by decide) wl_259 dJ0_charAt_5068e_17 ?_
    refine lv_iload_n hx hb dJ0_charAt_5068e_20 rfl (lv_at hl 1 rfl) ?_
    exact absurd h (by simp)
  · have h := it_f h c1
    refine lv_aload_n hx hb dJ0_charAt_5068e_7 rfl (lv_at hl 0 rfl) ?_
    refine gsv C w 3 (by decide) wl_259 dJ0_charAt_5068e_8 ?_
    refine lv_iload_n hx hb dJ0_charAt_5068e_11 rfl (lv_at hl 1 rfl) ?_
    obtain ⟨q2, hq2, h⟩ := ob_t h
    refine res_i C w (run_S (As := [.ref (ca 23), .int x1]) (rest := []) C w hl.1 (c_J1_charAt_3b067_V3 l D ca _ x1 _ q2 hq2) rfl rfl wl_274 wl_275 wl_276 wl_277 hd_J1_charAt_3b067 rfl ⟨Nat.le_of_ble_eq_true rfl, Nat.le_of_ble_eq_true rfl⟩ rfl (Nat.le_of_ble_eq_true rfl) dJ0_charAt_5068e_12) (fun H locs w => ?_)
    obtain ⟨z2, h⟩ := cc_t h
    rw [hQ]
    exact qT C w z2 h dJ0_charAt_5068e_15
def f_X9_spells_S3_b20 (K20 : St → Int32 → Option (Int32 × St)) (σ : St) (x2 : Int32) : Option (Int32 × St) := (f_J0_length_8abf5_S3).bind fun q1 => if q1 ≤ x2 then (some ((1 : Int32), σ)) else (cond (ckI ((σ.1 4104) + x2) 150) ((f_J0_charAt_5068e_S3 x2).bind fun q2 => if (σ.2.2 42 (((σ.1 4104) + x2)).toNatClampNeg) = q2 then (K20 σ (x2 + (1 : Int32))) else (some ((0 : Int32), σ))) none)
def f_X9_spells_S3_L20 : Nat → St → Int32 → Option (Int32 × St)
  | 0 => fun _ _ => none
  | n + 1 => f_X9_spells_S3_b20 (f_X9_spells_S3_L20 n)
def f_X9_spells_S3 (σ : St) : Option (Int32 × St) := (f_J0_length_8abf5_S3).bind fun q1 => if ((σ.1 4103) - (σ.1 4104)) = q1 then (f_X9_spells_S3_L20 FU σ (0 : Int32)) else (some ((0 : Int32), σ))
abbrev rm_X9_spells_S3 : Room := { frames := 4, cells := 0, slots := 0, locals := 240 }
set_option maxHeartbeats 4000000 in
set_option maxRecDepth 100000 in
theorem c_X9_spells_S3 (l : Launch) (D : va_G) (ca : Nat → ClassId) (ad : Nat → Nat) (σ : St)  (sz : Nat) (out : Int32 × St) (hf : f_X9_spells_S3 σ  = some out) : Met l yX9_spells (.code yX9_spells cX9_spells 3 (some .boolean) :: WL) rm_X9_spells_S3 (PreC D ca (CW ca ad σ) sz [.ref (ad 41), .ref (ca 13)]) (PostI D (va_A (CW ca ad σ) sz) (CW ca ad out.2) out.1) 0 0 (va_A (CW ca ad σ) sz) := by
  refine Met.ofW (cc := cX9_spells) (maxL := 3) (ret := (some .boolean)) (by decide) rfl ?_
  intro p e s m args below meth c s₁ B hml hv
  obtain ⟨rfl, hsz, hP, hK, hD, hN⟩ := hv
  subst hsz
  have C := Cx.mk (own := RX9) B hml rfl hK hN (ws := (CW ca ad σ))
  have w : Wd (va_A (CW ca ad σ) s.heap.size) s D (CW ca ad σ) s.heap [] := ⟨hP, hD.self, va_S.rf⟩
  have hl := lv_entry ([.ref (ad 41), .ref (ca 13)]) (n := 3) (Nat.le_of_ble_eq_true rfl)
  rw [lg_entry_eq]
  generalize (lg_sl ([.ref (ad 41), .ref (ca 13)]) ++ List.replicate (3 - (lg_sl ([.ref (ad 41), .ref (ca 13)])).length) Slot.unset).toArray = ls at hl ⊢
  have hl : lv_has ls 3 [(0, .ref (ad 41)), (1, .ref (ca 13))] := hl
  change W p l e rm_X9_spells_S3 s m _ below meth c _ [] 0 0 _ _
  clear B hP hD hK hN hml
  generalize va_A (CW ca ad σ) s.heap.size = A at C w ⊢
  generalize ([.ref (ad 41), .ref (ca 13)] : List Value).toArray = av at C ⊢
  obtain ⟨Q, hQ⟩ : ∃ Q, Q = MQ below (PostI D A (CW ca ad out.2) out.1) av s 0 0 A := ⟨_, rfl⟩
  rw [← hQ]
  have hx := C.1
  have hb := C.2.1
  have L20 : ∀ (n20 : Nat) (σ : St) (x2 : Int32), f_X9_spells_S3_L20 n20 σ x2 = some out → Bk p l e rm_X9_spells_S3 s m av below meth c A D 3 Q (CW ca ad σ) 20 [(0, .ref (ad 41)), (1, .ref (ca 13)), (2, .int x2)] [] := by
    intro n20
    induction n20 with
    | zero => intro σ x2 h; exact absurd h (by simp [f_X9_spells_S3_L20])
    | succ n20 ih20 =>
      intro σ x2 h H locs ls w hl
      change f_X9_spells_S3_b20 (f_X9_spells_S3_L20 n20) σ x2 = some out at h
      unfold f_X9_spells_S3_b20 at h
      refine lv_iload_n hx hb dX9_spells_20 rfl (lv_at hl 2 rfl) ?_
      refine lv_aload_n hx hb dX9_spells_21 rfl (lv_at hl 1 rfl) ?_
      obtain ⟨q1, hq1, h⟩ := ob_t h
      refine res_i C w (run_V (As := []) (rest := [.int x2]) C w hl.1 (srecv C w 3 (by decide)) (c_J0_length_8abf5_S3 l D ca _  _ q1 hq1) rfl rfl wl_254 wl_255 wl_256 wl_257 wl_258 hd_J0_length_8abf5 rfl ⟨Nat.le_of_ble_eq_true rfl, Nat.le_of_ble_eq_true rfl⟩ rfl (Nat.le_of_ble_eq_true rfl) dX9_spells_22) (fun H locs w => ?_)
      refine lv_icmp_ge (tgt := 55) hx hb dX9_spells_25 (by decide) (fun c1 => ?_) (fun c1 => ?_)
      · have h := it_t h c1
        refine lv_iconst (v := 1) hx hb dX9_spells_55 (by decide) ?_
        rw [hQ]
        exact rZ (F := CW ca ad) C w (by decide) h dX9_spells_56
      · have h := it_f h c1
        refine lv_aload_n hx hb dX9_spells_28 rfl (lv_at hl 0 rfl) ?_
        refine gC41_0 C w wl_88 dX9_spells_29 ?_
        refine lv_aload_n hx hb dX9_spells_32 rfl (lv_at hl 0 rfl) ?_
        refine gC41_4 (v := (σ.1 4104)) C w rfl wl_230 dX9_spells_33 ?_
        refine lv_iload_n hx hb dX9_spells_36 rfl (lv_at hl 2 rfl) ?_
        refine lv_iadd hx hb dX9_spells_37 ?_
        obtain ⟨i2, h⟩ := ck_t h
        refine ldC42 (v := (σ.2.2 42 (((σ.1 4104) + x2)).toNatClampNeg)) C w i2 rfl dX9_spells_38 ?_
        refine lv_aload_n hx hb dX9_spells_39 rfl (lv_at hl 1 rfl) ?_
        refine lv_iload_n hx hb dX9_spells_40 rfl (lv_at hl 2 rfl) ?_
        obtain ⟨q2, hq2, h⟩ := ob_t h
        refine res_i C w (run_V (As := [.int x2]) (rest := [.int (σ.2.2 42 (((σ.1 4104) + x2)).toNatClampNeg)]) C w hl.1 (srecv C w 3 (by decide)) (c_J0_charAt_5068e_S3 l D ca _ x2 _ q2 hq2) rfl rfl wl_266 wl_267 wl_268 wl_257 wl_269 hd_J0_charAt_5068e rfl ⟨Nat.le_of_ble_eq_true rfl, Nat.le_of_ble_eq_true rfl⟩ rfl (Nat.le_of_ble_eq_true rfl) dX9_spells_41) (fun H locs w => ?_)
        refine lv_icmp_eq (tgt := 49) hx hb dX9_spells_44 (by decide) (fun c3 => ?_) (fun c3 => ?_)
        · have h := it_t h c3
          refine lv_iinc (v := (x2 + (1 : Int32))) (lv' := [(2, .int (x2 + (1 : Int32))), (0, .ref (ad 41)), (1, .ref (ca 13))]) hx hb dX9_spells_49 hl (k := 2) rfl rfl (by decide) rfl (fun ls hl => ?_)
          refine lv_goto (tgt := 20) hx hb dX9_spells_52 (by decide) ?_
          exact ih20 _ _ h _ _ _ w (lv_sub hl [1, 2, 0] rfl)
        · have h := it_f h c3
          refine lv_iconst (v := 0) hx hb dX9_spells_47 (by decide) ?_
          rw [hQ]
          exact rZ (F := CW ca ad) C w (by decide) h dX9_spells_48
  have h := hf
  unfold f_X9_spells_S3 at h
  refine lv_aload_n hx hb dX9_spells_0 rfl (lv_at hl 0 rfl) ?_
  refine gC41_3 (v := (σ.1 4103)) C w rfl wl_227 dX9_spells_1 ?_
  refine lv_aload_n hx hb dX9_spells_4 rfl (lv_at hl 0 rfl) ?_
  refine gC41_4 (v := (σ.1 4104)) C w rfl wl_230 dX9_spells_5 ?_
  refine lv_isub hx hb dX9_spells_8 ?_
  refine lv_aload_n hx hb dX9_spells_9 rfl (lv_at hl 1 rfl) ?_
  obtain ⟨q1, hq1, h⟩ := ob_t h
  refine res_i C w (run_V (As := []) (rest := [.int ((σ.1 4103) - (σ.1 4104))]) C w hl.1 (srecv C w 3 (by decide)) (c_J0_length_8abf5_S3 l D ca _  _ q1 hq1) rfl rfl wl_254 wl_255 wl_256 wl_257 wl_258 hd_J0_length_8abf5 rfl ⟨Nat.le_of_ble_eq_true rfl, Nat.le_of_ble_eq_true rfl⟩ rfl (Nat.le_of_ble_eq_true rfl) dX9_spells_10) (fun H locs w => ?_)
  refine lv_icmp_eq (tgt := 18) hx hb dX9_spells_13 (by decide) (fun c1 => ?_) (fun c1 => ?_)
  · have h := it_t h c1
    refine lv_iconst (v := 0) hx hb dX9_spells_18 (by decide) ?_
    refine lv_istore_n (lv' := [(2, .int (0 : Int32)), (0, .ref (ad 41)), (1, .ref (ca 13))]) hx hb dX9_spells_19 rfl hl (by decide) rfl (fun ls hl => ?_)
    exact L20 FU _ _ h _ _ _ w (lv_sub hl [1, 2, 0] rfl)
  · have h := it_f h c1
    refine lv_iconst (v := 0) hx hb dX9_spells_16 (by decide) ?_
    rw [hQ]
    exact rZ (F := CW ca ad) C w (by decide) h dX9_spells_17
theorem hd_X9_takesItem : yX9_takesItem.cls = RX9 ∧ yX9_takesItem.cls ≠ "java/lang/invoke/MethodHandle" ∧ yX9_takesItem.cls ≠ "java/lang/invoke/VarHandle" ∧ (parseMethodDescriptor yX9_takesItem.desc).map (fun d => d.parameters.length) = some 0 := by decide +kernel
def f_X9_takesItem_b130 (σ : St) (x1 : Int32) : Option (Int32 × St) := if x1 = 0 then (some ((0 : Int32), σ)) else ((f_X9_takesSemicolon σ).bind fun q1 => if q1.1 = 0 then (some ((0 : Int32), q1.2)) else (some ((1 : Int32), q1.2)))
def f_X9_takesItem_b38 (σ : St) (y0 : Int32) : Option (Int32 × St) := f_X9_takesItem_b130 σ y0
def f_X9_takesItem_b37 (σ : St) : Option (Int32 × St) := f_X9_takesItem_b38 σ (0 : Int32)
def f_X9_takesItem_b87 (σ : St) (y0 : Int32) : Option (Int32 × St) := f_X9_takesItem_b130 σ y0
def f_X9_takesItem_b86 (σ : St) : Option (Int32 × St) := f_X9_takesItem_b87 σ (0 : Int32)
def f_X9_takesItem_b129 (σ : St) (y0 : Int32) : Option (Int32 × St) := f_X9_takesItem_b130 σ y0
def f_X9_takesItem_b128 (σ : St) : Option (Int32 × St) := f_X9_takesItem_b129 σ (0 : Int32)
def f_X9_takesItem (σ : St) : Option (Int32 × St) := if (σ.1 4105) = (1 : Int32) then ((f_X9_spells_S0 σ).bind fun q1 => if q1.1 = 0 then (if (q1.2.1 4107) = 0 then (f_X9_takesItem_b130 q1.2 (0 : Int32)) else ((f_X9_spells_S1 q1.2).bind fun q2 => if q2.1 = 0 then ((f_X9_spells_S2 q2.2).bind fun q3 => if q3.1 = 0 then ((f_X9_spells_S3 q3.2).bind fun q4 => if q4.1 = 0 then (f_X9_takesItem_b128 q4.2) else ((f_X9_takesFelled q4.2).bind fun q5 => if q5.1 = 0 then (f_X9_takesItem_b128 q5.2) else (f_X9_takesItem_b129 q5.2 (1 : Int32)))) else ((f_X9_takesTouch q3.2).bind fun q6 => f_X9_takesItem_b130 q6.2 q6.1)) else (if (7 : Int32) ≤ (q2.2.1 806) then (f_X9_takesItem_b86 q2.2) else ((f_X9_takesTree q2.2).bind fun q7 => if q7.1 = 0 then (f_X9_takesItem_b86 q7.2) else (f_X9_takesItem_b87 q7.2 (1 : Int32)))))) else (if (q1.2.1 4107) = 0 then ((f_X9_takesWood q1.2).bind fun q8 => if q8.1 = 0 then (f_X9_takesItem_b37 q8.2) else (f_X9_takesItem_b38 q8.2 (1 : Int32))) else (f_X9_takesItem_b37 q1.2))) else (some ((0 : Int32), σ))
abbrev rm_X9_takesItem : Room := { frames := 5, cells := 0, slots := 0, locals := 300 }
set_option maxHeartbeats 4000000 in
set_option maxRecDepth 100000 in
theorem c_X9_takesItem (l : Launch) (D : va_G) (ca : Nat → ClassId) (ad : Nat → Nat) (σ : St)  (sz : Nat) (out : Int32 × St) (hf : f_X9_takesItem σ  = some out) : Met l yX9_takesItem (.code yX9_takesItem cX9_takesItem 2 (some .boolean) :: WL) rm_X9_takesItem (PreC D ca (CW ca ad σ) sz [.ref (ad 41)]) (PostI D (va_A (CW ca ad σ) sz) (CW ca ad out.2) out.1) 0 0 (va_A (CW ca ad σ) sz) := by
  refine Met.ofW (cc := cX9_takesItem) (maxL := 2) (ret := (some .boolean)) (by decide) rfl ?_
  intro p e s m args below meth c s₁ B hml hv
  obtain ⟨rfl, hsz, hP, hK, hD, hN⟩ := hv
  subst hsz
  have C := Cx.mk (own := RX9) B hml rfl hK hN (ws := (CW ca ad σ))
  have w : Wd (va_A (CW ca ad σ) s.heap.size) s D (CW ca ad σ) s.heap [] := ⟨hP, hD.self, va_S.rf⟩
  have hl := lv_entry ([.ref (ad 41)]) (n := 2) (Nat.le_of_ble_eq_true rfl)
  rw [lg_entry_eq]
  generalize (lg_sl ([.ref (ad 41)]) ++ List.replicate (2 - (lg_sl ([.ref (ad 41)])).length) Slot.unset).toArray = ls at hl ⊢
  have hl : lv_has ls 2 [(0, .ref (ad 41))] := hl
  change W p l e rm_X9_takesItem s m _ below meth c _ [] 0 0 _ _
  clear B hP hD hK hN hml
  generalize va_A (CW ca ad σ) s.heap.size = A at C w ⊢
  generalize ([.ref (ad 41)] : List Value).toArray = av at C ⊢
  obtain ⟨Q, hQ⟩ : ∃ Q, Q = MQ below (PostI D A (CW ca ad out.2) out.1) av s 0 0 A := ⟨_, rfl⟩
  rw [← hQ]
  have hx := C.1
  have hb := C.2.1
  have b130 : ∀ (σ : St) (x1 : Int32), f_X9_takesItem_b130 σ x1 = some out → Bk p l e rm_X9_takesItem s m av below meth c A D 2 Q (CW ca ad σ) 130 [(0, .ref (ad 41)), (1, .int x1)] [] := by
    intro σ x1 h H locs ls w hl
    unfold f_X9_takesItem_b130 at h
    refine lv_iload_n hx hb dX9_takesItem_130 rfl (lv_at hl 1 rfl) ?_
    refine lv_if_eq (tgt := 145) hx hb dX9_takesItem_131 (by decide) (fun c1 => ?_) (fun c1 => ?_)
    · have h := it_t h c1
      refine lv_iconst (v := 0) hx hb dX9_takesItem_145 (by decide) ?_
      rw [hQ]
      exact rZ (F := CW ca ad) C w (by decide) h dX9_takesItem_146
    · have h := it_f h c1
      refine lv_aload_n hx hb dX9_takesItem_134 rfl (lv_at hl 0 rfl) ?_
      obtain ⟨q1, hq1, h⟩ := ob_t h
      refine res_i C w (run_V (As := []) (rest := []) C w hl.1 (recvC41 C w) (c_X9_takesSemicolon l D ca ad _  _ q1 hq1) rfl rfl wl_329 wl_330 wl_331 wl_47 wl_332 hd_X9_takesSemicolon rfl ⟨Nat.le_of_ble_eq_true rfl, Nat.le_of_ble_eq_true rfl⟩ rfl (Nat.le_of_ble_eq_true rfl) dX9_takesItem_135) (fun H locs w => ?_)
      refine lv_if_eq (tgt := 145) hx hb dX9_takesItem_138 (by decide) (fun c2 => ?_) (fun c2 => ?_)
      · have h := it_t h c2
        refine lv_iconst (v := 0) hx hb dX9_takesItem_145 (by decide) ?_
        rw [hQ]
        exact rZ (F := CW ca ad) C w (by decide) h dX9_takesItem_146
      · have h := it_f h c2
        refine lv_iconst (v := 1) hx hb dX9_takesItem_141 (by decide) ?_
        refine lv_goto (tgt := 146) hx hb dX9_takesItem_142 (by decide) ?_
        rw [hQ]
        exact rZ (F := CW ca ad) C w (by decide) h dX9_takesItem_146
  have b38 : ∀ (σ : St) (y0 : Int32), f_X9_takesItem_b38 σ y0 = some out → Bk p l e rm_X9_takesItem s m av below meth c A D 2 Q (CW ca ad σ) 38 [(0, .ref (ad 41))] [.int y0] := by
    intro σ y0 h H locs ls w hl
    unfold f_X9_takesItem_b38 at h
    refine lv_istore_n (lv' := [(1, .int y0), (0, .ref (ad 41))]) hx hb dX9_takesItem_38 rfl hl (by decide) rfl (fun ls hl => ?_)
    refine lv_goto (tgt := 130) hx hb dX9_takesItem_39 (by decide) ?_
    exact b130 _ _ h _ _ _ w (lv_sub hl [1, 0] rfl)
  have b37 : ∀ (σ : St), f_X9_takesItem_b37 σ = some out → Bk p l e rm_X9_takesItem s m av below meth c A D 2 Q (CW ca ad σ) 37 [(0, .ref (ad 41))] [] := by
    intro σ h H locs ls w hl
    unfold f_X9_takesItem_b37 at h
    refine lv_iconst (v := 0) hx hb dX9_takesItem_37 (by decide) ?_
    exact b38 _ _ h _ _ _ w (lv_sub hl [0] rfl)
  have b87 : ∀ (σ : St) (y0 : Int32), f_X9_takesItem_b87 σ y0 = some out → Bk p l e rm_X9_takesItem s m av below meth c A D 2 Q (CW ca ad σ) 87 [(0, .ref (ad 41))] [.int y0] := by
    intro σ y0 h H locs ls w hl
    unfold f_X9_takesItem_b87 at h
    refine lv_istore_n (lv' := [(1, .int y0), (0, .ref (ad 41))]) hx hb dX9_takesItem_87 rfl hl (by decide) rfl (fun ls hl => ?_)
    refine lv_goto (tgt := 130) hx hb dX9_takesItem_88 (by decide) ?_
    exact b130 _ _ h _ _ _ w (lv_sub hl [1, 0] rfl)
  have b86 : ∀ (σ : St), f_X9_takesItem_b86 σ = some out → Bk p l e rm_X9_takesItem s m av below meth c A D 2 Q (CW ca ad σ) 86 [(0, .ref (ad 41))] [] := by
    intro σ h H locs ls w hl
    unfold f_X9_takesItem_b86 at h
    refine lv_iconst (v := 0) hx hb dX9_takesItem_86 (by decide) ?_
    exact b87 _ _ h _ _ _ w (lv_sub hl [0] rfl)
  have b129 : ∀ (σ : St) (y0 : Int32), f_X9_takesItem_b129 σ y0 = some out → Bk p l e rm_X9_takesItem s m av below meth c A D 2 Q (CW ca ad σ) 129 [(0, .ref (ad 41))] [.int y0] := by
    intro σ y0 h H locs ls w hl
    unfold f_X9_takesItem_b129 at h
    refine lv_istore_n (lv' := [(1, .int y0), (0, .ref (ad 41))]) hx hb dX9_takesItem_129 rfl hl (by decide) rfl (fun ls hl => ?_)
    exact b130 _ _ h _ _ _ w (lv_sub hl [1, 0] rfl)
  have b128 : ∀ (σ : St), f_X9_takesItem_b128 σ = some out → Bk p l e rm_X9_takesItem s m av below meth c A D 2 Q (CW ca ad σ) 128 [(0, .ref (ad 41))] [] := by
    intro σ h H locs ls w hl
    unfold f_X9_takesItem_b128 at h
    refine lv_iconst (v := 0) hx hb dX9_takesItem_128 (by decide) ?_
    exact b129 _ _ h _ _ _ w (lv_sub hl [0] rfl)
  have h := hf
  unfold f_X9_takesItem at h
  refine lv_aload_n hx hb dX9_takesItem_0 rfl (lv_at hl 0 rfl) ?_
  refine gC41_5 (v := (σ.1 4105)) C w rfl wl_229 dX9_takesItem_1 ?_
  refine lv_iconst (v := 1) hx hb dX9_takesItem_4 (by decide) ?_
  refine lv_icmp_eq (tgt := 10) hx hb dX9_takesItem_5 (by decide) (fun c1 => ?_) (fun c1 => ?_)
  · have h := it_t h c1
    refine lv_aload_n hx hb dX9_takesItem_10 rfl (lv_at hl 0 rfl) ?_
    refine va_ldcS hx hb C.ow C.nx.1.2.1 dX9_takesItem_11 ?_
    obtain ⟨q1, hq1, h⟩ := ob_t h
    refine res_i C w (run_V (As := [.ref (ca 10)]) (rest := []) C w hl.1 (recvC41 C w) (c_X9_spells_S0 l D ca ad _  _ q1 hq1) rfl rfl wl_250 wl_251 wl_252 wl_47 wl_253 hd_X9_spells rfl ⟨Nat.le_of_ble_eq_true rfl, Nat.le_of_ble_eq_true rfl⟩ rfl (Nat.le_of_ble_eq_true rfl) dX9_takesItem_13) (fun H locs w => ?_)
    refine lv_if_eq (tgt := 42) hx hb dX9_takesItem_16 (by decide) (fun c2 => ?_) (fun c2 => ?_)
    · have h := it_t h c2
      refine lv_aload_n hx hb dX9_takesItem_42 rfl (lv_at hl 0 rfl) ?_
      refine gC41_7 (v := (q1.2.1 4107)) C w rfl wl_228 dX9_takesItem_43 ?_
      refine lv_if_ne (tgt := 54) hx hb dX9_takesItem_46 (by decide) (fun c3 => ?_) (fun c3 => ?_)
      · have h := it_f h c3
        refine lv_aload_n hx hb dX9_takesItem_54 rfl (lv_at hl 0 rfl) ?_
        refine va_ldcS hx hb C.ow C.nx.1.2.2.1 dX9_takesItem_55 ?_
        obtain ⟨q2, hq2, h⟩ := ob_t h
        refine res_i C w (run_V (As := [.ref (ca 11)]) (rest := []) C w hl.1 (recvC41 C w) (c_X9_spells_S1 l D ca ad _  _ q2 hq2) rfl rfl wl_250 wl_251 wl_252 wl_47 wl_253 hd_X9_spells rfl ⟨Nat.le_of_ble_eq_true rfl, Nat.le_of_ble_eq_true rfl⟩ rfl (Nat.le_of_ble_eq_true rfl) dX9_takesItem_57) (fun H locs w => ?_)
        refine lv_if_eq (tgt := 91) hx hb dX9_takesItem_60 (by decide) (fun c4 => ?_) (fun c4 => ?_)
        · have h := it_t h c4
          refine lv_aload_n hx hb dX9_takesItem_91 rfl (lv_at hl 0 rfl) ?_
          refine va_ldcS hx hb C.ow C.nx.1.2.2.2.1 dX9_takesItem_92 ?_
          obtain ⟨q3, hq3, h⟩ := ob_t h
          refine res_i C w (run_V (As := [.ref (ca 12)]) (rest := []) C w hl.1 (recvC41 C w) (c_X9_spells_S2 l D ca ad _  _ q3 hq3) rfl rfl wl_250 wl_251 wl_252 wl_47 wl_253 hd_X9_spells rfl ⟨Nat.le_of_ble_eq_true rfl, Nat.le_of_ble_eq_true rfl⟩ rfl (Nat.le_of_ble_eq_true rfl) dX9_takesItem_94) (fun H locs w => ?_)
          refine lv_if_eq (tgt := 108) hx hb dX9_takesItem_97 (by decide) (fun c5 => ?_) (fun c5 => ?_)
          · have h := it_t h c5
            refine lv_aload_n hx hb dX9_takesItem_108 rfl (lv_at hl 0 rfl) ?_
            refine va_ldcS hx hb C.ow C.nx.1.2.2.2.2 dX9_takesItem_109 ?_
            obtain ⟨q4, hq4, h⟩ := ob_t h
            refine res_i C w (run_V (As := [.ref (ca 13)]) (rest := []) C w hl.1 (recvC41 C w) (c_X9_spells_S3 l D ca ad _  _ q4 hq4) rfl rfl wl_250 wl_251 wl_252 wl_47 wl_253 hd_X9_spells rfl ⟨Nat.le_of_ble_eq_true rfl, Nat.le_of_ble_eq_true rfl⟩ rfl (Nat.le_of_ble_eq_true rfl) dX9_takesItem_111) (fun H locs w => ?_)
            refine lv_if_eq (tgt := 128) hx hb dX9_takesItem_114 (by decide) (fun c6 => ?_) (fun c6 => ?_)
            · have h := it_t h c6
              exact b128 _ h _ _ _ w (lv_sub hl [0] rfl)
            · have h := it_f h c6
              refine lv_aload_n hx hb dX9_takesItem_117 rfl (lv_at hl 0 rfl) ?_
              obtain ⟨q5, hq5, h⟩ := ob_t h
              refine res_i C w (run_V (As := []) (rest := []) C w hl.1 (recvC41 C w) (c_X9_takesFelled l D ca ad _  _ q5 hq5) rfl rfl wl_321 wl_322 wl_323 wl_47 wl_324 hd_X9_takesFelled rfl ⟨Nat.le_of_ble_eq_true rfl, Nat.le_of_ble_eq_true rfl⟩ rfl (Nat.le_of_ble_eq_true rfl) dX9_takesItem_118) (fun H locs w => ?_)
              refine lv_if_eq (tgt := 128) hx hb dX9_takesItem_121 (by decide) (fun c7 => ?_) (fun c7 => ?_)
              · have h := it_t h c7
                exact b128 _ h _ _ _ w (lv_sub hl [0] rfl)
              · have h := it_f h c7
                refine lv_iconst (v := 1) hx hb dX9_takesItem_124 (by decide) ?_
                refine lv_goto (tgt := 129) hx hb dX9_takesItem_125 (by decide) ?_
                exact b129 _ _ h _ _ _ w (lv_sub hl [0] rfl)
          · have h := it_f h c5
            refine lv_aload_n hx hb dX9_takesItem_100 rfl (lv_at hl 0 rfl) ?_
            obtain ⟨q6, hq6, h⟩ := ob_t h
            refine res_i C w (run_V (As := []) (rest := []) C w hl.1 (recvC41 C w) (c_X9_takesTouch l D ca ad _  _ q6 hq6) rfl rfl wl_316 wl_317 wl_318 wl_47 wl_319 hd_X9_takesTouch rfl ⟨Nat.le_of_ble_eq_true rfl, Nat.le_of_ble_eq_true rfl⟩ rfl (Nat.le_of_ble_eq_true rfl) dX9_takesItem_101) (fun H locs w => ?_)
            refine lv_istore_n (lv' := [(1, .int q6.1), (0, .ref (ad 41))]) hx hb dX9_takesItem_104 rfl hl (by decide) rfl (fun ls hl => ?_)
            refine lv_goto (tgt := 130) hx hb dX9_takesItem_105 (by decide) ?_
            exact b130 _ _ h _ _ _ w (lv_sub hl [1, 0] rfl)
        · have h := it_f h c4
          refine lv_aload_n hx hb dX9_takesItem_63 rfl (lv_at hl 0 rfl) ?_
          refine gC41_1 C w wl_89 dX9_takesItem_64 ?_
          refine gC8_6 (v := (q2.2.1 806)) C w rfl wl_249 dX9_takesItem_67 ?_
          refine lv_bipush (v := 7) hx hb dX9_takesItem_70 (by decide) ?_
          refine lv_icmp_ge (tgt := 86) hx hb dX9_takesItem_72 (by decide) (fun c8 => ?_) (fun c8 => ?_)
          · have h := it_t h c8
            exact b86 _ h _ _ _ w (lv_sub hl [0] rfl)
          · have h := it_f h c8
            refine lv_aload_n hx hb dX9_takesItem_75 rfl (lv_at hl 0 rfl) ?_
            obtain ⟨q7, hq7, h⟩ := ob_t h
            refine res_i C w (run_V (As := []) (rest := []) C w hl.1 (recvC41 C w) (c_X9_takesTree l D ca ad _  _ q7 hq7) rfl rfl wl_311 wl_312 wl_313 wl_47 wl_314 hd_X9_takesTree rfl ⟨Nat.le_of_ble_eq_true rfl, Nat.le_of_ble_eq_true rfl⟩ rfl (Nat.le_of_ble_eq_true rfl) dX9_takesItem_76) (fun H locs w => ?_)
            refine lv_if_eq (tgt := 86) hx hb dX9_takesItem_79 (by decide) (fun c9 => ?_) (fun c9 => ?_)
            · have h := it_t h c9
              exact b86 _ h _ _ _ w (lv_sub hl [0] rfl)
            · have h := it_f h c9
              refine lv_iconst (v := 1) hx hb dX9_takesItem_82 (by decide) ?_
              refine lv_goto (tgt := 87) hx hb dX9_takesItem_83 (by decide) ?_
              exact b87 _ _ h _ _ _ w (lv_sub hl [0] rfl)
      · have h := it_t h c3
        refine lv_iconst (v := 0) hx hb dX9_takesItem_49 (by decide) ?_
        refine lv_istore_n (lv' := [(1, .int (0 : Int32)), (0, .ref (ad 41))]) hx hb dX9_takesItem_50 rfl hl (by decide) rfl (fun ls hl => ?_)
        refine lv_goto (tgt := 130) hx hb dX9_takesItem_51 (by decide) ?_
        exact b130 _ _ h _ _ _ w (lv_sub hl [1, 0] rfl)
    · have h := it_f h c2
      refine lv_aload_n hx hb dX9_takesItem_19 rfl (lv_at hl 0 rfl) ?_
      refine gC41_7 (v := (q1.2.1 4107)) C w rfl wl_228 dX9_takesItem_20 ?_
      refine lv_if_ne (tgt := 37) hx hb dX9_takesItem_23 (by decide) (fun c10 => ?_) (fun c10 => ?_)
      · have h := it_f h c10
        exact b37 _ h _ _ _ w (lv_sub hl [0] rfl)
      · have h := it_t h c10
        refine lv_aload_n hx hb dX9_takesItem_26 rfl (lv_at hl 0 rfl) ?_
        obtain ⟨q8, hq8, h⟩ := ob_t h
        refine res_i C w (run_V (As := []) (rest := []) C w hl.1 (recvC41 C w) (c_X9_takesWood l D ca ad _  _ q8 hq8) rfl rfl wl_303 wl_304 wl_305 wl_47 wl_306 hd_X9_takesWood rfl ⟨Nat.le_of_ble_eq_true rfl, Nat.le_of_ble_eq_true rfl⟩ rfl (Nat.le_of_ble_eq_true rfl) dX9_takesItem_27) (fun H locs w => ?_)
        refine lv_if_eq (tgt := 37) hx hb dX9_takesItem_30 (by decide) (fun c11 => ?_) (fun c11 => ?_)
        · have h := it_t h c11
          exact b37 _ h _ _ _ w (lv_sub hl [0] rfl)
        · have h := it_f h c11
          refine lv_iconst (v := 1) hx hb dX9_takesItem_33 (by decide) ?_
          refine lv_goto (tgt := 38) hx hb dX9_takesItem_34 (by decide) ?_
          exact b38 _ _ h _ _ _ w (lv_sub hl [0] rfl)
  · have h := it_f h c1
    refine lv_iconst (v := 0) hx hb dX9_takesItem_8 (by decide) ?_
    rw [hQ]
    exact rZ (F := CW ca ad) C w (by decide) h dX9_takesItem_9
theorem hd_X9_readAll : yX9_readAll.cls = RX9 ∧ yX9_readAll.cls ≠ "java/lang/invoke/MethodHandle" ∧ yX9_readAll.cls ≠ "java/lang/invoke/VarHandle" ∧ (parseMethodDescriptor yX9_readAll.desc).map (fun d => d.parameters.length) = some 1 := by decide +kernel
def f_X9_readAll_b90 (σ : St) : Option (Int32 × St) := some (((-10 : Int32) - (σ.1 4104)), σ)
def f_X9_readAll_b64 (K33 : St → Int32 → Option (Int32 × St)) (σ : St) (x2 : Int32) : Option (Int32 × St) := (f_X9_takesItem σ).bind fun q1 => if q1.1 = 0 then (f_X9_readAll_b90 q1.2) else (K33 (sI q1.2 4107 ((q1.2.1 4107) + (1 : Int32))) (x2 + (1 : Int32)))
def f_X9_readAll_b33 (K33 : St → Int32 → Option (Int32 × St)) (σ : St) (x2 : Int32) : Option (Int32 × St) := if (σ.1 4102) < x2 then (f_X9_readAll_b90 σ) else ((f_X9_advance σ).bind fun q1 => if (q1.1 4105) = 0 then (if (q1.1 4107) ≤ 0 then (f_X9_readAll_b64 K33 q1 x2) else (some ((q1.1 4107), q1))) else (f_X9_readAll_b64 K33 q1 x2))
def f_X9_readAll_L33 : Nat → St → Int32 → Option (Int32 × St)
  | 0 => fun _ _ => none
  | n + 1 => f_X9_readAll_b33 (f_X9_readAll_L33 n)
def f_X9_readAll (σ : St) (x1 : Int32) : Option (Int32 × St) := (f_X2_startAt_8 (sI (sI (sI σ 4102 (if (150 : Int32) < x1 then (150 : Int32) else x1)) 4103 (0 : Int32)) 4107 (0 : Int32)) (0 : Int32)).bind fun q1 => f_X9_readAll_L33 FU q1 (0 : Int32)
abbrev rm_X9_readAll : Room := { frames := 6, cells := 0, slots := 0, locals := 360 }
set_option maxHeartbeats 4000000 in
set_option maxRecDepth 100000 in
theorem c_X9_readAll (l : Launch) (D : va_G) (ca : Nat → ClassId) (ad : Nat → Nat) (σ : St) (x1 : Int32) (sz : Nat) (out : Int32 × St) (hf : f_X9_readAll σ x1 = some out) : Met l yX9_readAll (.code yX9_readAll cX9_readAll 3 (some .int) :: WL) rm_X9_readAll (PreC D ca (CW ca ad σ) sz [.ref (ad 41), .int x1]) (PostI D (va_A (CW ca ad σ) sz) (CW ca ad out.2) out.1) 0 0 (va_A (CW ca ad σ) sz) := by
  refine Met.ofW (cc := cX9_readAll) (maxL := 3) (ret := (some .int)) (by decide) rfl ?_
  intro p e s m args below meth c s₁ B hml hv
  obtain ⟨rfl, hsz, hP, hK, hD, hN⟩ := hv
  subst hsz
  have C := Cx.mk (own := RX9) B hml rfl hK hN (ws := (CW ca ad σ))
  have w : Wd (va_A (CW ca ad σ) s.heap.size) s D (CW ca ad σ) s.heap [] := ⟨hP, hD.self, va_S.rf⟩
  have hl := lv_entry ([.ref (ad 41), .int x1]) (n := 3) (Nat.le_of_ble_eq_true rfl)
  rw [lg_entry_eq]
  generalize (lg_sl ([.ref (ad 41), .int x1]) ++ List.replicate (3 - (lg_sl ([.ref (ad 41), .int x1])).length) Slot.unset).toArray = ls at hl ⊢
  have hl : lv_has ls 3 [(0, .ref (ad 41)), (1, .int x1)] := hl
  change W p l e rm_X9_readAll s m _ below meth c _ [] 0 0 _ _
  clear B hP hD hK hN hml
  generalize va_A (CW ca ad σ) s.heap.size = A at C w ⊢
  generalize ([.ref (ad 41), .int x1] : List Value).toArray = av at C ⊢
  obtain ⟨Q, hQ⟩ : ∃ Q, Q = MQ below (PostI D A (CW ca ad out.2) out.1) av s 0 0 A := ⟨_, rfl⟩
  rw [← hQ]
  have hx := C.1
  have hb := C.2.1
  have b90 : ∀ (σ : St), f_X9_readAll_b90 σ = some out → Bk p l e rm_X9_readAll s m av below meth c A D 3 Q (CW ca ad σ) 90 [(0, .ref (ad 41))] [] := by
    intro σ h H locs ls w hl
    unfold f_X9_readAll_b90 at h
    refine lv_bipush (v := -10) hx hb dX9_readAll_90 (by decide) ?_
    refine lv_aload_n hx hb dX9_readAll_92 rfl (lv_at hl 0 rfl) ?_
    refine gC41_4 (v := (σ.1 4104)) C w rfl wl_230 dX9_readAll_93 ?_
    refine lv_isub hx hb dX9_readAll_96 ?_
    rw [hQ]
    exact rI (F := CW ca ad) C w h dX9_readAll_97
  have L33 : ∀ (n33 : Nat) (σ : St) (x2 : Int32), f_X9_readAll_L33 n33 σ x2 = some out → Bk p l e rm_X9_readAll s m av below meth c A D 3 Q (CW ca ad σ) 33 [(0, .ref (ad 41)), (2, .int x2)] [] := by
    intro n33
    induction n33 with
    | zero => intro σ x2 h; exact absurd h (by simp [f_X9_readAll_L33])
    | succ n33 ih33 =>
      have b64 : ∀ (σ : St) (x2 : Int32), f_X9_readAll_b64 (f_X9_readAll_L33 n33) σ x2 = some out → Bk p l e rm_X9_readAll s m av below meth c A D 3 Q (CW ca ad σ) 64 [(0, .ref (ad 41)), (2, .int x2)] [] := by
        intro σ x2 h H locs ls w hl
        unfold f_X9_readAll_b64 at h
        refine lv_aload_n hx hb dX9_readAll_64 rfl (lv_at hl 0 rfl) ?_
        obtain ⟨q1, hq1, h⟩ := ob_t h
        refine res_i C w (run_V (As := []) (rest := []) C w hl.1 (recvC41 C w) (c_X9_takesItem l D ca ad _  _ q1 hq1) rfl rfl wl_245 wl_246 wl_247 wl_47 wl_248 hd_X9_takesItem rfl ⟨Nat.le_of_ble_eq_true rfl, Nat.le_of_ble_eq_true rfl⟩ rfl (Nat.le_of_ble_eq_true rfl) dX9_readAll_65) (fun H locs w => ?_)
        refine lv_if_ne (tgt := 74) hx hb dX9_readAll_68 (by decide) (fun c1 => ?_) (fun c1 => ?_)
        · have h := it_f h c1
          refine lv_aload_n hx hb dX9_readAll_74 rfl (lv_at hl 0 rfl) ?_
          refine lv_dup hx hb dX9_readAll_75 rfl ?_
          refine gC41_7 (v := (q1.2.1 4107)) C w rfl wl_228 dX9_readAll_76 ?_
          refine lv_iconst (v := 1) hx hb dX9_readAll_79 (by decide) ?_
          refine lv_iadd hx hb dX9_readAll_80 ?_
          refine pC41_7 C w wl_228 dX9_readAll_81 (fun H locs w => ?_)
          refine lv_iinc (v := (x2 + (1 : Int32))) (lv' := [(2, .int (x2 + (1 : Int32))), (0, .ref (ad 41))]) hx hb dX9_readAll_84 hl (k := 1) rfl rfl (by decide) rfl (fun ls hl => ?_)
          refine lv_goto (tgt := 33) hx hb dX9_readAll_87 (by decide) ?_
          exact ih33 _ _ h _ _ _ w (lv_sub hl [1, 0] rfl)
        · have h := it_t h c1
          refine lv_goto (tgt := 90) hx hb dX9_readAll_71 (by decide) ?_
          exact b90 _ h _ _ _ w (lv_sub hl [0] rfl)
      intro σ x2 h H locs ls w hl
      change f_X9_readAll_b33 (f_X9_readAll_L33 n33) σ x2 = some out at h
      unfold f_X9_readAll_b33 at h
      refine lv_iload_n hx hb dX9_readAll_33 rfl (lv_at hl 1 rfl) ?_
      refine lv_aload_n hx hb dX9_readAll_34 rfl (lv_at hl 0 rfl) ?_
      refine gC41_2 (v := (σ.1 4102)) C w rfl wl_226 dX9_readAll_35 ?_
      refine lv_icmp_gt (tgt := 90) hx hb dX9_readAll_38 (by decide) (fun c1 => ?_) (fun c1 => ?_)
      · have h := it_t h c1
        exact b90 _ h _ _ _ w (lv_sub hl [0] rfl)
      · have h := it_f h c1
        refine lv_aload_n hx hb dX9_readAll_41 rfl (lv_at hl 0 rfl) ?_
        obtain ⟨q1, hq1, h⟩ := ob_t h
        refine res_v C w (run_V (As := []) (rest := []) C w hl.1 (recvC41 C w) (c_X9_advance l D ca ad _  _ q1 hq1) rfl rfl wl_232 wl_233 wl_234 wl_47 wl_235 hd_X9_advance rfl ⟨Nat.le_of_ble_eq_true rfl, Nat.le_of_ble_eq_true rfl⟩ rfl (Nat.le_of_ble_eq_true rfl) dX9_readAll_42) (fun H locs w => ?_)
        refine lv_aload_n hx hb dX9_readAll_45 rfl (lv_at hl 0 rfl) ?_
        refine gC41_5 (v := (q1.1 4105)) C w rfl wl_229 dX9_readAll_46 ?_
        refine lv_if_ne (tgt := 64) hx hb dX9_readAll_49 (by decide) (fun c2 => ?_) (fun c2 => ?_)
        · have h := it_f h c2
          exact b64 _ _ h _ _ _ w (lv_sub hl [0, 1] rfl)
        · have h := it_t h c2
          refine lv_aload_n hx hb dX9_readAll_52 rfl (lv_at hl 0 rfl) ?_
          refine gC41_7 (v := (q1.1 4107)) C w rfl wl_228 dX9_readAll_53 ?_
          refine lv_if_le (tgt := 64) hx hb dX9_readAll_56 (by decide) (fun c3 => ?_) (fun c3 => ?_)
          · have h := it_t h c3
            exact b64 _ _ h _ _ _ w (lv_sub hl [0, 1] rfl)
          · have h := it_f h c3
            refine lv_aload_n hx hb dX9_readAll_59 rfl (lv_at hl 0 rfl) ?_
            refine gC41_7 (v := (q1.1 4107)) C w rfl wl_228 dX9_readAll_60 ?_
            rw [hQ]
            exact rI (F := CW ca ad) C w h dX9_readAll_63
  have h := hf
  unfold f_X9_readAll at h
  refine lv_aload_n hx hb dX9_readAll_0 rfl (lv_at hl 0 rfl) ?_
  refine lv_iload_n hx hb dX9_readAll_1 rfl (lv_at hl 1 rfl) ?_
  refine lv_aload_n hx hb dX9_readAll_2 rfl (lv_at hl 0 rfl) ?_
  refine gC41_0 C w wl_88 dX9_readAll_3 ?_
  refine lnC42 C w dX9_readAll_6 ?_
  refine va_mmin hx hb (C.2.2.1.trans hl.1.symm) C.ow (C.ts _ wl_222) (C.ts _ wl_223) (C.ts _ wl_224) (C.ts _ wl_225) (Nat.le_of_ble_eq_true rfl) (Nat.le_of_ble_eq_true rfl) (Nat.le_refl 0) (Nat.le_refl 0) dX9_readAll_7 ?_
  refine pC41_2 C w wl_226 dX9_readAll_10 (fun H locs w => ?_)
  refine lv_aload_n hx hb dX9_readAll_13 rfl (lv_at hl 0 rfl) ?_
  refine lv_iconst (v := 0) hx hb dX9_readAll_14 (by decide) ?_
  refine pC41_3 C w wl_227 dX9_readAll_15 (fun H locs w => ?_)
  refine lv_aload_n hx hb dX9_readAll_18 rfl (lv_at hl 0 rfl) ?_
  refine lv_iconst (v := 0) hx hb dX9_readAll_19 (by decide) ?_
  refine pC41_7 C w wl_228 dX9_readAll_20 (fun H locs w => ?_)
  refine lv_aload_n hx hb dX9_readAll_23 rfl (lv_at hl 0 rfl) ?_
  refine gC41_1 C w wl_89 dX9_readAll_24 ?_
  refine lv_iconst (v := 0) hx hb dX9_readAll_27 (by decide) ?_
  obtain ⟨q1, hq1, h⟩ := ob_t h
  refine res_v C w (run_V (As := [.int (0 : Int32)]) (rest := []) C w hl.1 (recvC8 C w) (c_X2_startAt_8 l D ca ad _ (0 : Int32) _ q1 hq1) rfl rfl wl_231 wl_123 wl_124 wl_33 wl_125 hd_X2_startAt rfl ⟨Nat.le_of_ble_eq_true rfl, Nat.le_of_ble_eq_true rfl⟩ rfl (Nat.le_of_ble_eq_true rfl) dX9_readAll_28) (fun H locs w => ?_)
  refine lv_iconst (v := 0) hx hb dX9_readAll_31 (by decide) ?_
  refine lv_istore_n (lv' := [(2, .int (0 : Int32)), (0, .ref (ad 41)), (1, .int x1)]) hx hb dX9_readAll_32 rfl hl (by decide) rfl (fun ls hl => ?_)
  exact L33 FU _ _ h _ _ _ w (lv_sub hl [1, 0] rfl)
def f_X2_takeAll_1_8 (σ : St) : Option (St) := some (sI (sI (sI (sI (sI (sI (scp (scp (scp (scp (scp (scp σ 9 2 (0 : Int32) (0 : Int32) (7 : Int32)) 10 3 (0 : Int32) (0 : Int32) (7 : Int32)) 11 4 (0 : Int32) (0 : Int32) (30 : Int32)) 12 5 (0 : Int32) (0 : Int32) (18 : Int32)) 13 6 (0 : Int32) (0 : Int32) (8 : Int32)) 14 7 (0 : Int32) (0 : Int32) (8 : Int32)) 106 (σ.1 806)) 107 (σ.1 807)) 108 (σ.1 808)) 109 (σ.1 809)) 110 (σ.1 810)) 111 (σ.1 811))
abbrev rm_X2_takeAll_1_8 : Room := { frames := 1, cells := 0, slots := 0, locals := 60 }
set_option maxHeartbeats 4000000 in
set_option maxRecDepth 100000 in
theorem c_X2_takeAll_1_8 (l : Launch) (D : va_G) (ca : Nat → ClassId) (ad : Nat → Nat) (σ : St)  (sz : Nat) (out : St) (hf : f_X2_takeAll_1_8 σ  = some out) : Met l yX2_takeAll (.code yX2_takeAll cX2_takeAll 2 none :: WL) rm_X2_takeAll_1_8 (PreC D ca (CW ca ad σ) sz [.ref (ad 1), .ref (ad 8)]) (PostV D (va_A (CW ca ad σ) sz) (CW ca ad out)) 0 0 (va_A (CW ca ad σ) sz) := by
  refine Met.ofW (cc := cX2_takeAll) (maxL := 2) (ret := none) (by decide) rfl ?_
  intro p e s m args below meth c s₁ B hml hv
  obtain ⟨rfl, hsz, hP, hK, hD, hN⟩ := hv
  subst hsz
  have C := Cx.mk (own := RX2) B hml rfl hK hN (ws := (CW ca ad σ))
  have w : Wd (va_A (CW ca ad σ) s.heap.size) s D (CW ca ad σ) s.heap [] := ⟨hP, hD.self, va_S.rf⟩
  have hl := lv_entry ([.ref (ad 1), .ref (ad 8)]) (n := 2) (Nat.le_of_ble_eq_true rfl)
  rw [lg_entry_eq]
  generalize (lg_sl ([.ref (ad 1), .ref (ad 8)]) ++ List.replicate (2 - (lg_sl ([.ref (ad 1), .ref (ad 8)])).length) Slot.unset).toArray = ls at hl ⊢
  have hl : lv_has ls 2 [(0, .ref (ad 1)), (1, .ref (ad 8))] := hl
  change W p l e rm_X2_takeAll_1_8 s m _ below meth c _ [] 0 0 _ _
  clear B hP hD hK hN hml
  generalize va_A (CW ca ad σ) s.heap.size = A at C w ⊢
  generalize ([.ref (ad 1), .ref (ad 8)] : List Value).toArray = av at C ⊢
  obtain ⟨Q, hQ⟩ : ∃ Q, Q = MQ below (PostV D A (CW ca ad out)) av s 0 0 A := ⟨_, rfl⟩
  rw [← hQ]
  have hx := C.1
  have hb := C.2.1
  have h := hf
  unfold f_X2_takeAll_1_8 at h
  refine lv_aload_n hx hb dX2_takeAll_0 rfl (lv_at hl 1 rfl) ?_
  refine gC8_0 C w wl_70 dX2_takeAll_1 ?_
  refine lv_iconst (v := 0) hx hb dX2_takeAll_4 (by decide) ?_
  refine lv_aload_n hx hb dX2_takeAll_5 rfl (lv_at hl 0 rfl) ?_
  refine gC1_0 C w wl_70 dX2_takeAll_6 ?_
  refine lv_iconst (v := 0) hx hb dX2_takeAll_9 (by decide) ?_
  refine lv_bipush (v := 7) hx hb dX2_takeAll_10 (by decide) ?_
  refine cp9_2 C w hl.1 (by decide) (by decide) (by decide) (by decide) (by decide) wl_337 (Nat.le_of_ble_eq_true rfl) (Nat.le_of_ble_eq_true rfl) dX2_takeAll_12 (fun H locs w => ?_)
  refine lv_aload_n hx hb dX2_takeAll_15 rfl (lv_at hl 1 rfl) ?_
  refine gC8_1 C w wl_71 dX2_takeAll_16 ?_
  refine lv_iconst (v := 0) hx hb dX2_takeAll_19 (by decide) ?_
  refine lv_aload_n hx hb dX2_takeAll_20 rfl (lv_at hl 0 rfl) ?_
  refine gC1_1 C w wl_71 dX2_takeAll_21 ?_
  refine lv_iconst (v := 0) hx hb dX2_takeAll_24 (by decide) ?_
  refine lv_bipush (v := 7) hx hb dX2_takeAll_25 (by decide) ?_
  refine cp10_3 C w hl.1 (by decide) (by decide) (by decide) (by decide) (by decide) wl_337 (Nat.le_of_ble_eq_true rfl) (Nat.le_of_ble_eq_true rfl) dX2_takeAll_27 (fun H locs w => ?_)
  refine lv_aload_n hx hb dX2_takeAll_30 rfl (lv_at hl 1 rfl) ?_
  refine gC8_2 C w wl_72 dX2_takeAll_31 ?_
  refine lv_iconst (v := 0) hx hb dX2_takeAll_34 (by decide) ?_
  refine lv_aload_n hx hb dX2_takeAll_35 rfl (lv_at hl 0 rfl) ?_
  refine gC1_2 C w wl_72 dX2_takeAll_36 ?_
  refine lv_iconst (v := 0) hx hb dX2_takeAll_39 (by decide) ?_
  refine lv_bipush (v := 30) hx hb dX2_takeAll_40 (by decide) ?_
  refine cp11_4 C w hl.1 (by decide) (by decide) (by decide) (by decide) (by decide) wl_337 (Nat.le_of_ble_eq_true rfl) (Nat.le_of_ble_eq_true rfl) dX2_takeAll_42 (fun H locs w => ?_)
  refine lv_aload_n hx hb dX2_takeAll_45 rfl (lv_at hl 1 rfl) ?_
  refine gC8_3 C w wl_73 dX2_takeAll_46 ?_
  refine lv_iconst (v := 0) hx hb dX2_takeAll_49 (by decide) ?_
  refine lv_aload_n hx hb dX2_takeAll_50 rfl (lv_at hl 0 rfl) ?_
  refine gC1_3 C w wl_73 dX2_takeAll_51 ?_
  refine lv_iconst (v := 0) hx hb dX2_takeAll_54 (by decide) ?_
  refine lv_bipush (v := 18) hx hb dX2_takeAll_55 (by decide) ?_
  refine cp12_5 C w hl.1 (by decide) (by decide) (by decide) (by decide) (by decide) wl_337 (Nat.le_of_ble_eq_true rfl) (Nat.le_of_ble_eq_true rfl) dX2_takeAll_57 (fun H locs w => ?_)
  refine lv_aload_n hx hb dX2_takeAll_60 rfl (lv_at hl 1 rfl) ?_
  refine gC8_4 C w wl_74 dX2_takeAll_61 ?_
  refine lv_iconst (v := 0) hx hb dX2_takeAll_64 (by decide) ?_
  refine lv_aload_n hx hb dX2_takeAll_65 rfl (lv_at hl 0 rfl) ?_
  refine gC1_4 C w wl_74 dX2_takeAll_66 ?_
  refine lv_iconst (v := 0) hx hb dX2_takeAll_69 (by decide) ?_
  refine lv_bipush (v := 8) hx hb dX2_takeAll_70 (by decide) ?_
  refine cp13_6 C w hl.1 (by decide) (by decide) (by decide) (by decide) (by decide) wl_337 (Nat.le_of_ble_eq_true rfl) (Nat.le_of_ble_eq_true rfl) dX2_takeAll_72 (fun H locs w => ?_)
  refine lv_aload_n hx hb dX2_takeAll_75 rfl (lv_at hl 1 rfl) ?_
  refine gC8_5 C w wl_75 dX2_takeAll_76 ?_
  refine lv_iconst (v := 0) hx hb dX2_takeAll_79 (by decide) ?_
  refine lv_aload_n hx hb dX2_takeAll_80 rfl (lv_at hl 0 rfl) ?_
  refine gC1_5 C w wl_75 dX2_takeAll_81 ?_
  refine lv_iconst (v := 0) hx hb dX2_takeAll_84 (by decide) ?_
  refine lv_bipush (v := 8) hx hb dX2_takeAll_85 (by decide) ?_
  refine cp14_7 C w hl.1 (by decide) (by decide) (by decide) (by decide) (by decide) wl_337 (Nat.le_of_ble_eq_true rfl) (Nat.le_of_ble_eq_true rfl) dX2_takeAll_87 (fun H locs w => ?_)
  refine lv_aload_n hx hb dX2_takeAll_90 rfl (lv_at hl 0 rfl) ?_
  refine lv_aload_n hx hb dX2_takeAll_91 rfl (lv_at hl 1 rfl) ?_
  refine gC8_6 (v := (σ.1 806)) C w rfl wl_126 dX2_takeAll_92 ?_
  refine pC1_6 C w wl_126 dX2_takeAll_95 (fun H locs w => ?_)
  refine lv_aload_n hx hb dX2_takeAll_98 rfl (lv_at hl 0 rfl) ?_
  refine lv_aload_n hx hb dX2_takeAll_99 rfl (lv_at hl 1 rfl) ?_
  refine gC8_7 (v := (σ.1 807)) C w rfl wl_127 dX2_takeAll_100 ?_
  refine pC1_7 C w wl_127 dX2_takeAll_103 (fun H locs w => ?_)
  refine lv_aload_n hx hb dX2_takeAll_106 rfl (lv_at hl 0 rfl) ?_
  refine lv_aload_n hx hb dX2_takeAll_107 rfl (lv_at hl 1 rfl) ?_
  refine gC8_8 (v := (σ.1 808)) C w rfl wl_128 dX2_takeAll_108 ?_
  refine pC1_8 C w wl_128 dX2_takeAll_111 (fun H locs w => ?_)
  refine lv_aload_n hx hb dX2_takeAll_114 rfl (lv_at hl 0 rfl) ?_
  refine lv_aload_n hx hb dX2_takeAll_115 rfl (lv_at hl 1 rfl) ?_
  refine gC8_9 (v := (σ.1 809)) C w rfl wl_129 dX2_takeAll_116 ?_
  refine pC1_9 C w wl_129 dX2_takeAll_119 (fun H locs w => ?_)
  refine lv_aload_n hx hb dX2_takeAll_122 rfl (lv_at hl 0 rfl) ?_
  refine lv_aload_n hx hb dX2_takeAll_123 rfl (lv_at hl 1 rfl) ?_
  refine gC8_10 (v := (σ.1 810)) C w rfl wl_130 dX2_takeAll_124 ?_
  refine pC1_10 C w wl_130 dX2_takeAll_127 (fun H locs w => ?_)
  refine lv_aload_n hx hb dX2_takeAll_130 rfl (lv_at hl 0 rfl) ?_
  refine lv_aload_n hx hb dX2_takeAll_131 rfl (lv_at hl 1 rfl) ?_
  refine gC8_11 (v := (σ.1 811)) C w rfl wl_131 dX2_takeAll_132 ?_
  refine pC1_11 C w wl_131 dX2_takeAll_135 (fun H locs w => ?_)
  rw [hQ]
  exact rV (F := CW ca ad) C w h dX2_takeAll_138
theorem hd_X10_read : yX10_read.cls = RX10 ∧ yX10_read.cls ≠ "java/lang/invoke/MethodHandle" ∧ yX10_read.cls ≠ "java/lang/invoke/VarHandle" ∧ (parseMethodDescriptor yX10_read.desc).map (fun d => d.parameters.length) = some 0 := by decide +kernel
def f_X10_read_b27 (σ : St) (x1 : Int32) : Option (Int32 × St) := some (x1, σ)
def f_X10_read (σ : St) : Option (Int32 × St) := (f_X9_readAll σ (σ.1 10)).bind fun q1 => if q1.1 < 0 then (f_X10_read_b27 q1.2 q1.1) else ((f_X2_takeAll_1_8 q1.2).bind fun q2 => f_X10_read_b27 q2 q1.1)
abbrev rm_X10_read : Room := { frames := 7, cells := 0, slots := 0, locals := 420 }
set_option maxHeartbeats 4000000 in
set_option maxRecDepth 100000 in
theorem c_X10_read (l : Launch) (D : va_G) (ca : Nat → ClassId) (ad : Nat → Nat) (σ : St)  (sz : Nat) (out : Int32 × St) (hf : f_X10_read σ  = some out) : Met l yX10_read (.code yX10_read cX10_read 2 (some .int) :: WL) rm_X10_read (PreC D ca (CW ca ad σ) sz [.ref (ad 0)]) (PostI D (va_A (CW ca ad σ) sz) (CW ca ad out.2) out.1) 0 0 (va_A (CW ca ad σ) sz) := by
  refine Met.ofW (cc := cX10_read) (maxL := 2) (ret := (some .int)) (by decide) rfl ?_
  intro p e s m args below meth c s₁ B hml hv
  obtain ⟨rfl, hsz, hP, hK, hD, hN⟩ := hv
  subst hsz
  have C := Cx.mk (own := RX10) B hml rfl hK hN (ws := (CW ca ad σ))
  have w : Wd (va_A (CW ca ad σ) s.heap.size) s D (CW ca ad σ) s.heap [] := ⟨hP, hD.self, va_S.rf⟩
  have hl := lv_entry ([.ref (ad 0)]) (n := 2) (Nat.le_of_ble_eq_true rfl)
  rw [lg_entry_eq]
  generalize (lg_sl ([.ref (ad 0)]) ++ List.replicate (2 - (lg_sl ([.ref (ad 0)])).length) Slot.unset).toArray = ls at hl ⊢
  have hl : lv_has ls 2 [(0, .ref (ad 0))] := hl
  change W p l e rm_X10_read s m _ below meth c _ [] 0 0 _ _
  clear B hP hD hK hN hml
  generalize va_A (CW ca ad σ) s.heap.size = A at C w ⊢
  generalize ([.ref (ad 0)] : List Value).toArray = av at C ⊢
  obtain ⟨Q, hQ⟩ : ∃ Q, Q = MQ below (PostI D A (CW ca ad out.2) out.1) av s 0 0 A := ⟨_, rfl⟩
  rw [← hQ]
  have hx := C.1
  have hb := C.2.1
  have b27 : ∀ (σ : St) (x1 : Int32), f_X10_read_b27 σ x1 = some out → Bk p l e rm_X10_read s m av below meth c A D 2 Q (CW ca ad σ) 27 [(1, .int x1)] [] := by
    intro σ x1 h H locs ls w hl
    unfold f_X10_read_b27 at h
    refine lv_iload_n hx hb dX10_read_27 rfl (lv_at hl 0 rfl) ?_
    rw [hQ]
    exact rI (F := CW ca ad) C w h dX10_read_28
  have h := hf
  unfold f_X10_read at h
  refine lv_aload_n hx hb dX10_read_0 rfl (lv_at hl 0 rfl) ?_
  refine gC0_6 C w wl_48 dX10_read_1 ?_
  refine lv_aload_n hx hb dX10_read_4 rfl (lv_at hl 0 rfl) ?_
  refine gC0_10 (v := (σ.1 10)) C w rfl wl_199 dX10_read_5 ?_
  obtain ⟨q1, hq1, h⟩ := ob_t h
  refine res_i C w (run_V (As := [.int (σ.1 10)]) (rest := []) C w hl.1 (recvC41 C w) (c_X9_readAll l D ca ad _ (σ.1 10) _ q1 hq1) rfl rfl wl_218 wl_219 wl_220 wl_47 wl_221 hd_X9_readAll rfl ⟨Nat.le_of_ble_eq_true rfl, Nat.le_of_ble_eq_true rfl⟩ rfl (Nat.le_of_ble_eq_true rfl) dX10_read_8) (fun H locs w => ?_)
  refine lv_istore_n (lv' := [(1, .int q1.1), (0, .ref (ad 0))]) hx hb dX10_read_11 rfl hl (by decide) rfl (fun ls hl => ?_)
  refine lv_iload_n hx hb dX10_read_12 rfl (lv_at hl 0 rfl) ?_
  refine lv_if_lt (tgt := 27) hx hb dX10_read_13 (by decide) (fun c1 => ?_) (fun c1 => ?_)
  · have h := it_t h c1
    exact b27 _ _ h _ _ _ w (lv_sub hl [0] rfl)
  · have h := it_f h c1
    refine lv_aload_n hx hb dX10_read_16 rfl (lv_at hl 1 rfl) ?_
    refine gC0_1 C w wl_34 dX10_read_17 ?_
    refine lv_aload_n hx hb dX10_read_20 rfl (lv_at hl 1 rfl) ?_
    refine gC0_2 C w wl_35 dX10_read_21 ?_
    obtain ⟨q2, hq2, h⟩ := ob_t h
    refine res_v C w (run_V (As := [.ref (ad 8)]) (rest := []) C w hl.1 (recvC1 C w) (c_X2_takeAll_1_8 l D ca ad _  _ q2 hq2) rfl rfl wl_333 wl_334 wl_335 wl_33 wl_336 hd_X2_takeAll rfl ⟨Nat.le_of_ble_eq_true rfl, Nat.le_of_ble_eq_true rfl⟩ rfl (Nat.le_of_ble_eq_true rfl) dX10_read_24) (fun H locs w => ?_)
    exact b27 _ _ h _ _ _ w (lv_sub hl [0] rfl)
