theorem hd_X9_behindRun : yX9_behindRun.cls = RX9 ∧ yX9_behindRun.cls ≠ "java/lang/invoke/MethodHandle" ∧ yX9_behindRun.cls ≠ "java/lang/invoke/VarHandle" ∧ (parseMethodDescriptor yX9_behindRun.desc).map (fun d => d.parameters.length) = some 3 := by decide +kernel
def f_X9_behindRun_b40 (σ : St) (x4 : Int32) : Option (Int32 × St) := some (x4, σ)
def f_X9_behindRun_b3 (K3 : St → Int32 → Int32 → Int32 → Option (Int32 × St)) (σ : St) (x2 : Int32) (x3 : Int32) (x4 : Int32) : Option (Int32 × St) := if (σ.1 4102) ≤ x4 then (f_X9_behindRun_b40 σ x4) else (cond (ckI x4 150) (if (σ.2.2 42 x4.toNatClampNeg) < x2 then (f_X9_behindRun_b40 σ x4) else (cond (ckI x4 150) (if x3 < (σ.2.2 42 x4.toNatClampNeg) then (f_X9_behindRun_b40 σ x4) else (K3 σ x2 x3 (x4 + (1 : Int32)))) none)) none)
def f_X9_behindRun_L3 : Nat → St → Int32 → Int32 → Int32 → Option (Int32 × St)
  | 0 => fun _ _ _ _ => none
  | n + 1 => f_X9_behindRun_b3 (f_X9_behindRun_L3 n)
def f_X9_behindRun (σ : St) (x1 : Int32) (x2 : Int32) (x3 : Int32) : Option (Int32 × St) := f_X9_behindRun_L3 FU σ x2 x3 x1
abbrev rm_X9_behindRun : Room := { frames := 0, cells := 0, slots := 0, locals := 0 }
set_option maxHeartbeats 4000000 in
set_option maxRecDepth 100000 in
theorem c_X9_behindRun (l : Launch) (D : va_G) (ca : Nat → ClassId) (ad : Nat → Nat) (σ : St) (x1 : Int32) (x2 : Int32) (x3 : Int32) (sz : Nat) (out : Int32 × St) (hf : f_X9_behindRun σ x1 x2 x3 = some out) : Met l yX9_behindRun (.code yX9_behindRun cX9_behindRun 5 (some .int) :: WL) rm_X9_behindRun (PreC D ca (CW ca ad σ) sz [.ref (ad 41), .int x1, .int x2, .int x3]) (PostI D (va_A (CW ca ad σ) sz) (CW ca ad out.2) out.1) 0 0 (va_A (CW ca ad σ) sz) := by
  refine Met.ofW (cc := cX9_behindRun) (maxL := 5) (ret := (some .int)) (by decide) rfl ?_
  intro p e s m args below meth c s₁ B hml hv
  obtain ⟨rfl, hsz, hP, hK, hD, hN⟩ := hv
  subst hsz
  have C := Cx.mk (own := RX9) B hml rfl hK hN (ws := (CW ca ad σ))
  have w : Wd (va_A (CW ca ad σ) s.heap.size) s D (CW ca ad σ) s.heap [] := ⟨hP, hD.self, va_S.rf⟩
  have hl := lv_entry ([.ref (ad 41), .int x1, .int x2, .int x3]) (n := 5) (Nat.le_of_ble_eq_true rfl)
  rw [lg_entry_eq]
  generalize (lg_sl ([.ref (ad 41), .int x1, .int x2, .int x3]) ++ List.replicate (5 - (lg_sl ([.ref (ad 41), .int x1, .int x2, .int x3])).length) Slot.unset).toArray = ls at hl ⊢
  have hl : lv_has ls 5 [(0, .ref (ad 41)), (1, .int x1), (2, .int x2), (3, .int x3)] := hl
  change W p l e rm_X9_behindRun s m _ below meth c _ [] 0 0 _ _
  clear B hP hD hK hN hml
  generalize va_A (CW ca ad σ) s.heap.size = A at C w ⊢
  generalize ([.ref (ad 41), .int x1, .int x2, .int x3] : List Value).toArray = av at C ⊢
  obtain ⟨Q, hQ⟩ : ∃ Q, Q = MQ below (PostI D A (CW ca ad out.2) out.1) av s 0 0 A := ⟨_, rfl⟩
  rw [← hQ]
  have hx := C.1
  have hb := C.2.1
  have b40 : ∀ (σ : St) (x4 : Int32), f_X9_behindRun_b40 σ x4 = some out → Bk p l e rm_X9_behindRun s m av below meth c A D 5 Q (CW ca ad σ) 40 [(4, .int x4)] [] := by
    intro σ x4 h H locs ls w hl
    unfold f_X9_behindRun_b40 at h
    refine lv_iload hx hb dX9_behindRun_40 (lv_at hl 0 rfl) ?_
    rw [hQ]
    exact rI (F := CW ca ad) C w h dX9_behindRun_42
  have L3 : ∀ (n3 : Nat) (σ : St) (x2 : Int32) (x3 : Int32) (x4 : Int32), f_X9_behindRun_L3 n3 σ x2 x3 x4 = some out → Bk p l e rm_X9_behindRun s m av below meth c A D 5 Q (CW ca ad σ) 3 [(0, .ref (ad 41)), (2, .int x2), (3, .int x3), (4, .int x4)] [] := by
    intro n3
    induction n3 with
    | zero => intro σ x2 x3 x4 h; exact absurd h (by simp [f_X9_behindRun_L3])
    | succ n3 ih3 =>
      intro σ x2 x3 x4 h H locs ls w hl
      change f_X9_behindRun_b3 (f_X9_behindRun_L3 n3) σ x2 x3 x4 = some out at h
      unfold f_X9_behindRun_b3 at h
      refine lv_iload hx hb dX9_behindRun_3 (lv_at hl 3 rfl) ?_
      refine lv_aload_n hx hb dX9_behindRun_5 rfl (lv_at hl 0 rfl) ?_
      refine gC41_2 (v := (σ.1 4102)) C w rfl wl_226 dX9_behindRun_6 ?_
      refine lv_icmp_ge (tgt := 40) hx hb dX9_behindRun_9 (by decide) (fun c1 => ?_) (fun c1 => ?_)
      · have h := it_t h c1
        exact b40 _ _ h _ _ _ w (lv_sub hl [3] rfl)
      · have h := it_f h c1
        refine lv_aload_n hx hb dX9_behindRun_12 rfl (lv_at hl 0 rfl) ?_
        refine gC41_0 C w wl_88 dX9_behindRun_13 ?_
        refine lv_iload hx hb dX9_behindRun_16 (lv_at hl 3 rfl) ?_
        obtain ⟨i2, h⟩ := ck_t h
        refine ldC42 (v := (σ.2.2 42 x4.toNatClampNeg)) C w i2 rfl dX9_behindRun_18 ?_
        refine lv_iload_n hx hb dX9_behindRun_19 rfl (lv_at hl 1 rfl) ?_
        refine lv_icmp_lt (tgt := 40) hx hb dX9_behindRun_20 (by decide) (fun c3 => ?_) (fun c3 => ?_)
        · have h := it_t h c3
          exact b40 _ _ h _ _ _ w (lv_sub hl [3] rfl)
        · have h := it_f h c3
          refine lv_aload_n hx hb dX9_behindRun_23 rfl (lv_at hl 0 rfl) ?_
          refine gC41_0 C w wl_88 dX9_behindRun_24 ?_
          refine lv_iload hx hb dX9_behindRun_27 (lv_at hl 3 rfl) ?_
          obtain ⟨i4, h⟩ := ck_t h
          refine ldC42 (v := (σ.2.2 42 x4.toNatClampNeg)) C w i4 rfl dX9_behindRun_29 ?_
          refine lv_iload_n hx hb dX9_behindRun_30 rfl (lv_at hl 2 rfl) ?_
          refine lv_icmp_gt (tgt := 40) hx hb dX9_behindRun_31 (by decide) (fun c5 => ?_) (fun c5 => ?_)
          · have h := it_t h c5
            exact b40 _ _ h _ _ _ w (lv_sub hl [3] rfl)
          · have h := it_f h c5
            refine lv_iinc (v := (x4 + (1 : Int32))) (lv' := [(4, .int (x4 + (1 : Int32))), (0, .ref (ad 41)), (2, .int x2), (3, .int x3)]) hx hb dX9_behindRun_34 hl (k := 3) rfl rfl (by decide) rfl (fun ls hl => ?_)
            refine lv_goto (tgt := 3) hx hb dX9_behindRun_37 (by decide) ?_
            exact ih3 _ _ _ _ h _ _ _ w (lv_sub hl [1, 2, 3, 0] rfl)
  have h := hf
  unfold f_X9_behindRun at h
  refine lv_iload_n hx hb dX9_behindRun_0 rfl (lv_at hl 1 rfl) ?_
  refine lv_istore (lv' := [(4, .int x1), (0, .ref (ad 41)), (1, .int x1), (2, .int x2), (3, .int x3)]) hx hb dX9_behindRun_1 hl (by decide) rfl (fun ls hl => ?_)
  exact L3 FU _ _ _ _ h _ _ _ w (lv_sub hl [1, 3, 4, 0] rfl)
theorem hd_X9_numberAtStart : yX9_numberAtStart.cls = RX9 ∧ yX9_numberAtStart.cls ≠ "java/lang/invoke/MethodHandle" ∧ yX9_numberAtStart.cls ≠ "java/lang/invoke/VarHandle" ∧ (parseMethodDescriptor yX9_numberAtStart.desc).map (fun d => d.parameters.length) = some 0 := by decide +kernel
def f_X9_numberAtStart_b7 (K7 : St → Int32 → Int32 → Option (Int32 × St)) (σ : St) (x1 : Int32) (x2 : Int32) : Option (Int32 × St) := if (σ.1 4103) ≤ x2 then (some (x1, σ)) else (cond (ckI x2 150) (K7 σ (((x1 * (10 : Int32)) + (σ.2.2 42 x2.toNatClampNeg)) - (48 : Int32)) (x2 + (1 : Int32))) none)
def f_X9_numberAtStart_L7 : Nat → St → Int32 → Int32 → Option (Int32 × St)
  | 0 => fun _ _ _ => none
  | n + 1 => f_X9_numberAtStart_b7 (f_X9_numberAtStart_L7 n)
def f_X9_numberAtStart (σ : St) : Option (Int32 × St) := f_X9_numberAtStart_L7 FU σ (0 : Int32) (σ.1 4104)
abbrev rm_X9_numberAtStart : Room := { frames := 0, cells := 0, slots := 0, locals := 0 }
set_option maxHeartbeats 4000000 in
set_option maxRecDepth 100000 in
theorem c_X9_numberAtStart (l : Launch) (D : va_G) (ca : Nat → ClassId) (ad : Nat → Nat) (σ : St)  (sz : Nat) (out : Int32 × St) (hf : f_X9_numberAtStart σ  = some out) : Met l yX9_numberAtStart (.code yX9_numberAtStart cX9_numberAtStart 3 (some .int) :: WL) rm_X9_numberAtStart (PreC D ca (CW ca ad σ) sz [.ref (ad 41)]) (PostI D (va_A (CW ca ad σ) sz) (CW ca ad out.2) out.1) 0 0 (va_A (CW ca ad σ) sz) := by
  refine Met.ofW (cc := cX9_numberAtStart) (maxL := 3) (ret := (some .int)) (by decide) rfl ?_
  intro p e s m args below meth c s₁ B hml hv
  obtain ⟨rfl, hsz, hP, hK, hD, hN⟩ := hv
  subst hsz
  have C := Cx.mk (own := RX9) B hml rfl hK hN (ws := (CW ca ad σ))
  have w : Wd (va_A (CW ca ad σ) s.heap.size) s D (CW ca ad σ) s.heap [] := ⟨hP, hD.self, va_S.rf⟩
  have hl := lv_entry ([.ref (ad 41)]) (n := 3) (Nat.le_of_ble_eq_true rfl)
  rw [lg_entry_eq]
  generalize (lg_sl ([.ref (ad 41)]) ++ List.replicate (3 - (lg_sl ([.ref (ad 41)])).length) Slot.unset).toArray = ls at hl ⊢
  have hl : lv_has ls 3 [(0, .ref (ad 41))] := hl
  change W p l e rm_X9_numberAtStart s m _ below meth c _ [] 0 0 _ _
  clear B hP hD hK hN hml
  generalize va_A (CW ca ad σ) s.heap.size = A at C w ⊢
  generalize ([.ref (ad 41)] : List Value).toArray = av at C ⊢
  obtain ⟨Q, hQ⟩ : ∃ Q, Q = MQ below (PostI D A (CW ca ad out.2) out.1) av s 0 0 A := ⟨_, rfl⟩
  rw [← hQ]
  have hx := C.1
  have hb := C.2.1
  have L7 : ∀ (n7 : Nat) (σ : St) (x1 : Int32) (x2 : Int32), f_X9_numberAtStart_L7 n7 σ x1 x2 = some out → Bk p l e rm_X9_numberAtStart s m av below meth c A D 3 Q (CW ca ad σ) 7 [(0, .ref (ad 41)), (1, .int x1), (2, .int x2)] [] := by
    intro n7
    induction n7 with
    | zero => intro σ x1 x2 h; exact absurd h (by simp [f_X9_numberAtStart_L7])
    | succ n7 ih7 =>
      intro σ x1 x2 h H locs ls w hl
      change f_X9_numberAtStart_b7 (f_X9_numberAtStart_L7 n7) σ x1 x2 = some out at h
      unfold f_X9_numberAtStart_b7 at h
      refine lv_iload_n hx hb dX9_numberAtStart_7 rfl (lv_at hl 2 rfl) ?_
      refine lv_aload_n hx hb dX9_numberAtStart_8 rfl (lv_at hl 0 rfl) ?_
      refine gC41_3 (v := (σ.1 4103)) C w rfl wl_227 dX9_numberAtStart_9 ?_
      refine lv_icmp_ge (tgt := 36) hx hb dX9_numberAtStart_12 (by decide) (fun c1 => ?_) (fun c1 => ?_)
      · have h := it_t h c1
        refine lv_iload_n hx hb dX9_numberAtStart_36 rfl (lv_at hl 1 rfl) ?_
        rw [hQ]
        exact rI (F := CW ca ad) C w h dX9_numberAtStart_37
      · have h := it_f h c1
        refine lv_iload_n hx hb dX9_numberAtStart_15 rfl (lv_at hl 1 rfl) ?_
        refine lv_bipush (v := 10) hx hb dX9_numberAtStart_16 (by decide) ?_
        refine lv_imul hx hb dX9_numberAtStart_18 ?_
        refine lv_aload_n hx hb dX9_numberAtStart_19 rfl (lv_at hl 0 rfl) ?_
        refine gC41_0 C w wl_88 dX9_numberAtStart_20 ?_
        refine lv_iload_n hx hb dX9_numberAtStart_23 rfl (lv_at hl 2 rfl) ?_
        obtain ⟨i2, h⟩ := ck_t h
        refine ldC42 (v := (σ.2.2 42 x2.toNatClampNeg)) C w i2 rfl dX9_numberAtStart_24 ?_
        refine lv_iadd hx hb dX9_numberAtStart_25 ?_
        refine lv_bipush (v := 48) hx hb dX9_numberAtStart_26 (by decide) ?_
        refine lv_isub hx hb dX9_numberAtStart_28 ?_
        refine lv_istore_n (lv' := [(1, .int (((x1 * (10 : Int32)) + (σ.2.2 42 x2.toNatClampNeg)) - (48 : Int32))), (0, .ref (ad 41)), (2, .int x2)]) hx hb dX9_numberAtStart_29 rfl hl (by decide) rfl (fun ls hl => ?_)
        refine lv_iinc (v := (x2 + (1 : Int32))) (lv' := [(2, .int (x2 + (1 : Int32))), (1, .int (((x1 * (10 : Int32)) + (σ.2.2 42 x2.toNatClampNeg)) - (48 : Int32))), (0, .ref (ad 41))]) hx hb dX9_numberAtStart_30 hl (k := 2) rfl rfl (by decide) rfl (fun ls hl => ?_)
        refine lv_goto (tgt := 7) hx hb dX9_numberAtStart_33 (by decide) ?_
        exact ih7 _ _ _ h _ _ _ w (lv_sub hl [2, 1, 0] rfl)
  have h := hf
  unfold f_X9_numberAtStart at h
  refine lv_iconst (v := 0) hx hb dX9_numberAtStart_0 (by decide) ?_
  refine lv_istore_n (lv' := [(1, .int (0 : Int32)), (0, .ref (ad 41))]) hx hb dX9_numberAtStart_1 rfl hl (by decide) rfl (fun ls hl => ?_)
  refine lv_aload_n hx hb dX9_numberAtStart_2 rfl (lv_at hl 1 rfl) ?_
  refine gC41_4 (v := (σ.1 4104)) C w rfl wl_230 dX9_numberAtStart_3 ?_
  refine lv_istore_n (lv' := [(2, .int (σ.1 4104)), (1, .int (0 : Int32)), (0, .ref (ad 41))]) hx hb dX9_numberAtStart_6 rfl hl (by decide) rfl (fun ls hl => ?_)
  exact L7 FU _ _ _ h _ _ _ w (lv_sub hl [2, 1, 0] rfl)
theorem hd_X9_advance : yX9_advance.cls = RX9 ∧ yX9_advance.cls ≠ "java/lang/invoke/MethodHandle" ∧ yX9_advance.cls ≠ "java/lang/invoke/VarHandle" ∧ (parseMethodDescriptor yX9_advance.desc).map (fun d => d.parameters.length) = some 0 := by decide +kernel
def f_X9_advance_b160 (σ : St) (y0 : Int32) : Option (St) := some (sI σ 4106 y0)
def f_X9_advance_b140 (σ : St) (y0 : Int32) : Option (St) := if y0 = (2 : Int32) then ((f_X9_numberAtStart (sI σ 4105 y0)).bind fun q1 => f_X9_advance_b160 q1.2 q1.1) else (f_X9_advance_b160 (sI σ 4105 y0) (0 : Int32))
def f_X9_advance_b186 (σ : St) (y0 : Int32) : Option (St) := some (sI (sI σ 4105 y0) 4103 ((σ.1 4103) + (1 : Int32)))
def f_X9_advance (σ : St) : Option (St) := (f_X9_behindRun σ (σ.1 4103) (32 : Int32) (32 : Int32)).bind fun q1 => if q1.1 < (q1.2.1 4102) then (cond (ckI q1.1 150) ((f_X10_within (q1.2.2.2 42 (q1.1).toNatClampNeg) (97 : Int32) (122 : Int32)).bind fun q2 => if q2 = 0 then (cond (ckI q1.1 150) ((f_X10_within (q1.2.2.2 42 (q1.1).toNatClampNeg) (48 : Int32) (57 : Int32)).bind fun q3 => if q3 = 0 then (cond (ckI q1.1 150) (if (q1.2.2.2 42 (q1.1).toNatClampNeg) = (59 : Int32) then (f_X9_advance_b186 (sI (sI q1.2 4103 q1.1) 4104 q1.1) (3 : Int32)) else (f_X9_advance_b186 (sI (sI q1.2 4103 q1.1) 4104 q1.1) (4 : Int32))) none) else ((f_X9_behindRun (sI (sI q1.2 4103 q1.1) 4104 q1.1) q1.1 (48 : Int32) (57 : Int32)).bind fun q4 => if (q4.1 - (q4.2.1 4104)) ≤ (2 : Int32) then (f_X9_advance_b140 (sI q4.2 4103 q4.1) (2 : Int32)) else (f_X9_advance_b140 (sI q4.2 4103 q4.1) (4 : Int32)))) none) else ((f_X9_behindRun (sI (sI (sI q1.2 4103 q1.1) 4104 q1.1) 4105 (1 : Int32)) q1.1 (97 : Int32) (122 : Int32)).bind fun q5 => some (sI q5.2 4103 q5.1))) none) else (some (sI (sI (sI q1.2 4103 q1.1) 4104 q1.1) 4105 (0 : Int32)))
abbrev rm_X9_advance : Room := { frames := 1, cells := 0, slots := 0, locals := 60 }
set_option maxHeartbeats 4000000 in
set_option maxRecDepth 100000 in
theorem c_X9_advance (l : Launch) (D : va_G) (ca : Nat → ClassId) (ad : Nat → Nat) (σ : St)  (sz : Nat) (out : St) (hf : f_X9_advance σ  = some out) : Met l yX9_advance (.code yX9_advance cX9_advance 1 none :: WL) rm_X9_advance (PreC D ca (CW ca ad σ) sz [.ref (ad 41)]) (PostV D (va_A (CW ca ad σ) sz) (CW ca ad out)) 0 0 (va_A (CW ca ad σ) sz) := by
  refine Met.ofW (cc := cX9_advance) (maxL := 1) (ret := none) (by decide) rfl ?_
  intro p e s m args below meth c s₁ B hml hv
  obtain ⟨rfl, hsz, hP, hK, hD, hN⟩ := hv
  subst hsz
  have C := Cx.mk (own := RX9) B hml rfl hK hN (ws := (CW ca ad σ))
  have w : Wd (va_A (CW ca ad σ) s.heap.size) s D (CW ca ad σ) s.heap [] := ⟨hP, hD.self, va_S.rf⟩
  have hl := lv_entry ([.ref (ad 41)]) (n := 1) (Nat.le_of_ble_eq_true rfl)
  rw [lg_entry_eq]
  generalize (lg_sl ([.ref (ad 41)]) ++ List.replicate (1 - (lg_sl ([.ref (ad 41)])).length) Slot.unset).toArray = ls at hl ⊢
  have hl : lv_has ls 1 [(0, .ref (ad 41))] := hl
  change W p l e rm_X9_advance s m _ below meth c _ [] 0 0 _ _
  clear B hP hD hK hN hml
  generalize va_A (CW ca ad σ) s.heap.size = A at C w ⊢
  generalize ([.ref (ad 41)] : List Value).toArray = av at C ⊢
  obtain ⟨Q, hQ⟩ : ∃ Q, Q = MQ below (PostV D A (CW ca ad out)) av s 0 0 A := ⟨_, rfl⟩
  rw [← hQ]
  have hx := C.1
  have hb := C.2.1
  have b160 : ∀ (σ : St) (y0 : Int32), f_X9_advance_b160 σ y0 = some out → Bk p l e rm_X9_advance s m av below meth c A D 1 Q (CW ca ad σ) 160 [] [.int y0, .ref (ad 41)] := by
    intro σ y0 h H locs ls w hl
    unfold f_X9_advance_b160 at h
    refine pC41_6 C w wl_236 dX9_advance_160 (fun H locs w => ?_)
    refine lv_goto (tgt := 199) hx hb dX9_advance_163 (by decide) ?_
    rw [hQ]
    exact rV (F := CW ca ad) C w h dX9_advance_199
  have b140 : ∀ (σ : St) (y0 : Int32), f_X9_advance_b140 σ y0 = some out → Bk p l e rm_X9_advance s m av below meth c A D 1 Q (CW ca ad σ) 140 [(0, .ref (ad 41))] [.int y0, .ref (ad 41)] := by
    intro σ y0 h H locs ls w hl
    unfold f_X9_advance_b140 at h
    refine pC41_5 C w wl_229 dX9_advance_140 (fun H locs w => ?_)
    refine lv_aload_n hx hb dX9_advance_143 rfl (lv_at hl 0 rfl) ?_
    refine lv_aload_n hx hb dX9_advance_144 rfl (lv_at hl 0 rfl) ?_
    refine gC41_5 (v := y0) C w rfl wl_229 dX9_advance_145 ?_
    refine lv_iconst (v := 2) hx hb dX9_advance_148 (by decide) ?_
    refine lv_icmp_ne (tgt := 159) hx hb dX9_advance_149 (by decide) (fun c1 => ?_) (fun c1 => ?_)
    · have h := it_f h c1
      refine lv_iconst (v := 0) hx hb dX9_advance_159 (by decide) ?_
      exact b160 _ _ h _ _ _ w (lv_sub hl [] rfl)
    · have h := it_t h c1
      refine lv_aload_n hx hb dX9_advance_152 rfl (lv_at hl 0 rfl) ?_
      obtain ⟨q1, hq1, h⟩ := ob_t h
      refine res_i C w (run_V (As := []) (rest := [.ref (ad 41)]) C w hl.1 (recvC41 C w) (c_X9_numberAtStart l D ca ad _  _ q1 hq1) rfl rfl wl_241 wl_242 wl_243 wl_47 wl_244 hd_X9_numberAtStart rfl ⟨Nat.le_of_ble_eq_true rfl, Nat.le_of_ble_eq_true rfl⟩ rfl (Nat.le_of_ble_eq_true rfl) dX9_advance_153) (fun H locs w => ?_)
      refine lv_goto (tgt := 160) hx hb dX9_advance_156 (by decide) ?_
      exact b160 _ _ h _ _ _ w (lv_sub hl [] rfl)
  have b186 : ∀ (σ : St) (y0 : Int32), f_X9_advance_b186 σ y0 = some out → Bk p l e rm_X9_advance s m av below meth c A D 1 Q (CW ca ad σ) 186 [(0, .ref (ad 41))] [.int y0, .ref (ad 41)] := by
    intro σ y0 h H locs ls w hl
    unfold f_X9_advance_b186 at h
    refine pC41_5 C w wl_229 dX9_advance_186 (fun H locs w => ?_)
    refine lv_aload_n hx hb dX9_advance_189 rfl (lv_at hl 0 rfl) ?_
    refine lv_dup hx hb dX9_advance_190 rfl ?_
    refine gC41_3 (v := (σ.1 4103)) C w rfl wl_227 dX9_advance_191 ?_
    refine lv_iconst (v := 1) hx hb dX9_advance_194 (by decide) ?_
    refine lv_iadd hx hb dX9_advance_195 ?_
    refine pC41_3 C w wl_227 dX9_advance_196 (fun H locs w => ?_)
    rw [hQ]
    exact rV (F := CW ca ad) C w h dX9_advance_199
  have h := hf
  unfold f_X9_advance at h
  refine lv_aload_n hx hb dX9_advance_0 rfl (lv_at hl 0 rfl) ?_
  refine lv_aload_n hx hb dX9_advance_1 rfl (lv_at hl 0 rfl) ?_
  refine lv_aload_n hx hb dX9_advance_2 rfl (lv_at hl 0 rfl) ?_
  refine gC41_3 (v := (σ.1 4103)) C w rfl wl_227 dX9_advance_3 ?_
  refine lv_bipush (v := 32) hx hb dX9_advance_6 (by decide) ?_
  refine lv_bipush (v := 32) hx hb dX9_advance_8 (by decide) ?_
  obtain ⟨q1, hq1, h⟩ := ob_t h
  refine res_i C w (run_V (As := [.int (σ.1 4103), .int (32 : Int32), .int (32 : Int32)]) (rest := [.ref (ad 41)]) C w hl.1 (recvC41 C w) (c_X9_behindRun l D ca ad _ (σ.1 4103) (32 : Int32) (32 : Int32) _ q1 hq1) rfl rfl wl_237 wl_238 wl_239 wl_47 wl_240 hd_X9_behindRun rfl ⟨Nat.le_of_ble_eq_true rfl, Nat.le_of_ble_eq_true rfl⟩ rfl (Nat.le_of_ble_eq_true rfl) dX9_advance_10) (fun H locs w => ?_)
  refine pC41_3 C w wl_227 dX9_advance_13 (fun H locs w => ?_)
  refine lv_aload_n hx hb dX9_advance_16 rfl (lv_at hl 0 rfl) ?_
  refine lv_aload_n hx hb dX9_advance_17 rfl (lv_at hl 0 rfl) ?_
  refine gC41_3 (v := q1.1) C w rfl wl_227 dX9_advance_18 ?_
  refine pC41_4 C w wl_230 dX9_advance_21 (fun H locs w => ?_)
  refine lv_aload_n hx hb dX9_advance_24 rfl (lv_at hl 0 rfl) ?_
  refine gC41_3 (v := q1.1) C w rfl wl_227 dX9_advance_25 ?_
  refine lv_aload_n hx hb dX9_advance_28 rfl (lv_at hl 0 rfl) ?_
  refine gC41_2 (v := (q1.2.1 4102)) C w rfl wl_226 dX9_advance_29 ?_
  refine lv_icmp_lt (tgt := 43) hx hb dX9_advance_32 (by decide) (fun c1 => ?_) (fun c1 => ?_)
  · have h := it_t h c1
    refine lv_aload_n hx hb dX9_advance_43 rfl (lv_at hl 0 rfl) ?_
    refine gC41_0 C w wl_88 dX9_advance_44 ?_
    refine lv_aload_n hx hb dX9_advance_47 rfl (lv_at hl 0 rfl) ?_
    refine gC41_3 (v := q1.1) C w rfl wl_227 dX9_advance_48 ?_
    obtain ⟨i2, h⟩ := ck_t h
    refine ldC42 (v := (q1.2.2.2 42 (q1.1).toNatClampNeg)) C w i2 rfl dX9_advance_51 ?_
    refine lv_bipush (v := 97) hx hb dX9_advance_52 (by decide) ?_
    refine lv_bipush (v := 122) hx hb dX9_advance_54 (by decide) ?_
    obtain ⟨q2, hq2, h⟩ := ob_t h
    refine res_i C w (run_SN (As := [.int (q1.2.2.2 42 (q1.1).toNatClampNeg), .int (97 : Int32), .int (122 : Int32)]) (rest := []) C w hl.1 (c_X10_within l D ca _ (q1.2.2.2 42 (q1.1).toNatClampNeg) (97 : Int32) (122 : Int32) _ q2 hq2) rfl rfl C.nx.2.2 wl_115 wl_2 wl_116 hd_X10_within rfl ⟨Nat.le_of_ble_eq_true rfl, Nat.le_of_ble_eq_true rfl⟩ rfl (Nat.le_of_ble_eq_true rfl) dX9_advance_56) (fun H locs w => ?_)
    refine lv_if_eq (tgt := 86) hx hb dX9_advance_59 (by decide) (fun c3 => ?_) (fun c3 => ?_)
    · have h := it_t h c3
      refine lv_aload_n hx hb dX9_advance_86 rfl (lv_at hl 0 rfl) ?_
      refine gC41_0 C w wl_88 dX9_advance_87 ?_
      refine lv_aload_n hx hb dX9_advance_90 rfl (lv_at hl 0 rfl) ?_
      refine gC41_3 (v := q1.1) C w rfl wl_227 dX9_advance_91 ?_
      obtain ⟨i4, h⟩ := ck_t h
      refine ldC42 (v := (q1.2.2.2 42 (q1.1).toNatClampNeg)) C w i4 rfl dX9_advance_94 ?_
      refine lv_bipush (v := 48) hx hb dX9_advance_95 (by decide) ?_
      refine lv_bipush (v := 57) hx hb dX9_advance_97 (by decide) ?_
      obtain ⟨q3, hq3, h⟩ := ob_t h
      refine res_i C w (run_SN (As := [.int (q1.2.2.2 42 (q1.1).toNatClampNeg), .int (48 : Int32), .int (57 : Int32)]) (rest := []) C w hl.1 (c_X10_within l D ca _ (q1.2.2.2 42 (q1.1).toNatClampNeg) (48 : Int32) (57 : Int32) _ q3 hq3) rfl rfl C.nx.2.2 wl_115 wl_2 wl_116 hd_X10_within rfl ⟨Nat.le_of_ble_eq_true rfl, Nat.le_of_ble_eq_true rfl⟩ rfl (Nat.le_of_ble_eq_true rfl) dX9_advance_99) (fun H locs w => ?_)
      refine lv_if_eq (tgt := 166) hx hb dX9_advance_102 (by decide) (fun c5 => ?_) (fun c5 => ?_)
      · have h := it_t h c5
        refine lv_aload_n hx hb dX9_advance_166 rfl (lv_at hl 0 rfl) ?_
        refine lv_aload_n hx hb dX9_advance_167 rfl (lv_at hl 0 rfl) ?_
        refine gC41_0 C w wl_88 dX9_advance_168 ?_
        refine lv_aload_n hx hb dX9_advance_171 rfl (lv_at hl 0 rfl) ?_
        refine gC41_3 (v := q1.1) C w rfl wl_227 dX9_advance_172 ?_
        obtain ⟨i6, h⟩ := ck_t h
        refine ldC42 (v := (q1.2.2.2 42 (q1.1).toNatClampNeg)) C w i6 rfl dX9_advance_175 ?_
        refine lv_bipush (v := 59) hx hb dX9_advance_176 (by decide) ?_
        refine lv_icmp_ne (tgt := 185) hx hb dX9_advance_178 (by decide) (fun c7 => ?_) (fun c7 => ?_)
        · have h := it_f h c7
          refine lv_iconst (v := 4) hx hb dX9_advance_185 (by decide) ?_
          exact b186 _ _ h _ _ _ w (lv_sub hl [0] rfl)
        · have h := it_t h c7
          refine lv_iconst (v := 3) hx hb dX9_advance_181 (by decide) ?_
          refine lv_goto (tgt := 186) hx hb dX9_advance_182 (by decide) ?_
          exact b186 _ _ h _ _ _ w (lv_sub hl [0] rfl)
      · have h := it_f h c5
        refine lv_aload_n hx hb dX9_advance_105 rfl (lv_at hl 0 rfl) ?_
        refine lv_aload_n hx hb dX9_advance_106 rfl (lv_at hl 0 rfl) ?_
        refine lv_aload_n hx hb dX9_advance_107 rfl (lv_at hl 0 rfl) ?_
        refine gC41_3 (v := q1.1) C w rfl wl_227 dX9_advance_108 ?_
        refine lv_bipush (v := 48) hx hb dX9_advance_111 (by decide) ?_
        refine lv_bipush (v := 57) hx hb dX9_advance_113 (by decide) ?_
        obtain ⟨q4, hq4, h⟩ := ob_t h
        refine res_i C w (run_V (As := [.int q1.1, .int (48 : Int32), .int (57 : Int32)]) (rest := [.ref (ad 41)]) C w hl.1 (recvC41 C w) (c_X9_behindRun l D ca ad _ q1.1 (48 : Int32) (57 : Int32) _ q4 hq4) rfl rfl wl_237 wl_238 wl_239 wl_47 wl_240 hd_X9_behindRun rfl ⟨Nat.le_of_ble_eq_true rfl, Nat.le_of_ble_eq_true rfl⟩ rfl (Nat.le_of_ble_eq_true rfl) dX9_advance_115) (fun H locs w => ?_)
        refine pC41_3 C w wl_227 dX9_advance_118 (fun H locs w => ?_)
        refine lv_aload_n hx hb dX9_advance_121 rfl (lv_at hl 0 rfl) ?_
        refine lv_aload_n hx hb dX9_advance_122 rfl (lv_at hl 0 rfl) ?_
        refine gC41_3 (v := q4.1) C w rfl wl_227 dX9_advance_123 ?_
        refine lv_aload_n hx hb dX9_advance_126 rfl (lv_at hl 0 rfl) ?_
        refine gC41_4 (v := (q4.2.1 4104)) C w rfl wl_230 dX9_advance_127 ?_
        refine lv_isub hx hb dX9_advance_130 ?_
        refine lv_iconst (v := 2) hx hb dX9_advance_131 (by decide) ?_
        refine lv_icmp_le (tgt := 139) hx hb dX9_advance_132 (by decide) (fun c8 => ?_) (fun c8 => ?_)
        · have h := it_t h c8
          refine lv_iconst (v := 2) hx hb dX9_advance_139 (by decide) ?_
          exact b140 _ _ h _ _ _ w (lv_sub hl [0] rfl)
        · have h := it_f h c8
          refine lv_iconst (v := 4) hx hb dX9_advance_135 (by decide) ?_
          refine lv_goto (tgt := 140) hx hb dX9_advance_136 (by decide) ?_
          exact b140 _ _ h _ _ _ w (lv_sub hl [0] rfl)
    · have h := it_f h c3
      refine lv_aload_n hx hb dX9_advance_62 rfl (lv_at hl 0 rfl) ?_
      refine lv_iconst (v := 1) hx hb dX9_advance_63 (by decide) ?_
      refine pC41_5 C w wl_229 dX9_advance_64 (fun H locs w => ?_)
      refine lv_aload_n hx hb dX9_advance_67 rfl (lv_at hl 0 rfl) ?_
      refine lv_aload_n hx hb dX9_advance_68 rfl (lv_at hl 0 rfl) ?_
      refine lv_aload_n hx hb dX9_advance_69 rfl (lv_at hl 0 rfl) ?_
      refine gC41_3 (v := q1.1) C w rfl wl_227 dX9_advance_70 ?_
      refine lv_bipush (v := 97) hx hb dX9_advance_73 (by decide) ?_
      refine lv_bipush (v := 122) hx hb dX9_advance_75 (by decide) ?_
      obtain ⟨q5, hq5, h⟩ := ob_t h
      refine res_i C w (run_V (As := [.int q1.1, .int (97 : Int32), .int (122 : Int32)]) (rest := [.ref (ad 41)]) C w hl.1 (recvC41 C w) (c_X9_behindRun l D ca ad _ q1.1 (97 : Int32) (122 : Int32) _ q5 hq5) rfl rfl wl_237 wl_238 wl_239 wl_47 wl_240 hd_X9_behindRun rfl ⟨Nat.le_of_ble_eq_true rfl, Nat.le_of_ble_eq_true rfl⟩ rfl (Nat.le_of_ble_eq_true rfl) dX9_advance_77) (fun H locs w => ?_)
      refine pC41_3 C w wl_227 dX9_advance_80 (fun H locs w => ?_)
      refine lv_goto (tgt := 199) hx hb dX9_advance_83 (by decide) ?_
      rw [hQ]
      exact rV (F := CW ca ad) C w h dX9_advance_199
  · have h := it_f h c1
    refine lv_aload_n hx hb dX9_advance_35 rfl (lv_at hl 0 rfl) ?_
    refine lv_iconst (v := 0) hx hb dX9_advance_36 (by decide) ?_
    refine pC41_5 C w wl_229 dX9_advance_37 (fun H locs w => ?_)
    refine lv_goto (tgt := 199) hx hb dX9_advance_40 (by decide) ?_
    rw [hQ]
    exact rV (F := CW ca ad) C w h dX9_advance_199
theorem hd_X9_takesNumber : yX9_takesNumber.cls = RX9 ∧ yX9_takesNumber.cls ≠ "java/lang/invoke/MethodHandle" ∧ yX9_takesNumber.cls ≠ "java/lang/invoke/VarHandle" ∧ (parseMethodDescriptor yX9_takesNumber.desc).map (fun d => d.parameters.length) = some 1 := by decide +kernel
def f_X9_takesNumber (σ : St) (x1 : Int32) : Option (Int32 × St) := (f_X9_advance σ).bind fun q1 => if (q1.1 4105) = (2 : Int32) then (if x1 < (q1.1 4106) then (some ((0 : Int32), q1)) else (some ((1 : Int32), q1))) else (some ((0 : Int32), q1))
abbrev rm_X9_takesNumber : Room := { frames := 2, cells := 0, slots := 0, locals := 120 }
set_option maxHeartbeats 4000000 in
set_option maxRecDepth 100000 in
theorem c_X9_takesNumber (l : Launch) (D : va_G) (ca : Nat → ClassId) (ad : Nat → Nat) (σ : St) (x1 : Int32) (sz : Nat) (out : Int32 × St) (hf : f_X9_takesNumber σ x1 = some out) : Met l yX9_takesNumber (.code yX9_takesNumber cX9_takesNumber 2 (some .boolean) :: WL) rm_X9_takesNumber (PreC D ca (CW ca ad σ) sz [.ref (ad 41), .int x1]) (PostI D (va_A (CW ca ad σ) sz) (CW ca ad out.2) out.1) 0 0 (va_A (CW ca ad σ) sz) := by
  refine Met.ofW (cc := cX9_takesNumber) (maxL := 2) (ret := (some .boolean)) (by decide) rfl ?_
  intro p e s m args below meth c s₁ B hml hv
  obtain ⟨rfl, hsz, hP, hK, hD, hN⟩ := hv
  subst hsz
  have C := Cx.mk (own := RX9) B hml rfl hK hN (ws := (CW ca ad σ))
  have w : Wd (va_A (CW ca ad σ) s.heap.size) s D (CW ca ad σ) s.heap [] := ⟨hP, hD.self, va_S.rf⟩
  have hl := lv_entry ([.ref (ad 41), .int x1]) (n := 2) (Nat.le_of_ble_eq_true rfl)
  rw [lg_entry_eq]
  generalize (lg_sl ([.ref (ad 41), .int x1]) ++ List.replicate (2 - (lg_sl ([.ref (ad 41), .int x1])).length) Slot.unset).toArray = ls at hl ⊢
  have hl : lv_has ls 2 [(0, .ref (ad 41)), (1, .int x1)] := hl
  change W p l e rm_X9_takesNumber s m _ below meth c _ [] 0 0 _ _
  clear B hP hD hK hN hml
  generalize va_A (CW ca ad σ) s.heap.size = A at C w ⊢
  generalize ([.ref (ad 41), .int x1] : List Value).toArray = av at C ⊢
  obtain ⟨Q, hQ⟩ : ∃ Q, Q = MQ below (PostI D A (CW ca ad out.2) out.1) av s 0 0 A := ⟨_, rfl⟩
  rw [← hQ]
  have hx := C.1
  have hb := C.2.1
  have h := hf
  unfold f_X9_takesNumber at h
  refine lv_aload_n hx hb dX9_takesNumber_0 rfl (lv_at hl 0 rfl) ?_
  obtain ⟨q1, hq1, h⟩ := ob_t h
  refine res_v C w (run_V (As := []) (rest := []) C w hl.1 (recvC41 C w) (c_X9_advance l D ca ad _  _ q1 hq1) rfl rfl wl_232 wl_233 wl_234 wl_47 wl_235 hd_X9_advance rfl ⟨Nat.le_of_ble_eq_true rfl, Nat.le_of_ble_eq_true rfl⟩ rfl (Nat.le_of_ble_eq_true rfl) dX9_takesNumber_1) (fun H locs w => ?_)
  refine lv_aload_n hx hb dX9_takesNumber_4 rfl (lv_at hl 0 rfl) ?_
  refine gC41_5 (v := (q1.1 4105)) C w rfl wl_229 dX9_takesNumber_5 ?_
  refine lv_iconst (v := 2) hx hb dX9_takesNumber_8 (by decide) ?_
  refine lv_icmp_ne (tgt := 24) hx hb dX9_takesNumber_9 (by decide) (fun c1 => ?_) (fun c1 => ?_)
  · have h := it_f h c1
    refine lv_iconst (v := 0) hx hb dX9_takesNumber_24 (by decide) ?_
    rw [hQ]
    exact rZ (F := CW ca ad) C w (by decide) h dX9_takesNumber_25
  · have h := it_t h c1
    refine lv_aload_n hx hb dX9_takesNumber_12 rfl (lv_at hl 0 rfl) ?_
    refine gC41_6 (v := (q1.1 4106)) C w rfl wl_236 dX9_takesNumber_13 ?_
    refine lv_iload_n hx hb dX9_takesNumber_16 rfl (lv_at hl 1 rfl) ?_
    refine lv_icmp_gt (tgt := 24) hx hb dX9_takesNumber_17 (by decide) (fun c2 => ?_) (fun c2 => ?_)
    · have h := it_t h c2
      refine lv_iconst (v := 0) hx hb dX9_takesNumber_24 (by decide) ?_
      rw [hQ]
      exact rZ (F := CW ca ad) C w (by decide) h dX9_takesNumber_25
    · have h := it_f h c2
      refine lv_iconst (v := 1) hx hb dX9_takesNumber_20 (by decide) ?_
      refine lv_goto (tgt := 25) hx hb dX9_takesNumber_21 (by decide) ?_
      rw [hQ]
      exact rZ (F := CW ca ad) C w (by decide) h dX9_takesNumber_25
theorem hd_X9_takesSemicolon : yX9_takesSemicolon.cls = RX9 ∧ yX9_takesSemicolon.cls ≠ "java/lang/invoke/MethodHandle" ∧ yX9_takesSemicolon.cls ≠ "java/lang/invoke/VarHandle" ∧ (parseMethodDescriptor yX9_takesSemicolon.desc).map (fun d => d.parameters.length) = some 0 := by decide +kernel
def f_X9_takesSemicolon (σ : St) : Option (Int32 × St) := (f_X9_advance σ).bind fun q1 => if (q1.1 4105) = (3 : Int32) then (some ((1 : Int32), q1)) else (some ((0 : Int32), q1))
abbrev rm_X9_takesSemicolon : Room := { frames := 2, cells := 0, slots := 0, locals := 120 }
set_option maxHeartbeats 4000000 in
set_option maxRecDepth 100000 in
theorem c_X9_takesSemicolon (l : Launch) (D : va_G) (ca : Nat → ClassId) (ad : Nat → Nat) (σ : St)  (sz : Nat) (out : Int32 × St) (hf : f_X9_takesSemicolon σ  = some out) : Met l yX9_takesSemicolon (.code yX9_takesSemicolon cX9_takesSemicolon 1 (some .boolean) :: WL) rm_X9_takesSemicolon (PreC D ca (CW ca ad σ) sz [.ref (ad 41)]) (PostI D (va_A (CW ca ad σ) sz) (CW ca ad out.2) out.1) 0 0 (va_A (CW ca ad σ) sz) := by
  refine Met.ofW (cc := cX9_takesSemicolon) (maxL := 1) (ret := (some .boolean)) (by decide) rfl ?_
  intro p e s m args below meth c s₁ B hml hv
  obtain ⟨rfl, hsz, hP, hK, hD, hN⟩ := hv
  subst hsz
  have C := Cx.mk (own := RX9) B hml rfl hK hN (ws := (CW ca ad σ))
  have w : Wd (va_A (CW ca ad σ) s.heap.size) s D (CW ca ad σ) s.heap [] := ⟨hP, hD.self, va_S.rf⟩
  have hl := lv_entry ([.ref (ad 41)]) (n := 1) (Nat.le_of_ble_eq_true rfl)
  rw [lg_entry_eq]
  generalize (lg_sl ([.ref (ad 41)]) ++ List.replicate (1 - (lg_sl ([.ref (ad 41)])).length) Slot.unset).toArray = ls at hl ⊢
  have hl : lv_has ls 1 [(0, .ref (ad 41))] := hl
  change W p l e rm_X9_takesSemicolon s m _ below meth c _ [] 0 0 _ _
  clear B hP hD hK hN hml
  generalize va_A (CW ca ad σ) s.heap.size = A at C w ⊢
  generalize ([.ref (ad 41)] : List Value).toArray = av at C ⊢
  obtain ⟨Q, hQ⟩ : ∃ Q, Q = MQ below (PostI D A (CW ca ad out.2) out.1) av s 0 0 A := ⟨_, rfl⟩
  rw [← hQ]
  have hx := C.1
  have hb := C.2.1
  have h := hf
  unfold f_X9_takesSemicolon at h
  refine lv_aload_n hx hb dX9_takesSemicolon_0 rfl (lv_at hl 0 rfl) ?_
  obtain ⟨q1, hq1, h⟩ := ob_t h
  refine res_v C w (run_V (As := []) (rest := []) C w hl.1 (recvC41 C w) (c_X9_advance l D ca ad _  _ q1 hq1) rfl rfl wl_232 wl_233 wl_234 wl_47 wl_235 hd_X9_advance rfl ⟨Nat.le_of_ble_eq_true rfl, Nat.le_of_ble_eq_true rfl⟩ rfl (Nat.le_of_ble_eq_true rfl) dX9_takesSemicolon_1) (fun H locs w => ?_)
  refine lv_aload_n hx hb dX9_takesSemicolon_4 rfl (lv_at hl 0 rfl) ?_
  refine gC41_5 (v := (q1.1 4105)) C w rfl wl_229 dX9_takesSemicolon_5 ?_
  refine lv_iconst (v := 3) hx hb dX9_takesSemicolon_8 (by decide) ?_
  refine lv_icmp_ne (tgt := 16) hx hb dX9_takesSemicolon_9 (by decide) (fun c1 => ?_) (fun c1 => ?_)
  · have h := it_f h c1
    refine lv_iconst (v := 0) hx hb dX9_takesSemicolon_16 (by decide) ?_
    rw [hQ]
    exact rZ (F := CW ca ad) C w (by decide) h dX9_takesSemicolon_17
  · have h := it_t h c1
    refine lv_iconst (v := 1) hx hb dX9_takesSemicolon_12 (by decide) ?_
    refine lv_goto (tgt := 17) hx hb dX9_takesSemicolon_13 (by decide) ?_
    rw [hQ]
    exact rZ (F := CW ca ad) C w (by decide) h dX9_takesSemicolon_17
def f_X2_startAt_8 (σ : St) (x1 : Int32) : Option (St) := some (sI (sI (sI (sI (sI (sI σ 806 (0 : Int32)) 807 (0 : Int32)) 808 x1) 809 (0 : Int32)) 810 (0 : Int32)) 811 (0 : Int32))
abbrev rm_X2_startAt_8 : Room := { frames := 0, cells := 0, slots := 0, locals := 0 }
set_option maxHeartbeats 4000000 in
set_option maxRecDepth 100000 in
theorem c_X2_startAt_8 (l : Launch) (D : va_G) (ca : Nat → ClassId) (ad : Nat → Nat) (σ : St) (x1 : Int32) (sz : Nat) (out : St) (hf : f_X2_startAt_8 σ x1 = some out) : Met l yX2_startAt (.code yX2_startAt cX2_startAt 2 none :: WL) rm_X2_startAt_8 (PreC D ca (CW ca ad σ) sz [.ref (ad 8), .int x1]) (PostV D (va_A (CW ca ad σ) sz) (CW ca ad out)) 0 0 (va_A (CW ca ad σ) sz) := by
  refine Met.ofW (cc := cX2_startAt) (maxL := 2) (ret := none) (by decide) rfl ?_
  intro p e s m args below meth c s₁ B hml hv
  obtain ⟨rfl, hsz, hP, hK, hD, hN⟩ := hv
  subst hsz
  have C := Cx.mk (own := RX2) B hml rfl hK hN (ws := (CW ca ad σ))
  have w : Wd (va_A (CW ca ad σ) s.heap.size) s D (CW ca ad σ) s.heap [] := ⟨hP, hD.self, va_S.rf⟩
  have hl := lv_entry ([.ref (ad 8), .int x1]) (n := 2) (Nat.le_of_ble_eq_true rfl)
  rw [lg_entry_eq]
  generalize (lg_sl ([.ref (ad 8), .int x1]) ++ List.replicate (2 - (lg_sl ([.ref (ad 8), .int x1])).length) Slot.unset).toArray = ls at hl ⊢
  have hl : lv_has ls 2 [(0, .ref (ad 8)), (1, .int x1)] := hl
  change W p l e rm_X2_startAt_8 s m _ below meth c _ [] 0 0 _ _
  clear B hP hD hK hN hml
  generalize va_A (CW ca ad σ) s.heap.size = A at C w ⊢
  generalize ([.ref (ad 8), .int x1] : List Value).toArray = av at C ⊢
  obtain ⟨Q, hQ⟩ : ∃ Q, Q = MQ below (PostV D A (CW ca ad out)) av s 0 0 A := ⟨_, rfl⟩
  rw [← hQ]
  have hx := C.1
  have hb := C.2.1
  have h := hf
  unfold f_X2_startAt_8 at h
  refine lv_aload_n hx hb dX2_startAt_0 rfl (lv_at hl 0 rfl) ?_
  refine lv_iconst (v := 0) hx hb dX2_startAt_1 (by decide) ?_
  refine pC8_6 C w wl_126 dX2_startAt_2 (fun H locs w => ?_)
  refine lv_aload_n hx hb dX2_startAt_5 rfl (lv_at hl 0 rfl) ?_
  refine lv_iconst (v := 0) hx hb dX2_startAt_6 (by decide) ?_
  refine pC8_7 C w wl_127 dX2_startAt_7 (fun H locs w => ?_)
  refine lv_aload_n hx hb dX2_startAt_10 rfl (lv_at hl 0 rfl) ?_
  refine lv_iload_n hx hb dX2_startAt_11 rfl (lv_at hl 1 rfl) ?_
  refine pC8_8 C w wl_128 dX2_startAt_12 (fun H locs w => ?_)
  refine lv_aload_n hx hb dX2_startAt_15 rfl (lv_at hl 0 rfl) ?_
  refine lv_iconst (v := 0) hx hb dX2_startAt_16 (by decide) ?_
  refine pC8_9 C w wl_129 dX2_startAt_17 (fun H locs w => ?_)
  refine lv_aload_n hx hb dX2_startAt_20 rfl (lv_at hl 0 rfl) ?_
  refine lv_iconst (v := 0) hx hb dX2_startAt_21 (by decide) ?_
  refine pC8_10 C w wl_130 dX2_startAt_22 (fun H locs w => ?_)
  refine lv_aload_n hx hb dX2_startAt_25 rfl (lv_at hl 0 rfl) ?_
  refine lv_iconst (v := 0) hx hb dX2_startAt_26 (by decide) ?_
  refine pC8_11 C w wl_131 dX2_startAt_27 (fun H locs w => ?_)
  rw [hQ]
  exact rV (F := CW ca ad) C w h dX2_startAt_30
theorem hd_X9_takesWood : yX9_takesWood.cls = RX9 ∧ yX9_takesWood.cls ≠ "java/lang/invoke/MethodHandle" ∧ yX9_takesWood.cls ≠ "java/lang/invoke/VarHandle" ∧ (parseMethodDescriptor yX9_takesWood.desc).map (fun d => d.parameters.length) = some 0 := by decide +kernel
def f_X9_takesWood (σ : St) : Option (Int32 × St) := (f_X9_takesNumber σ (99 : Int32)).bind fun q1 => if q1.1 = 0 then (some ((0 : Int32), q1.2)) else ((f_X2_startAt_8 q1.2 (q1.2.1 4106)).bind fun q2 => some ((1 : Int32), q2))
abbrev rm_X9_takesWood : Room := { frames := 3, cells := 0, slots := 0, locals := 180 }
set_option maxHeartbeats 4000000 in
set_option maxRecDepth 100000 in
theorem c_X9_takesWood (l : Launch) (D : va_G) (ca : Nat → ClassId) (ad : Nat → Nat) (σ : St)  (sz : Nat) (out : Int32 × St) (hf : f_X9_takesWood σ  = some out) : Met l yX9_takesWood (.code yX9_takesWood cX9_takesWood 1 (some .boolean) :: WL) rm_X9_takesWood (PreC D ca (CW ca ad σ) sz [.ref (ad 41)]) (PostI D (va_A (CW ca ad σ) sz) (CW ca ad out.2) out.1) 0 0 (va_A (CW ca ad σ) sz) := by
  refine Met.ofW (cc := cX9_takesWood) (maxL := 1) (ret := (some .boolean)) (by decide) rfl ?_
  intro p e s m args below meth c s₁ B hml hv
  obtain ⟨rfl, hsz, hP, hK, hD, hN⟩ := hv
  subst hsz
  have C := Cx.mk (own := RX9) B hml rfl hK hN (ws := (CW ca ad σ))
  have w : Wd (va_A (CW ca ad σ) s.heap.size) s D (CW ca ad σ) s.heap [] := ⟨hP, hD.self, va_S.rf⟩
  have hl := lv_entry ([.ref (ad 41)]) (n := 1) (Nat.le_of_ble_eq_true rfl)
  rw [lg_entry_eq]
  generalize (lg_sl ([.ref (ad 41)]) ++ List.replicate (1 - (lg_sl ([.ref (ad 41)])).length) Slot.unset).toArray = ls at hl ⊢
  have hl : lv_has ls 1 [(0, .ref (ad 41))] := hl
  change W p l e rm_X9_takesWood s m _ below meth c _ [] 0 0 _ _
  clear B hP hD hK hN hml
  generalize va_A (CW ca ad σ) s.heap.size = A at C w ⊢
  generalize ([.ref (ad 41)] : List Value).toArray = av at C ⊢
  obtain ⟨Q, hQ⟩ : ∃ Q, Q = MQ below (PostI D A (CW ca ad out.2) out.1) av s 0 0 A := ⟨_, rfl⟩
  rw [← hQ]
  have hx := C.1
  have hb := C.2.1
  have h := hf
  unfold f_X9_takesWood at h
  refine lv_aload_n hx hb dX9_takesWood_0 rfl (lv_at hl 0 rfl) ?_
  refine lv_bipush (v := 99) hx hb dX9_takesWood_1 (by decide) ?_
  obtain ⟨q1, hq1, h⟩ := ob_t h
  refine res_i C w (run_V (As := [.int (99 : Int32)]) (rest := []) C w hl.1 (recvC41 C w) (c_X9_takesNumber l D ca ad _ (99 : Int32) _ q1 hq1) rfl rfl wl_307 wl_308 wl_309 wl_47 wl_310 hd_X9_takesNumber rfl ⟨Nat.le_of_ble_eq_true rfl, Nat.le_of_ble_eq_true rfl⟩ rfl (Nat.le_of_ble_eq_true rfl) dX9_takesWood_3) (fun H locs w => ?_)
  refine lv_if_ne (tgt := 11) hx hb dX9_takesWood_6 (by decide) (fun c1 => ?_) (fun c1 => ?_)
  · have h := it_f h c1
    refine lv_aload_n hx hb dX9_takesWood_11 rfl (lv_at hl 0 rfl) ?_
    refine gC41_1 C w wl_89 dX9_takesWood_12 ?_
    refine lv_aload_n hx hb dX9_takesWood_15 rfl (lv_at hl 0 rfl) ?_
    refine gC41_6 (v := (q1.2.1 4106)) C w rfl wl_236 dX9_takesWood_16 ?_
    obtain ⟨q2, hq2, h⟩ := ob_t h
    refine res_v C w (run_V (As := [.int (q1.2.1 4106)]) (rest := []) C w hl.1 (recvC8 C w) (c_X2_startAt_8 l D ca ad _ (q1.2.1 4106) _ q2 hq2) rfl rfl wl_231 wl_123 wl_124 wl_33 wl_125 hd_X2_startAt rfl ⟨Nat.le_of_ble_eq_true rfl, Nat.le_of_ble_eq_true rfl⟩ rfl (Nat.le_of_ble_eq_true rfl) dX9_takesWood_19) (fun H locs w => ?_)
    refine lv_iconst (v := 1) hx hb dX9_takesWood_22 (by decide) ?_
    rw [hQ]
    exact rZ (F := CW ca ad) C w (by decide) h dX9_takesWood_23
  · have h := it_t h c1
    refine lv_iconst (v := 0) hx hb dX9_takesWood_9 (by decide) ?_
    rw [hQ]
    exact rZ (F := CW ca ad) C w (by decide) h dX9_takesWood_10
def f_X2_plant_8 (σ : St) (x1 : Int32) : Option (St) := if (7 : Int32) ≤ (σ.1 806) then (some σ) else (cond (ckI (σ.1 806) 7) (cond (ckI (σ.1 806) 7) (some (sI (sE (sE σ 9 (((σ.1 806)).toNatClampNeg) x1) 10 (((σ.1 806)).toNatClampNeg) (0 : Int32)) 806 ((σ.1 806) + (1 : Int32)))) none) none)
abbrev rm_X2_plant_8 : Room := { frames := 0, cells := 0, slots := 0, locals := 0 }
set_option maxHeartbeats 4000000 in
set_option maxRecDepth 100000 in
theorem c_X2_plant_8 (l : Launch) (D : va_G) (ca : Nat → ClassId) (ad : Nat → Nat) (σ : St) (x1 : Int32) (sz : Nat) (out : St) (hf : f_X2_plant_8 σ x1 = some out) : Met l yX2_plant (.code yX2_plant cX2_plant 2 none :: WL) rm_X2_plant_8 (PreC D ca (CW ca ad σ) sz [.ref (ad 8), .int x1]) (PostV D (va_A (CW ca ad σ) sz) (CW ca ad out)) 0 0 (va_A (CW ca ad σ) sz) := by
  refine Met.ofW (cc := cX2_plant) (maxL := 2) (ret := none) (by decide) rfl ?_
  intro p e s m args below meth c s₁ B hml hv
  obtain ⟨rfl, hsz, hP, hK, hD, hN⟩ := hv
  subst hsz
  have C := Cx.mk (own := RX2) B hml rfl hK hN (ws := (CW ca ad σ))
  have w : Wd (va_A (CW ca ad σ) s.heap.size) s D (CW ca ad σ) s.heap [] := ⟨hP, hD.self, va_S.rf⟩
  have hl := lv_entry ([.ref (ad 8), .int x1]) (n := 2) (Nat.le_of_ble_eq_true rfl)
  rw [lg_entry_eq]
  generalize (lg_sl ([.ref (ad 8), .int x1]) ++ List.replicate (2 - (lg_sl ([.ref (ad 8), .int x1])).length) Slot.unset).toArray = ls at hl ⊢
  have hl : lv_has ls 2 [(0, .ref (ad 8)), (1, .int x1)] := hl
  change W p l e rm_X2_plant_8 s m _ below meth c _ [] 0 0 _ _
  clear B hP hD hK hN hml
  generalize va_A (CW ca ad σ) s.heap.size = A at C w ⊢
  generalize ([.ref (ad 8), .int x1] : List Value).toArray = av at C ⊢
  obtain ⟨Q, hQ⟩ : ∃ Q, Q = MQ below (PostV D A (CW ca ad out)) av s 0 0 A := ⟨_, rfl⟩
  rw [← hQ]
  have hx := C.1
  have hb := C.2.1
  have h := hf
  unfold f_X2_plant_8 at h
  refine lv_aload_n hx hb dX2_plant_0 rfl (lv_at hl 0 rfl) ?_
  refine gC8_6 (v := (σ.1 806)) C w rfl wl_126 dX2_plant_1 ?_
  refine lv_bipush (v := 7) hx hb dX2_plant_4 (by decide) ?_
  refine lv_icmp_ge (tgt := 39) hx hb dX2_plant_6 (by decide) (fun c1 => ?_) (fun c1 => ?_)
  · have h := it_t h c1
    rw [hQ]
    exact rV (F := CW ca ad) C w h dX2_plant_39
  · have h := it_f h c1
    refine lv_aload_n hx hb dX2_plant_9 rfl (lv_at hl 0 rfl) ?_
    refine gC8_0 C w wl_70 dX2_plant_10 ?_
    refine lv_aload_n hx hb dX2_plant_13 rfl (lv_at hl 0 rfl) ?_
    refine gC8_6 (v := (σ.1 806)) C w rfl wl_126 dX2_plant_14 ?_
    refine lv_iload_n hx hb dX2_plant_17 rfl (lv_at hl 1 rfl) ?_
    obtain ⟨i2, h⟩ := ck_t h
    refine stC9 (j := ((σ.1 806)).toNatClampNeg) C w i2 rfl dX2_plant_18 (fun H locs w => ?_)
    refine lv_aload_n hx hb dX2_plant_19 rfl (lv_at hl 0 rfl) ?_
    refine gC8_1 C w wl_71 dX2_plant_20 ?_
    refine lv_aload_n hx hb dX2_plant_23 rfl (lv_at hl 0 rfl) ?_
    refine gC8_6 (v := (σ.1 806)) C w rfl wl_126 dX2_plant_24 ?_
    refine lv_iconst (v := 0) hx hb dX2_plant_27 (by decide) ?_
    obtain ⟨i3, h⟩ := ck_t h
    refine stC10 (j := ((σ.1 806)).toNatClampNeg) C w i3 rfl dX2_plant_28 (fun H locs w => ?_)
    refine lv_aload_n hx hb dX2_plant_29 rfl (lv_at hl 0 rfl) ?_
    refine lv_dup hx hb dX2_plant_30 rfl ?_
    refine gC8_6 (v := (σ.1 806)) C w rfl wl_126 dX2_plant_31 ?_
    refine lv_iconst (v := 1) hx hb dX2_plant_34 (by decide) ?_
    refine lv_iadd hx hb dX2_plant_35 ?_
    refine pC8_6 C w wl_126 dX2_plant_36 (fun H locs w => ?_)
    rw [hQ]
    exact rV (F := CW ca ad) C w h dX2_plant_39
theorem hd_X9_takesTree : yX9_takesTree.cls = RX9 ∧ yX9_takesTree.cls ≠ "java/lang/invoke/MethodHandle" ∧ yX9_takesTree.cls ≠ "java/lang/invoke/VarHandle" ∧ (parseMethodDescriptor yX9_takesTree.desc).map (fun d => d.parameters.length) = some 0 := by decide +kernel
def f_X9_takesTree (σ : St) : Option (Int32 × St) := (f_X9_takesNumber σ (5 : Int32)).bind fun q1 => if q1.1 = 0 then (some ((0 : Int32), q1.2)) else ((f_X2_plant_8 q1.2 (q1.2.1 4106)).bind fun q2 => some ((1 : Int32), q2))
abbrev rm_X9_takesTree : Room := { frames := 3, cells := 0, slots := 0, locals := 180 }
set_option maxHeartbeats 4000000 in
set_option maxRecDepth 100000 in
theorem c_X9_takesTree (l : Launch) (D : va_G) (ca : Nat → ClassId) (ad : Nat → Nat) (σ : St)  (sz : Nat) (out : Int32 × St) (hf : f_X9_takesTree σ  = some out) : Met l yX9_takesTree (.code yX9_takesTree cX9_takesTree 1 (some .boolean) :: WL) rm_X9_takesTree (PreC D ca (CW ca ad σ) sz [.ref (ad 41)]) (PostI D (va_A (CW ca ad σ) sz) (CW ca ad out.2) out.1) 0 0 (va_A (CW ca ad σ) sz) := by
  refine Met.ofW (cc := cX9_takesTree) (maxL := 1) (ret := (some .boolean)) (by decide) rfl ?_
  intro p e s m args below meth c s₁ B hml hv
  obtain ⟨rfl, hsz, hP, hK, hD, hN⟩ := hv
  subst hsz
  have C := Cx.mk (own := RX9) B hml rfl hK hN (ws := (CW ca ad σ))
  have w : Wd (va_A (CW ca ad σ) s.heap.size) s D (CW ca ad σ) s.heap [] := ⟨hP, hD.self, va_S.rf⟩
  have hl := lv_entry ([.ref (ad 41)]) (n := 1) (Nat.le_of_ble_eq_true rfl)
  rw [lg_entry_eq]
  generalize (lg_sl ([.ref (ad 41)]) ++ List.replicate (1 - (lg_sl ([.ref (ad 41)])).length) Slot.unset).toArray = ls at hl ⊢
  have hl : lv_has ls 1 [(0, .ref (ad 41))] := hl
  change W p l e rm_X9_takesTree s m _ below meth c _ [] 0 0 _ _
  clear B hP hD hK hN hml
  generalize va_A (CW ca ad σ) s.heap.size = A at C w ⊢
  generalize ([.ref (ad 41)] : List Value).toArray = av at C ⊢
  obtain ⟨Q, hQ⟩ : ∃ Q, Q = MQ below (PostI D A (CW ca ad out.2) out.1) av s 0 0 A := ⟨_, rfl⟩
  rw [← hQ]
  have hx := C.1
  have hb := C.2.1
  have h := hf
  unfold f_X9_takesTree at h
  refine lv_aload_n hx hb dX9_takesTree_0 rfl (lv_at hl 0 rfl) ?_
  refine lv_iconst (v := 5) hx hb dX9_takesTree_1 (by decide) ?_
  obtain ⟨q1, hq1, h⟩ := ob_t h
  refine res_i C w (run_V (As := [.int (5 : Int32)]) (rest := []) C w hl.1 (recvC41 C w) (c_X9_takesNumber l D ca ad _ (5 : Int32) _ q1 hq1) rfl rfl wl_307 wl_308 wl_309 wl_47 wl_310 hd_X9_takesNumber rfl ⟨Nat.le_of_ble_eq_true rfl, Nat.le_of_ble_eq_true rfl⟩ rfl (Nat.le_of_ble_eq_true rfl) dX9_takesTree_2) (fun H locs w => ?_)
  refine lv_if_ne (tgt := 10) hx hb dX9_takesTree_5 (by decide) (fun c1 => ?_) (fun c1 => ?_)
  · have h := it_f h c1
    refine lv_aload_n hx hb dX9_takesTree_10 rfl (lv_at hl 0 rfl) ?_
    refine gC41_1 C w wl_89 dX9_takesTree_11 ?_
    refine lv_aload_n hx hb dX9_takesTree_14 rfl (lv_at hl 0 rfl) ?_
    refine gC41_6 (v := (q1.2.1 4106)) C w rfl wl_236 dX9_takesTree_15 ?_
    obtain ⟨q2, hq2, h⟩ := ob_t h
    refine res_v C w (run_V (As := [.int (q1.2.1 4106)]) (rest := []) C w hl.1 (recvC8 C w) (c_X2_plant_8 l D ca ad _ (q1.2.1 4106) _ q2 hq2) rfl rfl wl_315 wl_159 wl_160 wl_33 wl_161 hd_X2_plant rfl ⟨Nat.le_of_ble_eq_true rfl, Nat.le_of_ble_eq_true rfl⟩ rfl (Nat.le_of_ble_eq_true rfl) dX9_takesTree_18) (fun H locs w => ?_)
    refine lv_iconst (v := 1) hx hb dX9_takesTree_21 (by decide) ?_
    rw [hQ]
    exact rZ (F := CW ca ad) C w (by decide) h dX9_takesTree_22
  · have h := it_t h c1
    refine lv_iconst (v := 0) hx hb dX9_takesTree_8 (by decide) ?_
    rw [hQ]
    exact rZ (F := CW ca ad) C w (by decide) h dX9_takesTree_9
def f_X2_join_8 (σ : St) (x1 : Int32) (x2 : Int32) (x3 : Int32) : Option (St) := cond (ckI x1 7) (cond (ckI x1 7) (cond (ckI x2 7) (cond (ckI x2 7) (some (sE (sE σ 10 x1.toNatClampNeg (((σ.2.2 10 x1.toNatClampNeg) &&& (((1 : Int32) <<< (x2 &&& 31)) ^^^ (-1 : Int32))) ||| (x3 <<< (x2 &&& 31)))) 10 x2.toNatClampNeg ((((sE σ 10 x1.toNatClampNeg (((σ.2.2 10 x1.toNatClampNeg) &&& (((1 : Int32) <<< (x2 &&& 31)) ^^^ (-1 : Int32))) ||| (x3 <<< (x2 &&& 31)))).2.2 10 x2.toNatClampNeg) &&& (((1 : Int32) <<< (x1 &&& 31)) ^^^ (-1 : Int32))) ||| (x3 <<< (x1 &&& 31))))) none) none) none) none
abbrev rm_X2_join_8 : Room := { frames := 0, cells := 0, slots := 0, locals := 0 }
set_option maxHeartbeats 4000000 in
set_option maxRecDepth 100000 in
theorem c_X2_join_8 (l : Launch) (D : va_G) (ca : Nat → ClassId) (ad : Nat → Nat) (σ : St) (x1 : Int32) (x2 : Int32) (x3 : Int32) (sz : Nat) (out : St) (hf : f_X2_join_8 σ x1 x2 x3 = some out) : Met l yX2_join (.code yX2_join cX2_join 4 none :: WL) rm_X2_join_8 (PreC D ca (CW ca ad σ) sz [.ref (ad 8), .int x1, .int x2, .int x3]) (PostV D (va_A (CW ca ad σ) sz) (CW ca ad out)) 0 0 (va_A (CW ca ad σ) sz) := by
  refine Met.ofW (cc := cX2_join) (maxL := 4) (ret := none) (by decide) rfl ?_
  intro p e s m args below meth c s₁ B hml hv
  obtain ⟨rfl, hsz, hP, hK, hD, hN⟩ := hv
  subst hsz
  have C := Cx.mk (own := RX2) B hml rfl hK hN (ws := (CW ca ad σ))
  have w : Wd (va_A (CW ca ad σ) s.heap.size) s D (CW ca ad σ) s.heap [] := ⟨hP, hD.self, va_S.rf⟩
  have hl := lv_entry ([.ref (ad 8), .int x1, .int x2, .int x3]) (n := 4) (Nat.le_of_ble_eq_true rfl)
  rw [lg_entry_eq]
  generalize (lg_sl ([.ref (ad 8), .int x1, .int x2, .int x3]) ++ List.replicate (4 - (lg_sl ([.ref (ad 8), .int x1, .int x2, .int x3])).length) Slot.unset).toArray = ls at hl ⊢
  have hl : lv_has ls 4 [(0, .ref (ad 8)), (1, .int x1), (2, .int x2), (3, .int x3)] := hl
  change W p l e rm_X2_join_8 s m _ below meth c _ [] 0 0 _ _
  clear B hP hD hK hN hml
  generalize va_A (CW ca ad σ) s.heap.size = A at C w ⊢
  generalize ([.ref (ad 8), .int x1, .int x2, .int x3] : List Value).toArray = av at C ⊢
  obtain ⟨Q, hQ⟩ : ∃ Q, Q = MQ below (PostV D A (CW ca ad out)) av s 0 0 A := ⟨_, rfl⟩
  rw [← hQ]
  have hx := C.1
  have hb := C.2.1
  have h := hf
  unfold f_X2_join_8 at h
  refine lv_aload_n hx hb dX2_join_0 rfl (lv_at hl 0 rfl) ?_
  refine gC8_1 C w wl_71 dX2_join_1 ?_
  refine lv_iload_n hx hb dX2_join_4 rfl (lv_at hl 1 rfl) ?_
  refine lv_aload_n hx hb dX2_join_5 rfl (lv_at hl 0 rfl) ?_
  refine gC8_1 C w wl_71 dX2_join_6 ?_
  refine lv_iload_n hx hb dX2_join_9 rfl (lv_at hl 1 rfl) ?_
  obtain ⟨i1, h⟩ := ck_t h
  refine ldC10 (v := (σ.2.2 10 x1.toNatClampNeg)) C w i1 rfl dX2_join_10 ?_
  refine lv_iconst (v := 1) hx hb dX2_join_11 (by decide) ?_
  refine lv_iload_n hx hb dX2_join_12 rfl (lv_at hl 2 rfl) ?_
  refine lv_ishl hx hb dX2_join_13 ?_
  refine lv_iconst (v := -1) hx hb dX2_join_14 (by decide) ?_
  refine lv_ixor hx hb dX2_join_15 ?_
  refine lv_iand hx hb dX2_join_16 ?_
  refine lv_iload_n hx hb dX2_join_17 rfl (lv_at hl 3 rfl) ?_
  refine lv_iload_n hx hb dX2_join_18 rfl (lv_at hl 2 rfl) ?_
  refine lv_ishl hx hb dX2_join_19 ?_
  refine lv_ior hx hb dX2_join_20 ?_
  obtain ⟨i2, h⟩ := ck_t h
  refine stC10 (j := x1.toNatClampNeg) C w i2 rfl dX2_join_21 (fun H locs w => ?_)
  refine lv_aload_n hx hb dX2_join_22 rfl (lv_at hl 0 rfl) ?_
  refine gC8_1 C w wl_71 dX2_join_23 ?_
  refine lv_iload_n hx hb dX2_join_26 rfl (lv_at hl 2 rfl) ?_
  refine lv_aload_n hx hb dX2_join_27 rfl (lv_at hl 0 rfl) ?_
  refine gC8_1 C w wl_71 dX2_join_28 ?_
  refine lv_iload_n hx hb dX2_join_31 rfl (lv_at hl 2 rfl) ?_
  obtain ⟨i3, h⟩ := ck_t h
  refine ldC10 (v := ((sE σ 10 x1.toNatClampNeg (((σ.2.2 10 x1.toNatClampNeg) &&& (((1 : Int32) <<< (x2 &&& 31)) ^^^ (-1 : Int32))) ||| (x3 <<< (x2 &&& 31)))).2.2 10 x2.toNatClampNeg)) C w i3 rfl dX2_join_32 ?_
  refine lv_iconst (v := 1) hx hb dX2_join_33 (by decide) ?_
  refine lv_iload_n hx hb dX2_join_34 rfl (lv_at hl 1 rfl) ?_
  refine lv_ishl hx hb dX2_join_35 ?_
  refine lv_iconst (v := -1) hx hb dX2_join_36 (by decide) ?_
  refine lv_ixor hx hb dX2_join_37 ?_
  refine lv_iand hx hb dX2_join_38 ?_
  refine lv_iload_n hx hb dX2_join_39 rfl (lv_at hl 3 rfl) ?_
  refine lv_iload_n hx hb dX2_join_40 rfl (lv_at hl 1 rfl) ?_
  refine lv_ishl hx hb dX2_join_41 ?_
  refine lv_ior hx hb dX2_join_42 ?_
  obtain ⟨i4, h⟩ := ck_t h
  refine stC10 (j := x2.toNatClampNeg) C w i4 rfl dX2_join_43 (fun H locs w => ?_)
  rw [hQ]
  exact rV (F := CW ca ad) C w h dX2_join_44
theorem hd_X9_takesTouch : yX9_takesTouch.cls = RX9 ∧ yX9_takesTouch.cls ≠ "java/lang/invoke/MethodHandle" ∧ yX9_takesTouch.cls ≠ "java/lang/invoke/VarHandle" ∧ (parseMethodDescriptor yX9_takesTouch.desc).map (fun d => d.parameters.length) = some 0 := by decide +kernel
def f_X9_takesTouch (σ : St) : Option (Int32 × St) := (f_X9_takesNumber σ ((σ.1 806) - (1 : Int32))).bind fun q1 => if q1.1 = 0 then (some ((0 : Int32), q1.2)) else ((f_X9_takesNumber q1.2 ((q1.2.1 806) - (1 : Int32))).bind fun q2 => if q2.1 = 0 then (some ((0 : Int32), q2.2)) else (if (q2.2.1 4106) = (q1.2.1 4106) then (some ((0 : Int32), q2.2)) else ((f_X2_join_8 q2.2 (q1.2.1 4106) (q2.2.1 4106) (1 : Int32)).bind fun q3 => some ((1 : Int32), q3))))
abbrev rm_X9_takesTouch : Room := { frames := 3, cells := 0, slots := 0, locals := 180 }
set_option maxHeartbeats 4000000 in
set_option maxRecDepth 100000 in
theorem c_X9_takesTouch (l : Launch) (D : va_G) (ca : Nat → ClassId) (ad : Nat → Nat) (σ : St)  (sz : Nat) (out : Int32 × St) (hf : f_X9_takesTouch σ  = some out) : Met l yX9_takesTouch (.code yX9_takesTouch cX9_takesTouch 2 (some .boolean) :: WL) rm_X9_takesTouch (PreC D ca (CW ca ad σ) sz [.ref (ad 41)]) (PostI D (va_A (CW ca ad σ) sz) (CW ca ad out.2) out.1) 0 0 (va_A (CW ca ad σ) sz) := by
  refine Met.ofW (cc := cX9_takesTouch) (maxL := 2) (ret := (some .boolean)) (by decide) rfl ?_
  intro p e s m args below meth c s₁ B hml hv
  obtain ⟨rfl, hsz, hP, hK, hD, hN⟩ := hv
  subst hsz
  have C := Cx.mk (own := RX9) B hml rfl hK hN (ws := (CW ca ad σ))
  have w : Wd (va_A (CW ca ad σ) s.heap.size) s D (CW ca ad σ) s.heap [] := ⟨hP, hD.self, va_S.rf⟩
  have hl := lv_entry ([.ref (ad 41)]) (n := 2) (Nat.le_of_ble_eq_true rfl)
  rw [lg_entry_eq]
  generalize (lg_sl ([.ref (ad 41)]) ++ List.replicate (2 - (lg_sl ([.ref (ad 41)])).length) Slot.unset).toArray = ls at hl ⊢
  have hl : lv_has ls 2 [(0, .ref (ad 41))] := hl
  change W p l e rm_X9_takesTouch s m _ below meth c _ [] 0 0 _ _
  clear B hP hD hK hN hml
  generalize va_A (CW ca ad σ) s.heap.size = A at C w ⊢
  generalize ([.ref (ad 41)] : List Value).toArray = av at C ⊢
  obtain ⟨Q, hQ⟩ : ∃ Q, Q = MQ below (PostI D A (CW ca ad out.2) out.1) av s 0 0 A := ⟨_, rfl⟩
  rw [← hQ]
  have hx := C.1
  have hb := C.2.1
  have h := hf
  unfold f_X9_takesTouch at h
  refine lv_aload_n hx hb dX9_takesTouch_0 rfl (lv_at hl 0 rfl) ?_
  refine lv_aload_n hx hb dX9_takesTouch_1 rfl (lv_at hl 0 rfl) ?_
  refine gC41_1 C w wl_89 dX9_takesTouch_2 ?_
  refine gC8_6 (v := (σ.1 806)) C w rfl wl_249 dX9_takesTouch_5 ?_
  refine lv_iconst (v := 1) hx hb dX9_takesTouch_8 (by decide) ?_
  refine lv_isub hx hb dX9_takesTouch_9 ?_
  obtain ⟨q1, hq1, h⟩ := ob_t h
  refine res_i C w (run_V (As := [.int ((σ.1 806) - (1 : Int32))]) (rest := []) C w hl.1 (recvC41 C w) (c_X9_takesNumber l D ca ad _ ((σ.1 806) - (1 : Int32)) _ q1 hq1) rfl rfl wl_307 wl_308 wl_309 wl_47 wl_310 hd_X9_takesNumber rfl ⟨Nat.le_of_ble_eq_true rfl, Nat.le_of_ble_eq_true rfl⟩ rfl (Nat.le_of_ble_eq_true rfl) dX9_takesTouch_10) (fun H locs w => ?_)
  refine lv_if_ne (tgt := 18) hx hb dX9_takesTouch_13 (by decide) (fun c1 => ?_) (fun c1 => ?_)
  · have h := it_f h c1
    refine lv_aload_n hx hb dX9_takesTouch_18 rfl (lv_at hl 0 rfl) ?_
    refine gC41_6 (v := (q1.2.1 4106)) C w rfl wl_236 dX9_takesTouch_19 ?_
    refine lv_istore_n (lv' := [(1, .int (q1.2.1 4106)), (0, .ref (ad 41))]) hx hb dX9_takesTouch_22 rfl hl (by decide) rfl (fun ls hl => ?_)
    refine lv_aload_n hx hb dX9_takesTouch_23 rfl (lv_at hl 1 rfl) ?_
    refine lv_aload_n hx hb dX9_takesTouch_24 rfl (lv_at hl 1 rfl) ?_
    refine gC41_1 C w wl_89 dX9_takesTouch_25 ?_
    refine gC8_6 (v := (q1.2.1 806)) C w rfl wl_249 dX9_takesTouch_28 ?_
    refine lv_iconst (v := 1) hx hb dX9_takesTouch_31 (by decide) ?_
    refine lv_isub hx hb dX9_takesTouch_32 ?_
    obtain ⟨q2, hq2, h⟩ := ob_t h
    refine res_i C w (run_V (As := [.int ((q1.2.1 806) - (1 : Int32))]) (rest := []) C w hl.1 (recvC41 C w) (c_X9_takesNumber l D ca ad _ ((q1.2.1 806) - (1 : Int32)) _ q2 hq2) rfl rfl wl_307 wl_308 wl_309 wl_47 wl_310 hd_X9_takesNumber rfl ⟨Nat.le_of_ble_eq_true rfl, Nat.le_of_ble_eq_true rfl⟩ rfl (Nat.le_of_ble_eq_true rfl) dX9_takesTouch_33) (fun H locs w => ?_)
    refine lv_if_eq (tgt := 47) hx hb dX9_takesTouch_36 (by decide) (fun c2 => ?_) (fun c2 => ?_)
    · have h := it_t h c2
      refine lv_iconst (v := 0) hx hb dX9_takesTouch_47 (by decide) ?_
      rw [hQ]
      exact rZ (F := CW ca ad) C w (by decide) h dX9_takesTouch_48
    · have h := it_f h c2
      refine lv_aload_n hx hb dX9_takesTouch_39 rfl (lv_at hl 1 rfl) ?_
      refine gC41_6 (v := (q2.2.1 4106)) C w rfl wl_236 dX9_takesTouch_40 ?_
      refine lv_iload_n hx hb dX9_takesTouch_43 rfl (lv_at hl 0 rfl) ?_
      refine lv_icmp_ne (tgt := 49) hx hb dX9_takesTouch_44 (by decide) (fun c3 => ?_) (fun c3 => ?_)
      · have h := it_f h c3
        refine lv_aload_n hx hb dX9_takesTouch_49 rfl (lv_at hl 1 rfl) ?_
        refine gC41_1 C w wl_89 dX9_takesTouch_50 ?_
        refine lv_iload_n hx hb dX9_takesTouch_53 rfl (lv_at hl 0 rfl) ?_
        refine lv_aload_n hx hb dX9_takesTouch_54 rfl (lv_at hl 1 rfl) ?_
        refine gC41_6 (v := (q2.2.1 4106)) C w rfl wl_236 dX9_takesTouch_55 ?_
        refine lv_iconst (v := 1) hx hb dX9_takesTouch_58 (by decide) ?_
        obtain ⟨q3, hq3, h⟩ := ob_t h
        refine res_v C w (run_V (As := [.int (q1.2.1 4106), .int (q2.2.1 4106), .int (1 : Int32)]) (rest := []) C w hl.1 (recvC8 C w) (c_X2_join_8 l D ca ad _ (q1.2.1 4106) (q2.2.1 4106) (1 : Int32) _ q3 hq3) rfl rfl wl_320 wl_181 wl_182 wl_33 wl_183 hd_X2_join rfl ⟨Nat.le_of_ble_eq_true rfl, Nat.le_of_ble_eq_true rfl⟩ rfl (Nat.le_of_ble_eq_true rfl) dX9_takesTouch_59) (fun H locs w => ?_)
        refine lv_iconst (v := 1) hx hb dX9_takesTouch_62 (by decide) ?_
        rw [hQ]
        exact rZ (F := CW ca ad) C w (by decide) h dX9_takesTouch_63
      · have h := it_t h c3
        refine lv_iconst (v := 0) hx hb dX9_takesTouch_47 (by decide) ?_
        rw [hQ]
        exact rZ (F := CW ca ad) C w (by decide) h dX9_takesTouch_48
  · have h := it_t h c1
    refine lv_iconst (v := 0) hx hb dX9_takesTouch_16 (by decide) ?_
    rw [hQ]
    exact rZ (F := CW ca ad) C w (by decide) h dX9_takesTouch_17
def f_X2_markFelled_8 (σ : St) (x1 : Int32) (x2 : Int32) : Option (St) := some (sI σ 807 (((σ.1 807) &&& (((1 : Int32) <<< (x1 &&& 31)) ^^^ (-1 : Int32))) ||| (x2 <<< (x1 &&& 31))))
abbrev rm_X2_markFelled_8 : Room := { frames := 0, cells := 0, slots := 0, locals := 0 }
set_option maxHeartbeats 4000000 in
set_option maxRecDepth 100000 in
theorem c_X2_markFelled_8 (l : Launch) (D : va_G) (ca : Nat → ClassId) (ad : Nat → Nat) (σ : St) (x1 : Int32) (x2 : Int32) (sz : Nat) (out : St) (hf : f_X2_markFelled_8 σ x1 x2 = some out) : Met l yX2_markFelled (.code yX2_markFelled cX2_markFelled 3 none :: WL) rm_X2_markFelled_8 (PreC D ca (CW ca ad σ) sz [.ref (ad 8), .int x1, .int x2]) (PostV D (va_A (CW ca ad σ) sz) (CW ca ad out)) 0 0 (va_A (CW ca ad σ) sz) := by
  refine Met.ofW (cc := cX2_markFelled) (maxL := 3) (ret := none) (by decide) rfl ?_
  intro p e s m args below meth c s₁ B hml hv
  obtain ⟨rfl, hsz, hP, hK, hD, hN⟩ := hv
  subst hsz
  have C := Cx.mk (own := RX2) B hml rfl hK hN (ws := (CW ca ad σ))
  have w : Wd (va_A (CW ca ad σ) s.heap.size) s D (CW ca ad σ) s.heap [] := ⟨hP, hD.self, va_S.rf⟩
  have hl := lv_entry ([.ref (ad 8), .int x1, .int x2]) (n := 3) (Nat.le_of_ble_eq_true rfl)
  rw [lg_entry_eq]
  generalize (lg_sl ([.ref (ad 8), .int x1, .int x2]) ++ List.replicate (3 - (lg_sl ([.ref (ad 8), .int x1, .int x2])).length) Slot.unset).toArray = ls at hl ⊢
  have hl : lv_has ls 3 [(0, .ref (ad 8)), (1, .int x1), (2, .int x2)] := hl
  change W p l e rm_X2_markFelled_8 s m _ below meth c _ [] 0 0 _ _
  clear B hP hD hK hN hml
  generalize va_A (CW ca ad σ) s.heap.size = A at C w ⊢
  generalize ([.ref (ad 8), .int x1, .int x2] : List Value).toArray = av at C ⊢
  obtain ⟨Q, hQ⟩ : ∃ Q, Q = MQ below (PostV D A (CW ca ad out)) av s 0 0 A := ⟨_, rfl⟩
  rw [← hQ]
  have hx := C.1
  have hb := C.2.1
  have h := hf
  unfold f_X2_markFelled_8 at h
  refine lv_aload_n hx hb dX2_markFelled_0 rfl (lv_at hl 0 rfl) ?_
  refine lv_aload_n hx hb dX2_markFelled_1 rfl (lv_at hl 0 rfl) ?_
  refine gC8_7 (v := (σ.1 807)) C w rfl wl_127 dX2_markFelled_2 ?_
  refine lv_iconst (v := 1) hx hb dX2_markFelled_5 (by decide) ?_
  refine lv_iload_n hx hb dX2_markFelled_6 rfl (lv_at hl 1 rfl) ?_
  refine lv_ishl hx hb dX2_markFelled_7 ?_
  refine lv_iconst (v := -1) hx hb dX2_markFelled_8 (by decide) ?_
  refine lv_ixor hx hb dX2_markFelled_9 ?_
  refine lv_iand hx hb dX2_markFelled_10 ?_
  refine lv_iload_n hx hb dX2_markFelled_11 rfl (lv_at hl 2 rfl) ?_
  refine lv_iload_n hx hb dX2_markFelled_12 rfl (lv_at hl 1 rfl) ?_
  refine lv_ishl hx hb dX2_markFelled_13 ?_
  refine lv_ior hx hb dX2_markFelled_14 ?_
  refine pC8_7 C w wl_127 dX2_markFelled_15 (fun H locs w => ?_)
  rw [hQ]
  exact rV (F := CW ca ad) C w h dX2_markFelled_18
theorem hd_X9_takesFelled : yX9_takesFelled.cls = RX9 ∧ yX9_takesFelled.cls ≠ "java/lang/invoke/MethodHandle" ∧ yX9_takesFelled.cls ≠ "java/lang/invoke/VarHandle" ∧ (parseMethodDescriptor yX9_takesFelled.desc).map (fun d => d.parameters.length) = some 0 := by decide +kernel
def f_X9_takesFelled (σ : St) : Option (Int32 × St) := (f_X9_takesNumber σ ((σ.1 806) - (1 : Int32))).bind fun q1 => if q1.1 = 0 then (some ((0 : Int32), q1.2)) else ((f_X2_markFelled_8 q1.2 (q1.2.1 4106) (1 : Int32)).bind fun q2 => some ((1 : Int32), q2))
abbrev rm_X9_takesFelled : Room := { frames := 3, cells := 0, slots := 0, locals := 180 }
set_option maxHeartbeats 4000000 in
set_option maxRecDepth 100000 in
theorem c_X9_takesFelled (l : Launch) (D : va_G) (ca : Nat → ClassId) (ad : Nat → Nat) (σ : St)  (sz : Nat) (out : Int32 × St) (hf : f_X9_takesFelled σ  = some out) : Met l yX9_takesFelled (.code yX9_takesFelled cX9_takesFelled 1 (some .boolean) :: WL) rm_X9_takesFelled (PreC D ca (CW ca ad σ) sz [.ref (ad 41)]) (PostI D (va_A (CW ca ad σ) sz) (CW ca ad out.2) out.1) 0 0 (va_A (CW ca ad σ) sz) := by
  refine Met.ofW (cc := cX9_takesFelled) (maxL := 1) (ret := (some .boolean)) (by decide) rfl ?_
  intro p e s m args below meth c s₁ B hml hv
  obtain ⟨rfl, hsz, hP, hK, hD, hN⟩ := hv
  subst hsz
  have C := Cx.mk (own := RX9) B hml rfl hK hN (ws := (CW ca ad σ))
  have w : Wd (va_A (CW ca ad σ) s.heap.size) s D (CW ca ad σ) s.heap [] := ⟨hP, hD.self, va_S.rf⟩
  have hl := lv_entry ([.ref (ad 41)]) (n := 1) (Nat.le_of_ble_eq_true rfl)
  rw [lg_entry_eq]
  generalize (lg_sl ([.ref (ad 41)]) ++ List.replicate (1 - (lg_sl ([.ref (ad 41)])).length) Slot.unset).toArray = ls at hl ⊢
  have hl : lv_has ls 1 [(0, .ref (ad 41))] := hl
  change W p l e rm_X9_takesFelled s m _ below meth c _ [] 0 0 _ _
  clear B hP hD hK hN hml
  generalize va_A (CW ca ad σ) s.heap.size = A at C w ⊢
  generalize ([.ref (ad 41)] : List Value).toArray = av at C ⊢
  obtain ⟨Q, hQ⟩ : ∃ Q, Q = MQ below (PostI D A (CW ca ad out.2) out.1) av s 0 0 A := ⟨_, rfl⟩
  rw [← hQ]
  have hx := C.1
  have hb := C.2.1
  have h := hf
  unfold f_X9_takesFelled at h
  refine lv_aload_n hx hb dX9_takesFelled_0 rfl (lv_at hl 0 rfl) ?_
  refine lv_aload_n hx hb dX9_takesFelled_1 rfl (lv_at hl 0 rfl) ?_
  refine gC41_1 C w wl_89 dX9_takesFelled_2 ?_
  refine gC8_6 (v := (σ.1 806)) C w rfl wl_249 dX9_takesFelled_5 ?_
  refine lv_iconst (v := 1) hx hb dX9_takesFelled_8 (by decide) ?_
  refine lv_isub hx hb dX9_takesFelled_9 ?_
  obtain ⟨q1, hq1, h⟩ := ob_t h
  refine res_i C w (run_V (As := [.int ((σ.1 806) - (1 : Int32))]) (rest := []) C w hl.1 (recvC41 C w) (c_X9_takesNumber l D ca ad _ ((σ.1 806) - (1 : Int32)) _ q1 hq1) rfl rfl wl_307 wl_308 wl_309 wl_47 wl_310 hd_X9_takesNumber rfl ⟨Nat.le_of_ble_eq_true rfl, Nat.le_of_ble_eq_true rfl⟩ rfl (Nat.le_of_ble_eq_true rfl) dX9_takesFelled_10) (fun H locs w => ?_)
  refine lv_if_ne (tgt := 18) hx hb dX9_takesFelled_13 (by decide) (fun c1 => ?_) (fun c1 => ?_)
  · have h := it_f h c1
    refine lv_aload_n hx hb dX9_takesFelled_18 rfl (lv_at hl 0 rfl) ?_
    refine gC41_1 C w wl_89 dX9_takesFelled_19 ?_
    refine lv_aload_n hx hb dX9_takesFelled_22 rfl (lv_at hl 0 rfl) ?_
    refine gC41_6 (v := (q1.2.1 4106)) C w rfl wl_236 dX9_takesFelled_23 ?_
    refine lv_iconst (v := 1) hx hb dX9_takesFelled_26 (by decide) ?_
    obtain ⟨q2, hq2, h⟩ := ob_t h
    refine res_v C w (run_V (As := [.int (q1.2.1 4106), .int (1 : Int32)]) (rest := []) C w hl.1 (recvC8 C w) (c_X2_markFelled_8 l D ca ad _ (q1.2.1 4106) (1 : Int32) _ q2 hq2) rfl rfl wl_325 wl_326 wl_327 wl_33 wl_328 hd_X2_markFelled rfl ⟨Nat.le_of_ble_eq_true rfl, Nat.le_of_ble_eq_true rfl⟩ rfl (Nat.le_of_ble_eq_true rfl) dX9_takesFelled_27) (fun H locs w => ?_)
    refine lv_iconst (v := 1) hx hb dX9_takesFelled_30 (by decide) ?_
    rw [hQ]
    exact rZ (F := CW ca ad) C w (by decide) h dX9_takesFelled_31
  · have h := it_t h c1
    refine lv_iconst (v := 0) hx hb dX9_takesFelled_16 (by decide) ?_
    rw [hQ]
    exact rZ (F := CW ca ad) C w (by decide) h dX9_takesFelled_17
