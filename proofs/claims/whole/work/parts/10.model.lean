theorem hd_X11_in : yX11_in.cls ≠ "java/lang/invoke/MethodHandle" ∧ yX11_in.cls ≠ "java/lang/invoke/VarHandle" ∧ (parseMethodDescriptor yX11_in.desc).map (fun d => d.parameters.length) = some 3 := by decide +kernel
def f_X11_in (x0 : Int64) (x2 : Int64) (x4 : Int64) : Option (Int32) := if (lg_cmp x0 x2) < 0 then (some (0 : Int32)) else (if 0 < (lg_cmp x0 x4) then (some (0 : Int32)) else (some (1 : Int32)))
abbrev rm_X11_in : Room := { frames := 0, cells := 0, slots := 0, locals := 0 }
set_option maxHeartbeats 4000000 in
set_option maxRecDepth 100000 in
theorem c_X11_in (l : Launch) (D : va_G) (ca : Nat → ClassId) (ws : va_W) (x0 : Int64) (x2 : Int64) (x4 : Int64) (sz : Nat) (out : Int32) (hf : f_X11_in x0 x2 x4 = some out) : Met l yX11_in (.code yX11_in cX11_in 6 (some .boolean) :: WL) rm_X11_in (PreC D ca ws sz [.long x0, .long x2, .long x4]) (PostI D (va_A ws sz) ws out) 0 0 (va_A ws sz) := by
  refine Met.ofW (cc := cX11_in) (maxL := 6) (ret := (some .boolean)) (by decide) rfl ?_
  intro p e s m args below meth c s₁ B hml hv
  obtain ⟨rfl, hsz, hP, hK, hD, hN⟩ := hv
  subst hsz
  have C := Cx.mk (own := RX11) B hml rfl hK hN (ws := ws)
  have w : Wd (va_A ws s.heap.size) s D ws s.heap [] := ⟨hP, hD.self, va_S.rf⟩
  have hl := lv_entry ([.long x0, .long x2, .long x4]) (n := 6) (Nat.le_of_ble_eq_true rfl)
  rw [lg_entry_eq]
  generalize (lg_sl ([.long x0, .long x2, .long x4]) ++ List.replicate (6 - (lg_sl ([.long x0, .long x2, .long x4])).length) Slot.unset).toArray = ls at hl ⊢
  have hl : lv_has ls 6 [(0, .long x0), (2, .long x2), (4, .long x4)] := hl
  change W p l e rm_X11_in s m _ below meth c _ [] 0 0 _ _
  clear B hP hD hK hN hml
  generalize va_A ws s.heap.size = A at C w ⊢
  generalize ([.long x0, .long x2, .long x4] : List Value).toArray = av at C ⊢
  obtain ⟨Q, hQ⟩ : ∃ Q, Q = MQ below (PostI D A ws out) av s 0 0 A := ⟨_, rfl⟩
  rw [← hQ]
  have hx := C.1
  have hb := C.2.1
  have h := hf
  unfold f_X11_in at h
  refine lv_lload_n hx hb dX11_in_0 rfl (lv_at hl 0 rfl) ?_
  refine lv_lload_n hx hb dX11_in_1 rfl (lv_at hl 1 rfl) ?_
  refine W.lcmp hx hb dX11_in_2 ?_
  refine lv_if_lt (tgt := 17) hx hb dX11_in_3 (by decide) (fun c1 => ?_) (fun c1 => ?_)
  · have h := it_t h c1
    refine lv_iconst (v := 0) hx hb dX11_in_17 (by decide) ?_
    rw [hQ]
    exact qZ C w (by decide) h dX11_in_18
  · have h := it_f h c1
    refine lv_lload_n hx hb dX11_in_6 rfl (lv_at hl 0 rfl) ?_
    refine lv_lload hx hb dX11_in_7 (lv_at hl 2 rfl) ?_
    refine W.lcmp hx hb dX11_in_9 ?_
    refine lv_if_gt (tgt := 17) hx hb dX11_in_10 (by decide) (fun c2 => ?_) (fun c2 => ?_)
    · have h := it_t h c2
      refine lv_iconst (v := 0) hx hb dX11_in_17 (by decide) ?_
      rw [hQ]
      exact qZ C w (by decide) h dX11_in_18
    · have h := it_f h c2
      refine lv_iconst (v := 1) hx hb dX11_in_13 (by decide) ?_
      refine lv_goto (tgt := 18) hx hb dX11_in_14 (by decide) ?_
      rw [hQ]
      exact qZ C w (by decide) h dX11_in_18
theorem hd_X11_bad : yX11_bad.cls = RX11 ∧ yX11_bad.cls ≠ "java/lang/invoke/MethodHandle" ∧ yX11_bad.cls ≠ "java/lang/invoke/VarHandle" ∧ (parseMethodDescriptor yX11_bad.desc).map (fun d => d.parameters.length) = some 1 := by decide +kernel
def f_X11_bad (σ : St) (x1 : Int32) : Option (Int32 × St) := some (x1, (sE σ 4 0 ((σ.2.2 4 0) + (1 : Int32))))
abbrev rm_X11_bad : Room := { frames := 0, cells := 0, slots := 0, locals := 0 }
set_option maxHeartbeats 4000000 in
set_option maxRecDepth 100000 in
theorem c_X11_bad (l : Launch) (D : va_G) (ca : Nat → ClassId) (ad : Nat → Nat) (σ : St) (x1 : Int32) (sz : Nat) (out : Int32 × St) (hf : f_X11_bad σ x1 = some out) : Met l yX11_bad (.code yX11_bad cX11_bad 2 (some .int) :: WL) rm_X11_bad (PreC D ca (MW ca ad σ) sz [.ref (ad 0), .int x1]) (PostI D (va_A (MW ca ad σ) sz) (MW ca ad out.2) out.1) 0 0 (va_A (MW ca ad σ) sz) := by
  refine Met.ofW (cc := cX11_bad) (maxL := 2) (ret := (some .int)) (by decide) rfl ?_
  intro p e s m args below meth c s₁ B hml hv
  obtain ⟨rfl, hsz, hP, hK, hD, hN⟩ := hv
  subst hsz
  have C := Cx.mk (own := RX11) B hml rfl hK hN (ws := (MW ca ad σ))
  have w : Wd (va_A (MW ca ad σ) s.heap.size) s D (MW ca ad σ) s.heap [] := ⟨hP, hD.self, va_S.rf⟩
  have hl := lv_entry ([.ref (ad 0), .int x1]) (n := 2) (Nat.le_of_ble_eq_true rfl)
  rw [lg_entry_eq]
  generalize (lg_sl ([.ref (ad 0), .int x1]) ++ List.replicate (2 - (lg_sl ([.ref (ad 0), .int x1])).length) Slot.unset).toArray = ls at hl ⊢
  have hl : lv_has ls 2 [(0, .ref (ad 0)), (1, .int x1)] := hl
  change W p l e rm_X11_bad s m _ below meth c _ [] 0 0 _ _
  clear B hP hD hK hN hml
  generalize va_A (MW ca ad σ) s.heap.size = A at C w ⊢
  generalize ([.ref (ad 0), .int x1] : List Value).toArray = av at C ⊢
  obtain ⟨Q, hQ⟩ : ∃ Q, Q = MQ below (PostI D A (MW ca ad out.2) out.1) av s 0 0 A := ⟨_, rfl⟩
  rw [← hQ]
  have hx := C.1
  have hb := C.2.1
  have h := hf
  unfold f_X11_bad at h
  refine lv_aload_n hx hb dX11_bad_0 rfl (lv_at hl 0 rfl) ?_
  refine gM0_3 C w wl_97 dX11_bad_1 ?_
  refine lv_iconst (v := 0) hx hb dX11_bad_4 (by decide) ?_
  refine lv_dup2_11 hx hb dX11_bad_5 rfl rfl ?_
  refine ldM4 (v := (σ.2.2 4 0)) C w (vl (by decide)) rfl dX11_bad_6 ?_
  refine lv_iconst (v := 1) hx hb dX11_bad_7 (by decide) ?_
  refine lv_iadd hx hb dX11_bad_8 ?_
  refine stM4 (j := 0) C w (vl (by decide)) rfl dX11_bad_9 (fun H locs w => ?_)
  refine lv_iload_n hx hb dX11_bad_10 rfl (lv_at hl 1 rfl) ?_
  rw [hQ]
  exact rI (F := MW ca ad) C w h dX11_bad_11
theorem hd_X11_no : yX11_no.cls = RX11 ∧ yX11_no.cls ≠ "java/lang/invoke/MethodHandle" ∧ yX11_no.cls ≠ "java/lang/invoke/VarHandle" ∧ (parseMethodDescriptor yX11_no.desc).map (fun d => d.parameters.length) = some 0 := by decide +kernel
def f_X11_no (σ : St) : Option (Int32 × St) := some ((-3 : Int32), (sE σ 4 1 ((σ.2.2 4 1) + (1 : Int32))))
abbrev rm_X11_no : Room := { frames := 0, cells := 0, slots := 0, locals := 0 }
set_option maxHeartbeats 4000000 in
set_option maxRecDepth 100000 in
theorem c_X11_no (l : Launch) (D : va_G) (ca : Nat → ClassId) (ad : Nat → Nat) (σ : St)  (sz : Nat) (out : Int32 × St) (hf : f_X11_no σ  = some out) : Met l yX11_no (.code yX11_no cX11_no 1 (some .int) :: WL) rm_X11_no (PreC D ca (MW ca ad σ) sz [.ref (ad 0)]) (PostI D (va_A (MW ca ad σ) sz) (MW ca ad out.2) out.1) 0 0 (va_A (MW ca ad σ) sz) := by
  refine Met.ofW (cc := cX11_no) (maxL := 1) (ret := (some .int)) (by decide) rfl ?_
  intro p e s m args below meth c s₁ B hml hv
  obtain ⟨rfl, hsz, hP, hK, hD, hN⟩ := hv
  subst hsz
  have C := Cx.mk (own := RX11) B hml rfl hK hN (ws := (MW ca ad σ))
  have w : Wd (va_A (MW ca ad σ) s.heap.size) s D (MW ca ad σ) s.heap [] := ⟨hP, hD.self, va_S.rf⟩
  have hl := lv_entry ([.ref (ad 0)]) (n := 1) (Nat.le_of_ble_eq_true rfl)
  rw [lg_entry_eq]
  generalize (lg_sl ([.ref (ad 0)]) ++ List.replicate (1 - (lg_sl ([.ref (ad 0)])).length) Slot.unset).toArray = ls at hl ⊢
  have hl : lv_has ls 1 [(0, .ref (ad 0))] := hl
  change W p l e rm_X11_no s m _ below meth c _ [] 0 0 _ _
  clear B hP hD hK hN hml
  generalize va_A (MW ca ad σ) s.heap.size = A at C w ⊢
  generalize ([.ref (ad 0)] : List Value).toArray = av at C ⊢
  obtain ⟨Q, hQ⟩ : ∃ Q, Q = MQ below (PostI D A (MW ca ad out.2) out.1) av s 0 0 A := ⟨_, rfl⟩
  rw [← hQ]
  have hx := C.1
  have hb := C.2.1
  have h := hf
  unfold f_X11_no at h
  refine lv_aload_n hx hb dX11_no_0 rfl (lv_at hl 0 rfl) ?_
  refine gM0_3 C w wl_97 dX11_no_1 ?_
  refine lv_iconst (v := 1) hx hb dX11_no_4 (by decide) ?_
  refine lv_dup2_11 hx hb dX11_no_5 rfl rfl ?_
  refine ldM4 (v := (σ.2.2 4 1)) C w (vl (by decide)) rfl dX11_no_6 ?_
  refine lv_iconst (v := 1) hx hb dX11_no_7 (by decide) ?_
  refine lv_iadd hx hb dX11_no_8 ?_
  refine stM4 (j := 1) C w (vl (by decide)) rfl dX11_no_9 (fun H locs w => ?_)
  refine lv_bipush (v := -3) hx hb dX11_no_10 (by decide) ?_
  rw [hQ]
  exact rI (F := MW ca ad) C w h dX11_no_12
theorem hd_X11_full : yX11_full.cls = RX11 ∧ yX11_full.cls ≠ "java/lang/invoke/MethodHandle" ∧ yX11_full.cls ≠ "java/lang/invoke/VarHandle" ∧ (parseMethodDescriptor yX11_full.desc).map (fun d => d.parameters.length) = some 0 := by decide +kernel
def f_X11_full (σ : St) : Option (Int32 × St) := some ((-4 : Int32), (sE σ 4 2 ((σ.2.2 4 2) + (1 : Int32))))
abbrev rm_X11_full : Room := { frames := 0, cells := 0, slots := 0, locals := 0 }
set_option maxHeartbeats 4000000 in
set_option maxRecDepth 100000 in
theorem c_X11_full (l : Launch) (D : va_G) (ca : Nat → ClassId) (ad : Nat → Nat) (σ : St)  (sz : Nat) (out : Int32 × St) (hf : f_X11_full σ  = some out) : Met l yX11_full (.code yX11_full cX11_full 1 (some .int) :: WL) rm_X11_full (PreC D ca (MW ca ad σ) sz [.ref (ad 0)]) (PostI D (va_A (MW ca ad σ) sz) (MW ca ad out.2) out.1) 0 0 (va_A (MW ca ad σ) sz) := by
  refine Met.ofW (cc := cX11_full) (maxL := 1) (ret := (some .int)) (by decide) rfl ?_
  intro p e s m args below meth c s₁ B hml hv
  obtain ⟨rfl, hsz, hP, hK, hD, hN⟩ := hv
  subst hsz
  have C := Cx.mk (own := RX11) B hml rfl hK hN (ws := (MW ca ad σ))
  have w : Wd (va_A (MW ca ad σ) s.heap.size) s D (MW ca ad σ) s.heap [] := ⟨hP, hD.self, va_S.rf⟩
  have hl := lv_entry ([.ref (ad 0)]) (n := 1) (Nat.le_of_ble_eq_true rfl)
  rw [lg_entry_eq]
  generalize (lg_sl ([.ref (ad 0)]) ++ List.replicate (1 - (lg_sl ([.ref (ad 0)])).length) Slot.unset).toArray = ls at hl ⊢
  have hl : lv_has ls 1 [(0, .ref (ad 0))] := hl
  change W p l e rm_X11_full s m _ below meth c _ [] 0 0 _ _
  clear B hP hD hK hN hml
  generalize va_A (MW ca ad σ) s.heap.size = A at C w ⊢
  generalize ([.ref (ad 0)] : List Value).toArray = av at C ⊢
  obtain ⟨Q, hQ⟩ : ∃ Q, Q = MQ below (PostI D A (MW ca ad out.2) out.1) av s 0 0 A := ⟨_, rfl⟩
  rw [← hQ]
  have hx := C.1
  have hb := C.2.1
  have h := hf
  unfold f_X11_full at h
  refine lv_aload_n hx hb dX11_full_0 rfl (lv_at hl 0 rfl) ?_
  refine gM0_3 C w wl_97 dX11_full_1 ?_
  refine lv_iconst (v := 2) hx hb dX11_full_4 (by decide) ?_
  refine lv_dup2_11 hx hb dX11_full_5 rfl rfl ?_
  refine ldM4 (v := (σ.2.2 4 2)) C w (vl (by decide)) rfl dX11_full_6 ?_
  refine lv_iconst (v := 1) hx hb dX11_full_7 (by decide) ?_
  refine lv_iadd hx hb dX11_full_8 ?_
  refine stM4 (j := 2) C w (vl (by decide)) rfl dX11_full_9 (fun H locs w => ?_)
  refine lv_bipush (v := -4) hx hb dX11_full_10 (by decide) ?_
  rw [hQ]
  exact rI (F := MW ca ad) C w h dX11_full_12
theorem hd_X11_bits : yX11_bits.cls ≠ "java/lang/invoke/MethodHandle" ∧ yX11_bits.cls ≠ "java/lang/invoke/VarHandle" ∧ (parseMethodDescriptor yX11_bits.desc).map (fun d => d.parameters.length) = some 1 := by decide +kernel
def f_X11_bits_b4 (K4 : Int32 → Int32 → Option (Int32)) (x1 : Int32) (x2 : Int32) : Option (Int32) := if x2 ≤ 0 then (some x1) else (K4 (x1 + (x2 &&& (1 : Int32))) (x2 >>> ((1 : Int32) &&& 31)))
def f_X11_bits_L4 : Nat → Int32 → Int32 → Option (Int32)
  | 0 => fun _ _ => none
  | n + 1 => f_X11_bits_b4 (f_X11_bits_L4 n)
def f_X11_bits (x0 : Int32) : Option (Int32) := f_X11_bits_L4 FU (0 : Int32) x0
abbrev rm_X11_bits : Room := { frames := 0, cells := 0, slots := 0, locals := 0 }
set_option maxHeartbeats 4000000 in
set_option maxRecDepth 100000 in
theorem c_X11_bits (l : Launch) (D : va_G) (ca : Nat → ClassId) (ws : va_W) (x0 : Int32) (sz : Nat) (out : Int32) (hf : f_X11_bits x0 = some out) : Met l yX11_bits (.code yX11_bits cX11_bits 3 (some .int) :: WL) rm_X11_bits (PreC D ca ws sz [.int x0]) (PostI D (va_A ws sz) ws out) 0 0 (va_A ws sz) := by
  refine Met.ofW (cc := cX11_bits) (maxL := 3) (ret := (some .int)) (by decide) rfl ?_
  intro p e s m args below meth c s₁ B hml hv
  obtain ⟨rfl, hsz, hP, hK, hD, hN⟩ := hv
  subst hsz
  have C := Cx.mk (own := RX11) B hml rfl hK hN (ws := ws)
  have w : Wd (va_A ws s.heap.size) s D ws s.heap [] := ⟨hP, hD.self, va_S.rf⟩
  have hl := lv_entry ([.int x0]) (n := 3) (Nat.le_of_ble_eq_true rfl)
  rw [lg_entry_eq]
  generalize (lg_sl ([.int x0]) ++ List.replicate (3 - (lg_sl ([.int x0])).length) Slot.unset).toArray = ls at hl ⊢
  have hl : lv_has ls 3 [(0, .int x0)] := hl
  change W p l e rm_X11_bits s m _ below meth c _ [] 0 0 _ _
  clear B hP hD hK hN hml
  generalize va_A ws s.heap.size = A at C w ⊢
  generalize ([.int x0] : List Value).toArray = av at C ⊢
  obtain ⟨Q, hQ⟩ : ∃ Q, Q = MQ below (PostI D A ws out) av s 0 0 A := ⟨_, rfl⟩
  rw [← hQ]
  have hx := C.1
  have hb := C.2.1
  have L4 : ∀ (n4 : Nat) (x1 : Int32) (x2 : Int32), f_X11_bits_L4 n4 x1 x2 = some out → Bk p l e rm_X11_bits s m av below meth c A D 3 Q ws 4 [(1, .int x1), (2, .int x2)] [] := by
    intro n4
    induction n4 with
    | zero => intro x1 x2 h; exact absurd h (by simp [f_X11_bits_L4])
    | succ n4 ih4 =>
      intro x1 x2 h H locs ls w hl
      change f_X11_bits_b4 (f_X11_bits_L4 n4) x1 x2 = some out at h
      unfold f_X11_bits_b4 at h
      refine lv_iload_n hx hb dX11_bits_4 rfl (lv_at hl 1 rfl) ?_
      refine lv_if_le (tgt := 21) hx hb dX11_bits_5 (by decide) (fun c1 => ?_) (fun c1 => ?_)
      · have h := it_t h c1
        refine lv_iload_n hx hb dX11_bits_21 rfl (lv_at hl 0 rfl) ?_
        rw [hQ]
        exact qI C w h dX11_bits_22
      · have h := it_f h c1
        refine lv_iload_n hx hb dX11_bits_8 rfl (lv_at hl 0 rfl) ?_
        refine lv_iload_n hx hb dX11_bits_9 rfl (lv_at hl 1 rfl) ?_
        refine lv_iconst (v := 1) hx hb dX11_bits_10 (by decide) ?_
        refine lv_iand hx hb dX11_bits_11 ?_
        refine lv_iadd hx hb dX11_bits_12 ?_
        refine lv_istore_n (lv' := [(1, .int (x1 + (x2 &&& (1 : Int32)))), (2, .int x2)]) hx hb dX11_bits_13 rfl hl (by decide) rfl (fun ls hl => ?_)
        refine lv_iload_n hx hb dX11_bits_14 rfl (lv_at hl 1 rfl) ?_
        refine lv_iconst (v := 1) hx hb dX11_bits_15 (by decide) ?_
        refine lv_ishr hx hb dX11_bits_16 ?_
        refine lv_istore_n (lv' := [(2, .int (x2 >>> ((1 : Int32) &&& 31))), (1, .int (x1 + (x2 &&& (1 : Int32))))]) hx hb dX11_bits_17 rfl hl (by decide) rfl (fun ls hl => ?_)
        refine lv_goto (tgt := 4) hx hb dX11_bits_18 (by decide) ?_
        exact ih4 _ _ h _ _ _ w (lv_sub hl [1, 0] rfl)
  have h := hf
  unfold f_X11_bits at h
  refine lv_iconst (v := 0) hx hb dX11_bits_0 (by decide) ?_
  refine lv_istore_n (lv' := [(1, .int (0 : Int32)), (0, .int x0)]) hx hb dX11_bits_1 rfl hl (by decide) rfl (fun ls hl => ?_)
  refine lv_iload_n hx hb dX11_bits_2 rfl (lv_at hl 1 rfl) ?_
  refine lv_istore_n (lv' := [(2, .int x0), (1, .int (0 : Int32)), (0, .int x0)]) hx hb dX11_bits_3 rfl hl (by decide) rfl (fun ls hl => ?_)
  exact L4 FU _ _ h _ _ _ w (lv_sub hl [1, 0] rfl)
theorem hd_X11_has : yX11_has.cls ≠ "java/lang/invoke/MethodHandle" ∧ yX11_has.cls ≠ "java/lang/invoke/VarHandle" ∧ (parseMethodDescriptor yX11_has.desc).map (fun d => d.parameters.length) = some 2 := by decide +kernel
def f_X11_has (x0 : Int32) (x1 : Int32) : Option (Int32) := if ((x0 >>> (x1 &&& 31)) &&& (1 : Int32)) = (1 : Int32) then (some (1 : Int32)) else (some (0 : Int32))
abbrev rm_X11_has : Room := { frames := 0, cells := 0, slots := 0, locals := 0 }
set_option maxHeartbeats 4000000 in
set_option maxRecDepth 100000 in
theorem c_X11_has (l : Launch) (D : va_G) (ca : Nat → ClassId) (ws : va_W) (x0 : Int32) (x1 : Int32) (sz : Nat) (out : Int32) (hf : f_X11_has x0 x1 = some out) : Met l yX11_has (.code yX11_has cX11_has 2 (some .boolean) :: WL) rm_X11_has (PreC D ca ws sz [.int x0, .int x1]) (PostI D (va_A ws sz) ws out) 0 0 (va_A ws sz) := by
  refine Met.ofW (cc := cX11_has) (maxL := 2) (ret := (some .boolean)) (by decide) rfl ?_
  intro p e s m args below meth c s₁ B hml hv
  obtain ⟨rfl, hsz, hP, hK, hD, hN⟩ := hv
  subst hsz
  have C := Cx.mk (own := RX11) B hml rfl hK hN (ws := ws)
  have w : Wd (va_A ws s.heap.size) s D ws s.heap [] := ⟨hP, hD.self, va_S.rf⟩
  have hl := lv_entry ([.int x0, .int x1]) (n := 2) (Nat.le_of_ble_eq_true rfl)
  rw [lg_entry_eq]
  generalize (lg_sl ([.int x0, .int x1]) ++ List.replicate (2 - (lg_sl ([.int x0, .int x1])).length) Slot.unset).toArray = ls at hl ⊢
  have hl : lv_has ls 2 [(0, .int x0), (1, .int x1)] := hl
  change W p l e rm_X11_has s m _ below meth c _ [] 0 0 _ _
  clear B hP hD hK hN hml
  generalize va_A ws s.heap.size = A at C w ⊢
  generalize ([.int x0, .int x1] : List Value).toArray = av at C ⊢
  obtain ⟨Q, hQ⟩ : ∃ Q, Q = MQ below (PostI D A ws out) av s 0 0 A := ⟨_, rfl⟩
  rw [← hQ]
  have hx := C.1
  have hb := C.2.1
  have h := hf
  unfold f_X11_has at h
  refine lv_iload_n hx hb dX11_has_0 rfl (lv_at hl 0 rfl) ?_
  refine lv_iload_n hx hb dX11_has_1 rfl (lv_at hl 1 rfl) ?_
  refine lv_ishr hx hb dX11_has_2 ?_
  refine lv_iconst (v := 1) hx hb dX11_has_3 (by decide) ?_
  refine lv_iand hx hb dX11_has_4 ?_
  refine lv_iconst (v := 1) hx hb dX11_has_5 (by decide) ?_
  refine lv_icmp_ne (tgt := 13) hx hb dX11_has_6 (by decide) (fun c1 => ?_) (fun c1 => ?_)
  · have h := it_f h c1
    refine lv_iconst (v := 0) hx hb dX11_has_13 (by decide) ?_
    rw [hQ]
    exact qZ C w (by decide) h dX11_has_14
  · have h := it_t h c1
    refine lv_iconst (v := 1) hx hb dX11_has_9 (by decide) ?_
    refine lv_goto (tgt := 14) hx hb dX11_has_10 (by decide) ?_
    rw [hQ]
    exact qZ C w (by decide) h dX11_has_14
theorem hd_X11_many : yX11_many.cls = RX11 ∧ yX11_many.cls ≠ "java/lang/invoke/MethodHandle" ∧ yX11_many.cls ≠ "java/lang/invoke/VarHandle" ∧ (parseMethodDescriptor yX11_many.desc).map (fun d => d.parameters.length) = some 0 := by decide +kernel
def f_X11_many (σ : St) : Option (Int32 × St) := some ((σ.2.2 1 0), σ)
abbrev rm_X11_many : Room := { frames := 0, cells := 0, slots := 0, locals := 0 }
set_option maxHeartbeats 4000000 in
set_option maxRecDepth 100000 in
theorem c_X11_many (l : Launch) (D : va_G) (ca : Nat → ClassId) (ad : Nat → Nat) (σ : St)  (sz : Nat) (out : Int32 × St) (hf : f_X11_many σ  = some out) : Met l yX11_many (.code yX11_many cX11_many 1 (some .int) :: WL) rm_X11_many (PreC D ca (MW ca ad σ) sz [.ref (ad 0)]) (PostI D (va_A (MW ca ad σ) sz) (MW ca ad out.2) out.1) 0 0 (va_A (MW ca ad σ) sz) := by
  refine Met.ofW (cc := cX11_many) (maxL := 1) (ret := (some .int)) (by decide) rfl ?_
  intro p e s m args below meth c s₁ B hml hv
  obtain ⟨rfl, hsz, hP, hK, hD, hN⟩ := hv
  subst hsz
  have C := Cx.mk (own := RX11) B hml rfl hK hN (ws := (MW ca ad σ))
  have w : Wd (va_A (MW ca ad σ) s.heap.size) s D (MW ca ad σ) s.heap [] := ⟨hP, hD.self, va_S.rf⟩
  have hl := lv_entry ([.ref (ad 0)]) (n := 1) (Nat.le_of_ble_eq_true rfl)
  rw [lg_entry_eq]
  generalize (lg_sl ([.ref (ad 0)]) ++ List.replicate (1 - (lg_sl ([.ref (ad 0)])).length) Slot.unset).toArray = ls at hl ⊢
  have hl : lv_has ls 1 [(0, .ref (ad 0))] := hl
  change W p l e rm_X11_many s m _ below meth c _ [] 0 0 _ _
  clear B hP hD hK hN hml
  generalize va_A (MW ca ad σ) s.heap.size = A at C w ⊢
  generalize ([.ref (ad 0)] : List Value).toArray = av at C ⊢
  obtain ⟨Q, hQ⟩ : ∃ Q, Q = MQ below (PostI D A (MW ca ad out.2) out.1) av s 0 0 A := ⟨_, rfl⟩
  rw [← hQ]
  have hx := C.1
  have hb := C.2.1
  have h := hf
  unfold f_X11_many at h
  refine lv_aload_n hx hb dX11_many_0 rfl (lv_at hl 0 rfl) ?_
  refine gM0_0 C w wl_94 dX11_many_1 ?_
  refine lv_iconst (v := 0) hx hb dX11_many_4 (by decide) ?_
  refine ldM1 (v := (σ.2.2 1 0)) C w (vl (by decide)) rfl dX11_many_5 ?_
  rw [hQ]
  exact rI (F := MW ca ad) C w h dX11_many_6
theorem hd_X11_isTree : yX11_isTree.cls = RX11 ∧ yX11_isTree.cls ≠ "java/lang/invoke/MethodHandle" ∧ yX11_isTree.cls ≠ "java/lang/invoke/VarHandle" ∧ (parseMethodDescriptor yX11_isTree.desc).map (fun d => d.parameters.length) = some 1 := by decide +kernel
def f_X11_isTree (σ : St) (x1 : Int32) : Option (Int32 × St) := (f_X11_many σ).bind fun q1 => (f_X11_in x1.toInt64 (0 : Int64) (((q1.1 - (1 : Int32))).toInt64)).bind fun q2 => cond (ckZ q2) (some (q2, q1.2)) none
abbrev rm_X11_isTree : Room := { frames := 1, cells := 0, slots := 0, locals := 60 }
set_option maxHeartbeats 4000000 in
set_option maxRecDepth 100000 in
theorem c_X11_isTree (l : Launch) (D : va_G) (ca : Nat → ClassId) (ad : Nat → Nat) (σ : St) (x1 : Int32) (sz : Nat) (out : Int32 × St) (hf : f_X11_isTree σ x1 = some out) : Met l yX11_isTree (.code yX11_isTree cX11_isTree 2 (some .boolean) :: WL) rm_X11_isTree (PreC D ca (MW ca ad σ) sz [.ref (ad 0), .int x1]) (PostI D (va_A (MW ca ad σ) sz) (MW ca ad out.2) out.1) 0 0 (va_A (MW ca ad σ) sz) := by
  refine Met.ofW (cc := cX11_isTree) (maxL := 2) (ret := (some .boolean)) (by decide) rfl ?_
  intro p e s m args below meth c s₁ B hml hv
  obtain ⟨rfl, hsz, hP, hK, hD, hN⟩ := hv
  subst hsz
  have C := Cx.mk (own := RX11) B hml rfl hK hN (ws := (MW ca ad σ))
  have w : Wd (va_A (MW ca ad σ) s.heap.size) s D (MW ca ad σ) s.heap [] := ⟨hP, hD.self, va_S.rf⟩
  have hl := lv_entry ([.ref (ad 0), .int x1]) (n := 2) (Nat.le_of_ble_eq_true rfl)
  rw [lg_entry_eq]
  generalize (lg_sl ([.ref (ad 0), .int x1]) ++ List.replicate (2 - (lg_sl ([.ref (ad 0), .int x1])).length) Slot.unset).toArray = ls at hl ⊢
  have hl : lv_has ls 2 [(0, .ref (ad 0)), (1, .int x1)] := hl
  change W p l e rm_X11_isTree s m _ below meth c _ [] 0 0 _ _
  clear B hP hD hK hN hml
  generalize va_A (MW ca ad σ) s.heap.size = A at C w ⊢
  generalize ([.ref (ad 0), .int x1] : List Value).toArray = av at C ⊢
  obtain ⟨Q, hQ⟩ : ∃ Q, Q = MQ below (PostI D A (MW ca ad out.2) out.1) av s 0 0 A := ⟨_, rfl⟩
  rw [← hQ]
  have hx := C.1
  have hb := C.2.1
  have h := hf
  unfold f_X11_isTree at h
  refine lv_iload_n hx hb dX11_isTree_0 rfl (lv_at hl 1 rfl) ?_
  refine lv_i2l hx hb dX11_isTree_1 rfl ?_
  refine lv_lconst (v := 0) hx hb dX11_isTree_2 (by decide) ?_
  refine lv_aload_n hx hb dX11_isTree_3 rfl (lv_at hl 0 rfl) ?_
  obtain ⟨q1, hq1, h⟩ := ob_t h
  refine res_i C w (run_V (As := []) (rest := [.long (0 : Int64), .long x1.toInt64]) C w hl.1 (recvM0 C w) (c_X11_many l D ca ad _  _ q1 hq1) rfl rfl wl_144 wl_145 wl_146 wl_5 wl_147 hd_X11_many rfl ⟨Nat.le_of_ble_eq_true rfl, Nat.le_of_ble_eq_true rfl⟩ rfl (Nat.le_of_ble_eq_true rfl) dX11_isTree_4) (fun H locs w => ?_)
  refine lv_iconst (v := 1) hx hb dX11_isTree_7 (by decide) ?_
  refine lv_isub hx hb dX11_isTree_8 ?_
  refine lv_i2l hx hb dX11_isTree_9 rfl ?_
  obtain ⟨q2, hq2, h⟩ := ob_t h
  refine res_i C w (run_S (As := [.long x1.toInt64, .long (0 : Int64), .long (((q1.1 - (1 : Int32))).toInt64)]) (rest := []) C w hl.1 (c_X11_in l D ca _ x1.toInt64 (0 : Int64) (((q1.1 - (1 : Int32))).toInt64) _ q2 hq2) rfl rfl wl_137 wl_138 wl_5 wl_139 hd_X11_in rfl ⟨Nat.le_of_ble_eq_true rfl, Nat.le_of_ble_eq_true rfl⟩ rfl (Nat.le_of_ble_eq_true rfl) dX11_isTree_10) (fun H locs w => ?_)
  obtain ⟨z1, h⟩ := cz_t h
  rw [hQ]
  exact rZ (F := MW ca ad) C w z1 h dX11_isTree_13
theorem hd_X11_isLetter : yX11_isLetter.cls ≠ "java/lang/invoke/MethodHandle" ∧ yX11_isLetter.cls ≠ "java/lang/invoke/VarHandle" ∧ (parseMethodDescriptor yX11_isLetter.desc).map (fun d => d.parameters.length) = some 1 := by decide +kernel
def f_X11_isLetter_b41 (x1 : Int32) : Option (Int32) := cond (ckZ x1) (some x1) none
def f_X11_isLetter_b12 (K12 : Int32 → Int32 → Option (Int32)) (x1 : Int32) (x2 : Int32) : Option (Int32) := if x2 ≤ 0 then (f_X11_isLetter_b41 x1) else (if x1 = 0 then (f_X11_isLetter_b41 x1) else ((f_X11_in (((x2 - x2 / (10 : Int32) * (10 : Int32))).toInt64) (1 : Int64) (4 : Int64)).bind fun q1 => K12 q1 (x2 / (10 : Int32))))
def f_X11_isLetter_L12 : Nat → Int32 → Int32 → Option (Int32)
  | 0 => fun _ _ => none
  | n + 1 => f_X11_isLetter_b12 (f_X11_isLetter_L12 n)
def f_X11_isLetter (x0 : Int32) : Option (Int32) := (f_X11_in x0.toInt64 (0 : Int64) (444444 : Int64)).bind fun q1 => f_X11_isLetter_L12 FU q1 x0
abbrev rm_X11_isLetter : Room := { frames := 1, cells := 0, slots := 0, locals := 60 }
set_option maxHeartbeats 4000000 in
set_option maxRecDepth 100000 in
theorem c_X11_isLetter (l : Launch) (D : va_G) (ca : Nat → ClassId) (ws : va_W) (x0 : Int32) (sz : Nat) (out : Int32) (hf : f_X11_isLetter x0 = some out) : Met l yX11_isLetter (.code yX11_isLetter cX11_isLetter 3 (some .boolean) :: WL) rm_X11_isLetter (PreC D ca ws sz [.int x0]) (PostI D (va_A ws sz) ws out) 0 0 (va_A ws sz) := by
  refine Met.ofW (cc := cX11_isLetter) (maxL := 3) (ret := (some .boolean)) (by decide) rfl ?_
  intro p e s m args below meth c s₁ B hml hv
  obtain ⟨rfl, hsz, hP, hK, hD, hN⟩ := hv
  subst hsz
  have C := Cx.mk (own := RX11) B hml rfl hK hN (ws := ws)
  have w : Wd (va_A ws s.heap.size) s D ws s.heap [] := ⟨hP, hD.self, va_S.rf⟩
  have hl := lv_entry ([.int x0]) (n := 3) (Nat.le_of_ble_eq_true rfl)
  rw [lg_entry_eq]
  generalize (lg_sl ([.int x0]) ++ List.replicate (3 - (lg_sl ([.int x0])).length) Slot.unset).toArray = ls at hl ⊢
  have hl : lv_has ls 3 [(0, .int x0)] := hl
  change W p l e rm_X11_isLetter s m _ below meth c _ [] 0 0 _ _
  clear B hP hD hK hN hml
  generalize va_A ws s.heap.size = A at C w ⊢
  generalize ([.int x0] : List Value).toArray = av at C ⊢
  obtain ⟨Q, hQ⟩ : ∃ Q, Q = MQ below (PostI D A ws out) av s 0 0 A := ⟨_, rfl⟩
  rw [← hQ]
  have hx := C.1
  have hb := C.2.1
  have b41 : ∀ (x1 : Int32), f_X11_isLetter_b41 x1 = some out → Bk p l e rm_X11_isLetter s m av below meth c A D 3 Q ws 41 [(1, .int x1)] [] := by
    intro x1 h H locs ls w hl
    unfold f_X11_isLetter_b41 at h
    refine lv_iload_n hx hb dX11_isLetter_41 rfl (lv_at hl 0 rfl) ?_
    obtain ⟨z1, h⟩ := cz_t h
    rw [hQ]
    exact qZ C w z1 h dX11_isLetter_42
  have L12 : ∀ (n12 : Nat) (x1 : Int32) (x2 : Int32), f_X11_isLetter_L12 n12 x1 x2 = some out → Bk p l e rm_X11_isLetter s m av below meth c A D 3 Q ws 12 [(1, .int x1), (2, .int x2)] [] := by
    intro n12
    induction n12 with
    | zero => intro x1 x2 h; exact absurd h (by simp [f_X11_isLetter_L12])
    | succ n12 ih12 =>
      intro x1 x2 h H locs ls w hl
      change f_X11_isLetter_b12 (f_X11_isLetter_L12 n12) x1 x2 = some out at h
      unfold f_X11_isLetter_b12 at h
      refine lv_iload_n hx hb dX11_isLetter_12 rfl (lv_at hl 1 rfl) ?_
      refine lv_if_le (tgt := 41) hx hb dX11_isLetter_13 (by decide) (fun c1 => ?_) (fun c1 => ?_)
      · have h := it_t h c1
        exact b41 _ h _ _ _ w (lv_sub hl [0] rfl)
      · have h := it_f h c1
        refine lv_iload_n hx hb dX11_isLetter_16 rfl (lv_at hl 0 rfl) ?_
        refine lv_if_eq (tgt := 41) hx hb dX11_isLetter_17 (by decide) (fun c2 => ?_) (fun c2 => ?_)
        · have h := it_t h c2
          exact b41 _ h _ _ _ w (lv_sub hl [0] rfl)
        · have h := it_f h c2
          refine lv_iload_n hx hb dX11_isLetter_20 rfl (lv_at hl 1 rfl) ?_
          refine lv_bipush (v := 10) hx hb dX11_isLetter_21 (by decide) ?_
          refine lv_irem hx hb dX11_isLetter_23 (by decide) ?_
          refine lv_i2l hx hb dX11_isLetter_24 rfl ?_
          refine lv_lconst (v := 1) hx hb dX11_isLetter_25 (by decide) ?_
          refine lv_ldc2 (v := 4) hx hb C.ow (C.ts _ wl_528) dX11_isLetter_26 ?_
          obtain ⟨q1, hq1, h⟩ := ob_t h
          refine res_i C w (run_S (As := [.long (((x2 - x2 / (10 : Int32) * (10 : Int32))).toInt64), .long (1 : Int64), .long (4 : Int64)]) (rest := []) C w hl.1 (c_X11_in l D ca _ (((x2 - x2 / (10 : Int32) * (10 : Int32))).toInt64) (1 : Int64) (4 : Int64) _ q1 hq1) rfl rfl wl_137 wl_138 wl_5 wl_139 hd_X11_in rfl ⟨Nat.le_of_ble_eq_true rfl, Nat.le_of_ble_eq_true rfl⟩ rfl (Nat.le_of_ble_eq_true rfl) dX11_isLetter_29) (fun H locs w => ?_)
          refine lv_istore_n (lv' := [(1, .int q1), (2, .int x2)]) hx hb dX11_isLetter_32 rfl hl (by decide) rfl (fun ls hl => ?_)
          refine lv_iload_n hx hb dX11_isLetter_33 rfl (lv_at hl 1 rfl) ?_
          refine lv_bipush (v := 10) hx hb dX11_isLetter_34 (by decide) ?_
          refine lv_idiv hx hb dX11_isLetter_36 (by decide) ?_
          refine lv_istore_n (lv' := [(2, .int (x2 / (10 : Int32))), (1, .int q1)]) hx hb dX11_isLetter_37 rfl hl (by decide) rfl (fun ls hl => ?_)
          refine lv_goto (tgt := 12) hx hb dX11_isLetter_38 (by decide) ?_
          exact ih12 _ _ h _ _ _ w (lv_sub hl [1, 0] rfl)
  have h := hf
  unfold f_X11_isLetter at h
  refine lv_iload_n hx hb dX11_isLetter_0 rfl (lv_at hl 0 rfl) ?_
  refine lv_i2l hx hb dX11_isLetter_1 rfl ?_
  refine lv_lconst (v := 0) hx hb dX11_isLetter_2 (by decide) ?_
  refine lv_ldc2 (v := 444444) hx hb C.ow (C.ts _ wl_527) dX11_isLetter_3 ?_
  obtain ⟨q1, hq1, h⟩ := ob_t h
  refine res_i C w (run_S (As := [.long x0.toInt64, .long (0 : Int64), .long (444444 : Int64)]) (rest := []) C w hl.1 (c_X11_in l D ca _ x0.toInt64 (0 : Int64) (444444 : Int64) _ q1 hq1) rfl rfl wl_137 wl_138 wl_5 wl_139 hd_X11_in rfl ⟨Nat.le_of_ble_eq_true rfl, Nat.le_of_ble_eq_true rfl⟩ rfl (Nat.le_of_ble_eq_true rfl) dX11_isLetter_6) (fun H locs w => ?_)
  refine lv_istore_n (lv' := [(1, .int q1), (0, .int x0)]) hx hb dX11_isLetter_9 rfl hl (by decide) rfl (fun ls hl => ?_)
  refine lv_iload_n hx hb dX11_isLetter_10 rfl (lv_at hl 1 rfl) ?_
  refine lv_istore_n (lv' := [(2, .int x0), (1, .int q1), (0, .int x0)]) hx hb dX11_isLetter_11 rfl hl (by decide) rfl (fun ls hl => ?_)
  exact L12 FU _ _ h _ _ _ w (lv_sub hl [1, 0] rfl)
theorem hd_X11_begin : yX11_begin.cls ≠ "java/lang/invoke/MethodHandle" ∧ yX11_begin.cls ≠ "java/lang/invoke/VarHandle" ∧ (parseMethodDescriptor yX11_begin.desc).map (fun d => d.parameters.length) = some 2 := by decide +kernel
def f_X11_begin_1_b2 (K2 : St → Int32 → Int32 → Option (St)) (σ : St) (x1 : Int32) (x2 : Int32) : Option (St) := if (68 : Int32) ≤ x2 then (some (sE σ 1 2 x1)) else (cond (ckI x2 84) (K2 (sE σ 1 x2.toNatClampNeg (0 : Int32)) x1 (x2 + (1 : Int32))) none)
def f_X11_begin_1_L2 : Nat → St → Int32 → Int32 → Option (St)
  | 0 => fun _ _ _ => none
  | n + 1 => f_X11_begin_1_b2 (f_X11_begin_1_L2 n)
def f_X11_begin_1 (σ : St) (x1 : Int32) : Option (St) := f_X11_begin_1_L2 FU σ x1 (0 : Int32)
abbrev rm_X11_begin_1 : Room := { frames := 0, cells := 0, slots := 0, locals := 0 }
set_option maxHeartbeats 4000000 in
set_option maxRecDepth 100000 in
theorem c_X11_begin_1 (l : Launch) (D : va_G) (ca : Nat → ClassId) (ad : Nat → Nat) (σ : St) (x1 : Int32) (sz : Nat) (out : St) (hf : f_X11_begin_1 σ x1 = some out) : Met l yX11_begin (.code yX11_begin cX11_begin 3 none :: WL) rm_X11_begin_1 (PreC D ca (MW ca ad σ) sz [.ref (ad 1), .int x1]) (PostV D (va_A (MW ca ad σ) sz) (MW ca ad out)) 0 0 (va_A (MW ca ad σ) sz) := by
  refine Met.ofW (cc := cX11_begin) (maxL := 3) (ret := none) (by decide) rfl ?_
  intro p e s m args below meth c s₁ B hml hv
  obtain ⟨rfl, hsz, hP, hK, hD, hN⟩ := hv
  subst hsz
  have C := Cx.mk (own := RX11) B hml rfl hK hN (ws := (MW ca ad σ))
  have w : Wd (va_A (MW ca ad σ) s.heap.size) s D (MW ca ad σ) s.heap [] := ⟨hP, hD.self, va_S.rf⟩
  have hl := lv_entry ([.ref (ad 1), .int x1]) (n := 3) (Nat.le_of_ble_eq_true rfl)
  rw [lg_entry_eq]
  generalize (lg_sl ([.ref (ad 1), .int x1]) ++ List.replicate (3 - (lg_sl ([.ref (ad 1), .int x1])).length) Slot.unset).toArray = ls at hl ⊢
  have hl : lv_has ls 3 [(0, .ref (ad 1)), (1, .int x1)] := hl
  change W p l e rm_X11_begin_1 s m _ below meth c _ [] 0 0 _ _
  clear B hP hD hK hN hml
  generalize va_A (MW ca ad σ) s.heap.size = A at C w ⊢
  generalize ([.ref (ad 1), .int x1] : List Value).toArray = av at C ⊢
  obtain ⟨Q, hQ⟩ : ∃ Q, Q = MQ below (PostV D A (MW ca ad out)) av s 0 0 A := ⟨_, rfl⟩
  rw [← hQ]
  have hx := C.1
  have hb := C.2.1
  have L2 : ∀ (n2 : Nat) (σ : St) (x1 : Int32) (x2 : Int32), f_X11_begin_1_L2 n2 σ x1 x2 = some out → Bk p l e rm_X11_begin_1 s m av below meth c A D 3 Q (MW ca ad σ) 2 [(0, .ref (ad 1)), (1, .int x1), (2, .int x2)] [] := by
    intro n2
    induction n2 with
    | zero => intro σ x1 x2 h; exact absurd h (by simp [f_X11_begin_1_L2])
    | succ n2 ih2 =>
      intro σ x1 x2 h H locs ls w hl
      change f_X11_begin_1_b2 (f_X11_begin_1_L2 n2) σ x1 x2 = some out at h
      unfold f_X11_begin_1_b2 at h
      refine lv_iload_n hx hb dX11_begin_2 rfl (lv_at hl 2 rfl) ?_
      refine lv_bipush (v := 68) hx hb dX11_begin_3 (by decide) ?_
      refine lv_icmp_ge (tgt := 18) hx hb dX11_begin_5 (by decide) (fun c1 => ?_) (fun c1 => ?_)
      · have h := it_t h c1
        refine lv_aload_n hx hb dX11_begin_18 rfl (lv_at hl 0 rfl) ?_
        refine lv_iconst (v := 2) hx hb dX11_begin_19 (by decide) ?_
        refine lv_iload_n hx hb dX11_begin_20 rfl (lv_at hl 1 rfl) ?_
        refine stM1 (j := 2) C w (vl (by decide)) rfl dX11_begin_21 (fun H locs w => ?_)
        rw [hQ]
        exact rV (F := MW ca ad) C w h dX11_begin_22
      · have h := it_f h c1
        refine lv_aload_n hx hb dX11_begin_8 rfl (lv_at hl 0 rfl) ?_
        refine lv_iload_n hx hb dX11_begin_9 rfl (lv_at hl 2 rfl) ?_
        refine lv_iconst (v := 0) hx hb dX11_begin_10 (by decide) ?_
        obtain ⟨i2, h⟩ := ck_t h
        refine stM1 (j := x2.toNatClampNeg) C w i2 rfl dX11_begin_11 (fun H locs w => ?_)
        refine lv_iinc (v := (x2 + (1 : Int32))) (lv' := [(2, .int (x2 + (1 : Int32))), (0, .ref (ad 1)), (1, .int x1)]) hx hb dX11_begin_12 hl (k := 2) rfl rfl (by decide) rfl (fun ls hl => ?_)
        refine lv_goto (tgt := 2) hx hb dX11_begin_15 (by decide) ?_
        exact ih2 _ _ _ h _ _ _ w (lv_sub hl [1, 2, 0] rfl)
  have h := hf
  unfold f_X11_begin_1 at h
  refine lv_iconst (v := 0) hx hb dX11_begin_0 (by decide) ?_
  refine lv_istore_n (lv' := [(2, .int (0 : Int32)), (0, .ref (ad 1)), (1, .int x1)]) hx hb dX11_begin_1 rfl hl (by decide) rfl (fun ls hl => ?_)
  exact L2 FU _ _ _ h _ _ _ w (lv_sub hl [1, 2, 0] rfl)
theorem hd_X11_wood : yX11_wood.cls = RX11 ∧ yX11_wood.cls ≠ "java/lang/invoke/MethodHandle" ∧ yX11_wood.cls ≠ "java/lang/invoke/VarHandle" ∧ (parseMethodDescriptor yX11_wood.desc).map (fun d => d.parameters.length) = some 1 := by decide +kernel
def f_X11_wood (σ : St) (x1 : Int32) : Option (Int32 × St) := (f_X11_in x1.toInt64 (0 : Int64) (99 : Int64)).bind fun q1 => if q1 = 0 then ((f_X11_bad σ (-2 : Int32)).bind fun q4 => some (q4.1, q4.2)) else ((f_X11_many σ).bind fun q2 => (f_X11_begin_1 q2.2 x1).bind fun q3 => some (q2.1, q3))
abbrev rm_X11_wood : Room := { frames := 1, cells := 0, slots := 0, locals := 60 }
set_option maxHeartbeats 4000000 in
set_option maxRecDepth 100000 in
theorem c_X11_wood (l : Launch) (D : va_G) (ca : Nat → ClassId) (ad : Nat → Nat) (σ : St) (x1 : Int32) (sz : Nat) (out : Int32 × St) (hf : f_X11_wood σ x1 = some out) : Met l yX11_wood (.code yX11_wood cX11_wood 3 (some .int) :: WL) rm_X11_wood (PreC D ca (MW ca ad σ) sz [.ref (ad 0), .int x1]) (PostI D (va_A (MW ca ad σ) sz) (MW ca ad out.2) out.1) 0 0 (va_A (MW ca ad σ) sz) := by
  refine Met.ofW (cc := cX11_wood) (maxL := 3) (ret := (some .int)) (by decide) rfl ?_
  intro p e s m args below meth c s₁ B hml hv
  obtain ⟨rfl, hsz, hP, hK, hD, hN⟩ := hv
  subst hsz
  have C := Cx.mk (own := RX11) B hml rfl hK hN (ws := (MW ca ad σ))
  have w : Wd (va_A (MW ca ad σ) s.heap.size) s D (MW ca ad σ) s.heap [] := ⟨hP, hD.self, va_S.rf⟩
  have hl := lv_entry ([.ref (ad 0), .int x1]) (n := 3) (Nat.le_of_ble_eq_true rfl)
  rw [lg_entry_eq]
  generalize (lg_sl ([.ref (ad 0), .int x1]) ++ List.replicate (3 - (lg_sl ([.ref (ad 0), .int x1])).length) Slot.unset).toArray = ls at hl ⊢
  have hl : lv_has ls 3 [(0, .ref (ad 0)), (1, .int x1)] := hl
  change W p l e rm_X11_wood s m _ below meth c _ [] 0 0 _ _
  clear B hP hD hK hN hml
  generalize va_A (MW ca ad σ) s.heap.size = A at C w ⊢
  generalize ([.ref (ad 0), .int x1] : List Value).toArray = av at C ⊢
  obtain ⟨Q, hQ⟩ : ∃ Q, Q = MQ below (PostI D A (MW ca ad out.2) out.1) av s 0 0 A := ⟨_, rfl⟩
  rw [← hQ]
  have hx := C.1
  have hb := C.2.1
  have h := hf
  unfold f_X11_wood at h
  refine lv_iload_n hx hb dX11_wood_0 rfl (lv_at hl 1 rfl) ?_
  refine lv_i2l hx hb dX11_wood_1 rfl ?_
  refine lv_lconst (v := 0) hx hb dX11_wood_2 (by decide) ?_
  refine lv_ldc2 (v := 99) hx hb C.ow (C.ts _ wl_136) dX11_wood_3 ?_
  obtain ⟨q1, hq1, h⟩ := ob_t h
  refine res_i C w (run_S (As := [.long x1.toInt64, .long (0 : Int64), .long (99 : Int64)]) (rest := []) C w hl.1 (c_X11_in l D ca _ x1.toInt64 (0 : Int64) (99 : Int64) _ q1 hq1) rfl rfl wl_137 wl_138 wl_5 wl_139 hd_X11_in rfl ⟨Nat.le_of_ble_eq_true rfl, Nat.le_of_ble_eq_true rfl⟩ rfl (Nat.le_of_ble_eq_true rfl) dX11_wood_6) (fun H locs w => ?_)
  refine lv_if_ne (tgt := 19) hx hb dX11_wood_9 (by decide) (fun c1 => ?_) (fun c1 => ?_)
  · have h := it_f h c1
    refine lv_aload_n hx hb dX11_wood_19 rfl (lv_at hl 0 rfl) ?_
    obtain ⟨q2, hq2, h⟩ := ob_t h
    refine res_i C w (run_V (As := []) (rest := []) C w hl.1 (recvM0 C w) (c_X11_many l D ca ad _  _ q2 hq2) rfl rfl wl_144 wl_145 wl_146 wl_5 wl_147 hd_X11_many rfl ⟨Nat.le_of_ble_eq_true rfl, Nat.le_of_ble_eq_true rfl⟩ rfl (Nat.le_of_ble_eq_true rfl) dX11_wood_20) (fun H locs w => ?_)
    refine lv_istore_n (lv' := [(2, .int q2.1), (0, .ref (ad 0)), (1, .int x1)]) hx hb dX11_wood_23 rfl hl (by decide) rfl (fun ls hl => ?_)
    refine lv_aload_n hx hb dX11_wood_24 rfl (lv_at hl 1 rfl) ?_
    refine gM0_0 C w wl_94 dX11_wood_25 ?_
    refine lv_iload_n hx hb dX11_wood_28 rfl (lv_at hl 2 rfl) ?_
    obtain ⟨q3, hq3, h⟩ := ob_t h
    refine res_v C w (run_S (As := [.ref (ad 1), .int x1]) (rest := []) C w hl.1 (c_X11_begin_1 l D ca ad _ x1 _ q3 hq3) rfl rfl wl_106 wl_107 wl_5 wl_108 hd_X11_begin rfl ⟨Nat.le_of_ble_eq_true rfl, Nat.le_of_ble_eq_true rfl⟩ rfl (Nat.le_of_ble_eq_true rfl) dX11_wood_29) (fun H locs w => ?_)
    refine lv_iload_n hx hb dX11_wood_32 rfl (lv_at hl 0 rfl) ?_
    rw [hQ]
    exact rI (F := MW ca ad) C w h dX11_wood_33
  · have h := it_t h c1
    refine lv_aload_n hx hb dX11_wood_12 rfl (lv_at hl 0 rfl) ?_
    refine lv_bipush (v := -2) hx hb dX11_wood_13 (by decide) ?_
    obtain ⟨q4, hq4, h⟩ := ob_t h
    refine res_i C w (run_V (As := [.int (-2 : Int32)]) (rest := []) C w hl.1 (recvM0 C w) (c_X11_bad l D ca ad _ (-2 : Int32) _ q4 hq4) rfl rfl wl_140 wl_141 wl_142 wl_5 wl_143 hd_X11_bad rfl ⟨Nat.le_of_ble_eq_true rfl, Nat.le_of_ble_eq_true rfl⟩ rfl (Nat.le_of_ble_eq_true rfl) dX11_wood_15) (fun H locs w => ?_)
    rw [hQ]
    exact rI (F := MW ca ad) C w h dX11_wood_18
theorem hd_X11_tree : yX11_tree.cls = RX11 ∧ yX11_tree.cls ≠ "java/lang/invoke/MethodHandle" ∧ yX11_tree.cls ≠ "java/lang/invoke/VarHandle" ∧ (parseMethodDescriptor yX11_tree.desc).map (fun d => d.parameters.length) = some 1 := by decide +kernel
def f_X11_tree (σ : St) (x1 : Int32) : Option (Int32 × St) := (f_X11_in x1.toInt64 (0 : Int64) (5 : Int64)).bind fun q1 => if q1 = 0 then ((f_X11_bad σ (-2 : Int32)).bind fun q6 => some (q6.1, q6.2)) else ((f_X11_many σ).bind fun q2 => if q2.1 = (7 : Int32) then ((f_X11_full q2.2).bind fun q5 => some (q5.1, q5.2)) else ((f_X11_many q2.2).bind fun q3 => cond (ckI ((6 : Int32) + q3.1) 84) ((f_X11_many (sE (sE (sE q3.2 1 ((((6 : Int32) + q3.1)).toNatClampNeg) x1) 1 0 (((sE q3.2 1 ((((6 : Int32) + q3.1)).toNatClampNeg) x1).2.2 1 0) + (1 : Int32))) 1 5 (0 : Int32))).bind fun q4 => some ((q4.1 - (1 : Int32)), q4.2)) none))
abbrev rm_X11_tree : Room := { frames := 1, cells := 0, slots := 0, locals := 60 }
set_option maxHeartbeats 4000000 in
set_option maxRecDepth 100000 in
theorem c_X11_tree (l : Launch) (D : va_G) (ca : Nat → ClassId) (ad : Nat → Nat) (σ : St) (x1 : Int32) (sz : Nat) (out : Int32 × St) (hf : f_X11_tree σ x1 = some out) : Met l yX11_tree (.code yX11_tree cX11_tree 2 (some .int) :: WL) rm_X11_tree (PreC D ca (MW ca ad σ) sz [.ref (ad 0), .int x1]) (PostI D (va_A (MW ca ad σ) sz) (MW ca ad out.2) out.1) 0 0 (va_A (MW ca ad σ) sz) := by
  refine Met.ofW (cc := cX11_tree) (maxL := 2) (ret := (some .int)) (by decide) rfl ?_
  intro p e s m args below meth c s₁ B hml hv
  obtain ⟨rfl, hsz, hP, hK, hD, hN⟩ := hv
  subst hsz
  have C := Cx.mk (own := RX11) B hml rfl hK hN (ws := (MW ca ad σ))
  have w : Wd (va_A (MW ca ad σ) s.heap.size) s D (MW ca ad σ) s.heap [] := ⟨hP, hD.self, va_S.rf⟩
  have hl := lv_entry ([.ref (ad 0), .int x1]) (n := 2) (Nat.le_of_ble_eq_true rfl)
  rw [lg_entry_eq]
  generalize (lg_sl ([.ref (ad 0), .int x1]) ++ List.replicate (2 - (lg_sl ([.ref (ad 0), .int x1])).length) Slot.unset).toArray = ls at hl ⊢
  have hl : lv_has ls 2 [(0, .ref (ad 0)), (1, .int x1)] := hl
  change W p l e rm_X11_tree s m _ below meth c _ [] 0 0 _ _
  clear B hP hD hK hN hml
  generalize va_A (MW ca ad σ) s.heap.size = A at C w ⊢
  generalize ([.ref (ad 0), .int x1] : List Value).toArray = av at C ⊢
  obtain ⟨Q, hQ⟩ : ∃ Q, Q = MQ below (PostI D A (MW ca ad out.2) out.1) av s 0 0 A := ⟨_, rfl⟩
  rw [← hQ]
  have hx := C.1
  have hb := C.2.1
  have h := hf
  unfold f_X11_tree at h
  refine lv_iload_n hx hb dX11_tree_0 rfl (lv_at hl 1 rfl) ?_
  refine lv_i2l hx hb dX11_tree_1 rfl ?_
  refine lv_lconst (v := 0) hx hb dX11_tree_2 (by decide) ?_
  refine lv_ldc2 (v := 5) hx hb C.ow (C.ts _ wl_166) dX11_tree_3 ?_
  obtain ⟨q1, hq1, h⟩ := ob_t h
  refine res_i C w (run_S (As := [.long x1.toInt64, .long (0 : Int64), .long (5 : Int64)]) (rest := []) C w hl.1 (c_X11_in l D ca _ x1.toInt64 (0 : Int64) (5 : Int64) _ q1 hq1) rfl rfl wl_137 wl_138 wl_5 wl_139 hd_X11_in rfl ⟨Nat.le_of_ble_eq_true rfl, Nat.le_of_ble_eq_true rfl⟩ rfl (Nat.le_of_ble_eq_true rfl) dX11_tree_6) (fun H locs w => ?_)
  refine lv_if_ne (tgt := 19) hx hb dX11_tree_9 (by decide) (fun c1 => ?_) (fun c1 => ?_)
  · have h := it_f h c1
    refine lv_aload_n hx hb dX11_tree_19 rfl (lv_at hl 0 rfl) ?_
    obtain ⟨q2, hq2, h⟩ := ob_t h
    refine res_i C w (run_V (As := []) (rest := []) C w hl.1 (recvM0 C w) (c_X11_many l D ca ad _  _ q2 hq2) rfl rfl wl_144 wl_145 wl_146 wl_5 wl_147 hd_X11_many rfl ⟨Nat.le_of_ble_eq_true rfl, Nat.le_of_ble_eq_true rfl⟩ rfl (Nat.le_of_ble_eq_true rfl) dX11_tree_20) (fun H locs w => ?_)
    refine lv_bipush (v := 7) hx hb dX11_tree_23 (by decide) ?_
    refine lv_icmp_ne (tgt := 33) hx hb dX11_tree_25 (by decide) (fun c2 => ?_) (fun c2 => ?_)
    · have h := it_f h c2
      refine lv_aload_n hx hb dX11_tree_33 rfl (lv_at hl 0 rfl) ?_
      refine gM0_0 C w wl_94 dX11_tree_34 ?_
      refine lv_bipush (v := 6) hx hb dX11_tree_37 (by decide) ?_
      refine lv_aload_n hx hb dX11_tree_39 rfl (lv_at hl 0 rfl) ?_
      obtain ⟨q3, hq3, h⟩ := ob_t h
      refine res_i C w (run_V (As := []) (rest := [.int (6 : Int32), .ref (ad 1)]) C w hl.1 (recvM0 C w) (c_X11_many l D ca ad _  _ q3 hq3) rfl rfl wl_144 wl_145 wl_146 wl_5 wl_147 hd_X11_many rfl ⟨Nat.le_of_ble_eq_true rfl, Nat.le_of_ble_eq_true rfl⟩ rfl (Nat.le_of_ble_eq_true rfl) dX11_tree_40) (fun H locs w => ?_)
      refine lv_iadd hx hb dX11_tree_43 ?_
      refine lv_iload_n hx hb dX11_tree_44 rfl (lv_at hl 1 rfl) ?_
      obtain ⟨i3, h⟩ := ck_t h
      refine stM1 (j := (((6 : Int32) + q3.1)).toNatClampNeg) C w i3 rfl dX11_tree_45 (fun H locs w => ?_)
      refine lv_aload_n hx hb dX11_tree_46 rfl (lv_at hl 0 rfl) ?_
      refine gM0_0 C w wl_94 dX11_tree_47 ?_
      refine lv_iconst (v := 0) hx hb dX11_tree_50 (by decide) ?_
      refine lv_dup2_11 hx hb dX11_tree_51 rfl rfl ?_
      refine ldM1 (v := ((sE q3.2 1 ((((6 : Int32) + q3.1)).toNatClampNeg) x1).2.2 1 0)) C w (vl (by decide)) rfl dX11_tree_52 ?_
      refine lv_iconst (v := 1) hx hb dX11_tree_53 (by decide) ?_
      refine lv_iadd hx hb dX11_tree_54 ?_
      refine stM1 (j := 0) C w (vl (by decide)) rfl dX11_tree_55 (fun H locs w => ?_)
      refine lv_aload_n hx hb dX11_tree_56 rfl (lv_at hl 0 rfl) ?_
      refine gM0_0 C w wl_94 dX11_tree_57 ?_
      refine lv_iconst (v := 5) hx hb dX11_tree_60 (by decide) ?_
      refine lv_iconst (v := 0) hx hb dX11_tree_61 (by decide) ?_
      refine stM1 (j := 5) C w (vl (by decide)) rfl dX11_tree_62 (fun H locs w => ?_)
      refine lv_aload_n hx hb dX11_tree_63 rfl (lv_at hl 0 rfl) ?_
      obtain ⟨q4, hq4, h⟩ := ob_t h
      refine res_i C w (run_V (As := []) (rest := []) C w hl.1 (recvM0 C w) (c_X11_many l D ca ad _  _ q4 hq4) rfl rfl wl_144 wl_145 wl_146 wl_5 wl_147 hd_X11_many rfl ⟨Nat.le_of_ble_eq_true rfl, Nat.le_of_ble_eq_true rfl⟩ rfl (Nat.le_of_ble_eq_true rfl) dX11_tree_64) (fun H locs w => ?_)
      refine lv_iconst (v := 1) hx hb dX11_tree_67 (by decide) ?_
      refine lv_isub hx hb dX11_tree_68 ?_
      rw [hQ]
      exact rI (F := MW ca ad) C w h dX11_tree_69
    · have h := it_t h c2
      refine lv_aload_n hx hb dX11_tree_28 rfl (lv_at hl 0 rfl) ?_
      obtain ⟨q5, hq5, h⟩ := ob_t h
      refine res_i C w (run_V (As := []) (rest := []) C w hl.1 (recvM0 C w) (c_X11_full l D ca ad _  _ q5 hq5) rfl rfl wl_167 wl_168 wl_169 wl_5 wl_170 hd_X11_full rfl ⟨Nat.le_of_ble_eq_true rfl, Nat.le_of_ble_eq_true rfl⟩ rfl (Nat.le_of_ble_eq_true rfl) dX11_tree_29) (fun H locs w => ?_)
      rw [hQ]
      exact rI (F := MW ca ad) C w h dX11_tree_32
  · have h := it_t h c1
    refine lv_aload_n hx hb dX11_tree_12 rfl (lv_at hl 0 rfl) ?_
    refine lv_bipush (v := -2) hx hb dX11_tree_13 (by decide) ?_
    obtain ⟨q6, hq6, h⟩ := ob_t h
    refine res_i C w (run_V (As := [.int (-2 : Int32)]) (rest := []) C w hl.1 (recvM0 C w) (c_X11_bad l D ca ad _ (-2 : Int32) _ q6 hq6) rfl rfl wl_140 wl_141 wl_142 wl_5 wl_143 hd_X11_bad rfl ⟨Nat.le_of_ble_eq_true rfl, Nat.le_of_ble_eq_true rfl⟩ rfl (Nat.le_of_ble_eq_true rfl) dX11_tree_15) (fun H locs w => ?_)
    rw [hQ]
    exact rI (F := MW ca ad) C w h dX11_tree_18
theorem hd_X11_layTouch : yX11_layTouch.cls ≠ "java/lang/invoke/MethodHandle" ∧ yX11_layTouch.cls ≠ "java/lang/invoke/VarHandle" ∧ (parseMethodDescriptor yX11_layTouch.desc).map (fun d => d.parameters.length) = some 4 := by decide +kernel
def f_X11_layTouch_1_b69 (σ : St) (y0 : Int32) (y1 : Int32) : Option (St) := cond (ckI y1 84) (some (sE σ 1 y1.toNatClampNeg y0)) none
def f_X11_layTouch_1_b34 (σ : St) (x1 : Int32) (x2 : Int32) (x3 : Int32) (y0 : Int32) (y1 : Int32) : Option (St) := cond (ckI y1 84) (if x3 = 0 then (cond (ckI ((13 : Int32) + x2) 84) (f_X11_layTouch_1_b69 (sE σ 1 y1.toNatClampNeg y0) (((sE σ 1 y1.toNatClampNeg y0).2.2 1 (((13 : Int32) + x2)).toNatClampNeg) &&& (((1 : Int32) <<< (x1 &&& 31)) ^^^ (-1 : Int32))) ((13 : Int32) + x2)) none) else (cond (ckI ((13 : Int32) + x2) 84) (f_X11_layTouch_1_b69 (sE σ 1 y1.toNatClampNeg y0) (((sE σ 1 y1.toNatClampNeg y0).2.2 1 (((13 : Int32) + x2)).toNatClampNeg) ||| ((1 : Int32) <<< (x1 &&& 31))) ((13 : Int32) + x2)) none)) none
def f_X11_layTouch_1 (σ : St) (x1 : Int32) (x2 : Int32) (x3 : Int32) : Option (St) := if x3 = 0 then (cond (ckI ((13 : Int32) + x1) 84) (f_X11_layTouch_1_b34 σ x1 x2 x3 ((σ.2.2 1 (((13 : Int32) + x1)).toNatClampNeg) &&& (((1 : Int32) <<< (x2 &&& 31)) ^^^ (-1 : Int32))) ((13 : Int32) + x1)) none) else (cond (ckI ((13 : Int32) + x1) 84) (f_X11_layTouch_1_b34 σ x1 x2 x3 ((σ.2.2 1 (((13 : Int32) + x1)).toNatClampNeg) ||| ((1 : Int32) <<< (x2 &&& 31))) ((13 : Int32) + x1)) none)
abbrev rm_X11_layTouch_1 : Room := { frames := 0, cells := 0, slots := 0, locals := 0 }
set_option maxHeartbeats 4000000 in
set_option maxRecDepth 100000 in
theorem c_X11_layTouch_1 (l : Launch) (D : va_G) (ca : Nat → ClassId) (ad : Nat → Nat) (σ : St) (x1 : Int32) (x2 : Int32) (x3 : Int32) (sz : Nat) (out : St) (hf : f_X11_layTouch_1 σ x1 x2 x3 = some out) : Met l yX11_layTouch (.code yX11_layTouch cX11_layTouch 4 none :: WL) rm_X11_layTouch_1 (PreC D ca (MW ca ad σ) sz [.ref (ad 1), .int x1, .int x2, .int x3]) (PostV D (va_A (MW ca ad σ) sz) (MW ca ad out)) 0 0 (va_A (MW ca ad σ) sz) := by
  refine Met.ofW (cc := cX11_layTouch) (maxL := 4) (ret := none) (by decide) rfl ?_
  intro p e s m args below meth c s₁ B hml hv
  obtain ⟨rfl, hsz, hP, hK, hD, hN⟩ := hv
  subst hsz
  have C := Cx.mk (own := RX11) B hml rfl hK hN (ws := (MW ca ad σ))
  have w : Wd (va_A (MW ca ad σ) s.heap.size) s D (MW ca ad σ) s.heap [] := ⟨hP, hD.self, va_S.rf⟩
  have hl := lv_entry ([.ref (ad 1), .int x1, .int x2, .int x3]) (n := 4) (Nat.le_of_ble_eq_true rfl)
  rw [lg_entry_eq]
  generalize (lg_sl ([.ref (ad 1), .int x1, .int x2, .int x3]) ++ List.replicate (4 - (lg_sl ([.ref (ad 1), .int x1, .int x2, .int x3])).length) Slot.unset).toArray = ls at hl ⊢
  have hl : lv_has ls 4 [(0, .ref (ad 1)), (1, .int x1), (2, .int x2), (3, .int x3)] := hl
  change W p l e rm_X11_layTouch_1 s m _ below meth c _ [] 0 0 _ _
  clear B hP hD hK hN hml
  generalize va_A (MW ca ad σ) s.heap.size = A at C w ⊢
  generalize ([.ref (ad 1), .int x1, .int x2, .int x3] : List Value).toArray = av at C ⊢
  obtain ⟨Q, hQ⟩ : ∃ Q, Q = MQ below (PostV D A (MW ca ad out)) av s 0 0 A := ⟨_, rfl⟩
  rw [← hQ]
  have hx := C.1
  have hb := C.2.1
  have b69 : ∀ (σ : St) (y0 : Int32) (y1 : Int32), f_X11_layTouch_1_b69 σ y0 y1 = some out → Bk p l e rm_X11_layTouch_1 s m av below meth c A D 4 Q (MW ca ad σ) 69 [] [.int y0, .int y1, .ref (ad 1)] := by
    intro σ y0 y1 h H locs ls w hl
    unfold f_X11_layTouch_1_b69 at h
    obtain ⟨i1, h⟩ := ck_t h
    refine stM1 (j := y1.toNatClampNeg) C w i1 rfl dX11_layTouch_69 (fun H locs w => ?_)
    rw [hQ]
    exact rV (F := MW ca ad) C w h dX11_layTouch_70
  have b34 : ∀ (σ : St) (x1 : Int32) (x2 : Int32) (x3 : Int32) (y0 : Int32) (y1 : Int32), f_X11_layTouch_1_b34 σ x1 x2 x3 y0 y1 = some out → Bk p l e rm_X11_layTouch_1 s m av below meth c A D 4 Q (MW ca ad σ) 34 [(0, .ref (ad 1)), (1, .int x1), (2, .int x2), (3, .int x3)] [.int y0, .int y1, .ref (ad 1)] := by
    intro σ x1 x2 x3 y0 y1 h H locs ls w hl
    unfold f_X11_layTouch_1_b34 at h
    obtain ⟨i1, h⟩ := ck_t h
    refine stM1 (j := y1.toNatClampNeg) C w i1 rfl dX11_layTouch_34 (fun H locs w => ?_)
    refine lv_aload_n hx hb dX11_layTouch_35 rfl (lv_at hl 0 rfl) ?_
    refine lv_bipush (v := 13) hx hb dX11_layTouch_36 (by decide) ?_
    refine lv_iload_n hx hb dX11_layTouch_38 rfl (lv_at hl 2 rfl) ?_
    refine lv_iadd hx hb dX11_layTouch_39 ?_
    refine lv_iload_n hx hb dX11_layTouch_40 rfl (lv_at hl 3 rfl) ?_
    refine lv_if_eq (tgt := 57) hx hb dX11_layTouch_41 (by decide) (fun c2 => ?_) (fun c2 => ?_)
    · have h := it_t h c2
      refine lv_aload_n hx hb dX11_layTouch_57 rfl (lv_at hl 0 rfl) ?_
      refine lv_bipush (v := 13) hx hb dX11_layTouch_58 (by decide) ?_
      refine lv_iload_n hx hb dX11_layTouch_60 rfl (lv_at hl 2 rfl) ?_
      refine lv_iadd hx hb dX11_layTouch_61 ?_
      obtain ⟨i3, h⟩ := ck_t h
      refine ldM1 (v := ((sE σ 1 y1.toNatClampNeg y0).2.2 1 (((13 : Int32) + x2)).toNatClampNeg)) C w i3 rfl dX11_layTouch_62 ?_
      refine lv_iconst (v := 1) hx hb dX11_layTouch_63 (by decide) ?_
      refine lv_iload_n hx hb dX11_layTouch_64 rfl (lv_at hl 1 rfl) ?_
      refine lv_ishl hx hb dX11_layTouch_65 ?_
      refine lv_iconst (v := -1) hx hb dX11_layTouch_66 (by decide) ?_
      refine lv_ixor hx hb dX11_layTouch_67 ?_
      refine lv_iand hx hb dX11_layTouch_68 ?_
      exact b69 _ _ _ h _ _ _ w (lv_sub hl [] rfl)
    · have h := it_f h c2
      refine lv_aload_n hx hb dX11_layTouch_44 rfl (lv_at hl 0 rfl) ?_
      refine lv_bipush (v := 13) hx hb dX11_layTouch_45 (by decide) ?_
      refine lv_iload_n hx hb dX11_layTouch_47 rfl (lv_at hl 2 rfl) ?_
      refine lv_iadd hx hb dX11_layTouch_48 ?_
      obtain ⟨i4, h⟩ := ck_t h
      refine ldM1 (v := ((sE σ 1 y1.toNatClampNeg y0).2.2 1 (((13 : Int32) + x2)).toNatClampNeg)) C w i4 rfl dX11_layTouch_49 ?_
      refine lv_iconst (v := 1) hx hb dX11_layTouch_50 (by decide) ?_
      refine lv_iload_n hx hb dX11_layTouch_51 rfl (lv_at hl 1 rfl) ?_
      refine lv_ishl hx hb dX11_layTouch_52 ?_
      refine lv_ior hx hb dX11_layTouch_53 ?_
      refine lv_goto (tgt := 69) hx hb dX11_layTouch_54 (by decide) ?_
      exact b69 _ _ _ h _ _ _ w (lv_sub hl [] rfl)
  have h := hf
  unfold f_X11_layTouch_1 at h
  refine lv_aload_n hx hb dX11_layTouch_0 rfl (lv_at hl 0 rfl) ?_
  refine lv_bipush (v := 13) hx hb dX11_layTouch_1 (by decide) ?_
  refine lv_iload_n hx hb dX11_layTouch_3 rfl (lv_at hl 1 rfl) ?_
  refine lv_iadd hx hb dX11_layTouch_4 ?_
  refine lv_iload_n hx hb dX11_layTouch_5 rfl (lv_at hl 3 rfl) ?_
  refine lv_if_eq (tgt := 22) hx hb dX11_layTouch_6 (by decide) (fun c1 => ?_) (fun c1 => ?_)
  · have h := it_t h c1
    refine lv_aload_n hx hb dX11_layTouch_22 rfl (lv_at hl 0 rfl) ?_
    refine lv_bipush (v := 13) hx hb dX11_layTouch_23 (by decide) ?_
    refine lv_iload_n hx hb dX11_layTouch_25 rfl (lv_at hl 1 rfl) ?_
    refine lv_iadd hx hb dX11_layTouch_26 ?_
    obtain ⟨i2, h⟩ := ck_t h
    refine ldM1 (v := (σ.2.2 1 (((13 : Int32) + x1)).toNatClampNeg)) C w i2 rfl dX11_layTouch_27 ?_
    refine lv_iconst (v := 1) hx hb dX11_layTouch_28 (by decide) ?_
    refine lv_iload_n hx hb dX11_layTouch_29 rfl (lv_at hl 2 rfl) ?_
    refine lv_ishl hx hb dX11_layTouch_30 ?_
    refine lv_iconst (v := -1) hx hb dX11_layTouch_31 (by decide) ?_
    refine lv_ixor hx hb dX11_layTouch_32 ?_
    refine lv_iand hx hb dX11_layTouch_33 ?_
    exact b34 _ _ _ _ _ _ h _ _ _ w (lv_sub hl [0, 1, 2, 3] rfl)
  · have h := it_f h c1
    refine lv_aload_n hx hb dX11_layTouch_9 rfl (lv_at hl 0 rfl) ?_
    refine lv_bipush (v := 13) hx hb dX11_layTouch_10 (by decide) ?_
    refine lv_iload_n hx hb dX11_layTouch_12 rfl (lv_at hl 1 rfl) ?_
    refine lv_iadd hx hb dX11_layTouch_13 ?_
    obtain ⟨i3, h⟩ := ck_t h
    refine ldM1 (v := (σ.2.2 1 (((13 : Int32) + x1)).toNatClampNeg)) C w i3 rfl dX11_layTouch_14 ?_
    refine lv_iconst (v := 1) hx hb dX11_layTouch_15 (by decide) ?_
    refine lv_iload_n hx hb dX11_layTouch_16 rfl (lv_at hl 2 rfl) ?_
    refine lv_ishl hx hb dX11_layTouch_17 ?_
    refine lv_ior hx hb dX11_layTouch_18 ?_
    refine lv_goto (tgt := 34) hx hb dX11_layTouch_19 (by decide) ?_
    exact b34 _ _ _ _ _ _ h _ _ _ w (lv_sub hl [0, 1, 2, 3] rfl)
theorem hd_X11_touch : yX11_touch.cls = RX11 ∧ yX11_touch.cls ≠ "java/lang/invoke/MethodHandle" ∧ yX11_touch.cls ≠ "java/lang/invoke/VarHandle" ∧ (parseMethodDescriptor yX11_touch.desc).map (fun d => d.parameters.length) = some 3 := by decide +kernel
def f_X11_touch_b31 (σ : St) : Option (Int32 × St) := (f_X11_bad σ (-2 : Int32)).bind fun q1 => some (q1.1, q1.2)
def f_X11_touch_b69 (σ : St) (x4 : Int32) (y0 : Int32) (y1 : Int32) (y2 : Int32) : Option (Int32 × St) := (f_X11_layTouch_1 σ y2 y1 y0).bind fun q1 => some (x4, (sE q1 1 5 (0 : Int32)))
def f_X11_touch (σ : St) (x1 : Int32) (x2 : Int32) (x3 : Int32) : Option (Int32 × St) := (f_X11_isTree σ x1).bind fun q1 => if q1.1 = 0 then (f_X11_touch_b31 q1.2) else ((f_X11_isTree q1.2 x2).bind fun q2 => if q2.1 = 0 then (f_X11_touch_b31 q2.2) else (if x1 = x2 then (f_X11_touch_b31 q2.2) else ((f_X11_in x3.toInt64 (0 : Int64) (1 : Int64)).bind fun q3 => if q3 = 0 then (f_X11_touch_b31 q2.2) else (cond (ckI ((13 : Int32) + x1) 84) (if x3 = (1 : Int32) then (f_X11_touch_b69 q2.2 (((q2.2.2.2 1 (((13 : Int32) + x1)).toNatClampNeg) >>> (x2 &&& 31)) &&& (1 : Int32)) (1 : Int32) x2 x1) else (f_X11_touch_b69 q2.2 (((q2.2.2.2 1 (((13 : Int32) + x1)).toNatClampNeg) >>> (x2 &&& 31)) &&& (1 : Int32)) (0 : Int32) x2 x1)) none))))
abbrev rm_X11_touch : Room := { frames := 2, cells := 0, slots := 0, locals := 120 }
set_option maxHeartbeats 4000000 in
set_option maxRecDepth 100000 in
theorem c_X11_touch (l : Launch) (D : va_G) (ca : Nat → ClassId) (ad : Nat → Nat) (σ : St) (x1 : Int32) (x2 : Int32) (x3 : Int32) (sz : Nat) (out : Int32 × St) (hf : f_X11_touch σ x1 x2 x3 = some out) : Met l yX11_touch (.code yX11_touch cX11_touch 5 (some .int) :: WL) rm_X11_touch (PreC D ca (MW ca ad σ) sz [.ref (ad 0), .int x1, .int x2, .int x3]) (PostI D (va_A (MW ca ad σ) sz) (MW ca ad out.2) out.1) 0 0 (va_A (MW ca ad σ) sz) := by
  refine Met.ofW (cc := cX11_touch) (maxL := 5) (ret := (some .int)) (by decide) rfl ?_
  intro p e s m args below meth c s₁ B hml hv
  obtain ⟨rfl, hsz, hP, hK, hD, hN⟩ := hv
  subst hsz
  have C := Cx.mk (own := RX11) B hml rfl hK hN (ws := (MW ca ad σ))
  have w : Wd (va_A (MW ca ad σ) s.heap.size) s D (MW ca ad σ) s.heap [] := ⟨hP, hD.self, va_S.rf⟩
  have hl := lv_entry ([.ref (ad 0), .int x1, .int x2, .int x3]) (n := 5) (Nat.le_of_ble_eq_true rfl)
  rw [lg_entry_eq]
  generalize (lg_sl ([.ref (ad 0), .int x1, .int x2, .int x3]) ++ List.replicate (5 - (lg_sl ([.ref (ad 0), .int x1, .int x2, .int x3])).length) Slot.unset).toArray = ls at hl ⊢
  have hl : lv_has ls 5 [(0, .ref (ad 0)), (1, .int x1), (2, .int x2), (3, .int x3)] := hl
  change W p l e rm_X11_touch s m _ below meth c _ [] 0 0 _ _
  clear B hP hD hK hN hml
  generalize va_A (MW ca ad σ) s.heap.size = A at C w ⊢
  generalize ([.ref (ad 0), .int x1, .int x2, .int x3] : List Value).toArray = av at C ⊢
  obtain ⟨Q, hQ⟩ : ∃ Q, Q = MQ below (PostI D A (MW ca ad out.2) out.1) av s 0 0 A := ⟨_, rfl⟩
  rw [← hQ]
  have hx := C.1
  have hb := C.2.1
  have b31 : ∀ (σ : St), f_X11_touch_b31 σ = some out → Bk p l e rm_X11_touch s m av below meth c A D 5 Q (MW ca ad σ) 31 [(0, .ref (ad 0))] [] := by
    intro σ h H locs ls w hl
    unfold f_X11_touch_b31 at h
    refine lv_aload_n hx hb dX11_touch_31 rfl (lv_at hl 0 rfl) ?_
    refine lv_bipush (v := -2) hx hb dX11_touch_32 (by decide) ?_
    obtain ⟨q1, hq1, h⟩ := ob_t h
    refine res_i C w (run_V (As := [.int (-2 : Int32)]) (rest := []) C w hl.1 (recvM0 C w) (c_X11_bad l D ca ad _ (-2 : Int32) _ q1 hq1) rfl rfl wl_140 wl_141 wl_142 wl_5 wl_143 hd_X11_bad rfl ⟨Nat.le_of_ble_eq_true rfl, Nat.le_of_ble_eq_true rfl⟩ rfl (Nat.le_of_ble_eq_true rfl) dX11_touch_34) (fun H locs w => ?_)
    rw [hQ]
    exact rI (F := MW ca ad) C w h dX11_touch_37
  have b69 : ∀ (σ : St) (x4 : Int32) (y0 : Int32) (y1 : Int32) (y2 : Int32), f_X11_touch_b69 σ x4 y0 y1 y2 = some out → Bk p l e rm_X11_touch s m av below meth c A D 5 Q (MW ca ad σ) 69 [(0, .ref (ad 0)), (4, .int x4)] [.int y0, .int y1, .int y2, .ref (ad 1)] := by
    intro σ x4 y0 y1 y2 h H locs ls w hl
    unfold f_X11_touch_b69 at h
    obtain ⟨q1, hq1, h⟩ := ob_t h
    refine res_v C w (run_S (As := [.ref (ad 1), .int y2, .int y1, .int y0]) (rest := []) C w hl.1 (c_X11_layTouch_1 l D ca ad _ y2 y1 y0 _ q1 hq1) rfl rfl wl_192 wl_193 wl_5 wl_194 hd_X11_layTouch rfl ⟨Nat.le_of_ble_eq_true rfl, Nat.le_of_ble_eq_true rfl⟩ rfl (Nat.le_of_ble_eq_true rfl) dX11_touch_69) (fun H locs w => ?_)
    refine lv_aload_n hx hb dX11_touch_72 rfl (lv_at hl 0 rfl) ?_
    refine gM0_0 C w wl_94 dX11_touch_73 ?_
    refine lv_iconst (v := 5) hx hb dX11_touch_76 (by decide) ?_
    refine lv_iconst (v := 0) hx hb dX11_touch_77 (by decide) ?_
    refine stM1 (j := 5) C w (vl (by decide)) rfl dX11_touch_78 (fun H locs w => ?_)
    refine lv_iload hx hb dX11_touch_79 (lv_at hl 1 rfl) ?_
    rw [hQ]
    exact rI (F := MW ca ad) C w h dX11_touch_81
  have h := hf
  unfold f_X11_touch at h
  refine lv_aload_n hx hb dX11_touch_0 rfl (lv_at hl 0 rfl) ?_
  refine lv_iload_n hx hb dX11_touch_1 rfl (lv_at hl 1 rfl) ?_
  obtain ⟨q1, hq1, h⟩ := ob_t h
  refine res_i C w (run_V (As := [.int x1]) (rest := []) C w hl.1 (recvM0 C w) (c_X11_isTree l D ca ad _ x1 _ q1 hq1) rfl rfl wl_188 wl_189 wl_190 wl_5 wl_191 hd_X11_isTree rfl ⟨Nat.le_of_ble_eq_true rfl, Nat.le_of_ble_eq_true rfl⟩ rfl (Nat.le_of_ble_eq_true rfl) dX11_touch_2) (fun H locs w => ?_)
  refine lv_if_eq (tgt := 31) hx hb dX11_touch_5 (by decide) (fun c1 => ?_) (fun c1 => ?_)
  · have h := it_t h c1
    exact b31 _ h _ _ _ w (lv_sub hl [0] rfl)
  · have h := it_f h c1
    refine lv_aload_n hx hb dX11_touch_8 rfl (lv_at hl 0 rfl) ?_
    refine lv_iload_n hx hb dX11_touch_9 rfl (lv_at hl 2 rfl) ?_
    obtain ⟨q2, hq2, h⟩ := ob_t h
    refine res_i C w (run_V (As := [.int x2]) (rest := []) C w hl.1 (recvM0 C w) (c_X11_isTree l D ca ad _ x2 _ q2 hq2) rfl rfl wl_188 wl_189 wl_190 wl_5 wl_191 hd_X11_isTree rfl ⟨Nat.le_of_ble_eq_true rfl, Nat.le_of_ble_eq_true rfl⟩ rfl (Nat.le_of_ble_eq_true rfl) dX11_touch_10) (fun H locs w => ?_)
    refine lv_if_eq (tgt := 31) hx hb dX11_touch_13 (by decide) (fun c2 => ?_) (fun c2 => ?_)
    · have h := it_t h c2
      exact b31 _ h _ _ _ w (lv_sub hl [0] rfl)
    · have h := it_f h c2
      refine lv_iload_n hx hb dX11_touch_16 rfl (lv_at hl 1 rfl) ?_
      refine lv_iload_n hx hb dX11_touch_17 rfl (lv_at hl 2 rfl) ?_
      refine lv_icmp_eq (tgt := 31) hx hb dX11_touch_18 (by decide) (fun c3 => ?_) (fun c3 => ?_)
      · have h := it_t h c3
        exact b31 _ h _ _ _ w (lv_sub hl [0] rfl)
      · have h := it_f h c3
        refine lv_iload_n hx hb dX11_touch_21 rfl (lv_at hl 3 rfl) ?_
        refine lv_i2l hx hb dX11_touch_22 rfl ?_
        refine lv_lconst (v := 0) hx hb dX11_touch_23 (by decide) ?_
        refine lv_lconst (v := 1) hx hb dX11_touch_24 (by decide) ?_
        obtain ⟨q3, hq3, h⟩ := ob_t h
        refine res_i C w (run_S (As := [.long x3.toInt64, .long (0 : Int64), .long (1 : Int64)]) (rest := []) C w hl.1 (c_X11_in l D ca _ x3.toInt64 (0 : Int64) (1 : Int64) _ q3 hq3) rfl rfl wl_137 wl_138 wl_5 wl_139 hd_X11_in rfl ⟨Nat.le_of_ble_eq_true rfl, Nat.le_of_ble_eq_true rfl⟩ rfl (Nat.le_of_ble_eq_true rfl) dX11_touch_25) (fun H locs w => ?_)
        refine lv_if_ne (tgt := 38) hx hb dX11_touch_28 (by decide) (fun c4 => ?_) (fun c4 => ?_)
        · have h := it_f h c4
          refine lv_aload_n hx hb dX11_touch_38 rfl (lv_at hl 0 rfl) ?_
          refine gM0_0 C w wl_94 dX11_touch_39 ?_
          refine lv_bipush (v := 13) hx hb dX11_touch_42 (by decide) ?_
          refine lv_iload_n hx hb dX11_touch_44 rfl (lv_at hl 1 rfl) ?_
          refine lv_iadd hx hb dX11_touch_45 ?_
          obtain ⟨i5, h⟩ := ck_t h
          refine ldM1 (v := (q2.2.2.2 1 (((13 : Int32) + x1)).toNatClampNeg)) C w i5 rfl dX11_touch_46 ?_
          refine lv_iload_n hx hb dX11_touch_47 rfl (lv_at hl 2 rfl) ?_
          refine lv_ishr hx hb dX11_touch_48 ?_
          refine lv_iconst (v := 1) hx hb dX11_touch_49 (by decide) ?_
          refine lv_iand hx hb dX11_touch_50 ?_
          refine lv_istore (lv' := [(4, .int (((q2.2.2.2 1 (((13 : Int32) + x1)).toNatClampNeg) >>> (x2 &&& 31)) &&& (1 : Int32))), (0, .ref (ad 0)), (1, .int x1), (2, .int x2), (3, .int x3)]) hx hb dX11_touch_51 hl (by decide) rfl (fun ls hl => ?_)
          refine lv_aload_n hx hb dX11_touch_53 rfl (lv_at hl 1 rfl) ?_
          refine gM0_0 C w wl_94 dX11_touch_54 ?_
          refine lv_iload_n hx hb dX11_touch_57 rfl (lv_at hl 2 rfl) ?_
          refine lv_iload_n hx hb dX11_touch_58 rfl (lv_at hl 3 rfl) ?_
          refine lv_iload_n hx hb dX11_touch_59 rfl (lv_at hl 4 rfl) ?_
          refine lv_iconst (v := 1) hx hb dX11_touch_60 (by decide) ?_
          refine lv_icmp_ne (tgt := 68) hx hb dX11_touch_61 (by decide) (fun c6 => ?_) (fun c6 => ?_)
          · have h := it_f h c6
            refine lv_iconst (v := 0) hx hb dX11_touch_68 (by decide) ?_
            exact b69 _ _ _ _ _ h _ _ _ w (lv_sub hl [1, 0] rfl)
          · have h := it_t h c6
            refine lv_iconst (v := 1) hx hb dX11_touch_64 (by decide) ?_
            refine lv_goto (tgt := 69) hx hb dX11_touch_65 (by decide) ?_
            exact b69 _ _ _ _ _ h _ _ _ w (lv_sub hl [1, 0] rfl)
        · have h := it_t h c4
          exact b31 _ h _ _ _ w (lv_sub hl [0] rfl)
theorem hd_X11_keep : yX11_keep.cls = RX11 ∧ yX11_keep.cls ≠ "java/lang/invoke/MethodHandle" ∧ yX11_keep.cls ≠ "java/lang/invoke/VarHandle" ∧ (parseMethodDescriptor yX11_keep.desc).map (fun d => d.parameters.length) = some 0 := by decide +kernel
def f_X11_keep_b51 (σ : St) : Option (St) := cond (ckI ((68 : Int32) + ((2 : Int32) * (σ.2.2 1 5))) 84) (cond (ckI (((68 : Int32) + ((2 : Int32) * ((sE σ 1 ((((68 : Int32) + ((2 : Int32) * (σ.2.2 1 5)))).toNatClampNeg) (σ.2.2 1 1)).2.2 1 5))) + (1 : Int32)) 84) (some (sE (sE (sE σ 1 ((((68 : Int32) + ((2 : Int32) * (σ.2.2 1 5)))).toNatClampNeg) (σ.2.2 1 1)) 1 (((((68 : Int32) + ((2 : Int32) * ((sE σ 1 ((((68 : Int32) + ((2 : Int32) * (σ.2.2 1 5)))).toNatClampNeg) (σ.2.2 1 1)).2.2 1 5))) + (1 : Int32))).toNatClampNeg) ((sE σ 1 ((((68 : Int32) + ((2 : Int32) * (σ.2.2 1 5)))).toNatClampNeg) (σ.2.2 1 1)).2.2 1 2)) 1 5 (((sE (sE σ 1 ((((68 : Int32) + ((2 : Int32) * (σ.2.2 1 5)))).toNatClampNeg) (σ.2.2 1 1)) 1 (((((68 : Int32) + ((2 : Int32) * ((sE σ 1 ((((68 : Int32) + ((2 : Int32) * (σ.2.2 1 5)))).toNatClampNeg) (σ.2.2 1 1)).2.2 1 5))) + (1 : Int32))).toNatClampNeg) ((sE σ 1 ((((68 : Int32) + ((2 : Int32) * (σ.2.2 1 5)))).toNatClampNeg) (σ.2.2 1 1)).2.2 1 2)).2.2 1 5) + (1 : Int32)))) none) none
def f_X11_keep_b13 (K13 : St → Int32 → Option (St)) (σ : St) (x1 : Int32) : Option (St) := if (14 : Int32) ≤ x1 then (f_X11_keep_b51 (sE σ 1 5 (7 : Int32))) else (cond (ckI ((70 : Int32) + x1) 84) (cond (ckI ((68 : Int32) + x1) 84) (K13 (sE σ 1 ((((68 : Int32) + x1)).toNatClampNeg) (σ.2.2 1 (((70 : Int32) + x1)).toNatClampNeg)) (x1 + (1 : Int32))) none) none)
def f_X11_keep_L13 : Nat → St → Int32 → Option (St)
  | 0 => fun _ _ => none
  | n + 1 => f_X11_keep_b13 (f_X11_keep_L13 n)
def f_X11_keep (σ : St) : Option (St) := if (σ.2.2 1 5) = (8 : Int32) then (f_X11_keep_L13 FU σ (0 : Int32)) else (f_X11_keep_b51 σ)
abbrev rm_X11_keep : Room := { frames := 0, cells := 0, slots := 0, locals := 0 }
set_option maxHeartbeats 4000000 in
set_option maxRecDepth 100000 in
theorem c_X11_keep (l : Launch) (D : va_G) (ca : Nat → ClassId) (ad : Nat → Nat) (σ : St)  (sz : Nat) (out : St) (hf : f_X11_keep σ  = some out) : Met l yX11_keep (.code yX11_keep cX11_keep 2 none :: WL) rm_X11_keep (PreC D ca (MW ca ad σ) sz [.ref (ad 0)]) (PostV D (va_A (MW ca ad σ) sz) (MW ca ad out)) 0 0 (va_A (MW ca ad σ) sz) := by
  refine Met.ofW (cc := cX11_keep) (maxL := 2) (ret := none) (by decide) rfl ?_
  intro p e s m args below meth c s₁ B hml hv
  obtain ⟨rfl, hsz, hP, hK, hD, hN⟩ := hv
  subst hsz
  have C := Cx.mk (own := RX11) B hml rfl hK hN (ws := (MW ca ad σ))
  have w : Wd (va_A (MW ca ad σ) s.heap.size) s D (MW ca ad σ) s.heap [] := ⟨hP, hD.self, va_S.rf⟩
  have hl := lv_entry ([.ref (ad 0)]) (n := 2) (Nat.le_of_ble_eq_true rfl)
  rw [lg_entry_eq]
  generalize (lg_sl ([.ref (ad 0)]) ++ List.replicate (2 - (lg_sl ([.ref (ad 0)])).length) Slot.unset).toArray = ls at hl ⊢
  have hl : lv_has ls 2 [(0, .ref (ad 0))] := hl
  change W p l e rm_X11_keep s m _ below meth c _ [] 0 0 _ _
  clear B hP hD hK hN hml
  generalize va_A (MW ca ad σ) s.heap.size = A at C w ⊢
  generalize ([.ref (ad 0)] : List Value).toArray = av at C ⊢
  obtain ⟨Q, hQ⟩ : ∃ Q, Q = MQ below (PostV D A (MW ca ad out)) av s 0 0 A := ⟨_, rfl⟩
  rw [← hQ]
  have hx := C.1
  have hb := C.2.1
  have b51 : ∀ (σ : St), f_X11_keep_b51 σ = some out → Bk p l e rm_X11_keep s m av below meth c A D 2 Q (MW ca ad σ) 51 [(0, .ref (ad 0))] [] := by
    intro σ h H locs ls w hl
    unfold f_X11_keep_b51 at h
    refine lv_aload_n hx hb dX11_keep_51 rfl (lv_at hl 0 rfl) ?_
    refine gM0_0 C w wl_94 dX11_keep_52 ?_
    refine lv_bipush (v := 68) hx hb dX11_keep_55 (by decide) ?_
    refine lv_iconst (v := 2) hx hb dX11_keep_57 (by decide) ?_
    refine lv_aload_n hx hb dX11_keep_58 rfl (lv_at hl 0 rfl) ?_
    refine gM0_0 C w wl_94 dX11_keep_59 ?_
    refine lv_iconst (v := 5) hx hb dX11_keep_62 (by decide) ?_
    refine ldM1 (v := (σ.2.2 1 5)) C w (vl (by decide)) rfl dX11_keep_63 ?_
    refine lv_imul hx hb dX11_keep_64 ?_
    refine lv_iadd hx hb dX11_keep_65 ?_
    refine lv_aload_n hx hb dX11_keep_66 rfl (lv_at hl 0 rfl) ?_
    refine gM0_0 C w wl_94 dX11_keep_67 ?_
    refine lv_iconst (v := 1) hx hb dX11_keep_70 (by decide) ?_
    refine ldM1 (v := (σ.2.2 1 1)) C w (vl (by decide)) rfl dX11_keep_71 ?_
    obtain ⟨i1, h⟩ := ck_t h
    refine stM1 (j := (((68 : Int32) + ((2 : Int32) * (σ.2.2 1 5)))).toNatClampNeg) C w i1 rfl dX11_keep_72 (fun H locs w => ?_)
    refine lv_aload_n hx hb dX11_keep_73 rfl (lv_at hl 0 rfl) ?_
    refine gM0_0 C w wl_94 dX11_keep_74 ?_
    refine lv_bipush (v := 68) hx hb dX11_keep_77 (by decide) ?_
    refine lv_iconst (v := 2) hx hb dX11_keep_79 (by decide) ?_
    refine lv_aload_n hx hb dX11_keep_80 rfl (lv_at hl 0 rfl) ?_
    refine gM0_0 C w wl_94 dX11_keep_81 ?_
    refine lv_iconst (v := 5) hx hb dX11_keep_84 (by decide) ?_
    refine ldM1 (v := ((sE σ 1 ((((68 : Int32) + ((2 : Int32) * (σ.2.2 1 5)))).toNatClampNeg) (σ.2.2 1 1)).2.2 1 5)) C w (vl (by decide)) rfl dX11_keep_85 ?_
    refine lv_imul hx hb dX11_keep_86 ?_
    refine lv_iadd hx hb dX11_keep_87 ?_
    refine lv_iconst (v := 1) hx hb dX11_keep_88 (by decide) ?_
    refine lv_iadd hx hb dX11_keep_89 ?_
    refine lv_aload_n hx hb dX11_keep_90 rfl (lv_at hl 0 rfl) ?_
    refine gM0_0 C w wl_94 dX11_keep_91 ?_
    refine lv_iconst (v := 2) hx hb dX11_keep_94 (by decide) ?_
    refine ldM1 (v := ((sE σ 1 ((((68 : Int32) + ((2 : Int32) * (σ.2.2 1 5)))).toNatClampNeg) (σ.2.2 1 1)).2.2 1 2)) C w (vl (by decide)) rfl dX11_keep_95 ?_
    obtain ⟨i2, h⟩ := ck_t h
    refine stM1 (j := ((((68 : Int32) + ((2 : Int32) * ((sE σ 1 ((((68 : Int32) + ((2 : Int32) * (σ.2.2 1 5)))).toNatClampNeg) (σ.2.2 1 1)).2.2 1 5))) + (1 : Int32))).toNatClampNeg) C w i2 rfl dX11_keep_96 (fun H locs w => ?_)
    refine lv_aload_n hx hb dX11_keep_97 rfl (lv_at hl 0 rfl) ?_
    refine gM0_0 C w wl_94 dX11_keep_98 ?_
    refine lv_iconst (v := 5) hx hb dX11_keep_101 (by decide) ?_
    refine lv_dup2_11 hx hb dX11_keep_102 rfl rfl ?_
    refine ldM1 (v := ((sE (sE σ 1 ((((68 : Int32) + ((2 : Int32) * (σ.2.2 1 5)))).toNatClampNeg) (σ.2.2 1 1)) 1 (((((68 : Int32) + ((2 : Int32) * ((sE σ 1 ((((68 : Int32) + ((2 : Int32) * (σ.2.2 1 5)))).toNatClampNeg) (σ.2.2 1 1)).2.2 1 5))) + (1 : Int32))).toNatClampNeg) ((sE σ 1 ((((68 : Int32) + ((2 : Int32) * (σ.2.2 1 5)))).toNatClampNeg) (σ.2.2 1 1)).2.2 1 2)).2.2 1 5)) C w (vl (by decide)) rfl dX11_keep_103 ?_
    refine lv_iconst (v := 1) hx hb dX11_keep_104 (by decide) ?_
    refine lv_iadd hx hb dX11_keep_105 ?_
    refine stM1 (j := 5) C w (vl (by decide)) rfl dX11_keep_106 (fun H locs w => ?_)
    rw [hQ]
    exact rV (F := MW ca ad) C w h dX11_keep_107
  have L13 : ∀ (n13 : Nat) (σ : St) (x1 : Int32), f_X11_keep_L13 n13 σ x1 = some out → Bk p l e rm_X11_keep s m av below meth c A D 2 Q (MW ca ad σ) 13 [(0, .ref (ad 0)), (1, .int x1)] [] := by
    intro n13
    induction n13 with
    | zero => intro σ x1 h; exact absurd h (by simp [f_X11_keep_L13])
    | succ n13 ih13 =>
      intro σ x1 h H locs ls w hl
      change f_X11_keep_b13 (f_X11_keep_L13 n13) σ x1 = some out at h
      unfold f_X11_keep_b13 at h
      refine lv_iload_n hx hb dX11_keep_13 rfl (lv_at hl 1 rfl) ?_
      refine lv_bipush (v := 14) hx hb dX11_keep_14 (by decide) ?_
      refine lv_icmp_ge (tgt := 43) hx hb dX11_keep_16 (by decide) (fun c1 => ?_) (fun c1 => ?_)
      · have h := it_t h c1
        refine lv_aload_n hx hb dX11_keep_43 rfl (lv_at hl 0 rfl) ?_
        refine gM0_0 C w wl_94 dX11_keep_44 ?_
        refine lv_iconst (v := 5) hx hb dX11_keep_47 (by decide) ?_
        refine lv_bipush (v := 7) hx hb dX11_keep_48 (by decide) ?_
        refine stM1 (j := 5) C w (vl (by decide)) rfl dX11_keep_50 (fun H locs w => ?_)
        exact b51 _ h _ _ _ w (lv_sub hl [0] rfl)
      · have h := it_f h c1
        refine lv_aload_n hx hb dX11_keep_19 rfl (lv_at hl 0 rfl) ?_
        refine gM0_0 C w wl_94 dX11_keep_20 ?_
        refine lv_bipush (v := 68) hx hb dX11_keep_23 (by decide) ?_
        refine lv_iload_n hx hb dX11_keep_25 rfl (lv_at hl 1 rfl) ?_
        refine lv_iadd hx hb dX11_keep_26 ?_
        refine lv_aload_n hx hb dX11_keep_27 rfl (lv_at hl 0 rfl) ?_
        refine gM0_0 C w wl_94 dX11_keep_28 ?_
        refine lv_bipush (v := 70) hx hb dX11_keep_31 (by decide) ?_
        refine lv_iload_n hx hb dX11_keep_33 rfl (lv_at hl 1 rfl) ?_
        refine lv_iadd hx hb dX11_keep_34 ?_
        obtain ⟨i2, h⟩ := ck_t h
        refine ldM1 (v := (σ.2.2 1 (((70 : Int32) + x1)).toNatClampNeg)) C w i2 rfl dX11_keep_35 ?_
        obtain ⟨i3, h⟩ := ck_t h
        refine stM1 (j := (((68 : Int32) + x1)).toNatClampNeg) C w i3 rfl dX11_keep_36 (fun H locs w => ?_)
        refine lv_iinc (v := (x1 + (1 : Int32))) (lv' := [(1, .int (x1 + (1 : Int32))), (0, .ref (ad 0))]) hx hb dX11_keep_37 hl (k := 1) rfl rfl (by decide) rfl (fun ls hl => ?_)
        refine lv_goto (tgt := 13) hx hb dX11_keep_40 (by decide) ?_
        exact ih13 _ _ h _ _ _ w (lv_sub hl [1, 0] rfl)
  have h := hf
  unfold f_X11_keep at h
  refine lv_aload_n hx hb dX11_keep_0 rfl (lv_at hl 0 rfl) ?_
  refine gM0_0 C w wl_94 dX11_keep_1 ?_
  refine lv_iconst (v := 5) hx hb dX11_keep_4 (by decide) ?_
  refine ldM1 (v := (σ.2.2 1 5)) C w (vl (by decide)) rfl dX11_keep_5 ?_
  refine lv_bipush (v := 8) hx hb dX11_keep_6 (by decide) ?_
  refine lv_icmp_ne (tgt := 51) hx hb dX11_keep_8 (by decide) (fun c1 => ?_) (fun c1 => ?_)
  · have h := it_f h c1
    exact b51 _ h _ _ _ w (lv_sub hl [0] rfl)
  · have h := it_t h c1
    refine lv_iconst (v := 0) hx hb dX11_keep_11 (by decide) ?_
    refine lv_istore_n (lv' := [(1, .int (0 : Int32)), (0, .ref (ad 0))]) hx hb dX11_keep_12 rfl hl (by decide) rfl (fun ls hl => ?_)
    exact L13 FU _ _ h _ _ _ w (lv_sub hl [1, 0] rfl)
theorem hd_X11_fell : yX11_fell.cls = RX11 ∧ yX11_fell.cls ≠ "java/lang/invoke/MethodHandle" ∧ yX11_fell.cls ≠ "java/lang/invoke/VarHandle" ∧ (parseMethodDescriptor yX11_fell.desc).map (fun d => d.parameters.length) = some 2 := by decide +kernel
def f_X11_fell_b18 (σ : St) : Option (Int32 × St) := (f_X11_bad σ (-2 : Int32)).bind fun q1 => some (q1.1, q1.2)
def f_X11_fell_b75 (σ : St) (x3 : Int32) (y0 : Int32) (y1 : Int32) : Option (Int32 × St) := cond (ckI y1 84) (some (x3, (sE σ 1 y1.toNatClampNeg y0))) none
def f_X11_fell (σ : St) (x1 : Int32) (x2 : Int32) : Option (Int32 × St) := (f_X11_isTree σ x1).bind fun q1 => if q1.1 = 0 then (f_X11_fell_b18 q1.2) else ((f_X11_in x2.toInt64 (0 : Int64) (1 : Int64)).bind fun q2 => if q2 = 0 then (f_X11_fell_b18 q1.2) else ((f_X11_keep q1.2).bind fun q3 => if x2 = (1 : Int32) then (f_X11_fell_b75 q3 (((q1.2.2.2 1 1) >>> (x1 &&& 31)) &&& (1 : Int32)) ((q3.2.2 1 1) ||| ((1 : Int32) <<< (x1 &&& 31))) (1 : Int32)) else (f_X11_fell_b75 q3 (((q1.2.2.2 1 1) >>> (x1 &&& 31)) &&& (1 : Int32)) ((q3.2.2 1 1) &&& (((1 : Int32) <<< (x1 &&& 31)) ^^^ (-1 : Int32))) (1 : Int32))))
abbrev rm_X11_fell : Room := { frames := 2, cells := 0, slots := 0, locals := 120 }
set_option maxHeartbeats 4000000 in
set_option maxRecDepth 100000 in
theorem c_X11_fell (l : Launch) (D : va_G) (ca : Nat → ClassId) (ad : Nat → Nat) (σ : St) (x1 : Int32) (x2 : Int32) (sz : Nat) (out : Int32 × St) (hf : f_X11_fell σ x1 x2 = some out) : Met l yX11_fell (.code yX11_fell cX11_fell 4 (some .int) :: WL) rm_X11_fell (PreC D ca (MW ca ad σ) sz [.ref (ad 0), .int x1, .int x2]) (PostI D (va_A (MW ca ad σ) sz) (MW ca ad out.2) out.1) 0 0 (va_A (MW ca ad σ) sz) := by
  refine Met.ofW (cc := cX11_fell) (maxL := 4) (ret := (some .int)) (by decide) rfl ?_
  intro p e s m args below meth c s₁ B hml hv
  obtain ⟨rfl, hsz, hP, hK, hD, hN⟩ := hv
  subst hsz
  have C := Cx.mk (own := RX11) B hml rfl hK hN (ws := (MW ca ad σ))
  have w : Wd (va_A (MW ca ad σ) s.heap.size) s D (MW ca ad σ) s.heap [] := ⟨hP, hD.self, va_S.rf⟩
  have hl := lv_entry ([.ref (ad 0), .int x1, .int x2]) (n := 4) (Nat.le_of_ble_eq_true rfl)
  rw [lg_entry_eq]
  generalize (lg_sl ([.ref (ad 0), .int x1, .int x2]) ++ List.replicate (4 - (lg_sl ([.ref (ad 0), .int x1, .int x2])).length) Slot.unset).toArray = ls at hl ⊢
  have hl : lv_has ls 4 [(0, .ref (ad 0)), (1, .int x1), (2, .int x2)] := hl
  change W p l e rm_X11_fell s m _ below meth c _ [] 0 0 _ _
  clear B hP hD hK hN hml
  generalize va_A (MW ca ad σ) s.heap.size = A at C w ⊢
  generalize ([.ref (ad 0), .int x1, .int x2] : List Value).toArray = av at C ⊢
  obtain ⟨Q, hQ⟩ : ∃ Q, Q = MQ below (PostI D A (MW ca ad out.2) out.1) av s 0 0 A := ⟨_, rfl⟩
  rw [← hQ]
  have hx := C.1
  have hb := C.2.1
  have b18 : ∀ (σ : St), f_X11_fell_b18 σ = some out → Bk p l e rm_X11_fell s m av below meth c A D 4 Q (MW ca ad σ) 18 [(0, .ref (ad 0))] [] := by
    intro σ h H locs ls w hl
    unfold f_X11_fell_b18 at h
    refine lv_aload_n hx hb dX11_fell_18 rfl (lv_at hl 0 rfl) ?_
    refine lv_bipush (v := -2) hx hb dX11_fell_19 (by decide) ?_
    obtain ⟨q1, hq1, h⟩ := ob_t h
    refine res_i C w (run_V (As := [.int (-2 : Int32)]) (rest := []) C w hl.1 (recvM0 C w) (c_X11_bad l D ca ad _ (-2 : Int32) _ q1 hq1) rfl rfl wl_140 wl_141 wl_142 wl_5 wl_143 hd_X11_bad rfl ⟨Nat.le_of_ble_eq_true rfl, Nat.le_of_ble_eq_true rfl⟩ rfl (Nat.le_of_ble_eq_true rfl) dX11_fell_21) (fun H locs w => ?_)
    rw [hQ]
    exact rI (F := MW ca ad) C w h dX11_fell_24
  have b75 : ∀ (σ : St) (x3 : Int32) (y0 : Int32) (y1 : Int32), f_X11_fell_b75 σ x3 y0 y1 = some out → Bk p l e rm_X11_fell s m av below meth c A D 4 Q (MW ca ad σ) 75 [(3, .int x3)] [.int y0, .int y1, .ref (ad 1)] := by
    intro σ x3 y0 y1 h H locs ls w hl
    unfold f_X11_fell_b75 at h
    obtain ⟨i1, h⟩ := ck_t h
    refine stM1 (j := y1.toNatClampNeg) C w i1 rfl dX11_fell_75 (fun H locs w => ?_)
    refine lv_iload_n hx hb dX11_fell_76 rfl (lv_at hl 0 rfl) ?_
    rw [hQ]
    exact rI (F := MW ca ad) C w h dX11_fell_77
  have h := hf
  unfold f_X11_fell at h
  refine lv_aload_n hx hb dX11_fell_0 rfl (lv_at hl 0 rfl) ?_
  refine lv_iload_n hx hb dX11_fell_1 rfl (lv_at hl 1 rfl) ?_
  obtain ⟨q1, hq1, h⟩ := ob_t h
  refine res_i C w (run_V (As := [.int x1]) (rest := []) C w hl.1 (recvM0 C w) (c_X11_isTree l D ca ad _ x1 _ q1 hq1) rfl rfl wl_188 wl_189 wl_190 wl_5 wl_191 hd_X11_isTree rfl ⟨Nat.le_of_ble_eq_true rfl, Nat.le_of_ble_eq_true rfl⟩ rfl (Nat.le_of_ble_eq_true rfl) dX11_fell_2) (fun H locs w => ?_)
  refine lv_if_eq (tgt := 18) hx hb dX11_fell_5 (by decide) (fun c1 => ?_) (fun c1 => ?_)
  · have h := it_t h c1
    exact b18 _ h _ _ _ w (lv_sub hl [0] rfl)
  · have h := it_f h c1
    refine lv_iload_n hx hb dX11_fell_8 rfl (lv_at hl 2 rfl) ?_
    refine lv_i2l hx hb dX11_fell_9 rfl ?_
    refine lv_lconst (v := 0) hx hb dX11_fell_10 (by decide) ?_
    refine lv_lconst (v := 1) hx hb dX11_fell_11 (by decide) ?_
    obtain ⟨q2, hq2, h⟩ := ob_t h
    refine res_i C w (run_S (As := [.long x2.toInt64, .long (0 : Int64), .long (1 : Int64)]) (rest := []) C w hl.1 (c_X11_in l D ca _ x2.toInt64 (0 : Int64) (1 : Int64) _ q2 hq2) rfl rfl wl_137 wl_138 wl_5 wl_139 hd_X11_in rfl ⟨Nat.le_of_ble_eq_true rfl, Nat.le_of_ble_eq_true rfl⟩ rfl (Nat.le_of_ble_eq_true rfl) dX11_fell_12) (fun H locs w => ?_)
    refine lv_if_ne (tgt := 25) hx hb dX11_fell_15 (by decide) (fun c2 => ?_) (fun c2 => ?_)
    · have h := it_f h c2
      refine lv_aload_n hx hb dX11_fell_25 rfl (lv_at hl 0 rfl) ?_
      refine gM0_0 C w wl_94 dX11_fell_26 ?_
      refine lv_iconst (v := 1) hx hb dX11_fell_29 (by decide) ?_
      refine ldM1 (v := (q1.2.2.2 1 1)) C w (vl (by decide)) rfl dX11_fell_30 ?_
      refine lv_iload_n hx hb dX11_fell_31 rfl (lv_at hl 1 rfl) ?_
      refine lv_ishr hx hb dX11_fell_32 ?_
      refine lv_iconst (v := 1) hx hb dX11_fell_33 (by decide) ?_
      refine lv_iand hx hb dX11_fell_34 ?_
      refine lv_istore_n (lv' := [(3, .int (((q1.2.2.2 1 1) >>> (x1 &&& 31)) &&& (1 : Int32))), (0, .ref (ad 0)), (1, .int x1), (2, .int x2)]) hx hb dX11_fell_35 rfl hl (by decide) rfl (fun ls hl => ?_)
      refine lv_aload_n hx hb dX11_fell_36 rfl (lv_at hl 1 rfl) ?_
      obtain ⟨q3, hq3, h⟩ := ob_t h
      refine res_v C w (run_V (As := []) (rest := []) C w hl.1 (recvM0 C w) (c_X11_keep l D ca ad _  _ q3 hq3) rfl rfl wl_409 wl_410 wl_411 wl_5 wl_412 hd_X11_keep rfl ⟨Nat.le_of_ble_eq_true rfl, Nat.le_of_ble_eq_true rfl⟩ rfl (Nat.le_of_ble_eq_true rfl) dX11_fell_37) (fun H locs w => ?_)
      refine lv_aload_n hx hb dX11_fell_40 rfl (lv_at hl 1 rfl) ?_
      refine gM0_0 C w wl_94 dX11_fell_41 ?_
      refine lv_iconst (v := 1) hx hb dX11_fell_44 (by decide) ?_
      refine lv_iload_n hx hb dX11_fell_45 rfl (lv_at hl 3 rfl) ?_
      refine lv_iconst (v := 1) hx hb dX11_fell_46 (by decide) ?_
      refine lv_icmp_ne (tgt := 63) hx hb dX11_fell_47 (by decide) (fun c3 => ?_) (fun c3 => ?_)
      · have h := it_f h c3
        refine lv_aload_n hx hb dX11_fell_63 rfl (lv_at hl 1 rfl) ?_
        refine gM0_0 C w wl_94 dX11_fell_64 ?_
        refine lv_iconst (v := 1) hx hb dX11_fell_67 (by decide) ?_
        refine ldM1 (v := (q3.2.2 1 1)) C w (vl (by decide)) rfl dX11_fell_68 ?_
        refine lv_iconst (v := 1) hx hb dX11_fell_69 (by decide) ?_
        refine lv_iload_n hx hb dX11_fell_70 rfl (lv_at hl 2 rfl) ?_
        refine lv_ishl hx hb dX11_fell_71 ?_
        refine lv_iconst (v := -1) hx hb dX11_fell_72 (by decide) ?_
        refine lv_ixor hx hb dX11_fell_73 ?_
        refine lv_iand hx hb dX11_fell_74 ?_
        exact b75 _ _ _ _ h _ _ _ w (lv_sub hl [0] rfl)
      · have h := it_t h c3
        refine lv_aload_n hx hb dX11_fell_50 rfl (lv_at hl 1 rfl) ?_
        refine gM0_0 C w wl_94 dX11_fell_51 ?_
        refine lv_iconst (v := 1) hx hb dX11_fell_54 (by decide) ?_
        refine ldM1 (v := (q3.2.2 1 1)) C w (vl (by decide)) rfl dX11_fell_55 ?_
        refine lv_iconst (v := 1) hx hb dX11_fell_56 (by decide) ?_
        refine lv_iload_n hx hb dX11_fell_57 rfl (lv_at hl 2 rfl) ?_
        refine lv_ishl hx hb dX11_fell_58 ?_
        refine lv_ior hx hb dX11_fell_59 ?_
        refine lv_goto (tgt := 75) hx hb dX11_fell_60 (by decide) ?_
        exact b75 _ _ _ _ h _ _ _ w (lv_sub hl [0] rfl)
    · have h := it_t h c2
      exact b18 _ h _ _ _ w (lv_sub hl [0] rfl)
theorem hd_X11_season : yX11_season.cls = RX11 ∧ yX11_season.cls ≠ "java/lang/invoke/MethodHandle" ∧ yX11_season.cls ≠ "java/lang/invoke/VarHandle" ∧ (parseMethodDescriptor yX11_season.desc).map (fun d => d.parameters.length) = some 1 := by decide +kernel
def f_X11_season_b56 (σ : St) (y0 : Int32) (y1 : Int32) : Option (Int32 × St) := cond (ckI y1 84) (some (((sE σ 1 y1.toNatClampNeg y0).2.2 1 2), (sE σ 1 y1.toNatClampNeg y0))) none
def f_X11_season (σ : St) (x1 : Int32) : Option (Int32 × St) := (f_X11_in x1.toInt64 (1 : Int64) (60 : Int64)).bind fun q1 => if q1 = 0 then ((f_X11_bad σ (-2 : Int32)).bind fun q3 => some (q3.1, q3.2)) else ((f_X11_keep σ).bind fun q2 => if ((q2.2.2 1 2) + x1) ≤ (999 : Int32) then (f_X11_season_b56 q2 ((q2.2.2 1 2) + x1) (2 : Int32)) else (f_X11_season_b56 q2 (999 : Int32) (2 : Int32)))
abbrev rm_X11_season : Room := { frames := 1, cells := 0, slots := 0, locals := 60 }
set_option maxHeartbeats 4000000 in
set_option maxRecDepth 100000 in
theorem c_X11_season (l : Launch) (D : va_G) (ca : Nat → ClassId) (ad : Nat → Nat) (σ : St) (x1 : Int32) (sz : Nat) (out : Int32 × St) (hf : f_X11_season σ x1 = some out) : Met l yX11_season (.code yX11_season cX11_season 2 (some .int) :: WL) rm_X11_season (PreC D ca (MW ca ad σ) sz [.ref (ad 0), .int x1]) (PostI D (va_A (MW ca ad σ) sz) (MW ca ad out.2) out.1) 0 0 (va_A (MW ca ad σ) sz) := by
  refine Met.ofW (cc := cX11_season) (maxL := 2) (ret := (some .int)) (by decide) rfl ?_
  intro p e s m args below meth c s₁ B hml hv
  obtain ⟨rfl, hsz, hP, hK, hD, hN⟩ := hv
  subst hsz
  have C := Cx.mk (own := RX11) B hml rfl hK hN (ws := (MW ca ad σ))
  have w : Wd (va_A (MW ca ad σ) s.heap.size) s D (MW ca ad σ) s.heap [] := ⟨hP, hD.self, va_S.rf⟩
  have hl := lv_entry ([.ref (ad 0), .int x1]) (n := 2) (Nat.le_of_ble_eq_true rfl)
  rw [lg_entry_eq]
  generalize (lg_sl ([.ref (ad 0), .int x1]) ++ List.replicate (2 - (lg_sl ([.ref (ad 0), .int x1])).length) Slot.unset).toArray = ls at hl ⊢
  have hl : lv_has ls 2 [(0, .ref (ad 0)), (1, .int x1)] := hl
  change W p l e rm_X11_season s m _ below meth c _ [] 0 0 _ _
  clear B hP hD hK hN hml
  generalize va_A (MW ca ad σ) s.heap.size = A at C w ⊢
  generalize ([.ref (ad 0), .int x1] : List Value).toArray = av at C ⊢
  obtain ⟨Q, hQ⟩ : ∃ Q, Q = MQ below (PostI D A (MW ca ad out.2) out.1) av s 0 0 A := ⟨_, rfl⟩
  rw [← hQ]
  have hx := C.1
  have hb := C.2.1
  have b56 : ∀ (σ : St) (y0 : Int32) (y1 : Int32), f_X11_season_b56 σ y0 y1 = some out → Bk p l e rm_X11_season s m av below meth c A D 2 Q (MW ca ad σ) 56 [(0, .ref (ad 0))] [.int y0, .int y1, .ref (ad 1)] := by
    intro σ y0 y1 h H locs ls w hl
    unfold f_X11_season_b56 at h
    obtain ⟨i1, h⟩ := ck_t h
    refine stM1 (j := y1.toNatClampNeg) C w i1 rfl dX11_season_56 (fun H locs w => ?_)
    refine lv_aload_n hx hb dX11_season_57 rfl (lv_at hl 0 rfl) ?_
    refine gM0_0 C w wl_94 dX11_season_58 ?_
    refine lv_iconst (v := 2) hx hb dX11_season_61 (by decide) ?_
    refine ldM1 (v := ((sE σ 1 y1.toNatClampNeg y0).2.2 1 2)) C w (vl (by decide)) rfl dX11_season_62 ?_
    rw [hQ]
    exact rI (F := MW ca ad) C w h dX11_season_63
  have h := hf
  unfold f_X11_season at h
  refine lv_iload_n hx hb dX11_season_0 rfl (lv_at hl 1 rfl) ?_
  refine lv_i2l hx hb dX11_season_1 rfl ?_
  refine lv_lconst (v := 1) hx hb dX11_season_2 (by decide) ?_
  refine lv_ldc2 (v := 60) hx hb C.ow (C.ts _ wl_423) dX11_season_3 ?_
  obtain ⟨q1, hq1, h⟩ := ob_t h
  refine res_i C w (run_S (As := [.long x1.toInt64, .long (1 : Int64), .long (60 : Int64)]) (rest := []) C w hl.1 (c_X11_in l D ca _ x1.toInt64 (1 : Int64) (60 : Int64) _ q1 hq1) rfl rfl wl_137 wl_138 wl_5 wl_139 hd_X11_in rfl ⟨Nat.le_of_ble_eq_true rfl, Nat.le_of_ble_eq_true rfl⟩ rfl (Nat.le_of_ble_eq_true rfl) dX11_season_6) (fun H locs w => ?_)
  refine lv_if_ne (tgt := 19) hx hb dX11_season_9 (by decide) (fun c1 => ?_) (fun c1 => ?_)
  · have h := it_f h c1
    refine lv_aload_n hx hb dX11_season_19 rfl (lv_at hl 0 rfl) ?_
    obtain ⟨q2, hq2, h⟩ := ob_t h
    refine res_v C w (run_V (As := []) (rest := []) C w hl.1 (recvM0 C w) (c_X11_keep l D ca ad _  _ q2 hq2) rfl rfl wl_409 wl_410 wl_411 wl_5 wl_412 hd_X11_keep rfl ⟨Nat.le_of_ble_eq_true rfl, Nat.le_of_ble_eq_true rfl⟩ rfl (Nat.le_of_ble_eq_true rfl) dX11_season_20) (fun H locs w => ?_)
    refine lv_aload_n hx hb dX11_season_23 rfl (lv_at hl 0 rfl) ?_
    refine gM0_0 C w wl_94 dX11_season_24 ?_
    refine lv_iconst (v := 2) hx hb dX11_season_27 (by decide) ?_
    refine lv_aload_n hx hb dX11_season_28 rfl (lv_at hl 0 rfl) ?_
    refine gM0_0 C w wl_94 dX11_season_29 ?_
    refine lv_iconst (v := 2) hx hb dX11_season_32 (by decide) ?_
    refine ldM1 (v := (q2.2.2 1 2)) C w (vl (by decide)) rfl dX11_season_33 ?_
    refine lv_iload_n hx hb dX11_season_34 rfl (lv_at hl 1 rfl) ?_
    refine lv_iadd hx hb dX11_season_35 ?_
    refine lv_sipush (v := 999) hx hb dX11_season_36 (by decide) ?_
    refine lv_icmp_le (tgt := 48) hx hb dX11_season_39 (by decide) (fun c2 => ?_) (fun c2 => ?_)
    · have h := it_t h c2
      refine lv_aload_n hx hb dX11_season_48 rfl (lv_at hl 0 rfl) ?_
      refine gM0_0 C w wl_94 dX11_season_49 ?_
      refine lv_iconst (v := 2) hx hb dX11_season_52 (by decide) ?_
      refine ldM1 (v := (q2.2.2 1 2)) C w (vl (by decide)) rfl dX11_season_53 ?_
      refine lv_iload_n hx hb dX11_season_54 rfl (lv_at hl 1 rfl) ?_
      refine lv_iadd hx hb dX11_season_55 ?_
      exact b56 _ _ _ h _ _ _ w (lv_sub hl [0] rfl)
    · have h := it_f h c2
      refine lv_sipush (v := 999) hx hb dX11_season_42 (by decide) ?_
      refine lv_goto (tgt := 56) hx hb dX11_season_45 (by decide) ?_
      exact b56 _ _ _ h _ _ _ w (lv_sub hl [0] rfl)
  · have h := it_t h c1
    refine lv_aload_n hx hb dX11_season_12 rfl (lv_at hl 0 rfl) ?_
    refine lv_bipush (v := -2) hx hb dX11_season_13 (by decide) ?_
    obtain ⟨q3, hq3, h⟩ := ob_t h
    refine res_i C w (run_V (As := [.int (-2 : Int32)]) (rest := []) C w hl.1 (recvM0 C w) (c_X11_bad l D ca ad _ (-2 : Int32) _ q3 hq3) rfl rfl wl_140 wl_141 wl_142 wl_5 wl_143 hd_X11_bad rfl ⟨Nat.le_of_ble_eq_true rfl, Nat.le_of_ble_eq_true rfl⟩ rfl (Nat.le_of_ble_eq_true rfl) dX11_season_15) (fun H locs w => ?_)
    rw [hQ]
    exact rI (F := MW ca ad) C w h dX11_season_18
theorem hd_X11_undo : yX11_undo.cls = RX11 ∧ yX11_undo.cls ≠ "java/lang/invoke/MethodHandle" ∧ yX11_undo.cls ≠ "java/lang/invoke/VarHandle" ∧ (parseMethodDescriptor yX11_undo.desc).map (fun d => d.parameters.length) = some 0 := by decide +kernel
def f_X11_undo (σ : St) : Option (Int32 × St) := if (σ.2.2 1 5) = 0 then ((f_X11_no σ).bind fun q1 => some (q1.1, q1.2)) else (cond (ckI ((68 : Int32) + ((2 : Int32) * ((sE σ 1 5 ((σ.2.2 1 5) - (1 : Int32))).2.2 1 5))) 84) (cond (ckI (((68 : Int32) + ((2 : Int32) * ((sE (sE σ 1 5 ((σ.2.2 1 5) - (1 : Int32))) 1 1 ((sE σ 1 5 ((σ.2.2 1 5) - (1 : Int32))).2.2 1 (((68 : Int32) + ((2 : Int32) * ((sE σ 1 5 ((σ.2.2 1 5) - (1 : Int32))).2.2 1 5)))).toNatClampNeg)).2.2 1 5))) + (1 : Int32)) 84) (some (((sE (sE (sE σ 1 5 ((σ.2.2 1 5) - (1 : Int32))) 1 1 ((sE σ 1 5 ((σ.2.2 1 5) - (1 : Int32))).2.2 1 (((68 : Int32) + ((2 : Int32) * ((sE σ 1 5 ((σ.2.2 1 5) - (1 : Int32))).2.2 1 5)))).toNatClampNeg)) 1 2 ((sE (sE σ 1 5 ((σ.2.2 1 5) - (1 : Int32))) 1 1 ((sE σ 1 5 ((σ.2.2 1 5) - (1 : Int32))).2.2 1 (((68 : Int32) + ((2 : Int32) * ((sE σ 1 5 ((σ.2.2 1 5) - (1 : Int32))).2.2 1 5)))).toNatClampNeg)).2.2 1 ((((68 : Int32) + ((2 : Int32) * ((sE (sE σ 1 5 ((σ.2.2 1 5) - (1 : Int32))) 1 1 ((sE σ 1 5 ((σ.2.2 1 5) - (1 : Int32))).2.2 1 (((68 : Int32) + ((2 : Int32) * ((sE σ 1 5 ((σ.2.2 1 5) - (1 : Int32))).2.2 1 5)))).toNatClampNeg)).2.2 1 5))) + (1 : Int32))).toNatClampNeg)).2.2 1 2), (sE (sE (sE σ 1 5 ((σ.2.2 1 5) - (1 : Int32))) 1 1 ((sE σ 1 5 ((σ.2.2 1 5) - (1 : Int32))).2.2 1 (((68 : Int32) + ((2 : Int32) * ((sE σ 1 5 ((σ.2.2 1 5) - (1 : Int32))).2.2 1 5)))).toNatClampNeg)) 1 2 ((sE (sE σ 1 5 ((σ.2.2 1 5) - (1 : Int32))) 1 1 ((sE σ 1 5 ((σ.2.2 1 5) - (1 : Int32))).2.2 1 (((68 : Int32) + ((2 : Int32) * ((sE σ 1 5 ((σ.2.2 1 5) - (1 : Int32))).2.2 1 5)))).toNatClampNeg)).2.2 1 ((((68 : Int32) + ((2 : Int32) * ((sE (sE σ 1 5 ((σ.2.2 1 5) - (1 : Int32))) 1 1 ((sE σ 1 5 ((σ.2.2 1 5) - (1 : Int32))).2.2 1 (((68 : Int32) + ((2 : Int32) * ((sE σ 1 5 ((σ.2.2 1 5) - (1 : Int32))).2.2 1 5)))).toNatClampNeg)).2.2 1 5))) + (1 : Int32))).toNatClampNeg)))) none) none)
abbrev rm_X11_undo : Room := { frames := 1, cells := 0, slots := 0, locals := 60 }
set_option maxHeartbeats 4000000 in
set_option maxRecDepth 100000 in
theorem c_X11_undo (l : Launch) (D : va_G) (ca : Nat → ClassId) (ad : Nat → Nat) (σ : St)  (sz : Nat) (out : Int32 × St) (hf : f_X11_undo σ  = some out) : Met l yX11_undo (.code yX11_undo cX11_undo 1 (some .int) :: WL) rm_X11_undo (PreC D ca (MW ca ad σ) sz [.ref (ad 0)]) (PostI D (va_A (MW ca ad σ) sz) (MW ca ad out.2) out.1) 0 0 (va_A (MW ca ad σ) sz) := by
  refine Met.ofW (cc := cX11_undo) (maxL := 1) (ret := (some .int)) (by decide) rfl ?_
  intro p e s m args below meth c s₁ B hml hv
  obtain ⟨rfl, hsz, hP, hK, hD, hN⟩ := hv
  subst hsz
  have C := Cx.mk (own := RX11) B hml rfl hK hN (ws := (MW ca ad σ))
  have w : Wd (va_A (MW ca ad σ) s.heap.size) s D (MW ca ad σ) s.heap [] := ⟨hP, hD.self, va_S.rf⟩
  have hl := lv_entry ([.ref (ad 0)]) (n := 1) (Nat.le_of_ble_eq_true rfl)
  rw [lg_entry_eq]
  generalize (lg_sl ([.ref (ad 0)]) ++ List.replicate (1 - (lg_sl ([.ref (ad 0)])).length) Slot.unset).toArray = ls at hl ⊢
  have hl : lv_has ls 1 [(0, .ref (ad 0))] := hl
  change W p l e rm_X11_undo s m _ below meth c _ [] 0 0 _ _
  clear B hP hD hK hN hml
  generalize va_A (MW ca ad σ) s.heap.size = A at C w ⊢
  generalize ([.ref (ad 0)] : List Value).toArray = av at C ⊢
  obtain ⟨Q, hQ⟩ : ∃ Q, Q = MQ below (PostI D A (MW ca ad out.2) out.1) av s 0 0 A := ⟨_, rfl⟩
  rw [← hQ]
  have hx := C.1
  have hb := C.2.1
  have h := hf
  unfold f_X11_undo at h
  refine lv_aload_n hx hb dX11_undo_0 rfl (lv_at hl 0 rfl) ?_
  refine gM0_0 C w wl_94 dX11_undo_1 ?_
  refine lv_iconst (v := 5) hx hb dX11_undo_4 (by decide) ?_
  refine ldM1 (v := (σ.2.2 1 5)) C w (vl (by decide)) rfl dX11_undo_5 ?_
  refine lv_if_ne (tgt := 14) hx hb dX11_undo_6 (by decide) (fun c1 => ?_) (fun c1 => ?_)
  · have h := it_f h c1
    refine lv_aload_n hx hb dX11_undo_14 rfl (lv_at hl 0 rfl) ?_
    refine gM0_0 C w wl_94 dX11_undo_15 ?_
    refine lv_iconst (v := 5) hx hb dX11_undo_18 (by decide) ?_
    refine lv_dup2_11 hx hb dX11_undo_19 rfl rfl ?_
    refine ldM1 (v := (σ.2.2 1 5)) C w (vl (by decide)) rfl dX11_undo_20 ?_
    refine lv_iconst (v := 1) hx hb dX11_undo_21 (by decide) ?_
    refine lv_isub hx hb dX11_undo_22 ?_
    refine stM1 (j := 5) C w (vl (by decide)) rfl dX11_undo_23 (fun H locs w => ?_)
    refine lv_aload_n hx hb dX11_undo_24 rfl (lv_at hl 0 rfl) ?_
    refine gM0_0 C w wl_94 dX11_undo_25 ?_
    refine lv_iconst (v := 1) hx hb dX11_undo_28 (by decide) ?_
    refine lv_aload_n hx hb dX11_undo_29 rfl (lv_at hl 0 rfl) ?_
    refine gM0_0 C w wl_94 dX11_undo_30 ?_
    refine lv_bipush (v := 68) hx hb dX11_undo_33 (by decide) ?_
    refine lv_iconst (v := 2) hx hb dX11_undo_35 (by decide) ?_
    refine lv_aload_n hx hb dX11_undo_36 rfl (lv_at hl 0 rfl) ?_
    refine gM0_0 C w wl_94 dX11_undo_37 ?_
    refine lv_iconst (v := 5) hx hb dX11_undo_40 (by decide) ?_
    refine ldM1 (v := ((sE σ 1 5 ((σ.2.2 1 5) - (1 : Int32))).2.2 1 5)) C w (vl (by decide)) rfl dX11_undo_41 ?_
    refine lv_imul hx hb dX11_undo_42 ?_
    refine lv_iadd hx hb dX11_undo_43 ?_
    obtain ⟨i2, h⟩ := ck_t h
    refine ldM1 (v := ((sE σ 1 5 ((σ.2.2 1 5) - (1 : Int32))).2.2 1 (((68 : Int32) + ((2 : Int32) * ((sE σ 1 5 ((σ.2.2 1 5) - (1 : Int32))).2.2 1 5)))).toNatClampNeg)) C w i2 rfl dX11_undo_44 ?_
    refine stM1 (j := 1) C w (vl (by decide)) rfl dX11_undo_45 (fun H locs w => ?_)
    refine lv_aload_n hx hb dX11_undo_46 rfl (lv_at hl 0 rfl) ?_
    refine gM0_0 C w wl_94 dX11_undo_47 ?_
    refine lv_iconst (v := 2) hx hb dX11_undo_50 (by decide) ?_
    refine lv_aload_n hx hb dX11_undo_51 rfl (lv_at hl 0 rfl) ?_
    refine gM0_0 C w wl_94 dX11_undo_52 ?_
    refine lv_bipush (v := 68) hx hb dX11_undo_55 (by decide) ?_
    refine lv_iconst (v := 2) hx hb dX11_undo_57 (by decide) ?_
    refine lv_aload_n hx hb dX11_undo_58 rfl (lv_at hl 0 rfl) ?_
    refine gM0_0 C w wl_94 dX11_undo_59 ?_
    refine lv_iconst (v := 5) hx hb dX11_undo_62 (by decide) ?_
    refine ldM1 (v := ((sE (sE σ 1 5 ((σ.2.2 1 5) - (1 : Int32))) 1 1 ((sE σ 1 5 ((σ.2.2 1 5) - (1 : Int32))).2.2 1 (((68 : Int32) + ((2 : Int32) * ((sE σ 1 5 ((σ.2.2 1 5) - (1 : Int32))).2.2 1 5)))).toNatClampNeg)).2.2 1 5)) C w (vl (by decide)) rfl dX11_undo_63 ?_
    refine lv_imul hx hb dX11_undo_64 ?_
    refine lv_iadd hx hb dX11_undo_65 ?_
    refine lv_iconst (v := 1) hx hb dX11_undo_66 (by decide) ?_
    refine lv_iadd hx hb dX11_undo_67 ?_
    obtain ⟨i3, h⟩ := ck_t h
    refine ldM1 (v := ((sE (sE σ 1 5 ((σ.2.2 1 5) - (1 : Int32))) 1 1 ((sE σ 1 5 ((σ.2.2 1 5) - (1 : Int32))).2.2 1 (((68 : Int32) + ((2 : Int32) * ((sE σ 1 5 ((σ.2.2 1 5) - (1 : Int32))).2.2 1 5)))).toNatClampNeg)).2.2 1 ((((68 : Int32) + ((2 : Int32) * ((sE (sE σ 1 5 ((σ.2.2 1 5) - (1 : Int32))) 1 1 ((sE σ 1 5 ((σ.2.2 1 5) - (1 : Int32))).2.2 1 (((68 : Int32) + ((2 : Int32) * ((sE σ 1 5 ((σ.2.2 1 5) - (1 : Int32))).2.2 1 5)))).toNatClampNeg)).2.2 1 5))) + (1 : Int32))).toNatClampNeg)) C w i3 rfl dX11_undo_68 ?_
    refine stM1 (j := 2) C w (vl (by decide)) rfl dX11_undo_69 (fun H locs w => ?_)
    refine lv_aload_n hx hb dX11_undo_70 rfl (lv_at hl 0 rfl) ?_
    refine gM0_0 C w wl_94 dX11_undo_71 ?_
    refine lv_iconst (v := 2) hx hb dX11_undo_74 (by decide) ?_
    refine ldM1 (v := ((sE (sE (sE σ 1 5 ((σ.2.2 1 5) - (1 : Int32))) 1 1 ((sE σ 1 5 ((σ.2.2 1 5) - (1 : Int32))).2.2 1 (((68 : Int32) + ((2 : Int32) * ((sE σ 1 5 ((σ.2.2 1 5) - (1 : Int32))).2.2 1 5)))).toNatClampNeg)) 1 2 ((sE (sE σ 1 5 ((σ.2.2 1 5) - (1 : Int32))) 1 1 ((sE σ 1 5 ((σ.2.2 1 5) - (1 : Int32))).2.2 1 (((68 : Int32) + ((2 : Int32) * ((sE σ 1 5 ((σ.2.2 1 5) - (1 : Int32))).2.2 1 5)))).toNatClampNeg)).2.2 1 ((((68 : Int32) + ((2 : Int32) * ((sE (sE σ 1 5 ((σ.2.2 1 5) - (1 : Int32))) 1 1 ((sE σ 1 5 ((σ.2.2 1 5) - (1 : Int32))).2.2 1 (((68 : Int32) + ((2 : Int32) * ((sE σ 1 5 ((σ.2.2 1 5) - (1 : Int32))).2.2 1 5)))).toNatClampNeg)).2.2 1 5))) + (1 : Int32))).toNatClampNeg)).2.2 1 2)) C w (vl (by decide)) rfl dX11_undo_75 ?_
    rw [hQ]
    exact rI (F := MW ca ad) C w h dX11_undo_76
  · have h := it_t h c1
    refine lv_aload_n hx hb dX11_undo_9 rfl (lv_at hl 0 rfl) ?_
    obtain ⟨q1, hq1, h⟩ := ob_t h
    refine res_i C w (run_V (As := []) (rest := []) C w hl.1 (recvM0 C w) (c_X11_no l D ca ad _  _ q1 hq1) rfl rfl wl_441 wl_442 wl_443 wl_5 wl_444 hd_X11_no rfl ⟨Nat.le_of_ble_eq_true rfl, Nat.le_of_ble_eq_true rfl⟩ rfl (Nat.le_of_ble_eq_true rfl) dX11_undo_10) (fun H locs w => ?_)
    rw [hQ]
    exact rI (F := MW ca ad) C w h dX11_undo_13
theorem hd_X11_of : yX11_of.cls = RX11 ∧ yX11_of.cls ≠ "java/lang/invoke/MethodHandle" ∧ yX11_of.cls ≠ "java/lang/invoke/VarHandle" ∧ (parseMethodDescriptor yX11_of.desc).map (fun d => d.parameters.length) = some 2 := by decide +kernel
def f_X11_of_b20 (σ : St) : Option (Int32 × St) := (f_X11_bad σ (-2 : Int32)).bind fun q1 => some (q1.1, q1.2)
def f_X11_of (σ : St) (x1 : Int32) (x2 : Int32) : Option (Int32 × St) := (f_X11_isTree σ x1).bind fun q1 => if q1.1 = 0 then (f_X11_of_b20 q1.2) else ((f_X11_in x2.toInt64 (0 : Int64) (2 : Int64)).bind fun q2 => if q2 = 0 then (f_X11_of_b20 q1.2) else (if x2 = 0 then (cond (ckI ((6 : Int32) + x1) 84) (some ((q1.2.2.2 1 (((6 : Int32) + x1)).toNatClampNeg), q1.2)) none) else (if x2 = (1 : Int32) then (some ((((q1.2.2.2 1 1) >>> (x1 &&& 31)) &&& (1 : Int32)), q1.2)) else (cond (ckI ((13 : Int32) + x1) 84) (some ((q1.2.2.2 1 (((13 : Int32) + x1)).toNatClampNeg), q1.2)) none))))
abbrev rm_X11_of : Room := { frames := 2, cells := 0, slots := 0, locals := 120 }
set_option maxHeartbeats 4000000 in
set_option maxRecDepth 100000 in
theorem c_X11_of (l : Launch) (D : va_G) (ca : Nat → ClassId) (ad : Nat → Nat) (σ : St) (x1 : Int32) (x2 : Int32) (sz : Nat) (out : Int32 × St) (hf : f_X11_of σ x1 x2 = some out) : Met l yX11_of (.code yX11_of cX11_of 3 (some .int) :: WL) rm_X11_of (PreC D ca (MW ca ad σ) sz [.ref (ad 0), .int x1, .int x2]) (PostI D (va_A (MW ca ad σ) sz) (MW ca ad out.2) out.1) 0 0 (va_A (MW ca ad σ) sz) := by
  refine Met.ofW (cc := cX11_of) (maxL := 3) (ret := (some .int)) (by decide) rfl ?_
  intro p e s m args below meth c s₁ B hml hv
  obtain ⟨rfl, hsz, hP, hK, hD, hN⟩ := hv
  subst hsz
  have C := Cx.mk (own := RX11) B hml rfl hK hN (ws := (MW ca ad σ))
  have w : Wd (va_A (MW ca ad σ) s.heap.size) s D (MW ca ad σ) s.heap [] := ⟨hP, hD.self, va_S.rf⟩
  have hl := lv_entry ([.ref (ad 0), .int x1, .int x2]) (n := 3) (Nat.le_of_ble_eq_true rfl)
  rw [lg_entry_eq]
  generalize (lg_sl ([.ref (ad 0), .int x1, .int x2]) ++ List.replicate (3 - (lg_sl ([.ref (ad 0), .int x1, .int x2])).length) Slot.unset).toArray = ls at hl ⊢
  have hl : lv_has ls 3 [(0, .ref (ad 0)), (1, .int x1), (2, .int x2)] := hl
  change W p l e rm_X11_of s m _ below meth c _ [] 0 0 _ _
  clear B hP hD hK hN hml
  generalize va_A (MW ca ad σ) s.heap.size = A at C w ⊢
  generalize ([.ref (ad 0), .int x1, .int x2] : List Value).toArray = av at C ⊢
  obtain ⟨Q, hQ⟩ : ∃ Q, Q = MQ below (PostI D A (MW ca ad out.2) out.1) av s 0 0 A := ⟨_, rfl⟩
  rw [← hQ]
  have hx := C.1
  have hb := C.2.1
  have b20 : ∀ (σ : St), f_X11_of_b20 σ = some out → Bk p l e rm_X11_of s m av below meth c A D 3 Q (MW ca ad σ) 20 [(0, .ref (ad 0))] [] := by
    intro σ h H locs ls w hl
    unfold f_X11_of_b20 at h
    refine lv_aload_n hx hb dX11_of_20 rfl (lv_at hl 0 rfl) ?_
    refine lv_bipush (v := -2) hx hb dX11_of_21 (by decide) ?_
    obtain ⟨q1, hq1, h⟩ := ob_t h
    refine res_i C w (run_V (As := [.int (-2 : Int32)]) (rest := []) C w hl.1 (recvM0 C w) (c_X11_bad l D ca ad _ (-2 : Int32) _ q1 hq1) rfl rfl wl_140 wl_141 wl_142 wl_5 wl_143 hd_X11_bad rfl ⟨Nat.le_of_ble_eq_true rfl, Nat.le_of_ble_eq_true rfl⟩ rfl (Nat.le_of_ble_eq_true rfl) dX11_of_23) (fun H locs w => ?_)
    rw [hQ]
    exact rI (F := MW ca ad) C w h dX11_of_26
  have h := hf
  unfold f_X11_of at h
  refine lv_aload_n hx hb dX11_of_0 rfl (lv_at hl 0 rfl) ?_
  refine lv_iload_n hx hb dX11_of_1 rfl (lv_at hl 1 rfl) ?_
  obtain ⟨q1, hq1, h⟩ := ob_t h
  refine res_i C w (run_V (As := [.int x1]) (rest := []) C w hl.1 (recvM0 C w) (c_X11_isTree l D ca ad _ x1 _ q1 hq1) rfl rfl wl_188 wl_189 wl_190 wl_5 wl_191 hd_X11_isTree rfl ⟨Nat.le_of_ble_eq_true rfl, Nat.le_of_ble_eq_true rfl⟩ rfl (Nat.le_of_ble_eq_true rfl) dX11_of_2) (fun H locs w => ?_)
  refine lv_if_eq (tgt := 20) hx hb dX11_of_5 (by decide) (fun c1 => ?_) (fun c1 => ?_)
  · have h := it_t h c1
    exact b20 _ h _ _ _ w (lv_sub hl [0] rfl)
  · have h := it_f h c1
    refine lv_iload_n hx hb dX11_of_8 rfl (lv_at hl 2 rfl) ?_
    refine lv_i2l hx hb dX11_of_9 rfl ?_
    refine lv_lconst (v := 0) hx hb dX11_of_10 (by decide) ?_
    refine lv_ldc2 (v := 2) hx hb C.ow (C.ts _ wl_454) dX11_of_11 ?_
    obtain ⟨q2, hq2, h⟩ := ob_t h
    refine res_i C w (run_S (As := [.long x2.toInt64, .long (0 : Int64), .long (2 : Int64)]) (rest := []) C w hl.1 (c_X11_in l D ca _ x2.toInt64 (0 : Int64) (2 : Int64) _ q2 hq2) rfl rfl wl_137 wl_138 wl_5 wl_139 hd_X11_in rfl ⟨Nat.le_of_ble_eq_true rfl, Nat.le_of_ble_eq_true rfl⟩ rfl (Nat.le_of_ble_eq_true rfl) dX11_of_14) (fun H locs w => ?_)
    refine lv_if_ne (tgt := 27) hx hb dX11_of_17 (by decide) (fun c2 => ?_) (fun c2 => ?_)
    · have h := it_f h c2
      refine lv_iload_n hx hb dX11_of_27 rfl (lv_at hl 2 rfl) ?_
      refine lv_if_ne (tgt := 43) hx hb dX11_of_28 (by decide) (fun c3 => ?_) (fun c3 => ?_)
      · have h := it_f h c3
        refine lv_iload_n hx hb dX11_of_43 rfl (lv_at hl 2 rfl) ?_
        refine lv_iconst (v := 1) hx hb dX11_of_44 (by decide) ?_
        refine lv_icmp_ne (tgt := 61) hx hb dX11_of_45 (by decide) (fun c4 => ?_) (fun c4 => ?_)
        · have h := it_f h c4
          refine lv_aload_n hx hb dX11_of_61 rfl (lv_at hl 0 rfl) ?_
          refine gM0_0 C w wl_94 dX11_of_62 ?_
          refine lv_bipush (v := 13) hx hb dX11_of_65 (by decide) ?_
          refine lv_iload_n hx hb dX11_of_67 rfl (lv_at hl 1 rfl) ?_
          refine lv_iadd hx hb dX11_of_68 ?_
          obtain ⟨i5, h⟩ := ck_t h
          refine ldM1 (v := (q1.2.2.2 1 (((13 : Int32) + x1)).toNatClampNeg)) C w i5 rfl dX11_of_69 ?_
          rw [hQ]
          exact rI (F := MW ca ad) C w h dX11_of_70
        · have h := it_t h c4
          refine lv_aload_n hx hb dX11_of_48 rfl (lv_at hl 0 rfl) ?_
          refine gM0_0 C w wl_94 dX11_of_49 ?_
          refine lv_iconst (v := 1) hx hb dX11_of_52 (by decide) ?_
          refine ldM1 (v := (q1.2.2.2 1 1)) C w (vl (by decide)) rfl dX11_of_53 ?_
          refine lv_iload_n hx hb dX11_of_54 rfl (lv_at hl 1 rfl) ?_
          refine lv_ishr hx hb dX11_of_55 ?_
          refine lv_iconst (v := 1) hx hb dX11_of_56 (by decide) ?_
          refine lv_iand hx hb dX11_of_57 ?_
          refine lv_goto (tgt := 70) hx hb dX11_of_58 (by decide) ?_
          rw [hQ]
          exact rI (F := MW ca ad) C w h dX11_of_70
      · have h := it_t h c3
        refine lv_aload_n hx hb dX11_of_31 rfl (lv_at hl 0 rfl) ?_
        refine gM0_0 C w wl_94 dX11_of_32 ?_
        refine lv_bipush (v := 6) hx hb dX11_of_35 (by decide) ?_
        refine lv_iload_n hx hb dX11_of_37 rfl (lv_at hl 1 rfl) ?_
        refine lv_iadd hx hb dX11_of_38 ?_
        obtain ⟨i6, h⟩ := ck_t h
        refine ldM1 (v := (q1.2.2.2 1 (((6 : Int32) + x1)).toNatClampNeg)) C w i6 rfl dX11_of_39 ?_
        refine lv_goto (tgt := 70) hx hb dX11_of_40 (by decide) ?_
        rw [hQ]
        exact rI (F := MW ca ad) C w h dX11_of_70
    · have h := it_t h c2
      exact b20 _ h _ _ _ w (lv_sub hl [0] rfl)
theorem hd_X11_turned : yX11_turned.cls ≠ "java/lang/invoke/MethodHandle" ∧ yX11_turned.cls ≠ "java/lang/invoke/VarHandle" ∧ (parseMethodDescriptor yX11_turned.desc).map (fun d => d.parameters.length) = some 1 := by decide +kernel
def f_X11_turned_b4 (K4 : Int32 → Int32 → Option (Int32)) (x1 : Int32) (x2 : Int32) : Option (Int32) := if x2 ≤ 0 then (some x1) else (K4 (((10 : Int32) * x1) + (x2 - x2 / (10 : Int32) * (10 : Int32))) (x2 / (10 : Int32)))
def f_X11_turned_L4 : Nat → Int32 → Int32 → Option (Int32)
  | 0 => fun _ _ => none
  | n + 1 => f_X11_turned_b4 (f_X11_turned_L4 n)
def f_X11_turned (x0 : Int32) : Option (Int32) := f_X11_turned_L4 FU (0 : Int32) x0
abbrev rm_X11_turned : Room := { frames := 0, cells := 0, slots := 0, locals := 0 }
set_option maxHeartbeats 4000000 in
set_option maxRecDepth 100000 in
theorem c_X11_turned (l : Launch) (D : va_G) (ca : Nat → ClassId) (ws : va_W) (x0 : Int32) (sz : Nat) (out : Int32) (hf : f_X11_turned x0 = some out) : Met l yX11_turned (.code yX11_turned cX11_turned 3 (some .int) :: WL) rm_X11_turned (PreC D ca ws sz [.int x0]) (PostI D (va_A ws sz) ws out) 0 0 (va_A ws sz) := by
  refine Met.ofW (cc := cX11_turned) (maxL := 3) (ret := (some .int)) (by decide) rfl ?_
  intro p e s m args below meth c s₁ B hml hv
  obtain ⟨rfl, hsz, hP, hK, hD, hN⟩ := hv
  subst hsz
  have C := Cx.mk (own := RX11) B hml rfl hK hN (ws := ws)
  have w : Wd (va_A ws s.heap.size) s D ws s.heap [] := ⟨hP, hD.self, va_S.rf⟩
  have hl := lv_entry ([.int x0]) (n := 3) (Nat.le_of_ble_eq_true rfl)
  rw [lg_entry_eq]
  generalize (lg_sl ([.int x0]) ++ List.replicate (3 - (lg_sl ([.int x0])).length) Slot.unset).toArray = ls at hl ⊢
  have hl : lv_has ls 3 [(0, .int x0)] := hl
  change W p l e rm_X11_turned s m _ below meth c _ [] 0 0 _ _
  clear B hP hD hK hN hml
  generalize va_A ws s.heap.size = A at C w ⊢
  generalize ([.int x0] : List Value).toArray = av at C ⊢
  obtain ⟨Q, hQ⟩ : ∃ Q, Q = MQ below (PostI D A ws out) av s 0 0 A := ⟨_, rfl⟩
  rw [← hQ]
  have hx := C.1
  have hb := C.2.1
  have L4 : ∀ (n4 : Nat) (x1 : Int32) (x2 : Int32), f_X11_turned_L4 n4 x1 x2 = some out → Bk p l e rm_X11_turned s m av below meth c A D 3 Q ws 4 [(1, .int x1), (2, .int x2)] [] := by
    intro n4
    induction n4 with
    | zero => intro x1 x2 h; exact absurd h (by simp [f_X11_turned_L4])
    | succ n4 ih4 =>
      intro x1 x2 h H locs ls w hl
      change f_X11_turned_b4 (f_X11_turned_L4 n4) x1 x2 = some out at h
      unfold f_X11_turned_b4 at h
      refine lv_iload_n hx hb dX11_turned_4 rfl (lv_at hl 1 rfl) ?_
      refine lv_if_le (tgt := 26) hx hb dX11_turned_5 (by decide) (fun c1 => ?_) (fun c1 => ?_)
      · have h := it_t h c1
        refine lv_iload_n hx hb dX11_turned_26 rfl (lv_at hl 0 rfl) ?_
        rw [hQ]
        exact qI C w h dX11_turned_27
      · have h := it_f h c1
        refine lv_bipush (v := 10) hx hb dX11_turned_8 (by decide) ?_
        refine lv_iload_n hx hb dX11_turned_10 rfl (lv_at hl 0 rfl) ?_
        refine lv_imul hx hb dX11_turned_11 ?_
        refine lv_iload_n hx hb dX11_turned_12 rfl (lv_at hl 1 rfl) ?_
        refine lv_bipush (v := 10) hx hb dX11_turned_13 (by decide) ?_
        refine lv_irem hx hb dX11_turned_15 (by decide) ?_
        refine lv_iadd hx hb dX11_turned_16 ?_
        refine lv_istore_n (lv' := [(1, .int (((10 : Int32) * x1) + (x2 - x2 / (10 : Int32) * (10 : Int32)))), (2, .int x2)]) hx hb dX11_turned_17 rfl hl (by decide) rfl (fun ls hl => ?_)
        refine lv_iload_n hx hb dX11_turned_18 rfl (lv_at hl 1 rfl) ?_
        refine lv_bipush (v := 10) hx hb dX11_turned_19 (by decide) ?_
        refine lv_idiv hx hb dX11_turned_21 (by decide) ?_
        refine lv_istore_n (lv' := [(2, .int (x2 / (10 : Int32))), (1, .int (((10 : Int32) * x1) + (x2 - x2 / (10 : Int32) * (10 : Int32))))]) hx hb dX11_turned_22 rfl hl (by decide) rfl (fun ls hl => ?_)
        refine lv_goto (tgt := 4) hx hb dX11_turned_23 (by decide) ?_
        exact ih4 _ _ h _ _ _ w (lv_sub hl [1, 0] rfl)
  have h := hf
  unfold f_X11_turned at h
  refine lv_iconst (v := 0) hx hb dX11_turned_0 (by decide) ?_
  refine lv_istore_n (lv' := [(1, .int (0 : Int32)), (0, .int x0)]) hx hb dX11_turned_1 rfl hl (by decide) rfl (fun ls hl => ?_)
  refine lv_iload_n hx hb dX11_turned_2 rfl (lv_at hl 1 rfl) ?_
  refine lv_istore_n (lv' := [(2, .int x0), (1, .int (0 : Int32)), (0, .int x0)]) hx hb dX11_turned_3 rfl hl (by decide) rfl (fun ls hl => ?_)
  exact L4 FU _ _ h _ _ _ w (lv_sub hl [1, 0] rfl)
theorem hd_X11_oneMore : yX11_oneMore.cls ≠ "java/lang/invoke/MethodHandle" ∧ yX11_oneMore.cls ≠ "java/lang/invoke/VarHandle" ∧ (parseMethodDescriptor yX11_oneMore.desc).map (fun d => d.parameters.length) = some 1 := by decide +kernel
def f_X11_oneMore_b7 (K7 : Int32 → Int32 → Option (Int32)) (x1 : Int32) (x2 : Int32) : Option (Int32) := if x2 ≤ 0 then (some x1) else (K7 ((((10 : Int32) * x1) + ((x2 - x2 / (10 : Int32) * (10 : Int32)) - (x2 - x2 / (10 : Int32) * (10 : Int32)) / (4 : Int32) * (4 : Int32))) + (1 : Int32)) (x2 / (10 : Int32)))
def f_X11_oneMore_L7 : Nat → Int32 → Int32 → Option (Int32)
  | 0 => fun _ _ => none
  | n + 1 => f_X11_oneMore_b7 (f_X11_oneMore_L7 n)
def f_X11_oneMore (x0 : Int32) : Option (Int32) := (f_X11_turned x0).bind fun q1 => f_X11_oneMore_L7 FU (0 : Int32) q1
abbrev rm_X11_oneMore : Room := { frames := 1, cells := 0, slots := 0, locals := 60 }
set_option maxHeartbeats 4000000 in
set_option maxRecDepth 100000 in
theorem c_X11_oneMore (l : Launch) (D : va_G) (ca : Nat → ClassId) (ws : va_W) (x0 : Int32) (sz : Nat) (out : Int32) (hf : f_X11_oneMore x0 = some out) : Met l yX11_oneMore (.code yX11_oneMore cX11_oneMore 3 (some .int) :: WL) rm_X11_oneMore (PreC D ca ws sz [.int x0]) (PostI D (va_A ws sz) ws out) 0 0 (va_A ws sz) := by
  refine Met.ofW (cc := cX11_oneMore) (maxL := 3) (ret := (some .int)) (by decide) rfl ?_
  intro p e s m args below meth c s₁ B hml hv
  obtain ⟨rfl, hsz, hP, hK, hD, hN⟩ := hv
  subst hsz
  have C := Cx.mk (own := RX11) B hml rfl hK hN (ws := ws)
  have w : Wd (va_A ws s.heap.size) s D ws s.heap [] := ⟨hP, hD.self, va_S.rf⟩
  have hl := lv_entry ([.int x0]) (n := 3) (Nat.le_of_ble_eq_true rfl)
  rw [lg_entry_eq]
  generalize (lg_sl ([.int x0]) ++ List.replicate (3 - (lg_sl ([.int x0])).length) Slot.unset).toArray = ls at hl ⊢
  have hl : lv_has ls 3 [(0, .int x0)] := hl
  change W p l e rm_X11_oneMore s m _ below meth c _ [] 0 0 _ _
  clear B hP hD hK hN hml
  generalize va_A ws s.heap.size = A at C w ⊢
  generalize ([.int x0] : List Value).toArray = av at C ⊢
  obtain ⟨Q, hQ⟩ : ∃ Q, Q = MQ below (PostI D A ws out) av s 0 0 A := ⟨_, rfl⟩
  rw [← hQ]
  have hx := C.1
  have hb := C.2.1
  have L7 : ∀ (n7 : Nat) (x1 : Int32) (x2 : Int32), f_X11_oneMore_L7 n7 x1 x2 = some out → Bk p l e rm_X11_oneMore s m av below meth c A D 3 Q ws 7 [(1, .int x1), (2, .int x2)] [] := by
    intro n7
    induction n7 with
    | zero => intro x1 x2 h; exact absurd h (by simp [f_X11_oneMore_L7])
    | succ n7 ih7 =>
      intro x1 x2 h H locs ls w hl
      change f_X11_oneMore_b7 (f_X11_oneMore_L7 n7) x1 x2 = some out at h
      unfold f_X11_oneMore_b7 at h
      refine lv_iload_n hx hb dX11_oneMore_7 rfl (lv_at hl 1 rfl) ?_
      refine lv_if_le (tgt := 33) hx hb dX11_oneMore_8 (by decide) (fun c1 => ?_) (fun c1 => ?_)
      · have h := it_t h c1
        refine lv_iload_n hx hb dX11_oneMore_33 rfl (lv_at hl 0 rfl) ?_
        rw [hQ]
        exact qI C w h dX11_oneMore_34
      · have h := it_f h c1
        refine lv_bipush (v := 10) hx hb dX11_oneMore_11 (by decide) ?_
        refine lv_iload_n hx hb dX11_oneMore_13 rfl (lv_at hl 0 rfl) ?_
        refine lv_imul hx hb dX11_oneMore_14 ?_
        refine lv_iload_n hx hb dX11_oneMore_15 rfl (lv_at hl 1 rfl) ?_
        refine lv_bipush (v := 10) hx hb dX11_oneMore_16 (by decide) ?_
        refine lv_irem hx hb dX11_oneMore_18 (by decide) ?_
        refine lv_iconst (v := 4) hx hb dX11_oneMore_19 (by decide) ?_
        refine lv_irem hx hb dX11_oneMore_20 (by decide) ?_
        refine lv_iadd hx hb dX11_oneMore_21 ?_
        refine lv_iconst (v := 1) hx hb dX11_oneMore_22 (by decide) ?_
        refine lv_iadd hx hb dX11_oneMore_23 ?_
        refine lv_istore_n (lv' := [(1, .int ((((10 : Int32) * x1) + ((x2 - x2 / (10 : Int32) * (10 : Int32)) - (x2 - x2 / (10 : Int32) * (10 : Int32)) / (4 : Int32) * (4 : Int32))) + (1 : Int32))), (2, .int x2)]) hx hb dX11_oneMore_24 rfl hl (by decide) rfl (fun ls hl => ?_)
        refine lv_iload_n hx hb dX11_oneMore_25 rfl (lv_at hl 1 rfl) ?_
        refine lv_bipush (v := 10) hx hb dX11_oneMore_26 (by decide) ?_
        refine lv_idiv hx hb dX11_oneMore_28 (by decide) ?_
        refine lv_istore_n (lv' := [(2, .int (x2 / (10 : Int32))), (1, .int ((((10 : Int32) * x1) + ((x2 - x2 / (10 : Int32) * (10 : Int32)) - (x2 - x2 / (10 : Int32) * (10 : Int32)) / (4 : Int32) * (4 : Int32))) + (1 : Int32)))]) hx hb dX11_oneMore_29 rfl hl (by decide) rfl (fun ls hl => ?_)
        refine lv_goto (tgt := 7) hx hb dX11_oneMore_30 (by decide) ?_
        exact ih7 _ _ h _ _ _ w (lv_sub hl [1, 0] rfl)
  have h := hf
  unfold f_X11_oneMore at h
  refine lv_iconst (v := 0) hx hb dX11_oneMore_0 (by decide) ?_
  refine lv_istore_n (lv' := [(1, .int (0 : Int32)), (0, .int x0)]) hx hb dX11_oneMore_1 rfl hl (by decide) rfl (fun ls hl => ?_)
  refine lv_iload_n hx hb dX11_oneMore_2 rfl (lv_at hl 1 rfl) ?_
  obtain ⟨q1, hq1, h⟩ := ob_t h
  refine res_i C w (run_S (As := [.int x0]) (rest := []) C w hl.1 (c_X11_turned l D ca _ x0 _ q1 hq1) rfl rfl wl_535 wl_536 wl_5 wl_537 hd_X11_turned rfl ⟨Nat.le_of_ble_eq_true rfl, Nat.le_of_ble_eq_true rfl⟩ rfl (Nat.le_of_ble_eq_true rfl) dX11_oneMore_3) (fun H locs w => ?_)
  refine lv_istore_n (lv' := [(2, .int q1), (1, .int (0 : Int32)), (0, .int x0)]) hx hb dX11_oneMore_6 rfl hl (by decide) rfl (fun ls hl => ?_)
  exact L7 FU _ _ h _ _ _ w (lv_sub hl [1, 0] rfl)
theorem hd_X11_copyAs : yX11_copyAs.cls ≠ "java/lang/invoke/MethodHandle" ∧ yX11_copyAs.cls ≠ "java/lang/invoke/VarHandle" ∧ (parseMethodDescriptor yX11_copyAs.desc).map (fun d => d.parameters.length) = some 3 := by decide +kernel
def f_X11_copyAs_b67 (x1 : Int32) : Option (Int32) := some x1
def f_X11_copyAs (x0 : Int32) (x1 : Int32) (x2 : Int32) : Option (Int32) := if x0 = 1 then (some (x1 / (10 : Int32))) else (if x0 = 2 then (f_X11_copyAs_b67 x1) else (if x0 = 3 then ((f_X11_oneMore x1).bind fun q1 => some q1) else (if x0 = 4 then ((f_X11_turned x1).bind fun q2 => some q2) else (if x0 = 5 then (if (x2 - x2 / (2 : Int32) * (2 : Int32)) = (1 : Int32) then (some (x1 / (10 : Int32))) else (some x1)) else (f_X11_copyAs_b67 x1)))))
abbrev rm_X11_copyAs : Room := { frames := 2, cells := 0, slots := 0, locals := 120 }
set_option maxHeartbeats 4000000 in
set_option maxRecDepth 100000 in
theorem c_X11_copyAs (l : Launch) (D : va_G) (ca : Nat → ClassId) (ws : va_W) (x0 : Int32) (x1 : Int32) (x2 : Int32) (sz : Nat) (out : Int32) (hf : f_X11_copyAs x0 x1 x2 = some out) : Met l yX11_copyAs (.code yX11_copyAs cX11_copyAs 3 (some .int) :: WL) rm_X11_copyAs (PreC D ca ws sz [.int x0, .int x1, .int x2]) (PostI D (va_A ws sz) ws out) 0 0 (va_A ws sz) := by
  refine Met.ofW (cc := cX11_copyAs) (maxL := 3) (ret := (some .int)) (by decide) rfl ?_
  intro p e s m args below meth c s₁ B hml hv
  obtain ⟨rfl, hsz, hP, hK, hD, hN⟩ := hv
  subst hsz
  have C := Cx.mk (own := RX11) B hml rfl hK hN (ws := ws)
  have w : Wd (va_A ws s.heap.size) s D ws s.heap [] := ⟨hP, hD.self, va_S.rf⟩
  have hl := lv_entry ([.int x0, .int x1, .int x2]) (n := 3) (Nat.le_of_ble_eq_true rfl)
  rw [lg_entry_eq]
  generalize (lg_sl ([.int x0, .int x1, .int x2]) ++ List.replicate (3 - (lg_sl ([.int x0, .int x1, .int x2])).length) Slot.unset).toArray = ls at hl ⊢
  have hl : lv_has ls 3 [(0, .int x0), (1, .int x1), (2, .int x2)] := hl
  change W p l e rm_X11_copyAs s m _ below meth c _ [] 0 0 _ _
  clear B hP hD hK hN hml
  generalize va_A ws s.heap.size = A at C w ⊢
  generalize ([.int x0, .int x1, .int x2] : List Value).toArray = av at C ⊢
  obtain ⟨Q, hQ⟩ : ∃ Q, Q = MQ below (PostI D A ws out) av s 0 0 A := ⟨_, rfl⟩
  rw [← hQ]
  have hx := C.1
  have hb := C.2.1
  have b67 : ∀ (x1 : Int32), f_X11_copyAs_b67 x1 = some out → Bk p l e rm_X11_copyAs s m av below meth c A D 3 Q ws 67 [(1, .int x1)] [] := by
    intro x1 h H locs ls w hl
    unfold f_X11_copyAs_b67 at h
    refine lv_iload_n hx hb dX11_copyAs_67 rfl (lv_at hl 0 rfl) ?_
    rw [hQ]
    exact qI C w h dX11_copyAs_68
  have h := hf
  unfold f_X11_copyAs at h
  refine lv_iload_n hx hb dX11_copyAs_0 rfl (lv_at hl 0 rfl) ?_
  by_cases c1_0 : x0 = 1
  · have h := it_t h c1_0
    refine int_eq c1_0 ?_
    refine lv_tableIn (off := 35) (tgt := 36) hx hb dX11_copyAs_1 (by decide) (by decide) (by decide) (by decide) ?_
    refine lv_iload_n hx hb dX11_copyAs_36 rfl (lv_at hl 1 rfl) ?_
    refine lv_bipush (v := 10) hx hb dX11_copyAs_37 (by decide) ?_
    refine lv_idiv hx hb dX11_copyAs_39 (by decide) ?_
    rw [hQ]
    exact qI C w h dX11_copyAs_40
  have h := it_f h c1_0
  by_cases c1_1 : x0 = 2
  · have h := it_t h c1_1
    refine int_eq c1_1 ?_
    refine lv_tableIn (off := 66) (tgt := 67) hx hb dX11_copyAs_1 (by decide) (by decide) (by decide) (by decide) ?_
    exact b67 _ h _ _ _ w (lv_sub hl [1] rfl)
  have h := it_f h c1_1
  by_cases c1_2 : x0 = 3
  · have h := it_t h c1_2
    refine int_eq c1_2 ?_
    refine lv_tableIn (off := 40) (tgt := 41) hx hb dX11_copyAs_1 (by decide) (by decide) (by decide) (by decide) ?_
    refine lv_iload_n hx hb dX11_copyAs_41 rfl (lv_at hl 1 rfl) ?_
    obtain ⟨q1, hq1, h⟩ := ob_t h
    refine res_i C w (run_S (As := [.int x1]) (rest := []) C w hl.1 (c_X11_oneMore l D ca _ x1 _ q1 hq1) rfl rfl wl_532 wl_533 wl_5 wl_534 hd_X11_oneMore rfl ⟨Nat.le_of_ble_eq_true rfl, Nat.le_of_ble_eq_true rfl⟩ rfl (Nat.le_of_ble_eq_true rfl) dX11_copyAs_42) (fun H locs w => ?_)
    rw [hQ]
    exact qI C w h dX11_copyAs_45
  have h := it_f h c1_2
  by_cases c1_3 : x0 = 4
  · have h := it_t h c1_3
    refine int_eq c1_3 ?_
    refine lv_tableIn (off := 45) (tgt := 46) hx hb dX11_copyAs_1 (by decide) (by decide) (by decide) (by decide) ?_
    refine lv_iload_n hx hb dX11_copyAs_46 rfl (lv_at hl 1 rfl) ?_
    obtain ⟨q2, hq2, h⟩ := ob_t h
    refine res_i C w (run_S (As := [.int x1]) (rest := []) C w hl.1 (c_X11_turned l D ca _ x1 _ q2 hq2) rfl rfl wl_535 wl_536 wl_5 wl_537 hd_X11_turned rfl ⟨Nat.le_of_ble_eq_true rfl, Nat.le_of_ble_eq_true rfl⟩ rfl (Nat.le_of_ble_eq_true rfl) dX11_copyAs_47) (fun H locs w => ?_)
    rw [hQ]
    exact qI C w h dX11_copyAs_50
  have h := it_f h c1_3
  by_cases c1_4 : x0 = 5
  · have h := it_t h c1_4
    refine int_eq c1_4 ?_
    refine lv_tableIn (off := 50) (tgt := 51) hx hb dX11_copyAs_1 (by decide) (by decide) (by decide) (by decide) ?_
    refine lv_iload_n hx hb dX11_copyAs_51 rfl (lv_at hl 2 rfl) ?_
    refine lv_iconst (v := 2) hx hb dX11_copyAs_52 (by decide) ?_
    refine lv_irem hx hb dX11_copyAs_53 (by decide) ?_
    refine lv_iconst (v := 1) hx hb dX11_copyAs_54 (by decide) ?_
    refine lv_icmp_ne (tgt := 65) hx hb dX11_copyAs_55 (by decide) (fun c2 => ?_) (fun c2 => ?_)
    · have h := it_f h c2
      refine lv_iload_n hx hb dX11_copyAs_65 rfl (lv_at hl 1 rfl) ?_
      rw [hQ]
      exact qI C w h dX11_copyAs_66
    · have h := it_t h c2
      refine lv_iload_n hx hb dX11_copyAs_58 rfl (lv_at hl 1 rfl) ?_
      refine lv_bipush (v := 10) hx hb dX11_copyAs_59 (by decide) ?_
      refine lv_idiv hx hb dX11_copyAs_61 (by decide) ?_
      refine lv_goto (tgt := 66) hx hb dX11_copyAs_62 (by decide) ?_
      rw [hQ]
      exact qI C w h dX11_copyAs_66
  have h := it_f h c1_4
  refine lv_tableOut (tgt := 67) hx hb dX11_copyAs_1 (swo_1_5 c1_0 c1_1 c1_2 c1_3 c1_4) (by decide) ?_
  exact b67 _ h _ _ _ w (lv_sub hl [1] rfl)
theorem hd_X11_takesAs : yX11_takesAs.cls ≠ "java/lang/invoke/MethodHandle" ∧ yX11_takesAs.cls ≠ "java/lang/invoke/VarHandle" ∧ (parseMethodDescriptor yX11_takesAs.desc).map (fun d => d.parameters.length) = some 2 := by decide +kernel
def f_X11_takesAs (x0 : Int32) (x1 : Int32) : Option (Int32) := if x0 = (2 : Int32) then (some (2 : Int32)) else (if x0 = (4 : Int32) then (some (4 : Int32)) else (if x0 = (5 : Int32) then (if (x1 - x1 / (4 : Int32) * (4 : Int32)) = 0 then (some (4 : Int32)) else (some (1 : Int32))) else (some (1 : Int32))))
abbrev rm_X11_takesAs : Room := { frames := 0, cells := 0, slots := 0, locals := 0 }
set_option maxHeartbeats 4000000 in
set_option maxRecDepth 100000 in
theorem c_X11_takesAs (l : Launch) (D : va_G) (ca : Nat → ClassId) (ws : va_W) (x0 : Int32) (x1 : Int32) (sz : Nat) (out : Int32) (hf : f_X11_takesAs x0 x1 = some out) : Met l yX11_takesAs (.code yX11_takesAs cX11_takesAs 2 (some .int) :: WL) rm_X11_takesAs (PreC D ca ws sz [.int x0, .int x1]) (PostI D (va_A ws sz) ws out) 0 0 (va_A ws sz) := by
  refine Met.ofW (cc := cX11_takesAs) (maxL := 2) (ret := (some .int)) (by decide) rfl ?_
  intro p e s m args below meth c s₁ B hml hv
  obtain ⟨rfl, hsz, hP, hK, hD, hN⟩ := hv
  subst hsz
  have C := Cx.mk (own := RX11) B hml rfl hK hN (ws := ws)
  have w : Wd (va_A ws s.heap.size) s D ws s.heap [] := ⟨hP, hD.self, va_S.rf⟩
  have hl := lv_entry ([.int x0, .int x1]) (n := 2) (Nat.le_of_ble_eq_true rfl)
  rw [lg_entry_eq]
  generalize (lg_sl ([.int x0, .int x1]) ++ List.replicate (2 - (lg_sl ([.int x0, .int x1])).length) Slot.unset).toArray = ls at hl ⊢
  have hl : lv_has ls 2 [(0, .int x0), (1, .int x1)] := hl
  change W p l e rm_X11_takesAs s m _ below meth c _ [] 0 0 _ _
  clear B hP hD hK hN hml
  generalize va_A ws s.heap.size = A at C w ⊢
  generalize ([.int x0, .int x1] : List Value).toArray = av at C ⊢
  obtain ⟨Q, hQ⟩ : ∃ Q, Q = MQ below (PostI D A ws out) av s 0 0 A := ⟨_, rfl⟩
  rw [← hQ]
  have hx := C.1
  have hb := C.2.1
  have h := hf
  unfold f_X11_takesAs at h
  refine lv_iload_n hx hb dX11_takesAs_0 rfl (lv_at hl 0 rfl) ?_
  refine lv_iconst (v := 2) hx hb dX11_takesAs_1 (by decide) ?_
  refine lv_icmp_ne (tgt := 9) hx hb dX11_takesAs_2 (by decide) (fun c1 => ?_) (fun c1 => ?_)
  · have h := it_f h c1
    refine lv_iload_n hx hb dX11_takesAs_9 rfl (lv_at hl 0 rfl) ?_
    refine lv_iconst (v := 4) hx hb dX11_takesAs_10 (by decide) ?_
    refine lv_icmp_ne (tgt := 18) hx hb dX11_takesAs_11 (by decide) (fun c2 => ?_) (fun c2 => ?_)
    · have h := it_f h c2
      refine lv_iload_n hx hb dX11_takesAs_18 rfl (lv_at hl 0 rfl) ?_
      refine lv_iconst (v := 5) hx hb dX11_takesAs_19 (by decide) ?_
      refine lv_icmp_ne (tgt := 33) hx hb dX11_takesAs_20 (by decide) (fun c3 => ?_) (fun c3 => ?_)
      · have h := it_f h c3
        refine lv_iconst (v := 1) hx hb dX11_takesAs_33 (by decide) ?_
        rw [hQ]
        exact qI C w h dX11_takesAs_34
      · have h := it_t h c3
        refine lv_iload_n hx hb dX11_takesAs_23 rfl (lv_at hl 1 rfl) ?_
        refine lv_iconst (v := 4) hx hb dX11_takesAs_24 (by decide) ?_
        refine lv_irem hx hb dX11_takesAs_25 (by decide) ?_
        refine lv_if_ne (tgt := 33) hx hb dX11_takesAs_26 (by decide) (fun c4 => ?_) (fun c4 => ?_)
        · have h := it_f h c4
          refine lv_iconst (v := 1) hx hb dX11_takesAs_33 (by decide) ?_
          rw [hQ]
          exact qI C w h dX11_takesAs_34
        · have h := it_t h c4
          refine lv_iconst (v := 4) hx hb dX11_takesAs_29 (by decide) ?_
          refine lv_goto (tgt := 34) hx hb dX11_takesAs_30 (by decide) ?_
          rw [hQ]
          exact qI C w h dX11_takesAs_34
    · have h := it_t h c2
      refine lv_iconst (v := 4) hx hb dX11_takesAs_14 (by decide) ?_
      refine lv_goto (tgt := 34) hx hb dX11_takesAs_15 (by decide) ?_
      rw [hQ]
      exact qI C w h dX11_takesAs_34
  · have h := it_t h c1
    refine lv_iconst (v := 2) hx hb dX11_takesAs_5 (by decide) ?_
    refine lv_goto (tgt := 34) hx hb dX11_takesAs_6 (by decide) ?_
    rw [hQ]
    exact qI C w h dX11_takesAs_34
theorem hd_X11_copy : yX11_copy.cls = RX11 ∧ yX11_copy.cls ≠ "java/lang/invoke/MethodHandle" ∧ yX11_copy.cls ≠ "java/lang/invoke/VarHandle" ∧ (parseMethodDescriptor yX11_copy.desc).map (fun d => d.parameters.length) = some 3 := by decide +kernel
def f_X11_copy_b25 (σ : St) : Option (Int32 × St) := (f_X11_bad σ (-2 : Int32)).bind fun q1 => some (q1.1, q1.2)
def f_X11_copy (σ : St) (x1 : Int32) (x2 : Int32) (x3 : Int32) : Option (Int32 × St) := (f_X11_isTree σ x1).bind fun q1 => if q1.1 = 0 then (f_X11_copy_b25 q1.2) else ((f_X11_isLetter x2).bind fun q2 => if q2 = 0 then (f_X11_copy_b25 q1.2) else ((f_X11_in x3.toInt64 (0 : Int64) (1 : Int64)).bind fun q3 => if q3 = 0 then (f_X11_copy_b25 q1.2) else (if x3 = 0 then (cond (ckI ((6 : Int32) + x1) 84) ((f_X11_copyAs (q1.2.2.2 1 (((6 : Int32) + x1)).toNatClampNeg) x2 (q1.2.2.2 1 2)).bind fun q5 => some (q5, q1.2)) none) else (cond (ckI ((6 : Int32) + x1) 84) ((f_X11_takesAs (q1.2.2.2 1 (((6 : Int32) + x1)).toNatClampNeg) (q1.2.2.2 1 2)).bind fun q4 => some (q4, q1.2)) none))))
abbrev rm_X11_copy : Room := { frames := 3, cells := 0, slots := 0, locals := 180 }
set_option maxHeartbeats 4000000 in
set_option maxRecDepth 100000 in
theorem c_X11_copy (l : Launch) (D : va_G) (ca : Nat → ClassId) (ad : Nat → Nat) (σ : St) (x1 : Int32) (x2 : Int32) (x3 : Int32) (sz : Nat) (out : Int32 × St) (hf : f_X11_copy σ x1 x2 x3 = some out) : Met l yX11_copy (.code yX11_copy cX11_copy 4 (some .int) :: WL) rm_X11_copy (PreC D ca (MW ca ad σ) sz [.ref (ad 0), .int x1, .int x2, .int x3]) (PostI D (va_A (MW ca ad σ) sz) (MW ca ad out.2) out.1) 0 0 (va_A (MW ca ad σ) sz) := by
  refine Met.ofW (cc := cX11_copy) (maxL := 4) (ret := (some .int)) (by decide) rfl ?_
  intro p e s m args below meth c s₁ B hml hv
  obtain ⟨rfl, hsz, hP, hK, hD, hN⟩ := hv
  subst hsz
  have C := Cx.mk (own := RX11) B hml rfl hK hN (ws := (MW ca ad σ))
  have w : Wd (va_A (MW ca ad σ) s.heap.size) s D (MW ca ad σ) s.heap [] := ⟨hP, hD.self, va_S.rf⟩
  have hl := lv_entry ([.ref (ad 0), .int x1, .int x2, .int x3]) (n := 4) (Nat.le_of_ble_eq_true rfl)
  rw [lg_entry_eq]
  generalize (lg_sl ([.ref (ad 0), .int x1, .int x2, .int x3]) ++ List.replicate (4 - (lg_sl ([.ref (ad 0), .int x1, .int x2, .int x3])).length) Slot.unset).toArray = ls at hl ⊢
  have hl : lv_has ls 4 [(0, .ref (ad 0)), (1, .int x1), (2, .int x2), (3, .int x3)] := hl
  change W p l e rm_X11_copy s m _ below meth c _ [] 0 0 _ _
  clear B hP hD hK hN hml
  generalize va_A (MW ca ad σ) s.heap.size = A at C w ⊢
  generalize ([.ref (ad 0), .int x1, .int x2, .int x3] : List Value).toArray = av at C ⊢
  obtain ⟨Q, hQ⟩ : ∃ Q, Q = MQ below (PostI D A (MW ca ad out.2) out.1) av s 0 0 A := ⟨_, rfl⟩
  rw [← hQ]
  have hx := C.1
  have hb := C.2.1
  have b25 : ∀ (σ : St), f_X11_copy_b25 σ = some out → Bk p l e rm_X11_copy s m av below meth c A D 4 Q (MW ca ad σ) 25 [(0, .ref (ad 0))] [] := by
    intro σ h H locs ls w hl
    unfold f_X11_copy_b25 at h
    refine lv_aload_n hx hb dX11_copy_25 rfl (lv_at hl 0 rfl) ?_
    refine lv_bipush (v := -2) hx hb dX11_copy_26 (by decide) ?_
    obtain ⟨q1, hq1, h⟩ := ob_t h
    refine res_i C w (run_V (As := [.int (-2 : Int32)]) (rest := []) C w hl.1 (recvM0 C w) (c_X11_bad l D ca ad _ (-2 : Int32) _ q1 hq1) rfl rfl wl_140 wl_141 wl_142 wl_5 wl_143 hd_X11_bad rfl ⟨Nat.le_of_ble_eq_true rfl, Nat.le_of_ble_eq_true rfl⟩ rfl (Nat.le_of_ble_eq_true rfl) dX11_copy_28) (fun H locs w => ?_)
    rw [hQ]
    exact rI (F := MW ca ad) C w h dX11_copy_31
  have h := hf
  unfold f_X11_copy at h
  refine lv_aload_n hx hb dX11_copy_0 rfl (lv_at hl 0 rfl) ?_
  refine lv_iload_n hx hb dX11_copy_1 rfl (lv_at hl 1 rfl) ?_
  obtain ⟨q1, hq1, h⟩ := ob_t h
  refine res_i C w (run_V (As := [.int x1]) (rest := []) C w hl.1 (recvM0 C w) (c_X11_isTree l D ca ad _ x1 _ q1 hq1) rfl rfl wl_188 wl_189 wl_190 wl_5 wl_191 hd_X11_isTree rfl ⟨Nat.le_of_ble_eq_true rfl, Nat.le_of_ble_eq_true rfl⟩ rfl (Nat.le_of_ble_eq_true rfl) dX11_copy_2) (fun H locs w => ?_)
  refine lv_if_eq (tgt := 25) hx hb dX11_copy_5 (by decide) (fun c1 => ?_) (fun c1 => ?_)
  · have h := it_t h c1
    exact b25 _ h _ _ _ w (lv_sub hl [0] rfl)
  · have h := it_f h c1
    refine lv_iload_n hx hb dX11_copy_8 rfl (lv_at hl 2 rfl) ?_
    obtain ⟨q2, hq2, h⟩ := ob_t h
    refine res_i C w (run_S (As := [.int x2]) (rest := []) C w hl.1 (c_X11_isLetter l D ca _ x2 _ q2 hq2) rfl rfl wl_524 wl_525 wl_5 wl_526 hd_X11_isLetter rfl ⟨Nat.le_of_ble_eq_true rfl, Nat.le_of_ble_eq_true rfl⟩ rfl (Nat.le_of_ble_eq_true rfl) dX11_copy_9) (fun H locs w => ?_)
    refine lv_if_eq (tgt := 25) hx hb dX11_copy_12 (by decide) (fun c2 => ?_) (fun c2 => ?_)
    · have h := it_t h c2
      exact b25 _ h _ _ _ w (lv_sub hl [0] rfl)
    · have h := it_f h c2
      refine lv_iload_n hx hb dX11_copy_15 rfl (lv_at hl 3 rfl) ?_
      refine lv_i2l hx hb dX11_copy_16 rfl ?_
      refine lv_lconst (v := 0) hx hb dX11_copy_17 (by decide) ?_
      refine lv_lconst (v := 1) hx hb dX11_copy_18 (by decide) ?_
      obtain ⟨q3, hq3, h⟩ := ob_t h
      refine res_i C w (run_S (As := [.long x3.toInt64, .long (0 : Int64), .long (1 : Int64)]) (rest := []) C w hl.1 (c_X11_in l D ca _ x3.toInt64 (0 : Int64) (1 : Int64) _ q3 hq3) rfl rfl wl_137 wl_138 wl_5 wl_139 hd_X11_in rfl ⟨Nat.le_of_ble_eq_true rfl, Nat.le_of_ble_eq_true rfl⟩ rfl (Nat.le_of_ble_eq_true rfl) dX11_copy_19) (fun H locs w => ?_)
      refine lv_if_ne (tgt := 32) hx hb dX11_copy_22 (by decide) (fun c3 => ?_) (fun c3 => ?_)
      · have h := it_f h c3
        refine lv_iload_n hx hb dX11_copy_32 rfl (lv_at hl 3 rfl) ?_
        refine lv_if_ne (tgt := 58) hx hb dX11_copy_33 (by decide) (fun c4 => ?_) (fun c4 => ?_)
        · have h := it_f h c4
          refine lv_aload_n hx hb dX11_copy_58 rfl (lv_at hl 0 rfl) ?_
          refine gM0_0 C w wl_94 dX11_copy_59 ?_
          refine lv_bipush (v := 6) hx hb dX11_copy_62 (by decide) ?_
          refine lv_iload_n hx hb dX11_copy_64 rfl (lv_at hl 1 rfl) ?_
          refine lv_iadd hx hb dX11_copy_65 ?_
          obtain ⟨i5, h⟩ := ck_t h
          refine ldM1 (v := (q1.2.2.2 1 (((6 : Int32) + x1)).toNatClampNeg)) C w i5 rfl dX11_copy_66 ?_
          refine lv_aload_n hx hb dX11_copy_67 rfl (lv_at hl 0 rfl) ?_
          refine gM0_0 C w wl_94 dX11_copy_68 ?_
          refine lv_iconst (v := 2) hx hb dX11_copy_71 (by decide) ?_
          refine ldM1 (v := (q1.2.2.2 1 2)) C w (vl (by decide)) rfl dX11_copy_72 ?_
          obtain ⟨q4, hq4, h⟩ := ob_t h
          refine res_i C w (run_S (As := [.int (q1.2.2.2 1 (((6 : Int32) + x1)).toNatClampNeg), .int (q1.2.2.2 1 2)]) (rest := []) C w hl.1 (c_X11_takesAs l D ca _ (q1.2.2.2 1 (((6 : Int32) + x1)).toNatClampNeg) (q1.2.2.2 1 2) _ q4 hq4) rfl rfl wl_538 wl_539 wl_5 wl_540 hd_X11_takesAs rfl ⟨Nat.le_of_ble_eq_true rfl, Nat.le_of_ble_eq_true rfl⟩ rfl (Nat.le_of_ble_eq_true rfl) dX11_copy_73) (fun H locs w => ?_)
          rw [hQ]
          exact rI (F := MW ca ad) C w h dX11_copy_76
        · have h := it_t h c4
          refine lv_aload_n hx hb dX11_copy_36 rfl (lv_at hl 0 rfl) ?_
          refine gM0_0 C w wl_94 dX11_copy_37 ?_
          refine lv_bipush (v := 6) hx hb dX11_copy_40 (by decide) ?_
          refine lv_iload_n hx hb dX11_copy_42 rfl (lv_at hl 1 rfl) ?_
          refine lv_iadd hx hb dX11_copy_43 ?_
          obtain ⟨i6, h⟩ := ck_t h
          refine ldM1 (v := (q1.2.2.2 1 (((6 : Int32) + x1)).toNatClampNeg)) C w i6 rfl dX11_copy_44 ?_
          refine lv_iload_n hx hb dX11_copy_45 rfl (lv_at hl 2 rfl) ?_
          refine lv_aload_n hx hb dX11_copy_46 rfl (lv_at hl 0 rfl) ?_
          refine gM0_0 C w wl_94 dX11_copy_47 ?_
          refine lv_iconst (v := 2) hx hb dX11_copy_50 (by decide) ?_
          refine ldM1 (v := (q1.2.2.2 1 2)) C w (vl (by decide)) rfl dX11_copy_51 ?_
          obtain ⟨q5, hq5, h⟩ := ob_t h
          refine res_i C w (run_S (As := [.int (q1.2.2.2 1 (((6 : Int32) + x1)).toNatClampNeg), .int x2, .int (q1.2.2.2 1 2)]) (rest := []) C w hl.1 (c_X11_copyAs l D ca _ (q1.2.2.2 1 (((6 : Int32) + x1)).toNatClampNeg) x2 (q1.2.2.2 1 2) _ q5 hq5) rfl rfl wl_529 wl_530 wl_5 wl_531 hd_X11_copyAs rfl ⟨Nat.le_of_ble_eq_true rfl, Nat.le_of_ble_eq_true rfl⟩ rfl (Nat.le_of_ble_eq_true rfl) dX11_copy_52) (fun H locs w => ?_)
          refine lv_goto (tgt := 76) hx hb dX11_copy_55 (by decide) ?_
          rw [hQ]
          exact rI (F := MW ca ad) C w h dX11_copy_76
      · have h := it_t h c3
        exact b25 _ h _ _ _ w (lv_sub hl [0] rfl)
theorem hd_X11_readBy : yX11_readBy.cls = RX11 ∧ yX11_readBy.cls ≠ "java/lang/invoke/MethodHandle" ∧ yX11_readBy.cls ≠ "java/lang/invoke/VarHandle" ∧ (parseMethodDescriptor yX11_readBy.desc).map (fun d => d.parameters.length) = some 2 := by decide +kernel
def f_X11_readBy_b12 (K12 : St → Int32 → Int32 → Option (St)) (σ : St) (x2 : Int32) (x3 : Int32) : Option (St) := if (σ.1 7) ≤ x3 then (some σ) else (cond (ckI x3 7) (cond (ckI ((6 : Int32) + (σ.2.2 5 x3.toNatClampNeg)) 84) ((f_X11_copyAs (σ.2.2 1 (((6 : Int32) + (σ.2.2 5 x3.toNatClampNeg))).toNatClampNeg) (σ.1 8) (x2 + (σ.1 9))).bind fun q1 => (f_X11_takesAs (σ.2.2 1 (((6 : Int32) + (σ.2.2 5 x3.toNatClampNeg))).toNatClampNeg) (x2 + (σ.1 9))).bind fun q2 => K12 (sI (sI σ 8 q1) 9 ((σ.1 9) + q2)) x2 (x3 + (1 : Int32))) none) none)
def f_X11_readBy_L12 : Nat → St → Int32 → Int32 → Option (St)
  | 0 => fun _ _ _ => none
  | n + 1 => f_X11_readBy_b12 (f_X11_readBy_L12 n)
def f_X11_readBy (σ : St) (x1 : Int32) (x2 : Int32) : Option (St) := f_X11_readBy_L12 FU (sI (sI σ 8 x1) 9 (0 : Int32)) x2 (0 : Int32)
abbrev rm_X11_readBy : Room := { frames := 3, cells := 0, slots := 0, locals := 180 }
set_option maxHeartbeats 4000000 in
set_option maxRecDepth 100000 in
theorem c_X11_readBy (l : Launch) (D : va_G) (ca : Nat → ClassId) (ad : Nat → Nat) (σ : St) (x1 : Int32) (x2 : Int32) (sz : Nat) (out : St) (hf : f_X11_readBy σ x1 x2 = some out) : Met l yX11_readBy (.code yX11_readBy cX11_readBy 6 none :: WL) rm_X11_readBy (PreC D ca (MW ca ad σ) sz [.ref (ad 0), .int x1, .int x2]) (PostV D (va_A (MW ca ad σ) sz) (MW ca ad out)) 0 0 (va_A (MW ca ad σ) sz) := by
  refine Met.ofW (cc := cX11_readBy) (maxL := 6) (ret := none) (by decide) rfl ?_
  intro p e s m args below meth c s₁ B hml hv
  obtain ⟨rfl, hsz, hP, hK, hD, hN⟩ := hv
  subst hsz
  have C := Cx.mk (own := RX11) B hml rfl hK hN (ws := (MW ca ad σ))
  have w : Wd (va_A (MW ca ad σ) s.heap.size) s D (MW ca ad σ) s.heap [] := ⟨hP, hD.self, va_S.rf⟩
  have hl := lv_entry ([.ref (ad 0), .int x1, .int x2]) (n := 6) (Nat.le_of_ble_eq_true rfl)
  rw [lg_entry_eq]
  generalize (lg_sl ([.ref (ad 0), .int x1, .int x2]) ++ List.replicate (6 - (lg_sl ([.ref (ad 0), .int x1, .int x2])).length) Slot.unset).toArray = ls at hl ⊢
  have hl : lv_has ls 6 [(0, .ref (ad 0)), (1, .int x1), (2, .int x2)] := hl
  change W p l e rm_X11_readBy s m _ below meth c _ [] 0 0 _ _
  clear B hP hD hK hN hml
  generalize va_A (MW ca ad σ) s.heap.size = A at C w ⊢
  generalize ([.ref (ad 0), .int x1, .int x2] : List Value).toArray = av at C ⊢
  obtain ⟨Q, hQ⟩ : ∃ Q, Q = MQ below (PostV D A (MW ca ad out)) av s 0 0 A := ⟨_, rfl⟩
  rw [← hQ]
  have hx := C.1
  have hb := C.2.1
  have L12 : ∀ (n12 : Nat) (σ : St) (x2 : Int32) (x3 : Int32), f_X11_readBy_L12 n12 σ x2 x3 = some out → Bk p l e rm_X11_readBy s m av below meth c A D 6 Q (MW ca ad σ) 12 [(0, .ref (ad 0)), (2, .int x2), (3, .int x3)] [] := by
    intro n12
    induction n12 with
    | zero => intro σ x2 x3 h; exact absurd h (by simp [f_X11_readBy_L12])
    | succ n12 ih12 =>
      intro σ x2 x3 h H locs ls w hl
      change f_X11_readBy_b12 (f_X11_readBy_L12 n12) σ x2 x3 = some out at h
      unfold f_X11_readBy_b12 at h
      refine lv_iload_n hx hb dX11_readBy_12 rfl (lv_at hl 2 rfl) ?_
      refine lv_aload_n hx hb dX11_readBy_13 rfl (lv_at hl 0 rfl) ?_
      refine gM0_7 (v := (σ.1 7)) C w rfl wl_582 dX11_readBy_14 ?_
      refine lv_icmp_ge (tgt := 81) hx hb dX11_readBy_17 (by decide) (fun c1 => ?_) (fun c1 => ?_)
      · have h := it_t h c1
        rw [hQ]
        exact rV (F := MW ca ad) C w h dX11_readBy_81
      · have h := it_f h c1
        refine lv_aload_n hx hb dX11_readBy_20 rfl (lv_at hl 0 rfl) ?_
        refine gM0_0 C w wl_94 dX11_readBy_21 ?_
        refine lv_bipush (v := 6) hx hb dX11_readBy_24 (by decide) ?_
        refine lv_aload_n hx hb dX11_readBy_26 rfl (lv_at hl 0 rfl) ?_
        refine gM0_6 C w wl_99 dX11_readBy_27 ?_
        refine lv_iload_n hx hb dX11_readBy_30 rfl (lv_at hl 2 rfl) ?_
        obtain ⟨i2, h⟩ := ck_t h
        refine ldM5 (v := (σ.2.2 5 x3.toNatClampNeg)) C w i2 rfl dX11_readBy_31 ?_
        refine lv_iadd hx hb dX11_readBy_32 ?_
        obtain ⟨i3, h⟩ := ck_t h
        refine ldM1 (v := (σ.2.2 1 (((6 : Int32) + (σ.2.2 5 x3.toNatClampNeg))).toNatClampNeg)) C w i3 rfl dX11_readBy_33 ?_
        refine lv_istore (lv' := [(4, .int (σ.2.2 1 (((6 : Int32) + (σ.2.2 5 x3.toNatClampNeg))).toNatClampNeg)), (0, .ref (ad 0)), (2, .int x2), (3, .int x3)]) hx hb dX11_readBy_34 hl (by decide) rfl (fun ls hl => ?_)
        refine lv_iload_n hx hb dX11_readBy_36 rfl (lv_at hl 2 rfl) ?_
        refine lv_aload_n hx hb dX11_readBy_37 rfl (lv_at hl 1 rfl) ?_
        refine gM0_9 (v := (σ.1 9)) C w rfl wl_577 dX11_readBy_38 ?_
        refine lv_iadd hx hb dX11_readBy_41 ?_
        refine lv_istore (lv' := [(5, .int (x2 + (σ.1 9))), (4, .int (σ.2.2 1 (((6 : Int32) + (σ.2.2 5 x3.toNatClampNeg))).toNatClampNeg)), (0, .ref (ad 0)), (2, .int x2), (3, .int x3)]) hx hb dX11_readBy_42 hl (by decide) rfl (fun ls hl => ?_)
        refine lv_aload_n hx hb dX11_readBy_44 rfl (lv_at hl 2 rfl) ?_
        refine lv_iload hx hb dX11_readBy_45 (lv_at hl 1 rfl) ?_
        refine lv_aload_n hx hb dX11_readBy_47 rfl (lv_at hl 2 rfl) ?_
        refine gM0_8 (v := (σ.1 8)) C w rfl wl_576 dX11_readBy_48 ?_
        refine lv_iload hx hb dX11_readBy_51 (lv_at hl 0 rfl) ?_
        obtain ⟨q1, hq1, h⟩ := ob_t h
        refine res_i C w (run_S (As := [.int (σ.2.2 1 (((6 : Int32) + (σ.2.2 5 x3.toNatClampNeg))).toNatClampNeg), .int (σ.1 8), .int (x2 + (σ.1 9))]) (rest := [.ref (ad 0)]) C w hl.1 (c_X11_copyAs l D ca _ (σ.2.2 1 (((6 : Int32) + (σ.2.2 5 x3.toNatClampNeg))).toNatClampNeg) (σ.1 8) (x2 + (σ.1 9)) _ q1 hq1) rfl rfl wl_529 wl_530 wl_5 wl_531 hd_X11_copyAs rfl ⟨Nat.le_of_ble_eq_true rfl, Nat.le_of_ble_eq_true rfl⟩ rfl (Nat.le_of_ble_eq_true rfl) dX11_readBy_53) (fun H locs w => ?_)
        refine pM0_8 C w wl_576 dX11_readBy_56 (fun H locs w => ?_)
        refine lv_aload_n hx hb dX11_readBy_59 rfl (lv_at hl 2 rfl) ?_
        refine lv_dup hx hb dX11_readBy_60 rfl ?_
        refine gM0_9 (v := (σ.1 9)) C w rfl wl_577 dX11_readBy_61 ?_
        refine lv_iload hx hb dX11_readBy_64 (lv_at hl 1 rfl) ?_
        refine lv_iload hx hb dX11_readBy_66 (lv_at hl 0 rfl) ?_
        obtain ⟨q2, hq2, h⟩ := ob_t h
        refine res_i C w (run_S (As := [.int (σ.2.2 1 (((6 : Int32) + (σ.2.2 5 x3.toNatClampNeg))).toNatClampNeg), .int (x2 + (σ.1 9))]) (rest := [.int (σ.1 9), .ref (ad 0)]) C w hl.1 (c_X11_takesAs l D ca _ (σ.2.2 1 (((6 : Int32) + (σ.2.2 5 x3.toNatClampNeg))).toNatClampNeg) (x2 + (σ.1 9)) _ q2 hq2) rfl rfl wl_538 wl_539 wl_5 wl_540 hd_X11_takesAs rfl ⟨Nat.le_of_ble_eq_true rfl, Nat.le_of_ble_eq_true rfl⟩ rfl (Nat.le_of_ble_eq_true rfl) dX11_readBy_68) (fun H locs w => ?_)
        refine lv_iadd hx hb dX11_readBy_71 ?_
        refine pM0_9 C w wl_577 dX11_readBy_72 (fun H locs w => ?_)
        refine lv_iinc (v := (x3 + (1 : Int32))) (lv' := [(3, .int (x3 + (1 : Int32))), (5, .int (x2 + (σ.1 9))), (4, .int (σ.2.2 1 (((6 : Int32) + (σ.2.2 5 x3.toNatClampNeg))).toNatClampNeg)), (0, .ref (ad 0)), (2, .int x2)]) hx hb dX11_readBy_75 hl (k := 4) rfl rfl (by decide) rfl (fun ls hl => ?_)
        refine lv_goto (tgt := 12) hx hb dX11_readBy_78 (by decide) ?_
        exact ih12 _ _ _ h _ _ _ w (lv_sub hl [3, 4, 0] rfl)
  have h := hf
  unfold f_X11_readBy at h
  refine lv_aload_n hx hb dX11_readBy_0 rfl (lv_at hl 0 rfl) ?_
  refine lv_iload_n hx hb dX11_readBy_1 rfl (lv_at hl 1 rfl) ?_
  refine pM0_8 C w wl_576 dX11_readBy_2 (fun H locs w => ?_)
  refine lv_aload_n hx hb dX11_readBy_5 rfl (lv_at hl 0 rfl) ?_
  refine lv_iconst (v := 0) hx hb dX11_readBy_6 (by decide) ?_
  refine pM0_9 C w wl_577 dX11_readBy_7 (fun H locs w => ?_)
  refine lv_iconst (v := 0) hx hb dX11_readBy_10 (by decide) ?_
  refine lv_istore_n (lv' := [(3, .int (0 : Int32)), (0, .ref (ad 0)), (1, .int x1), (2, .int x2)]) hx hb dX11_readBy_11 rfl hl (by decide) rfl (fun ls hl => ?_)
  exact L12 FU _ _ _ h _ _ _ w (lv_sub hl [1, 3, 0] rfl)
theorem hd_X11_layRow : yX11_layRow.cls = RX11 ∧ yX11_layRow.cls ≠ "java/lang/invoke/MethodHandle" ∧ yX11_layRow.cls ≠ "java/lang/invoke/VarHandle" ∧ (parseMethodDescriptor yX11_layRow.desc).map (fun d => d.parameters.length) = some 1 := by decide +kernel
def f_X11_layRow_b100 (K28 : St → Int32 → Int32 → Int32 → Int32 → Option (Int32 × St)) (σ : St) (x1 : Int32) (x2 : Int32) (x3 : Int32) (x4 : Int32) : Option (Int32 × St) := K28 σ x1 x2 x3 (x4 / (10 : Int32))
def f_X11_layRow_b78 (K28 : St → Int32 → Int32 → Int32 → Int32 → Option (Int32 × St)) (σ : St) (x1 : Int32) (x2 : Int32) (x4 : Int32) (x5 : Int32) (y0 : Int32) : Option (Int32 × St) := if y0 = 0 then (f_X11_layRow_b100 K28 σ x1 x2 y0 x4) else (f_X11_layRow_b100 K28 (sI σ 7 ((σ.1 7) + (1 : Int32))) x1 (x2 ||| ((1 : Int32) <<< (x5 &&& 31))) y0 x4)
def f_X11_layRow_b77 (K28 : St → Int32 → Int32 → Int32 → Int32 → Option (Int32 × St)) (σ : St) (x1 : Int32) (x2 : Int32) (x4 : Int32) (x5 : Int32) : Option (Int32 × St) := f_X11_layRow_b78 K28 σ x1 x2 x4 x5 (0 : Int32)
def f_X11_layRow_b157 (σ : St) (x3 : Int32) : Option (Int32 × St) := cond (ckZ x3) (some (x3, σ)) none
def f_X11_layRow_b121 (K121 : St → Int32 → Int32 → Int32 → Option (Int32 × St)) (σ : St) (x3 : Int32) (x4 : Int32) (x5 : Int32) : Option (Int32 × St) := if x5 < 0 then (f_X11_layRow_b157 σ x3) else (if x3 = 0 then (f_X11_layRow_b157 σ x3) else (cond (ckI x5 7) (K121 (sE σ 5 x5.toNatClampNeg ((x4 - x4 / (10 : Int32) * (10 : Int32)) - (1 : Int32))) x3 (x4 / (10 : Int32)) (x5 + (-1 : Int32))) none))
def f_X11_layRow_L121 : Nat → St → Int32 → Int32 → Int32 → Option (Int32 × St)
  | 0 => fun _ _ _ _ => none
  | n + 1 => f_X11_layRow_b121 (f_X11_layRow_L121 n)
def f_X11_layRow_b110 (σ : St) (x1 : Int32) (x3 : Int32) : Option (Int32 × St) := f_X11_layRow_L121 FU σ x3 x1 ((σ.1 7) - (1 : Int32))
def f_X11_layRow_b28 (K28 : St → Int32 → Int32 → Int32 → Int32 → Option (Int32 × St)) (σ : St) (x1 : Int32) (x2 : Int32) (x3 : Int32) (x4 : Int32) : Option (Int32 × St) := if x4 ≤ 0 then (f_X11_layRow_b110 σ x1 x3) else (if x3 = 0 then (f_X11_layRow_b110 σ x1 x3) else (if (7 : Int32) ≤ (σ.1 7) then (f_X11_layRow_b77 K28 σ x1 x2 x4 ((x4 - x4 / (10 : Int32) * (10 : Int32)) - (1 : Int32))) else ((f_X11_isTree σ ((x4 - x4 / (10 : Int32) * (10 : Int32)) - (1 : Int32))).bind fun q1 => if q1.1 = 0 then (f_X11_layRow_b77 K28 q1.2 x1 x2 x4 ((x4 - x4 / (10 : Int32) * (10 : Int32)) - (1 : Int32))) else ((f_X11_has x2 ((x4 - x4 / (10 : Int32) * (10 : Int32)) - (1 : Int32))).bind fun q2 => if q2 = 0 then (f_X11_layRow_b78 K28 q1.2 x1 x2 x4 ((x4 - x4 / (10 : Int32) * (10 : Int32)) - (1 : Int32)) (1 : Int32)) else (f_X11_layRow_b77 K28 q1.2 x1 x2 x4 ((x4 - x4 / (10 : Int32) * (10 : Int32)) - (1 : Int32)))))))
def f_X11_layRow_L28 : Nat → St → Int32 → Int32 → Int32 → Int32 → Option (Int32 × St)
  | 0 => fun _ _ _ _ _ => none
  | n + 1 => f_X11_layRow_b28 (f_X11_layRow_L28 n)
def f_X11_layRow_b26 (σ : St) (x1 : Int32) (x2 : Int32) (x3 : Int32) (y0 : Int32) : Option (Int32 × St) := f_X11_layRow_L28 FU σ x1 x2 x3 y0
def f_X11_layRow_b11 (σ : St) (x1 : Int32) (x2 : Int32) (y0 : Int32) : Option (Int32 × St) := if x1 ≤ 0 then (f_X11_layRow_b26 (sI σ 7 (0 : Int32)) x1 x2 y0 (0 : Int32)) else (f_X11_layRow_b26 (sI σ 7 (0 : Int32)) x1 x2 y0 x1)
def f_X11_layRow (σ : St) (x1 : Int32) : Option (Int32 × St) := if x1 ≤ 0 then (f_X11_layRow_b11 σ x1 (0 : Int32) (0 : Int32)) else (f_X11_layRow_b11 σ x1 (0 : Int32) (1 : Int32))
abbrev rm_X11_layRow : Room := { frames := 2, cells := 0, slots := 0, locals := 120 }
set_option maxHeartbeats 4000000 in
set_option maxRecDepth 100000 in
theorem c_X11_layRow (l : Launch) (D : va_G) (ca : Nat → ClassId) (ad : Nat → Nat) (σ : St) (x1 : Int32) (sz : Nat) (out : Int32 × St) (hf : f_X11_layRow σ x1 = some out) : Met l yX11_layRow (.code yX11_layRow cX11_layRow 6 (some .boolean) :: WL) rm_X11_layRow (PreC D ca (MW ca ad σ) sz [.ref (ad 0), .int x1]) (PostI D (va_A (MW ca ad σ) sz) (MW ca ad out.2) out.1) 0 0 (va_A (MW ca ad σ) sz) := by
  refine Met.ofW (cc := cX11_layRow) (maxL := 6) (ret := (some .boolean)) (by decide) rfl ?_
  intro p e s m args below meth c s₁ B hml hv
  obtain ⟨rfl, hsz, hP, hK, hD, hN⟩ := hv
  subst hsz
  have C := Cx.mk (own := RX11) B hml rfl hK hN (ws := (MW ca ad σ))
  have w : Wd (va_A (MW ca ad σ) s.heap.size) s D (MW ca ad σ) s.heap [] := ⟨hP, hD.self, va_S.rf⟩
  have hl := lv_entry ([.ref (ad 0), .int x1]) (n := 6) (Nat.le_of_ble_eq_true rfl)
  rw [lg_entry_eq]
  generalize (lg_sl ([.ref (ad 0), .int x1]) ++ List.replicate (6 - (lg_sl ([.ref (ad 0), .int x1])).length) Slot.unset).toArray = ls at hl ⊢
  have hl : lv_has ls 6 [(0, .ref (ad 0)), (1, .int x1)] := hl
  change W p l e rm_X11_layRow s m _ below meth c _ [] 0 0 _ _
  clear B hP hD hK hN hml
  generalize va_A (MW ca ad σ) s.heap.size = A at C w ⊢
  generalize ([.ref (ad 0), .int x1] : List Value).toArray = av at C ⊢
  obtain ⟨Q, hQ⟩ : ∃ Q, Q = MQ below (PostI D A (MW ca ad out.2) out.1) av s 0 0 A := ⟨_, rfl⟩
  rw [← hQ]
  have hx := C.1
  have hb := C.2.1
  have b157 : ∀ (σ : St) (x3 : Int32), f_X11_layRow_b157 σ x3 = some out → Bk p l e rm_X11_layRow s m av below meth c A D 6 Q (MW ca ad σ) 157 [(3, .int x3)] [] := by
    intro σ x3 h H locs ls w hl
    unfold f_X11_layRow_b157 at h
    refine lv_iload_n hx hb dX11_layRow_157 rfl (lv_at hl 0 rfl) ?_
    obtain ⟨z1, h⟩ := cz_t h
    rw [hQ]
    exact rZ (F := MW ca ad) C w z1 h dX11_layRow_158
  have L121 : ∀ (n121 : Nat) (σ : St) (x3 : Int32) (x4 : Int32) (x5 : Int32), f_X11_layRow_L121 n121 σ x3 x4 x5 = some out → Bk p l e rm_X11_layRow s m av below meth c A D 6 Q (MW ca ad σ) 121 [(0, .ref (ad 0)), (3, .int x3), (4, .int x4), (5, .int x5)] [] := by
    intro n121
    induction n121 with
    | zero => intro σ x3 x4 x5 h; exact absurd h (by simp [f_X11_layRow_L121])
    | succ n121 ih121 =>
      intro σ x3 x4 x5 h H locs ls w hl
      change f_X11_layRow_b121 (f_X11_layRow_L121 n121) σ x3 x4 x5 = some out at h
      unfold f_X11_layRow_b121 at h
      refine lv_iload hx hb dX11_layRow_121 (lv_at hl 3 rfl) ?_
      refine lv_if_lt (tgt := 157) hx hb dX11_layRow_123 (by decide) (fun c1 => ?_) (fun c1 => ?_)
      · have h := it_t h c1
        exact b157 _ _ h _ _ _ w (lv_sub hl [1] rfl)
      · have h := it_f h c1
        refine lv_iload_n hx hb dX11_layRow_126 rfl (lv_at hl 1 rfl) ?_
        refine lv_if_eq (tgt := 157) hx hb dX11_layRow_127 (by decide) (fun c2 => ?_) (fun c2 => ?_)
        · have h := it_t h c2
          exact b157 _ _ h _ _ _ w (lv_sub hl [1] rfl)
        · have h := it_f h c2
          refine lv_aload_n hx hb dX11_layRow_130 rfl (lv_at hl 0 rfl) ?_
          refine gM0_6 C w wl_99 dX11_layRow_131 ?_
          refine lv_iload hx hb dX11_layRow_134 (lv_at hl 3 rfl) ?_
          refine lv_iload hx hb dX11_layRow_136 (lv_at hl 2 rfl) ?_
          refine lv_bipush (v := 10) hx hb dX11_layRow_138 (by decide) ?_
          refine lv_irem hx hb dX11_layRow_140 (by decide) ?_
          refine lv_iconst (v := 1) hx hb dX11_layRow_141 (by decide) ?_
          refine lv_isub hx hb dX11_layRow_142 ?_
          obtain ⟨i3, h⟩ := ck_t h
          refine stM5 (j := x5.toNatClampNeg) C w i3 rfl dX11_layRow_143 (fun H locs w => ?_)
          refine lv_iload hx hb dX11_layRow_144 (lv_at hl 2 rfl) ?_
          refine lv_bipush (v := 10) hx hb dX11_layRow_146 (by decide) ?_
          refine lv_idiv hx hb dX11_layRow_148 (by decide) ?_
          refine lv_istore (lv' := [(4, .int (x4 / (10 : Int32))), (0, .ref (ad 0)), (3, .int x3), (5, .int x5)]) hx hb dX11_layRow_149 hl (by decide) rfl (fun ls hl => ?_)
          refine lv_iinc (v := (x5 + (-1 : Int32))) (lv' := [(5, .int (x5 + (-1 : Int32))), (4, .int (x4 / (10 : Int32))), (0, .ref (ad 0)), (3, .int x3)]) hx hb dX11_layRow_151 hl (k := 3) rfl rfl (by decide) rfl (fun ls hl => ?_)
          refine lv_goto (tgt := 121) hx hb dX11_layRow_154 (by decide) ?_
          exact ih121 _ _ _ _ h _ _ _ w (lv_sub hl [2, 3, 1, 0] rfl)
  have b110 : ∀ (σ : St) (x1 : Int32) (x3 : Int32), f_X11_layRow_b110 σ x1 x3 = some out → Bk p l e rm_X11_layRow s m av below meth c A D 6 Q (MW ca ad σ) 110 [(0, .ref (ad 0)), (1, .int x1), (3, .int x3)] [] := by
    intro σ x1 x3 h H locs ls w hl
    unfold f_X11_layRow_b110 at h
    refine lv_iload_n hx hb dX11_layRow_110 rfl (lv_at hl 1 rfl) ?_
    refine lv_istore (lv' := [(4, .int x1), (0, .ref (ad 0)), (1, .int x1), (3, .int x3)]) hx hb dX11_layRow_111 hl (by decide) rfl (fun ls hl => ?_)
    refine lv_aload_n hx hb dX11_layRow_113 rfl (lv_at hl 1 rfl) ?_
    refine gM0_7 (v := (σ.1 7)) C w rfl wl_582 dX11_layRow_114 ?_
    refine lv_iconst (v := 1) hx hb dX11_layRow_117 (by decide) ?_
    refine lv_isub hx hb dX11_layRow_118 ?_
    refine lv_istore (lv' := [(5, .int ((σ.1 7) - (1 : Int32))), (4, .int x1), (0, .ref (ad 0)), (1, .int x1), (3, .int x3)]) hx hb dX11_layRow_119 hl (by decide) rfl (fun ls hl => ?_)
    exact L121 FU _ _ _ _ h _ _ _ w (lv_sub hl [2, 4, 1, 0] rfl)
  have L28 : ∀ (n28 : Nat) (σ : St) (x1 : Int32) (x2 : Int32) (x3 : Int32) (x4 : Int32), f_X11_layRow_L28 n28 σ x1 x2 x3 x4 = some out → Bk p l e rm_X11_layRow s m av below meth c A D 6 Q (MW ca ad σ) 28 [(0, .ref (ad 0)), (1, .int x1), (2, .int x2), (3, .int x3), (4, .int x4)] [] := by
    intro n28
    induction n28 with
    | zero => intro σ x1 x2 x3 x4 h; exact absurd h (by simp [f_X11_layRow_L28])
    | succ n28 ih28 =>
      have b100 : ∀ (σ : St) (x1 : Int32) (x2 : Int32) (x3 : Int32) (x4 : Int32), f_X11_layRow_b100 (f_X11_layRow_L28 n28) σ x1 x2 x3 x4 = some out → Bk p l e rm_X11_layRow s m av below meth c A D 6 Q (MW ca ad σ) 100 [(0, .ref (ad 0)), (1, .int x1), (2, .int x2), (3, .int x3), (4, .int x4)] [] := by
        intro σ x1 x2 x3 x4 h H locs ls w hl
        unfold f_X11_layRow_b100 at h
        refine lv_iload hx hb dX11_layRow_100 (lv_at hl 4 rfl) ?_
        refine lv_bipush (v := 10) hx hb dX11_layRow_102 (by decide) ?_
        refine lv_idiv hx hb dX11_layRow_104 (by decide) ?_
        refine lv_istore (lv' := [(4, .int (x4 / (10 : Int32))), (0, .ref (ad 0)), (1, .int x1), (2, .int x2), (3, .int x3)]) hx hb dX11_layRow_105 hl (by decide) rfl (fun ls hl => ?_)
        refine lv_goto (tgt := 28) hx hb dX11_layRow_107 (by decide) ?_
        exact ih28 _ _ _ _ _ h _ _ _ w (lv_sub hl [1, 2, 3, 4, 0] rfl)
      have b78 : ∀ (σ : St) (x1 : Int32) (x2 : Int32) (x4 : Int32) (x5 : Int32) (y0 : Int32), f_X11_layRow_b78 (f_X11_layRow_L28 n28) σ x1 x2 x4 x5 y0 = some out → Bk p l e rm_X11_layRow s m av below meth c A D 6 Q (MW ca ad σ) 78 [(0, .ref (ad 0)), (1, .int x1), (2, .int x2), (4, .int x4), (5, .int x5)] [.int y0] := by
        intro σ x1 x2 x4 x5 y0 h H locs ls w hl
        unfold f_X11_layRow_b78 at h
        refine lv_istore_n (lv' := [(3, .int y0), (0, .ref (ad 0)), (1, .int x1), (2, .int x2), (4, .int x4), (5, .int x5)]) hx hb dX11_layRow_78 rfl hl (by decide) rfl (fun ls hl => ?_)
        refine lv_iload_n hx hb dX11_layRow_79 rfl (lv_at hl 0 rfl) ?_
        refine lv_if_eq (tgt := 100) hx hb dX11_layRow_80 (by decide) (fun c1 => ?_) (fun c1 => ?_)
        · have h := it_t h c1
          exact b100 _ _ _ _ _ h _ _ _ w (lv_sub hl [1, 2, 3, 0, 4] rfl)
        · have h := it_f h c1
          refine lv_iload_n hx hb dX11_layRow_83 rfl (lv_at hl 3 rfl) ?_
          refine lv_iconst (v := 1) hx hb dX11_layRow_84 (by decide) ?_
          refine lv_iload hx hb dX11_layRow_85 (lv_at hl 5 rfl) ?_
          refine lv_ishl hx hb dX11_layRow_87 ?_
          refine lv_ior hx hb dX11_layRow_88 ?_
          refine lv_istore_n (lv' := [(2, .int (x2 ||| ((1 : Int32) <<< (x5 &&& 31)))), (3, .int y0), (0, .ref (ad 0)), (1, .int x1), (4, .int x4), (5, .int x5)]) hx hb dX11_layRow_89 rfl hl (by decide) rfl (fun ls hl => ?_)
          refine lv_aload_n hx hb dX11_layRow_90 rfl (lv_at hl 2 rfl) ?_
          refine lv_dup hx hb dX11_layRow_91 rfl ?_
          refine gM0_7 (v := (σ.1 7)) C w rfl wl_582 dX11_layRow_92 ?_
          refine lv_iconst (v := 1) hx hb dX11_layRow_95 (by decide) ?_
          refine lv_iadd hx hb dX11_layRow_96 ?_
          refine pM0_7 C w wl_582 dX11_layRow_97 (fun H locs w => ?_)
          exact b100 _ _ _ _ _ h _ _ _ w (lv_sub hl [2, 3, 0, 1, 4] rfl)
      have b77 : ∀ (σ : St) (x1 : Int32) (x2 : Int32) (x4 : Int32) (x5 : Int32), f_X11_layRow_b77 (f_X11_layRow_L28 n28) σ x1 x2 x4 x5 = some out → Bk p l e rm_X11_layRow s m av below meth c A D 6 Q (MW ca ad σ) 77 [(0, .ref (ad 0)), (1, .int x1), (2, .int x2), (4, .int x4), (5, .int x5)] [] := by
        intro σ x1 x2 x4 x5 h H locs ls w hl
        unfold f_X11_layRow_b77 at h
        refine lv_iconst (v := 0) hx hb dX11_layRow_77 (by decide) ?_
        exact b78 _ _ _ _ _ _ h _ _ _ w (lv_sub hl [0, 1, 2, 3, 4] rfl)
      intro σ x1 x2 x3 x4 h H locs ls w hl
      change f_X11_layRow_b28 (f_X11_layRow_L28 n28) σ x1 x2 x3 x4 = some out at h
      unfold f_X11_layRow_b28 at h
      refine lv_iload hx hb dX11_layRow_28 (lv_at hl 4 rfl) ?_
      refine lv_if_le (tgt := 110) hx hb dX11_layRow_30 (by decide) (fun c1 => ?_) (fun c1 => ?_)
      · have h := it_t h c1
        exact b110 _ _ _ h _ _ _ w (lv_sub hl [0, 1, 3] rfl)
      · have h := it_f h c1
        refine lv_iload_n hx hb dX11_layRow_33 rfl (lv_at hl 3 rfl) ?_
        refine lv_if_eq (tgt := 110) hx hb dX11_layRow_34 (by decide) (fun c2 => ?_) (fun c2 => ?_)
        · have h := it_t h c2
          exact b110 _ _ _ h _ _ _ w (lv_sub hl [0, 1, 3] rfl)
        · have h := it_f h c2
          refine lv_iload hx hb dX11_layRow_37 (lv_at hl 4 rfl) ?_
          refine lv_bipush (v := 10) hx hb dX11_layRow_39 (by decide) ?_
          refine lv_irem hx hb dX11_layRow_41 (by decide) ?_
          refine lv_iconst (v := 1) hx hb dX11_layRow_42 (by decide) ?_
          refine lv_isub hx hb dX11_layRow_43 ?_
          refine lv_istore (lv' := [(5, .int ((x4 - x4 / (10 : Int32) * (10 : Int32)) - (1 : Int32))), (0, .ref (ad 0)), (1, .int x1), (2, .int x2), (3, .int x3), (4, .int x4)]) hx hb dX11_layRow_44 hl (by decide) rfl (fun ls hl => ?_)
          refine lv_aload_n hx hb dX11_layRow_46 rfl (lv_at hl 1 rfl) ?_
          refine gM0_7 (v := (σ.1 7)) C w rfl wl_582 dX11_layRow_47 ?_
          refine lv_bipush (v := 7) hx hb dX11_layRow_50 (by decide) ?_
          refine lv_icmp_ge (tgt := 77) hx hb dX11_layRow_52 (by decide) (fun c3 => ?_) (fun c3 => ?_)
          · have h := it_t h c3
            exact b77 _ _ _ _ _ h _ _ _ w (lv_sub hl [1, 2, 3, 5, 0] rfl)
          · have h := it_f h c3
            refine lv_aload_n hx hb dX11_layRow_55 rfl (lv_at hl 1 rfl) ?_
            refine lv_iload hx hb dX11_layRow_56 (lv_at hl 0 rfl) ?_
            obtain ⟨q1, hq1, h⟩ := ob_t h
            refine res_i C w (run_V (As := [.int ((x4 - x4 / (10 : Int32) * (10 : Int32)) - (1 : Int32))]) (rest := []) C w hl.1 (recvM0 C w) (c_X11_isTree l D ca ad _ ((x4 - x4 / (10 : Int32) * (10 : Int32)) - (1 : Int32)) _ q1 hq1) rfl rfl wl_188 wl_189 wl_190 wl_5 wl_191 hd_X11_isTree rfl ⟨Nat.le_of_ble_eq_true rfl, Nat.le_of_ble_eq_true rfl⟩ rfl (Nat.le_of_ble_eq_true rfl) dX11_layRow_58) (fun H locs w => ?_)
            refine lv_if_eq (tgt := 77) hx hb dX11_layRow_61 (by decide) (fun c4 => ?_) (fun c4 => ?_)
            · have h := it_t h c4
              exact b77 _ _ _ _ _ h _ _ _ w (lv_sub hl [1, 2, 3, 5, 0] rfl)
            · have h := it_f h c4
              refine lv_iload_n hx hb dX11_layRow_64 rfl (lv_at hl 3 rfl) ?_
              refine lv_iload hx hb dX11_layRow_65 (lv_at hl 0 rfl) ?_
              obtain ⟨q2, hq2, h⟩ := ob_t h
              refine res_i C w (run_S (As := [.int x2, .int ((x4 - x4 / (10 : Int32) * (10 : Int32)) - (1 : Int32))]) (rest := []) C w hl.1 (c_X11_has l D ca _ x2 ((x4 - x4 / (10 : Int32) * (10 : Int32)) - (1 : Int32)) _ q2 hq2) rfl rfl wl_583 wl_584 wl_5 wl_585 hd_X11_has rfl ⟨Nat.le_of_ble_eq_true rfl, Nat.le_of_ble_eq_true rfl⟩ rfl (Nat.le_of_ble_eq_true rfl) dX11_layRow_67) (fun H locs w => ?_)
              refine lv_if_ne (tgt := 77) hx hb dX11_layRow_70 (by decide) (fun c5 => ?_) (fun c5 => ?_)
              · have h := it_f h c5
                exact b77 _ _ _ _ _ h _ _ _ w (lv_sub hl [1, 2, 3, 5, 0] rfl)
              · have h := it_t h c5
                refine lv_iconst (v := 1) hx hb dX11_layRow_73 (by decide) ?_
                refine lv_goto (tgt := 78) hx hb dX11_layRow_74 (by decide) ?_
                exact b78 _ _ _ _ _ _ h _ _ _ w (lv_sub hl [1, 2, 3, 5, 0] rfl)
  have b26 : ∀ (σ : St) (x1 : Int32) (x2 : Int32) (x3 : Int32) (y0 : Int32), f_X11_layRow_b26 σ x1 x2 x3 y0 = some out → Bk p l e rm_X11_layRow s m av below meth c A D 6 Q (MW ca ad σ) 26 [(0, .ref (ad 0)), (1, .int x1), (2, .int x2), (3, .int x3)] [.int y0] := by
    intro σ x1 x2 x3 y0 h H locs ls w hl
    unfold f_X11_layRow_b26 at h
    refine lv_istore (lv' := [(4, .int y0), (0, .ref (ad 0)), (1, .int x1), (2, .int x2), (3, .int x3)]) hx hb dX11_layRow_26 hl (by decide) rfl (fun ls hl => ?_)
    exact L28 FU _ _ _ _ _ h _ _ _ w (lv_sub hl [1, 2, 3, 4, 0] rfl)
  have b11 : ∀ (σ : St) (x1 : Int32) (x2 : Int32) (y0 : Int32), f_X11_layRow_b11 σ x1 x2 y0 = some out → Bk p l e rm_X11_layRow s m av below meth c A D 6 Q (MW ca ad σ) 11 [(0, .ref (ad 0)), (1, .int x1), (2, .int x2)] [.int y0] := by
    intro σ x1 x2 y0 h H locs ls w hl
    unfold f_X11_layRow_b11 at h
    refine lv_istore_n (lv' := [(3, .int y0), (0, .ref (ad 0)), (1, .int x1), (2, .int x2)]) hx hb dX11_layRow_11 rfl hl (by decide) rfl (fun ls hl => ?_)
    refine lv_aload_n hx hb dX11_layRow_12 rfl (lv_at hl 1 rfl) ?_
    refine lv_iconst (v := 0) hx hb dX11_layRow_13 (by decide) ?_
    refine pM0_7 C w wl_582 dX11_layRow_14 (fun H locs w => ?_)
    refine lv_iload_n hx hb dX11_layRow_17 rfl (lv_at hl 2 rfl) ?_
    refine lv_if_le (tgt := 25) hx hb dX11_layRow_18 (by decide) (fun c1 => ?_) (fun c1 => ?_)
    · have h := it_t h c1
      refine lv_iconst (v := 0) hx hb dX11_layRow_25 (by decide) ?_
      exact b26 _ _ _ _ _ h _ _ _ w (lv_sub hl [1, 2, 3, 0] rfl)
    · have h := it_f h c1
      refine lv_iload_n hx hb dX11_layRow_21 rfl (lv_at hl 2 rfl) ?_
      refine lv_goto (tgt := 26) hx hb dX11_layRow_22 (by decide) ?_
      exact b26 _ _ _ _ _ h _ _ _ w (lv_sub hl [1, 2, 3, 0] rfl)
  have h := hf
  unfold f_X11_layRow at h
  refine lv_iconst (v := 0) hx hb dX11_layRow_0 (by decide) ?_
  refine lv_istore_n (lv' := [(2, .int (0 : Int32)), (0, .ref (ad 0)), (1, .int x1)]) hx hb dX11_layRow_1 rfl hl (by decide) rfl (fun ls hl => ?_)
  refine lv_iload_n hx hb dX11_layRow_2 rfl (lv_at hl 2 rfl) ?_
  refine lv_if_le (tgt := 10) hx hb dX11_layRow_3 (by decide) (fun c1 => ?_) (fun c1 => ?_)
  · have h := it_t h c1
    refine lv_iconst (v := 0) hx hb dX11_layRow_10 (by decide) ?_
    exact b11 _ _ _ _ h _ _ _ w (lv_sub hl [1, 2, 0] rfl)
  · have h := it_f h c1
    refine lv_iconst (v := 1) hx hb dX11_layRow_6 (by decide) ?_
    refine lv_goto (tgt := 11) hx hb dX11_layRow_7 (by decide) ?_
    exact b11 _ _ _ _ h _ _ _ w (lv_sub hl [1, 2, 0] rfl)
theorem hd_X11_numberOfRow : yX11_numberOfRow.cls = RX11 ∧ yX11_numberOfRow.cls ≠ "java/lang/invoke/MethodHandle" ∧ yX11_numberOfRow.cls ≠ "java/lang/invoke/VarHandle" ∧ (parseMethodDescriptor yX11_numberOfRow.desc).map (fun d => d.parameters.length) = some 0 := by decide +kernel
def f_X11_numberOfRow_b4 (K4 : St → Int32 → Int32 → Option (Int32 × St)) (σ : St) (x1 : Int32) (x2 : Int32) : Option (Int32 × St) := if (σ.1 7) ≤ x2 then (some (x1, σ)) else (cond (ckI x2 7) (K4 σ ((((10 : Int32) * x1) + (σ.2.2 5 x2.toNatClampNeg)) + (1 : Int32)) (x2 + (1 : Int32))) none)
def f_X11_numberOfRow_L4 : Nat → St → Int32 → Int32 → Option (Int32 × St)
  | 0 => fun _ _ _ => none
  | n + 1 => f_X11_numberOfRow_b4 (f_X11_numberOfRow_L4 n)
def f_X11_numberOfRow (σ : St) : Option (Int32 × St) := f_X11_numberOfRow_L4 FU σ (0 : Int32) (0 : Int32)
abbrev rm_X11_numberOfRow : Room := { frames := 0, cells := 0, slots := 0, locals := 0 }
set_option maxHeartbeats 4000000 in
set_option maxRecDepth 100000 in
theorem c_X11_numberOfRow (l : Launch) (D : va_G) (ca : Nat → ClassId) (ad : Nat → Nat) (σ : St)  (sz : Nat) (out : Int32 × St) (hf : f_X11_numberOfRow σ  = some out) : Met l yX11_numberOfRow (.code yX11_numberOfRow cX11_numberOfRow 3 (some .int) :: WL) rm_X11_numberOfRow (PreC D ca (MW ca ad σ) sz [.ref (ad 0)]) (PostI D (va_A (MW ca ad σ) sz) (MW ca ad out.2) out.1) 0 0 (va_A (MW ca ad σ) sz) := by
  refine Met.ofW (cc := cX11_numberOfRow) (maxL := 3) (ret := (some .int)) (by decide) rfl ?_
  intro p e s m args below meth c s₁ B hml hv
  obtain ⟨rfl, hsz, hP, hK, hD, hN⟩ := hv
  subst hsz
  have C := Cx.mk (own := RX11) B hml rfl hK hN (ws := (MW ca ad σ))
  have w : Wd (va_A (MW ca ad σ) s.heap.size) s D (MW ca ad σ) s.heap [] := ⟨hP, hD.self, va_S.rf⟩
  have hl := lv_entry ([.ref (ad 0)]) (n := 3) (Nat.le_of_ble_eq_true rfl)
  rw [lg_entry_eq]
  generalize (lg_sl ([.ref (ad 0)]) ++ List.replicate (3 - (lg_sl ([.ref (ad 0)])).length) Slot.unset).toArray = ls at hl ⊢
  have hl : lv_has ls 3 [(0, .ref (ad 0))] := hl
  change W p l e rm_X11_numberOfRow s m _ below meth c _ [] 0 0 _ _
  clear B hP hD hK hN hml
  generalize va_A (MW ca ad σ) s.heap.size = A at C w ⊢
  generalize ([.ref (ad 0)] : List Value).toArray = av at C ⊢
  obtain ⟨Q, hQ⟩ : ∃ Q, Q = MQ below (PostI D A (MW ca ad out.2) out.1) av s 0 0 A := ⟨_, rfl⟩
  rw [← hQ]
  have hx := C.1
  have hb := C.2.1
  have L4 : ∀ (n4 : Nat) (σ : St) (x1 : Int32) (x2 : Int32), f_X11_numberOfRow_L4 n4 σ x1 x2 = some out → Bk p l e rm_X11_numberOfRow s m av below meth c A D 3 Q (MW ca ad σ) 4 [(0, .ref (ad 0)), (1, .int x1), (2, .int x2)] [] := by
    intro n4
    induction n4 with
    | zero => intro σ x1 x2 h; exact absurd h (by simp [f_X11_numberOfRow_L4])
    | succ n4 ih4 =>
      intro σ x1 x2 h H locs ls w hl
      change f_X11_numberOfRow_b4 (f_X11_numberOfRow_L4 n4) σ x1 x2 = some out at h
      unfold f_X11_numberOfRow_b4 at h
      refine lv_iload_n hx hb dX11_numberOfRow_4 rfl (lv_at hl 2 rfl) ?_
      refine lv_aload_n hx hb dX11_numberOfRow_5 rfl (lv_at hl 0 rfl) ?_
      refine gM0_7 (v := (σ.1 7)) C w rfl wl_582 dX11_numberOfRow_6 ?_
      refine lv_icmp_ge (tgt := 32) hx hb dX11_numberOfRow_9 (by decide) (fun c1 => ?_) (fun c1 => ?_)
      · have h := it_t h c1
        refine lv_iload_n hx hb dX11_numberOfRow_32 rfl (lv_at hl 1 rfl) ?_
        rw [hQ]
        exact rI (F := MW ca ad) C w h dX11_numberOfRow_33
      · have h := it_f h c1
        refine lv_bipush (v := 10) hx hb dX11_numberOfRow_12 (by decide) ?_
        refine lv_iload_n hx hb dX11_numberOfRow_14 rfl (lv_at hl 1 rfl) ?_
        refine lv_imul hx hb dX11_numberOfRow_15 ?_
        refine lv_aload_n hx hb dX11_numberOfRow_16 rfl (lv_at hl 0 rfl) ?_
        refine gM0_6 C w wl_99 dX11_numberOfRow_17 ?_
        refine lv_iload_n hx hb dX11_numberOfRow_20 rfl (lv_at hl 2 rfl) ?_
        obtain ⟨i2, h⟩ := ck_t h
        refine ldM5 (v := (σ.2.2 5 x2.toNatClampNeg)) C w i2 rfl dX11_numberOfRow_21 ?_
        refine lv_iadd hx hb dX11_numberOfRow_22 ?_
        refine lv_iconst (v := 1) hx hb dX11_numberOfRow_23 (by decide) ?_
        refine lv_iadd hx hb dX11_numberOfRow_24 ?_
        refine lv_istore_n (lv' := [(1, .int ((((10 : Int32) * x1) + (σ.2.2 5 x2.toNatClampNeg)) + (1 : Int32))), (0, .ref (ad 0)), (2, .int x2)]) hx hb dX11_numberOfRow_25 rfl hl (by decide) rfl (fun ls hl => ?_)
        refine lv_iinc (v := (x2 + (1 : Int32))) (lv' := [(2, .int (x2 + (1 : Int32))), (1, .int ((((10 : Int32) * x1) + (σ.2.2 5 x2.toNatClampNeg)) + (1 : Int32))), (0, .ref (ad 0))]) hx hb dX11_numberOfRow_26 hl (k := 2) rfl rfl (by decide) rfl (fun ls hl => ?_)
        refine lv_goto (tgt := 4) hx hb dX11_numberOfRow_29 (by decide) ?_
        exact ih4 _ _ _ h _ _ _ w (lv_sub hl [2, 1, 0] rfl)
  have h := hf
  unfold f_X11_numberOfRow at h
  refine lv_iconst (v := 0) hx hb dX11_numberOfRow_0 (by decide) ?_
  refine lv_istore_n (lv' := [(1, .int (0 : Int32)), (0, .ref (ad 0))]) hx hb dX11_numberOfRow_1 rfl hl (by decide) rfl (fun ls hl => ?_)
  refine lv_iconst (v := 0) hx hb dX11_numberOfRow_2 (by decide) ?_
  refine lv_istore_n (lv' := [(2, .int (0 : Int32)), (1, .int (0 : Int32)), (0, .ref (ad 0))]) hx hb dX11_numberOfRow_3 rfl hl (by decide) rfl (fun ls hl => ?_)
  exact L4 FU _ _ _ h _ _ _ w (lv_sub hl [2, 1, 0] rfl)
theorem hd_X11_isRow : yX11_isRow.cls = RX11 ∧ yX11_isRow.cls ≠ "java/lang/invoke/MethodHandle" ∧ yX11_isRow.cls ≠ "java/lang/invoke/VarHandle" ∧ (parseMethodDescriptor yX11_isRow.desc).map (fun d => d.parameters.length) = some 0 := by decide +kernel
def f_X11_isRow_b71 (K4 : St → Int32 → Int32 → Option (Int32 × St)) (σ : St) (x2 : Int32) (y0 : Int32) : Option (Int32 × St) := K4 σ y0 (x2 + (1 : Int32))
def f_X11_isRow_b66 (K4 : St → Int32 → Int32 → Option (Int32 × St)) (σ : St) (x2 : Int32) : Option (Int32 × St) := f_X11_isRow_b71 K4 σ x2 (1 : Int32)
def f_X11_isRow_b70 (K4 : St → Int32 → Int32 → Option (Int32 × St)) (σ : St) (x2 : Int32) : Option (Int32 × St) := f_X11_isRow_b71 K4 σ x2 (0 : Int32)
def f_X11_isRow_b4 (K4 : St → Int32 → Int32 → Option (Int32 × St)) (σ : St) (x1 : Int32) (x2 : Int32) : Option (Int32 × St) := if (σ.1 7) ≤ x2 then (cond (ckZ x1) (some (x1, σ)) none) else (if x1 = 0 then (f_X11_isRow_b70 K4 σ x2) else (cond (ckI x2 7) ((f_X11_has (σ.2.2 1 1) (σ.2.2 5 x2.toNatClampNeg)).bind fun q1 => if q1 = 0 then (if x2 = 0 then (f_X11_isRow_b66 K4 σ x2) else (cond (ckI x2 7) (cond (ckI ((13 : Int32) + (σ.2.2 5 x2.toNatClampNeg)) 84) (cond (ckI (x2 - (1 : Int32)) 7) ((f_X11_has (σ.2.2 1 (((13 : Int32) + (σ.2.2 5 x2.toNatClampNeg))).toNatClampNeg) (σ.2.2 5 ((x2 - (1 : Int32))).toNatClampNeg)).bind fun q2 => if q2 = 0 then (f_X11_isRow_b70 K4 σ x2) else (f_X11_isRow_b66 K4 σ x2)) none) none) none)) else (f_X11_isRow_b70 K4 σ x2)) none))
def f_X11_isRow_L4 : Nat → St → Int32 → Int32 → Option (Int32 × St)
  | 0 => fun _ _ _ => none
  | n + 1 => f_X11_isRow_b4 (f_X11_isRow_L4 n)
def f_X11_isRow (σ : St) : Option (Int32 × St) := f_X11_isRow_L4 FU σ (1 : Int32) (0 : Int32)
abbrev rm_X11_isRow : Room := { frames := 1, cells := 0, slots := 0, locals := 60 }
set_option maxHeartbeats 4000000 in
set_option maxRecDepth 100000 in
theorem c_X11_isRow (l : Launch) (D : va_G) (ca : Nat → ClassId) (ad : Nat → Nat) (σ : St)  (sz : Nat) (out : Int32 × St) (hf : f_X11_isRow σ  = some out) : Met l yX11_isRow (.code yX11_isRow cX11_isRow 3 (some .boolean) :: WL) rm_X11_isRow (PreC D ca (MW ca ad σ) sz [.ref (ad 0)]) (PostI D (va_A (MW ca ad σ) sz) (MW ca ad out.2) out.1) 0 0 (va_A (MW ca ad σ) sz) := by
  refine Met.ofW (cc := cX11_isRow) (maxL := 3) (ret := (some .boolean)) (by decide) rfl ?_
  intro p e s m args below meth c s₁ B hml hv
  obtain ⟨rfl, hsz, hP, hK, hD, hN⟩ := hv
  subst hsz
  have C := Cx.mk (own := RX11) B hml rfl hK hN (ws := (MW ca ad σ))
  have w : Wd (va_A (MW ca ad σ) s.heap.size) s D (MW ca ad σ) s.heap [] := ⟨hP, hD.self, va_S.rf⟩
  have hl := lv_entry ([.ref (ad 0)]) (n := 3) (Nat.le_of_ble_eq_true rfl)
  rw [lg_entry_eq]
  generalize (lg_sl ([.ref (ad 0)]) ++ List.replicate (3 - (lg_sl ([.ref (ad 0)])).length) Slot.unset).toArray = ls at hl ⊢
  have hl : lv_has ls 3 [(0, .ref (ad 0))] := hl
  change W p l e rm_X11_isRow s m _ below meth c _ [] 0 0 _ _
  clear B hP hD hK hN hml
  generalize va_A (MW ca ad σ) s.heap.size = A at C w ⊢
  generalize ([.ref (ad 0)] : List Value).toArray = av at C ⊢
  obtain ⟨Q, hQ⟩ : ∃ Q, Q = MQ below (PostI D A (MW ca ad out.2) out.1) av s 0 0 A := ⟨_, rfl⟩
  rw [← hQ]
  have hx := C.1
  have hb := C.2.1
  have L4 : ∀ (n4 : Nat) (σ : St) (x1 : Int32) (x2 : Int32), f_X11_isRow_L4 n4 σ x1 x2 = some out → Bk p l e rm_X11_isRow s m av below meth c A D 3 Q (MW ca ad σ) 4 [(0, .ref (ad 0)), (1, .int x1), (2, .int x2)] [] := by
    intro n4
    induction n4 with
    | zero => intro σ x1 x2 h; exact absurd h (by simp [f_X11_isRow_L4])
    | succ n4 ih4 =>
      have b71 : ∀ (σ : St) (x2 : Int32) (y0 : Int32), f_X11_isRow_b71 (f_X11_isRow_L4 n4) σ x2 y0 = some out → Bk p l e rm_X11_isRow s m av below meth c A D 3 Q (MW ca ad σ) 71 [(0, .ref (ad 0)), (2, .int x2)] [.int y0] := by
        intro σ x2 y0 h H locs ls w hl
        unfold f_X11_isRow_b71 at h
        refine lv_istore_n (lv' := [(1, .int y0), (0, .ref (ad 0)), (2, .int x2)]) hx hb dX11_isRow_71 rfl hl (by decide) rfl (fun ls hl => ?_)
        refine lv_iinc (v := (x2 + (1 : Int32))) (lv' := [(2, .int (x2 + (1 : Int32))), (1, .int y0), (0, .ref (ad 0))]) hx hb dX11_isRow_72 hl (k := 2) rfl rfl (by decide) rfl (fun ls hl => ?_)
        refine lv_goto (tgt := 4) hx hb dX11_isRow_75 (by decide) ?_
        exact ih4 _ _ _ h _ _ _ w (lv_sub hl [2, 1, 0] rfl)
      have b66 : ∀ (σ : St) (x2 : Int32), f_X11_isRow_b66 (f_X11_isRow_L4 n4) σ x2 = some out → Bk p l e rm_X11_isRow s m av below meth c A D 3 Q (MW ca ad σ) 66 [(0, .ref (ad 0)), (2, .int x2)] [] := by
        intro σ x2 h H locs ls w hl
        unfold f_X11_isRow_b66 at h
        refine lv_iconst (v := 1) hx hb dX11_isRow_66 (by decide) ?_
        refine lv_goto (tgt := 71) hx hb dX11_isRow_67 (by decide) ?_
        exact b71 _ _ _ h _ _ _ w (lv_sub hl [0, 1] rfl)
      have b70 : ∀ (σ : St) (x2 : Int32), f_X11_isRow_b70 (f_X11_isRow_L4 n4) σ x2 = some out → Bk p l e rm_X11_isRow s m av below meth c A D 3 Q (MW ca ad σ) 70 [(0, .ref (ad 0)), (2, .int x2)] [] := by
        intro σ x2 h H locs ls w hl
        unfold f_X11_isRow_b70 at h
        refine lv_iconst (v := 0) hx hb dX11_isRow_70 (by decide) ?_
        exact b71 _ _ _ h _ _ _ w (lv_sub hl [0, 1] rfl)
      intro σ x1 x2 h H locs ls w hl
      change f_X11_isRow_b4 (f_X11_isRow_L4 n4) σ x1 x2 = some out at h
      unfold f_X11_isRow_b4 at h
      refine lv_iload_n hx hb dX11_isRow_4 rfl (lv_at hl 2 rfl) ?_
      refine lv_aload_n hx hb dX11_isRow_5 rfl (lv_at hl 0 rfl) ?_
      refine gM0_7 (v := (σ.1 7)) C w rfl wl_582 dX11_isRow_6 ?_
      refine lv_icmp_ge (tgt := 78) hx hb dX11_isRow_9 (by decide) (fun c1 => ?_) (fun c1 => ?_)
      · have h := it_t h c1
        refine lv_iload_n hx hb dX11_isRow_78 rfl (lv_at hl 1 rfl) ?_
        obtain ⟨z2, h⟩ := cz_t h
        rw [hQ]
        exact rZ (F := MW ca ad) C w z2 h dX11_isRow_79
      · have h := it_f h c1
        refine lv_iload_n hx hb dX11_isRow_12 rfl (lv_at hl 1 rfl) ?_
        refine lv_if_eq (tgt := 70) hx hb dX11_isRow_13 (by decide) (fun c3 => ?_) (fun c3 => ?_)
        · have h := it_t h c3
          exact b70 _ _ h _ _ _ w (lv_sub hl [0, 2] rfl)
        · have h := it_f h c3
          refine lv_aload_n hx hb dX11_isRow_16 rfl (lv_at hl 0 rfl) ?_
          refine gM0_0 C w wl_94 dX11_isRow_17 ?_
          refine lv_iconst (v := 1) hx hb dX11_isRow_20 (by decide) ?_
          refine ldM1 (v := (σ.2.2 1 1)) C w (vl (by decide)) rfl dX11_isRow_21 ?_
          refine lv_aload_n hx hb dX11_isRow_22 rfl (lv_at hl 0 rfl) ?_
          refine gM0_6 C w wl_99 dX11_isRow_23 ?_
          refine lv_iload_n hx hb dX11_isRow_26 rfl (lv_at hl 2 rfl) ?_
          obtain ⟨i4, h⟩ := ck_t h
          refine ldM5 (v := (σ.2.2 5 x2.toNatClampNeg)) C w i4 rfl dX11_isRow_27 ?_
          obtain ⟨q1, hq1, h⟩ := ob_t h
          refine res_i C w (run_S (As := [.int (σ.2.2 1 1), .int (σ.2.2 5 x2.toNatClampNeg)]) (rest := []) C w hl.1 (c_X11_has l D ca _ (σ.2.2 1 1) (σ.2.2 5 x2.toNatClampNeg) _ q1 hq1) rfl rfl wl_583 wl_584 wl_5 wl_585 hd_X11_has rfl ⟨Nat.le_of_ble_eq_true rfl, Nat.le_of_ble_eq_true rfl⟩ rfl (Nat.le_of_ble_eq_true rfl) dX11_isRow_28) (fun H locs w => ?_)
          refine lv_if_ne (tgt := 70) hx hb dX11_isRow_31 (by decide) (fun c5 => ?_) (fun c5 => ?_)
          · have h := it_f h c5
            exact b70 _ _ h _ _ _ w (lv_sub hl [0, 2] rfl)
          · have h := it_t h c5
            refine lv_iload_n hx hb dX11_isRow_34 rfl (lv_at hl 2 rfl) ?_
            refine lv_if_eq (tgt := 66) hx hb dX11_isRow_35 (by decide) (fun c6 => ?_) (fun c6 => ?_)
            · have h := it_t h c6
              exact b66 _ _ h _ _ _ w (lv_sub hl [0, 2] rfl)
            · have h := it_f h c6
              refine lv_aload_n hx hb dX11_isRow_38 rfl (lv_at hl 0 rfl) ?_
              refine gM0_0 C w wl_94 dX11_isRow_39 ?_
              refine lv_bipush (v := 13) hx hb dX11_isRow_42 (by decide) ?_
              refine lv_aload_n hx hb dX11_isRow_44 rfl (lv_at hl 0 rfl) ?_
              refine gM0_6 C w wl_99 dX11_isRow_45 ?_
              refine lv_iload_n hx hb dX11_isRow_48 rfl (lv_at hl 2 rfl) ?_
              obtain ⟨i7, h⟩ := ck_t h
              refine ldM5 (v := (σ.2.2 5 x2.toNatClampNeg)) C w i7 rfl dX11_isRow_49 ?_
              refine lv_iadd hx hb dX11_isRow_50 ?_
              obtain ⟨i8, h⟩ := ck_t h
              refine ldM1 (v := (σ.2.2 1 (((13 : Int32) + (σ.2.2 5 x2.toNatClampNeg))).toNatClampNeg)) C w i8 rfl dX11_isRow_51 ?_
              refine lv_aload_n hx hb dX11_isRow_52 rfl (lv_at hl 0 rfl) ?_
              refine gM0_6 C w wl_99 dX11_isRow_53 ?_
              refine lv_iload_n hx hb dX11_isRow_56 rfl (lv_at hl 2 rfl) ?_
              refine lv_iconst (v := 1) hx hb dX11_isRow_57 (by decide) ?_
              refine lv_isub hx hb dX11_isRow_58 ?_
              obtain ⟨i9, h⟩ := ck_t h
              refine ldM5 (v := (σ.2.2 5 ((x2 - (1 : Int32))).toNatClampNeg)) C w i9 rfl dX11_isRow_59 ?_
              obtain ⟨q2, hq2, h⟩ := ob_t h
              refine res_i C w (run_S (As := [.int (σ.2.2 1 (((13 : Int32) + (σ.2.2 5 x2.toNatClampNeg))).toNatClampNeg), .int (σ.2.2 5 ((x2 - (1 : Int32))).toNatClampNeg)]) (rest := []) C w hl.1 (c_X11_has l D ca _ (σ.2.2 1 (((13 : Int32) + (σ.2.2 5 x2.toNatClampNeg))).toNatClampNeg) (σ.2.2 5 ((x2 - (1 : Int32))).toNatClampNeg) _ q2 hq2) rfl rfl wl_583 wl_584 wl_5 wl_585 hd_X11_has rfl ⟨Nat.le_of_ble_eq_true rfl, Nat.le_of_ble_eq_true rfl⟩ rfl (Nat.le_of_ble_eq_true rfl) dX11_isRow_60) (fun H locs w => ?_)
              refine lv_if_eq (tgt := 70) hx hb dX11_isRow_63 (by decide) (fun c10 => ?_) (fun c10 => ?_)
              · have h := it_t h c10
                exact b70 _ _ h _ _ _ w (lv_sub hl [0, 2] rfl)
              · have h := it_f h c10
                exact b66 _ _ h _ _ _ w (lv_sub hl [0, 2] rfl)
  have h := hf
  unfold f_X11_isRow at h
  refine lv_iconst (v := 1) hx hb dX11_isRow_0 (by decide) ?_
  refine lv_istore_n (lv' := [(1, .int (1 : Int32)), (0, .ref (ad 0))]) hx hb dX11_isRow_1 rfl hl (by decide) rfl (fun ls hl => ?_)
  refine lv_iconst (v := 0) hx hb dX11_isRow_2 (by decide) ?_
  refine lv_istore_n (lv' := [(2, .int (0 : Int32)), (1, .int (1 : Int32)), (0, .ref (ad 0))]) hx hb dX11_isRow_3 rfl hl (by decide) rfl (fun ls hl => ?_)
  exact L4 FU _ _ _ h _ _ _ w (lv_sub hl [2, 1, 0] rfl)
theorem hd_X11_byRow : yX11_byRow.cls = RX11 ∧ yX11_byRow.cls ≠ "java/lang/invoke/MethodHandle" ∧ yX11_byRow.cls ≠ "java/lang/invoke/VarHandle" ∧ (parseMethodDescriptor yX11_byRow.desc).map (fun d => d.parameters.length) = some 3 := by decide +kernel
def f_X11_byRow_b25 (σ : St) : Option (Int32 × St) := (f_X11_bad σ (-2 : Int32)).bind fun q1 => some (q1.1, q1.2)
def f_X11_byRow (σ : St) (x1 : Int32) (x2 : Int32) (x3 : Int32) : Option (Int32 × St) := (f_X11_layRow σ x1).bind fun q1 => if q1.1 = 0 then (f_X11_byRow_b25 q1.2) else ((f_X11_isLetter x2).bind fun q2 => if q2 = 0 then (f_X11_byRow_b25 q1.2) else ((f_X11_in x3.toInt64 (0 : Int64) (1 : Int64)).bind fun q3 => if q3 = 0 then (f_X11_byRow_b25 q1.2) else ((f_X11_readBy q1.2 x2 (q1.2.2.2 1 2)).bind fun q4 => (f_X11_isRow q4).bind fun q5 => if q5.1 = 0 then (some ((-1 : Int32), q5.2)) else (if x3 = 0 then (some ((q5.2.1 8), q5.2)) else (some ((q5.2.1 9), q5.2))))))
abbrev rm_X11_byRow : Room := { frames := 4, cells := 0, slots := 0, locals := 240 }
set_option maxHeartbeats 4000000 in
set_option maxRecDepth 100000 in
theorem c_X11_byRow (l : Launch) (D : va_G) (ca : Nat → ClassId) (ad : Nat → Nat) (σ : St) (x1 : Int32) (x2 : Int32) (x3 : Int32) (sz : Nat) (out : Int32 × St) (hf : f_X11_byRow σ x1 x2 x3 = some out) : Met l yX11_byRow (.code yX11_byRow cX11_byRow 4 (some .int) :: WL) rm_X11_byRow (PreC D ca (MW ca ad σ) sz [.ref (ad 0), .int x1, .int x2, .int x3]) (PostI D (va_A (MW ca ad σ) sz) (MW ca ad out.2) out.1) 0 0 (va_A (MW ca ad σ) sz) := by
  refine Met.ofW (cc := cX11_byRow) (maxL := 4) (ret := (some .int)) (by decide) rfl ?_
  intro p e s m args below meth c s₁ B hml hv
  obtain ⟨rfl, hsz, hP, hK, hD, hN⟩ := hv
  subst hsz
  have C := Cx.mk (own := RX11) B hml rfl hK hN (ws := (MW ca ad σ))
  have w : Wd (va_A (MW ca ad σ) s.heap.size) s D (MW ca ad σ) s.heap [] := ⟨hP, hD.self, va_S.rf⟩
  have hl := lv_entry ([.ref (ad 0), .int x1, .int x2, .int x3]) (n := 4) (Nat.le_of_ble_eq_true rfl)
  rw [lg_entry_eq]
  generalize (lg_sl ([.ref (ad 0), .int x1, .int x2, .int x3]) ++ List.replicate (4 - (lg_sl ([.ref (ad 0), .int x1, .int x2, .int x3])).length) Slot.unset).toArray = ls at hl ⊢
  have hl : lv_has ls 4 [(0, .ref (ad 0)), (1, .int x1), (2, .int x2), (3, .int x3)] := hl
  change W p l e rm_X11_byRow s m _ below meth c _ [] 0 0 _ _
  clear B hP hD hK hN hml
  generalize va_A (MW ca ad σ) s.heap.size = A at C w ⊢
  generalize ([.ref (ad 0), .int x1, .int x2, .int x3] : List Value).toArray = av at C ⊢
  obtain ⟨Q, hQ⟩ : ∃ Q, Q = MQ below (PostI D A (MW ca ad out.2) out.1) av s 0 0 A := ⟨_, rfl⟩
  rw [← hQ]
  have hx := C.1
  have hb := C.2.1
  have b25 : ∀ (σ : St), f_X11_byRow_b25 σ = some out → Bk p l e rm_X11_byRow s m av below meth c A D 4 Q (MW ca ad σ) 25 [(0, .ref (ad 0))] [] := by
    intro σ h H locs ls w hl
    unfold f_X11_byRow_b25 at h
    refine lv_aload_n hx hb dX11_byRow_25 rfl (lv_at hl 0 rfl) ?_
    refine lv_bipush (v := -2) hx hb dX11_byRow_26 (by decide) ?_
    obtain ⟨q1, hq1, h⟩ := ob_t h
    refine res_i C w (run_V (As := [.int (-2 : Int32)]) (rest := []) C w hl.1 (recvM0 C w) (c_X11_bad l D ca ad _ (-2 : Int32) _ q1 hq1) rfl rfl wl_140 wl_141 wl_142 wl_5 wl_143 hd_X11_bad rfl ⟨Nat.le_of_ble_eq_true rfl, Nat.le_of_ble_eq_true rfl⟩ rfl (Nat.le_of_ble_eq_true rfl) dX11_byRow_28) (fun H locs w => ?_)
    rw [hQ]
    exact rI (F := MW ca ad) C w h dX11_byRow_31
  have h := hf
  unfold f_X11_byRow at h
  refine lv_aload_n hx hb dX11_byRow_0 rfl (lv_at hl 0 rfl) ?_
  refine lv_iload_n hx hb dX11_byRow_1 rfl (lv_at hl 1 rfl) ?_
  obtain ⟨q1, hq1, h⟩ := ob_t h
  refine res_i C w (run_V (As := [.int x1]) (rest := []) C w hl.1 (recvM0 C w) (c_X11_layRow l D ca ad _ x1 _ q1 hq1) rfl rfl wl_578 wl_579 wl_580 wl_5 wl_581 hd_X11_layRow rfl ⟨Nat.le_of_ble_eq_true rfl, Nat.le_of_ble_eq_true rfl⟩ rfl (Nat.le_of_ble_eq_true rfl) dX11_byRow_2) (fun H locs w => ?_)
  refine lv_if_eq (tgt := 25) hx hb dX11_byRow_5 (by decide) (fun c1 => ?_) (fun c1 => ?_)
  · have h := it_t h c1
    exact b25 _ h _ _ _ w (lv_sub hl [0] rfl)
  · have h := it_f h c1
    refine lv_iload_n hx hb dX11_byRow_8 rfl (lv_at hl 2 rfl) ?_
    obtain ⟨q2, hq2, h⟩ := ob_t h
    refine res_i C w (run_S (As := [.int x2]) (rest := []) C w hl.1 (c_X11_isLetter l D ca _ x2 _ q2 hq2) rfl rfl wl_524 wl_525 wl_5 wl_526 hd_X11_isLetter rfl ⟨Nat.le_of_ble_eq_true rfl, Nat.le_of_ble_eq_true rfl⟩ rfl (Nat.le_of_ble_eq_true rfl) dX11_byRow_9) (fun H locs w => ?_)
    refine lv_if_eq (tgt := 25) hx hb dX11_byRow_12 (by decide) (fun c2 => ?_) (fun c2 => ?_)
    · have h := it_t h c2
      exact b25 _ h _ _ _ w (lv_sub hl [0] rfl)
    · have h := it_f h c2
      refine lv_iload_n hx hb dX11_byRow_15 rfl (lv_at hl 3 rfl) ?_
      refine lv_i2l hx hb dX11_byRow_16 rfl ?_
      refine lv_lconst (v := 0) hx hb dX11_byRow_17 (by decide) ?_
      refine lv_lconst (v := 1) hx hb dX11_byRow_18 (by decide) ?_
      obtain ⟨q3, hq3, h⟩ := ob_t h
      refine res_i C w (run_S (As := [.long x3.toInt64, .long (0 : Int64), .long (1 : Int64)]) (rest := []) C w hl.1 (c_X11_in l D ca _ x3.toInt64 (0 : Int64) (1 : Int64) _ q3 hq3) rfl rfl wl_137 wl_138 wl_5 wl_139 hd_X11_in rfl ⟨Nat.le_of_ble_eq_true rfl, Nat.le_of_ble_eq_true rfl⟩ rfl (Nat.le_of_ble_eq_true rfl) dX11_byRow_19) (fun H locs w => ?_)
      refine lv_if_ne (tgt := 32) hx hb dX11_byRow_22 (by decide) (fun c3 => ?_) (fun c3 => ?_)
      · have h := it_f h c3
        refine lv_aload_n hx hb dX11_byRow_32 rfl (lv_at hl 0 rfl) ?_
        refine lv_iload_n hx hb dX11_byRow_33 rfl (lv_at hl 2 rfl) ?_
        refine lv_aload_n hx hb dX11_byRow_34 rfl (lv_at hl 0 rfl) ?_
        refine gM0_0 C w wl_94 dX11_byRow_35 ?_
        refine lv_iconst (v := 2) hx hb dX11_byRow_38 (by decide) ?_
        refine ldM1 (v := (q1.2.2.2 1 2)) C w (vl (by decide)) rfl dX11_byRow_39 ?_
        obtain ⟨q4, hq4, h⟩ := ob_t h
        refine res_v C w (run_V (As := [.int x2, .int (q1.2.2.2 1 2)]) (rest := []) C w hl.1 (recvM0 C w) (c_X11_readBy l D ca ad _ x2 (q1.2.2.2 1 2) _ q4 hq4) rfl rfl wl_586 wl_587 wl_588 wl_5 wl_589 hd_X11_readBy rfl ⟨Nat.le_of_ble_eq_true rfl, Nat.le_of_ble_eq_true rfl⟩ rfl (Nat.le_of_ble_eq_true rfl) dX11_byRow_40) (fun H locs w => ?_)
        refine lv_aload_n hx hb dX11_byRow_43 rfl (lv_at hl 0 rfl) ?_
        obtain ⟨q5, hq5, h⟩ := ob_t h
        refine res_i C w (run_V (As := []) (rest := []) C w hl.1 (recvM0 C w) (c_X11_isRow l D ca ad _  _ q5 hq5) rfl rfl wl_590 wl_591 wl_592 wl_5 wl_593 hd_X11_isRow rfl ⟨Nat.le_of_ble_eq_true rfl, Nat.le_of_ble_eq_true rfl⟩ rfl (Nat.le_of_ble_eq_true rfl) dX11_byRow_44) (fun H locs w => ?_)
        refine lv_if_ne (tgt := 54) hx hb dX11_byRow_47 (by decide) (fun c4 => ?_) (fun c4 => ?_)
        · have h := it_f h c4
          refine lv_iload_n hx hb dX11_byRow_54 rfl (lv_at hl 3 rfl) ?_
          refine lv_if_ne (tgt := 65) hx hb dX11_byRow_55 (by decide) (fun c5 => ?_) (fun c5 => ?_)
          · have h := it_f h c5
            refine lv_aload_n hx hb dX11_byRow_65 rfl (lv_at hl 0 rfl) ?_
            refine gM0_9 (v := (q5.2.1 9)) C w rfl wl_577 dX11_byRow_66 ?_
            rw [hQ]
            exact rI (F := MW ca ad) C w h dX11_byRow_69
          · have h := it_t h c5
            refine lv_aload_n hx hb dX11_byRow_58 rfl (lv_at hl 0 rfl) ?_
            refine gM0_8 (v := (q5.2.1 8)) C w rfl wl_576 dX11_byRow_59 ?_
            refine lv_goto (tgt := 69) hx hb dX11_byRow_62 (by decide) ?_
            rw [hQ]
            exact rI (F := MW ca ad) C w h dX11_byRow_69
        · have h := it_t h c4
          refine lv_iconst (v := -1) hx hb dX11_byRow_50 (by decide) ?_
          refine lv_goto (tgt := 69) hx hb dX11_byRow_51 (by decide) ?_
          rw [hQ]
          exact rI (F := MW ca ad) C w h dX11_byRow_69
      · have h := it_t h c3
        exact b25 _ h _ _ _ w (lv_sub hl [0] rfl)
theorem hd_X11_layFirst : yX11_layFirst.cls = RX11 ∧ yX11_layFirst.cls ≠ "java/lang/invoke/MethodHandle" ∧ yX11_layFirst.cls ≠ "java/lang/invoke/VarHandle" ∧ (parseMethodDescriptor yX11_layFirst.desc).map (fun d => d.parameters.length) = some 2 := by decide +kernel
def f_X11_layFirst_b33 (σ : St) (x1 : Int32) (y0 : Int32) : Option (St) := some (sE (sI σ 7 y0) 5 0 x1)
def f_X11_layFirst (σ : St) (x1 : Int32) (x2 : Int32) : Option (St) := (f_X11_many σ).bind fun q1 => (f_X11_has ((((1 : Int32) <<< (q1.1 &&& 31)) - (1 : Int32)) &&& (x2 ^^^ (-1 : Int32))) x1).bind fun q2 => if q2 = 0 then (f_X11_layFirst_b33 (sI q1.2 10 ((((1 : Int32) <<< (q1.1 &&& 31)) - (1 : Int32)) &&& (x2 ^^^ (-1 : Int32)))) x1 (0 : Int32)) else (f_X11_layFirst_b33 (sI q1.2 10 ((((1 : Int32) <<< (q1.1 &&& 31)) - (1 : Int32)) &&& (x2 ^^^ (-1 : Int32)))) x1 (1 : Int32))
abbrev rm_X11_layFirst : Room := { frames := 1, cells := 0, slots := 0, locals := 60 }
set_option maxHeartbeats 4000000 in
set_option maxRecDepth 100000 in
theorem c_X11_layFirst (l : Launch) (D : va_G) (ca : Nat → ClassId) (ad : Nat → Nat) (σ : St) (x1 : Int32) (x2 : Int32) (sz : Nat) (out : St) (hf : f_X11_layFirst σ x1 x2 = some out) : Met l yX11_layFirst (.code yX11_layFirst cX11_layFirst 3 none :: WL) rm_X11_layFirst (PreC D ca (MW ca ad σ) sz [.ref (ad 0), .int x1, .int x2]) (PostV D (va_A (MW ca ad σ) sz) (MW ca ad out)) 0 0 (va_A (MW ca ad σ) sz) := by
  refine Met.ofW (cc := cX11_layFirst) (maxL := 3) (ret := none) (by decide) rfl ?_
  intro p e s m args below meth c s₁ B hml hv
  obtain ⟨rfl, hsz, hP, hK, hD, hN⟩ := hv
  subst hsz
  have C := Cx.mk (own := RX11) B hml rfl hK hN (ws := (MW ca ad σ))
  have w : Wd (va_A (MW ca ad σ) s.heap.size) s D (MW ca ad σ) s.heap [] := ⟨hP, hD.self, va_S.rf⟩
  have hl := lv_entry ([.ref (ad 0), .int x1, .int x2]) (n := 3) (Nat.le_of_ble_eq_true rfl)
  rw [lg_entry_eq]
  generalize (lg_sl ([.ref (ad 0), .int x1, .int x2]) ++ List.replicate (3 - (lg_sl ([.ref (ad 0), .int x1, .int x2])).length) Slot.unset).toArray = ls at hl ⊢
  have hl : lv_has ls 3 [(0, .ref (ad 0)), (1, .int x1), (2, .int x2)] := hl
  change W p l e rm_X11_layFirst s m _ below meth c _ [] 0 0 _ _
  clear B hP hD hK hN hml
  generalize va_A (MW ca ad σ) s.heap.size = A at C w ⊢
  generalize ([.ref (ad 0), .int x1, .int x2] : List Value).toArray = av at C ⊢
  obtain ⟨Q, hQ⟩ : ∃ Q, Q = MQ below (PostV D A (MW ca ad out)) av s 0 0 A := ⟨_, rfl⟩
  rw [← hQ]
  have hx := C.1
  have hb := C.2.1
  have b33 : ∀ (σ : St) (x1 : Int32) (y0 : Int32), f_X11_layFirst_b33 σ x1 y0 = some out → Bk p l e rm_X11_layFirst s m av below meth c A D 3 Q (MW ca ad σ) 33 [(0, .ref (ad 0)), (1, .int x1)] [.int y0, .ref (ad 0)] := by
    intro σ x1 y0 h H locs ls w hl
    unfold f_X11_layFirst_b33 at h
    refine pM0_7 C w wl_582 dX11_layFirst_33 (fun H locs w => ?_)
    refine lv_aload_n hx hb dX11_layFirst_36 rfl (lv_at hl 0 rfl) ?_
    refine gM0_6 C w wl_99 dX11_layFirst_37 ?_
    refine lv_iconst (v := 0) hx hb dX11_layFirst_40 (by decide) ?_
    refine lv_iload_n hx hb dX11_layFirst_41 rfl (lv_at hl 1 rfl) ?_
    refine stM5 (j := 0) C w (vl (by decide)) rfl dX11_layFirst_42 (fun H locs w => ?_)
    rw [hQ]
    exact rV (F := MW ca ad) C w h dX11_layFirst_43
  have h := hf
  unfold f_X11_layFirst at h
  refine lv_aload_n hx hb dX11_layFirst_0 rfl (lv_at hl 0 rfl) ?_
  refine lv_iconst (v := 1) hx hb dX11_layFirst_1 (by decide) ?_
  refine lv_aload_n hx hb dX11_layFirst_2 rfl (lv_at hl 0 rfl) ?_
  obtain ⟨q1, hq1, h⟩ := ob_t h
  refine res_i C w (run_V (As := []) (rest := [.int (1 : Int32), .ref (ad 0)]) C w hl.1 (recvM0 C w) (c_X11_many l D ca ad _  _ q1 hq1) rfl rfl wl_144 wl_145 wl_146 wl_5 wl_147 hd_X11_many rfl ⟨Nat.le_of_ble_eq_true rfl, Nat.le_of_ble_eq_true rfl⟩ rfl (Nat.le_of_ble_eq_true rfl) dX11_layFirst_3) (fun H locs w => ?_)
  refine lv_ishl hx hb dX11_layFirst_6 ?_
  refine lv_iconst (v := 1) hx hb dX11_layFirst_7 (by decide) ?_
  refine lv_isub hx hb dX11_layFirst_8 ?_
  refine lv_iload_n hx hb dX11_layFirst_9 rfl (lv_at hl 2 rfl) ?_
  refine lv_iconst (v := -1) hx hb dX11_layFirst_10 (by decide) ?_
  refine lv_ixor hx hb dX11_layFirst_11 ?_
  refine lv_iand hx hb dX11_layFirst_12 ?_
  refine pM0_10 C w wl_633 dX11_layFirst_13 (fun H locs w => ?_)
  refine lv_aload_n hx hb dX11_layFirst_16 rfl (lv_at hl 0 rfl) ?_
  refine lv_aload_n hx hb dX11_layFirst_17 rfl (lv_at hl 0 rfl) ?_
  refine gM0_10 (v := ((((1 : Int32) <<< (q1.1 &&& 31)) - (1 : Int32)) &&& (x2 ^^^ (-1 : Int32)))) C w rfl wl_633 dX11_layFirst_18 ?_
  refine lv_iload_n hx hb dX11_layFirst_21 rfl (lv_at hl 1 rfl) ?_
  obtain ⟨q2, hq2, h⟩ := ob_t h
  refine res_i C w (run_S (As := [.int ((((1 : Int32) <<< (q1.1 &&& 31)) - (1 : Int32)) &&& (x2 ^^^ (-1 : Int32))), .int x1]) (rest := [.ref (ad 0)]) C w hl.1 (c_X11_has l D ca _ ((((1 : Int32) <<< (q1.1 &&& 31)) - (1 : Int32)) &&& (x2 ^^^ (-1 : Int32))) x1 _ q2 hq2) rfl rfl wl_583 wl_584 wl_5 wl_585 hd_X11_has rfl ⟨Nat.le_of_ble_eq_true rfl, Nat.le_of_ble_eq_true rfl⟩ rfl (Nat.le_of_ble_eq_true rfl) dX11_layFirst_22) (fun H locs w => ?_)
  refine lv_if_eq (tgt := 32) hx hb dX11_layFirst_25 (by decide) (fun c1 => ?_) (fun c1 => ?_)
  · have h := it_t h c1
    refine lv_iconst (v := 0) hx hb dX11_layFirst_32 (by decide) ?_
    exact b33 _ _ _ h _ _ _ w (lv_sub hl [0, 1] rfl)
  · have h := it_f h c1
    refine lv_iconst (v := 1) hx hb dX11_layFirst_28 (by decide) ?_
    refine lv_goto (tgt := 33) hx hb dX11_layFirst_29 (by decide) ?_
    exact b33 _ _ _ h _ _ _ w (lv_sub hl [0, 1] rfl)
theorem hd_X11_used : yX11_used.cls = RX11 ∧ yX11_used.cls ≠ "java/lang/invoke/MethodHandle" ∧ yX11_used.cls ≠ "java/lang/invoke/VarHandle" ∧ (parseMethodDescriptor yX11_used.desc).map (fun d => d.parameters.length) = some 0 := by decide +kernel
def f_X11_used_b4 (K4 : St → Int32 → Int32 → Option (Int32 × St)) (σ : St) (x1 : Int32) (x2 : Int32) : Option (Int32 × St) := if (σ.1 7) ≤ x2 then (some (x1, σ)) else (cond (ckI x2 7) (K4 σ (x1 ||| ((1 : Int32) <<< ((σ.2.2 5 x2.toNatClampNeg) &&& 31))) (x2 + (1 : Int32))) none)
def f_X11_used_L4 : Nat → St → Int32 → Int32 → Option (Int32 × St)
  | 0 => fun _ _ _ => none
  | n + 1 => f_X11_used_b4 (f_X11_used_L4 n)
def f_X11_used (σ : St) : Option (Int32 × St) := f_X11_used_L4 FU σ (0 : Int32) (0 : Int32)
abbrev rm_X11_used : Room := { frames := 0, cells := 0, slots := 0, locals := 0 }
set_option maxHeartbeats 4000000 in
set_option maxRecDepth 100000 in
theorem c_X11_used (l : Launch) (D : va_G) (ca : Nat → ClassId) (ad : Nat → Nat) (σ : St)  (sz : Nat) (out : Int32 × St) (hf : f_X11_used σ  = some out) : Met l yX11_used (.code yX11_used cX11_used 3 (some .int) :: WL) rm_X11_used (PreC D ca (MW ca ad σ) sz [.ref (ad 0)]) (PostI D (va_A (MW ca ad σ) sz) (MW ca ad out.2) out.1) 0 0 (va_A (MW ca ad σ) sz) := by
  refine Met.ofW (cc := cX11_used) (maxL := 3) (ret := (some .int)) (by decide) rfl ?_
  intro p e s m args below meth c s₁ B hml hv
  obtain ⟨rfl, hsz, hP, hK, hD, hN⟩ := hv
  subst hsz
  have C := Cx.mk (own := RX11) B hml rfl hK hN (ws := (MW ca ad σ))
  have w : Wd (va_A (MW ca ad σ) s.heap.size) s D (MW ca ad σ) s.heap [] := ⟨hP, hD.self, va_S.rf⟩
  have hl := lv_entry ([.ref (ad 0)]) (n := 3) (Nat.le_of_ble_eq_true rfl)
  rw [lg_entry_eq]
  generalize (lg_sl ([.ref (ad 0)]) ++ List.replicate (3 - (lg_sl ([.ref (ad 0)])).length) Slot.unset).toArray = ls at hl ⊢
  have hl : lv_has ls 3 [(0, .ref (ad 0))] := hl
  change W p l e rm_X11_used s m _ below meth c _ [] 0 0 _ _
  clear B hP hD hK hN hml
  generalize va_A (MW ca ad σ) s.heap.size = A at C w ⊢
  generalize ([.ref (ad 0)] : List Value).toArray = av at C ⊢
  obtain ⟨Q, hQ⟩ : ∃ Q, Q = MQ below (PostI D A (MW ca ad out.2) out.1) av s 0 0 A := ⟨_, rfl⟩
  rw [← hQ]
  have hx := C.1
  have hb := C.2.1
  have L4 : ∀ (n4 : Nat) (σ : St) (x1 : Int32) (x2 : Int32), f_X11_used_L4 n4 σ x1 x2 = some out → Bk p l e rm_X11_used s m av below meth c A D 3 Q (MW ca ad σ) 4 [(0, .ref (ad 0)), (1, .int x1), (2, .int x2)] [] := by
    intro n4
    induction n4 with
    | zero => intro σ x1 x2 h; exact absurd h (by simp [f_X11_used_L4])
    | succ n4 ih4 =>
      intro σ x1 x2 h H locs ls w hl
      change f_X11_used_b4 (f_X11_used_L4 n4) σ x1 x2 = some out at h
      unfold f_X11_used_b4 at h
      refine lv_iload_n hx hb dX11_used_4 rfl (lv_at hl 2 rfl) ?_
      refine lv_aload_n hx hb dX11_used_5 rfl (lv_at hl 0 rfl) ?_
      refine gM0_7 (v := (σ.1 7)) C w rfl wl_582 dX11_used_6 ?_
      refine lv_icmp_ge (tgt := 29) hx hb dX11_used_9 (by decide) (fun c1 => ?_) (fun c1 => ?_)
      · have h := it_t h c1
        refine lv_iload_n hx hb dX11_used_29 rfl (lv_at hl 1 rfl) ?_
        rw [hQ]
        exact rI (F := MW ca ad) C w h dX11_used_30
      · have h := it_f h c1
        refine lv_iload_n hx hb dX11_used_12 rfl (lv_at hl 1 rfl) ?_
        refine lv_iconst (v := 1) hx hb dX11_used_13 (by decide) ?_
        refine lv_aload_n hx hb dX11_used_14 rfl (lv_at hl 0 rfl) ?_
        refine gM0_6 C w wl_99 dX11_used_15 ?_
        refine lv_iload_n hx hb dX11_used_18 rfl (lv_at hl 2 rfl) ?_
        obtain ⟨i2, h⟩ := ck_t h
        refine ldM5 (v := (σ.2.2 5 x2.toNatClampNeg)) C w i2 rfl dX11_used_19 ?_
        refine lv_ishl hx hb dX11_used_20 ?_
        refine lv_ior hx hb dX11_used_21 ?_
        refine lv_istore_n (lv' := [(1, .int (x1 ||| ((1 : Int32) <<< ((σ.2.2 5 x2.toNatClampNeg) &&& 31)))), (0, .ref (ad 0)), (2, .int x2)]) hx hb dX11_used_22 rfl hl (by decide) rfl (fun ls hl => ?_)
        refine lv_iinc (v := (x2 + (1 : Int32))) (lv' := [(2, .int (x2 + (1 : Int32))), (1, .int (x1 ||| ((1 : Int32) <<< ((σ.2.2 5 x2.toNatClampNeg) &&& 31)))), (0, .ref (ad 0))]) hx hb dX11_used_23 hl (k := 2) rfl rfl (by decide) rfl (fun ls hl => ?_)
        refine lv_goto (tgt := 4) hx hb dX11_used_26 (by decide) ?_
        exact ih4 _ _ _ h _ _ _ w (lv_sub hl [2, 1, 0] rfl)
  have h := hf
  unfold f_X11_used at h
  refine lv_iconst (v := 0) hx hb dX11_used_0 (by decide) ?_
  refine lv_istore_n (lv' := [(1, .int (0 : Int32)), (0, .ref (ad 0))]) hx hb dX11_used_1 rfl hl (by decide) rfl (fun ls hl => ?_)
  refine lv_iconst (v := 0) hx hb dX11_used_2 (by decide) ?_
  refine lv_istore_n (lv' := [(2, .int (0 : Int32)), (1, .int (0 : Int32)), (0, .ref (ad 0))]) hx hb dX11_used_3 rfl hl (by decide) rfl (fun ls hl => ?_)
  exact L4 FU _ _ _ h _ _ _ w (lv_sub hl [2, 1, 0] rfl)
theorem hd_X11_goOn : yX11_goOn.cls = RX11 ∧ yX11_goOn.cls ≠ "java/lang/invoke/MethodHandle" ∧ yX11_goOn.cls ≠ "java/lang/invoke/VarHandle" ∧ (parseMethodDescriptor yX11_goOn.desc).map (fun d => d.parameters.length) = some 0 := by decide +kernel
def f_X11_goOn_b72 (K4 : St → Int32 → Int32 → Option (St)) (σ : St) (x1 : Int32) (x2 : Int32) (x4 : Int32) : Option (St) := if (7 : Int32) ≤ x4 then (cond (ckI ((σ.1 7) - (1 : Int32)) 7) (K4 (sI σ 7 ((σ.1 7) - (1 : Int32))) ((σ.2.2 5 (((σ.1 7) - (1 : Int32))).toNatClampNeg) + (1 : Int32)) x2) none) else (cond (ckI (σ.1 7) 7) (K4 (sI (sE σ 5 (((σ.1 7)).toNatClampNeg) x4) 7 ((σ.1 7) + (1 : Int32))) x1 (1 : Int32)) none)
def f_X11_goOn_b50 (K4 : St → Int32 → Int32 → Option (St)) (K50 : St → Int32 → Int32 → Int32 → Int32 → Option (St)) (σ : St) (x1 : Int32) (x2 : Int32) (x3 : Int32) (x4 : Int32) : Option (St) := if (7 : Int32) ≤ x4 then (f_X11_goOn_b72 K4 σ x1 x2 x4) else ((f_X11_has x3 x4).bind fun q1 => if q1 = 0 then (K50 σ x1 x2 x3 (x4 + (1 : Int32))) else (f_X11_goOn_b72 K4 σ x1 x2 x4))
def f_X11_goOn_L50 (K4 : St → Int32 → Int32 → Option (St)) : Nat → St → Int32 → Int32 → Int32 → Int32 → Option (St)
  | 0 => fun _ _ _ _ _ => none
  | n + 1 => f_X11_goOn_b50 K4 (f_X11_goOn_L50 K4 n)
def f_X11_goOn_b4 (K4 : St → Int32 → Int32 → Option (St)) (σ : St) (x1 : Int32) (x2 : Int32) : Option (St) := if (σ.1 7) ≤ 0 then (some σ) else (if x2 = 0 then (cond (ckI ((σ.1 7) - (1 : Int32)) 7) (cond (ckI ((13 : Int32) + (σ.2.2 5 (((σ.1 7) - (1 : Int32))).toNatClampNeg)) 84) ((f_X11_used σ).bind fun q1 => f_X11_goOn_L50 K4 FU q1.2 x1 x2 (((σ.2.2 1 (((13 : Int32) + (σ.2.2 5 (((σ.1 7) - (1 : Int32))).toNatClampNeg))).toNatClampNeg) &&& (σ.1 10)) &&& (q1.1 ^^^ (-1 : Int32))) x1) none) none) else (some σ))
def f_X11_goOn_L4 : Nat → St → Int32 → Int32 → Option (St)
  | 0 => fun _ _ _ => none
  | n + 1 => f_X11_goOn_b4 (f_X11_goOn_L4 n)
def f_X11_goOn (σ : St) : Option (St) := f_X11_goOn_L4 FU σ (0 : Int32) (0 : Int32)
abbrev rm_X11_goOn : Room := { frames := 1, cells := 0, slots := 0, locals := 60 }
set_option maxHeartbeats 4000000 in
set_option maxRecDepth 100000 in
theorem c_X11_goOn (l : Launch) (D : va_G) (ca : Nat → ClassId) (ad : Nat → Nat) (σ : St)  (sz : Nat) (out : St) (hf : f_X11_goOn σ  = some out) : Met l yX11_goOn (.code yX11_goOn cX11_goOn 5 none :: WL) rm_X11_goOn (PreC D ca (MW ca ad σ) sz [.ref (ad 0)]) (PostV D (va_A (MW ca ad σ) sz) (MW ca ad out)) 0 0 (va_A (MW ca ad σ) sz) := by
  refine Met.ofW (cc := cX11_goOn) (maxL := 5) (ret := none) (by decide) rfl ?_
  intro p e s m args below meth c s₁ B hml hv
  obtain ⟨rfl, hsz, hP, hK, hD, hN⟩ := hv
  subst hsz
  have C := Cx.mk (own := RX11) B hml rfl hK hN (ws := (MW ca ad σ))
  have w : Wd (va_A (MW ca ad σ) s.heap.size) s D (MW ca ad σ) s.heap [] := ⟨hP, hD.self, va_S.rf⟩
  have hl := lv_entry ([.ref (ad 0)]) (n := 5) (Nat.le_of_ble_eq_true rfl)
  rw [lg_entry_eq]
  generalize (lg_sl ([.ref (ad 0)]) ++ List.replicate (5 - (lg_sl ([.ref (ad 0)])).length) Slot.unset).toArray = ls at hl ⊢
  have hl : lv_has ls 5 [(0, .ref (ad 0))] := hl
  change W p l e rm_X11_goOn s m _ below meth c _ [] 0 0 _ _
  clear B hP hD hK hN hml
  generalize va_A (MW ca ad σ) s.heap.size = A at C w ⊢
  generalize ([.ref (ad 0)] : List Value).toArray = av at C ⊢
  obtain ⟨Q, hQ⟩ : ∃ Q, Q = MQ below (PostV D A (MW ca ad out)) av s 0 0 A := ⟨_, rfl⟩
  rw [← hQ]
  have hx := C.1
  have hb := C.2.1
  have L4 : ∀ (n4 : Nat) (σ : St) (x1 : Int32) (x2 : Int32), f_X11_goOn_L4 n4 σ x1 x2 = some out → Bk p l e rm_X11_goOn s m av below meth c A D 5 Q (MW ca ad σ) 4 [(0, .ref (ad 0)), (1, .int x1), (2, .int x2)] [] := by
    intro n4
    induction n4 with
    | zero => intro σ x1 x2 h; exact absurd h (by simp [f_X11_goOn_L4])
    | succ n4 ih4 =>
      have b72 : ∀ (σ : St) (x1 : Int32) (x2 : Int32) (x4 : Int32), f_X11_goOn_b72 (f_X11_goOn_L4 n4) σ x1 x2 x4 = some out → Bk p l e rm_X11_goOn s m av below meth c A D 5 Q (MW ca ad σ) 72 [(0, .ref (ad 0)), (1, .int x1), (2, .int x2), (4, .int x4)] [] := by
        intro σ x1 x2 x4 h H locs ls w hl
        unfold f_X11_goOn_b72 at h
        refine lv_iload hx hb dX11_goOn_72 (lv_at hl 3 rfl) ?_
        refine lv_bipush (v := 7) hx hb dX11_goOn_74 (by decide) ?_
        refine lv_icmp_ge (tgt := 105) hx hb dX11_goOn_76 (by decide) (fun c1 => ?_) (fun c1 => ?_)
        · have h := it_t h c1
          refine lv_aload_n hx hb dX11_goOn_105 rfl (lv_at hl 0 rfl) ?_
          refine gM0_6 C w wl_99 dX11_goOn_106 ?_
          refine lv_aload_n hx hb dX11_goOn_109 rfl (lv_at hl 0 rfl) ?_
          refine gM0_7 (v := (σ.1 7)) C w rfl wl_582 dX11_goOn_110 ?_
          refine lv_iconst (v := 1) hx hb dX11_goOn_113 (by decide) ?_
          refine lv_isub hx hb dX11_goOn_114 ?_
          obtain ⟨i2, h⟩ := ck_t h
          refine ldM5 (v := (σ.2.2 5 (((σ.1 7) - (1 : Int32))).toNatClampNeg)) C w i2 rfl dX11_goOn_115 ?_
          refine lv_iconst (v := 1) hx hb dX11_goOn_116 (by decide) ?_
          refine lv_iadd hx hb dX11_goOn_117 ?_
          refine lv_istore_n (lv' := [(1, .int ((σ.2.2 5 (((σ.1 7) - (1 : Int32))).toNatClampNeg) + (1 : Int32))), (0, .ref (ad 0)), (2, .int x2), (4, .int x4)]) hx hb dX11_goOn_118 rfl hl (by decide) rfl (fun ls hl => ?_)
          refine lv_aload_n hx hb dX11_goOn_119 rfl (lv_at hl 1 rfl) ?_
          refine lv_dup hx hb dX11_goOn_120 rfl ?_
          refine gM0_7 (v := (σ.1 7)) C w rfl wl_582 dX11_goOn_121 ?_
          refine lv_iconst (v := 1) hx hb dX11_goOn_124 (by decide) ?_
          refine lv_isub hx hb dX11_goOn_125 ?_
          refine pM0_7 C w wl_582 dX11_goOn_126 (fun H locs w => ?_)
          refine lv_goto (tgt := 4) hx hb dX11_goOn_129 (by decide) ?_
          exact ih4 _ _ _ h _ _ _ w (lv_sub hl [1, 0, 2] rfl)
        · have h := it_f h c1
          refine lv_aload_n hx hb dX11_goOn_79 rfl (lv_at hl 0 rfl) ?_
          refine gM0_6 C w wl_99 dX11_goOn_80 ?_
          refine lv_aload_n hx hb dX11_goOn_83 rfl (lv_at hl 0 rfl) ?_
          refine gM0_7 (v := (σ.1 7)) C w rfl wl_582 dX11_goOn_84 ?_
          refine lv_iload hx hb dX11_goOn_87 (lv_at hl 3 rfl) ?_
          obtain ⟨i3, h⟩ := ck_t h
          refine stM5 (j := ((σ.1 7)).toNatClampNeg) C w i3 rfl dX11_goOn_89 (fun H locs w => ?_)
          refine lv_aload_n hx hb dX11_goOn_90 rfl (lv_at hl 0 rfl) ?_
          refine lv_dup hx hb dX11_goOn_91 rfl ?_
          refine gM0_7 (v := (σ.1 7)) C w rfl wl_582 dX11_goOn_92 ?_
          refine lv_iconst (v := 1) hx hb dX11_goOn_95 (by decide) ?_
          refine lv_iadd hx hb dX11_goOn_96 ?_
          refine pM0_7 C w wl_582 dX11_goOn_97 (fun H locs w => ?_)
          refine lv_iconst (v := 1) hx hb dX11_goOn_100 (by decide) ?_
          refine lv_istore_n (lv' := [(2, .int (1 : Int32)), (0, .ref (ad 0)), (1, .int x1), (4, .int x4)]) hx hb dX11_goOn_101 rfl hl (by decide) rfl (fun ls hl => ?_)
          refine lv_goto (tgt := 129) hx hb dX11_goOn_102 (by decide) ?_
          refine lv_goto (tgt := 4) hx hb dX11_goOn_129 (by decide) ?_
          exact ih4 _ _ _ h _ _ _ w (lv_sub hl [1, 2, 0] rfl)
      have L50 : ∀ (n50 : Nat) (σ : St) (x1 : Int32) (x2 : Int32) (x3 : Int32) (x4 : Int32), f_X11_goOn_L50 (f_X11_goOn_L4 n4) n50 σ x1 x2 x3 x4 = some out → Bk p l e rm_X11_goOn s m av below meth c A D 5 Q (MW ca ad σ) 50 [(0, .ref (ad 0)), (1, .int x1), (2, .int x2), (3, .int x3), (4, .int x4)] [] := by
        intro n50
        induction n50 with
        | zero => intro σ x1 x2 x3 x4 h; exact absurd h (by simp [f_X11_goOn_L50])
        | succ n50 ih50 =>
          intro σ x1 x2 x3 x4 h H locs ls w hl
          change f_X11_goOn_b50 (f_X11_goOn_L4 n4) (f_X11_goOn_L50 (f_X11_goOn_L4 n4) n50) σ x1 x2 x3 x4 = some out at h
          unfold f_X11_goOn_b50 at h
          refine lv_iload hx hb dX11_goOn_50 (lv_at hl 4 rfl) ?_
          refine lv_bipush (v := 7) hx hb dX11_goOn_52 (by decide) ?_
          refine lv_icmp_ge (tgt := 72) hx hb dX11_goOn_54 (by decide) (fun c1 => ?_) (fun c1 => ?_)
          · have h := it_t h c1
            exact b72 _ _ _ _ h _ _ _ w (lv_sub hl [0, 1, 2, 4] rfl)
          · have h := it_f h c1
            refine lv_iload_n hx hb dX11_goOn_57 rfl (lv_at hl 3 rfl) ?_
            refine lv_iload hx hb dX11_goOn_58 (lv_at hl 4 rfl) ?_
            obtain ⟨q1, hq1, h⟩ := ob_t h
            refine res_i C w (run_S (As := [.int x3, .int x4]) (rest := []) C w hl.1 (c_X11_has l D ca _ x3 x4 _ q1 hq1) rfl rfl wl_583 wl_584 wl_5 wl_585 hd_X11_has rfl ⟨Nat.le_of_ble_eq_true rfl, Nat.le_of_ble_eq_true rfl⟩ rfl (Nat.le_of_ble_eq_true rfl) dX11_goOn_60) (fun H locs w => ?_)
            refine lv_if_ne (tgt := 72) hx hb dX11_goOn_63 (by decide) (fun c2 => ?_) (fun c2 => ?_)
            · have h := it_f h c2
              exact b72 _ _ _ _ h _ _ _ w (lv_sub hl [0, 1, 2, 4] rfl)
            · have h := it_t h c2
              refine lv_iinc (v := (x4 + (1 : Int32))) (lv' := [(4, .int (x4 + (1 : Int32))), (0, .ref (ad 0)), (1, .int x1), (2, .int x2), (3, .int x3)]) hx hb dX11_goOn_66 hl (k := 4) rfl rfl (by decide) rfl (fun ls hl => ?_)
              refine lv_goto (tgt := 50) hx hb dX11_goOn_69 (by decide) ?_
              exact ih50 _ _ _ _ _ h _ _ _ w (lv_sub hl [1, 2, 3, 4, 0] rfl)
      intro σ x1 x2 h H locs ls w hl
      change f_X11_goOn_b4 (f_X11_goOn_L4 n4) σ x1 x2 = some out at h
      unfold f_X11_goOn_b4 at h
      refine lv_aload_n hx hb dX11_goOn_4 rfl (lv_at hl 0 rfl) ?_
      refine gM0_7 (v := (σ.1 7)) C w rfl wl_582 dX11_goOn_5 ?_
      refine lv_if_le (tgt := 132) hx hb dX11_goOn_8 (by decide) (fun c1 => ?_) (fun c1 => ?_)
      · have h := it_t h c1
        rw [hQ]
        exact rV (F := MW ca ad) C w h dX11_goOn_132
      · have h := it_f h c1
        refine lv_iload_n hx hb dX11_goOn_11 rfl (lv_at hl 2 rfl) ?_
        refine lv_if_ne (tgt := 132) hx hb dX11_goOn_12 (by decide) (fun c2 => ?_) (fun c2 => ?_)
        · have h := it_f h c2
          rw [hQ]
          exact rV (F := MW ca ad) C w h dX11_goOn_132
        · have h := it_t h c2
          refine lv_aload_n hx hb dX11_goOn_15 rfl (lv_at hl 0 rfl) ?_
          refine gM0_0 C w wl_94 dX11_goOn_16 ?_
          refine lv_bipush (v := 13) hx hb dX11_goOn_19 (by decide) ?_
          refine lv_aload_n hx hb dX11_goOn_21 rfl (lv_at hl 0 rfl) ?_
          refine gM0_6 C w wl_99 dX11_goOn_22 ?_
          refine lv_aload_n hx hb dX11_goOn_25 rfl (lv_at hl 0 rfl) ?_
          refine gM0_7 (v := (σ.1 7)) C w rfl wl_582 dX11_goOn_26 ?_
          refine lv_iconst (v := 1) hx hb dX11_goOn_29 (by decide) ?_
          refine lv_isub hx hb dX11_goOn_30 ?_
          obtain ⟨i3, h⟩ := ck_t h
          refine ldM5 (v := (σ.2.2 5 (((σ.1 7) - (1 : Int32))).toNatClampNeg)) C w i3 rfl dX11_goOn_31 ?_
          refine lv_iadd hx hb dX11_goOn_32 ?_
          obtain ⟨i4, h⟩ := ck_t h
          refine ldM1 (v := (σ.2.2 1 (((13 : Int32) + (σ.2.2 5 (((σ.1 7) - (1 : Int32))).toNatClampNeg))).toNatClampNeg)) C w i4 rfl dX11_goOn_33 ?_
          refine lv_aload_n hx hb dX11_goOn_34 rfl (lv_at hl 0 rfl) ?_
          refine gM0_10 (v := (σ.1 10)) C w rfl wl_633 dX11_goOn_35 ?_
          refine lv_iand hx hb dX11_goOn_38 ?_
          refine lv_aload_n hx hb dX11_goOn_39 rfl (lv_at hl 0 rfl) ?_
          obtain ⟨q1, hq1, h⟩ := ob_t h
          refine res_i C w (run_V (As := []) (rest := [.int ((σ.2.2 1 (((13 : Int32) + (σ.2.2 5 (((σ.1 7) - (1 : Int32))).toNatClampNeg))).toNatClampNeg) &&& (σ.1 10))]) C w hl.1 (recvM0 C w) (c_X11_used l D ca ad _  _ q1 hq1) rfl rfl wl_646 wl_647 wl_648 wl_5 wl_649 hd_X11_used rfl ⟨Nat.le_of_ble_eq_true rfl, Nat.le_of_ble_eq_true rfl⟩ rfl (Nat.le_of_ble_eq_true rfl) dX11_goOn_40) (fun H locs w => ?_)
          refine lv_iconst (v := -1) hx hb dX11_goOn_43 (by decide) ?_
          refine lv_ixor hx hb dX11_goOn_44 ?_
          refine lv_iand hx hb dX11_goOn_45 ?_
          refine lv_istore_n (lv' := [(3, .int (((σ.2.2 1 (((13 : Int32) + (σ.2.2 5 (((σ.1 7) - (1 : Int32))).toNatClampNeg))).toNatClampNeg) &&& (σ.1 10)) &&& (q1.1 ^^^ (-1 : Int32)))), (0, .ref (ad 0)), (1, .int x1), (2, .int x2)]) hx hb dX11_goOn_46 rfl hl (by decide) rfl (fun ls hl => ?_)
          refine lv_iload_n hx hb dX11_goOn_47 rfl (lv_at hl 2 rfl) ?_
          refine lv_istore (lv' := [(4, .int x1), (3, .int (((σ.2.2 1 (((13 : Int32) + (σ.2.2 5 (((σ.1 7) - (1 : Int32))).toNatClampNeg))).toNatClampNeg) &&& (σ.1 10)) &&& (q1.1 ^^^ (-1 : Int32)))), (0, .ref (ad 0)), (1, .int x1), (2, .int x2)]) hx hb dX11_goOn_48 hl (by decide) rfl (fun ls hl => ?_)
          exact L50 FU _ _ _ _ _ h _ _ _ w (lv_sub hl [2, 3, 4, 1, 0] rfl)
  have h := hf
  unfold f_X11_goOn at h
  refine lv_iconst (v := 0) hx hb dX11_goOn_0 (by decide) ?_
  refine lv_istore_n (lv' := [(1, .int (0 : Int32)), (0, .ref (ad 0))]) hx hb dX11_goOn_1 rfl hl (by decide) rfl (fun ls hl => ?_)
  refine lv_iconst (v := 0) hx hb dX11_goOn_2 (by decide) ?_
  refine lv_istore_n (lv' := [(2, .int (0 : Int32)), (1, .int (0 : Int32)), (0, .ref (ad 0))]) hx hb dX11_goOn_3 rfl hl (by decide) rfl (fun ls hl => ?_)
  exact L4 FU _ _ _ h _ _ _ w (lv_sub hl [2, 1, 0] rfl)
theorem hd_X11_ends : yX11_ends.cls = RX11 ∧ yX11_ends.cls ≠ "java/lang/invoke/MethodHandle" ∧ yX11_ends.cls ≠ "java/lang/invoke/VarHandle" ∧ (parseMethodDescriptor yX11_ends.desc).map (fun d => d.parameters.length) = some 1 := by decide +kernel
def f_X11_ends (σ : St) (x1 : Int32) : Option (Int32 × St) := cond (ckI ((σ.1 7) - (1 : Int32)) 7) (if (σ.2.2 5 (((σ.1 7) - (1 : Int32))).toNatClampNeg) = x1 then (some ((1 : Int32), σ)) else (some ((0 : Int32), σ))) none
abbrev rm_X11_ends : Room := { frames := 0, cells := 0, slots := 0, locals := 0 }
set_option maxHeartbeats 4000000 in
set_option maxRecDepth 100000 in
theorem c_X11_ends (l : Launch) (D : va_G) (ca : Nat → ClassId) (ad : Nat → Nat) (σ : St) (x1 : Int32) (sz : Nat) (out : Int32 × St) (hf : f_X11_ends σ x1 = some out) : Met l yX11_ends (.code yX11_ends cX11_ends 2 (some .boolean) :: WL) rm_X11_ends (PreC D ca (MW ca ad σ) sz [.ref (ad 0), .int x1]) (PostI D (va_A (MW ca ad σ) sz) (MW ca ad out.2) out.1) 0 0 (va_A (MW ca ad σ) sz) := by
  refine Met.ofW (cc := cX11_ends) (maxL := 2) (ret := (some .boolean)) (by decide) rfl ?_
  intro p e s m args below meth c s₁ B hml hv
  obtain ⟨rfl, hsz, hP, hK, hD, hN⟩ := hv
  subst hsz
  have C := Cx.mk (own := RX11) B hml rfl hK hN (ws := (MW ca ad σ))
  have w : Wd (va_A (MW ca ad σ) s.heap.size) s D (MW ca ad σ) s.heap [] := ⟨hP, hD.self, va_S.rf⟩
  have hl := lv_entry ([.ref (ad 0), .int x1]) (n := 2) (Nat.le_of_ble_eq_true rfl)
  rw [lg_entry_eq]
  generalize (lg_sl ([.ref (ad 0), .int x1]) ++ List.replicate (2 - (lg_sl ([.ref (ad 0), .int x1])).length) Slot.unset).toArray = ls at hl ⊢
  have hl : lv_has ls 2 [(0, .ref (ad 0)), (1, .int x1)] := hl
  change W p l e rm_X11_ends s m _ below meth c _ [] 0 0 _ _
  clear B hP hD hK hN hml
  generalize va_A (MW ca ad σ) s.heap.size = A at C w ⊢
  generalize ([.ref (ad 0), .int x1] : List Value).toArray = av at C ⊢
  obtain ⟨Q, hQ⟩ : ∃ Q, Q = MQ below (PostI D A (MW ca ad out.2) out.1) av s 0 0 A := ⟨_, rfl⟩
  rw [← hQ]
  have hx := C.1
  have hb := C.2.1
  have h := hf
  unfold f_X11_ends at h
  refine lv_aload_n hx hb dX11_ends_0 rfl (lv_at hl 0 rfl) ?_
  refine gM0_6 C w wl_99 dX11_ends_1 ?_
  refine lv_aload_n hx hb dX11_ends_4 rfl (lv_at hl 0 rfl) ?_
  refine gM0_7 (v := (σ.1 7)) C w rfl wl_582 dX11_ends_5 ?_
  refine lv_iconst (v := 1) hx hb dX11_ends_8 (by decide) ?_
  refine lv_isub hx hb dX11_ends_9 ?_
  obtain ⟨i1, h⟩ := ck_t h
  refine ldM5 (v := (σ.2.2 5 (((σ.1 7) - (1 : Int32))).toNatClampNeg)) C w i1 rfl dX11_ends_10 ?_
  refine lv_iload_n hx hb dX11_ends_11 rfl (lv_at hl 1 rfl) ?_
  refine lv_icmp_ne (tgt := 19) hx hb dX11_ends_12 (by decide) (fun c2 => ?_) (fun c2 => ?_)
  · have h := it_f h c2
    refine lv_iconst (v := 0) hx hb dX11_ends_19 (by decide) ?_
    rw [hQ]
    exact rZ (F := MW ca ad) C w (by decide) h dX11_ends_20
  · have h := it_t h c2
    refine lv_iconst (v := 1) hx hb dX11_ends_15 (by decide) ?_
    refine lv_goto (tgt := 20) hx hb dX11_ends_16 (by decide) ?_
    rw [hQ]
    exact rZ (F := MW ca ad) C w (by decide) h dX11_ends_20
theorem hd_X11_laySoonest : yX11_laySoonest.cls = RX11 ∧ yX11_laySoonest.cls ≠ "java/lang/invoke/MethodHandle" ∧ yX11_laySoonest.cls ≠ "java/lang/invoke/VarHandle" ∧ (parseMethodDescriptor yX11_laySoonest.desc).map (fun d => d.parameters.length) = some 4 := by decide +kernel
def f_X11_laySoonest_b108 (K26 : St → Int32 → Int32 → Int32 → Option (St)) (σ : St) (x2 : Int32) (x3 : Int32) (x4 : Int32) : Option (St) := (f_X11_goOn σ).bind fun q1 => K26 q1 x2 x3 x4
def f_X11_laySoonest_b84 (K26 : St → Int32 → Int32 → Int32 → Option (St)) (σ : St) (x2 : Int32) (x3 : Int32) (x4 : Int32) : Option (St) := (f_X11_numberOfRow σ).bind fun q1 => f_X11_laySoonest_b108 K26 (sI (sI (sI q1.2 11 q1.1) 12 (q1.2.1 9)) 13 (q1.2.1 8)) x2 x3 x4
def f_X11_laySoonest_b71 (K26 : St → Int32 → Int32 → Int32 → Option (St)) (σ : St) (x2 : Int32) (x3 : Int32) (x4 : Int32) : Option (St) := if x4 = 0 then (f_X11_laySoonest_b84 K26 σ x2 x3 x4) else (if (σ.1 8) = x3 then (f_X11_laySoonest_b84 K26 σ x2 x3 x4) else (f_X11_laySoonest_b108 K26 σ x2 x3 x4))
def f_X11_laySoonest_b26 (K26 : St → Int32 → Int32 → Int32 → Option (St)) (σ : St) (x2 : Int32) (x3 : Int32) (x4 : Int32) : Option (St) := if (σ.1 7) ≤ 0 then (some σ) else ((f_X11_ends σ x2).bind fun q1 => if q1.1 = 0 then (f_X11_laySoonest_b108 K26 q1.2 x2 x3 x4) else ((f_X11_readBy q1.2 x3 (q1.2.2.2 1 2)).bind fun q2 => if (q2.1 12) = (-1 : Int32) then (f_X11_laySoonest_b71 K26 q2 x2 x3 x4) else (if (q2.1 12) ≤ (q2.1 9) then (f_X11_laySoonest_b108 K26 q2 x2 x3 x4) else (f_X11_laySoonest_b71 K26 q2 x2 x3 x4))))
def f_X11_laySoonest_L26 : Nat → St → Int32 → Int32 → Int32 → Option (St)
  | 0 => fun _ _ _ _ => none
  | n + 1 => f_X11_laySoonest_b26 (f_X11_laySoonest_L26 n)
def f_X11_laySoonest (σ : St) (x1 : Int32) (x2 : Int32) (x3 : Int32) (x4 : Int32) : Option (St) := (f_X11_layFirst (sI (sI (sI σ 11 (-1 : Int32)) 12 (-1 : Int32)) 13 (-1 : Int32)) x1 (σ.2.2 1 1)).bind fun q1 => f_X11_laySoonest_L26 FU q1 x2 x3 x4
abbrev rm_X11_laySoonest : Room := { frames := 4, cells := 0, slots := 0, locals := 240 }
set_option maxHeartbeats 4000000 in
set_option maxRecDepth 100000 in
theorem c_X11_laySoonest (l : Launch) (D : va_G) (ca : Nat → ClassId) (ad : Nat → Nat) (σ : St) (x1 : Int32) (x2 : Int32) (x3 : Int32) (x4 : Int32) (sz : Nat) (out : St) (hf : f_X11_laySoonest σ x1 x2 x3 x4 = some out) : Met l yX11_laySoonest (.code yX11_laySoonest cX11_laySoonest 5 none :: WL) rm_X11_laySoonest (PreC D ca (MW ca ad σ) sz [.ref (ad 0), .int x1, .int x2, .int x3, .int x4]) (PostV D (va_A (MW ca ad σ) sz) (MW ca ad out)) 0 0 (va_A (MW ca ad σ) sz) := by
  refine Met.ofW (cc := cX11_laySoonest) (maxL := 5) (ret := none) (by decide) rfl ?_
  intro p e s m args below meth c s₁ B hml hv
  obtain ⟨rfl, hsz, hP, hK, hD, hN⟩ := hv
  subst hsz
  have C := Cx.mk (own := RX11) B hml rfl hK hN (ws := (MW ca ad σ))
  have w : Wd (va_A (MW ca ad σ) s.heap.size) s D (MW ca ad σ) s.heap [] := ⟨hP, hD.self, va_S.rf⟩
  have hl := lv_entry ([.ref (ad 0), .int x1, .int x2, .int x3, .int x4]) (n := 5) (Nat.le_of_ble_eq_true rfl)
  rw [lg_entry_eq]
  generalize (lg_sl ([.ref (ad 0), .int x1, .int x2, .int x3, .int x4]) ++ List.replicate (5 - (lg_sl ([.ref (ad 0), .int x1, .int x2, .int x3, .int x4])).length) Slot.unset).toArray = ls at hl ⊢
  have hl : lv_has ls 5 [(0, .ref (ad 0)), (1, .int x1), (2, .int x2), (3, .int x3), (4, .int x4)] := hl
  change W p l e rm_X11_laySoonest s m _ below meth c _ [] 0 0 _ _
  clear B hP hD hK hN hml
  generalize va_A (MW ca ad σ) s.heap.size = A at C w ⊢
  generalize ([.ref (ad 0), .int x1, .int x2, .int x3, .int x4] : List Value).toArray = av at C ⊢
  obtain ⟨Q, hQ⟩ : ∃ Q, Q = MQ below (PostV D A (MW ca ad out)) av s 0 0 A := ⟨_, rfl⟩
  rw [← hQ]
  have hx := C.1
  have hb := C.2.1
  have L26 : ∀ (n26 : Nat) (σ : St) (x2 : Int32) (x3 : Int32) (x4 : Int32), f_X11_laySoonest_L26 n26 σ x2 x3 x4 = some out → Bk p l e rm_X11_laySoonest s m av below meth c A D 5 Q (MW ca ad σ) 26 [(0, .ref (ad 0)), (2, .int x2), (3, .int x3), (4, .int x4)] [] := by
    intro n26
    induction n26 with
    | zero => intro σ x2 x3 x4 h; exact absurd h (by simp [f_X11_laySoonest_L26])
    | succ n26 ih26 =>
      have b108 : ∀ (σ : St) (x2 : Int32) (x3 : Int32) (x4 : Int32), f_X11_laySoonest_b108 (f_X11_laySoonest_L26 n26) σ x2 x3 x4 = some out → Bk p l e rm_X11_laySoonest s m av below meth c A D 5 Q (MW ca ad σ) 108 [(0, .ref (ad 0)), (2, .int x2), (3, .int x3), (4, .int x4)] [] := by
        intro σ x2 x3 x4 h H locs ls w hl
        unfold f_X11_laySoonest_b108 at h
        refine lv_aload_n hx hb dX11_laySoonest_108 rfl (lv_at hl 0 rfl) ?_
        obtain ⟨q1, hq1, h⟩ := ob_t h
        refine res_v C w (run_V (As := []) (rest := []) C w hl.1 (recvM0 C w) (c_X11_goOn l D ca ad _  _ q1 hq1) rfl rfl wl_642 wl_643 wl_644 wl_5 wl_645 hd_X11_goOn rfl ⟨Nat.le_of_ble_eq_true rfl, Nat.le_of_ble_eq_true rfl⟩ rfl (Nat.le_of_ble_eq_true rfl) dX11_laySoonest_109) (fun H locs w => ?_)
        refine lv_goto (tgt := 26) hx hb dX11_laySoonest_112 (by decide) ?_
        exact ih26 _ _ _ _ h _ _ _ w (lv_sub hl [0, 1, 2, 3] rfl)
      have b84 : ∀ (σ : St) (x2 : Int32) (x3 : Int32) (x4 : Int32), f_X11_laySoonest_b84 (f_X11_laySoonest_L26 n26) σ x2 x3 x4 = some out → Bk p l e rm_X11_laySoonest s m av below meth c A D 5 Q (MW ca ad σ) 84 [(0, .ref (ad 0)), (2, .int x2), (3, .int x3), (4, .int x4)] [] := by
        intro σ x2 x3 x4 h H locs ls w hl
        unfold f_X11_laySoonest_b84 at h
        refine lv_aload_n hx hb dX11_laySoonest_84 rfl (lv_at hl 0 rfl) ?_
        refine lv_aload_n hx hb dX11_laySoonest_85 rfl (lv_at hl 0 rfl) ?_
        obtain ⟨q1, hq1, h⟩ := ob_t h
        refine res_i C w (run_V (As := []) (rest := [.ref (ad 0)]) C w hl.1 (recvM0 C w) (c_X11_numberOfRow l D ca ad _  _ q1 hq1) rfl rfl wl_638 wl_639 wl_640 wl_5 wl_641 hd_X11_numberOfRow rfl ⟨Nat.le_of_ble_eq_true rfl, Nat.le_of_ble_eq_true rfl⟩ rfl (Nat.le_of_ble_eq_true rfl) dX11_laySoonest_86) (fun H locs w => ?_)
        refine pM0_11 C w wl_622 dX11_laySoonest_89 (fun H locs w => ?_)
        refine lv_aload_n hx hb dX11_laySoonest_92 rfl (lv_at hl 0 rfl) ?_
        refine lv_aload_n hx hb dX11_laySoonest_93 rfl (lv_at hl 0 rfl) ?_
        refine gM0_9 (v := (q1.2.1 9)) C w rfl wl_577 dX11_laySoonest_94 ?_
        refine pM0_12 C w wl_623 dX11_laySoonest_97 (fun H locs w => ?_)
        refine lv_aload_n hx hb dX11_laySoonest_100 rfl (lv_at hl 0 rfl) ?_
        refine lv_aload_n hx hb dX11_laySoonest_101 rfl (lv_at hl 0 rfl) ?_
        refine gM0_8 (v := (q1.2.1 8)) C w rfl wl_576 dX11_laySoonest_102 ?_
        refine pM0_13 C w wl_624 dX11_laySoonest_105 (fun H locs w => ?_)
        exact b108 _ _ _ _ h _ _ _ w (lv_sub hl [0, 1, 2, 3] rfl)
      have b71 : ∀ (σ : St) (x2 : Int32) (x3 : Int32) (x4 : Int32), f_X11_laySoonest_b71 (f_X11_laySoonest_L26 n26) σ x2 x3 x4 = some out → Bk p l e rm_X11_laySoonest s m av below meth c A D 5 Q (MW ca ad σ) 71 [(0, .ref (ad 0)), (2, .int x2), (3, .int x3), (4, .int x4)] [] := by
        intro σ x2 x3 x4 h H locs ls w hl
        unfold f_X11_laySoonest_b71 at h
        refine lv_iload hx hb dX11_laySoonest_71 (lv_at hl 3 rfl) ?_
        refine lv_if_eq (tgt := 84) hx hb dX11_laySoonest_73 (by decide) (fun c1 => ?_) (fun c1 => ?_)
        · have h := it_t h c1
          exact b84 _ _ _ _ h _ _ _ w (lv_sub hl [0, 1, 2, 3] rfl)
        · have h := it_f h c1
          refine lv_aload_n hx hb dX11_laySoonest_76 rfl (lv_at hl 0 rfl) ?_
          refine gM0_8 (v := (σ.1 8)) C w rfl wl_576 dX11_laySoonest_77 ?_
          refine lv_iload_n hx hb dX11_laySoonest_80 rfl (lv_at hl 2 rfl) ?_
          refine lv_icmp_ne (tgt := 108) hx hb dX11_laySoonest_81 (by decide) (fun c2 => ?_) (fun c2 => ?_)
          · have h := it_f h c2
            exact b108 _ _ _ _ h _ _ _ w (lv_sub hl [0, 1, 2, 3] rfl)
          · have h := it_t h c2
            exact b84 _ _ _ _ h _ _ _ w (lv_sub hl [0, 1, 2, 3] rfl)
      intro σ x2 x3 x4 h H locs ls w hl
      change f_X11_laySoonest_b26 (f_X11_laySoonest_L26 n26) σ x2 x3 x4 = some out at h
      unfold f_X11_laySoonest_b26 at h
      refine lv_aload_n hx hb dX11_laySoonest_26 rfl (lv_at hl 0 rfl) ?_
      refine gM0_7 (v := (σ.1 7)) C w rfl wl_582 dX11_laySoonest_27 ?_
      refine lv_if_le (tgt := 115) hx hb dX11_laySoonest_30 (by decide) (fun c1 => ?_) (fun c1 => ?_)
      · have h := it_t h c1
        rw [hQ]
        exact rV (F := MW ca ad) C w h dX11_laySoonest_115
      · have h := it_f h c1
        refine lv_aload_n hx hb dX11_laySoonest_33 rfl (lv_at hl 0 rfl) ?_
        refine lv_iload_n hx hb dX11_laySoonest_34 rfl (lv_at hl 1 rfl) ?_
        obtain ⟨q1, hq1, h⟩ := ob_t h
        refine res_i C w (run_V (As := [.int x2]) (rest := []) C w hl.1 (recvM0 C w) (c_X11_ends l D ca ad _ x2 _ q1 hq1) rfl rfl wl_634 wl_635 wl_636 wl_5 wl_637 hd_X11_ends rfl ⟨Nat.le_of_ble_eq_true rfl, Nat.le_of_ble_eq_true rfl⟩ rfl (Nat.le_of_ble_eq_true rfl) dX11_laySoonest_35) (fun H locs w => ?_)
        refine lv_if_eq (tgt := 108) hx hb dX11_laySoonest_38 (by decide) (fun c2 => ?_) (fun c2 => ?_)
        · have h := it_t h c2
          exact b108 _ _ _ _ h _ _ _ w (lv_sub hl [0, 1, 2, 3] rfl)
        · have h := it_f h c2
          refine lv_aload_n hx hb dX11_laySoonest_41 rfl (lv_at hl 0 rfl) ?_
          refine lv_iload_n hx hb dX11_laySoonest_42 rfl (lv_at hl 2 rfl) ?_
          refine lv_aload_n hx hb dX11_laySoonest_43 rfl (lv_at hl 0 rfl) ?_
          refine gM0_0 C w wl_94 dX11_laySoonest_44 ?_
          refine lv_iconst (v := 2) hx hb dX11_laySoonest_47 (by decide) ?_
          refine ldM1 (v := (q1.2.2.2 1 2)) C w (vl (by decide)) rfl dX11_laySoonest_48 ?_
          obtain ⟨q2, hq2, h⟩ := ob_t h
          refine res_v C w (run_V (As := [.int x3, .int (q1.2.2.2 1 2)]) (rest := []) C w hl.1 (recvM0 C w) (c_X11_readBy l D ca ad _ x3 (q1.2.2.2 1 2) _ q2 hq2) rfl rfl wl_586 wl_587 wl_588 wl_5 wl_589 hd_X11_readBy rfl ⟨Nat.le_of_ble_eq_true rfl, Nat.le_of_ble_eq_true rfl⟩ rfl (Nat.le_of_ble_eq_true rfl) dX11_laySoonest_49) (fun H locs w => ?_)
          refine lv_aload_n hx hb dX11_laySoonest_52 rfl (lv_at hl 0 rfl) ?_
          refine gM0_12 (v := (q2.1 12)) C w rfl wl_623 dX11_laySoonest_53 ?_
          refine lv_iconst (v := -1) hx hb dX11_laySoonest_56 (by decide) ?_
          refine lv_icmp_eq (tgt := 71) hx hb dX11_laySoonest_57 (by decide) (fun c3 => ?_) (fun c3 => ?_)
          · have h := it_t h c3
            exact b71 _ _ _ _ h _ _ _ w (lv_sub hl [0, 1, 2, 3] rfl)
          · have h := it_f h c3
            refine lv_aload_n hx hb dX11_laySoonest_60 rfl (lv_at hl 0 rfl) ?_
            refine gM0_9 (v := (q2.1 9)) C w rfl wl_577 dX11_laySoonest_61 ?_
            refine lv_aload_n hx hb dX11_laySoonest_64 rfl (lv_at hl 0 rfl) ?_
            refine gM0_12 (v := (q2.1 12)) C w rfl wl_623 dX11_laySoonest_65 ?_
            refine lv_icmp_ge (tgt := 108) hx hb dX11_laySoonest_68 (by decide) (fun c4 => ?_) (fun c4 => ?_)
            · have h := it_t h c4
              exact b108 _ _ _ _ h _ _ _ w (lv_sub hl [0, 1, 2, 3] rfl)
            · have h := it_f h c4
              exact b71 _ _ _ _ h _ _ _ w (lv_sub hl [0, 1, 2, 3] rfl)
  have h := hf
  unfold f_X11_laySoonest at h
  refine lv_aload_n hx hb dX11_laySoonest_0 rfl (lv_at hl 0 rfl) ?_
  refine lv_iconst (v := -1) hx hb dX11_laySoonest_1 (by decide) ?_
  refine pM0_11 C w wl_622 dX11_laySoonest_2 (fun H locs w => ?_)
  refine lv_aload_n hx hb dX11_laySoonest_5 rfl (lv_at hl 0 rfl) ?_
  refine lv_iconst (v := -1) hx hb dX11_laySoonest_6 (by decide) ?_
  refine pM0_12 C w wl_623 dX11_laySoonest_7 (fun H locs w => ?_)
  refine lv_aload_n hx hb dX11_laySoonest_10 rfl (lv_at hl 0 rfl) ?_
  refine lv_iconst (v := -1) hx hb dX11_laySoonest_11 (by decide) ?_
  refine pM0_13 C w wl_624 dX11_laySoonest_12 (fun H locs w => ?_)
  refine lv_aload_n hx hb dX11_laySoonest_15 rfl (lv_at hl 0 rfl) ?_
  refine lv_iload_n hx hb dX11_laySoonest_16 rfl (lv_at hl 1 rfl) ?_
  refine lv_aload_n hx hb dX11_laySoonest_17 rfl (lv_at hl 0 rfl) ?_
  refine gM0_0 C w wl_94 dX11_laySoonest_18 ?_
  refine lv_iconst (v := 1) hx hb dX11_laySoonest_21 (by decide) ?_
  refine ldM1 (v := (σ.2.2 1 1)) C w (vl (by decide)) rfl dX11_laySoonest_22 ?_
  obtain ⟨q1, hq1, h⟩ := ob_t h
  refine res_v C w (run_V (As := [.int x1, .int (σ.2.2 1 1)]) (rest := []) C w hl.1 (recvM0 C w) (c_X11_layFirst l D ca ad _ x1 (σ.2.2 1 1) _ q1 hq1) rfl rfl wl_629 wl_630 wl_631 wl_5 wl_632 hd_X11_layFirst rfl ⟨Nat.le_of_ble_eq_true rfl, Nat.le_of_ble_eq_true rfl⟩ rfl (Nat.le_of_ble_eq_true rfl) dX11_laySoonest_23) (fun H locs w => ?_)
  exact L26 FU _ _ _ _ h _ _ _ w (lv_sub hl [0, 2, 3, 4] rfl)
theorem hd_X11_soonest : yX11_soonest.cls = RX11 ∧ yX11_soonest.cls ≠ "java/lang/invoke/MethodHandle" ∧ yX11_soonest.cls ≠ "java/lang/invoke/VarHandle" ∧ (parseMethodDescriptor yX11_soonest.desc).map (fun d => d.parameters.length) = some 4 := by decide +kernel
def f_X11_soonest_b36 (σ : St) : Option (Int32 × St) := (f_X11_bad σ (-2 : Int32)).bind fun q1 => some (q1.1, q1.2)
def f_X11_soonest (σ : St) (x1 : Int32) (x2 : Int32) (x3 : Int32) (x4 : Int32) : Option (Int32 × St) := (f_X11_isTree σ x1).bind fun q1 => if q1.1 = 0 then (f_X11_soonest_b36 q1.2) else ((f_X11_isTree q1.2 x2).bind fun q2 => if q2.1 = 0 then (f_X11_soonest_b36 q2.2) else ((f_X11_isLetter x3).bind fun q3 => if q3 = 0 then (f_X11_soonest_b36 q2.2) else ((f_X11_in x4.toInt64 (0 : Int64) (2 : Int64)).bind fun q4 => if q4 = 0 then (f_X11_soonest_b36 q2.2) else ((f_X11_laySoonest q2.2 x1 x2 x3 (0 : Int32)).bind fun q5 => if x4 = 0 then (some ((q5.1 11), q5)) else (if x4 = (1 : Int32) then (some ((q5.1 12), q5)) else (some ((q5.1 13), q5)))))))
abbrev rm_X11_soonest : Room := { frames := 5, cells := 0, slots := 0, locals := 300 }
set_option maxHeartbeats 4000000 in
set_option maxRecDepth 100000 in
theorem c_X11_soonest (l : Launch) (D : va_G) (ca : Nat → ClassId) (ad : Nat → Nat) (σ : St) (x1 : Int32) (x2 : Int32) (x3 : Int32) (x4 : Int32) (sz : Nat) (out : Int32 × St) (hf : f_X11_soonest σ x1 x2 x3 x4 = some out) : Met l yX11_soonest (.code yX11_soonest cX11_soonest 5 (some .int) :: WL) rm_X11_soonest (PreC D ca (MW ca ad σ) sz [.ref (ad 0), .int x1, .int x2, .int x3, .int x4]) (PostI D (va_A (MW ca ad σ) sz) (MW ca ad out.2) out.1) 0 0 (va_A (MW ca ad σ) sz) := by
  refine Met.ofW (cc := cX11_soonest) (maxL := 5) (ret := (some .int)) (by decide) rfl ?_
  intro p e s m args below meth c s₁ B hml hv
  obtain ⟨rfl, hsz, hP, hK, hD, hN⟩ := hv
  subst hsz
  have C := Cx.mk (own := RX11) B hml rfl hK hN (ws := (MW ca ad σ))
  have w : Wd (va_A (MW ca ad σ) s.heap.size) s D (MW ca ad σ) s.heap [] := ⟨hP, hD.self, va_S.rf⟩
  have hl := lv_entry ([.ref (ad 0), .int x1, .int x2, .int x3, .int x4]) (n := 5) (Nat.le_of_ble_eq_true rfl)
  rw [lg_entry_eq]
  generalize (lg_sl ([.ref (ad 0), .int x1, .int x2, .int x3, .int x4]) ++ List.replicate (5 - (lg_sl ([.ref (ad 0), .int x1, .int x2, .int x3, .int x4])).length) Slot.unset).toArray = ls at hl ⊢
  have hl : lv_has ls 5 [(0, .ref (ad 0)), (1, .int x1), (2, .int x2), (3, .int x3), (4, .int x4)] := hl
  change W p l e rm_X11_soonest s m _ below meth c _ [] 0 0 _ _
  clear B hP hD hK hN hml
  generalize va_A (MW ca ad σ) s.heap.size = A at C w ⊢
  generalize ([.ref (ad 0), .int x1, .int x2, .int x3, .int x4] : List Value).toArray = av at C ⊢
  obtain ⟨Q, hQ⟩ : ∃ Q, Q = MQ below (PostI D A (MW ca ad out.2) out.1) av s 0 0 A := ⟨_, rfl⟩
  rw [← hQ]
  have hx := C.1
  have hb := C.2.1
  have b36 : ∀ (σ : St), f_X11_soonest_b36 σ = some out → Bk p l e rm_X11_soonest s m av below meth c A D 5 Q (MW ca ad σ) 36 [(0, .ref (ad 0))] [] := by
    intro σ h H locs ls w hl
    unfold f_X11_soonest_b36 at h
    refine lv_aload_n hx hb dX11_soonest_36 rfl (lv_at hl 0 rfl) ?_
    refine lv_bipush (v := -2) hx hb dX11_soonest_37 (by decide) ?_
    obtain ⟨q1, hq1, h⟩ := ob_t h
    refine res_i C w (run_V (As := [.int (-2 : Int32)]) (rest := []) C w hl.1 (recvM0 C w) (c_X11_bad l D ca ad _ (-2 : Int32) _ q1 hq1) rfl rfl wl_140 wl_141 wl_142 wl_5 wl_143 hd_X11_bad rfl ⟨Nat.le_of_ble_eq_true rfl, Nat.le_of_ble_eq_true rfl⟩ rfl (Nat.le_of_ble_eq_true rfl) dX11_soonest_39) (fun H locs w => ?_)
    rw [hQ]
    exact rI (F := MW ca ad) C w h dX11_soonest_42
  have h := hf
  unfold f_X11_soonest at h
  refine lv_aload_n hx hb dX11_soonest_0 rfl (lv_at hl 0 rfl) ?_
  refine lv_iload_n hx hb dX11_soonest_1 rfl (lv_at hl 1 rfl) ?_
  obtain ⟨q1, hq1, h⟩ := ob_t h
  refine res_i C w (run_V (As := [.int x1]) (rest := []) C w hl.1 (recvM0 C w) (c_X11_isTree l D ca ad _ x1 _ q1 hq1) rfl rfl wl_188 wl_189 wl_190 wl_5 wl_191 hd_X11_isTree rfl ⟨Nat.le_of_ble_eq_true rfl, Nat.le_of_ble_eq_true rfl⟩ rfl (Nat.le_of_ble_eq_true rfl) dX11_soonest_2) (fun H locs w => ?_)
  refine lv_if_eq (tgt := 36) hx hb dX11_soonest_5 (by decide) (fun c1 => ?_) (fun c1 => ?_)
  · have h := it_t h c1
    exact b36 _ h _ _ _ w (lv_sub hl [0] rfl)
  · have h := it_f h c1
    refine lv_aload_n hx hb dX11_soonest_8 rfl (lv_at hl 0 rfl) ?_
    refine lv_iload_n hx hb dX11_soonest_9 rfl (lv_at hl 2 rfl) ?_
    obtain ⟨q2, hq2, h⟩ := ob_t h
    refine res_i C w (run_V (As := [.int x2]) (rest := []) C w hl.1 (recvM0 C w) (c_X11_isTree l D ca ad _ x2 _ q2 hq2) rfl rfl wl_188 wl_189 wl_190 wl_5 wl_191 hd_X11_isTree rfl ⟨Nat.le_of_ble_eq_true rfl, Nat.le_of_ble_eq_true rfl⟩ rfl (Nat.le_of_ble_eq_true rfl) dX11_soonest_10) (fun H locs w => ?_)
    refine lv_if_eq (tgt := 36) hx hb dX11_soonest_13 (by decide) (fun c2 => ?_) (fun c2 => ?_)
    · have h := it_t h c2
      exact b36 _ h _ _ _ w (lv_sub hl [0] rfl)
    · have h := it_f h c2
      refine lv_iload_n hx hb dX11_soonest_16 rfl (lv_at hl 3 rfl) ?_
      obtain ⟨q3, hq3, h⟩ := ob_t h
      refine res_i C w (run_S (As := [.int x3]) (rest := []) C w hl.1 (c_X11_isLetter l D ca _ x3 _ q3 hq3) rfl rfl wl_524 wl_525 wl_5 wl_526 hd_X11_isLetter rfl ⟨Nat.le_of_ble_eq_true rfl, Nat.le_of_ble_eq_true rfl⟩ rfl (Nat.le_of_ble_eq_true rfl) dX11_soonest_17) (fun H locs w => ?_)
      refine lv_if_eq (tgt := 36) hx hb dX11_soonest_20 (by decide) (fun c3 => ?_) (fun c3 => ?_)
      · have h := it_t h c3
        exact b36 _ h _ _ _ w (lv_sub hl [0] rfl)
      · have h := it_f h c3
        refine lv_iload hx hb dX11_soonest_23 (lv_at hl 4 rfl) ?_
        refine lv_i2l hx hb dX11_soonest_25 rfl ?_
        refine lv_lconst (v := 0) hx hb dX11_soonest_26 (by decide) ?_
        refine lv_ldc2 (v := 2) hx hb C.ow (C.ts _ wl_454) dX11_soonest_27 ?_
        obtain ⟨q4, hq4, h⟩ := ob_t h
        refine res_i C w (run_S (As := [.long x4.toInt64, .long (0 : Int64), .long (2 : Int64)]) (rest := []) C w hl.1 (c_X11_in l D ca _ x4.toInt64 (0 : Int64) (2 : Int64) _ q4 hq4) rfl rfl wl_137 wl_138 wl_5 wl_139 hd_X11_in rfl ⟨Nat.le_of_ble_eq_true rfl, Nat.le_of_ble_eq_true rfl⟩ rfl (Nat.le_of_ble_eq_true rfl) dX11_soonest_30) (fun H locs w => ?_)
        refine lv_if_ne (tgt := 43) hx hb dX11_soonest_33 (by decide) (fun c4 => ?_) (fun c4 => ?_)
        · have h := it_f h c4
          refine lv_aload_n hx hb dX11_soonest_43 rfl (lv_at hl 0 rfl) ?_
          refine lv_iload_n hx hb dX11_soonest_44 rfl (lv_at hl 1 rfl) ?_
          refine lv_iload_n hx hb dX11_soonest_45 rfl (lv_at hl 2 rfl) ?_
          refine lv_iload_n hx hb dX11_soonest_46 rfl (lv_at hl 3 rfl) ?_
          refine lv_iconst (v := 0) hx hb dX11_soonest_47 (by decide) ?_
          obtain ⟨q5, hq5, h⟩ := ob_t h
          refine res_v C w (run_V (As := [.int x1, .int x2, .int x3, .int (0 : Int32)]) (rest := []) C w hl.1 (recvM0 C w) (c_X11_laySoonest l D ca ad _ x1 x2 x3 (0 : Int32) _ q5 hq5) rfl rfl wl_625 wl_626 wl_627 wl_5 wl_628 hd_X11_laySoonest rfl ⟨Nat.le_of_ble_eq_true rfl, Nat.le_of_ble_eq_true rfl⟩ rfl (Nat.le_of_ble_eq_true rfl) dX11_soonest_48) (fun H locs w => ?_)
          refine lv_iload hx hb dX11_soonest_51 (lv_at hl 4 rfl) ?_
          refine lv_if_ne (tgt := 63) hx hb dX11_soonest_53 (by decide) (fun c5 => ?_) (fun c5 => ?_)
          · have h := it_f h c5
            refine lv_iload hx hb dX11_soonest_63 (lv_at hl 4 rfl) ?_
            refine lv_iconst (v := 1) hx hb dX11_soonest_65 (by decide) ?_
            refine lv_icmp_ne (tgt := 76) hx hb dX11_soonest_66 (by decide) (fun c6 => ?_) (fun c6 => ?_)
            · have h := it_f h c6
              refine lv_aload_n hx hb dX11_soonest_76 rfl (lv_at hl 0 rfl) ?_
              refine gM0_13 (v := (q5.1 13)) C w rfl wl_624 dX11_soonest_77 ?_
              rw [hQ]
              exact rI (F := MW ca ad) C w h dX11_soonest_80
            · have h := it_t h c6
              refine lv_aload_n hx hb dX11_soonest_69 rfl (lv_at hl 0 rfl) ?_
              refine gM0_12 (v := (q5.1 12)) C w rfl wl_623 dX11_soonest_70 ?_
              refine lv_goto (tgt := 80) hx hb dX11_soonest_73 (by decide) ?_
              rw [hQ]
              exact rI (F := MW ca ad) C w h dX11_soonest_80
          · have h := it_t h c5
            refine lv_aload_n hx hb dX11_soonest_56 rfl (lv_at hl 0 rfl) ?_
            refine gM0_11 (v := (q5.1 11)) C w rfl wl_622 dX11_soonest_57 ?_
            refine lv_goto (tgt := 80) hx hb dX11_soonest_60 (by decide) ?_
            rw [hQ]
            exact rI (F := MW ca ad) C w h dX11_soonest_80
        · have h := it_t h c4
          exact b36 _ h _ _ _ w (lv_sub hl [0] rfl)
theorem hd_X11_whole : yX11_whole.cls = RX11 ∧ yX11_whole.cls ≠ "java/lang/invoke/MethodHandle" ∧ yX11_whole.cls ≠ "java/lang/invoke/VarHandle" ∧ (parseMethodDescriptor yX11_whole.desc).map (fun d => d.parameters.length) = some 4 := by decide +kernel
def f_X11_whole_b34 (σ : St) : Option (Int32 × St) := (f_X11_bad σ (-2 : Int32)).bind fun q1 => some (q1.1, q1.2)
def f_X11_whole (σ : St) (x1 : Int32) (x2 : Int32) (x3 : Int32) (x4 : Int32) : Option (Int32 × St) := (f_X11_isTree σ x1).bind fun q1 => if q1.1 = 0 then (f_X11_whole_b34 q1.2) else ((f_X11_isTree q1.2 x2).bind fun q2 => if q2.1 = 0 then (f_X11_whole_b34 q2.2) else ((f_X11_isLetter x3).bind fun q3 => if q3 = 0 then (f_X11_whole_b34 q2.2) else ((f_X11_in x4.toInt64 (0 : Int64) (1 : Int64)).bind fun q4 => if q4 = 0 then (f_X11_whole_b34 q2.2) else ((f_X11_laySoonest q2.2 x1 x2 x3 (1 : Int32)).bind fun q5 => if x4 = 0 then (some ((q5.1 11), q5)) else (some ((q5.1 12), q5))))))
abbrev rm_X11_whole : Room := { frames := 5, cells := 0, slots := 0, locals := 300 }
set_option maxHeartbeats 4000000 in
set_option maxRecDepth 100000 in
theorem c_X11_whole (l : Launch) (D : va_G) (ca : Nat → ClassId) (ad : Nat → Nat) (σ : St) (x1 : Int32) (x2 : Int32) (x3 : Int32) (x4 : Int32) (sz : Nat) (out : Int32 × St) (hf : f_X11_whole σ x1 x2 x3 x4 = some out) : Met l yX11_whole (.code yX11_whole cX11_whole 5 (some .int) :: WL) rm_X11_whole (PreC D ca (MW ca ad σ) sz [.ref (ad 0), .int x1, .int x2, .int x3, .int x4]) (PostI D (va_A (MW ca ad σ) sz) (MW ca ad out.2) out.1) 0 0 (va_A (MW ca ad σ) sz) := by
  refine Met.ofW (cc := cX11_whole) (maxL := 5) (ret := (some .int)) (by decide) rfl ?_
  intro p e s m args below meth c s₁ B hml hv
  obtain ⟨rfl, hsz, hP, hK, hD, hN⟩ := hv
  subst hsz
  have C := Cx.mk (own := RX11) B hml rfl hK hN (ws := (MW ca ad σ))
  have w : Wd (va_A (MW ca ad σ) s.heap.size) s D (MW ca ad σ) s.heap [] := ⟨hP, hD.self, va_S.rf⟩
  have hl := lv_entry ([.ref (ad 0), .int x1, .int x2, .int x3, .int x4]) (n := 5) (Nat.le_of_ble_eq_true rfl)
  rw [lg_entry_eq]
  generalize (lg_sl ([.ref (ad 0), .int x1, .int x2, .int x3, .int x4]) ++ List.replicate (5 - (lg_sl ([.ref (ad 0), .int x1, .int x2, .int x3, .int x4])).length) Slot.unset).toArray = ls at hl ⊢
  have hl : lv_has ls 5 [(0, .ref (ad 0)), (1, .int x1), (2, .int x2), (3, .int x3), (4, .int x4)] := hl
  change W p l e rm_X11_whole s m _ below meth c _ [] 0 0 _ _
  clear B hP hD hK hN hml
  generalize va_A (MW ca ad σ) s.heap.size = A at C w ⊢
  generalize ([.ref (ad 0), .int x1, .int x2, .int x3, .int x4] : List Value).toArray = av at C ⊢
  obtain ⟨Q, hQ⟩ : ∃ Q, Q = MQ below (PostI D A (MW ca ad out.2) out.1) av s 0 0 A := ⟨_, rfl⟩
  rw [← hQ]
  have hx := C.1
  have hb := C.2.1
  have b34 : ∀ (σ : St), f_X11_whole_b34 σ = some out → Bk p l e rm_X11_whole s m av below meth c A D 5 Q (MW ca ad σ) 34 [(0, .ref (ad 0))] [] := by
    intro σ h H locs ls w hl
    unfold f_X11_whole_b34 at h
    refine lv_aload_n hx hb dX11_whole_34 rfl (lv_at hl 0 rfl) ?_
    refine lv_bipush (v := -2) hx hb dX11_whole_35 (by decide) ?_
    obtain ⟨q1, hq1, h⟩ := ob_t h
    refine res_i C w (run_V (As := [.int (-2 : Int32)]) (rest := []) C w hl.1 (recvM0 C w) (c_X11_bad l D ca ad _ (-2 : Int32) _ q1 hq1) rfl rfl wl_140 wl_141 wl_142 wl_5 wl_143 hd_X11_bad rfl ⟨Nat.le_of_ble_eq_true rfl, Nat.le_of_ble_eq_true rfl⟩ rfl (Nat.le_of_ble_eq_true rfl) dX11_whole_37) (fun H locs w => ?_)
    rw [hQ]
    exact rI (F := MW ca ad) C w h dX11_whole_40
  have h := hf
  unfold f_X11_whole at h
  refine lv_aload_n hx hb dX11_whole_0 rfl (lv_at hl 0 rfl) ?_
  refine lv_iload_n hx hb dX11_whole_1 rfl (lv_at hl 1 rfl) ?_
  obtain ⟨q1, hq1, h⟩ := ob_t h
  refine res_i C w (run_V (As := [.int x1]) (rest := []) C w hl.1 (recvM0 C w) (c_X11_isTree l D ca ad _ x1 _ q1 hq1) rfl rfl wl_188 wl_189 wl_190 wl_5 wl_191 hd_X11_isTree rfl ⟨Nat.le_of_ble_eq_true rfl, Nat.le_of_ble_eq_true rfl⟩ rfl (Nat.le_of_ble_eq_true rfl) dX11_whole_2) (fun H locs w => ?_)
  refine lv_if_eq (tgt := 34) hx hb dX11_whole_5 (by decide) (fun c1 => ?_) (fun c1 => ?_)
  · have h := it_t h c1
    exact b34 _ h _ _ _ w (lv_sub hl [0] rfl)
  · have h := it_f h c1
    refine lv_aload_n hx hb dX11_whole_8 rfl (lv_at hl 0 rfl) ?_
    refine lv_iload_n hx hb dX11_whole_9 rfl (lv_at hl 2 rfl) ?_
    obtain ⟨q2, hq2, h⟩ := ob_t h
    refine res_i C w (run_V (As := [.int x2]) (rest := []) C w hl.1 (recvM0 C w) (c_X11_isTree l D ca ad _ x2 _ q2 hq2) rfl rfl wl_188 wl_189 wl_190 wl_5 wl_191 hd_X11_isTree rfl ⟨Nat.le_of_ble_eq_true rfl, Nat.le_of_ble_eq_true rfl⟩ rfl (Nat.le_of_ble_eq_true rfl) dX11_whole_10) (fun H locs w => ?_)
    refine lv_if_eq (tgt := 34) hx hb dX11_whole_13 (by decide) (fun c2 => ?_) (fun c2 => ?_)
    · have h := it_t h c2
      exact b34 _ h _ _ _ w (lv_sub hl [0] rfl)
    · have h := it_f h c2
      refine lv_iload_n hx hb dX11_whole_16 rfl (lv_at hl 3 rfl) ?_
      obtain ⟨q3, hq3, h⟩ := ob_t h
      refine res_i C w (run_S (As := [.int x3]) (rest := []) C w hl.1 (c_X11_isLetter l D ca _ x3 _ q3 hq3) rfl rfl wl_524 wl_525 wl_5 wl_526 hd_X11_isLetter rfl ⟨Nat.le_of_ble_eq_true rfl, Nat.le_of_ble_eq_true rfl⟩ rfl (Nat.le_of_ble_eq_true rfl) dX11_whole_17) (fun H locs w => ?_)
      refine lv_if_eq (tgt := 34) hx hb dX11_whole_20 (by decide) (fun c3 => ?_) (fun c3 => ?_)
      · have h := it_t h c3
        exact b34 _ h _ _ _ w (lv_sub hl [0] rfl)
      · have h := it_f h c3
        refine lv_iload hx hb dX11_whole_23 (lv_at hl 4 rfl) ?_
        refine lv_i2l hx hb dX11_whole_25 rfl ?_
        refine lv_lconst (v := 0) hx hb dX11_whole_26 (by decide) ?_
        refine lv_lconst (v := 1) hx hb dX11_whole_27 (by decide) ?_
        obtain ⟨q4, hq4, h⟩ := ob_t h
        refine res_i C w (run_S (As := [.long x4.toInt64, .long (0 : Int64), .long (1 : Int64)]) (rest := []) C w hl.1 (c_X11_in l D ca _ x4.toInt64 (0 : Int64) (1 : Int64) _ q4 hq4) rfl rfl wl_137 wl_138 wl_5 wl_139 hd_X11_in rfl ⟨Nat.le_of_ble_eq_true rfl, Nat.le_of_ble_eq_true rfl⟩ rfl (Nat.le_of_ble_eq_true rfl) dX11_whole_28) (fun H locs w => ?_)
        refine lv_if_ne (tgt := 41) hx hb dX11_whole_31 (by decide) (fun c4 => ?_) (fun c4 => ?_)
        · have h := it_f h c4
          refine lv_aload_n hx hb dX11_whole_41 rfl (lv_at hl 0 rfl) ?_
          refine lv_iload_n hx hb dX11_whole_42 rfl (lv_at hl 1 rfl) ?_
          refine lv_iload_n hx hb dX11_whole_43 rfl (lv_at hl 2 rfl) ?_
          refine lv_iload_n hx hb dX11_whole_44 rfl (lv_at hl 3 rfl) ?_
          refine lv_iconst (v := 1) hx hb dX11_whole_45 (by decide) ?_
          obtain ⟨q5, hq5, h⟩ := ob_t h
          refine res_v C w (run_V (As := [.int x1, .int x2, .int x3, .int (1 : Int32)]) (rest := []) C w hl.1 (recvM0 C w) (c_X11_laySoonest l D ca ad _ x1 x2 x3 (1 : Int32) _ q5 hq5) rfl rfl wl_625 wl_626 wl_627 wl_5 wl_628 hd_X11_laySoonest rfl ⟨Nat.le_of_ble_eq_true rfl, Nat.le_of_ble_eq_true rfl⟩ rfl (Nat.le_of_ble_eq_true rfl) dX11_whole_46) (fun H locs w => ?_)
          refine lv_iload hx hb dX11_whole_49 (lv_at hl 4 rfl) ?_
          refine lv_if_ne (tgt := 61) hx hb dX11_whole_51 (by decide) (fun c5 => ?_) (fun c5 => ?_)
          · have h := it_f h c5
            refine lv_aload_n hx hb dX11_whole_61 rfl (lv_at hl 0 rfl) ?_
            refine gM0_12 (v := (q5.1 12)) C w rfl wl_623 dX11_whole_62 ?_
            rw [hQ]
            exact rI (F := MW ca ad) C w h dX11_whole_65
          · have h := it_t h c5
            refine lv_aload_n hx hb dX11_whole_54 rfl (lv_at hl 0 rfl) ?_
            refine gM0_11 (v := (q5.1 11)) C w rfl wl_622 dX11_whole_55 ?_
            refine lv_goto (tgt := 65) hx hb dX11_whole_58 (by decide) ?_
            rw [hQ]
            exact rI (F := MW ca ad) C w h dX11_whole_65
        · have h := it_t h c4
          exact b34 _ h _ _ _ w (lv_sub hl [0] rfl)
theorem hd_X11_manyWays : yX11_manyWays.cls = RX11 ∧ yX11_manyWays.cls ≠ "java/lang/invoke/MethodHandle" ∧ yX11_manyWays.cls ≠ "java/lang/invoke/VarHandle" ∧ (parseMethodDescriptor yX11_manyWays.desc).map (fun d => d.parameters.length) = some 3 := by decide +kernel
def f_X11_manyWays_b31 (K9 : St → Int32 → Int32 → Option (Int32 × St)) (σ : St) (x2 : Int32) (y0 : Int32) (y1 : Int32) : Option (Int32 × St) := (f_X11_goOn σ).bind fun q1 => K9 q1 x2 (y1 + y0)
def f_X11_manyWays_b9 (K9 : St → Int32 → Int32 → Option (Int32 × St)) (σ : St) (x2 : Int32) (x4 : Int32) : Option (Int32 × St) := if (σ.1 7) ≤ 0 then (some (x4, σ)) else ((f_X11_ends σ x2).bind fun q1 => if q1.1 = 0 then (f_X11_manyWays_b31 K9 q1.2 x2 (0 : Int32) x4) else (f_X11_manyWays_b31 K9 q1.2 x2 (1 : Int32) x4))
def f_X11_manyWays_L9 : Nat → St → Int32 → Int32 → Option (Int32 × St)
  | 0 => fun _ _ _ => none
  | n + 1 => f_X11_manyWays_b9 (f_X11_manyWays_L9 n)
def f_X11_manyWays (σ : St) (x1 : Int32) (x2 : Int32) (x3 : Int32) : Option (Int32 × St) := (f_X11_layFirst σ x1 x3).bind fun q1 => f_X11_manyWays_L9 FU q1 x2 (0 : Int32)
abbrev rm_X11_manyWays : Room := { frames := 2, cells := 0, slots := 0, locals := 120 }
set_option maxHeartbeats 4000000 in
set_option maxRecDepth 100000 in
theorem c_X11_manyWays (l : Launch) (D : va_G) (ca : Nat → ClassId) (ad : Nat → Nat) (σ : St) (x1 : Int32) (x2 : Int32) (x3 : Int32) (sz : Nat) (out : Int32 × St) (hf : f_X11_manyWays σ x1 x2 x3 = some out) : Met l yX11_manyWays (.code yX11_manyWays cX11_manyWays 5 (some .int) :: WL) rm_X11_manyWays (PreC D ca (MW ca ad σ) sz [.ref (ad 0), .int x1, .int x2, .int x3]) (PostI D (va_A (MW ca ad σ) sz) (MW ca ad out.2) out.1) 0 0 (va_A (MW ca ad σ) sz) := by
  refine Met.ofW (cc := cX11_manyWays) (maxL := 5) (ret := (some .int)) (by decide) rfl ?_
  intro p e s m args below meth c s₁ B hml hv
  obtain ⟨rfl, hsz, hP, hK, hD, hN⟩ := hv
  subst hsz
  have C := Cx.mk (own := RX11) B hml rfl hK hN (ws := (MW ca ad σ))
  have w : Wd (va_A (MW ca ad σ) s.heap.size) s D (MW ca ad σ) s.heap [] := ⟨hP, hD.self, va_S.rf⟩
  have hl := lv_entry ([.ref (ad 0), .int x1, .int x2, .int x3]) (n := 5) (Nat.le_of_ble_eq_true rfl)
  rw [lg_entry_eq]
  generalize (lg_sl ([.ref (ad 0), .int x1, .int x2, .int x3]) ++ List.replicate (5 - (lg_sl ([.ref (ad 0), .int x1, .int x2, .int x3])).length) Slot.unset).toArray = ls at hl ⊢
  have hl : lv_has ls 5 [(0, .ref (ad 0)), (1, .int x1), (2, .int x2), (3, .int x3)] := hl
  change W p l e rm_X11_manyWays s m _ below meth c _ [] 0 0 _ _
  clear B hP hD hK hN hml
  generalize va_A (MW ca ad σ) s.heap.size = A at C w ⊢
  generalize ([.ref (ad 0), .int x1, .int x2, .int x3] : List Value).toArray = av at C ⊢
  obtain ⟨Q, hQ⟩ : ∃ Q, Q = MQ below (PostI D A (MW ca ad out.2) out.1) av s 0 0 A := ⟨_, rfl⟩
  rw [← hQ]
  have hx := C.1
  have hb := C.2.1
  have L9 : ∀ (n9 : Nat) (σ : St) (x2 : Int32) (x4 : Int32), f_X11_manyWays_L9 n9 σ x2 x4 = some out → Bk p l e rm_X11_manyWays s m av below meth c A D 5 Q (MW ca ad σ) 9 [(0, .ref (ad 0)), (2, .int x2), (4, .int x4)] [] := by
    intro n9
    induction n9 with
    | zero => intro σ x2 x4 h; exact absurd h (by simp [f_X11_manyWays_L9])
    | succ n9 ih9 =>
      have b31 : ∀ (σ : St) (x2 : Int32) (y0 : Int32) (y1 : Int32), f_X11_manyWays_b31 (f_X11_manyWays_L9 n9) σ x2 y0 y1 = some out → Bk p l e rm_X11_manyWays s m av below meth c A D 5 Q (MW ca ad σ) 31 [(0, .ref (ad 0)), (2, .int x2)] [.int y0, .int y1] := by
        intro σ x2 y0 y1 h H locs ls w hl
        unfold f_X11_manyWays_b31 at h
        refine lv_iadd hx hb dX11_manyWays_31 ?_
        refine lv_istore (lv' := [(4, .int (y1 + y0)), (0, .ref (ad 0)), (2, .int x2)]) hx hb dX11_manyWays_32 hl (by decide) rfl (fun ls hl => ?_)
        refine lv_aload_n hx hb dX11_manyWays_34 rfl (lv_at hl 1 rfl) ?_
        obtain ⟨q1, hq1, h⟩ := ob_t h
        refine res_v C w (run_V (As := []) (rest := []) C w hl.1 (recvM0 C w) (c_X11_goOn l D ca ad _  _ q1 hq1) rfl rfl wl_642 wl_643 wl_644 wl_5 wl_645 hd_X11_goOn rfl ⟨Nat.le_of_ble_eq_true rfl, Nat.le_of_ble_eq_true rfl⟩ rfl (Nat.le_of_ble_eq_true rfl) dX11_manyWays_35) (fun H locs w => ?_)
        refine lv_goto (tgt := 9) hx hb dX11_manyWays_38 (by decide) ?_
        exact ih9 _ _ _ h _ _ _ w (lv_sub hl [1, 2, 0] rfl)
      intro σ x2 x4 h H locs ls w hl
      change f_X11_manyWays_b9 (f_X11_manyWays_L9 n9) σ x2 x4 = some out at h
      unfold f_X11_manyWays_b9 at h
      refine lv_aload_n hx hb dX11_manyWays_9 rfl (lv_at hl 0 rfl) ?_
      refine gM0_7 (v := (σ.1 7)) C w rfl wl_582 dX11_manyWays_10 ?_
      refine lv_if_le (tgt := 41) hx hb dX11_manyWays_13 (by decide) (fun c1 => ?_) (fun c1 => ?_)
      · have h := it_t h c1
        refine lv_iload hx hb dX11_manyWays_41 (lv_at hl 2 rfl) ?_
        rw [hQ]
        exact rI (F := MW ca ad) C w h dX11_manyWays_43
      · have h := it_f h c1
        refine lv_iload hx hb dX11_manyWays_16 (lv_at hl 2 rfl) ?_
        refine lv_aload_n hx hb dX11_manyWays_18 rfl (lv_at hl 0 rfl) ?_
        refine lv_iload_n hx hb dX11_manyWays_19 rfl (lv_at hl 1 rfl) ?_
        obtain ⟨q1, hq1, h⟩ := ob_t h
        refine res_i C w (run_V (As := [.int x2]) (rest := [.int x4]) C w hl.1 (recvM0 C w) (c_X11_ends l D ca ad _ x2 _ q1 hq1) rfl rfl wl_634 wl_635 wl_636 wl_5 wl_637 hd_X11_ends rfl ⟨Nat.le_of_ble_eq_true rfl, Nat.le_of_ble_eq_true rfl⟩ rfl (Nat.le_of_ble_eq_true rfl) dX11_manyWays_20) (fun H locs w => ?_)
        refine lv_if_eq (tgt := 30) hx hb dX11_manyWays_23 (by decide) (fun c2 => ?_) (fun c2 => ?_)
        · have h := it_t h c2
          refine lv_iconst (v := 0) hx hb dX11_manyWays_30 (by decide) ?_
          exact b31 _ _ _ _ h _ _ _ w (lv_sub hl [0, 1] rfl)
        · have h := it_f h c2
          refine lv_iconst (v := 1) hx hb dX11_manyWays_26 (by decide) ?_
          refine lv_goto (tgt := 31) hx hb dX11_manyWays_27 (by decide) ?_
          exact b31 _ _ _ _ h _ _ _ w (lv_sub hl [0, 1] rfl)
  have h := hf
  unfold f_X11_manyWays at h
  refine lv_iconst (v := 0) hx hb dX11_manyWays_0 (by decide) ?_
  refine lv_istore (lv' := [(4, .int (0 : Int32)), (0, .ref (ad 0)), (1, .int x1), (2, .int x2), (3, .int x3)]) hx hb dX11_manyWays_1 hl (by decide) rfl (fun ls hl => ?_)
  refine lv_aload_n hx hb dX11_manyWays_3 rfl (lv_at hl 1 rfl) ?_
  refine lv_iload_n hx hb dX11_manyWays_4 rfl (lv_at hl 2 rfl) ?_
  refine lv_iload_n hx hb dX11_manyWays_5 rfl (lv_at hl 4 rfl) ?_
  obtain ⟨q1, hq1, h⟩ := ob_t h
  refine res_v C w (run_V (As := [.int x1, .int x3]) (rest := []) C w hl.1 (recvM0 C w) (c_X11_layFirst l D ca ad _ x1 x3 _ q1 hq1) rfl rfl wl_629 wl_630 wl_631 wl_5 wl_632 hd_X11_layFirst rfl ⟨Nat.le_of_ble_eq_true rfl, Nat.le_of_ble_eq_true rfl⟩ rfl (Nat.le_of_ble_eq_true rfl) dX11_manyWays_6) (fun H locs w => ?_)
  exact L9 FU _ _ _ h _ _ _ w (lv_sub hl [1, 3, 0] rfl)
theorem hd_X11_isThereWay : yX11_isThereWay.cls = RX11 ∧ yX11_isThereWay.cls ≠ "java/lang/invoke/MethodHandle" ∧ yX11_isThereWay.cls ≠ "java/lang/invoke/VarHandle" ∧ (parseMethodDescriptor yX11_isThereWay.desc).map (fun d => d.parameters.length) = some 3 := by decide +kernel
def f_X11_isThereWay_b35 (σ : St) (x4 : Int32) : Option (Int32 × St) := cond (ckZ x4) (some (x4, σ)) none
def f_X11_isThereWay_b9 (K9 : St → Int32 → Int32 → Option (Int32 × St)) (σ : St) (x2 : Int32) (x4 : Int32) : Option (Int32 × St) := if (σ.1 7) ≤ 0 then (f_X11_isThereWay_b35 σ x4) else (if x4 = 0 then ((f_X11_ends σ x2).bind fun q1 => (f_X11_goOn q1.2).bind fun q2 => K9 q2 x2 q1.1) else (f_X11_isThereWay_b35 σ x4))
def f_X11_isThereWay_L9 : Nat → St → Int32 → Int32 → Option (Int32 × St)
  | 0 => fun _ _ _ => none
  | n + 1 => f_X11_isThereWay_b9 (f_X11_isThereWay_L9 n)
def f_X11_isThereWay (σ : St) (x1 : Int32) (x2 : Int32) (x3 : Int32) : Option (Int32 × St) := (f_X11_layFirst σ x1 x3).bind fun q1 => f_X11_isThereWay_L9 FU q1 x2 (0 : Int32)
abbrev rm_X11_isThereWay : Room := { frames := 2, cells := 0, slots := 0, locals := 120 }
set_option maxHeartbeats 4000000 in
set_option maxRecDepth 100000 in
theorem c_X11_isThereWay (l : Launch) (D : va_G) (ca : Nat → ClassId) (ad : Nat → Nat) (σ : St) (x1 : Int32) (x2 : Int32) (x3 : Int32) (sz : Nat) (out : Int32 × St) (hf : f_X11_isThereWay σ x1 x2 x3 = some out) : Met l yX11_isThereWay (.code yX11_isThereWay cX11_isThereWay 5 (some .boolean) :: WL) rm_X11_isThereWay (PreC D ca (MW ca ad σ) sz [.ref (ad 0), .int x1, .int x2, .int x3]) (PostI D (va_A (MW ca ad σ) sz) (MW ca ad out.2) out.1) 0 0 (va_A (MW ca ad σ) sz) := by
  refine Met.ofW (cc := cX11_isThereWay) (maxL := 5) (ret := (some .boolean)) (by decide) rfl ?_
  intro p e s m args below meth c s₁ B hml hv
  obtain ⟨rfl, hsz, hP, hK, hD, hN⟩ := hv
  subst hsz
  have C := Cx.mk (own := RX11) B hml rfl hK hN (ws := (MW ca ad σ))
  have w : Wd (va_A (MW ca ad σ) s.heap.size) s D (MW ca ad σ) s.heap [] := ⟨hP, hD.self, va_S.rf⟩
  have hl := lv_entry ([.ref (ad 0), .int x1, .int x2, .int x3]) (n := 5) (Nat.le_of_ble_eq_true rfl)
  rw [lg_entry_eq]
  generalize (lg_sl ([.ref (ad 0), .int x1, .int x2, .int x3]) ++ List.replicate (5 - (lg_sl ([.ref (ad 0), .int x1, .int x2, .int x3])).length) Slot.unset).toArray = ls at hl ⊢
  have hl : lv_has ls 5 [(0, .ref (ad 0)), (1, .int x1), (2, .int x2), (3, .int x3)] := hl
  change W p l e rm_X11_isThereWay s m _ below meth c _ [] 0 0 _ _
  clear B hP hD hK hN hml
  generalize va_A (MW ca ad σ) s.heap.size = A at C w ⊢
  generalize ([.ref (ad 0), .int x1, .int x2, .int x3] : List Value).toArray = av at C ⊢
  obtain ⟨Q, hQ⟩ : ∃ Q, Q = MQ below (PostI D A (MW ca ad out.2) out.1) av s 0 0 A := ⟨_, rfl⟩
  rw [← hQ]
  have hx := C.1
  have hb := C.2.1
  have b35 : ∀ (σ : St) (x4 : Int32), f_X11_isThereWay_b35 σ x4 = some out → Bk p l e rm_X11_isThereWay s m av below meth c A D 5 Q (MW ca ad σ) 35 [(4, .int x4)] [] := by
    intro σ x4 h H locs ls w hl
    unfold f_X11_isThereWay_b35 at h
    refine lv_iload hx hb dX11_isThereWay_35 (lv_at hl 0 rfl) ?_
    obtain ⟨z1, h⟩ := cz_t h
    rw [hQ]
    exact rZ (F := MW ca ad) C w z1 h dX11_isThereWay_37
  have L9 : ∀ (n9 : Nat) (σ : St) (x2 : Int32) (x4 : Int32), f_X11_isThereWay_L9 n9 σ x2 x4 = some out → Bk p l e rm_X11_isThereWay s m av below meth c A D 5 Q (MW ca ad σ) 9 [(0, .ref (ad 0)), (2, .int x2), (4, .int x4)] [] := by
    intro n9
    induction n9 with
    | zero => intro σ x2 x4 h; exact absurd h (by simp [f_X11_isThereWay_L9])
    | succ n9 ih9 =>
      intro σ x2 x4 h H locs ls w hl
      change f_X11_isThereWay_b9 (f_X11_isThereWay_L9 n9) σ x2 x4 = some out at h
      unfold f_X11_isThereWay_b9 at h
      refine lv_aload_n hx hb dX11_isThereWay_9 rfl (lv_at hl 0 rfl) ?_
      refine gM0_7 (v := (σ.1 7)) C w rfl wl_582 dX11_isThereWay_10 ?_
      refine lv_if_le (tgt := 35) hx hb dX11_isThereWay_13 (by decide) (fun c1 => ?_) (fun c1 => ?_)
      · have h := it_t h c1
        exact b35 _ _ h _ _ _ w (lv_sub hl [2] rfl)
      · have h := it_f h c1
        refine lv_iload hx hb dX11_isThereWay_16 (lv_at hl 2 rfl) ?_
        refine lv_if_ne (tgt := 35) hx hb dX11_isThereWay_18 (by decide) (fun c2 => ?_) (fun c2 => ?_)
        · have h := it_f h c2
          exact b35 _ _ h _ _ _ w (lv_sub hl [2] rfl)
        · have h := it_t h c2
          refine lv_aload_n hx hb dX11_isThereWay_21 rfl (lv_at hl 0 rfl) ?_
          refine lv_iload_n hx hb dX11_isThereWay_22 rfl (lv_at hl 1 rfl) ?_
          obtain ⟨q1, hq1, h⟩ := ob_t h
          refine res_i C w (run_V (As := [.int x2]) (rest := []) C w hl.1 (recvM0 C w) (c_X11_ends l D ca ad _ x2 _ q1 hq1) rfl rfl wl_634 wl_635 wl_636 wl_5 wl_637 hd_X11_ends rfl ⟨Nat.le_of_ble_eq_true rfl, Nat.le_of_ble_eq_true rfl⟩ rfl (Nat.le_of_ble_eq_true rfl) dX11_isThereWay_23) (fun H locs w => ?_)
          refine lv_istore (lv' := [(4, .int q1.1), (0, .ref (ad 0)), (2, .int x2)]) hx hb dX11_isThereWay_26 hl (by decide) rfl (fun ls hl => ?_)
          refine lv_aload_n hx hb dX11_isThereWay_28 rfl (lv_at hl 1 rfl) ?_
          obtain ⟨q2, hq2, h⟩ := ob_t h
          refine res_v C w (run_V (As := []) (rest := []) C w hl.1 (recvM0 C w) (c_X11_goOn l D ca ad _  _ q2 hq2) rfl rfl wl_642 wl_643 wl_644 wl_5 wl_645 hd_X11_goOn rfl ⟨Nat.le_of_ble_eq_true rfl, Nat.le_of_ble_eq_true rfl⟩ rfl (Nat.le_of_ble_eq_true rfl) dX11_isThereWay_29) (fun H locs w => ?_)
          refine lv_goto (tgt := 9) hx hb dX11_isThereWay_32 (by decide) ?_
          exact ih9 _ _ _ h _ _ _ w (lv_sub hl [1, 2, 0] rfl)
  have h := hf
  unfold f_X11_isThereWay at h
  refine lv_iconst (v := 0) hx hb dX11_isThereWay_0 (by decide) ?_
  refine lv_istore (lv' := [(4, .int (0 : Int32)), (0, .ref (ad 0)), (1, .int x1), (2, .int x2), (3, .int x3)]) hx hb dX11_isThereWay_1 hl (by decide) rfl (fun ls hl => ?_)
  refine lv_aload_n hx hb dX11_isThereWay_3 rfl (lv_at hl 1 rfl) ?_
  refine lv_iload_n hx hb dX11_isThereWay_4 rfl (lv_at hl 2 rfl) ?_
  refine lv_iload_n hx hb dX11_isThereWay_5 rfl (lv_at hl 4 rfl) ?_
  obtain ⟨q1, hq1, h⟩ := ob_t h
  refine res_v C w (run_V (As := [.int x1, .int x3]) (rest := []) C w hl.1 (recvM0 C w) (c_X11_layFirst l D ca ad _ x1 x3 _ q1 hq1) rfl rfl wl_629 wl_630 wl_631 wl_5 wl_632 hd_X11_layFirst rfl ⟨Nat.le_of_ble_eq_true rfl, Nat.le_of_ble_eq_true rfl⟩ rfl (Nat.le_of_ble_eq_true rfl) dX11_isThereWay_6) (fun H locs w => ?_)
  exact L9 FU _ _ _ h _ _ _ w (lv_sub hl [1, 3, 0] rfl)
theorem hd_X11_ways : yX11_ways.cls = RX11 ∧ yX11_ways.cls ≠ "java/lang/invoke/MethodHandle" ∧ yX11_ways.cls ≠ "java/lang/invoke/VarHandle" ∧ (parseMethodDescriptor yX11_ways.desc).map (fun d => d.parameters.length) = some 2 := by decide +kernel
def f_X11_ways_b31 (σ : St) : Option (Int32 × St) := (f_X11_bad σ (-2 : Int32)).bind fun q1 => some (q1.1, q1.2)
def f_X11_ways (σ : St) (x1 : Int32) (x2 : Int32) : Option (Int32 × St) := (f_X11_isTree σ x1).bind fun q1 => if q1.1 = 0 then (f_X11_ways_b31 q1.2) else ((f_X11_isTree q1.2 x2).bind fun q2 => if q2.1 = 0 then (f_X11_ways_b31 q2.2) else ((f_X11_manyWays q2.2 x1 x2 (q2.2.2.2 1 1)).bind fun q3 => some (q3.1, q3.2)))
abbrev rm_X11_ways : Room := { frames := 3, cells := 0, slots := 0, locals := 180 }
set_option maxHeartbeats 4000000 in
set_option maxRecDepth 100000 in
theorem c_X11_ways (l : Launch) (D : va_G) (ca : Nat → ClassId) (ad : Nat → Nat) (σ : St) (x1 : Int32) (x2 : Int32) (sz : Nat) (out : Int32 × St) (hf : f_X11_ways σ x1 x2 = some out) : Met l yX11_ways (.code yX11_ways cX11_ways 3 (some .int) :: WL) rm_X11_ways (PreC D ca (MW ca ad σ) sz [.ref (ad 0), .int x1, .int x2]) (PostI D (va_A (MW ca ad σ) sz) (MW ca ad out.2) out.1) 0 0 (va_A (MW ca ad σ) sz) := by
  refine Met.ofW (cc := cX11_ways) (maxL := 3) (ret := (some .int)) (by decide) rfl ?_
  intro p e s m args below meth c s₁ B hml hv
  obtain ⟨rfl, hsz, hP, hK, hD, hN⟩ := hv
  subst hsz
  have C := Cx.mk (own := RX11) B hml rfl hK hN (ws := (MW ca ad σ))
  have w : Wd (va_A (MW ca ad σ) s.heap.size) s D (MW ca ad σ) s.heap [] := ⟨hP, hD.self, va_S.rf⟩
  have hl := lv_entry ([.ref (ad 0), .int x1, .int x2]) (n := 3) (Nat.le_of_ble_eq_true rfl)
  rw [lg_entry_eq]
  generalize (lg_sl ([.ref (ad 0), .int x1, .int x2]) ++ List.replicate (3 - (lg_sl ([.ref (ad 0), .int x1, .int x2])).length) Slot.unset).toArray = ls at hl ⊢
  have hl : lv_has ls 3 [(0, .ref (ad 0)), (1, .int x1), (2, .int x2)] := hl
  change W p l e rm_X11_ways s m _ below meth c _ [] 0 0 _ _
  clear B hP hD hK hN hml
  generalize va_A (MW ca ad σ) s.heap.size = A at C w ⊢
  generalize ([.ref (ad 0), .int x1, .int x2] : List Value).toArray = av at C ⊢
  obtain ⟨Q, hQ⟩ : ∃ Q, Q = MQ below (PostI D A (MW ca ad out.2) out.1) av s 0 0 A := ⟨_, rfl⟩
  rw [← hQ]
  have hx := C.1
  have hb := C.2.1
  have b31 : ∀ (σ : St), f_X11_ways_b31 σ = some out → Bk p l e rm_X11_ways s m av below meth c A D 3 Q (MW ca ad σ) 31 [(0, .ref (ad 0))] [] := by
    intro σ h H locs ls w hl
    unfold f_X11_ways_b31 at h
    refine lv_aload_n hx hb dX11_ways_31 rfl (lv_at hl 0 rfl) ?_
    refine lv_bipush (v := -2) hx hb dX11_ways_32 (by decide) ?_
    obtain ⟨q1, hq1, h⟩ := ob_t h
    refine res_i C w (run_V (As := [.int (-2 : Int32)]) (rest := []) C w hl.1 (recvM0 C w) (c_X11_bad l D ca ad _ (-2 : Int32) _ q1 hq1) rfl rfl wl_140 wl_141 wl_142 wl_5 wl_143 hd_X11_bad rfl ⟨Nat.le_of_ble_eq_true rfl, Nat.le_of_ble_eq_true rfl⟩ rfl (Nat.le_of_ble_eq_true rfl) dX11_ways_34) (fun H locs w => ?_)
    rw [hQ]
    exact rI (F := MW ca ad) C w h dX11_ways_37
  have h := hf
  unfold f_X11_ways at h
  refine lv_aload_n hx hb dX11_ways_0 rfl (lv_at hl 0 rfl) ?_
  refine lv_iload_n hx hb dX11_ways_1 rfl (lv_at hl 1 rfl) ?_
  obtain ⟨q1, hq1, h⟩ := ob_t h
  refine res_i C w (run_V (As := [.int x1]) (rest := []) C w hl.1 (recvM0 C w) (c_X11_isTree l D ca ad _ x1 _ q1 hq1) rfl rfl wl_188 wl_189 wl_190 wl_5 wl_191 hd_X11_isTree rfl ⟨Nat.le_of_ble_eq_true rfl, Nat.le_of_ble_eq_true rfl⟩ rfl (Nat.le_of_ble_eq_true rfl) dX11_ways_2) (fun H locs w => ?_)
  refine lv_if_eq (tgt := 31) hx hb dX11_ways_5 (by decide) (fun c1 => ?_) (fun c1 => ?_)
  · have h := it_t h c1
    exact b31 _ h _ _ _ w (lv_sub hl [0] rfl)
  · have h := it_f h c1
    refine lv_aload_n hx hb dX11_ways_8 rfl (lv_at hl 0 rfl) ?_
    refine lv_iload_n hx hb dX11_ways_9 rfl (lv_at hl 2 rfl) ?_
    obtain ⟨q2, hq2, h⟩ := ob_t h
    refine res_i C w (run_V (As := [.int x2]) (rest := []) C w hl.1 (recvM0 C w) (c_X11_isTree l D ca ad _ x2 _ q2 hq2) rfl rfl wl_188 wl_189 wl_190 wl_5 wl_191 hd_X11_isTree rfl ⟨Nat.le_of_ble_eq_true rfl, Nat.le_of_ble_eq_true rfl⟩ rfl (Nat.le_of_ble_eq_true rfl) dX11_ways_10) (fun H locs w => ?_)
    refine lv_if_eq (tgt := 31) hx hb dX11_ways_13 (by decide) (fun c2 => ?_) (fun c2 => ?_)
    · have h := it_t h c2
      exact b31 _ h _ _ _ w (lv_sub hl [0] rfl)
    · have h := it_f h c2
      refine lv_aload_n hx hb dX11_ways_16 rfl (lv_at hl 0 rfl) ?_
      refine lv_iload_n hx hb dX11_ways_17 rfl (lv_at hl 1 rfl) ?_
      refine lv_iload_n hx hb dX11_ways_18 rfl (lv_at hl 2 rfl) ?_
      refine lv_aload_n hx hb dX11_ways_19 rfl (lv_at hl 0 rfl) ?_
      refine gM0_0 C w wl_94 dX11_ways_20 ?_
      refine lv_iconst (v := 1) hx hb dX11_ways_23 (by decide) ?_
      refine ldM1 (v := (q2.2.2.2 1 1)) C w (vl (by decide)) rfl dX11_ways_24 ?_
      obtain ⟨q3, hq3, h⟩ := ob_t h
      refine res_i C w (run_V (As := [.int x1, .int x2, .int (q2.2.2.2 1 1)]) (rest := []) C w hl.1 (recvM0 C w) (c_X11_manyWays l D ca ad _ x1 x2 (q2.2.2.2 1 1) _ q3 hq3) rfl rfl wl_674 wl_675 wl_676 wl_5 wl_677 hd_X11_manyWays rfl ⟨Nat.le_of_ble_eq_true rfl, Nat.le_of_ble_eq_true rfl⟩ rfl (Nat.le_of_ble_eq_true rfl) dX11_ways_25) (fun H locs w => ?_)
      refine lv_goto (tgt := 37) hx hb dX11_ways_28 (by decide) ?_
      rw [hQ]
      exact rI (F := MW ca ad) C w h dX11_ways_37
theorem hd_X11_put : yX11_put.cls = RX11 ∧ yX11_put.cls ≠ "java/lang/invoke/MethodHandle" ∧ yX11_put.cls ≠ "java/lang/invoke/VarHandle" ∧ (parseMethodDescriptor yX11_put.desc).map (fun d => d.parameters.length) = some 4 := by decide +kernel
def f_X11_put_b34 (σ : St) : Option (Int32 × St) := (f_X11_bad σ (-2 : Int32)).bind fun q1 => some (q1.1, q1.2)
def f_X11_put_b151 (K83 : St → Int32 → Int32 → Int32 → Int32 → Int32 → Option (Int32 × St)) (σ : St) (x3 : Int32) (x4 : Int32) (x5 : Int32) (x6 : Int32) (x7 : Int32) : Option (Int32 × St) := K83 σ x3 x4 x5 x6 (x7 + (1 : Int32))
def f_X11_put_b148 (K83 : St → Int32 → Int32 → Int32 → Int32 → Int32 → Option (Int32 × St)) (σ : St) (x3 : Int32) (x4 : Int32) (x6 : Int32) (x7 : Int32) (y0 : Int32) (y1 : Int32) : Option (Int32 × St) := f_X11_put_b151 K83 σ x3 x4 (y1 + y0) x6 x7
def f_X11_put_b131 (K83 : St → Int32 → Int32 → Int32 → Int32 → Int32 → Option (Int32 × St)) (σ : St) (x3 : Int32) (x4 : Int32) (x5 : Int32) (x7 : Int32) (y0 : Int32) : Option (Int32 × St) := if (σ.1 8) = x3 then (f_X11_put_b148 K83 σ x3 x4 y0 x7 (1 : Int32) x5) else (f_X11_put_b148 K83 σ x3 x4 y0 x7 (0 : Int32) x5)
def f_X11_put_b129 (K83 : St → Int32 → Int32 → Int32 → Int32 → Int32 → Option (Int32 × St)) (σ : St) (x3 : Int32) (x4 : Int32) (x5 : Int32) (x6 : Int32) (x7 : Int32) : Option (Int32 × St) := f_X11_put_b131 K83 σ x3 x4 x5 x7 x6
def f_X11_put_b83 (K83 : St → Int32 → Int32 → Int32 → Int32 → Int32 → Option (Int32 × St)) (σ : St) (x3 : Int32) (x4 : Int32) (x5 : Int32) (x6 : Int32) (x7 : Int32) : Option (Int32 × St) := if (444 : Int32) < x7 then (if x4 = 0 then (some (x5, σ)) else (some (x6, σ))) else ((f_X11_isLetter x7).bind fun q1 => if q1 = 0 then (f_X11_put_b151 K83 σ x3 x4 x5 x6 x7) else ((f_X11_readBy σ x7 (σ.2.2 1 2)).bind fun q2 => if (q2.1 8) = x3 then (if x5 = 0 then (f_X11_put_b131 K83 q2 x3 x4 x5 x7 x7) else (f_X11_put_b129 K83 q2 x3 x4 x5 x6 x7)) else (f_X11_put_b129 K83 q2 x3 x4 x5 x6 x7)))
def f_X11_put_L83 : Nat → St → Int32 → Int32 → Int32 → Int32 → Int32 → Option (Int32 × St)
  | 0 => fun _ _ _ _ _ _ => none
  | n + 1 => f_X11_put_b83 (f_X11_put_L83 n)
def f_X11_put_b66 (σ : St) (x3 : Int32) (x4 : Int32) (y0 : Int32) : Option (Int32 × St) := (f_X11_layRow σ y0).bind fun q1 => if q1.1 = 0 then (some ((-1 : Int32), q1.2)) else (f_X11_put_L83 FU q1.2 x3 x4 (0 : Int32) (-1 : Int32) (0 : Int32))
def f_X11_put (σ : St) (x1 : Int32) (x2 : Int32) (x3 : Int32) (x4 : Int32) : Option (Int32 × St) := (f_X11_isTree σ x1).bind fun q1 => if q1.1 = 0 then (f_X11_put_b34 q1.2) else ((f_X11_isTree q1.2 x2).bind fun q2 => if q2.1 = 0 then (f_X11_put_b34 q2.2) else ((f_X11_isLetter x3).bind fun q3 => if q3 = 0 then (f_X11_put_b34 q2.2) else ((f_X11_in x4.toInt64 (0 : Int64) (1 : Int64)).bind fun q4 => if q4 = 0 then (f_X11_put_b34 q2.2) else ((f_X11_laySoonest q2.2 x1 x2 (0 : Int32) (0 : Int32)).bind fun q5 => if (q5.1 11) = (-1 : Int32) then (f_X11_put_b66 q5 x3 x4 (0 : Int32)) else (f_X11_put_b66 q5 x3 x4 (q5.1 11))))))
abbrev rm_X11_put : Room := { frames := 5, cells := 0, slots := 0, locals := 300 }
set_option maxHeartbeats 4000000 in
set_option maxRecDepth 100000 in
theorem c_X11_put (l : Launch) (D : va_G) (ca : Nat → ClassId) (ad : Nat → Nat) (σ : St) (x1 : Int32) (x2 : Int32) (x3 : Int32) (x4 : Int32) (sz : Nat) (out : Int32 × St) (hf : f_X11_put σ x1 x2 x3 x4 = some out) : Met l yX11_put (.code yX11_put cX11_put 8 (some .int) :: WL) rm_X11_put (PreC D ca (MW ca ad σ) sz [.ref (ad 0), .int x1, .int x2, .int x3, .int x4]) (PostI D (va_A (MW ca ad σ) sz) (MW ca ad out.2) out.1) 0 0 (va_A (MW ca ad σ) sz) := by
  refine Met.ofW (cc := cX11_put) (maxL := 8) (ret := (some .int)) (by decide) rfl ?_
  intro p e s m args below meth c s₁ B hml hv
  obtain ⟨rfl, hsz, hP, hK, hD, hN⟩ := hv
  subst hsz
  have C := Cx.mk (own := RX11) B hml rfl hK hN (ws := (MW ca ad σ))
  have w : Wd (va_A (MW ca ad σ) s.heap.size) s D (MW ca ad σ) s.heap [] := ⟨hP, hD.self, va_S.rf⟩
  have hl := lv_entry ([.ref (ad 0), .int x1, .int x2, .int x3, .int x4]) (n := 8) (Nat.le_of_ble_eq_true rfl)
  rw [lg_entry_eq]
  generalize (lg_sl ([.ref (ad 0), .int x1, .int x2, .int x3, .int x4]) ++ List.replicate (8 - (lg_sl ([.ref (ad 0), .int x1, .int x2, .int x3, .int x4])).length) Slot.unset).toArray = ls at hl ⊢
  have hl : lv_has ls 8 [(0, .ref (ad 0)), (1, .int x1), (2, .int x2), (3, .int x3), (4, .int x4)] := hl
  change W p l e rm_X11_put s m _ below meth c _ [] 0 0 _ _
  clear B hP hD hK hN hml
  generalize va_A (MW ca ad σ) s.heap.size = A at C w ⊢
  generalize ([.ref (ad 0), .int x1, .int x2, .int x3, .int x4] : List Value).toArray = av at C ⊢
  obtain ⟨Q, hQ⟩ : ∃ Q, Q = MQ below (PostI D A (MW ca ad out.2) out.1) av s 0 0 A := ⟨_, rfl⟩
  rw [← hQ]
  have hx := C.1
  have hb := C.2.1
  have b34 : ∀ (σ : St), f_X11_put_b34 σ = some out → Bk p l e rm_X11_put s m av below meth c A D 8 Q (MW ca ad σ) 34 [(0, .ref (ad 0))] [] := by
    intro σ h H locs ls w hl
    unfold f_X11_put_b34 at h
    refine lv_aload_n hx hb dX11_put_34 rfl (lv_at hl 0 rfl) ?_
    refine lv_bipush (v := -2) hx hb dX11_put_35 (by decide) ?_
    obtain ⟨q1, hq1, h⟩ := ob_t h
    refine res_i C w (run_V (As := [.int (-2 : Int32)]) (rest := []) C w hl.1 (recvM0 C w) (c_X11_bad l D ca ad _ (-2 : Int32) _ q1 hq1) rfl rfl wl_140 wl_141 wl_142 wl_5 wl_143 hd_X11_bad rfl ⟨Nat.le_of_ble_eq_true rfl, Nat.le_of_ble_eq_true rfl⟩ rfl (Nat.le_of_ble_eq_true rfl) dX11_put_37) (fun H locs w => ?_)
    rw [hQ]
    exact rI (F := MW ca ad) C w h dX11_put_40
  have L83 : ∀ (n83 : Nat) (σ : St) (x3 : Int32) (x4 : Int32) (x5 : Int32) (x6 : Int32) (x7 : Int32), f_X11_put_L83 n83 σ x3 x4 x5 x6 x7 = some out → Bk p l e rm_X11_put s m av below meth c A D 8 Q (MW ca ad σ) 83 [(0, .ref (ad 0)), (3, .int x3), (4, .int x4), (5, .int x5), (6, .int x6), (7, .int x7)] [] := by
    intro n83
    induction n83 with
    | zero => intro σ x3 x4 x5 x6 x7 h; exact absurd h (by simp [f_X11_put_L83])
    | succ n83 ih83 =>
      have b151 : ∀ (σ : St) (x3 : Int32) (x4 : Int32) (x5 : Int32) (x6 : Int32) (x7 : Int32), f_X11_put_b151 (f_X11_put_L83 n83) σ x3 x4 x5 x6 x7 = some out → Bk p l e rm_X11_put s m av below meth c A D 8 Q (MW ca ad σ) 151 [(0, .ref (ad 0)), (3, .int x3), (4, .int x4), (5, .int x5), (6, .int x6), (7, .int x7)] [] := by
        intro σ x3 x4 x5 x6 x7 h H locs ls w hl
        unfold f_X11_put_b151 at h
        refine lv_iinc (v := (x7 + (1 : Int32))) (lv' := [(7, .int (x7 + (1 : Int32))), (0, .ref (ad 0)), (3, .int x3), (4, .int x4), (5, .int x5), (6, .int x6)]) hx hb dX11_put_151 hl (k := 5) rfl rfl (by decide) rfl (fun ls hl => ?_)
        refine lv_goto (tgt := 83) hx hb dX11_put_154 (by decide) ?_
        exact ih83 _ _ _ _ _ _ h _ _ _ w (lv_sub hl [1, 2, 3, 4, 5, 0] rfl)
      have b148 : ∀ (σ : St) (x3 : Int32) (x4 : Int32) (x6 : Int32) (x7 : Int32) (y0 : Int32) (y1 : Int32), f_X11_put_b148 (f_X11_put_L83 n83) σ x3 x4 x6 x7 y0 y1 = some out → Bk p l e rm_X11_put s m av below meth c A D 8 Q (MW ca ad σ) 148 [(0, .ref (ad 0)), (3, .int x3), (4, .int x4), (6, .int x6), (7, .int x7)] [.int y0, .int y1] := by
        intro σ x3 x4 x6 x7 y0 y1 h H locs ls w hl
        unfold f_X11_put_b148 at h
        refine lv_iadd hx hb dX11_put_148 ?_
        refine lv_istore (lv' := [(5, .int (y1 + y0)), (0, .ref (ad 0)), (3, .int x3), (4, .int x4), (6, .int x6), (7, .int x7)]) hx hb dX11_put_149 hl (by decide) rfl (fun ls hl => ?_)
        exact b151 _ _ _ _ _ _ h _ _ _ w (lv_sub hl [1, 2, 3, 0, 4, 5] rfl)
      have b131 : ∀ (σ : St) (x3 : Int32) (x4 : Int32) (x5 : Int32) (x7 : Int32) (y0 : Int32), f_X11_put_b131 (f_X11_put_L83 n83) σ x3 x4 x5 x7 y0 = some out → Bk p l e rm_X11_put s m av below meth c A D 8 Q (MW ca ad σ) 131 [(0, .ref (ad 0)), (3, .int x3), (4, .int x4), (5, .int x5), (7, .int x7)] [.int y0] := by
        intro σ x3 x4 x5 x7 y0 h H locs ls w hl
        unfold f_X11_put_b131 at h
        refine lv_istore (lv' := [(6, .int y0), (0, .ref (ad 0)), (3, .int x3), (4, .int x4), (5, .int x5), (7, .int x7)]) hx hb dX11_put_131 hl (by decide) rfl (fun ls hl => ?_)
        refine lv_iload hx hb dX11_put_133 (lv_at hl 4 rfl) ?_
        refine lv_aload_n hx hb dX11_put_135 rfl (lv_at hl 1 rfl) ?_
        refine gM0_8 (v := (σ.1 8)) C w rfl wl_576 dX11_put_136 ?_
        refine lv_iload_n hx hb dX11_put_139 rfl (lv_at hl 2 rfl) ?_
        refine lv_icmp_ne (tgt := 147) hx hb dX11_put_140 (by decide) (fun c1 => ?_) (fun c1 => ?_)
        · have h := it_f h c1
          refine lv_iconst (v := 0) hx hb dX11_put_147 (by decide) ?_
          exact b148 _ _ _ _ _ _ _ h _ _ _ w (lv_sub hl [1, 2, 3, 0, 5] rfl)
        · have h := it_t h c1
          refine lv_iconst (v := 1) hx hb dX11_put_143 (by decide) ?_
          refine lv_goto (tgt := 148) hx hb dX11_put_144 (by decide) ?_
          exact b148 _ _ _ _ _ _ _ h _ _ _ w (lv_sub hl [1, 2, 3, 0, 5] rfl)
      have b129 : ∀ (σ : St) (x3 : Int32) (x4 : Int32) (x5 : Int32) (x6 : Int32) (x7 : Int32), f_X11_put_b129 (f_X11_put_L83 n83) σ x3 x4 x5 x6 x7 = some out → Bk p l e rm_X11_put s m av below meth c A D 8 Q (MW ca ad σ) 129 [(0, .ref (ad 0)), (3, .int x3), (4, .int x4), (5, .int x5), (6, .int x6), (7, .int x7)] [] := by
        intro σ x3 x4 x5 x6 x7 h H locs ls w hl
        unfold f_X11_put_b129 at h
        refine lv_iload hx hb dX11_put_129 (lv_at hl 4 rfl) ?_
        exact b131 _ _ _ _ _ _ h _ _ _ w (lv_sub hl [0, 1, 2, 3, 5] rfl)
      intro σ x3 x4 x5 x6 x7 h H locs ls w hl
      change f_X11_put_b83 (f_X11_put_L83 n83) σ x3 x4 x5 x6 x7 = some out at h
      unfold f_X11_put_b83 at h
      refine lv_iload hx hb dX11_put_83 (lv_at hl 5 rfl) ?_
      refine lv_sipush (v := 444) hx hb dX11_put_85 (by decide) ?_
      refine lv_icmp_gt (tgt := 157) hx hb dX11_put_88 (by decide) (fun c1 => ?_) (fun c1 => ?_)
      · have h := it_t h c1
        refine lv_iload hx hb dX11_put_157 (lv_at hl 2 rfl) ?_
        refine lv_if_ne (tgt := 167) hx hb dX11_put_159 (by decide) (fun c2 => ?_) (fun c2 => ?_)
        · have h := it_f h c2
          refine lv_iload hx hb dX11_put_167 (lv_at hl 4 rfl) ?_
          rw [hQ]
          exact rI (F := MW ca ad) C w h dX11_put_169
        · have h := it_t h c2
          refine lv_iload hx hb dX11_put_162 (lv_at hl 3 rfl) ?_
          refine lv_goto (tgt := 169) hx hb dX11_put_164 (by decide) ?_
          rw [hQ]
          exact rI (F := MW ca ad) C w h dX11_put_169
      · have h := it_f h c1
        refine lv_iload hx hb dX11_put_91 (lv_at hl 5 rfl) ?_
        obtain ⟨q1, hq1, h⟩ := ob_t h
        refine res_i C w (run_S (As := [.int x7]) (rest := []) C w hl.1 (c_X11_isLetter l D ca _ x7 _ q1 hq1) rfl rfl wl_524 wl_525 wl_5 wl_526 hd_X11_isLetter rfl ⟨Nat.le_of_ble_eq_true rfl, Nat.le_of_ble_eq_true rfl⟩ rfl (Nat.le_of_ble_eq_true rfl) dX11_put_93) (fun H locs w => ?_)
        refine lv_if_eq (tgt := 151) hx hb dX11_put_96 (by decide) (fun c3 => ?_) (fun c3 => ?_)
        · have h := it_t h c3
          exact b151 _ _ _ _ _ _ h _ _ _ w (lv_sub hl [0, 1, 2, 3, 4, 5] rfl)
        · have h := it_f h c3
          refine lv_aload_n hx hb dX11_put_99 rfl (lv_at hl 0 rfl) ?_
          refine lv_iload hx hb dX11_put_100 (lv_at hl 5 rfl) ?_
          refine lv_aload_n hx hb dX11_put_102 rfl (lv_at hl 0 rfl) ?_
          refine gM0_0 C w wl_94 dX11_put_103 ?_
          refine lv_iconst (v := 2) hx hb dX11_put_106 (by decide) ?_
          refine ldM1 (v := (σ.2.2 1 2)) C w (vl (by decide)) rfl dX11_put_107 ?_
          obtain ⟨q2, hq2, h⟩ := ob_t h
          refine res_v C w (run_V (As := [.int x7, .int (σ.2.2 1 2)]) (rest := []) C w hl.1 (recvM0 C w) (c_X11_readBy l D ca ad _ x7 (σ.2.2 1 2) _ q2 hq2) rfl rfl wl_586 wl_587 wl_588 wl_5 wl_589 hd_X11_readBy rfl ⟨Nat.le_of_ble_eq_true rfl, Nat.le_of_ble_eq_true rfl⟩ rfl (Nat.le_of_ble_eq_true rfl) dX11_put_108) (fun H locs w => ?_)
          refine lv_aload_n hx hb dX11_put_111 rfl (lv_at hl 0 rfl) ?_
          refine gM0_8 (v := (q2.1 8)) C w rfl wl_576 dX11_put_112 ?_
          refine lv_iload_n hx hb dX11_put_115 rfl (lv_at hl 1 rfl) ?_
          refine lv_icmp_ne (tgt := 129) hx hb dX11_put_116 (by decide) (fun c4 => ?_) (fun c4 => ?_)
          · have h := it_f h c4
            exact b129 _ _ _ _ _ _ h _ _ _ w (lv_sub hl [0, 1, 2, 3, 4, 5] rfl)
          · have h := it_t h c4
            refine lv_iload hx hb dX11_put_119 (lv_at hl 3 rfl) ?_
            refine lv_if_ne (tgt := 129) hx hb dX11_put_121 (by decide) (fun c5 => ?_) (fun c5 => ?_)
            · have h := it_f h c5
              exact b129 _ _ _ _ _ _ h _ _ _ w (lv_sub hl [0, 1, 2, 3, 4, 5] rfl)
            · have h := it_t h c5
              refine lv_iload hx hb dX11_put_124 (lv_at hl 5 rfl) ?_
              refine lv_goto (tgt := 131) hx hb dX11_put_126 (by decide) ?_
              exact b131 _ _ _ _ _ _ h _ _ _ w (lv_sub hl [0, 1, 2, 3, 5] rfl)
  have b66 : ∀ (σ : St) (x3 : Int32) (x4 : Int32) (y0 : Int32), f_X11_put_b66 σ x3 x4 y0 = some out → Bk p l e rm_X11_put s m av below meth c A D 8 Q (MW ca ad σ) 66 [(0, .ref (ad 0)), (3, .int x3), (4, .int x4)] [.int y0, .ref (ad 0)] := by
    intro σ x3 x4 y0 h H locs ls w hl
    unfold f_X11_put_b66 at h
    obtain ⟨q1, hq1, h⟩ := ob_t h
    refine res_i C w (run_V (As := [.int y0]) (rest := []) C w hl.1 (recvM0 C w) (c_X11_layRow l D ca ad _ y0 _ q1 hq1) rfl rfl wl_578 wl_579 wl_580 wl_5 wl_581 hd_X11_layRow rfl ⟨Nat.le_of_ble_eq_true rfl, Nat.le_of_ble_eq_true rfl⟩ rfl (Nat.le_of_ble_eq_true rfl) dX11_put_66) (fun H locs w => ?_)
    refine lv_if_ne (tgt := 74) hx hb dX11_put_69 (by decide) (fun c1 => ?_) (fun c1 => ?_)
    · have h := it_f h c1
      refine lv_iconst (v := 0) hx hb dX11_put_74 (by decide) ?_
      refine lv_istore (lv' := [(5, .int (0 : Int32)), (0, .ref (ad 0)), (3, .int x3), (4, .int x4)]) hx hb dX11_put_75 hl (by decide) rfl (fun ls hl => ?_)
      refine lv_iconst (v := -1) hx hb dX11_put_77 (by decide) ?_
      refine lv_istore (lv' := [(6, .int (-1 : Int32)), (5, .int (0 : Int32)), (0, .ref (ad 0)), (3, .int x3), (4, .int x4)]) hx hb dX11_put_78 hl (by decide) rfl (fun ls hl => ?_)
      refine lv_iconst (v := 0) hx hb dX11_put_80 (by decide) ?_
      refine lv_istore (lv' := [(7, .int (0 : Int32)), (6, .int (-1 : Int32)), (5, .int (0 : Int32)), (0, .ref (ad 0)), (3, .int x3), (4, .int x4)]) hx hb dX11_put_81 hl (by decide) rfl (fun ls hl => ?_)
      exact L83 FU _ _ _ _ _ _ h _ _ _ w (lv_sub hl [3, 4, 5, 2, 1, 0] rfl)
    · have h := it_t h c1
      refine lv_iconst (v := -1) hx hb dX11_put_72 (by decide) ?_
      rw [hQ]
      exact rI (F := MW ca ad) C w h dX11_put_73
  have h := hf
  unfold f_X11_put at h
  refine lv_aload_n hx hb dX11_put_0 rfl (lv_at hl 0 rfl) ?_
  refine lv_iload_n hx hb dX11_put_1 rfl (lv_at hl 1 rfl) ?_
  obtain ⟨q1, hq1, h⟩ := ob_t h
  refine res_i C w (run_V (As := [.int x1]) (rest := []) C w hl.1 (recvM0 C w) (c_X11_isTree l D ca ad _ x1 _ q1 hq1) rfl rfl wl_188 wl_189 wl_190 wl_5 wl_191 hd_X11_isTree rfl ⟨Nat.le_of_ble_eq_true rfl, Nat.le_of_ble_eq_true rfl⟩ rfl (Nat.le_of_ble_eq_true rfl) dX11_put_2) (fun H locs w => ?_)
  refine lv_if_eq (tgt := 34) hx hb dX11_put_5 (by decide) (fun c1 => ?_) (fun c1 => ?_)
  · have h := it_t h c1
    exact b34 _ h _ _ _ w (lv_sub hl [0] rfl)
  · have h := it_f h c1
    refine lv_aload_n hx hb dX11_put_8 rfl (lv_at hl 0 rfl) ?_
    refine lv_iload_n hx hb dX11_put_9 rfl (lv_at hl 2 rfl) ?_
    obtain ⟨q2, hq2, h⟩ := ob_t h
    refine res_i C w (run_V (As := [.int x2]) (rest := []) C w hl.1 (recvM0 C w) (c_X11_isTree l D ca ad _ x2 _ q2 hq2) rfl rfl wl_188 wl_189 wl_190 wl_5 wl_191 hd_X11_isTree rfl ⟨Nat.le_of_ble_eq_true rfl, Nat.le_of_ble_eq_true rfl⟩ rfl (Nat.le_of_ble_eq_true rfl) dX11_put_10) (fun H locs w => ?_)
    refine lv_if_eq (tgt := 34) hx hb dX11_put_13 (by decide) (fun c2 => ?_) (fun c2 => ?_)
    · have h := it_t h c2
      exact b34 _ h _ _ _ w (lv_sub hl [0] rfl)
    · have h := it_f h c2
      refine lv_iload_n hx hb dX11_put_16 rfl (lv_at hl 3 rfl) ?_
      obtain ⟨q3, hq3, h⟩ := ob_t h
      refine res_i C w (run_S (As := [.int x3]) (rest := []) C w hl.1 (c_X11_isLetter l D ca _ x3 _ q3 hq3) rfl rfl wl_524 wl_525 wl_5 wl_526 hd_X11_isLetter rfl ⟨Nat.le_of_ble_eq_true rfl, Nat.le_of_ble_eq_true rfl⟩ rfl (Nat.le_of_ble_eq_true rfl) dX11_put_17) (fun H locs w => ?_)
      refine lv_if_eq (tgt := 34) hx hb dX11_put_20 (by decide) (fun c3 => ?_) (fun c3 => ?_)
      · have h := it_t h c3
        exact b34 _ h _ _ _ w (lv_sub hl [0] rfl)
      · have h := it_f h c3
        refine lv_iload hx hb dX11_put_23 (lv_at hl 4 rfl) ?_
        refine lv_i2l hx hb dX11_put_25 rfl ?_
        refine lv_lconst (v := 0) hx hb dX11_put_26 (by decide) ?_
        refine lv_lconst (v := 1) hx hb dX11_put_27 (by decide) ?_
        obtain ⟨q4, hq4, h⟩ := ob_t h
        refine res_i C w (run_S (As := [.long x4.toInt64, .long (0 : Int64), .long (1 : Int64)]) (rest := []) C w hl.1 (c_X11_in l D ca _ x4.toInt64 (0 : Int64) (1 : Int64) _ q4 hq4) rfl rfl wl_137 wl_138 wl_5 wl_139 hd_X11_in rfl ⟨Nat.le_of_ble_eq_true rfl, Nat.le_of_ble_eq_true rfl⟩ rfl (Nat.le_of_ble_eq_true rfl) dX11_put_28) (fun H locs w => ?_)
        refine lv_if_ne (tgt := 41) hx hb dX11_put_31 (by decide) (fun c4 => ?_) (fun c4 => ?_)
        · have h := it_f h c4
          refine lv_aload_n hx hb dX11_put_41 rfl (lv_at hl 0 rfl) ?_
          refine lv_iload_n hx hb dX11_put_42 rfl (lv_at hl 1 rfl) ?_
          refine lv_iload_n hx hb dX11_put_43 rfl (lv_at hl 2 rfl) ?_
          refine lv_iconst (v := 0) hx hb dX11_put_44 (by decide) ?_
          refine lv_iconst (v := 0) hx hb dX11_put_45 (by decide) ?_
          obtain ⟨q5, hq5, h⟩ := ob_t h
          refine res_v C w (run_V (As := [.int x1, .int x2, .int (0 : Int32), .int (0 : Int32)]) (rest := []) C w hl.1 (recvM0 C w) (c_X11_laySoonest l D ca ad _ x1 x2 (0 : Int32) (0 : Int32) _ q5 hq5) rfl rfl wl_625 wl_626 wl_627 wl_5 wl_628 hd_X11_laySoonest rfl ⟨Nat.le_of_ble_eq_true rfl, Nat.le_of_ble_eq_true rfl⟩ rfl (Nat.le_of_ble_eq_true rfl) dX11_put_46) (fun H locs w => ?_)
          refine lv_aload_n hx hb dX11_put_49 rfl (lv_at hl 0 rfl) ?_
          refine lv_aload_n hx hb dX11_put_50 rfl (lv_at hl 0 rfl) ?_
          refine gM0_11 (v := (q5.1 11)) C w rfl wl_622 dX11_put_51 ?_
          refine lv_iconst (v := -1) hx hb dX11_put_54 (by decide) ?_
          refine lv_icmp_ne (tgt := 62) hx hb dX11_put_55 (by decide) (fun c5 => ?_) (fun c5 => ?_)
          · have h := it_f h c5
            refine lv_aload_n hx hb dX11_put_62 rfl (lv_at hl 0 rfl) ?_
            refine gM0_11 (v := (q5.1 11)) C w rfl wl_622 dX11_put_63 ?_
            exact b66 _ _ _ _ h _ _ _ w (lv_sub hl [0, 3, 4] rfl)
          · have h := it_t h c5
            refine lv_iconst (v := 0) hx hb dX11_put_58 (by decide) ?_
            refine lv_goto (tgt := 66) hx hb dX11_put_59 (by decide) ?_
            exact b66 _ _ _ _ h _ _ _ w (lv_sub hl [0, 3, 4] rfl)
        · have h := it_t h c4
          exact b34 _ h _ _ _ w (lv_sub hl [0] rfl)
theorem hd_X11_signs : yX11_signs.cls ≠ "java/lang/invoke/MethodHandle" ∧ yX11_signs.cls ≠ "java/lang/invoke/VarHandle" ∧ (parseMethodDescriptor yX11_signs.desc).map (fun d => d.parameters.length) = some 1 := by decide +kernel
def f_X11_signs_b4 (K4 : Int32 → Int32 → Option (Int32)) (x1 : Int32) (x2 : Int32) : Option (Int32) := if x2 ≤ 0 then (some x1) else (K4 (x1 + (1 : Int32)) (x2 / (10 : Int32)))
def f_X11_signs_L4 : Nat → Int32 → Int32 → Option (Int32)
  | 0 => fun _ _ => none
  | n + 1 => f_X11_signs_b4 (f_X11_signs_L4 n)
def f_X11_signs (x0 : Int32) : Option (Int32) := f_X11_signs_L4 FU (0 : Int32) x0
abbrev rm_X11_signs : Room := { frames := 0, cells := 0, slots := 0, locals := 0 }
set_option maxHeartbeats 4000000 in
set_option maxRecDepth 100000 in
theorem c_X11_signs (l : Launch) (D : va_G) (ca : Nat → ClassId) (ws : va_W) (x0 : Int32) (sz : Nat) (out : Int32) (hf : f_X11_signs x0 = some out) : Met l yX11_signs (.code yX11_signs cX11_signs 3 (some .int) :: WL) rm_X11_signs (PreC D ca ws sz [.int x0]) (PostI D (va_A ws sz) ws out) 0 0 (va_A ws sz) := by
  refine Met.ofW (cc := cX11_signs) (maxL := 3) (ret := (some .int)) (by decide) rfl ?_
  intro p e s m args below meth c s₁ B hml hv
  obtain ⟨rfl, hsz, hP, hK, hD, hN⟩ := hv
  subst hsz
  have C := Cx.mk (own := RX11) B hml rfl hK hN (ws := ws)
  have w : Wd (va_A ws s.heap.size) s D ws s.heap [] := ⟨hP, hD.self, va_S.rf⟩
  have hl := lv_entry ([.int x0]) (n := 3) (Nat.le_of_ble_eq_true rfl)
  rw [lg_entry_eq]
  generalize (lg_sl ([.int x0]) ++ List.replicate (3 - (lg_sl ([.int x0])).length) Slot.unset).toArray = ls at hl ⊢
  have hl : lv_has ls 3 [(0, .int x0)] := hl
  change W p l e rm_X11_signs s m _ below meth c _ [] 0 0 _ _
  clear B hP hD hK hN hml
  generalize va_A ws s.heap.size = A at C w ⊢
  generalize ([.int x0] : List Value).toArray = av at C ⊢
  obtain ⟨Q, hQ⟩ : ∃ Q, Q = MQ below (PostI D A ws out) av s 0 0 A := ⟨_, rfl⟩
  rw [← hQ]
  have hx := C.1
  have hb := C.2.1
  have L4 : ∀ (n4 : Nat) (x1 : Int32) (x2 : Int32), f_X11_signs_L4 n4 x1 x2 = some out → Bk p l e rm_X11_signs s m av below meth c A D 3 Q ws 4 [(1, .int x1), (2, .int x2)] [] := by
    intro n4
    induction n4 with
    | zero => intro x1 x2 h; exact absurd h (by simp [f_X11_signs_L4])
    | succ n4 ih4 =>
      intro x1 x2 h H locs ls w hl
      change f_X11_signs_b4 (f_X11_signs_L4 n4) x1 x2 = some out at h
      unfold f_X11_signs_b4 at h
      refine lv_iload_n hx hb dX11_signs_4 rfl (lv_at hl 1 rfl) ?_
      refine lv_if_le (tgt := 19) hx hb dX11_signs_5 (by decide) (fun c1 => ?_) (fun c1 => ?_)
      · have h := it_t h c1
        refine lv_iload_n hx hb dX11_signs_19 rfl (lv_at hl 0 rfl) ?_
        rw [hQ]
        exact qI C w h dX11_signs_20
      · have h := it_f h c1
        refine lv_iinc (v := (x1 + (1 : Int32))) (lv' := [(1, .int (x1 + (1 : Int32))), (2, .int x2)]) hx hb dX11_signs_8 hl (k := 0) rfl rfl (by decide) rfl (fun ls hl => ?_)
        refine lv_iload_n hx hb dX11_signs_11 rfl (lv_at hl 1 rfl) ?_
        refine lv_bipush (v := 10) hx hb dX11_signs_12 (by decide) ?_
        refine lv_idiv hx hb dX11_signs_14 (by decide) ?_
        refine lv_istore_n (lv' := [(2, .int (x2 / (10 : Int32))), (1, .int (x1 + (1 : Int32)))]) hx hb dX11_signs_15 rfl hl (by decide) rfl (fun ls hl => ?_)
        refine lv_goto (tgt := 4) hx hb dX11_signs_16 (by decide) ?_
        exact ih4 _ _ h _ _ _ w (lv_sub hl [1, 0] rfl)
  have h := hf
  unfold f_X11_signs at h
  refine lv_iconst (v := 0) hx hb dX11_signs_0 (by decide) ?_
  refine lv_istore_n (lv' := [(1, .int (0 : Int32)), (0, .int x0)]) hx hb dX11_signs_1 rfl hl (by decide) rfl (fun ls hl => ?_)
  refine lv_iload_n hx hb dX11_signs_2 rfl (lv_at hl 1 rfl) ?_
  refine lv_istore_n (lv' := [(2, .int x0), (1, .int (0 : Int32)), (0, .int x0)]) hx hb dX11_signs_3 rfl hl (by decide) rfl (fun ls hl => ?_)
  exact L4 FU _ _ h _ _ _ w (lv_sub hl [1, 0] rfl)
theorem hd_X11_power : yX11_power.cls ≠ "java/lang/invoke/MethodHandle" ∧ yX11_power.cls ≠ "java/lang/invoke/VarHandle" ∧ (parseMethodDescriptor yX11_power.desc).map (fun d => d.parameters.length) = some 1 := by decide +kernel
def f_X11_power_b4 (K4 : Int32 → Int32 → Int32 → Option (Int32)) (x0 : Int32) (x1 : Int32) (x2 : Int32) : Option (Int32) := if x0 ≤ x2 then (some x1) else (K4 x0 (x1 * (10 : Int32)) (x2 + (1 : Int32)))
def f_X11_power_L4 : Nat → Int32 → Int32 → Int32 → Option (Int32)
  | 0 => fun _ _ _ => none
  | n + 1 => f_X11_power_b4 (f_X11_power_L4 n)
def f_X11_power (x0 : Int32) : Option (Int32) := f_X11_power_L4 FU x0 (1 : Int32) (0 : Int32)
abbrev rm_X11_power : Room := { frames := 0, cells := 0, slots := 0, locals := 0 }
set_option maxHeartbeats 4000000 in
set_option maxRecDepth 100000 in
theorem c_X11_power (l : Launch) (D : va_G) (ca : Nat → ClassId) (ws : va_W) (x0 : Int32) (sz : Nat) (out : Int32) (hf : f_X11_power x0 = some out) : Met l yX11_power (.code yX11_power cX11_power 3 (some .int) :: WL) rm_X11_power (PreC D ca ws sz [.int x0]) (PostI D (va_A ws sz) ws out) 0 0 (va_A ws sz) := by
  refine Met.ofW (cc := cX11_power) (maxL := 3) (ret := (some .int)) (by decide) rfl ?_
  intro p e s m args below meth c s₁ B hml hv
  obtain ⟨rfl, hsz, hP, hK, hD, hN⟩ := hv
  subst hsz
  have C := Cx.mk (own := RX11) B hml rfl hK hN (ws := ws)
  have w : Wd (va_A ws s.heap.size) s D ws s.heap [] := ⟨hP, hD.self, va_S.rf⟩
  have hl := lv_entry ([.int x0]) (n := 3) (Nat.le_of_ble_eq_true rfl)
  rw [lg_entry_eq]
  generalize (lg_sl ([.int x0]) ++ List.replicate (3 - (lg_sl ([.int x0])).length) Slot.unset).toArray = ls at hl ⊢
  have hl : lv_has ls 3 [(0, .int x0)] := hl
  change W p l e rm_X11_power s m _ below meth c _ [] 0 0 _ _
  clear B hP hD hK hN hml
  generalize va_A ws s.heap.size = A at C w ⊢
  generalize ([.int x0] : List Value).toArray = av at C ⊢
  obtain ⟨Q, hQ⟩ : ∃ Q, Q = MQ below (PostI D A ws out) av s 0 0 A := ⟨_, rfl⟩
  rw [← hQ]
  have hx := C.1
  have hb := C.2.1
  have L4 : ∀ (n4 : Nat) (x0 : Int32) (x1 : Int32) (x2 : Int32), f_X11_power_L4 n4 x0 x1 x2 = some out → Bk p l e rm_X11_power s m av below meth c A D 3 Q ws 4 [(0, .int x0), (1, .int x1), (2, .int x2)] [] := by
    intro n4
    induction n4 with
    | zero => intro x0 x1 x2 h; exact absurd h (by simp [f_X11_power_L4])
    | succ n4 ih4 =>
      intro x0 x1 x2 h H locs ls w hl
      change f_X11_power_b4 (f_X11_power_L4 n4) x0 x1 x2 = some out at h
      unfold f_X11_power_b4 at h
      refine lv_iload_n hx hb dX11_power_4 rfl (lv_at hl 2 rfl) ?_
      refine lv_iload_n hx hb dX11_power_5 rfl (lv_at hl 0 rfl) ?_
      refine lv_icmp_ge (tgt := 20) hx hb dX11_power_6 (by decide) (fun c1 => ?_) (fun c1 => ?_)
      · have h := it_t h c1
        refine lv_iload_n hx hb dX11_power_20 rfl (lv_at hl 1 rfl) ?_
        rw [hQ]
        exact qI C w h dX11_power_21
      · have h := it_f h c1
        refine lv_iload_n hx hb dX11_power_9 rfl (lv_at hl 1 rfl) ?_
        refine lv_bipush (v := 10) hx hb dX11_power_10 (by decide) ?_
        refine lv_imul hx hb dX11_power_12 ?_
        refine lv_istore_n (lv' := [(1, .int (x1 * (10 : Int32))), (0, .int x0), (2, .int x2)]) hx hb dX11_power_13 rfl hl (by decide) rfl (fun ls hl => ?_)
        refine lv_iinc (v := (x2 + (1 : Int32))) (lv' := [(2, .int (x2 + (1 : Int32))), (1, .int (x1 * (10 : Int32))), (0, .int x0)]) hx hb dX11_power_14 hl (k := 2) rfl rfl (by decide) rfl (fun ls hl => ?_)
        refine lv_goto (tgt := 4) hx hb dX11_power_17 (by decide) ?_
        exact ih4 _ _ _ h _ _ _ w (lv_sub hl [2, 1, 0] rfl)
  have h := hf
  unfold f_X11_power at h
  refine lv_iconst (v := 1) hx hb dX11_power_0 (by decide) ?_
  refine lv_istore_n (lv' := [(1, .int (1 : Int32)), (0, .int x0)]) hx hb dX11_power_1 rfl hl (by decide) rfl (fun ls hl => ?_)
  refine lv_iconst (v := 0) hx hb dX11_power_2 (by decide) ?_
  refine lv_istore_n (lv' := [(2, .int (0 : Int32)), (1, .int (1 : Int32)), (0, .int x0)]) hx hb dX11_power_3 rfl hl (by decide) rfl (fun ls hl => ?_)
  exact L4 FU _ _ _ h _ _ _ w (lv_sub hl [2, 1, 0] rfl)
theorem hd_X11_signAt : yX11_signAt.cls ≠ "java/lang/invoke/MethodHandle" ∧ yX11_signAt.cls ≠ "java/lang/invoke/VarHandle" ∧ (parseMethodDescriptor yX11_signAt.desc).map (fun d => d.parameters.length) = some 2 := by decide +kernel
def f_X11_signAt (x0 : Int32) (x1 : Int32) : Option (Int32) := (f_X11_signs x0).bind fun q1 => if q1 ≤ x1 then (some (0 : Int32)) else ((f_X11_signs x0).bind fun q2 => (f_X11_power ((q2 - (1 : Int32)) - x1)).bind fun q3 => if q3 = 0 then none else (some ((x0 / q3) - (x0 / q3) / (10 : Int32) * (10 : Int32))))
abbrev rm_X11_signAt : Room := { frames := 1, cells := 0, slots := 0, locals := 60 }
set_option maxHeartbeats 4000000 in
set_option maxRecDepth 100000 in
theorem c_X11_signAt (l : Launch) (D : va_G) (ca : Nat → ClassId) (ws : va_W) (x0 : Int32) (x1 : Int32) (sz : Nat) (out : Int32) (hf : f_X11_signAt x0 x1 = some out) : Met l yX11_signAt (.code yX11_signAt cX11_signAt 2 (some .int) :: WL) rm_X11_signAt (PreC D ca ws sz [.int x0, .int x1]) (PostI D (va_A ws sz) ws out) 0 0 (va_A ws sz) := by
  refine Met.ofW (cc := cX11_signAt) (maxL := 2) (ret := (some .int)) (by decide) rfl ?_
  intro p e s m args below meth c s₁ B hml hv
  obtain ⟨rfl, hsz, hP, hK, hD, hN⟩ := hv
  subst hsz
  have C := Cx.mk (own := RX11) B hml rfl hK hN (ws := ws)
  have w : Wd (va_A ws s.heap.size) s D ws s.heap [] := ⟨hP, hD.self, va_S.rf⟩
  have hl := lv_entry ([.int x0, .int x1]) (n := 2) (Nat.le_of_ble_eq_true rfl)
  rw [lg_entry_eq]
  generalize (lg_sl ([.int x0, .int x1]) ++ List.replicate (2 - (lg_sl ([.int x0, .int x1])).length) Slot.unset).toArray = ls at hl ⊢
  have hl : lv_has ls 2 [(0, .int x0), (1, .int x1)] := hl
  change W p l e rm_X11_signAt s m _ below meth c _ [] 0 0 _ _
  clear B hP hD hK hN hml
  generalize va_A ws s.heap.size = A at C w ⊢
  generalize ([.int x0, .int x1] : List Value).toArray = av at C ⊢
  obtain ⟨Q, hQ⟩ : ∃ Q, Q = MQ below (PostI D A ws out) av s 0 0 A := ⟨_, rfl⟩
  rw [← hQ]
  have hx := C.1
  have hb := C.2.1
  have h := hf
  unfold f_X11_signAt at h
  refine lv_iload_n hx hb dX11_signAt_0 rfl (lv_at hl 1 rfl) ?_
  refine lv_iload_n hx hb dX11_signAt_1 rfl (lv_at hl 0 rfl) ?_
  obtain ⟨q1, hq1, h⟩ := ob_t h
  refine res_i C w (run_S (As := [.int x0]) (rest := [.int x1]) C w hl.1 (c_X11_signs l D ca _ x0 _ q1 hq1) rfl rfl wl_707 wl_708 wl_5 wl_709 hd_X11_signs rfl ⟨Nat.le_of_ble_eq_true rfl, Nat.le_of_ble_eq_true rfl⟩ rfl (Nat.le_of_ble_eq_true rfl) dX11_signAt_2) (fun H locs w => ?_)
  refine lv_icmp_ge (tgt := 27) hx hb dX11_signAt_5 (by decide) (fun c1 => ?_) (fun c1 => ?_)
  · have h := it_t h c1
    refine lv_iconst (v := 0) hx hb dX11_signAt_27 (by decide) ?_
    rw [hQ]
    exact qI C w h dX11_signAt_28
  · have h := it_f h c1
    refine lv_iload_n hx hb dX11_signAt_8 rfl (lv_at hl 0 rfl) ?_
    refine lv_iload_n hx hb dX11_signAt_9 rfl (lv_at hl 0 rfl) ?_
    obtain ⟨q2, hq2, h⟩ := ob_t h
    refine res_i C w (run_S (As := [.int x0]) (rest := [.int x0]) C w hl.1 (c_X11_signs l D ca _ x0 _ q2 hq2) rfl rfl wl_707 wl_708 wl_5 wl_709 hd_X11_signs rfl ⟨Nat.le_of_ble_eq_true rfl, Nat.le_of_ble_eq_true rfl⟩ rfl (Nat.le_of_ble_eq_true rfl) dX11_signAt_10) (fun H locs w => ?_)
    refine lv_iconst (v := 1) hx hb dX11_signAt_13 (by decide) ?_
    refine lv_isub hx hb dX11_signAt_14 ?_
    refine lv_iload_n hx hb dX11_signAt_15 rfl (lv_at hl 1 rfl) ?_
    refine lv_isub hx hb dX11_signAt_16 ?_
    obtain ⟨q3, hq3, h⟩ := ob_t h
    refine res_i C w (run_S (As := [.int ((q2 - (1 : Int32)) - x1)]) (rest := [.int x0]) C w hl.1 (c_X11_power l D ca _ ((q2 - (1 : Int32)) - x1) _ q3 hq3) rfl rfl wl_710 wl_711 wl_5 wl_712 hd_X11_power rfl ⟨Nat.le_of_ble_eq_true rfl, Nat.le_of_ble_eq_true rfl⟩ rfl (Nat.le_of_ble_eq_true rfl) dX11_signAt_17) (fun H locs w => ?_)
    obtain ⟨n2, h⟩ := dz_t h
    refine lv_idiv hx hb dX11_signAt_20 n2 ?_
    refine lv_bipush (v := 10) hx hb dX11_signAt_21 (by decide) ?_
    refine lv_irem hx hb dX11_signAt_23 (by decide) ?_
    refine lv_goto (tgt := 28) hx hb dX11_signAt_24 (by decide) ?_
    rw [hQ]
    exact qI C w h dX11_signAt_28
theorem hd_X11_meet : yX11_meet.cls = RX11 ∧ yX11_meet.cls ≠ "java/lang/invoke/MethodHandle" ∧ yX11_meet.cls ≠ "java/lang/invoke/VarHandle" ∧ (parseMethodDescriptor yX11_meet.desc).map (fun d => d.parameters.length) = some 2 := by decide +kernel
def f_X11_meet_b14 (σ : St) : Option (Int32 × St) := (f_X11_bad σ (-2 : Int32)).bind fun q1 => some (q1.1, q1.2)
def f_X11_meet_b105 (K26 : St → Int32 → Int32 → Int32 → Int32 → Option (Int32 × St)) (σ : St) (x1 : Int32) (x2 : Int32) (x4 : Int32) (y0 : Int32) : Option (Int32 × St) := K26 σ x1 x2 y0 (x4 + (1 : Int32))
def f_X11_meet_b104 (K26 : St → Int32 → Int32 → Int32 → Int32 → Option (Int32 × St)) (σ : St) (x1 : Int32) (x2 : Int32) (x4 : Int32) (y0 : Int32) (y1 : Int32) : Option (Int32 × St) := f_X11_meet_b105 K26 σ x1 x2 x4 (y1 + y0)
def f_X11_meet_b74 (K26 : St → Int32 → Int32 → Int32 → Int32 → Option (Int32 × St)) (σ : St) (x1 : Int32) (x2 : Int32) (x3 : Int32) (x4 : Int32) (y0 : Int32) : Option (Int32 × St) := if y0 = 0 then (f_X11_meet_b105 K26 σ x1 x2 x4 x3) else (if y0 ≤ (4 : Int32) then (f_X11_meet_b104 K26 σ x1 x2 x4 y0 ((10 : Int32) * x3)) else (f_X11_meet_b104 K26 σ x1 x2 x4 (y0 - (4 : Int32)) ((10 : Int32) * x3)))
def f_X11_meet_b59 (K26 : St → Int32 → Int32 → Int32 → Int32 → Option (Int32 × St)) (σ : St) (x1 : Int32) (x2 : Int32) (x3 : Int32) (x4 : Int32) (x5 : Int32) (x6 : Int32) : Option (Int32 × St) := f_X11_meet_b74 K26 σ x1 x2 x3 x4 (x5 + x6)
def f_X11_meet_b26 (K26 : St → Int32 → Int32 → Int32 → Int32 → Option (Int32 × St)) (σ : St) (x1 : Int32) (x2 : Int32) (x3 : Int32) (x4 : Int32) : Option (Int32 × St) := if (6 : Int32) ≤ x4 then (some (x3, σ)) else ((f_X11_signAt x1 x4).bind fun q1 => (f_X11_signAt x2 x4).bind fun q2 => if q1 = 0 then (f_X11_meet_b59 K26 σ x1 x2 x3 x4 q1 q2) else (if q2 = 0 then (f_X11_meet_b59 K26 σ x1 x2 x3 x4 q1 q2) else (f_X11_meet_b74 K26 σ x1 x2 x3 x4 ((q1 + q2) - (1 : Int32)))))
def f_X11_meet_L26 : Nat → St → Int32 → Int32 → Int32 → Int32 → Option (Int32 × St)
  | 0 => fun _ _ _ _ _ => none
  | n + 1 => f_X11_meet_b26 (f_X11_meet_L26 n)
def f_X11_meet (σ : St) (x1 : Int32) (x2 : Int32) : Option (Int32 × St) := (f_X11_isLetter x1).bind fun q1 => if q1 = 0 then (f_X11_meet_b14 σ) else ((f_X11_isLetter x2).bind fun q2 => if q2 = 0 then (f_X11_meet_b14 σ) else (f_X11_meet_L26 FU σ x1 x2 (0 : Int32) (0 : Int32)))
abbrev rm_X11_meet : Room := { frames := 2, cells := 0, slots := 0, locals := 120 }
set_option maxHeartbeats 4000000 in
set_option maxRecDepth 100000 in
theorem c_X11_meet (l : Launch) (D : va_G) (ca : Nat → ClassId) (ad : Nat → Nat) (σ : St) (x1 : Int32) (x2 : Int32) (sz : Nat) (out : Int32 × St) (hf : f_X11_meet σ x1 x2 = some out) : Met l yX11_meet (.code yX11_meet cX11_meet 8 (some .int) :: WL) rm_X11_meet (PreC D ca (MW ca ad σ) sz [.ref (ad 0), .int x1, .int x2]) (PostI D (va_A (MW ca ad σ) sz) (MW ca ad out.2) out.1) 0 0 (va_A (MW ca ad σ) sz) := by
  refine Met.ofW (cc := cX11_meet) (maxL := 8) (ret := (some .int)) (by decide) rfl ?_
  intro p e s m args below meth c s₁ B hml hv
  obtain ⟨rfl, hsz, hP, hK, hD, hN⟩ := hv
  subst hsz
  have C := Cx.mk (own := RX11) B hml rfl hK hN (ws := (MW ca ad σ))
  have w : Wd (va_A (MW ca ad σ) s.heap.size) s D (MW ca ad σ) s.heap [] := ⟨hP, hD.self, va_S.rf⟩
  have hl := lv_entry ([.ref (ad 0), .int x1, .int x2]) (n := 8) (Nat.le_of_ble_eq_true rfl)
  rw [lg_entry_eq]
  generalize (lg_sl ([.ref (ad 0), .int x1, .int x2]) ++ List.replicate (8 - (lg_sl ([.ref (ad 0), .int x1, .int x2])).length) Slot.unset).toArray = ls at hl ⊢
  have hl : lv_has ls 8 [(0, .ref (ad 0)), (1, .int x1), (2, .int x2)] := hl
  change W p l e rm_X11_meet s m _ below meth c _ [] 0 0 _ _
  clear B hP hD hK hN hml
  generalize va_A (MW ca ad σ) s.heap.size = A at C w ⊢
  generalize ([.ref (ad 0), .int x1, .int x2] : List Value).toArray = av at C ⊢
  obtain ⟨Q, hQ⟩ : ∃ Q, Q = MQ below (PostI D A (MW ca ad out.2) out.1) av s 0 0 A := ⟨_, rfl⟩
  rw [← hQ]
  have hx := C.1
  have hb := C.2.1
  have b14 : ∀ (σ : St), f_X11_meet_b14 σ = some out → Bk p l e rm_X11_meet s m av below meth c A D 8 Q (MW ca ad σ) 14 [(0, .ref (ad 0))] [] := by
    intro σ h H locs ls w hl
    unfold f_X11_meet_b14 at h
    refine lv_aload_n hx hb dX11_meet_14 rfl (lv_at hl 0 rfl) ?_
    refine lv_bipush (v := -2) hx hb dX11_meet_15 (by decide) ?_
    obtain ⟨q1, hq1, h⟩ := ob_t h
    refine res_i C w (run_V (As := [.int (-2 : Int32)]) (rest := []) C w hl.1 (recvM0 C w) (c_X11_bad l D ca ad _ (-2 : Int32) _ q1 hq1) rfl rfl wl_140 wl_141 wl_142 wl_5 wl_143 hd_X11_bad rfl ⟨Nat.le_of_ble_eq_true rfl, Nat.le_of_ble_eq_true rfl⟩ rfl (Nat.le_of_ble_eq_true rfl) dX11_meet_17) (fun H locs w => ?_)
    rw [hQ]
    exact rI (F := MW ca ad) C w h dX11_meet_20
  have L26 : ∀ (n26 : Nat) (σ : St) (x1 : Int32) (x2 : Int32) (x3 : Int32) (x4 : Int32), f_X11_meet_L26 n26 σ x1 x2 x3 x4 = some out → Bk p l e rm_X11_meet s m av below meth c A D 8 Q (MW ca ad σ) 26 [(1, .int x1), (2, .int x2), (3, .int x3), (4, .int x4)] [] := by
    intro n26
    induction n26 with
    | zero => intro σ x1 x2 x3 x4 h; exact absurd h (by simp [f_X11_meet_L26])
    | succ n26 ih26 =>
      have b105 : ∀ (σ : St) (x1 : Int32) (x2 : Int32) (x4 : Int32) (y0 : Int32), f_X11_meet_b105 (f_X11_meet_L26 n26) σ x1 x2 x4 y0 = some out → Bk p l e rm_X11_meet s m av below meth c A D 8 Q (MW ca ad σ) 105 [(1, .int x1), (2, .int x2), (4, .int x4)] [.int y0] := by
        intro σ x1 x2 x4 y0 h H locs ls w hl
        unfold f_X11_meet_b105 at h
        refine lv_istore_n (lv' := [(3, .int y0), (1, .int x1), (2, .int x2), (4, .int x4)]) hx hb dX11_meet_105 rfl hl (by decide) rfl (fun ls hl => ?_)
        refine lv_iinc (v := (x4 + (1 : Int32))) (lv' := [(4, .int (x4 + (1 : Int32))), (3, .int y0), (1, .int x1), (2, .int x2)]) hx hb dX11_meet_106 hl (k := 3) rfl rfl (by decide) rfl (fun ls hl => ?_)
        refine lv_goto (tgt := 26) hx hb dX11_meet_109 (by decide) ?_
        exact ih26 _ _ _ _ _ h _ _ _ w (lv_sub hl [2, 3, 1, 0] rfl)
      have b104 : ∀ (σ : St) (x1 : Int32) (x2 : Int32) (x4 : Int32) (y0 : Int32) (y1 : Int32), f_X11_meet_b104 (f_X11_meet_L26 n26) σ x1 x2 x4 y0 y1 = some out → Bk p l e rm_X11_meet s m av below meth c A D 8 Q (MW ca ad σ) 104 [(1, .int x1), (2, .int x2), (4, .int x4)] [.int y0, .int y1] := by
        intro σ x1 x2 x4 y0 y1 h H locs ls w hl
        unfold f_X11_meet_b104 at h
        refine lv_iadd hx hb dX11_meet_104 ?_
        exact b105 _ _ _ _ _ h _ _ _ w (lv_sub hl [0, 1, 2] rfl)
      have b74 : ∀ (σ : St) (x1 : Int32) (x2 : Int32) (x3 : Int32) (x4 : Int32) (y0 : Int32), f_X11_meet_b74 (f_X11_meet_L26 n26) σ x1 x2 x3 x4 y0 = some out → Bk p l e rm_X11_meet s m av below meth c A D 8 Q (MW ca ad σ) 74 [(1, .int x1), (2, .int x2), (3, .int x3), (4, .int x4)] [.int y0] := by
        intro σ x1 x2 x3 x4 y0 h H locs ls w hl
        unfold f_X11_meet_b74 at h
        refine lv_istore (lv' := [(7, .int y0), (1, .int x1), (2, .int x2), (3, .int x3), (4, .int x4)]) hx hb dX11_meet_74 hl (by decide) rfl (fun ls hl => ?_)
        refine lv_iload hx hb dX11_meet_76 (lv_at hl 0 rfl) ?_
        refine lv_if_ne (tgt := 85) hx hb dX11_meet_78 (by decide) (fun c1 => ?_) (fun c1 => ?_)
        · have h := it_f h c1
          refine lv_bipush (v := 10) hx hb dX11_meet_85 (by decide) ?_
          refine lv_iload_n hx hb dX11_meet_87 rfl (lv_at hl 3 rfl) ?_
          refine lv_imul hx hb dX11_meet_88 ?_
          refine lv_iload hx hb dX11_meet_89 (lv_at hl 0 rfl) ?_
          refine lv_iconst (v := 4) hx hb dX11_meet_91 (by decide) ?_
          refine lv_icmp_le (tgt := 102) hx hb dX11_meet_92 (by decide) (fun c2 => ?_) (fun c2 => ?_)
          · have h := it_t h c2
            refine lv_iload hx hb dX11_meet_102 (lv_at hl 0 rfl) ?_
            exact b104 _ _ _ _ _ _ h _ _ _ w (lv_sub hl [1, 2, 4] rfl)
          · have h := it_f h c2
            refine lv_iload hx hb dX11_meet_95 (lv_at hl 0 rfl) ?_
            refine lv_iconst (v := 4) hx hb dX11_meet_97 (by decide) ?_
            refine lv_isub hx hb dX11_meet_98 ?_
            refine lv_goto (tgt := 104) hx hb dX11_meet_99 (by decide) ?_
            exact b104 _ _ _ _ _ _ h _ _ _ w (lv_sub hl [1, 2, 4] rfl)
        · have h := it_t h c1
          refine lv_iload_n hx hb dX11_meet_81 rfl (lv_at hl 3 rfl) ?_
          refine lv_goto (tgt := 105) hx hb dX11_meet_82 (by decide) ?_
          exact b105 _ _ _ _ _ h _ _ _ w (lv_sub hl [1, 2, 4] rfl)
      have b59 : ∀ (σ : St) (x1 : Int32) (x2 : Int32) (x3 : Int32) (x4 : Int32) (x5 : Int32) (x6 : Int32), f_X11_meet_b59 (f_X11_meet_L26 n26) σ x1 x2 x3 x4 x5 x6 = some out → Bk p l e rm_X11_meet s m av below meth c A D 8 Q (MW ca ad σ) 59 [(1, .int x1), (2, .int x2), (3, .int x3), (4, .int x4), (5, .int x5), (6, .int x6)] [] := by
        intro σ x1 x2 x3 x4 x5 x6 h H locs ls w hl
        unfold f_X11_meet_b59 at h
        refine lv_iload hx hb dX11_meet_59 (lv_at hl 4 rfl) ?_
        refine lv_iload hx hb dX11_meet_61 (lv_at hl 5 rfl) ?_
        refine lv_iadd hx hb dX11_meet_63 ?_
        refine lv_goto (tgt := 74) hx hb dX11_meet_64 (by decide) ?_
        exact b74 _ _ _ _ _ _ h _ _ _ w (lv_sub hl [0, 1, 2, 3] rfl)
      intro σ x1 x2 x3 x4 h H locs ls w hl
      change f_X11_meet_b26 (f_X11_meet_L26 n26) σ x1 x2 x3 x4 = some out at h
      unfold f_X11_meet_b26 at h
      refine lv_iload hx hb dX11_meet_26 (lv_at hl 3 rfl) ?_
      refine lv_bipush (v := 6) hx hb dX11_meet_28 (by decide) ?_
      refine lv_icmp_ge (tgt := 112) hx hb dX11_meet_30 (by decide) (fun c1 => ?_) (fun c1 => ?_)
      · have h := it_t h c1
        refine lv_iload_n hx hb dX11_meet_112 rfl (lv_at hl 2 rfl) ?_
        rw [hQ]
        exact rI (F := MW ca ad) C w h dX11_meet_113
      · have h := it_f h c1
        refine lv_iload_n hx hb dX11_meet_33 rfl (lv_at hl 0 rfl) ?_
        refine lv_iload hx hb dX11_meet_34 (lv_at hl 3 rfl) ?_
        obtain ⟨q1, hq1, h⟩ := ob_t h
        refine res_i C w (run_S (As := [.int x1, .int x4]) (rest := []) C w hl.1 (c_X11_signAt l D ca _ x1 x4 _ q1 hq1) rfl rfl wl_704 wl_705 wl_5 wl_706 hd_X11_signAt rfl ⟨Nat.le_of_ble_eq_true rfl, Nat.le_of_ble_eq_true rfl⟩ rfl (Nat.le_of_ble_eq_true rfl) dX11_meet_36) (fun H locs w => ?_)
        refine lv_istore (lv' := [(5, .int q1), (1, .int x1), (2, .int x2), (3, .int x3), (4, .int x4)]) hx hb dX11_meet_39 hl (by decide) rfl (fun ls hl => ?_)
        refine lv_iload_n hx hb dX11_meet_41 rfl (lv_at hl 2 rfl) ?_
        refine lv_iload hx hb dX11_meet_42 (lv_at hl 4 rfl) ?_
        obtain ⟨q2, hq2, h⟩ := ob_t h
        refine res_i C w (run_S (As := [.int x2, .int x4]) (rest := []) C w hl.1 (c_X11_signAt l D ca _ x2 x4 _ q2 hq2) rfl rfl wl_704 wl_705 wl_5 wl_706 hd_X11_signAt rfl ⟨Nat.le_of_ble_eq_true rfl, Nat.le_of_ble_eq_true rfl⟩ rfl (Nat.le_of_ble_eq_true rfl) dX11_meet_44) (fun H locs w => ?_)
        refine lv_istore (lv' := [(6, .int q2), (5, .int q1), (1, .int x1), (2, .int x2), (3, .int x3), (4, .int x4)]) hx hb dX11_meet_47 hl (by decide) rfl (fun ls hl => ?_)
        refine lv_iload hx hb dX11_meet_49 (lv_at hl 1 rfl) ?_
        refine lv_if_eq (tgt := 59) hx hb dX11_meet_51 (by decide) (fun c2 => ?_) (fun c2 => ?_)
        · have h := it_t h c2
          exact b59 _ _ _ _ _ _ _ h _ _ _ w (lv_sub hl [2, 3, 4, 5, 1, 0] rfl)
        · have h := it_f h c2
          refine lv_iload hx hb dX11_meet_54 (lv_at hl 0 rfl) ?_
          refine lv_if_ne (tgt := 67) hx hb dX11_meet_56 (by decide) (fun c3 => ?_) (fun c3 => ?_)
          · have h := it_f h c3
            refine lv_iload hx hb dX11_meet_67 (lv_at hl 1 rfl) ?_
            refine lv_iload hx hb dX11_meet_69 (lv_at hl 0 rfl) ?_
            refine lv_iadd hx hb dX11_meet_71 ?_
            refine lv_iconst (v := 1) hx hb dX11_meet_72 (by decide) ?_
            refine lv_isub hx hb dX11_meet_73 ?_
            exact b74 _ _ _ _ _ _ h _ _ _ w (lv_sub hl [2, 3, 4, 5] rfl)
          · have h := it_t h c3
            exact b59 _ _ _ _ _ _ _ h _ _ _ w (lv_sub hl [2, 3, 4, 5, 1, 0] rfl)
  have h := hf
  unfold f_X11_meet at h
  refine lv_iload_n hx hb dX11_meet_0 rfl (lv_at hl 1 rfl) ?_
  obtain ⟨q1, hq1, h⟩ := ob_t h
  refine res_i C w (run_S (As := [.int x1]) (rest := []) C w hl.1 (c_X11_isLetter l D ca _ x1 _ q1 hq1) rfl rfl wl_524 wl_525 wl_5 wl_526 hd_X11_isLetter rfl ⟨Nat.le_of_ble_eq_true rfl, Nat.le_of_ble_eq_true rfl⟩ rfl (Nat.le_of_ble_eq_true rfl) dX11_meet_1) (fun H locs w => ?_)
  refine lv_if_eq (tgt := 14) hx hb dX11_meet_4 (by decide) (fun c1 => ?_) (fun c1 => ?_)
  · have h := it_t h c1
    exact b14 _ h _ _ _ w (lv_sub hl [0] rfl)
  · have h := it_f h c1
    refine lv_iload_n hx hb dX11_meet_7 rfl (lv_at hl 2 rfl) ?_
    obtain ⟨q2, hq2, h⟩ := ob_t h
    refine res_i C w (run_S (As := [.int x2]) (rest := []) C w hl.1 (c_X11_isLetter l D ca _ x2 _ q2 hq2) rfl rfl wl_524 wl_525 wl_5 wl_526 hd_X11_isLetter rfl ⟨Nat.le_of_ble_eq_true rfl, Nat.le_of_ble_eq_true rfl⟩ rfl (Nat.le_of_ble_eq_true rfl) dX11_meet_8) (fun H locs w => ?_)
    refine lv_if_ne (tgt := 21) hx hb dX11_meet_11 (by decide) (fun c2 => ?_) (fun c2 => ?_)
    · have h := it_f h c2
      refine lv_iconst (v := 0) hx hb dX11_meet_21 (by decide) ?_
      refine lv_istore_n (lv' := [(3, .int (0 : Int32)), (0, .ref (ad 0)), (1, .int x1), (2, .int x2)]) hx hb dX11_meet_22 rfl hl (by decide) rfl (fun ls hl => ?_)
      refine lv_iconst (v := 0) hx hb dX11_meet_23 (by decide) ?_
      refine lv_istore (lv' := [(4, .int (0 : Int32)), (3, .int (0 : Int32)), (0, .ref (ad 0)), (1, .int x1), (2, .int x2)]) hx hb dX11_meet_24 hl (by decide) rfl (fun ls hl => ?_)
      exact L26 FU _ _ _ _ _ h _ _ _ w (lv_sub hl [3, 4, 1, 0] rfl)
    · have h := it_t h c2
      exact b14 _ h _ _ _ w (lv_sub hl [0] rfl)
theorem hd_X11_apart : yX11_apart.cls = RX11 ∧ yX11_apart.cls ≠ "java/lang/invoke/MethodHandle" ∧ yX11_apart.cls ≠ "java/lang/invoke/VarHandle" ∧ (parseMethodDescriptor yX11_apart.desc).map (fun d => d.parameters.length) = some 2 := by decide +kernel
def f_X11_apart_b16 (σ : St) : Option (Int32 × St) := (f_X11_bad σ (-2 : Int32)).bind fun q1 => some (q1.1, q1.2)
def f_X11_apart_b134 (K28 : St → Int32 → Int32 → Int32 → Int32 → Option (Int32 × St)) (σ : St) (x1 : Int32) (x2 : Int32) (x4 : Int32) (y0 : Int32) : Option (Int32 × St) := K28 σ x1 x2 y0 (x4 + (1 : Int32))
def f_X11_apart_b133 (K28 : St → Int32 → Int32 → Int32 → Int32 → Option (Int32 × St)) (σ : St) (x1 : Int32) (x2 : Int32) (x3 : Int32) (x4 : Int32) : Option (Int32 × St) := f_X11_apart_b134 K28 σ x1 x2 x4 x3
def f_X11_apart_b98 (K28 : St → Int32 → Int32 → Int32 → Int32 → Option (Int32 × St)) (σ : St) (x1 : Int32) (x2 : Int32) (x3 : Int32) (x4 : Int32) (x5 : Int32) (y0 : Int32) : Option (Int32 × St) := if x5 = 0 then (f_X11_apart_b133 K28 σ x1 x2 x3 x4) else (if y0 = 0 then (f_X11_apart_b133 K28 σ x1 x2 x3 x4) else ((f_X11_isThereWay σ x1 x2 ((σ.2.2 1 1) ||| x4)).bind fun q1 => if q1.1 = 0 then (f_X11_apart_b134 K28 q1.2 x1 x2 x4 x4) else (f_X11_apart_b133 K28 q1.2 x1 x2 x3 x4)))
def f_X11_apart_b93 (K28 : St → Int32 → Int32 → Int32 → Int32 → Option (Int32 × St)) (σ : St) (x1 : Int32) (x2 : Int32) (x3 : Int32) (x4 : Int32) (x5 : Int32) : Option (Int32 × St) := f_X11_apart_b98 K28 σ x1 x2 x3 x4 x5 (1 : Int32)
def f_X11_apart_b74 (K28 : St → Int32 → Int32 → Int32 → Int32 → Option (Int32 × St)) (σ : St) (x1 : Int32) (x2 : Int32) (x3 : Int32) (x4 : Int32) (y0 : Int32) : Option (Int32 × St) := if x3 = (-1 : Int32) then (f_X11_apart_b93 K28 σ x1 x2 x3 x4 y0) else ((f_X11_bits x4).bind fun q1 => (f_X11_bits x3).bind fun q2 => if q2 ≤ q1 then (f_X11_apart_b98 K28 σ x1 x2 x3 x4 y0 (0 : Int32)) else (f_X11_apart_b93 K28 σ x1 x2 x3 x4 y0))
def f_X11_apart_b73 (K28 : St → Int32 → Int32 → Int32 → Int32 → Option (Int32 × St)) (σ : St) (x1 : Int32) (x2 : Int32) (x3 : Int32) (x4 : Int32) : Option (Int32 × St) := f_X11_apart_b74 K28 σ x1 x2 x3 x4 (0 : Int32)
def f_X11_apart_b28 (K28 : St → Int32 → Int32 → Int32 → Int32 → Option (Int32 × St)) (σ : St) (x1 : Int32) (x2 : Int32) (x3 : Int32) (x4 : Int32) : Option (Int32 × St) := (f_X11_many σ).bind fun q1 => if ((1 : Int32) <<< (q1.1 &&& 31)) ≤ x4 then (some (x3, q1.2)) else ((f_X11_has x4 x1).bind fun q2 => if q2 = 0 then ((f_X11_has x4 x2).bind fun q3 => if q3 = 0 then (if (x4 &&& (q1.2.2.2 1 1)) = 0 then (f_X11_apart_b74 K28 q1.2 x1 x2 x3 x4 (1 : Int32)) else (f_X11_apart_b73 K28 q1.2 x1 x2 x3 x4)) else (f_X11_apart_b73 K28 q1.2 x1 x2 x3 x4)) else (f_X11_apart_b73 K28 q1.2 x1 x2 x3 x4))
def f_X11_apart_L28 : Nat → St → Int32 → Int32 → Int32 → Int32 → Option (Int32 × St)
  | 0 => fun _ _ _ _ _ => none
  | n + 1 => f_X11_apart_b28 (f_X11_apart_L28 n)
def f_X11_apart (σ : St) (x1 : Int32) (x2 : Int32) : Option (Int32 × St) := (f_X11_isTree σ x1).bind fun q1 => if q1.1 = 0 then (f_X11_apart_b16 q1.2) else ((f_X11_isTree q1.2 x2).bind fun q2 => if q2.1 = 0 then (f_X11_apart_b16 q2.2) else (f_X11_apart_L28 FU q2.2 x1 x2 (-1 : Int32) (0 : Int32)))
abbrev rm_X11_apart : Room := { frames := 3, cells := 0, slots := 0, locals := 180 }
set_option maxHeartbeats 4000000 in
set_option maxRecDepth 100000 in
theorem c_X11_apart (l : Launch) (D : va_G) (ca : Nat → ClassId) (ad : Nat → Nat) (σ : St) (x1 : Int32) (x2 : Int32) (sz : Nat) (out : Int32 × St) (hf : f_X11_apart σ x1 x2 = some out) : Met l yX11_apart (.code yX11_apart cX11_apart 7 (some .int) :: WL) rm_X11_apart (PreC D ca (MW ca ad σ) sz [.ref (ad 0), .int x1, .int x2]) (PostI D (va_A (MW ca ad σ) sz) (MW ca ad out.2) out.1) 0 0 (va_A (MW ca ad σ) sz) := by
  refine Met.ofW (cc := cX11_apart) (maxL := 7) (ret := (some .int)) (by decide) rfl ?_
  intro p e s m args below meth c s₁ B hml hv
  obtain ⟨rfl, hsz, hP, hK, hD, hN⟩ := hv
  subst hsz
  have C := Cx.mk (own := RX11) B hml rfl hK hN (ws := (MW ca ad σ))
  have w : Wd (va_A (MW ca ad σ) s.heap.size) s D (MW ca ad σ) s.heap [] := ⟨hP, hD.self, va_S.rf⟩
  have hl := lv_entry ([.ref (ad 0), .int x1, .int x2]) (n := 7) (Nat.le_of_ble_eq_true rfl)
  rw [lg_entry_eq]
  generalize (lg_sl ([.ref (ad 0), .int x1, .int x2]) ++ List.replicate (7 - (lg_sl ([.ref (ad 0), .int x1, .int x2])).length) Slot.unset).toArray = ls at hl ⊢
  have hl : lv_has ls 7 [(0, .ref (ad 0)), (1, .int x1), (2, .int x2)] := hl
  change W p l e rm_X11_apart s m _ below meth c _ [] 0 0 _ _
  clear B hP hD hK hN hml
  generalize va_A (MW ca ad σ) s.heap.size = A at C w ⊢
  generalize ([.ref (ad 0), .int x1, .int x2] : List Value).toArray = av at C ⊢
  obtain ⟨Q, hQ⟩ : ∃ Q, Q = MQ below (PostI D A (MW ca ad out.2) out.1) av s 0 0 A := ⟨_, rfl⟩
  rw [← hQ]
  have hx := C.1
  have hb := C.2.1
  have b16 : ∀ (σ : St), f_X11_apart_b16 σ = some out → Bk p l e rm_X11_apart s m av below meth c A D 7 Q (MW ca ad σ) 16 [(0, .ref (ad 0))] [] := by
    intro σ h H locs ls w hl
    unfold f_X11_apart_b16 at h
    refine lv_aload_n hx hb dX11_apart_16 rfl (lv_at hl 0 rfl) ?_
    refine lv_bipush (v := -2) hx hb dX11_apart_17 (by decide) ?_
    obtain ⟨q1, hq1, h⟩ := ob_t h
    refine res_i C w (run_V (As := [.int (-2 : Int32)]) (rest := []) C w hl.1 (recvM0 C w) (c_X11_bad l D ca ad _ (-2 : Int32) _ q1 hq1) rfl rfl wl_140 wl_141 wl_142 wl_5 wl_143 hd_X11_bad rfl ⟨Nat.le_of_ble_eq_true rfl, Nat.le_of_ble_eq_true rfl⟩ rfl (Nat.le_of_ble_eq_true rfl) dX11_apart_19) (fun H locs w => ?_)
    rw [hQ]
    exact rI (F := MW ca ad) C w h dX11_apart_22
  have L28 : ∀ (n28 : Nat) (σ : St) (x1 : Int32) (x2 : Int32) (x3 : Int32) (x4 : Int32), f_X11_apart_L28 n28 σ x1 x2 x3 x4 = some out → Bk p l e rm_X11_apart s m av below meth c A D 7 Q (MW ca ad σ) 28 [(0, .ref (ad 0)), (1, .int x1), (2, .int x2), (3, .int x3), (4, .int x4)] [] := by
    intro n28
    induction n28 with
    | zero => intro σ x1 x2 x3 x4 h; exact absurd h (by simp [f_X11_apart_L28])
    | succ n28 ih28 =>
      have b134 : ∀ (σ : St) (x1 : Int32) (x2 : Int32) (x4 : Int32) (y0 : Int32), f_X11_apart_b134 (f_X11_apart_L28 n28) σ x1 x2 x4 y0 = some out → Bk p l e rm_X11_apart s m av below meth c A D 7 Q (MW ca ad σ) 134 [(0, .ref (ad 0)), (1, .int x1), (2, .int x2), (4, .int x4)] [.int y0] := by
        intro σ x1 x2 x4 y0 h H locs ls w hl
        unfold f_X11_apart_b134 at h
        refine lv_istore_n (lv' := [(3, .int y0), (0, .ref (ad 0)), (1, .int x1), (2, .int x2), (4, .int x4)]) hx hb dX11_apart_134 rfl hl (by decide) rfl (fun ls hl => ?_)
        refine lv_iinc (v := (x4 + (1 : Int32))) (lv' := [(4, .int (x4 + (1 : Int32))), (3, .int y0), (0, .ref (ad 0)), (1, .int x1), (2, .int x2)]) hx hb dX11_apart_135 hl (k := 4) rfl rfl (by decide) rfl (fun ls hl => ?_)
        refine lv_goto (tgt := 28) hx hb dX11_apart_138 (by decide) ?_
        exact ih28 _ _ _ _ _ h _ _ _ w (lv_sub hl [2, 3, 4, 1, 0] rfl)
      have b133 : ∀ (σ : St) (x1 : Int32) (x2 : Int32) (x3 : Int32) (x4 : Int32), f_X11_apart_b133 (f_X11_apart_L28 n28) σ x1 x2 x3 x4 = some out → Bk p l e rm_X11_apart s m av below meth c A D 7 Q (MW ca ad σ) 133 [(0, .ref (ad 0)), (1, .int x1), (2, .int x2), (3, .int x3), (4, .int x4)] [] := by
        intro σ x1 x2 x3 x4 h H locs ls w hl
        unfold f_X11_apart_b133 at h
        refine lv_iload_n hx hb dX11_apart_133 rfl (lv_at hl 3 rfl) ?_
        exact b134 _ _ _ _ _ h _ _ _ w (lv_sub hl [0, 1, 2, 4] rfl)
      have b98 : ∀ (σ : St) (x1 : Int32) (x2 : Int32) (x3 : Int32) (x4 : Int32) (x5 : Int32) (y0 : Int32), f_X11_apart_b98 (f_X11_apart_L28 n28) σ x1 x2 x3 x4 x5 y0 = some out → Bk p l e rm_X11_apart s m av below meth c A D 7 Q (MW ca ad σ) 98 [(0, .ref (ad 0)), (1, .int x1), (2, .int x2), (3, .int x3), (4, .int x4), (5, .int x5)] [.int y0] := by
        intro σ x1 x2 x3 x4 x5 y0 h H locs ls w hl
        unfold f_X11_apart_b98 at h
        refine lv_istore (lv' := [(6, .int y0), (0, .ref (ad 0)), (1, .int x1), (2, .int x2), (3, .int x3), (4, .int x4), (5, .int x5)]) hx hb dX11_apart_98 hl (by decide) rfl (fun ls hl => ?_)
        refine lv_iload hx hb dX11_apart_100 (lv_at hl 6 rfl) ?_
        refine lv_if_eq (tgt := 133) hx hb dX11_apart_102 (by decide) (fun c1 => ?_) (fun c1 => ?_)
        · have h := it_t h c1
          exact b133 _ _ _ _ _ h _ _ _ w (lv_sub hl [1, 2, 3, 4, 5] rfl)
        · have h := it_f h c1
          refine lv_iload hx hb dX11_apart_105 (lv_at hl 0 rfl) ?_
          refine lv_if_eq (tgt := 133) hx hb dX11_apart_107 (by decide) (fun c2 => ?_) (fun c2 => ?_)
          · have h := it_t h c2
            exact b133 _ _ _ _ _ h _ _ _ w (lv_sub hl [1, 2, 3, 4, 5] rfl)
          · have h := it_f h c2
            refine lv_aload_n hx hb dX11_apart_110 rfl (lv_at hl 1 rfl) ?_
            refine lv_iload_n hx hb dX11_apart_111 rfl (lv_at hl 2 rfl) ?_
            refine lv_iload_n hx hb dX11_apart_112 rfl (lv_at hl 3 rfl) ?_
            refine lv_aload_n hx hb dX11_apart_113 rfl (lv_at hl 1 rfl) ?_
            refine gM0_0 C w wl_94 dX11_apart_114 ?_
            refine lv_iconst (v := 1) hx hb dX11_apart_117 (by decide) ?_
            refine ldM1 (v := (σ.2.2 1 1)) C w (vl (by decide)) rfl dX11_apart_118 ?_
            refine lv_iload hx hb dX11_apart_119 (lv_at hl 5 rfl) ?_
            refine lv_ior hx hb dX11_apart_121 ?_
            obtain ⟨q1, hq1, h⟩ := ob_t h
            refine res_i C w (run_V (As := [.int x1, .int x2, .int ((σ.2.2 1 1) ||| x4)]) (rest := []) C w hl.1 (recvM0 C w) (c_X11_isThereWay l D ca ad _ x1 x2 ((σ.2.2 1 1) ||| x4) _ q1 hq1) rfl rfl wl_735 wl_736 wl_737 wl_5 wl_738 hd_X11_isThereWay rfl ⟨Nat.le_of_ble_eq_true rfl, Nat.le_of_ble_eq_true rfl⟩ rfl (Nat.le_of_ble_eq_true rfl) dX11_apart_122) (fun H locs w => ?_)
            refine lv_if_ne (tgt := 133) hx hb dX11_apart_125 (by decide) (fun c3 => ?_) (fun c3 => ?_)
            · have h := it_f h c3
              exact b133 _ _ _ _ _ h _ _ _ w (lv_sub hl [1, 2, 3, 4, 5] rfl)
            · have h := it_t h c3
              refine lv_iload hx hb dX11_apart_128 (lv_at hl 5 rfl) ?_
              refine lv_goto (tgt := 134) hx hb dX11_apart_130 (by decide) ?_
              exact b134 _ _ _ _ _ h _ _ _ w (lv_sub hl [1, 2, 3, 5] rfl)
      have b93 : ∀ (σ : St) (x1 : Int32) (x2 : Int32) (x3 : Int32) (x4 : Int32) (x5 : Int32), f_X11_apart_b93 (f_X11_apart_L28 n28) σ x1 x2 x3 x4 x5 = some out → Bk p l e rm_X11_apart s m av below meth c A D 7 Q (MW ca ad σ) 93 [(0, .ref (ad 0)), (1, .int x1), (2, .int x2), (3, .int x3), (4, .int x4), (5, .int x5)] [] := by
        intro σ x1 x2 x3 x4 x5 h H locs ls w hl
        unfold f_X11_apart_b93 at h
        refine lv_iconst (v := 1) hx hb dX11_apart_93 (by decide) ?_
        refine lv_goto (tgt := 98) hx hb dX11_apart_94 (by decide) ?_
        exact b98 _ _ _ _ _ _ _ h _ _ _ w (lv_sub hl [0, 1, 2, 3, 4, 5] rfl)
      have b74 : ∀ (σ : St) (x1 : Int32) (x2 : Int32) (x3 : Int32) (x4 : Int32) (y0 : Int32), f_X11_apart_b74 (f_X11_apart_L28 n28) σ x1 x2 x3 x4 y0 = some out → Bk p l e rm_X11_apart s m av below meth c A D 7 Q (MW ca ad σ) 74 [(0, .ref (ad 0)), (1, .int x1), (2, .int x2), (3, .int x3), (4, .int x4)] [.int y0] := by
        intro σ x1 x2 x3 x4 y0 h H locs ls w hl
        unfold f_X11_apart_b74 at h
        refine lv_istore (lv' := [(5, .int y0), (0, .ref (ad 0)), (1, .int x1), (2, .int x2), (3, .int x3), (4, .int x4)]) hx hb dX11_apart_74 hl (by decide) rfl (fun ls hl => ?_)
        refine lv_iload_n hx hb dX11_apart_76 rfl (lv_at hl 4 rfl) ?_
        refine lv_iconst (v := -1) hx hb dX11_apart_77 (by decide) ?_
        refine lv_icmp_eq (tgt := 93) hx hb dX11_apart_78 (by decide) (fun c1 => ?_) (fun c1 => ?_)
        · have h := it_t h c1
          exact b93 _ _ _ _ _ _ h _ _ _ w (lv_sub hl [1, 2, 3, 4, 5, 0] rfl)
        · have h := it_f h c1
          refine lv_iload hx hb dX11_apart_81 (lv_at hl 5 rfl) ?_
          obtain ⟨q1, hq1, h⟩ := ob_t h
          refine res_i C w (run_S (As := [.int x4]) (rest := []) C w hl.1 (c_X11_bits l D ca _ x4 _ q1 hq1) rfl rfl wl_732 wl_733 wl_5 wl_734 hd_X11_bits rfl ⟨Nat.le_of_ble_eq_true rfl, Nat.le_of_ble_eq_true rfl⟩ rfl (Nat.le_of_ble_eq_true rfl) dX11_apart_83) (fun H locs w => ?_)
          refine lv_iload_n hx hb dX11_apart_86 rfl (lv_at hl 4 rfl) ?_
          obtain ⟨q2, hq2, h⟩ := ob_t h
          refine res_i C w (run_S (As := [.int x3]) (rest := [.int q1]) C w hl.1 (c_X11_bits l D ca _ x3 _ q2 hq2) rfl rfl wl_732 wl_733 wl_5 wl_734 hd_X11_bits rfl ⟨Nat.le_of_ble_eq_true rfl, Nat.le_of_ble_eq_true rfl⟩ rfl (Nat.le_of_ble_eq_true rfl) dX11_apart_87) (fun H locs w => ?_)
          refine lv_icmp_ge (tgt := 97) hx hb dX11_apart_90 (by decide) (fun c2 => ?_) (fun c2 => ?_)
          · have h := it_t h c2
            refine lv_iconst (v := 0) hx hb dX11_apart_97 (by decide) ?_
            exact b98 _ _ _ _ _ _ _ h _ _ _ w (lv_sub hl [1, 2, 3, 4, 5, 0] rfl)
          · have h := it_f h c2
            exact b93 _ _ _ _ _ _ h _ _ _ w (lv_sub hl [1, 2, 3, 4, 5, 0] rfl)
      have b73 : ∀ (σ : St) (x1 : Int32) (x2 : Int32) (x3 : Int32) (x4 : Int32), f_X11_apart_b73 (f_X11_apart_L28 n28) σ x1 x2 x3 x4 = some out → Bk p l e rm_X11_apart s m av below meth c A D 7 Q (MW ca ad σ) 73 [(0, .ref (ad 0)), (1, .int x1), (2, .int x2), (3, .int x3), (4, .int x4)] [] := by
        intro σ x1 x2 x3 x4 h H locs ls w hl
        unfold f_X11_apart_b73 at h
        refine lv_iconst (v := 0) hx hb dX11_apart_73 (by decide) ?_
        exact b74 _ _ _ _ _ _ h _ _ _ w (lv_sub hl [0, 1, 2, 3, 4] rfl)
      intro σ x1 x2 x3 x4 h H locs ls w hl
      change f_X11_apart_b28 (f_X11_apart_L28 n28) σ x1 x2 x3 x4 = some out at h
      unfold f_X11_apart_b28 at h
      refine lv_iload hx hb dX11_apart_28 (lv_at hl 4 rfl) ?_
      refine lv_iconst (v := 1) hx hb dX11_apart_30 (by decide) ?_
      refine lv_aload_n hx hb dX11_apart_31 rfl (lv_at hl 0 rfl) ?_
      obtain ⟨q1, hq1, h⟩ := ob_t h
      refine res_i C w (run_V (As := []) (rest := [.int (1 : Int32), .int x4]) C w hl.1 (recvM0 C w) (c_X11_many l D ca ad _  _ q1 hq1) rfl rfl wl_144 wl_145 wl_146 wl_5 wl_147 hd_X11_many rfl ⟨Nat.le_of_ble_eq_true rfl, Nat.le_of_ble_eq_true rfl⟩ rfl (Nat.le_of_ble_eq_true rfl) dX11_apart_32) (fun H locs w => ?_)
      refine lv_ishl hx hb dX11_apart_35 ?_
      refine lv_icmp_ge (tgt := 141) hx hb dX11_apart_36 (by decide) (fun c1 => ?_) (fun c1 => ?_)
      · have h := it_t h c1
        refine lv_iload_n hx hb dX11_apart_141 rfl (lv_at hl 3 rfl) ?_
        rw [hQ]
        exact rI (F := MW ca ad) C w h dX11_apart_142
      · have h := it_f h c1
        refine lv_iload hx hb dX11_apart_39 (lv_at hl 4 rfl) ?_
        refine lv_iload_n hx hb dX11_apart_41 rfl (lv_at hl 1 rfl) ?_
        obtain ⟨q2, hq2, h⟩ := ob_t h
        refine res_i C w (run_S (As := [.int x4, .int x1]) (rest := []) C w hl.1 (c_X11_has l D ca _ x4 x1 _ q2 hq2) rfl rfl wl_583 wl_584 wl_5 wl_585 hd_X11_has rfl ⟨Nat.le_of_ble_eq_true rfl, Nat.le_of_ble_eq_true rfl⟩ rfl (Nat.le_of_ble_eq_true rfl) dX11_apart_42) (fun H locs w => ?_)
        refine lv_if_ne (tgt := 73) hx hb dX11_apart_45 (by decide) (fun c2 => ?_) (fun c2 => ?_)
        · have h := it_f h c2
          exact b73 _ _ _ _ _ h _ _ _ w (lv_sub hl [0, 1, 2, 3, 4] rfl)
        · have h := it_t h c2
          refine lv_iload hx hb dX11_apart_48 (lv_at hl 4 rfl) ?_
          refine lv_iload_n hx hb dX11_apart_50 rfl (lv_at hl 2 rfl) ?_
          obtain ⟨q3, hq3, h⟩ := ob_t h
          refine res_i C w (run_S (As := [.int x4, .int x2]) (rest := []) C w hl.1 (c_X11_has l D ca _ x4 x2 _ q3 hq3) rfl rfl wl_583 wl_584 wl_5 wl_585 hd_X11_has rfl ⟨Nat.le_of_ble_eq_true rfl, Nat.le_of_ble_eq_true rfl⟩ rfl (Nat.le_of_ble_eq_true rfl) dX11_apart_51) (fun H locs w => ?_)
          refine lv_if_ne (tgt := 73) hx hb dX11_apart_54 (by decide) (fun c3 => ?_) (fun c3 => ?_)
          · have h := it_f h c3
            exact b73 _ _ _ _ _ h _ _ _ w (lv_sub hl [0, 1, 2, 3, 4] rfl)
          · have h := it_t h c3
            refine lv_iload hx hb dX11_apart_57 (lv_at hl 4 rfl) ?_
            refine lv_aload_n hx hb dX11_apart_59 rfl (lv_at hl 0 rfl) ?_
            refine gM0_0 C w wl_94 dX11_apart_60 ?_
            refine lv_iconst (v := 1) hx hb dX11_apart_63 (by decide) ?_
            refine ldM1 (v := (q1.2.2.2 1 1)) C w (vl (by decide)) rfl dX11_apart_64 ?_
            refine lv_iand hx hb dX11_apart_65 ?_
            refine lv_if_ne (tgt := 73) hx hb dX11_apart_66 (by decide) (fun c4 => ?_) (fun c4 => ?_)
            · have h := it_f h c4
              exact b73 _ _ _ _ _ h _ _ _ w (lv_sub hl [0, 1, 2, 3, 4] rfl)
            · have h := it_t h c4
              refine lv_iconst (v := 1) hx hb dX11_apart_69 (by decide) ?_
              refine lv_goto (tgt := 74) hx hb dX11_apart_70 (by decide) ?_
              exact b74 _ _ _ _ _ _ h _ _ _ w (lv_sub hl [0, 1, 2, 3, 4] rfl)
  have h := hf
  unfold f_X11_apart at h
  refine lv_aload_n hx hb dX11_apart_0 rfl (lv_at hl 0 rfl) ?_
  refine lv_iload_n hx hb dX11_apart_1 rfl (lv_at hl 1 rfl) ?_
  obtain ⟨q1, hq1, h⟩ := ob_t h
  refine res_i C w (run_V (As := [.int x1]) (rest := []) C w hl.1 (recvM0 C w) (c_X11_isTree l D ca ad _ x1 _ q1 hq1) rfl rfl wl_188 wl_189 wl_190 wl_5 wl_191 hd_X11_isTree rfl ⟨Nat.le_of_ble_eq_true rfl, Nat.le_of_ble_eq_true rfl⟩ rfl (Nat.le_of_ble_eq_true rfl) dX11_apart_2) (fun H locs w => ?_)
  refine lv_if_eq (tgt := 16) hx hb dX11_apart_5 (by decide) (fun c1 => ?_) (fun c1 => ?_)
  · have h := it_t h c1
    exact b16 _ h _ _ _ w (lv_sub hl [0] rfl)
  · have h := it_f h c1
    refine lv_aload_n hx hb dX11_apart_8 rfl (lv_at hl 0 rfl) ?_
    refine lv_iload_n hx hb dX11_apart_9 rfl (lv_at hl 2 rfl) ?_
    obtain ⟨q2, hq2, h⟩ := ob_t h
    refine res_i C w (run_V (As := [.int x2]) (rest := []) C w hl.1 (recvM0 C w) (c_X11_isTree l D ca ad _ x2 _ q2 hq2) rfl rfl wl_188 wl_189 wl_190 wl_5 wl_191 hd_X11_isTree rfl ⟨Nat.le_of_ble_eq_true rfl, Nat.le_of_ble_eq_true rfl⟩ rfl (Nat.le_of_ble_eq_true rfl) dX11_apart_10) (fun H locs w => ?_)
    refine lv_if_ne (tgt := 23) hx hb dX11_apart_13 (by decide) (fun c2 => ?_) (fun c2 => ?_)
    · have h := it_f h c2
      refine lv_iconst (v := -1) hx hb dX11_apart_23 (by decide) ?_
      refine lv_istore_n (lv' := [(3, .int (-1 : Int32)), (0, .ref (ad 0)), (1, .int x1), (2, .int x2)]) hx hb dX11_apart_24 rfl hl (by decide) rfl (fun ls hl => ?_)
      refine lv_iconst (v := 0) hx hb dX11_apart_25 (by decide) ?_
      refine lv_istore (lv' := [(4, .int (0 : Int32)), (3, .int (-1 : Int32)), (0, .ref (ad 0)), (1, .int x1), (2, .int x2)]) hx hb dX11_apart_26 hl (by decide) rfl (fun ls hl => ?_)
      exact L28 FU _ _ _ _ _ h _ _ _ w (lv_sub hl [2, 3, 4, 1, 0] rfl)
    · have h := it_t h c2
      exact b16 _ h _ _ _ w (lv_sub hl [0] rfl)
theorem hd_X11_most : yX11_most.cls = RX11 ∧ yX11_most.cls ≠ "java/lang/invoke/MethodHandle" ∧ yX11_most.cls ≠ "java/lang/invoke/VarHandle" ∧ (parseMethodDescriptor yX11_most.desc).map (fun d => d.parameters.length) = some 0 := by decide +kernel
def f_X11_most_b90 (K25 : St → Int32 → Option (Int32 × St)) (K44 : St → Int32 → Option (Int32 × St)) (σ : St) (x1 : Int32) : Option (Int32 × St) := (f_X11_goOn σ).bind fun q1 => K44 q1 x1
def f_X11_most_b53 (K25 : St → Int32 → Option (Int32 × St)) (K44 : St → Int32 → Option (Int32 × St)) (K53 : St → Int32 → Int32 → Option (Int32 × St)) (σ : St) (x1 : Int32) (x2 : Int32) : Option (Int32 × St) := if (σ.1 7) ≤ x2 then (f_X11_most_b90 K25 K44 σ x1) else (if (σ.1 7) ≤ (1 : Int32) then (f_X11_most_b90 K25 K44 σ x1) else (cond (ckI x2 7) (cond (ckI (σ.2.2 5 x2.toNatClampNeg) 7) (cond (ckI (σ.2.2 5 x2.toNatClampNeg) 7) (K53 (sE σ 6 (((σ.2.2 5 x2.toNatClampNeg)).toNatClampNeg) ((σ.2.2 6 ((σ.2.2 5 x2.toNatClampNeg)).toNatClampNeg) + (1 : Int32))) x1 (x2 + (1 : Int32))) none) none) none))
def f_X11_most_L53 (K25 : St → Int32 → Option (Int32 × St)) (K44 : St → Int32 → Option (Int32 × St)) : Nat → St → Int32 → Int32 → Option (Int32 × St)
  | 0 => fun _ _ _ => none
  | n + 1 => f_X11_most_b53 K25 K44 (f_X11_most_L53 K25 K44 n)
def f_X11_most_b44 (K25 : St → Int32 → Option (Int32 × St)) (K44 : St → Int32 → Option (Int32 × St)) (σ : St) (x1 : Int32) : Option (Int32 × St) := if (σ.1 7) ≤ 0 then (K25 σ (x1 + (1 : Int32))) else (f_X11_most_L53 K25 K44 FU σ x1 (0 : Int32))
def f_X11_most_L44 (K25 : St → Int32 → Option (Int32 × St)) : Nat → St → Int32 → Option (Int32 × St)
  | 0 => fun _ _ => none
  | n + 1 => f_X11_most_b44 K25 (f_X11_most_L44 K25 n)
def f_X11_most_b163 (K107 : St → Int32 → Int32 → Option (Int32 × St)) (σ : St) (x2 : Int32) (y0 : Int32) : Option (Int32 × St) := K107 σ y0 (x2 + (1 : Int32))
def f_X11_most_b162 (K107 : St → Int32 → Int32 → Option (Int32 × St)) (σ : St) (x1 : Int32) (x2 : Int32) : Option (Int32 × St) := f_X11_most_b163 K107 σ x2 x1
def f_X11_most_b140 (K107 : St → Int32 → Int32 → Option (Int32 × St)) (σ : St) (x1 : Int32) (x2 : Int32) (y0 : Int32) : Option (Int32 × St) := (f_X11_has (σ.2.2 1 1) x2).bind fun q1 => if q1 = 0 then (if y0 = 0 then (f_X11_most_b162 K107 σ x1 x2) else (f_X11_most_b163 K107 σ x2 x2)) else (f_X11_most_b162 K107 σ x1 x2)
def f_X11_most_b135 (K107 : St → Int32 → Int32 → Option (Int32 × St)) (σ : St) (x1 : Int32) (x2 : Int32) : Option (Int32 × St) := f_X11_most_b140 K107 σ x1 x2 (1 : Int32)
def f_X11_most_b107 (K107 : St → Int32 → Int32 → Option (Int32 × St)) (σ : St) (x1 : Int32) (x2 : Int32) : Option (Int32 × St) := (f_X11_many σ).bind fun q1 => if q1.1 ≤ x2 then (some (x1, q1.2)) else (if x1 = (-1 : Int32) then (f_X11_most_b135 K107 q1.2 x1 x2) else (cond (ckI x2 7) (cond (ckI x1 7) (if (q1.2.2.2 6 x2.toNatClampNeg) ≤ (q1.2.2.2 6 x1.toNatClampNeg) then (f_X11_most_b140 K107 q1.2 x1 x2 (0 : Int32)) else (f_X11_most_b135 K107 q1.2 x1 x2)) none) none))
def f_X11_most_L107 : Nat → St → Int32 → Int32 → Option (Int32 × St)
  | 0 => fun _ _ _ => none
  | n + 1 => f_X11_most_b107 (f_X11_most_L107 n)
def f_X11_most_b25 (K25 : St → Int32 → Option (Int32 × St)) (σ : St) (x1 : Int32) : Option (Int32 × St) := (f_X11_many σ).bind fun q1 => if q1.1 ≤ x1 then (f_X11_most_L107 FU q1.2 (-1 : Int32) (0 : Int32)) else ((f_X11_layFirst q1.2 x1 (q1.2.2.2 1 1)).bind fun q2 => f_X11_most_L44 K25 FU q2 x1)
def f_X11_most_L25 : Nat → St → Int32 → Option (Int32 × St)
  | 0 => fun _ _ => none
  | n + 1 => f_X11_most_b25 (f_X11_most_L25 n)
def f_X11_most_b2 (K2 : St → Int32 → Option (Int32 × St)) (σ : St) (x1 : Int32) : Option (Int32 × St) := (f_X11_many σ).bind fun q1 => if q1.1 ≤ x1 then (f_X11_most_L25 FU q1.2 (0 : Int32)) else (cond (ckI x1 7) (K2 (sE q1.2 6 x1.toNatClampNeg (0 : Int32)) (x1 + (1 : Int32))) none)
def f_X11_most_L2 : Nat → St → Int32 → Option (Int32 × St)
  | 0 => fun _ _ => none
  | n + 1 => f_X11_most_b2 (f_X11_most_L2 n)
def f_X11_most (σ : St) : Option (Int32 × St) := f_X11_most_L2 FU σ (0 : Int32)
abbrev rm_X11_most : Room := { frames := 2, cells := 0, slots := 0, locals := 120 }
set_option maxHeartbeats 4000000 in
set_option maxRecDepth 100000 in
theorem c_X11_most (l : Launch) (D : va_G) (ca : Nat → ClassId) (ad : Nat → Nat) (σ : St)  (sz : Nat) (out : Int32 × St) (hf : f_X11_most σ  = some out) : Met l yX11_most (.code yX11_most cX11_most 4 (some .int) :: WL) rm_X11_most (PreC D ca (MW ca ad σ) sz [.ref (ad 0)]) (PostI D (va_A (MW ca ad σ) sz) (MW ca ad out.2) out.1) 0 0 (va_A (MW ca ad σ) sz) := by
  refine Met.ofW (cc := cX11_most) (maxL := 4) (ret := (some .int)) (by decide) rfl ?_
  intro p e s m args below meth c s₁ B hml hv
  obtain ⟨rfl, hsz, hP, hK, hD, hN⟩ := hv
  subst hsz
  have C := Cx.mk (own := RX11) B hml rfl hK hN (ws := (MW ca ad σ))
  have w : Wd (va_A (MW ca ad σ) s.heap.size) s D (MW ca ad σ) s.heap [] := ⟨hP, hD.self, va_S.rf⟩
  have hl := lv_entry ([.ref (ad 0)]) (n := 4) (Nat.le_of_ble_eq_true rfl)
  rw [lg_entry_eq]
  generalize (lg_sl ([.ref (ad 0)]) ++ List.replicate (4 - (lg_sl ([.ref (ad 0)])).length) Slot.unset).toArray = ls at hl ⊢
  have hl : lv_has ls 4 [(0, .ref (ad 0))] := hl
  change W p l e rm_X11_most s m _ below meth c _ [] 0 0 _ _
  clear B hP hD hK hN hml
  generalize va_A (MW ca ad σ) s.heap.size = A at C w ⊢
  generalize ([.ref (ad 0)] : List Value).toArray = av at C ⊢
  obtain ⟨Q, hQ⟩ : ∃ Q, Q = MQ below (PostI D A (MW ca ad out.2) out.1) av s 0 0 A := ⟨_, rfl⟩
  rw [← hQ]
  have hx := C.1
  have hb := C.2.1
  have L107 : ∀ (n107 : Nat) (σ : St) (x1 : Int32) (x2 : Int32), f_X11_most_L107 n107 σ x1 x2 = some out → Bk p l e rm_X11_most s m av below meth c A D 4 Q (MW ca ad σ) 107 [(0, .ref (ad 0)), (1, .int x1), (2, .int x2)] [] := by
    intro n107
    induction n107 with
    | zero => intro σ x1 x2 h; exact absurd h (by simp [f_X11_most_L107])
    | succ n107 ih107 =>
      have b163 : ∀ (σ : St) (x2 : Int32) (y0 : Int32), f_X11_most_b163 (f_X11_most_L107 n107) σ x2 y0 = some out → Bk p l e rm_X11_most s m av below meth c A D 4 Q (MW ca ad σ) 163 [(0, .ref (ad 0)), (2, .int x2)] [.int y0] := by
        intro σ x2 y0 h H locs ls w hl
        unfold f_X11_most_b163 at h
        refine lv_istore_n (lv' := [(1, .int y0), (0, .ref (ad 0)), (2, .int x2)]) hx hb dX11_most_163 rfl hl (by decide) rfl (fun ls hl => ?_)
        refine lv_iinc (v := (x2 + (1 : Int32))) (lv' := [(2, .int (x2 + (1 : Int32))), (1, .int y0), (0, .ref (ad 0))]) hx hb dX11_most_164 hl (k := 2) rfl rfl (by decide) rfl (fun ls hl => ?_)
        refine lv_goto (tgt := 107) hx hb dX11_most_167 (by decide) ?_
        exact ih107 _ _ _ h _ _ _ w (lv_sub hl [2, 1, 0] rfl)
      have b162 : ∀ (σ : St) (x1 : Int32) (x2 : Int32), f_X11_most_b162 (f_X11_most_L107 n107) σ x1 x2 = some out → Bk p l e rm_X11_most s m av below meth c A D 4 Q (MW ca ad σ) 162 [(0, .ref (ad 0)), (1, .int x1), (2, .int x2)] [] := by
        intro σ x1 x2 h H locs ls w hl
        unfold f_X11_most_b162 at h
        refine lv_iload_n hx hb dX11_most_162 rfl (lv_at hl 1 rfl) ?_
        exact b163 _ _ _ h _ _ _ w (lv_sub hl [0, 2] rfl)
      have b140 : ∀ (σ : St) (x1 : Int32) (x2 : Int32) (y0 : Int32), f_X11_most_b140 (f_X11_most_L107 n107) σ x1 x2 y0 = some out → Bk p l e rm_X11_most s m av below meth c A D 4 Q (MW ca ad σ) 140 [(0, .ref (ad 0)), (1, .int x1), (2, .int x2)] [.int y0] := by
        intro σ x1 x2 y0 h H locs ls w hl
        unfold f_X11_most_b140 at h
        refine lv_istore_n (lv' := [(3, .int y0), (0, .ref (ad 0)), (1, .int x1), (2, .int x2)]) hx hb dX11_most_140 rfl hl (by decide) rfl (fun ls hl => ?_)
        refine lv_aload_n hx hb dX11_most_141 rfl (lv_at hl 1 rfl) ?_
        refine gM0_0 C w wl_94 dX11_most_142 ?_
        refine lv_iconst (v := 1) hx hb dX11_most_145 (by decide) ?_
        refine ldM1 (v := (σ.2.2 1 1)) C w (vl (by decide)) rfl dX11_most_146 ?_
        refine lv_iload_n hx hb dX11_most_147 rfl (lv_at hl 3 rfl) ?_
        obtain ⟨q1, hq1, h⟩ := ob_t h
        refine res_i C w (run_S (As := [.int (σ.2.2 1 1), .int x2]) (rest := []) C w hl.1 (c_X11_has l D ca _ (σ.2.2 1 1) x2 _ q1 hq1) rfl rfl wl_583 wl_584 wl_5 wl_585 hd_X11_has rfl ⟨Nat.le_of_ble_eq_true rfl, Nat.le_of_ble_eq_true rfl⟩ rfl (Nat.le_of_ble_eq_true rfl) dX11_most_148) (fun H locs w => ?_)
        refine lv_if_ne (tgt := 162) hx hb dX11_most_151 (by decide) (fun c1 => ?_) (fun c1 => ?_)
        · have h := it_f h c1
          exact b162 _ _ _ h _ _ _ w (lv_sub hl [1, 2, 3] rfl)
        · have h := it_t h c1
          refine lv_iload_n hx hb dX11_most_154 rfl (lv_at hl 0 rfl) ?_
          refine lv_if_eq (tgt := 162) hx hb dX11_most_155 (by decide) (fun c2 => ?_) (fun c2 => ?_)
          · have h := it_t h c2
            exact b162 _ _ _ h _ _ _ w (lv_sub hl [1, 2, 3] rfl)
          · have h := it_f h c2
            refine lv_iload_n hx hb dX11_most_158 rfl (lv_at hl 3 rfl) ?_
            refine lv_goto (tgt := 163) hx hb dX11_most_159 (by decide) ?_
            exact b163 _ _ _ h _ _ _ w (lv_sub hl [1, 3] rfl)
      have b135 : ∀ (σ : St) (x1 : Int32) (x2 : Int32), f_X11_most_b135 (f_X11_most_L107 n107) σ x1 x2 = some out → Bk p l e rm_X11_most s m av below meth c A D 4 Q (MW ca ad σ) 135 [(0, .ref (ad 0)), (1, .int x1), (2, .int x2)] [] := by
        intro σ x1 x2 h H locs ls w hl
        unfold f_X11_most_b135 at h
        refine lv_iconst (v := 1) hx hb dX11_most_135 (by decide) ?_
        refine lv_goto (tgt := 140) hx hb dX11_most_136 (by decide) ?_
        exact b140 _ _ _ _ h _ _ _ w (lv_sub hl [0, 1, 2] rfl)
      intro σ x1 x2 h H locs ls w hl
      change f_X11_most_b107 (f_X11_most_L107 n107) σ x1 x2 = some out at h
      unfold f_X11_most_b107 at h
      refine lv_iload_n hx hb dX11_most_107 rfl (lv_at hl 2 rfl) ?_
      refine lv_aload_n hx hb dX11_most_108 rfl (lv_at hl 0 rfl) ?_
      obtain ⟨q1, hq1, h⟩ := ob_t h
      refine res_i C w (run_V (As := []) (rest := [.int x2]) C w hl.1 (recvM0 C w) (c_X11_many l D ca ad _  _ q1 hq1) rfl rfl wl_144 wl_145 wl_146 wl_5 wl_147 hd_X11_many rfl ⟨Nat.le_of_ble_eq_true rfl, Nat.le_of_ble_eq_true rfl⟩ rfl (Nat.le_of_ble_eq_true rfl) dX11_most_109) (fun H locs w => ?_)
      refine lv_icmp_ge (tgt := 170) hx hb dX11_most_112 (by decide) (fun c1 => ?_) (fun c1 => ?_)
      · have h := it_t h c1
        refine lv_iload_n hx hb dX11_most_170 rfl (lv_at hl 1 rfl) ?_
        rw [hQ]
        exact rI (F := MW ca ad) C w h dX11_most_171
      · have h := it_f h c1
        refine lv_iload_n hx hb dX11_most_115 rfl (lv_at hl 1 rfl) ?_
        refine lv_iconst (v := -1) hx hb dX11_most_116 (by decide) ?_
        refine lv_icmp_eq (tgt := 135) hx hb dX11_most_117 (by decide) (fun c2 => ?_) (fun c2 => ?_)
        · have h := it_t h c2
          exact b135 _ _ _ h _ _ _ w (lv_sub hl [0, 1, 2] rfl)
        · have h := it_f h c2
          refine lv_aload_n hx hb dX11_most_120 rfl (lv_at hl 0 rfl) ?_
          refine gM0_14 C w wl_100 dX11_most_121 ?_
          refine lv_iload_n hx hb dX11_most_124 rfl (lv_at hl 2 rfl) ?_
          obtain ⟨i3, h⟩ := ck_t h
          refine ldM6 (v := (q1.2.2.2 6 x2.toNatClampNeg)) C w i3 rfl dX11_most_125 ?_
          refine lv_aload_n hx hb dX11_most_126 rfl (lv_at hl 0 rfl) ?_
          refine gM0_14 C w wl_100 dX11_most_127 ?_
          refine lv_iload_n hx hb dX11_most_130 rfl (lv_at hl 1 rfl) ?_
          obtain ⟨i4, h⟩ := ck_t h
          refine ldM6 (v := (q1.2.2.2 6 x1.toNatClampNeg)) C w i4 rfl dX11_most_131 ?_
          refine lv_icmp_le (tgt := 139) hx hb dX11_most_132 (by decide) (fun c5 => ?_) (fun c5 => ?_)
          · have h := it_t h c5
            refine lv_iconst (v := 0) hx hb dX11_most_139 (by decide) ?_
            exact b140 _ _ _ _ h _ _ _ w (lv_sub hl [0, 1, 2] rfl)
          · have h := it_f h c5
            exact b135 _ _ _ h _ _ _ w (lv_sub hl [0, 1, 2] rfl)
  have L25 : ∀ (n25 : Nat) (σ : St) (x1 : Int32), f_X11_most_L25 n25 σ x1 = some out → Bk p l e rm_X11_most s m av below meth c A D 4 Q (MW ca ad σ) 25 [(0, .ref (ad 0)), (1, .int x1)] [] := by
    intro n25
    induction n25 with
    | zero => intro σ x1 h; exact absurd h (by simp [f_X11_most_L25])
    | succ n25 ih25 =>
      have L44 : ∀ (n44 : Nat) (σ : St) (x1 : Int32), f_X11_most_L44 (f_X11_most_L25 n25) n44 σ x1 = some out → Bk p l e rm_X11_most s m av below meth c A D 4 Q (MW ca ad σ) 44 [(0, .ref (ad 0)), (1, .int x1)] [] := by
        intro n44
        induction n44 with
        | zero => intro σ x1 h; exact absurd h (by simp [f_X11_most_L44])
        | succ n44 ih44 =>
          have b90 : ∀ (σ : St) (x1 : Int32), f_X11_most_b90 (f_X11_most_L25 n25) (f_X11_most_L44 (f_X11_most_L25 n25) n44) σ x1 = some out → Bk p l e rm_X11_most s m av below meth c A D 4 Q (MW ca ad σ) 90 [(0, .ref (ad 0)), (1, .int x1)] [] := by
            intro σ x1 h H locs ls w hl
            unfold f_X11_most_b90 at h
            refine lv_aload_n hx hb dX11_most_90 rfl (lv_at hl 0 rfl) ?_
            obtain ⟨q1, hq1, h⟩ := ob_t h
            refine res_v C w (run_V (As := []) (rest := []) C w hl.1 (recvM0 C w) (c_X11_goOn l D ca ad _  _ q1 hq1) rfl rfl wl_642 wl_643 wl_644 wl_5 wl_645 hd_X11_goOn rfl ⟨Nat.le_of_ble_eq_true rfl, Nat.le_of_ble_eq_true rfl⟩ rfl (Nat.le_of_ble_eq_true rfl) dX11_most_91) (fun H locs w => ?_)
            refine lv_goto (tgt := 44) hx hb dX11_most_94 (by decide) ?_
            exact ih44 _ _ h _ _ _ w (lv_sub hl [0, 1] rfl)
          have L53 : ∀ (n53 : Nat) (σ : St) (x1 : Int32) (x2 : Int32), f_X11_most_L53 (f_X11_most_L25 n25) (f_X11_most_L44 (f_X11_most_L25 n25) n44) n53 σ x1 x2 = some out → Bk p l e rm_X11_most s m av below meth c A D 4 Q (MW ca ad σ) 53 [(0, .ref (ad 0)), (1, .int x1), (2, .int x2)] [] := by
            intro n53
            induction n53 with
            | zero => intro σ x1 x2 h; exact absurd h (by simp [f_X11_most_L53])
            | succ n53 ih53 =>
              intro σ x1 x2 h H locs ls w hl
              change f_X11_most_b53 (f_X11_most_L25 n25) (f_X11_most_L44 (f_X11_most_L25 n25) n44) (f_X11_most_L53 (f_X11_most_L25 n25) (f_X11_most_L44 (f_X11_most_L25 n25) n44) n53) σ x1 x2 = some out at h
              unfold f_X11_most_b53 at h
              refine lv_iload_n hx hb dX11_most_53 rfl (lv_at hl 2 rfl) ?_
              refine lv_aload_n hx hb dX11_most_54 rfl (lv_at hl 0 rfl) ?_
              refine gM0_7 (v := (σ.1 7)) C w rfl wl_582 dX11_most_55 ?_
              refine lv_icmp_ge (tgt := 90) hx hb dX11_most_58 (by decide) (fun c1 => ?_) (fun c1 => ?_)
              · have h := it_t h c1
                exact b90 _ _ h _ _ _ w (lv_sub hl [0, 1] rfl)
              · have h := it_f h c1
                refine lv_aload_n hx hb dX11_most_61 rfl (lv_at hl 0 rfl) ?_
                refine gM0_7 (v := (σ.1 7)) C w rfl wl_582 dX11_most_62 ?_
                refine lv_iconst (v := 1) hx hb dX11_most_65 (by decide) ?_
                refine lv_icmp_le (tgt := 90) hx hb dX11_most_66 (by decide) (fun c2 => ?_) (fun c2 => ?_)
                · have h := it_t h c2
                  exact b90 _ _ h _ _ _ w (lv_sub hl [0, 1] rfl)
                · have h := it_f h c2
                  refine lv_aload_n hx hb dX11_most_69 rfl (lv_at hl 0 rfl) ?_
                  refine gM0_14 C w wl_100 dX11_most_70 ?_
                  refine lv_aload_n hx hb dX11_most_73 rfl (lv_at hl 0 rfl) ?_
                  refine gM0_6 C w wl_99 dX11_most_74 ?_
                  refine lv_iload_n hx hb dX11_most_77 rfl (lv_at hl 2 rfl) ?_
                  obtain ⟨i3, h⟩ := ck_t h
                  refine ldM5 (v := (σ.2.2 5 x2.toNatClampNeg)) C w i3 rfl dX11_most_78 ?_
                  refine lv_dup2_11 hx hb dX11_most_79 rfl rfl ?_
                  obtain ⟨i4, h⟩ := ck_t h
                  refine ldM6 (v := (σ.2.2 6 ((σ.2.2 5 x2.toNatClampNeg)).toNatClampNeg)) C w i4 rfl dX11_most_80 ?_
                  refine lv_iconst (v := 1) hx hb dX11_most_81 (by decide) ?_
                  refine lv_iadd hx hb dX11_most_82 ?_
                  obtain ⟨i5, h⟩ := ck_t h
                  refine stM6 (j := ((σ.2.2 5 x2.toNatClampNeg)).toNatClampNeg) C w i5 rfl dX11_most_83 (fun H locs w => ?_)
                  refine lv_iinc (v := (x2 + (1 : Int32))) (lv' := [(2, .int (x2 + (1 : Int32))), (0, .ref (ad 0)), (1, .int x1)]) hx hb dX11_most_84 hl (k := 2) rfl rfl (by decide) rfl (fun ls hl => ?_)
                  refine lv_goto (tgt := 53) hx hb dX11_most_87 (by decide) ?_
                  exact ih53 _ _ _ h _ _ _ w (lv_sub hl [1, 2, 0] rfl)
          intro σ x1 h H locs ls w hl
          change f_X11_most_b44 (f_X11_most_L25 n25) (f_X11_most_L44 (f_X11_most_L25 n25) n44) σ x1 = some out at h
          unfold f_X11_most_b44 at h
          refine lv_aload_n hx hb dX11_most_44 rfl (lv_at hl 0 rfl) ?_
          refine gM0_7 (v := (σ.1 7)) C w rfl wl_582 dX11_most_45 ?_
          refine lv_if_le (tgt := 97) hx hb dX11_most_48 (by decide) (fun c1 => ?_) (fun c1 => ?_)
          · have h := it_t h c1
            refine lv_iinc (v := (x1 + (1 : Int32))) (lv' := [(1, .int (x1 + (1 : Int32))), (0, .ref (ad 0))]) hx hb dX11_most_97 hl (k := 1) rfl rfl (by decide) rfl (fun ls hl => ?_)
            refine lv_goto (tgt := 25) hx hb dX11_most_100 (by decide) ?_
            exact ih25 _ _ h _ _ _ w (lv_sub hl [1, 0] rfl)
          · have h := it_f h c1
            refine lv_iconst (v := 0) hx hb dX11_most_51 (by decide) ?_
            refine lv_istore_n (lv' := [(2, .int (0 : Int32)), (0, .ref (ad 0)), (1, .int x1)]) hx hb dX11_most_52 rfl hl (by decide) rfl (fun ls hl => ?_)
            exact L53 FU _ _ _ h _ _ _ w (lv_sub hl [1, 2, 0] rfl)
      intro σ x1 h H locs ls w hl
      change f_X11_most_b25 (f_X11_most_L25 n25) σ x1 = some out at h
      unfold f_X11_most_b25 at h
      refine lv_iload_n hx hb dX11_most_25 rfl (lv_at hl 1 rfl) ?_
      refine lv_aload_n hx hb dX11_most_26 rfl (lv_at hl 0 rfl) ?_
      obtain ⟨q1, hq1, h⟩ := ob_t h
      refine res_i C w (run_V (As := []) (rest := [.int x1]) C w hl.1 (recvM0 C w) (c_X11_many l D ca ad _  _ q1 hq1) rfl rfl wl_144 wl_145 wl_146 wl_5 wl_147 hd_X11_many rfl ⟨Nat.le_of_ble_eq_true rfl, Nat.le_of_ble_eq_true rfl⟩ rfl (Nat.le_of_ble_eq_true rfl) dX11_most_27) (fun H locs w => ?_)
      refine lv_icmp_ge (tgt := 103) hx hb dX11_most_30 (by decide) (fun c1 => ?_) (fun c1 => ?_)
      · have h := it_t h c1
        refine lv_iconst (v := -1) hx hb dX11_most_103 (by decide) ?_
        refine lv_istore_n (lv' := [(1, .int (-1 : Int32)), (0, .ref (ad 0))]) hx hb dX11_most_104 rfl hl (by decide) rfl (fun ls hl => ?_)
        refine lv_iconst (v := 0) hx hb dX11_most_105 (by decide) ?_
        refine lv_istore_n (lv' := [(2, .int (0 : Int32)), (1, .int (-1 : Int32)), (0, .ref (ad 0))]) hx hb dX11_most_106 rfl hl (by decide) rfl (fun ls hl => ?_)
        exact L107 FU _ _ _ h _ _ _ w (lv_sub hl [2, 1, 0] rfl)
      · have h := it_f h c1
        refine lv_aload_n hx hb dX11_most_33 rfl (lv_at hl 0 rfl) ?_
        refine lv_iload_n hx hb dX11_most_34 rfl (lv_at hl 1 rfl) ?_
        refine lv_aload_n hx hb dX11_most_35 rfl (lv_at hl 0 rfl) ?_
        refine gM0_0 C w wl_94 dX11_most_36 ?_
        refine lv_iconst (v := 1) hx hb dX11_most_39 (by decide) ?_
        refine ldM1 (v := (q1.2.2.2 1 1)) C w (vl (by decide)) rfl dX11_most_40 ?_
        obtain ⟨q2, hq2, h⟩ := ob_t h
        refine res_v C w (run_V (As := [.int x1, .int (q1.2.2.2 1 1)]) (rest := []) C w hl.1 (recvM0 C w) (c_X11_layFirst l D ca ad _ x1 (q1.2.2.2 1 1) _ q2 hq2) rfl rfl wl_629 wl_630 wl_631 wl_5 wl_632 hd_X11_layFirst rfl ⟨Nat.le_of_ble_eq_true rfl, Nat.le_of_ble_eq_true rfl⟩ rfl (Nat.le_of_ble_eq_true rfl) dX11_most_41) (fun H locs w => ?_)
        exact L44 FU _ _ h _ _ _ w (lv_sub hl [0, 1] rfl)
  have L2 : ∀ (n2 : Nat) (σ : St) (x1 : Int32), f_X11_most_L2 n2 σ x1 = some out → Bk p l e rm_X11_most s m av below meth c A D 4 Q (MW ca ad σ) 2 [(0, .ref (ad 0)), (1, .int x1)] [] := by
    intro n2
    induction n2 with
    | zero => intro σ x1 h; exact absurd h (by simp [f_X11_most_L2])
    | succ n2 ih2 =>
      intro σ x1 h H locs ls w hl
      change f_X11_most_b2 (f_X11_most_L2 n2) σ x1 = some out at h
      unfold f_X11_most_b2 at h
      refine lv_iload_n hx hb dX11_most_2 rfl (lv_at hl 1 rfl) ?_
      refine lv_aload_n hx hb dX11_most_3 rfl (lv_at hl 0 rfl) ?_
      obtain ⟨q1, hq1, h⟩ := ob_t h
      refine res_i C w (run_V (As := []) (rest := [.int x1]) C w hl.1 (recvM0 C w) (c_X11_many l D ca ad _  _ q1 hq1) rfl rfl wl_144 wl_145 wl_146 wl_5 wl_147 hd_X11_many rfl ⟨Nat.le_of_ble_eq_true rfl, Nat.le_of_ble_eq_true rfl⟩ rfl (Nat.le_of_ble_eq_true rfl) dX11_most_4) (fun H locs w => ?_)
      refine lv_icmp_ge (tgt := 23) hx hb dX11_most_7 (by decide) (fun c1 => ?_) (fun c1 => ?_)
      · have h := it_t h c1
        refine lv_iconst (v := 0) hx hb dX11_most_23 (by decide) ?_
        refine lv_istore_n (lv' := [(1, .int (0 : Int32)), (0, .ref (ad 0))]) hx hb dX11_most_24 rfl hl (by decide) rfl (fun ls hl => ?_)
        exact L25 FU _ _ h _ _ _ w (lv_sub hl [1, 0] rfl)
      · have h := it_f h c1
        refine lv_aload_n hx hb dX11_most_10 rfl (lv_at hl 0 rfl) ?_
        refine gM0_14 C w wl_100 dX11_most_11 ?_
        refine lv_iload_n hx hb dX11_most_14 rfl (lv_at hl 1 rfl) ?_
        refine lv_iconst (v := 0) hx hb dX11_most_15 (by decide) ?_
        obtain ⟨i2, h⟩ := ck_t h
        refine stM6 (j := x1.toNatClampNeg) C w i2 rfl dX11_most_16 (fun H locs w => ?_)
        refine lv_iinc (v := (x1 + (1 : Int32))) (lv' := [(1, .int (x1 + (1 : Int32))), (0, .ref (ad 0))]) hx hb dX11_most_17 hl (k := 1) rfl rfl (by decide) rfl (fun ls hl => ?_)
        refine lv_goto (tgt := 2) hx hb dX11_most_20 (by decide) ?_
        exact ih2 _ _ h _ _ _ w (lv_sub hl [1, 0] rfl)
  have h := hf
  unfold f_X11_most at h
  refine lv_iconst (v := 0) hx hb dX11_most_0 (by decide) ?_
  refine lv_istore_n (lv' := [(1, .int (0 : Int32)), (0, .ref (ad 0))]) hx hb dX11_most_1 rfl hl (by decide) rfl (fun ls hl => ?_)
  exact L2 FU _ _ h _ _ _ w (lv_sub hl [1, 0] rfl)
theorem hd_X11_note : yX11_note.cls = RX11 ∧ yX11_note.cls ≠ "java/lang/invoke/MethodHandle" ∧ yX11_note.cls ≠ "java/lang/invoke/VarHandle" ∧ (parseMethodDescriptor yX11_note.desc).map (fun d => d.parameters.length) = some 5 := by decide +kernel
def f_X11_note_b48 (σ : St) : Option (Int32 × St) := (f_X11_bad σ (-2 : Int32)).bind fun q1 => some (q1.1, q1.2)
def f_X11_note (σ : St) (x1 : Int32) (x2 : Int32) (x3 : Int32) (x4 : Int32) (x5 : Int32) : Option (Int32 × St) := (f_X11_isTree σ x1).bind fun q1 => if q1.1 = 0 then (f_X11_note_b48 q1.2) else ((f_X11_isLetter x2).bind fun q2 => if q2 = 0 then (f_X11_note_b48 q1.2) else ((f_X11_in x3.toInt64 (0 : Int64) (99 : Int64)).bind fun q3 => if q3 = 0 then (f_X11_note_b48 q1.2) else ((f_X11_isLetter x4).bind fun q4 => if q4 = 0 then (f_X11_note_b48 q1.2) else ((f_X11_in x5.toInt64 (0 : Int64) (20 : Int64)).bind fun q5 => if q5 = 0 then (f_X11_note_b48 q1.2) else (if (q1.2.2.2 1 3) = (6 : Int32) then ((f_X11_full q1.2).bind fun q6 => some (q6.1, q6.2)) else (cond (ckI ((20 : Int32) + ((5 : Int32) * (q1.2.2.2 1 3))) 84) (cond (ckI (((20 : Int32) + ((5 : Int32) * (q1.2.2.2 1 3))) + (1 : Int32)) 84) (cond (ckI (((20 : Int32) + ((5 : Int32) * (q1.2.2.2 1 3))) + (2 : Int32)) 84) (cond (ckI (((20 : Int32) + ((5 : Int32) * (q1.2.2.2 1 3))) + (3 : Int32)) 84) (cond (ckI (((20 : Int32) + ((5 : Int32) * (q1.2.2.2 1 3))) + (4 : Int32)) 84) (some (((sE (sE (sE (sE (sE (sE q1.2 1 ((((20 : Int32) + ((5 : Int32) * (q1.2.2.2 1 3)))).toNatClampNeg) x1) 1 (((((20 : Int32) + ((5 : Int32) * (q1.2.2.2 1 3))) + (1 : Int32))).toNatClampNeg) x2) 1 (((((20 : Int32) + ((5 : Int32) * (q1.2.2.2 1 3))) + (2 : Int32))).toNatClampNeg) x3) 1 (((((20 : Int32) + ((5 : Int32) * (q1.2.2.2 1 3))) + (3 : Int32))).toNatClampNeg) x4) 1 (((((20 : Int32) + ((5 : Int32) * (q1.2.2.2 1 3))) + (4 : Int32))).toNatClampNeg) x5) 1 3 (((sE (sE (sE (sE (sE q1.2 1 ((((20 : Int32) + ((5 : Int32) * (q1.2.2.2 1 3)))).toNatClampNeg) x1) 1 (((((20 : Int32) + ((5 : Int32) * (q1.2.2.2 1 3))) + (1 : Int32))).toNatClampNeg) x2) 1 (((((20 : Int32) + ((5 : Int32) * (q1.2.2.2 1 3))) + (2 : Int32))).toNatClampNeg) x3) 1 (((((20 : Int32) + ((5 : Int32) * (q1.2.2.2 1 3))) + (3 : Int32))).toNatClampNeg) x4) 1 (((((20 : Int32) + ((5 : Int32) * (q1.2.2.2 1 3))) + (4 : Int32))).toNatClampNeg) x5).2.2 1 3) + (1 : Int32))).2.2 1 3), (sE (sE (sE (sE (sE (sE q1.2 1 ((((20 : Int32) + ((5 : Int32) * (q1.2.2.2 1 3)))).toNatClampNeg) x1) 1 (((((20 : Int32) + ((5 : Int32) * (q1.2.2.2 1 3))) + (1 : Int32))).toNatClampNeg) x2) 1 (((((20 : Int32) + ((5 : Int32) * (q1.2.2.2 1 3))) + (2 : Int32))).toNatClampNeg) x3) 1 (((((20 : Int32) + ((5 : Int32) * (q1.2.2.2 1 3))) + (3 : Int32))).toNatClampNeg) x4) 1 (((((20 : Int32) + ((5 : Int32) * (q1.2.2.2 1 3))) + (4 : Int32))).toNatClampNeg) x5) 1 3 (((sE (sE (sE (sE (sE q1.2 1 ((((20 : Int32) + ((5 : Int32) * (q1.2.2.2 1 3)))).toNatClampNeg) x1) 1 (((((20 : Int32) + ((5 : Int32) * (q1.2.2.2 1 3))) + (1 : Int32))).toNatClampNeg) x2) 1 (((((20 : Int32) + ((5 : Int32) * (q1.2.2.2 1 3))) + (2 : Int32))).toNatClampNeg) x3) 1 (((((20 : Int32) + ((5 : Int32) * (q1.2.2.2 1 3))) + (3 : Int32))).toNatClampNeg) x4) 1 (((((20 : Int32) + ((5 : Int32) * (q1.2.2.2 1 3))) + (4 : Int32))).toNatClampNeg) x5).2.2 1 3) + (1 : Int32))))) none) none) none) none) none))))))
abbrev rm_X11_note : Room := { frames := 2, cells := 0, slots := 0, locals := 120 }
set_option maxHeartbeats 4000000 in
set_option maxRecDepth 100000 in
theorem c_X11_note (l : Launch) (D : va_G) (ca : Nat → ClassId) (ad : Nat → Nat) (σ : St) (x1 : Int32) (x2 : Int32) (x3 : Int32) (x4 : Int32) (x5 : Int32) (sz : Nat) (out : Int32 × St) (hf : f_X11_note σ x1 x2 x3 x4 x5 = some out) : Met l yX11_note (.code yX11_note cX11_note 7 (some .int) :: WL) rm_X11_note (PreC D ca (MW ca ad σ) sz [.ref (ad 0), .int x1, .int x2, .int x3, .int x4, .int x5]) (PostI D (va_A (MW ca ad σ) sz) (MW ca ad out.2) out.1) 0 0 (va_A (MW ca ad σ) sz) := by
  refine Met.ofW (cc := cX11_note) (maxL := 7) (ret := (some .int)) (by decide) rfl ?_
  intro p e s m args below meth c s₁ B hml hv
  obtain ⟨rfl, hsz, hP, hK, hD, hN⟩ := hv
  subst hsz
  have C := Cx.mk (own := RX11) B hml rfl hK hN (ws := (MW ca ad σ))
  have w : Wd (va_A (MW ca ad σ) s.heap.size) s D (MW ca ad σ) s.heap [] := ⟨hP, hD.self, va_S.rf⟩
  have hl := lv_entry ([.ref (ad 0), .int x1, .int x2, .int x3, .int x4, .int x5]) (n := 7) (Nat.le_of_ble_eq_true rfl)
  rw [lg_entry_eq]
  generalize (lg_sl ([.ref (ad 0), .int x1, .int x2, .int x3, .int x4, .int x5]) ++ List.replicate (7 - (lg_sl ([.ref (ad 0), .int x1, .int x2, .int x3, .int x4, .int x5])).length) Slot.unset).toArray = ls at hl ⊢
  have hl : lv_has ls 7 [(0, .ref (ad 0)), (1, .int x1), (2, .int x2), (3, .int x3), (4, .int x4), (5, .int x5)] := hl
  change W p l e rm_X11_note s m _ below meth c _ [] 0 0 _ _
  clear B hP hD hK hN hml
  generalize va_A (MW ca ad σ) s.heap.size = A at C w ⊢
  generalize ([.ref (ad 0), .int x1, .int x2, .int x3, .int x4, .int x5] : List Value).toArray = av at C ⊢
  obtain ⟨Q, hQ⟩ : ∃ Q, Q = MQ below (PostI D A (MW ca ad out.2) out.1) av s 0 0 A := ⟨_, rfl⟩
  rw [← hQ]
  have hx := C.1
  have hb := C.2.1
  have b48 : ∀ (σ : St), f_X11_note_b48 σ = some out → Bk p l e rm_X11_note s m av below meth c A D 7 Q (MW ca ad σ) 48 [(0, .ref (ad 0))] [] := by
    intro σ h H locs ls w hl
    unfold f_X11_note_b48 at h
    refine lv_aload_n hx hb dX11_note_48 rfl (lv_at hl 0 rfl) ?_
    refine lv_bipush (v := -2) hx hb dX11_note_49 (by decide) ?_
    obtain ⟨q1, hq1, h⟩ := ob_t h
    refine res_i C w (run_V (As := [.int (-2 : Int32)]) (rest := []) C w hl.1 (recvM0 C w) (c_X11_bad l D ca ad _ (-2 : Int32) _ q1 hq1) rfl rfl wl_140 wl_141 wl_142 wl_5 wl_143 hd_X11_bad rfl ⟨Nat.le_of_ble_eq_true rfl, Nat.le_of_ble_eq_true rfl⟩ rfl (Nat.le_of_ble_eq_true rfl) dX11_note_51) (fun H locs w => ?_)
    rw [hQ]
    exact rI (F := MW ca ad) C w h dX11_note_54
  have h := hf
  unfold f_X11_note at h
  refine lv_aload_n hx hb dX11_note_0 rfl (lv_at hl 0 rfl) ?_
  refine lv_iload_n hx hb dX11_note_1 rfl (lv_at hl 1 rfl) ?_
  obtain ⟨q1, hq1, h⟩ := ob_t h
  refine res_i C w (run_V (As := [.int x1]) (rest := []) C w hl.1 (recvM0 C w) (c_X11_isTree l D ca ad _ x1 _ q1 hq1) rfl rfl wl_188 wl_189 wl_190 wl_5 wl_191 hd_X11_isTree rfl ⟨Nat.le_of_ble_eq_true rfl, Nat.le_of_ble_eq_true rfl⟩ rfl (Nat.le_of_ble_eq_true rfl) dX11_note_2) (fun H locs w => ?_)
  refine lv_if_eq (tgt := 48) hx hb dX11_note_5 (by decide) (fun c1 => ?_) (fun c1 => ?_)
  · have h := it_t h c1
    exact b48 _ h _ _ _ w (lv_sub hl [0] rfl)
  · have h := it_f h c1
    refine lv_iload_n hx hb dX11_note_8 rfl (lv_at hl 2 rfl) ?_
    obtain ⟨q2, hq2, h⟩ := ob_t h
    refine res_i C w (run_S (As := [.int x2]) (rest := []) C w hl.1 (c_X11_isLetter l D ca _ x2 _ q2 hq2) rfl rfl wl_524 wl_525 wl_5 wl_526 hd_X11_isLetter rfl ⟨Nat.le_of_ble_eq_true rfl, Nat.le_of_ble_eq_true rfl⟩ rfl (Nat.le_of_ble_eq_true rfl) dX11_note_9) (fun H locs w => ?_)
    refine lv_if_eq (tgt := 48) hx hb dX11_note_12 (by decide) (fun c2 => ?_) (fun c2 => ?_)
    · have h := it_t h c2
      exact b48 _ h _ _ _ w (lv_sub hl [0] rfl)
    · have h := it_f h c2
      refine lv_iload_n hx hb dX11_note_15 rfl (lv_at hl 3 rfl) ?_
      refine lv_i2l hx hb dX11_note_16 rfl ?_
      refine lv_lconst (v := 0) hx hb dX11_note_17 (by decide) ?_
      refine lv_ldc2 (v := 99) hx hb C.ow (C.ts _ wl_136) dX11_note_18 ?_
      obtain ⟨q3, hq3, h⟩ := ob_t h
      refine res_i C w (run_S (As := [.long x3.toInt64, .long (0 : Int64), .long (99 : Int64)]) (rest := []) C w hl.1 (c_X11_in l D ca _ x3.toInt64 (0 : Int64) (99 : Int64) _ q3 hq3) rfl rfl wl_137 wl_138 wl_5 wl_139 hd_X11_in rfl ⟨Nat.le_of_ble_eq_true rfl, Nat.le_of_ble_eq_true rfl⟩ rfl (Nat.le_of_ble_eq_true rfl) dX11_note_21) (fun H locs w => ?_)
      refine lv_if_eq (tgt := 48) hx hb dX11_note_24 (by decide) (fun c3 => ?_) (fun c3 => ?_)
      · have h := it_t h c3
        exact b48 _ h _ _ _ w (lv_sub hl [0] rfl)
      · have h := it_f h c3
        refine lv_iload hx hb dX11_note_27 (lv_at hl 4 rfl) ?_
        obtain ⟨q4, hq4, h⟩ := ob_t h
        refine res_i C w (run_S (As := [.int x4]) (rest := []) C w hl.1 (c_X11_isLetter l D ca _ x4 _ q4 hq4) rfl rfl wl_524 wl_525 wl_5 wl_526 hd_X11_isLetter rfl ⟨Nat.le_of_ble_eq_true rfl, Nat.le_of_ble_eq_true rfl⟩ rfl (Nat.le_of_ble_eq_true rfl) dX11_note_29) (fun H locs w => ?_)
        refine lv_if_eq (tgt := 48) hx hb dX11_note_32 (by decide) (fun c4 => ?_) (fun c4 => ?_)
        · have h := it_t h c4
          exact b48 _ h _ _ _ w (lv_sub hl [0] rfl)
        · have h := it_f h c4
          refine lv_iload hx hb dX11_note_35 (lv_at hl 5 rfl) ?_
          refine lv_i2l hx hb dX11_note_37 rfl ?_
          refine lv_lconst (v := 0) hx hb dX11_note_38 (by decide) ?_
          refine lv_ldc2 (v := 20) hx hb C.ow (C.ts _ wl_772) dX11_note_39 ?_
          obtain ⟨q5, hq5, h⟩ := ob_t h
          refine res_i C w (run_S (As := [.long x5.toInt64, .long (0 : Int64), .long (20 : Int64)]) (rest := []) C w hl.1 (c_X11_in l D ca _ x5.toInt64 (0 : Int64) (20 : Int64) _ q5 hq5) rfl rfl wl_137 wl_138 wl_5 wl_139 hd_X11_in rfl ⟨Nat.le_of_ble_eq_true rfl, Nat.le_of_ble_eq_true rfl⟩ rfl (Nat.le_of_ble_eq_true rfl) dX11_note_42) (fun H locs w => ?_)
          refine lv_if_ne (tgt := 55) hx hb dX11_note_45 (by decide) (fun c5 => ?_) (fun c5 => ?_)
          · have h := it_f h c5
            refine lv_aload_n hx hb dX11_note_55 rfl (lv_at hl 0 rfl) ?_
            refine gM0_0 C w wl_94 dX11_note_56 ?_
            refine lv_iconst (v := 3) hx hb dX11_note_59 (by decide) ?_
            refine ldM1 (v := (q1.2.2.2 1 3)) C w (vl (by decide)) rfl dX11_note_60 ?_
            refine lv_bipush (v := 6) hx hb dX11_note_61 (by decide) ?_
            refine lv_icmp_ne (tgt := 71) hx hb dX11_note_63 (by decide) (fun c6 => ?_) (fun c6 => ?_)
            · have h := it_f h c6
              refine lv_bipush (v := 20) hx hb dX11_note_71 (by decide) ?_
              refine lv_iconst (v := 5) hx hb dX11_note_73 (by decide) ?_
              refine lv_aload_n hx hb dX11_note_74 rfl (lv_at hl 0 rfl) ?_
              refine gM0_0 C w wl_94 dX11_note_75 ?_
              refine lv_iconst (v := 3) hx hb dX11_note_78 (by decide) ?_
              refine ldM1 (v := (q1.2.2.2 1 3)) C w (vl (by decide)) rfl dX11_note_79 ?_
              refine lv_imul hx hb dX11_note_80 ?_
              refine lv_iadd hx hb dX11_note_81 ?_
              refine lv_istore (lv' := [(6, .int ((20 : Int32) + ((5 : Int32) * (q1.2.2.2 1 3)))), (0, .ref (ad 0)), (1, .int x1), (2, .int x2), (3, .int x3), (4, .int x4), (5, .int x5)]) hx hb dX11_note_82 hl (by decide) rfl (fun ls hl => ?_)
              refine lv_aload_n hx hb dX11_note_84 rfl (lv_at hl 1 rfl) ?_
              refine gM0_0 C w wl_94 dX11_note_85 ?_
              refine lv_iload hx hb dX11_note_88 (lv_at hl 0 rfl) ?_
              refine lv_iload_n hx hb dX11_note_90 rfl (lv_at hl 2 rfl) ?_
              obtain ⟨i7, h⟩ := ck_t h
              refine stM1 (j := (((20 : Int32) + ((5 : Int32) * (q1.2.2.2 1 3)))).toNatClampNeg) C w i7 rfl dX11_note_91 (fun H locs w => ?_)
              refine lv_aload_n hx hb dX11_note_92 rfl (lv_at hl 1 rfl) ?_
              refine gM0_0 C w wl_94 dX11_note_93 ?_
              refine lv_iload hx hb dX11_note_96 (lv_at hl 0 rfl) ?_
              refine lv_iconst (v := 1) hx hb dX11_note_98 (by decide) ?_
              refine lv_iadd hx hb dX11_note_99 ?_
              refine lv_iload_n hx hb dX11_note_100 rfl (lv_at hl 3 rfl) ?_
              obtain ⟨i8, h⟩ := ck_t h
              refine stM1 (j := ((((20 : Int32) + ((5 : Int32) * (q1.2.2.2 1 3))) + (1 : Int32))).toNatClampNeg) C w i8 rfl dX11_note_101 (fun H locs w => ?_)
              refine lv_aload_n hx hb dX11_note_102 rfl (lv_at hl 1 rfl) ?_
              refine gM0_0 C w wl_94 dX11_note_103 ?_
              refine lv_iload hx hb dX11_note_106 (lv_at hl 0 rfl) ?_
              refine lv_iconst (v := 2) hx hb dX11_note_108 (by decide) ?_
              refine lv_iadd hx hb dX11_note_109 ?_
              refine lv_iload_n hx hb dX11_note_110 rfl (lv_at hl 4 rfl) ?_
              obtain ⟨i9, h⟩ := ck_t h
              refine stM1 (j := ((((20 : Int32) + ((5 : Int32) * (q1.2.2.2 1 3))) + (2 : Int32))).toNatClampNeg) C w i9 rfl dX11_note_111 (fun H locs w => ?_)
              refine lv_aload_n hx hb dX11_note_112 rfl (lv_at hl 1 rfl) ?_
              refine gM0_0 C w wl_94 dX11_note_113 ?_
              refine lv_iload hx hb dX11_note_116 (lv_at hl 0 rfl) ?_
              refine lv_iconst (v := 3) hx hb dX11_note_118 (by decide) ?_
              refine lv_iadd hx hb dX11_note_119 ?_
              refine lv_iload hx hb dX11_note_120 (lv_at hl 5 rfl) ?_
              obtain ⟨i10, h⟩ := ck_t h
              refine stM1 (j := ((((20 : Int32) + ((5 : Int32) * (q1.2.2.2 1 3))) + (3 : Int32))).toNatClampNeg) C w i10 rfl dX11_note_122 (fun H locs w => ?_)
              refine lv_aload_n hx hb dX11_note_123 rfl (lv_at hl 1 rfl) ?_
              refine gM0_0 C w wl_94 dX11_note_124 ?_
              refine lv_iload hx hb dX11_note_127 (lv_at hl 0 rfl) ?_
              refine lv_iconst (v := 4) hx hb dX11_note_129 (by decide) ?_
              refine lv_iadd hx hb dX11_note_130 ?_
              refine lv_iload hx hb dX11_note_131 (lv_at hl 6 rfl) ?_
              obtain ⟨i11, h⟩ := ck_t h
              refine stM1 (j := ((((20 : Int32) + ((5 : Int32) * (q1.2.2.2 1 3))) + (4 : Int32))).toNatClampNeg) C w i11 rfl dX11_note_133 (fun H locs w => ?_)
              refine lv_aload_n hx hb dX11_note_134 rfl (lv_at hl 1 rfl) ?_
              refine gM0_0 C w wl_94 dX11_note_135 ?_
              refine lv_iconst (v := 3) hx hb dX11_note_138 (by decide) ?_
              refine lv_dup2_11 hx hb dX11_note_139 rfl rfl ?_
              refine ldM1 (v := ((sE (sE (sE (sE (sE q1.2 1 ((((20 : Int32) + ((5 : Int32) * (q1.2.2.2 1 3)))).toNatClampNeg) x1) 1 (((((20 : Int32) + ((5 : Int32) * (q1.2.2.2 1 3))) + (1 : Int32))).toNatClampNeg) x2) 1 (((((20 : Int32) + ((5 : Int32) * (q1.2.2.2 1 3))) + (2 : Int32))).toNatClampNeg) x3) 1 (((((20 : Int32) + ((5 : Int32) * (q1.2.2.2 1 3))) + (3 : Int32))).toNatClampNeg) x4) 1 (((((20 : Int32) + ((5 : Int32) * (q1.2.2.2 1 3))) + (4 : Int32))).toNatClampNeg) x5).2.2 1 3)) C w (vl (by decide)) rfl dX11_note_140 ?_
              refine lv_iconst (v := 1) hx hb dX11_note_141 (by decide) ?_
              refine lv_iadd hx hb dX11_note_142 ?_
              refine stM1 (j := 3) C w (vl (by decide)) rfl dX11_note_143 (fun H locs w => ?_)
              refine lv_aload_n hx hb dX11_note_144 rfl (lv_at hl 1 rfl) ?_
              refine gM0_0 C w wl_94 dX11_note_145 ?_
              refine lv_iconst (v := 3) hx hb dX11_note_148 (by decide) ?_
              refine ldM1 (v := ((sE (sE (sE (sE (sE (sE q1.2 1 ((((20 : Int32) + ((5 : Int32) * (q1.2.2.2 1 3)))).toNatClampNeg) x1) 1 (((((20 : Int32) + ((5 : Int32) * (q1.2.2.2 1 3))) + (1 : Int32))).toNatClampNeg) x2) 1 (((((20 : Int32) + ((5 : Int32) * (q1.2.2.2 1 3))) + (2 : Int32))).toNatClampNeg) x3) 1 (((((20 : Int32) + ((5 : Int32) * (q1.2.2.2 1 3))) + (3 : Int32))).toNatClampNeg) x4) 1 (((((20 : Int32) + ((5 : Int32) * (q1.2.2.2 1 3))) + (4 : Int32))).toNatClampNeg) x5) 1 3 (((sE (sE (sE (sE (sE q1.2 1 ((((20 : Int32) + ((5 : Int32) * (q1.2.2.2 1 3)))).toNatClampNeg) x1) 1 (((((20 : Int32) + ((5 : Int32) * (q1.2.2.2 1 3))) + (1 : Int32))).toNatClampNeg) x2) 1 (((((20 : Int32) + ((5 : Int32) * (q1.2.2.2 1 3))) + (2 : Int32))).toNatClampNeg) x3) 1 (((((20 : Int32) + ((5 : Int32) * (q1.2.2.2 1 3))) + (3 : Int32))).toNatClampNeg) x4) 1 (((((20 : Int32) + ((5 : Int32) * (q1.2.2.2 1 3))) + (4 : Int32))).toNatClampNeg) x5).2.2 1 3) + (1 : Int32))).2.2 1 3)) C w (vl (by decide)) rfl dX11_note_149 ?_
              rw [hQ]
              exact rI (F := MW ca ad) C w h dX11_note_150
            · have h := it_t h c6
              refine lv_aload_n hx hb dX11_note_66 rfl (lv_at hl 0 rfl) ?_
              obtain ⟨q6, hq6, h⟩ := ob_t h
              refine res_i C w (run_V (As := []) (rest := []) C w hl.1 (recvM0 C w) (c_X11_full l D ca ad _  _ q6 hq6) rfl rfl wl_167 wl_168 wl_169 wl_5 wl_170 hd_X11_full rfl ⟨Nat.le_of_ble_eq_true rfl, Nat.le_of_ble_eq_true rfl⟩ rfl (Nat.le_of_ble_eq_true rfl) dX11_note_67) (fun H locs w => ?_)
              rw [hQ]
              exact rI (F := MW ca ad) C w h dX11_note_70
          · have h := it_t h c5
            exact b48 _ h _ _ _ w (lv_sub hl [0] rfl)
theorem hd_X11_came : yX11_came.cls = RX11 ∧ yX11_came.cls ≠ "java/lang/invoke/MethodHandle" ∧ yX11_came.cls ≠ "java/lang/invoke/VarHandle" ∧ (parseMethodDescriptor yX11_came.desc).map (fun d => d.parameters.length) = some 3 := by decide +kernel
def f_X11_came_b27 (σ : St) : Option (Int32 × St) := (f_X11_bad σ (-2 : Int32)).bind fun q1 => some (q1.1, q1.2)
def f_X11_came (σ : St) (x1 : Int32) (x2 : Int32) (x3 : Int32) : Option (Int32 × St) := (f_X11_layRow σ x1).bind fun q1 => if q1.1 = 0 then (f_X11_came_b27 q1.2) else ((f_X11_in x2.toInt64 (0 : Int64) (99 : Int64)).bind fun q2 => if q2 = 0 then (f_X11_came_b27 q1.2) else ((f_X11_isLetter x3).bind fun q3 => if q3 = 0 then (f_X11_came_b27 q1.2) else (if (q1.2.2.2 1 4) = (6 : Int32) then ((f_X11_full q1.2).bind fun q4 => some (q4.1, q4.2)) else (cond (ckI ((50 : Int32) + ((3 : Int32) * (q1.2.2.2 1 4))) 84) (cond (ckI (((50 : Int32) + ((3 : Int32) * (q1.2.2.2 1 4))) + (1 : Int32)) 84) (cond (ckI (((50 : Int32) + ((3 : Int32) * (q1.2.2.2 1 4))) + (2 : Int32)) 84) (some (((sE (sE (sE (sE q1.2 1 ((((50 : Int32) + ((3 : Int32) * (q1.2.2.2 1 4)))).toNatClampNeg) x1) 1 (((((50 : Int32) + ((3 : Int32) * (q1.2.2.2 1 4))) + (1 : Int32))).toNatClampNeg) x2) 1 (((((50 : Int32) + ((3 : Int32) * (q1.2.2.2 1 4))) + (2 : Int32))).toNatClampNeg) x3) 1 4 (((sE (sE (sE q1.2 1 ((((50 : Int32) + ((3 : Int32) * (q1.2.2.2 1 4)))).toNatClampNeg) x1) 1 (((((50 : Int32) + ((3 : Int32) * (q1.2.2.2 1 4))) + (1 : Int32))).toNatClampNeg) x2) 1 (((((50 : Int32) + ((3 : Int32) * (q1.2.2.2 1 4))) + (2 : Int32))).toNatClampNeg) x3).2.2 1 4) + (1 : Int32))).2.2 1 4), (sE (sE (sE (sE q1.2 1 ((((50 : Int32) + ((3 : Int32) * (q1.2.2.2 1 4)))).toNatClampNeg) x1) 1 (((((50 : Int32) + ((3 : Int32) * (q1.2.2.2 1 4))) + (1 : Int32))).toNatClampNeg) x2) 1 (((((50 : Int32) + ((3 : Int32) * (q1.2.2.2 1 4))) + (2 : Int32))).toNatClampNeg) x3) 1 4 (((sE (sE (sE q1.2 1 ((((50 : Int32) + ((3 : Int32) * (q1.2.2.2 1 4)))).toNatClampNeg) x1) 1 (((((50 : Int32) + ((3 : Int32) * (q1.2.2.2 1 4))) + (1 : Int32))).toNatClampNeg) x2) 1 (((((50 : Int32) + ((3 : Int32) * (q1.2.2.2 1 4))) + (2 : Int32))).toNatClampNeg) x3).2.2 1 4) + (1 : Int32))))) none) none) none))))
abbrev rm_X11_came : Room := { frames := 3, cells := 0, slots := 0, locals := 180 }
set_option maxHeartbeats 4000000 in
set_option maxRecDepth 100000 in
theorem c_X11_came (l : Launch) (D : va_G) (ca : Nat → ClassId) (ad : Nat → Nat) (σ : St) (x1 : Int32) (x2 : Int32) (x3 : Int32) (sz : Nat) (out : Int32 × St) (hf : f_X11_came σ x1 x2 x3 = some out) : Met l yX11_came (.code yX11_came cX11_came 5 (some .int) :: WL) rm_X11_came (PreC D ca (MW ca ad σ) sz [.ref (ad 0), .int x1, .int x2, .int x3]) (PostI D (va_A (MW ca ad σ) sz) (MW ca ad out.2) out.1) 0 0 (va_A (MW ca ad σ) sz) := by
  refine Met.ofW (cc := cX11_came) (maxL := 5) (ret := (some .int)) (by decide) rfl ?_
  intro p e s m args below meth c s₁ B hml hv
  obtain ⟨rfl, hsz, hP, hK, hD, hN⟩ := hv
  subst hsz
  have C := Cx.mk (own := RX11) B hml rfl hK hN (ws := (MW ca ad σ))
  have w : Wd (va_A (MW ca ad σ) s.heap.size) s D (MW ca ad σ) s.heap [] := ⟨hP, hD.self, va_S.rf⟩
  have hl := lv_entry ([.ref (ad 0), .int x1, .int x2, .int x3]) (n := 5) (Nat.le_of_ble_eq_true rfl)
  rw [lg_entry_eq]
  generalize (lg_sl ([.ref (ad 0), .int x1, .int x2, .int x3]) ++ List.replicate (5 - (lg_sl ([.ref (ad 0), .int x1, .int x2, .int x3])).length) Slot.unset).toArray = ls at hl ⊢
  have hl : lv_has ls 5 [(0, .ref (ad 0)), (1, .int x1), (2, .int x2), (3, .int x3)] := hl
  change W p l e rm_X11_came s m _ below meth c _ [] 0 0 _ _
  clear B hP hD hK hN hml
  generalize va_A (MW ca ad σ) s.heap.size = A at C w ⊢
  generalize ([.ref (ad 0), .int x1, .int x2, .int x3] : List Value).toArray = av at C ⊢
  obtain ⟨Q, hQ⟩ : ∃ Q, Q = MQ below (PostI D A (MW ca ad out.2) out.1) av s 0 0 A := ⟨_, rfl⟩
  rw [← hQ]
  have hx := C.1
  have hb := C.2.1
  have b27 : ∀ (σ : St), f_X11_came_b27 σ = some out → Bk p l e rm_X11_came s m av below meth c A D 5 Q (MW ca ad σ) 27 [(0, .ref (ad 0))] [] := by
    intro σ h H locs ls w hl
    unfold f_X11_came_b27 at h
    refine lv_aload_n hx hb dX11_came_27 rfl (lv_at hl 0 rfl) ?_
    refine lv_bipush (v := -2) hx hb dX11_came_28 (by decide) ?_
    obtain ⟨q1, hq1, h⟩ := ob_t h
    refine res_i C w (run_V (As := [.int (-2 : Int32)]) (rest := []) C w hl.1 (recvM0 C w) (c_X11_bad l D ca ad _ (-2 : Int32) _ q1 hq1) rfl rfl wl_140 wl_141 wl_142 wl_5 wl_143 hd_X11_bad rfl ⟨Nat.le_of_ble_eq_true rfl, Nat.le_of_ble_eq_true rfl⟩ rfl (Nat.le_of_ble_eq_true rfl) dX11_came_30) (fun H locs w => ?_)
    rw [hQ]
    exact rI (F := MW ca ad) C w h dX11_came_33
  have h := hf
  unfold f_X11_came at h
  refine lv_aload_n hx hb dX11_came_0 rfl (lv_at hl 0 rfl) ?_
  refine lv_iload_n hx hb dX11_came_1 rfl (lv_at hl 1 rfl) ?_
  obtain ⟨q1, hq1, h⟩ := ob_t h
  refine res_i C w (run_V (As := [.int x1]) (rest := []) C w hl.1 (recvM0 C w) (c_X11_layRow l D ca ad _ x1 _ q1 hq1) rfl rfl wl_578 wl_579 wl_580 wl_5 wl_581 hd_X11_layRow rfl ⟨Nat.le_of_ble_eq_true rfl, Nat.le_of_ble_eq_true rfl⟩ rfl (Nat.le_of_ble_eq_true rfl) dX11_came_2) (fun H locs w => ?_)
  refine lv_if_eq (tgt := 27) hx hb dX11_came_5 (by decide) (fun c1 => ?_) (fun c1 => ?_)
  · have h := it_t h c1
    exact b27 _ h _ _ _ w (lv_sub hl [0] rfl)
  · have h := it_f h c1
    refine lv_iload_n hx hb dX11_came_8 rfl (lv_at hl 2 rfl) ?_
    refine lv_i2l hx hb dX11_came_9 rfl ?_
    refine lv_lconst (v := 0) hx hb dX11_came_10 (by decide) ?_
    refine lv_ldc2 (v := 99) hx hb C.ow (C.ts _ wl_136) dX11_came_11 ?_
    obtain ⟨q2, hq2, h⟩ := ob_t h
    refine res_i C w (run_S (As := [.long x2.toInt64, .long (0 : Int64), .long (99 : Int64)]) (rest := []) C w hl.1 (c_X11_in l D ca _ x2.toInt64 (0 : Int64) (99 : Int64) _ q2 hq2) rfl rfl wl_137 wl_138 wl_5 wl_139 hd_X11_in rfl ⟨Nat.le_of_ble_eq_true rfl, Nat.le_of_ble_eq_true rfl⟩ rfl (Nat.le_of_ble_eq_true rfl) dX11_came_14) (fun H locs w => ?_)
    refine lv_if_eq (tgt := 27) hx hb dX11_came_17 (by decide) (fun c2 => ?_) (fun c2 => ?_)
    · have h := it_t h c2
      exact b27 _ h _ _ _ w (lv_sub hl [0] rfl)
    · have h := it_f h c2
      refine lv_iload_n hx hb dX11_came_20 rfl (lv_at hl 3 rfl) ?_
      obtain ⟨q3, hq3, h⟩ := ob_t h
      refine res_i C w (run_S (As := [.int x3]) (rest := []) C w hl.1 (c_X11_isLetter l D ca _ x3 _ q3 hq3) rfl rfl wl_524 wl_525 wl_5 wl_526 hd_X11_isLetter rfl ⟨Nat.le_of_ble_eq_true rfl, Nat.le_of_ble_eq_true rfl⟩ rfl (Nat.le_of_ble_eq_true rfl) dX11_came_21) (fun H locs w => ?_)
      refine lv_if_ne (tgt := 34) hx hb dX11_came_24 (by decide) (fun c3 => ?_) (fun c3 => ?_)
      · have h := it_f h c3
        refine lv_aload_n hx hb dX11_came_34 rfl (lv_at hl 0 rfl) ?_
        refine gM0_0 C w wl_94 dX11_came_35 ?_
        refine lv_iconst (v := 4) hx hb dX11_came_38 (by decide) ?_
        refine ldM1 (v := (q1.2.2.2 1 4)) C w (vl (by decide)) rfl dX11_came_39 ?_
        refine lv_bipush (v := 6) hx hb dX11_came_40 (by decide) ?_
        refine lv_icmp_ne (tgt := 50) hx hb dX11_came_42 (by decide) (fun c4 => ?_) (fun c4 => ?_)
        · have h := it_f h c4
          refine lv_bipush (v := 50) hx hb dX11_came_50 (by decide) ?_
          refine lv_iconst (v := 3) hx hb dX11_came_52 (by decide) ?_
          refine lv_aload_n hx hb dX11_came_53 rfl (lv_at hl 0 rfl) ?_
          refine gM0_0 C w wl_94 dX11_came_54 ?_
          refine lv_iconst (v := 4) hx hb dX11_came_57 (by decide) ?_
          refine ldM1 (v := (q1.2.2.2 1 4)) C w (vl (by decide)) rfl dX11_came_58 ?_
          refine lv_imul hx hb dX11_came_59 ?_
          refine lv_iadd hx hb dX11_came_60 ?_
          refine lv_istore (lv' := [(4, .int ((50 : Int32) + ((3 : Int32) * (q1.2.2.2 1 4)))), (0, .ref (ad 0)), (1, .int x1), (2, .int x2), (3, .int x3)]) hx hb dX11_came_61 hl (by decide) rfl (fun ls hl => ?_)
          refine lv_aload_n hx hb dX11_came_63 rfl (lv_at hl 1 rfl) ?_
          refine gM0_0 C w wl_94 dX11_came_64 ?_
          refine lv_iload hx hb dX11_came_67 (lv_at hl 0 rfl) ?_
          refine lv_iload_n hx hb dX11_came_69 rfl (lv_at hl 2 rfl) ?_
          obtain ⟨i5, h⟩ := ck_t h
          refine stM1 (j := (((50 : Int32) + ((3 : Int32) * (q1.2.2.2 1 4)))).toNatClampNeg) C w i5 rfl dX11_came_70 (fun H locs w => ?_)
          refine lv_aload_n hx hb dX11_came_71 rfl (lv_at hl 1 rfl) ?_
          refine gM0_0 C w wl_94 dX11_came_72 ?_
          refine lv_iload hx hb dX11_came_75 (lv_at hl 0 rfl) ?_
          refine lv_iconst (v := 1) hx hb dX11_came_77 (by decide) ?_
          refine lv_iadd hx hb dX11_came_78 ?_
          refine lv_iload_n hx hb dX11_came_79 rfl (lv_at hl 3 rfl) ?_
          obtain ⟨i6, h⟩ := ck_t h
          refine stM1 (j := ((((50 : Int32) + ((3 : Int32) * (q1.2.2.2 1 4))) + (1 : Int32))).toNatClampNeg) C w i6 rfl dX11_came_80 (fun H locs w => ?_)
          refine lv_aload_n hx hb dX11_came_81 rfl (lv_at hl 1 rfl) ?_
          refine gM0_0 C w wl_94 dX11_came_82 ?_
          refine lv_iload hx hb dX11_came_85 (lv_at hl 0 rfl) ?_
          refine lv_iconst (v := 2) hx hb dX11_came_87 (by decide) ?_
          refine lv_iadd hx hb dX11_came_88 ?_
          refine lv_iload_n hx hb dX11_came_89 rfl (lv_at hl 4 rfl) ?_
          obtain ⟨i7, h⟩ := ck_t h
          refine stM1 (j := ((((50 : Int32) + ((3 : Int32) * (q1.2.2.2 1 4))) + (2 : Int32))).toNatClampNeg) C w i7 rfl dX11_came_90 (fun H locs w => ?_)
          refine lv_aload_n hx hb dX11_came_91 rfl (lv_at hl 1 rfl) ?_
          refine gM0_0 C w wl_94 dX11_came_92 ?_
          refine lv_iconst (v := 4) hx hb dX11_came_95 (by decide) ?_
          refine lv_dup2_11 hx hb dX11_came_96 rfl rfl ?_
          refine ldM1 (v := ((sE (sE (sE q1.2 1 ((((50 : Int32) + ((3 : Int32) * (q1.2.2.2 1 4)))).toNatClampNeg) x1) 1 (((((50 : Int32) + ((3 : Int32) * (q1.2.2.2 1 4))) + (1 : Int32))).toNatClampNeg) x2) 1 (((((50 : Int32) + ((3 : Int32) * (q1.2.2.2 1 4))) + (2 : Int32))).toNatClampNeg) x3).2.2 1 4)) C w (vl (by decide)) rfl dX11_came_97 ?_
          refine lv_iconst (v := 1) hx hb dX11_came_98 (by decide) ?_
          refine lv_iadd hx hb dX11_came_99 ?_
          refine stM1 (j := 4) C w (vl (by decide)) rfl dX11_came_100 (fun H locs w => ?_)
          refine lv_aload_n hx hb dX11_came_101 rfl (lv_at hl 1 rfl) ?_
          refine gM0_0 C w wl_94 dX11_came_102 ?_
          refine lv_iconst (v := 4) hx hb dX11_came_105 (by decide) ?_
          refine ldM1 (v := ((sE (sE (sE (sE q1.2 1 ((((50 : Int32) + ((3 : Int32) * (q1.2.2.2 1 4)))).toNatClampNeg) x1) 1 (((((50 : Int32) + ((3 : Int32) * (q1.2.2.2 1 4))) + (1 : Int32))).toNatClampNeg) x2) 1 (((((50 : Int32) + ((3 : Int32) * (q1.2.2.2 1 4))) + (2 : Int32))).toNatClampNeg) x3) 1 4 (((sE (sE (sE q1.2 1 ((((50 : Int32) + ((3 : Int32) * (q1.2.2.2 1 4)))).toNatClampNeg) x1) 1 (((((50 : Int32) + ((3 : Int32) * (q1.2.2.2 1 4))) + (1 : Int32))).toNatClampNeg) x2) 1 (((((50 : Int32) + ((3 : Int32) * (q1.2.2.2 1 4))) + (2 : Int32))).toNatClampNeg) x3).2.2 1 4) + (1 : Int32))).2.2 1 4)) C w (vl (by decide)) rfl dX11_came_106 ?_
          rw [hQ]
          exact rI (F := MW ca ad) C w h dX11_came_107
        · have h := it_t h c4
          refine lv_aload_n hx hb dX11_came_45 rfl (lv_at hl 0 rfl) ?_
          obtain ⟨q4, hq4, h⟩ := ob_t h
          refine res_i C w (run_V (As := []) (rest := []) C w hl.1 (recvM0 C w) (c_X11_full l D ca ad _  _ q4 hq4) rfl rfl wl_167 wl_168 wl_169 wl_5 wl_170 hd_X11_full rfl ⟨Nat.le_of_ble_eq_true rfl, Nat.le_of_ble_eq_true rfl⟩ rfl (Nat.le_of_ble_eq_true rfl) dX11_came_46) (fun H locs w => ?_)
          rw [hQ]
          exact rI (F := MW ca ad) C w h dX11_came_49
      · have h := it_t h c3
        exact b27 _ h _ _ _ w (lv_sub hl [0] rfl)
theorem hd_X11_forget : yX11_forget.cls = RX11 ∧ yX11_forget.cls ≠ "java/lang/invoke/MethodHandle" ∧ yX11_forget.cls ≠ "java/lang/invoke/VarHandle" ∧ (parseMethodDescriptor yX11_forget.desc).map (fun d => d.parameters.length) = some 1 := by decide +kernel
def f_X11_forget (σ : St) (x1 : Int32) : Option (Int32 × St) := (f_X11_in x1.toInt64 (0 : Int64) (1 : Int64)).bind fun q1 => if q1 = 0 then ((f_X11_bad σ (-2 : Int32)).bind fun q2 => some (q2.1, q2.2)) else (cond (ckI ((3 : Int32) + x1) 84) (cond (ckI ((3 : Int32) + x1) 84) (some ((σ.2.2 1 (((3 : Int32) + x1)).toNatClampNeg), (sE σ 1 ((((3 : Int32) + x1)).toNatClampNeg) (0 : Int32)))) none) none)
abbrev rm_X11_forget : Room := { frames := 1, cells := 0, slots := 0, locals := 60 }
set_option maxHeartbeats 4000000 in
set_option maxRecDepth 100000 in
theorem c_X11_forget (l : Launch) (D : va_G) (ca : Nat → ClassId) (ad : Nat → Nat) (σ : St) (x1 : Int32) (sz : Nat) (out : Int32 × St) (hf : f_X11_forget σ x1 = some out) : Met l yX11_forget (.code yX11_forget cX11_forget 3 (some .int) :: WL) rm_X11_forget (PreC D ca (MW ca ad σ) sz [.ref (ad 0), .int x1]) (PostI D (va_A (MW ca ad σ) sz) (MW ca ad out.2) out.1) 0 0 (va_A (MW ca ad σ) sz) := by
  refine Met.ofW (cc := cX11_forget) (maxL := 3) (ret := (some .int)) (by decide) rfl ?_
  intro p e s m args below meth c s₁ B hml hv
  obtain ⟨rfl, hsz, hP, hK, hD, hN⟩ := hv
  subst hsz
  have C := Cx.mk (own := RX11) B hml rfl hK hN (ws := (MW ca ad σ))
  have w : Wd (va_A (MW ca ad σ) s.heap.size) s D (MW ca ad σ) s.heap [] := ⟨hP, hD.self, va_S.rf⟩
  have hl := lv_entry ([.ref (ad 0), .int x1]) (n := 3) (Nat.le_of_ble_eq_true rfl)
  rw [lg_entry_eq]
  generalize (lg_sl ([.ref (ad 0), .int x1]) ++ List.replicate (3 - (lg_sl ([.ref (ad 0), .int x1])).length) Slot.unset).toArray = ls at hl ⊢
  have hl : lv_has ls 3 [(0, .ref (ad 0)), (1, .int x1)] := hl
  change W p l e rm_X11_forget s m _ below meth c _ [] 0 0 _ _
  clear B hP hD hK hN hml
  generalize va_A (MW ca ad σ) s.heap.size = A at C w ⊢
  generalize ([.ref (ad 0), .int x1] : List Value).toArray = av at C ⊢
  obtain ⟨Q, hQ⟩ : ∃ Q, Q = MQ below (PostI D A (MW ca ad out.2) out.1) av s 0 0 A := ⟨_, rfl⟩
  rw [← hQ]
  have hx := C.1
  have hb := C.2.1
  have h := hf
  unfold f_X11_forget at h
  refine lv_iload_n hx hb dX11_forget_0 rfl (lv_at hl 1 rfl) ?_
  refine lv_i2l hx hb dX11_forget_1 rfl ?_
  refine lv_lconst (v := 0) hx hb dX11_forget_2 (by decide) ?_
  refine lv_lconst (v := 1) hx hb dX11_forget_3 (by decide) ?_
  obtain ⟨q1, hq1, h⟩ := ob_t h
  refine res_i C w (run_S (As := [.long x1.toInt64, .long (0 : Int64), .long (1 : Int64)]) (rest := []) C w hl.1 (c_X11_in l D ca _ x1.toInt64 (0 : Int64) (1 : Int64) _ q1 hq1) rfl rfl wl_137 wl_138 wl_5 wl_139 hd_X11_in rfl ⟨Nat.le_of_ble_eq_true rfl, Nat.le_of_ble_eq_true rfl⟩ rfl (Nat.le_of_ble_eq_true rfl) dX11_forget_4) (fun H locs w => ?_)
  refine lv_if_ne (tgt := 17) hx hb dX11_forget_7 (by decide) (fun c1 => ?_) (fun c1 => ?_)
  · have h := it_f h c1
    refine lv_aload_n hx hb dX11_forget_17 rfl (lv_at hl 0 rfl) ?_
    refine gM0_0 C w wl_94 dX11_forget_18 ?_
    refine lv_iconst (v := 3) hx hb dX11_forget_21 (by decide) ?_
    refine lv_iload_n hx hb dX11_forget_22 rfl (lv_at hl 1 rfl) ?_
    refine lv_iadd hx hb dX11_forget_23 ?_
    obtain ⟨i2, h⟩ := ck_t h
    refine ldM1 (v := (σ.2.2 1 (((3 : Int32) + x1)).toNatClampNeg)) C w i2 rfl dX11_forget_24 ?_
    refine lv_istore_n (lv' := [(2, .int (σ.2.2 1 (((3 : Int32) + x1)).toNatClampNeg)), (0, .ref (ad 0)), (1, .int x1)]) hx hb dX11_forget_25 rfl hl (by decide) rfl (fun ls hl => ?_)
    refine lv_aload_n hx hb dX11_forget_26 rfl (lv_at hl 1 rfl) ?_
    refine gM0_0 C w wl_94 dX11_forget_27 ?_
    refine lv_iconst (v := 3) hx hb dX11_forget_30 (by decide) ?_
    refine lv_iload_n hx hb dX11_forget_31 rfl (lv_at hl 2 rfl) ?_
    refine lv_iadd hx hb dX11_forget_32 ?_
    refine lv_iconst (v := 0) hx hb dX11_forget_33 (by decide) ?_
    obtain ⟨i3, h⟩ := ck_t h
    refine stM1 (j := (((3 : Int32) + x1)).toNatClampNeg) C w i3 rfl dX11_forget_34 (fun H locs w => ?_)
    refine lv_iload_n hx hb dX11_forget_35 rfl (lv_at hl 0 rfl) ?_
    rw [hQ]
    exact rI (F := MW ca ad) C w h dX11_forget_36
  · have h := it_t h c1
    refine lv_aload_n hx hb dX11_forget_10 rfl (lv_at hl 0 rfl) ?_
    refine lv_bipush (v := -2) hx hb dX11_forget_11 (by decide) ?_
    obtain ⟨q2, hq2, h⟩ := ob_t h
    refine res_i C w (run_V (As := [.int (-2 : Int32)]) (rest := []) C w hl.1 (recvM0 C w) (c_X11_bad l D ca ad _ (-2 : Int32) _ q2 hq2) rfl rfl wl_140 wl_141 wl_142 wl_5 wl_143 hd_X11_bad rfl ⟨Nat.le_of_ble_eq_true rfl, Nat.le_of_ble_eq_true rfl⟩ rfl (Nat.le_of_ble_eq_true rfl) dX11_forget_13) (fun H locs w => ?_)
    rw [hQ]
    exact rI (F := MW ca ad) C w h dX11_forget_16
theorem hd_X11_kindsOf : yX11_kindsOf.cls = RX11 ∧ yX11_kindsOf.cls ≠ "java/lang/invoke/MethodHandle" ∧ yX11_kindsOf.cls ≠ "java/lang/invoke/VarHandle" ∧ (parseMethodDescriptor yX11_kindsOf.desc).map (fun d => d.parameters.length) = some 1 := by decide +kernel
def f_X11_kindsOf_b128 (K4 : St → Int32 → Int32 → Int32 → Option (Int32 × St)) (K16 : St → Int32 → Int32 → Int32 → Int32 → Int32 → Option (Int32 × St)) (σ : St) (x1 : Int32) (x2 : Int32) (x3 : Int32) (x5 : Int32) (y0 : Int32) : Option (Int32 × St) := K16 σ x1 x2 x3 y0 (x5 + (1 : Int32))
def f_X11_kindsOf_b123 (K4 : St → Int32 → Int32 → Int32 → Option (Int32 × St)) (K16 : St → Int32 → Int32 → Int32 → Int32 → Int32 → Option (Int32 × St)) (σ : St) (x1 : Int32) (x2 : Int32) (x3 : Int32) (x5 : Int32) : Option (Int32 × St) := f_X11_kindsOf_b128 K4 K16 σ x1 x2 x3 x5 (1 : Int32)
def f_X11_kindsOf_b127 (K4 : St → Int32 → Int32 → Int32 → Option (Int32 × St)) (K16 : St → Int32 → Int32 → Int32 → Int32 → Int32 → Option (Int32 × St)) (σ : St) (x1 : Int32) (x2 : Int32) (x3 : Int32) (x5 : Int32) : Option (Int32 × St) := f_X11_kindsOf_b128 K4 K16 σ x1 x2 x3 x5 (0 : Int32)
def f_X11_kindsOf_b100 (K4 : St → Int32 → Int32 → Int32 → Option (Int32 × St)) (K16 : St → Int32 → Int32 → Int32 → Int32 → Int32 → Option (Int32 × St)) (σ : St) (x1 : Int32) (x2 : Int32) (x3 : Int32) (x4 : Int32) (x5 : Int32) (x6 : Int32) (y0 : Int32) : Option (Int32 × St) := if x4 = 0 then (f_X11_kindsOf_b127 K4 K16 σ x1 x2 x3 x5) else (cond (ckI x6 84) (if (σ.2.2 1 x6.toNatClampNeg) = x1 then (if y0 = 0 then (f_X11_kindsOf_b127 K4 K16 σ x1 x2 x3 x5) else (f_X11_kindsOf_b123 K4 K16 σ x1 x2 x3 x5)) else (f_X11_kindsOf_b123 K4 K16 σ x1 x2 x3 x5)) none)
def f_X11_kindsOf_b99 (K4 : St → Int32 → Int32 → Int32 → Option (Int32 × St)) (K16 : St → Int32 → Int32 → Int32 → Int32 → Int32 → Option (Int32 × St)) (σ : St) (x1 : Int32) (x2 : Int32) (x3 : Int32) (x4 : Int32) (x5 : Int32) (x6 : Int32) : Option (Int32 × St) := f_X11_kindsOf_b100 K4 K16 σ x1 x2 x3 x4 x5 x6 (0 : Int32)
def f_X11_kindsOf_b149 (K4 : St → Int32 → Int32 → Int32 → Option (Int32 × St)) (σ : St) (x1 : Int32) (x3 : Int32) (y0 : Int32) (y1 : Int32) : Option (Int32 × St) := K4 σ x1 (y1 ||| y0) (x3 + (1 : Int32))
def f_X11_kindsOf_b16 (K4 : St → Int32 → Int32 → Int32 → Option (Int32 × St)) (K16 : St → Int32 → Int32 → Int32 → Int32 → Int32 → Option (Int32 × St)) (σ : St) (x1 : Int32) (x2 : Int32) (x3 : Int32) (x4 : Int32) (x5 : Int32) : Option (Int32 × St) := if (σ.2.2 1 3) ≤ x5 then (if x4 = 0 then (f_X11_kindsOf_b149 K4 σ x1 x3 (0 : Int32) x2) else (f_X11_kindsOf_b149 K4 σ x1 x3 ((1 : Int32) <<< (x3 &&& 31)) x2)) else (cond (ckI (((20 : Int32) + ((5 : Int32) * x5)) + (1 : Int32)) 84) (cond (ckI (((20 : Int32) + ((5 : Int32) * x5)) + (2 : Int32)) 84) ((f_X11_copyAs x3 (σ.2.2 1 ((((20 : Int32) + ((5 : Int32) * x5)) + (1 : Int32))).toNatClampNeg) (σ.2.2 1 ((((20 : Int32) + ((5 : Int32) * x5)) + (2 : Int32))).toNatClampNeg)).bind fun q1 => cond (ckI (((20 : Int32) + ((5 : Int32) * x5)) + (3 : Int32)) 84) (if q1 = (σ.2.2 1 ((((20 : Int32) + ((5 : Int32) * x5)) + (3 : Int32))).toNatClampNeg) then (cond (ckI (((20 : Int32) + ((5 : Int32) * x5)) + (2 : Int32)) 84) ((f_X11_takesAs x3 (σ.2.2 1 ((((20 : Int32) + ((5 : Int32) * x5)) + (2 : Int32))).toNatClampNeg)).bind fun q2 => cond (ckI (((20 : Int32) + ((5 : Int32) * x5)) + (4 : Int32)) 84) (if q2 = (σ.2.2 1 ((((20 : Int32) + ((5 : Int32) * x5)) + (4 : Int32))).toNatClampNeg) then (f_X11_kindsOf_b100 K4 K16 σ x1 x2 x3 x4 x5 ((20 : Int32) + ((5 : Int32) * x5)) (1 : Int32)) else (f_X11_kindsOf_b99 K4 K16 σ x1 x2 x3 x4 x5 ((20 : Int32) + ((5 : Int32) * x5)))) none) none) else (f_X11_kindsOf_b99 K4 K16 σ x1 x2 x3 x4 x5 ((20 : Int32) + ((5 : Int32) * x5)))) none) none) none)
def f_X11_kindsOf_L16 (K4 : St → Int32 → Int32 → Int32 → Option (Int32 × St)) : Nat → St → Int32 → Int32 → Int32 → Int32 → Int32 → Option (Int32 × St)
  | 0 => fun _ _ _ _ _ _ => none
  | n + 1 => f_X11_kindsOf_b16 K4 (f_X11_kindsOf_L16 K4 n)
def f_X11_kindsOf_b4 (K4 : St → Int32 → Int32 → Int32 → Option (Int32 × St)) (σ : St) (x1 : Int32) (x2 : Int32) (x3 : Int32) : Option (Int32 × St) := if (6 : Int32) ≤ x3 then (some (x2, σ)) else (f_X11_kindsOf_L16 K4 FU σ x1 x2 x3 (1 : Int32) (0 : Int32))
def f_X11_kindsOf_L4 : Nat → St → Int32 → Int32 → Int32 → Option (Int32 × St)
  | 0 => fun _ _ _ _ => none
  | n + 1 => f_X11_kindsOf_b4 (f_X11_kindsOf_L4 n)
def f_X11_kindsOf (σ : St) (x1 : Int32) : Option (Int32 × St) := f_X11_kindsOf_L4 FU σ x1 (0 : Int32) (0 : Int32)
abbrev rm_X11_kindsOf : Room := { frames := 3, cells := 0, slots := 0, locals := 180 }
set_option maxHeartbeats 4000000 in
set_option maxRecDepth 100000 in
theorem c_X11_kindsOf (l : Launch) (D : va_G) (ca : Nat → ClassId) (ad : Nat → Nat) (σ : St) (x1 : Int32) (sz : Nat) (out : Int32 × St) (hf : f_X11_kindsOf σ x1 = some out) : Met l yX11_kindsOf (.code yX11_kindsOf cX11_kindsOf 8 (some .int) :: WL) rm_X11_kindsOf (PreC D ca (MW ca ad σ) sz [.ref (ad 0), .int x1]) (PostI D (va_A (MW ca ad σ) sz) (MW ca ad out.2) out.1) 0 0 (va_A (MW ca ad σ) sz) := by
  refine Met.ofW (cc := cX11_kindsOf) (maxL := 8) (ret := (some .int)) (by decide) rfl ?_
  intro p e s m args below meth c s₁ B hml hv
  obtain ⟨rfl, hsz, hP, hK, hD, hN⟩ := hv
  subst hsz
  have C := Cx.mk (own := RX11) B hml rfl hK hN (ws := (MW ca ad σ))
  have w : Wd (va_A (MW ca ad σ) s.heap.size) s D (MW ca ad σ) s.heap [] := ⟨hP, hD.self, va_S.rf⟩
  have hl := lv_entry ([.ref (ad 0), .int x1]) (n := 8) (Nat.le_of_ble_eq_true rfl)
  rw [lg_entry_eq]
  generalize (lg_sl ([.ref (ad 0), .int x1]) ++ List.replicate (8 - (lg_sl ([.ref (ad 0), .int x1])).length) Slot.unset).toArray = ls at hl ⊢
  have hl : lv_has ls 8 [(0, .ref (ad 0)), (1, .int x1)] := hl
  change W p l e rm_X11_kindsOf s m _ below meth c _ [] 0 0 _ _
  clear B hP hD hK hN hml
  generalize va_A (MW ca ad σ) s.heap.size = A at C w ⊢
  generalize ([.ref (ad 0), .int x1] : List Value).toArray = av at C ⊢
  obtain ⟨Q, hQ⟩ : ∃ Q, Q = MQ below (PostI D A (MW ca ad out.2) out.1) av s 0 0 A := ⟨_, rfl⟩
  rw [← hQ]
  have hx := C.1
  have hb := C.2.1
  have L4 : ∀ (n4 : Nat) (σ : St) (x1 : Int32) (x2 : Int32) (x3 : Int32), f_X11_kindsOf_L4 n4 σ x1 x2 x3 = some out → Bk p l e rm_X11_kindsOf s m av below meth c A D 8 Q (MW ca ad σ) 4 [(0, .ref (ad 0)), (1, .int x1), (2, .int x2), (3, .int x3)] [] := by
    intro n4
    induction n4 with
    | zero => intro σ x1 x2 x3 h; exact absurd h (by simp [f_X11_kindsOf_L4])
    | succ n4 ih4 =>
      have b149 : ∀ (σ : St) (x1 : Int32) (x3 : Int32) (y0 : Int32) (y1 : Int32), f_X11_kindsOf_b149 (f_X11_kindsOf_L4 n4) σ x1 x3 y0 y1 = some out → Bk p l e rm_X11_kindsOf s m av below meth c A D 8 Q (MW ca ad σ) 149 [(0, .ref (ad 0)), (1, .int x1), (3, .int x3)] [.int y0, .int y1] := by
        intro σ x1 x3 y0 y1 h H locs ls w hl
        unfold f_X11_kindsOf_b149 at h
        refine lv_ior hx hb dX11_kindsOf_149 ?_
        refine lv_istore_n (lv' := [(2, .int (y1 ||| y0)), (0, .ref (ad 0)), (1, .int x1), (3, .int x3)]) hx hb dX11_kindsOf_150 rfl hl (by decide) rfl (fun ls hl => ?_)
        refine lv_iinc (v := (x3 + (1 : Int32))) (lv' := [(3, .int (x3 + (1 : Int32))), (2, .int (y1 ||| y0)), (0, .ref (ad 0)), (1, .int x1)]) hx hb dX11_kindsOf_151 hl (k := 3) rfl rfl (by decide) rfl (fun ls hl => ?_)
        refine lv_goto (tgt := 4) hx hb dX11_kindsOf_154 (by decide) ?_
        exact ih4 _ _ _ _ h _ _ _ w (lv_sub hl [2, 3, 1, 0] rfl)
      have L16 : ∀ (n16 : Nat) (σ : St) (x1 : Int32) (x2 : Int32) (x3 : Int32) (x4 : Int32) (x5 : Int32), f_X11_kindsOf_L16 (f_X11_kindsOf_L4 n4) n16 σ x1 x2 x3 x4 x5 = some out → Bk p l e rm_X11_kindsOf s m av below meth c A D 8 Q (MW ca ad σ) 16 [(0, .ref (ad 0)), (1, .int x1), (2, .int x2), (3, .int x3), (4, .int x4), (5, .int x5)] [] := by
        intro n16
        induction n16 with
        | zero => intro σ x1 x2 x3 x4 x5 h; exact absurd h (by simp [f_X11_kindsOf_L16])
        | succ n16 ih16 =>
          have b128 : ∀ (σ : St) (x1 : Int32) (x2 : Int32) (x3 : Int32) (x5 : Int32) (y0 : Int32), f_X11_kindsOf_b128 (f_X11_kindsOf_L4 n4) (f_X11_kindsOf_L16 (f_X11_kindsOf_L4 n4) n16) σ x1 x2 x3 x5 y0 = some out → Bk p l e rm_X11_kindsOf s m av below meth c A D 8 Q (MW ca ad σ) 128 [(0, .ref (ad 0)), (1, .int x1), (2, .int x2), (3, .int x3), (5, .int x5)] [.int y0] := by
            intro σ x1 x2 x3 x5 y0 h H locs ls w hl
            unfold f_X11_kindsOf_b128 at h
            refine lv_istore (lv' := [(4, .int y0), (0, .ref (ad 0)), (1, .int x1), (2, .int x2), (3, .int x3), (5, .int x5)]) hx hb dX11_kindsOf_128 hl (by decide) rfl (fun ls hl => ?_)
            refine lv_iinc (v := (x5 + (1 : Int32))) (lv' := [(5, .int (x5 + (1 : Int32))), (4, .int y0), (0, .ref (ad 0)), (1, .int x1), (2, .int x2), (3, .int x3)]) hx hb dX11_kindsOf_130 hl (k := 5) rfl rfl (by decide) rfl (fun ls hl => ?_)
            refine lv_goto (tgt := 16) hx hb dX11_kindsOf_133 (by decide) ?_
            exact ih16 _ _ _ _ _ _ h _ _ _ w (lv_sub hl [2, 3, 4, 5, 1, 0] rfl)
          have b123 : ∀ (σ : St) (x1 : Int32) (x2 : Int32) (x3 : Int32) (x5 : Int32), f_X11_kindsOf_b123 (f_X11_kindsOf_L4 n4) (f_X11_kindsOf_L16 (f_X11_kindsOf_L4 n4) n16) σ x1 x2 x3 x5 = some out → Bk p l e rm_X11_kindsOf s m av below meth c A D 8 Q (MW ca ad σ) 123 [(0, .ref (ad 0)), (1, .int x1), (2, .int x2), (3, .int x3), (5, .int x5)] [] := by
            intro σ x1 x2 x3 x5 h H locs ls w hl
            unfold f_X11_kindsOf_b123 at h
            refine lv_iconst (v := 1) hx hb dX11_kindsOf_123 (by decide) ?_
            refine lv_goto (tgt := 128) hx hb dX11_kindsOf_124 (by decide) ?_
            exact b128 _ _ _ _ _ _ h _ _ _ w (lv_sub hl [0, 1, 2, 3, 4] rfl)
          have b127 : ∀ (σ : St) (x1 : Int32) (x2 : Int32) (x3 : Int32) (x5 : Int32), f_X11_kindsOf_b127 (f_X11_kindsOf_L4 n4) (f_X11_kindsOf_L16 (f_X11_kindsOf_L4 n4) n16) σ x1 x2 x3 x5 = some out → Bk p l e rm_X11_kindsOf s m av below meth c A D 8 Q (MW ca ad σ) 127 [(0, .ref (ad 0)), (1, .int x1), (2, .int x2), (3, .int x3), (5, .int x5)] [] := by
            intro σ x1 x2 x3 x5 h H locs ls w hl
            unfold f_X11_kindsOf_b127 at h
            refine lv_iconst (v := 0) hx hb dX11_kindsOf_127 (by decide) ?_
            exact b128 _ _ _ _ _ _ h _ _ _ w (lv_sub hl [0, 1, 2, 3, 4] rfl)
          have b100 : ∀ (σ : St) (x1 : Int32) (x2 : Int32) (x3 : Int32) (x4 : Int32) (x5 : Int32) (x6 : Int32) (y0 : Int32), f_X11_kindsOf_b100 (f_X11_kindsOf_L4 n4) (f_X11_kindsOf_L16 (f_X11_kindsOf_L4 n4) n16) σ x1 x2 x3 x4 x5 x6 y0 = some out → Bk p l e rm_X11_kindsOf s m av below meth c A D 8 Q (MW ca ad σ) 100 [(0, .ref (ad 0)), (1, .int x1), (2, .int x2), (3, .int x3), (4, .int x4), (5, .int x5), (6, .int x6)] [.int y0] := by
            intro σ x1 x2 x3 x4 x5 x6 y0 h H locs ls w hl
            unfold f_X11_kindsOf_b100 at h
            refine lv_istore (lv' := [(7, .int y0), (0, .ref (ad 0)), (1, .int x1), (2, .int x2), (3, .int x3), (4, .int x4), (5, .int x5), (6, .int x6)]) hx hb dX11_kindsOf_100 hl (by decide) rfl (fun ls hl => ?_)
            refine lv_iload hx hb dX11_kindsOf_102 (lv_at hl 5 rfl) ?_
            refine lv_if_eq (tgt := 127) hx hb dX11_kindsOf_104 (by decide) (fun c1 => ?_) (fun c1 => ?_)
            · have h := it_t h c1
              exact b127 _ _ _ _ _ h _ _ _ w (lv_sub hl [1, 2, 3, 4, 6] rfl)
            · have h := it_f h c1
              refine lv_aload_n hx hb dX11_kindsOf_107 rfl (lv_at hl 1 rfl) ?_
              refine gM0_0 C w wl_94 dX11_kindsOf_108 ?_
              refine lv_iload hx hb dX11_kindsOf_111 (lv_at hl 7 rfl) ?_
              obtain ⟨i2, h⟩ := ck_t h
              refine ldM1 (v := (σ.2.2 1 x6.toNatClampNeg)) C w i2 rfl dX11_kindsOf_113 ?_
              refine lv_iload_n hx hb dX11_kindsOf_114 rfl (lv_at hl 2 rfl) ?_
              refine lv_icmp_ne (tgt := 123) hx hb dX11_kindsOf_115 (by decide) (fun c3 => ?_) (fun c3 => ?_)
              · have h := it_f h c3
                exact b123 _ _ _ _ _ h _ _ _ w (lv_sub hl [1, 2, 3, 4, 6] rfl)
              · have h := it_t h c3
                refine lv_iload hx hb dX11_kindsOf_118 (lv_at hl 0 rfl) ?_
                refine lv_if_eq (tgt := 127) hx hb dX11_kindsOf_120 (by decide) (fun c4 => ?_) (fun c4 => ?_)
                · have h := it_t h c4
                  exact b127 _ _ _ _ _ h _ _ _ w (lv_sub hl [1, 2, 3, 4, 6] rfl)
                · have h := it_f h c4
                  exact b123 _ _ _ _ _ h _ _ _ w (lv_sub hl [1, 2, 3, 4, 6] rfl)
          have b99 : ∀ (σ : St) (x1 : Int32) (x2 : Int32) (x3 : Int32) (x4 : Int32) (x5 : Int32) (x6 : Int32), f_X11_kindsOf_b99 (f_X11_kindsOf_L4 n4) (f_X11_kindsOf_L16 (f_X11_kindsOf_L4 n4) n16) σ x1 x2 x3 x4 x5 x6 = some out → Bk p l e rm_X11_kindsOf s m av below meth c A D 8 Q (MW ca ad σ) 99 [(0, .ref (ad 0)), (1, .int x1), (2, .int x2), (3, .int x3), (4, .int x4), (5, .int x5), (6, .int x6)] [] := by
            intro σ x1 x2 x3 x4 x5 x6 h H locs ls w hl
            unfold f_X11_kindsOf_b99 at h
            refine lv_iconst (v := 0) hx hb dX11_kindsOf_99 (by decide) ?_
            exact b100 _ _ _ _ _ _ _ _ h _ _ _ w (lv_sub hl [0, 1, 2, 3, 4, 5, 6] rfl)
          intro σ x1 x2 x3 x4 x5 h H locs ls w hl
          change f_X11_kindsOf_b16 (f_X11_kindsOf_L4 n4) (f_X11_kindsOf_L16 (f_X11_kindsOf_L4 n4) n16) σ x1 x2 x3 x4 x5 = some out at h
          unfold f_X11_kindsOf_b16 at h
          refine lv_iload hx hb dX11_kindsOf_16 (lv_at hl 5 rfl) ?_
          refine lv_aload_n hx hb dX11_kindsOf_18 rfl (lv_at hl 0 rfl) ?_
          refine gM0_0 C w wl_94 dX11_kindsOf_19 ?_
          refine lv_iconst (v := 3) hx hb dX11_kindsOf_22 (by decide) ?_
          refine ldM1 (v := (σ.2.2 1 3)) C w (vl (by decide)) rfl dX11_kindsOf_23 ?_
          refine lv_icmp_ge (tgt := 136) hx hb dX11_kindsOf_24 (by decide) (fun c1 => ?_) (fun c1 => ?_)
          · have h := it_t h c1
            refine lv_iload_n hx hb dX11_kindsOf_136 rfl (lv_at hl 2 rfl) ?_
            refine lv_iload hx hb dX11_kindsOf_137 (lv_at hl 4 rfl) ?_
            refine lv_if_eq (tgt := 148) hx hb dX11_kindsOf_139 (by decide) (fun c2 => ?_) (fun c2 => ?_)
            · have h := it_t h c2
              refine lv_iconst (v := 0) hx hb dX11_kindsOf_148 (by decide) ?_
              exact b149 _ _ _ _ _ h _ _ _ w (lv_sub hl [0, 1, 3] rfl)
            · have h := it_f h c2
              refine lv_iconst (v := 1) hx hb dX11_kindsOf_142 (by decide) ?_
              refine lv_iload_n hx hb dX11_kindsOf_143 rfl (lv_at hl 3 rfl) ?_
              refine lv_ishl hx hb dX11_kindsOf_144 ?_
              refine lv_goto (tgt := 149) hx hb dX11_kindsOf_145 (by decide) ?_
              exact b149 _ _ _ _ _ h _ _ _ w (lv_sub hl [0, 1, 3] rfl)
          · have h := it_f h c1
            refine lv_bipush (v := 20) hx hb dX11_kindsOf_27 (by decide) ?_
            refine lv_iconst (v := 5) hx hb dX11_kindsOf_29 (by decide) ?_
            refine lv_iload hx hb dX11_kindsOf_30 (lv_at hl 5 rfl) ?_
            refine lv_imul hx hb dX11_kindsOf_32 ?_
            refine lv_iadd hx hb dX11_kindsOf_33 ?_
            refine lv_istore (lv' := [(6, .int ((20 : Int32) + ((5 : Int32) * x5))), (0, .ref (ad 0)), (1, .int x1), (2, .int x2), (3, .int x3), (4, .int x4), (5, .int x5)]) hx hb dX11_kindsOf_34 hl (by decide) rfl (fun ls hl => ?_)
            refine lv_iload_n hx hb dX11_kindsOf_36 rfl (lv_at hl 4 rfl) ?_
            refine lv_aload_n hx hb dX11_kindsOf_37 rfl (lv_at hl 1 rfl) ?_
            refine gM0_0 C w wl_94 dX11_kindsOf_38 ?_
            refine lv_iload hx hb dX11_kindsOf_41 (lv_at hl 0 rfl) ?_
            refine lv_iconst (v := 1) hx hb dX11_kindsOf_43 (by decide) ?_
            refine lv_iadd hx hb dX11_kindsOf_44 ?_
            obtain ⟨i3, h⟩ := ck_t h
            refine ldM1 (v := (σ.2.2 1 ((((20 : Int32) + ((5 : Int32) * x5)) + (1 : Int32))).toNatClampNeg)) C w i3 rfl dX11_kindsOf_45 ?_
            refine lv_aload_n hx hb dX11_kindsOf_46 rfl (lv_at hl 1 rfl) ?_
            refine gM0_0 C w wl_94 dX11_kindsOf_47 ?_
            refine lv_iload hx hb dX11_kindsOf_50 (lv_at hl 0 rfl) ?_
            refine lv_iconst (v := 2) hx hb dX11_kindsOf_52 (by decide) ?_
            refine lv_iadd hx hb dX11_kindsOf_53 ?_
            obtain ⟨i4, h⟩ := ck_t h
            refine ldM1 (v := (σ.2.2 1 ((((20 : Int32) + ((5 : Int32) * x5)) + (2 : Int32))).toNatClampNeg)) C w i4 rfl dX11_kindsOf_54 ?_
            obtain ⟨q1, hq1, h⟩ := ob_t h
            refine res_i C w (run_S (As := [.int x3, .int (σ.2.2 1 ((((20 : Int32) + ((5 : Int32) * x5)) + (1 : Int32))).toNatClampNeg), .int (σ.2.2 1 ((((20 : Int32) + ((5 : Int32) * x5)) + (2 : Int32))).toNatClampNeg)]) (rest := []) C w hl.1 (c_X11_copyAs l D ca _ x3 (σ.2.2 1 ((((20 : Int32) + ((5 : Int32) * x5)) + (1 : Int32))).toNatClampNeg) (σ.2.2 1 ((((20 : Int32) + ((5 : Int32) * x5)) + (2 : Int32))).toNatClampNeg) _ q1 hq1) rfl rfl wl_529 wl_530 wl_5 wl_531 hd_X11_copyAs rfl ⟨Nat.le_of_ble_eq_true rfl, Nat.le_of_ble_eq_true rfl⟩ rfl (Nat.le_of_ble_eq_true rfl) dX11_kindsOf_55) (fun H locs w => ?_)
            refine lv_aload_n hx hb dX11_kindsOf_58 rfl (lv_at hl 1 rfl) ?_
            refine gM0_0 C w wl_94 dX11_kindsOf_59 ?_
            refine lv_iload hx hb dX11_kindsOf_62 (lv_at hl 0 rfl) ?_
            refine lv_iconst (v := 3) hx hb dX11_kindsOf_64 (by decide) ?_
            refine lv_iadd hx hb dX11_kindsOf_65 ?_
            obtain ⟨i5, h⟩ := ck_t h
            refine ldM1 (v := (σ.2.2 1 ((((20 : Int32) + ((5 : Int32) * x5)) + (3 : Int32))).toNatClampNeg)) C w i5 rfl dX11_kindsOf_66 ?_
            refine lv_icmp_ne (tgt := 99) hx hb dX11_kindsOf_67 (by decide) (fun c6 => ?_) (fun c6 => ?_)
            · have h := it_f h c6
              exact b99 _ _ _ _ _ _ _ h _ _ _ w (lv_sub hl [1, 2, 3, 4, 5, 6, 0] rfl)
            · have h := it_t h c6
              refine lv_iload_n hx hb dX11_kindsOf_70 rfl (lv_at hl 4 rfl) ?_
              refine lv_aload_n hx hb dX11_kindsOf_71 rfl (lv_at hl 1 rfl) ?_
              refine gM0_0 C w wl_94 dX11_kindsOf_72 ?_
              refine lv_iload hx hb dX11_kindsOf_75 (lv_at hl 0 rfl) ?_
              refine lv_iconst (v := 2) hx hb dX11_kindsOf_77 (by decide) ?_
              refine lv_iadd hx hb dX11_kindsOf_78 ?_
              obtain ⟨i7, h⟩ := ck_t h
              refine ldM1 (v := (σ.2.2 1 ((((20 : Int32) + ((5 : Int32) * x5)) + (2 : Int32))).toNatClampNeg)) C w i7 rfl dX11_kindsOf_79 ?_
              obtain ⟨q2, hq2, h⟩ := ob_t h
              refine res_i C w (run_S (As := [.int x3, .int (σ.2.2 1 ((((20 : Int32) + ((5 : Int32) * x5)) + (2 : Int32))).toNatClampNeg)]) (rest := []) C w hl.1 (c_X11_takesAs l D ca _ x3 (σ.2.2 1 ((((20 : Int32) + ((5 : Int32) * x5)) + (2 : Int32))).toNatClampNeg) _ q2 hq2) rfl rfl wl_538 wl_539 wl_5 wl_540 hd_X11_takesAs rfl ⟨Nat.le_of_ble_eq_true rfl, Nat.le_of_ble_eq_true rfl⟩ rfl (Nat.le_of_ble_eq_true rfl) dX11_kindsOf_80) (fun H locs w => ?_)
              refine lv_aload_n hx hb dX11_kindsOf_83 rfl (lv_at hl 1 rfl) ?_
              refine gM0_0 C w wl_94 dX11_kindsOf_84 ?_
              refine lv_iload hx hb dX11_kindsOf_87 (lv_at hl 0 rfl) ?_
              refine lv_iconst (v := 4) hx hb dX11_kindsOf_89 (by decide) ?_
              refine lv_iadd hx hb dX11_kindsOf_90 ?_
              obtain ⟨i8, h⟩ := ck_t h
              refine ldM1 (v := (σ.2.2 1 ((((20 : Int32) + ((5 : Int32) * x5)) + (4 : Int32))).toNatClampNeg)) C w i8 rfl dX11_kindsOf_91 ?_
              refine lv_icmp_ne (tgt := 99) hx hb dX11_kindsOf_92 (by decide) (fun c9 => ?_) (fun c9 => ?_)
              · have h := it_f h c9
                exact b99 _ _ _ _ _ _ _ h _ _ _ w (lv_sub hl [1, 2, 3, 4, 5, 6, 0] rfl)
              · have h := it_t h c9
                refine lv_iconst (v := 1) hx hb dX11_kindsOf_95 (by decide) ?_
                refine lv_goto (tgt := 100) hx hb dX11_kindsOf_96 (by decide) ?_
                exact b100 _ _ _ _ _ _ _ _ h _ _ _ w (lv_sub hl [1, 2, 3, 4, 5, 6, 0] rfl)
      intro σ x1 x2 x3 h H locs ls w hl
      change f_X11_kindsOf_b4 (f_X11_kindsOf_L4 n4) σ x1 x2 x3 = some out at h
      unfold f_X11_kindsOf_b4 at h
      refine lv_iload_n hx hb dX11_kindsOf_4 rfl (lv_at hl 3 rfl) ?_
      refine lv_bipush (v := 6) hx hb dX11_kindsOf_5 (by decide) ?_
      refine lv_icmp_ge (tgt := 157) hx hb dX11_kindsOf_7 (by decide) (fun c1 => ?_) (fun c1 => ?_)
      · have h := it_t h c1
        refine lv_iload_n hx hb dX11_kindsOf_157 rfl (lv_at hl 2 rfl) ?_
        rw [hQ]
        exact rI (F := MW ca ad) C w h dX11_kindsOf_158
      · have h := it_f h c1
        refine lv_iconst (v := 1) hx hb dX11_kindsOf_10 (by decide) ?_
        refine lv_istore (lv' := [(4, .int (1 : Int32)), (0, .ref (ad 0)), (1, .int x1), (2, .int x2), (3, .int x3)]) hx hb dX11_kindsOf_11 hl (by decide) rfl (fun ls hl => ?_)
        refine lv_iconst (v := 0) hx hb dX11_kindsOf_13 (by decide) ?_
        refine lv_istore (lv' := [(5, .int (0 : Int32)), (4, .int (1 : Int32)), (0, .ref (ad 0)), (1, .int x1), (2, .int x2), (3, .int x3)]) hx hb dX11_kindsOf_14 hl (by decide) rfl (fun ls hl => ?_)
        exact L16 FU _ _ _ _ _ _ h _ _ _ w (lv_sub hl [2, 3, 4, 5, 1, 0] rfl)
  have h := hf
  unfold f_X11_kindsOf at h
  refine lv_iconst (v := 0) hx hb dX11_kindsOf_0 (by decide) ?_
  refine lv_istore_n (lv' := [(2, .int (0 : Int32)), (0, .ref (ad 0)), (1, .int x1)]) hx hb dX11_kindsOf_1 rfl hl (by decide) rfl (fun ls hl => ?_)
  refine lv_iconst (v := 0) hx hb dX11_kindsOf_2 (by decide) ?_
  refine lv_istore_n (lv' := [(3, .int (0 : Int32)), (2, .int (0 : Int32)), (0, .ref (ad 0)), (1, .int x1)]) hx hb dX11_kindsOf_3 rfl hl (by decide) rfl (fun ls hl => ?_)
  exact L4 FU _ _ _ _ h _ _ _ w (lv_sub hl [2, 3, 1, 0] rfl)
theorem hd_X11_is : yX11_is.cls = RX11 ∧ yX11_is.cls ≠ "java/lang/invoke/MethodHandle" ∧ yX11_is.cls ≠ "java/lang/invoke/VarHandle" ∧ (parseMethodDescriptor yX11_is.desc).map (fun d => d.parameters.length) = some 1 := by decide +kernel
def f_X11_is (σ : St) (x1 : Int32) : Option (Int32 × St) := (f_X11_isTree σ x1).bind fun q1 => if q1.1 = 0 then ((f_X11_bad q1.2 (-2 : Int32)).bind fun q2 => some (q2.1, q2.2)) else ((f_X11_kindsOf q1.2 x1).bind fun q3 => some (q3.1, q3.2))
abbrev rm_X11_is : Room := { frames := 4, cells := 0, slots := 0, locals := 240 }
set_option maxHeartbeats 4000000 in
set_option maxRecDepth 100000 in
theorem c_X11_is (l : Launch) (D : va_G) (ca : Nat → ClassId) (ad : Nat → Nat) (σ : St) (x1 : Int32) (sz : Nat) (out : Int32 × St) (hf : f_X11_is σ x1 = some out) : Met l yX11_is (.code yX11_is cX11_is 2 (some .int) :: WL) rm_X11_is (PreC D ca (MW ca ad σ) sz [.ref (ad 0), .int x1]) (PostI D (va_A (MW ca ad σ) sz) (MW ca ad out.2) out.1) 0 0 (va_A (MW ca ad σ) sz) := by
  refine Met.ofW (cc := cX11_is) (maxL := 2) (ret := (some .int)) (by decide) rfl ?_
  intro p e s m args below meth c s₁ B hml hv
  obtain ⟨rfl, hsz, hP, hK, hD, hN⟩ := hv
  subst hsz
  have C := Cx.mk (own := RX11) B hml rfl hK hN (ws := (MW ca ad σ))
  have w : Wd (va_A (MW ca ad σ) s.heap.size) s D (MW ca ad σ) s.heap [] := ⟨hP, hD.self, va_S.rf⟩
  have hl := lv_entry ([.ref (ad 0), .int x1]) (n := 2) (Nat.le_of_ble_eq_true rfl)
  rw [lg_entry_eq]
  generalize (lg_sl ([.ref (ad 0), .int x1]) ++ List.replicate (2 - (lg_sl ([.ref (ad 0), .int x1])).length) Slot.unset).toArray = ls at hl ⊢
  have hl : lv_has ls 2 [(0, .ref (ad 0)), (1, .int x1)] := hl
  change W p l e rm_X11_is s m _ below meth c _ [] 0 0 _ _
  clear B hP hD hK hN hml
  generalize va_A (MW ca ad σ) s.heap.size = A at C w ⊢
  generalize ([.ref (ad 0), .int x1] : List Value).toArray = av at C ⊢
  obtain ⟨Q, hQ⟩ : ∃ Q, Q = MQ below (PostI D A (MW ca ad out.2) out.1) av s 0 0 A := ⟨_, rfl⟩
  rw [← hQ]
  have hx := C.1
  have hb := C.2.1
  have h := hf
  unfold f_X11_is at h
  refine lv_aload_n hx hb dX11_is_0 rfl (lv_at hl 0 rfl) ?_
  refine lv_iload_n hx hb dX11_is_1 rfl (lv_at hl 1 rfl) ?_
  obtain ⟨q1, hq1, h⟩ := ob_t h
  refine res_i C w (run_V (As := [.int x1]) (rest := []) C w hl.1 (recvM0 C w) (c_X11_isTree l D ca ad _ x1 _ q1 hq1) rfl rfl wl_188 wl_189 wl_190 wl_5 wl_191 hd_X11_isTree rfl ⟨Nat.le_of_ble_eq_true rfl, Nat.le_of_ble_eq_true rfl⟩ rfl (Nat.le_of_ble_eq_true rfl) dX11_is_2) (fun H locs w => ?_)
  refine lv_if_eq (tgt := 16) hx hb dX11_is_5 (by decide) (fun c1 => ?_) (fun c1 => ?_)
  · have h := it_t h c1
    refine lv_aload_n hx hb dX11_is_16 rfl (lv_at hl 0 rfl) ?_
    refine lv_bipush (v := -2) hx hb dX11_is_17 (by decide) ?_
    obtain ⟨q2, hq2, h⟩ := ob_t h
    refine res_i C w (run_V (As := [.int (-2 : Int32)]) (rest := []) C w hl.1 (recvM0 C w) (c_X11_bad l D ca ad _ (-2 : Int32) _ q2 hq2) rfl rfl wl_140 wl_141 wl_142 wl_5 wl_143 hd_X11_bad rfl ⟨Nat.le_of_ble_eq_true rfl, Nat.le_of_ble_eq_true rfl⟩ rfl (Nat.le_of_ble_eq_true rfl) dX11_is_19) (fun H locs w => ?_)
    rw [hQ]
    exact rI (F := MW ca ad) C w h dX11_is_22
  · have h := it_f h c1
    refine lv_aload_n hx hb dX11_is_8 rfl (lv_at hl 0 rfl) ?_
    refine lv_iload_n hx hb dX11_is_9 rfl (lv_at hl 1 rfl) ?_
    obtain ⟨q3, hq3, h⟩ := ob_t h
    refine res_i C w (run_V (As := [.int x1]) (rest := []) C w hl.1 (recvM0 C w) (c_X11_kindsOf l D ca ad _ x1 _ q3 hq3) rfl rfl wl_811 wl_812 wl_813 wl_5 wl_814 hd_X11_kindsOf rfl ⟨Nat.le_of_ble_eq_true rfl, Nat.le_of_ble_eq_true rfl⟩ rfl (Nat.le_of_ble_eq_true rfl) dX11_is_10) (fun H locs w => ?_)
    refine lv_goto (tgt := 22) hx hb dX11_is_13 (by decide) ?_
    rw [hQ]
    exact rI (F := MW ca ad) C w h dX11_is_22
theorem hd_X11_doAlike : yX11_doAlike.cls ≠ "java/lang/invoke/MethodHandle" ∧ yX11_doAlike.cls ≠ "java/lang/invoke/VarHandle" ∧ (parseMethodDescriptor yX11_doAlike.desc).map (fun d => d.parameters.length) = some 4 := by decide +kernel
def f_X11_doAlike (x0 : Int32) (x1 : Int32) (x2 : Int32) (x3 : Int32) : Option (Int32) := (f_X11_copyAs x0 x2 x3).bind fun q1 => (f_X11_copyAs x1 x2 x3).bind fun q2 => if q1 = q2 then ((f_X11_takesAs x0 x3).bind fun q3 => (f_X11_takesAs x1 x3).bind fun q4 => if q3 = q4 then (some (1 : Int32)) else (some (0 : Int32))) else (some (0 : Int32))
abbrev rm_X11_doAlike : Room := { frames := 3, cells := 0, slots := 0, locals := 180 }
set_option maxHeartbeats 4000000 in
set_option maxRecDepth 100000 in
theorem c_X11_doAlike (l : Launch) (D : va_G) (ca : Nat → ClassId) (ws : va_W) (x0 : Int32) (x1 : Int32) (x2 : Int32) (x3 : Int32) (sz : Nat) (out : Int32) (hf : f_X11_doAlike x0 x1 x2 x3 = some out) : Met l yX11_doAlike (.code yX11_doAlike cX11_doAlike 4 (some .boolean) :: WL) rm_X11_doAlike (PreC D ca ws sz [.int x0, .int x1, .int x2, .int x3]) (PostI D (va_A ws sz) ws out) 0 0 (va_A ws sz) := by
  refine Met.ofW (cc := cX11_doAlike) (maxL := 4) (ret := (some .boolean)) (by decide) rfl ?_
  intro p e s m args below meth c s₁ B hml hv
  obtain ⟨rfl, hsz, hP, hK, hD, hN⟩ := hv
  subst hsz
  have C := Cx.mk (own := RX11) B hml rfl hK hN (ws := ws)
  have w : Wd (va_A ws s.heap.size) s D ws s.heap [] := ⟨hP, hD.self, va_S.rf⟩
  have hl := lv_entry ([.int x0, .int x1, .int x2, .int x3]) (n := 4) (Nat.le_of_ble_eq_true rfl)
  rw [lg_entry_eq]
  generalize (lg_sl ([.int x0, .int x1, .int x2, .int x3]) ++ List.replicate (4 - (lg_sl ([.int x0, .int x1, .int x2, .int x3])).length) Slot.unset).toArray = ls at hl ⊢
  have hl : lv_has ls 4 [(0, .int x0), (1, .int x1), (2, .int x2), (3, .int x3)] := hl
  change W p l e rm_X11_doAlike s m _ below meth c _ [] 0 0 _ _
  clear B hP hD hK hN hml
  generalize va_A ws s.heap.size = A at C w ⊢
  generalize ([.int x0, .int x1, .int x2, .int x3] : List Value).toArray = av at C ⊢
  obtain ⟨Q, hQ⟩ : ∃ Q, Q = MQ below (PostI D A ws out) av s 0 0 A := ⟨_, rfl⟩
  rw [← hQ]
  have hx := C.1
  have hb := C.2.1
  have h := hf
  unfold f_X11_doAlike at h
  refine lv_iload_n hx hb dX11_doAlike_0 rfl (lv_at hl 0 rfl) ?_
  refine lv_iload_n hx hb dX11_doAlike_1 rfl (lv_at hl 2 rfl) ?_
  refine lv_iload_n hx hb dX11_doAlike_2 rfl (lv_at hl 3 rfl) ?_
  obtain ⟨q1, hq1, h⟩ := ob_t h
  refine res_i C w (run_S (As := [.int x0, .int x2, .int x3]) (rest := []) C w hl.1 (c_X11_copyAs l D ca _ x0 x2 x3 _ q1 hq1) rfl rfl wl_529 wl_530 wl_5 wl_531 hd_X11_copyAs rfl ⟨Nat.le_of_ble_eq_true rfl, Nat.le_of_ble_eq_true rfl⟩ rfl (Nat.le_of_ble_eq_true rfl) dX11_doAlike_3) (fun H locs w => ?_)
  refine lv_iload_n hx hb dX11_doAlike_6 rfl (lv_at hl 1 rfl) ?_
  refine lv_iload_n hx hb dX11_doAlike_7 rfl (lv_at hl 2 rfl) ?_
  refine lv_iload_n hx hb dX11_doAlike_8 rfl (lv_at hl 3 rfl) ?_
  obtain ⟨q2, hq2, h⟩ := ob_t h
  refine res_i C w (run_S (As := [.int x1, .int x2, .int x3]) (rest := [.int q1]) C w hl.1 (c_X11_copyAs l D ca _ x1 x2 x3 _ q2 hq2) rfl rfl wl_529 wl_530 wl_5 wl_531 hd_X11_copyAs rfl ⟨Nat.le_of_ble_eq_true rfl, Nat.le_of_ble_eq_true rfl⟩ rfl (Nat.le_of_ble_eq_true rfl) dX11_doAlike_9) (fun H locs w => ?_)
  refine lv_icmp_ne (tgt := 32) hx hb dX11_doAlike_12 (by decide) (fun c1 => ?_) (fun c1 => ?_)
  · have h := it_f h c1
    refine lv_iconst (v := 0) hx hb dX11_doAlike_32 (by decide) ?_
    rw [hQ]
    exact qZ C w (by decide) h dX11_doAlike_33
  · have h := it_t h c1
    refine lv_iload_n hx hb dX11_doAlike_15 rfl (lv_at hl 0 rfl) ?_
    refine lv_iload_n hx hb dX11_doAlike_16 rfl (lv_at hl 3 rfl) ?_
    obtain ⟨q3, hq3, h⟩ := ob_t h
    refine res_i C w (run_S (As := [.int x0, .int x3]) (rest := []) C w hl.1 (c_X11_takesAs l D ca _ x0 x3 _ q3 hq3) rfl rfl wl_538 wl_539 wl_5 wl_540 hd_X11_takesAs rfl ⟨Nat.le_of_ble_eq_true rfl, Nat.le_of_ble_eq_true rfl⟩ rfl (Nat.le_of_ble_eq_true rfl) dX11_doAlike_17) (fun H locs w => ?_)
    refine lv_iload_n hx hb dX11_doAlike_20 rfl (lv_at hl 1 rfl) ?_
    refine lv_iload_n hx hb dX11_doAlike_21 rfl (lv_at hl 3 rfl) ?_
    obtain ⟨q4, hq4, h⟩ := ob_t h
    refine res_i C w (run_S (As := [.int x1, .int x3]) (rest := [.int q3]) C w hl.1 (c_X11_takesAs l D ca _ x1 x3 _ q4 hq4) rfl rfl wl_538 wl_539 wl_5 wl_540 hd_X11_takesAs rfl ⟨Nat.le_of_ble_eq_true rfl, Nat.le_of_ble_eq_true rfl⟩ rfl (Nat.le_of_ble_eq_true rfl) dX11_doAlike_22) (fun H locs w => ?_)
    refine lv_icmp_ne (tgt := 32) hx hb dX11_doAlike_25 (by decide) (fun c2 => ?_) (fun c2 => ?_)
    · have h := it_f h c2
      refine lv_iconst (v := 0) hx hb dX11_doAlike_32 (by decide) ?_
      rw [hQ]
      exact qZ C w (by decide) h dX11_doAlike_33
    · have h := it_t h c2
      refine lv_iconst (v := 1) hx hb dX11_doAlike_28 (by decide) ?_
      refine lv_goto (tgt := 33) hx hb dX11_doAlike_29 (by decide) ?_
      rw [hQ]
      exact qZ C w (by decide) h dX11_doAlike_33
theorem hd_X11_next : yX11_next.cls = RX11 ∧ yX11_next.cls ≠ "java/lang/invoke/MethodHandle" ∧ yX11_next.cls ≠ "java/lang/invoke/VarHandle" ∧ (parseMethodDescriptor yX11_next.desc).map (fun d => d.parameters.length) = some 1 := by decide +kernel
def f_X11_next_b131 (K30 : St → Int32 → Int32 → Int32 → Int32 → Option (Int32 × St)) (K61 : St → Int32 → Int32 → Int32 → Int32 → Int32 → Int32 → Option (Int32 × St)) (K81 : St → Int32 → Int32 → Int32 → Int32 → Int32 → Int32 → Int32 → Int32 → Option (Int32 × St)) (σ : St) (x2 : Int32) (x3 : Int32) (x4 : Int32) (x5 : Int32) (x6 : Int32) (x7 : Int32) (x9 : Int32) (y0 : Int32) (y1 : Int32) : Option (Int32 × St) := K81 σ x2 x3 x4 x5 x6 x7 (y1 + y0) (x9 + (1 : Int32))
def f_X11_next_b130 (K30 : St → Int32 → Int32 → Int32 → Int32 → Option (Int32 × St)) (K61 : St → Int32 → Int32 → Int32 → Int32 → Int32 → Int32 → Option (Int32 × St)) (K81 : St → Int32 → Int32 → Int32 → Int32 → Int32 → Int32 → Int32 → Int32 → Option (Int32 × St)) (σ : St) (x2 : Int32) (x3 : Int32) (x4 : Int32) (x5 : Int32) (x6 : Int32) (x7 : Int32) (x9 : Int32) (y0 : Int32) : Option (Int32 × St) := f_X11_next_b131 K30 K61 K81 σ x2 x3 x4 x5 x6 x7 x9 (0 : Int32) y0
def f_X11_next_b154 (K30 : St → Int32 → Int32 → Int32 → Int32 → Option (Int32 × St)) (K61 : St → Int32 → Int32 → Int32 → Int32 → Int32 → Int32 → Option (Int32 × St)) (σ : St) (x2 : Int32) (x3 : Int32) (x4 : Int32) (x5 : Int32) (x7 : Int32) (y0 : Int32) : Option (Int32 × St) := K61 σ x2 x3 x4 x5 y0 (x7 + (1 : Int32))
def f_X11_next_b140 (K30 : St → Int32 → Int32 → Int32 → Int32 → Option (Int32 × St)) (K61 : St → Int32 → Int32 → Int32 → Int32 → Int32 → Int32 → Option (Int32 × St)) (σ : St) (x2 : Int32) (x3 : Int32) (x4 : Int32) (x5 : Int32) (x6 : Int32) (x7 : Int32) (x8 : Int32) : Option (Int32 × St) := if x8 ≤ x6 then (f_X11_next_b154 K30 K61 σ x2 x3 x4 x5 x7 x6) else (f_X11_next_b154 K30 K61 σ x2 x3 x4 x5 x7 x8)
def f_X11_next_b81 (K30 : St → Int32 → Int32 → Int32 → Int32 → Option (Int32 × St)) (K61 : St → Int32 → Int32 → Int32 → Int32 → Int32 → Int32 → Option (Int32 × St)) (K81 : St → Int32 → Int32 → Int32 → Int32 → Int32 → Int32 → Int32 → Int32 → Option (Int32 × St)) (σ : St) (x2 : Int32) (x3 : Int32) (x4 : Int32) (x5 : Int32) (x6 : Int32) (x7 : Int32) (x8 : Int32) (x9 : Int32) : Option (Int32 × St) := if (6 : Int32) ≤ x9 then (f_X11_next_b140 K30 K61 σ x2 x3 x4 x5 x6 x7 x8) else ((f_X11_has x2 x7).bind fun q1 => if q1 = 0 then (f_X11_next_b140 K30 K61 σ x2 x3 x4 x5 x6 x7 x8) else ((f_X11_has x2 x9).bind fun q2 => if q2 = 0 then (f_X11_next_b130 K30 K61 K81 σ x2 x3 x4 x5 x6 x7 x9 x8) else ((f_X11_doAlike x7 x9 x5 (σ.2.2 1 2)).bind fun q3 => if q3 = 0 then (f_X11_next_b130 K30 K61 K81 σ x2 x3 x4 x5 x6 x7 x9 x8) else (f_X11_next_b131 K30 K61 K81 σ x2 x3 x4 x5 x6 x7 x9 (1 : Int32) x8))))
def f_X11_next_L81 (K30 : St → Int32 → Int32 → Int32 → Int32 → Option (Int32 × St)) (K61 : St → Int32 → Int32 → Int32 → Int32 → Int32 → Int32 → Option (Int32 × St)) : Nat → St → Int32 → Int32 → Int32 → Int32 → Int32 → Int32 → Int32 → Int32 → Option (Int32 × St)
  | 0 => fun _ _ _ _ _ _ _ _ _ => none
  | n + 1 => f_X11_next_b81 K30 K61 (f_X11_next_L81 K30 K61 n)
def f_X11_next_b190 (K30 : St → Int32 → Int32 → Int32 → Int32 → Option (Int32 × St)) (σ : St) (x2 : Int32) (x3 : Int32) (x5 : Int32) (y0 : Int32) : Option (Int32 × St) := K30 σ x2 x3 y0 (x5 + (1 : Int32))
def f_X11_next_b175 (K30 : St → Int32 → Int32 → Int32 → Int32 → Option (Int32 × St)) (σ : St) (x2 : Int32) (x4 : Int32) (x5 : Int32) (x6 : Int32) (y0 : Int32) : Option (Int32 × St) := if x4 ≤ x6 then (f_X11_next_b190 K30 σ x2 y0 x5 x4) else (f_X11_next_b190 K30 σ x2 y0 x5 x6)
def f_X11_next_b162 (K30 : St → Int32 → Int32 → Int32 → Int32 → Option (Int32 × St)) (σ : St) (x2 : Int32) (x3 : Int32) (x4 : Int32) (x5 : Int32) (x6 : Int32) : Option (Int32 × St) := if x4 ≤ x6 then (f_X11_next_b175 K30 σ x2 x4 x5 x6 x3) else (f_X11_next_b175 K30 σ x2 x4 x5 x6 x5)
def f_X11_next_b61 (K30 : St → Int32 → Int32 → Int32 → Int32 → Option (Int32 × St)) (K61 : St → Int32 → Int32 → Int32 → Int32 → Int32 → Int32 → Option (Int32 × St)) (σ : St) (x2 : Int32) (x3 : Int32) (x4 : Int32) (x5 : Int32) (x6 : Int32) (x7 : Int32) : Option (Int32 × St) := if (6 : Int32) ≤ x7 then (f_X11_next_b162 K30 σ x2 x3 x4 x5 x6) else (if (1000000 : Int32) ≤ x6 then (f_X11_next_b162 K30 σ x2 x3 x4 x5 x6) else (f_X11_next_L81 K30 K61 FU σ x2 x3 x4 x5 x6 x7 (0 : Int32) (0 : Int32)))
def f_X11_next_L61 (K30 : St → Int32 → Int32 → Int32 → Int32 → Option (Int32 × St)) : Nat → St → Int32 → Int32 → Int32 → Int32 → Int32 → Int32 → Option (Int32 × St)
  | 0 => fun _ _ _ _ _ _ _ => none
  | n + 1 => f_X11_next_b61 K30 (f_X11_next_L61 K30 n)
def f_X11_next_b56 (K30 : St → Int32 → Int32 → Int32 → Int32 → Option (Int32 × St)) (σ : St) (x2 : Int32) (x3 : Int32) (x4 : Int32) (x5 : Int32) (y0 : Int32) : Option (Int32 × St) := f_X11_next_L61 K30 FU σ x2 x3 x4 x5 y0 (0 : Int32)
def f_X11_next_b198 (σ : St) (x3 : Int32) : Option (Int32 × St) := some (x3, σ)
def f_X11_next_b30 (K30 : St → Int32 → Int32 → Int32 → Int32 → Option (Int32 × St)) (σ : St) (x2 : Int32) (x3 : Int32) (x4 : Int32) (x5 : Int32) : Option (Int32 × St) := if (444 : Int32) < x5 then (f_X11_next_b198 σ x3) else (if x2 ≤ 0 then (f_X11_next_b198 σ x3) else ((f_X11_isLetter x5).bind fun q1 => if q1 = 0 then (f_X11_next_b56 K30 σ x2 x3 x4 x5 (1000000 : Int32)) else (f_X11_next_b56 K30 σ x2 x3 x4 x5 (0 : Int32))))
def f_X11_next_L30 : Nat → St → Int32 → Int32 → Int32 → Int32 → Option (Int32 × St)
  | 0 => fun _ _ _ _ _ => none
  | n + 1 => f_X11_next_b30 (f_X11_next_L30 n)
def f_X11_next (σ : St) (x1 : Int32) : Option (Int32 × St) := (f_X11_isTree σ x1).bind fun q1 => if q1.1 = 0 then ((f_X11_bad q1.2 (-2 : Int32)).bind fun q3 => some (q3.1, q3.2)) else ((f_X11_kindsOf q1.2 x1).bind fun q2 => f_X11_next_L30 FU q2.2 q2.1 (-1 : Int32) (1000000 : Int32) (1 : Int32))
abbrev rm_X11_next : Room := { frames := 4, cells := 0, slots := 0, locals := 240 }
set_option maxHeartbeats 4000000 in
set_option maxRecDepth 100000 in
theorem c_X11_next (l : Launch) (D : va_G) (ca : Nat → ClassId) (ad : Nat → Nat) (σ : St) (x1 : Int32) (sz : Nat) (out : Int32 × St) (hf : f_X11_next σ x1 = some out) : Met l yX11_next (.code yX11_next cX11_next 10 (some .int) :: WL) rm_X11_next (PreC D ca (MW ca ad σ) sz [.ref (ad 0), .int x1]) (PostI D (va_A (MW ca ad σ) sz) (MW ca ad out.2) out.1) 0 0 (va_A (MW ca ad σ) sz) := by
  refine Met.ofW (cc := cX11_next) (maxL := 10) (ret := (some .int)) (by decide) rfl ?_
  intro p e s m args below meth c s₁ B hml hv
  obtain ⟨rfl, hsz, hP, hK, hD, hN⟩ := hv
  subst hsz
  have C := Cx.mk (own := RX11) B hml rfl hK hN (ws := (MW ca ad σ))
  have w : Wd (va_A (MW ca ad σ) s.heap.size) s D (MW ca ad σ) s.heap [] := ⟨hP, hD.self, va_S.rf⟩
  have hl := lv_entry ([.ref (ad 0), .int x1]) (n := 10) (Nat.le_of_ble_eq_true rfl)
  rw [lg_entry_eq]
  generalize (lg_sl ([.ref (ad 0), .int x1]) ++ List.replicate (10 - (lg_sl ([.ref (ad 0), .int x1])).length) Slot.unset).toArray = ls at hl ⊢
  have hl : lv_has ls 10 [(0, .ref (ad 0)), (1, .int x1)] := hl
  change W p l e rm_X11_next s m _ below meth c _ [] 0 0 _ _
  clear B hP hD hK hN hml
  generalize va_A (MW ca ad σ) s.heap.size = A at C w ⊢
  generalize ([.ref (ad 0), .int x1] : List Value).toArray = av at C ⊢
  obtain ⟨Q, hQ⟩ : ∃ Q, Q = MQ below (PostI D A (MW ca ad out.2) out.1) av s 0 0 A := ⟨_, rfl⟩
  rw [← hQ]
  have hx := C.1
  have hb := C.2.1
  have b198 : ∀ (σ : St) (x3 : Int32), f_X11_next_b198 σ x3 = some out → Bk p l e rm_X11_next s m av below meth c A D 10 Q (MW ca ad σ) 198 [(3, .int x3)] [] := by
    intro σ x3 h H locs ls w hl
    unfold f_X11_next_b198 at h
    refine lv_iload_n hx hb dX11_next_198 rfl (lv_at hl 0 rfl) ?_
    rw [hQ]
    exact rI (F := MW ca ad) C w h dX11_next_199
  have L30 : ∀ (n30 : Nat) (σ : St) (x2 : Int32) (x3 : Int32) (x4 : Int32) (x5 : Int32), f_X11_next_L30 n30 σ x2 x3 x4 x5 = some out → Bk p l e rm_X11_next s m av below meth c A D 10 Q (MW ca ad σ) 30 [(0, .ref (ad 0)), (2, .int x2), (3, .int x3), (4, .int x4), (5, .int x5)] [] := by
    intro n30
    induction n30 with
    | zero => intro σ x2 x3 x4 x5 h; exact absurd h (by simp [f_X11_next_L30])
    | succ n30 ih30 =>
      have b190 : ∀ (σ : St) (x2 : Int32) (x3 : Int32) (x5 : Int32) (y0 : Int32), f_X11_next_b190 (f_X11_next_L30 n30) σ x2 x3 x5 y0 = some out → Bk p l e rm_X11_next s m av below meth c A D 10 Q (MW ca ad σ) 190 [(0, .ref (ad 0)), (2, .int x2), (3, .int x3), (5, .int x5)] [.int y0] := by
        intro σ x2 x3 x5 y0 h H locs ls w hl
        unfold f_X11_next_b190 at h
        refine lv_istore (lv' := [(4, .int y0), (0, .ref (ad 0)), (2, .int x2), (3, .int x3), (5, .int x5)]) hx hb dX11_next_190 hl (by decide) rfl (fun ls hl => ?_)
        refine lv_iinc (v := (x5 + (1 : Int32))) (lv' := [(5, .int (x5 + (1 : Int32))), (4, .int y0), (0, .ref (ad 0)), (2, .int x2), (3, .int x3)]) hx hb dX11_next_192 hl (k := 4) rfl rfl (by decide) rfl (fun ls hl => ?_)
        refine lv_goto (tgt := 30) hx hb dX11_next_195 (by decide) ?_
        exact ih30 _ _ _ _ _ h _ _ _ w (lv_sub hl [2, 3, 4, 1, 0] rfl)
      have b175 : ∀ (σ : St) (x2 : Int32) (x4 : Int32) (x5 : Int32) (x6 : Int32) (y0 : Int32), f_X11_next_b175 (f_X11_next_L30 n30) σ x2 x4 x5 x6 y0 = some out → Bk p l e rm_X11_next s m av below meth c A D 10 Q (MW ca ad σ) 175 [(0, .ref (ad 0)), (2, .int x2), (4, .int x4), (5, .int x5), (6, .int x6)] [.int y0] := by
        intro σ x2 x4 x5 x6 y0 h H locs ls w hl
        unfold f_X11_next_b175 at h
        refine lv_istore_n (lv' := [(3, .int y0), (0, .ref (ad 0)), (2, .int x2), (4, .int x4), (5, .int x5), (6, .int x6)]) hx hb dX11_next_175 rfl hl (by decide) rfl (fun ls hl => ?_)
        refine lv_iload hx hb dX11_next_176 (lv_at hl 5 rfl) ?_
        refine lv_iload hx hb dX11_next_178 (lv_at hl 3 rfl) ?_
        refine lv_icmp_ge (tgt := 188) hx hb dX11_next_180 (by decide) (fun c1 => ?_) (fun c1 => ?_)
        · have h := it_t h c1
          refine lv_iload hx hb dX11_next_188 (lv_at hl 3 rfl) ?_
          exact b190 _ _ _ _ _ h _ _ _ w (lv_sub hl [1, 2, 0, 4] rfl)
        · have h := it_f h c1
          refine lv_iload hx hb dX11_next_183 (lv_at hl 5 rfl) ?_
          refine lv_goto (tgt := 190) hx hb dX11_next_185 (by decide) ?_
          exact b190 _ _ _ _ _ h _ _ _ w (lv_sub hl [1, 2, 0, 4] rfl)
      have b162 : ∀ (σ : St) (x2 : Int32) (x3 : Int32) (x4 : Int32) (x5 : Int32) (x6 : Int32), f_X11_next_b162 (f_X11_next_L30 n30) σ x2 x3 x4 x5 x6 = some out → Bk p l e rm_X11_next s m av below meth c A D 10 Q (MW ca ad σ) 162 [(0, .ref (ad 0)), (2, .int x2), (3, .int x3), (4, .int x4), (5, .int x5), (6, .int x6)] [] := by
        intro σ x2 x3 x4 x5 x6 h H locs ls w hl
        unfold f_X11_next_b162 at h
        refine lv_iload hx hb dX11_next_162 (lv_at hl 5 rfl) ?_
        refine lv_iload hx hb dX11_next_164 (lv_at hl 3 rfl) ?_
        refine lv_icmp_ge (tgt := 174) hx hb dX11_next_166 (by decide) (fun c1 => ?_) (fun c1 => ?_)
        · have h := it_t h c1
          refine lv_iload_n hx hb dX11_next_174 rfl (lv_at hl 2 rfl) ?_
          exact b175 _ _ _ _ _ _ h _ _ _ w (lv_sub hl [0, 1, 3, 4, 5] rfl)
        · have h := it_f h c1
          refine lv_iload hx hb dX11_next_169 (lv_at hl 4 rfl) ?_
          refine lv_goto (tgt := 175) hx hb dX11_next_171 (by decide) ?_
          exact b175 _ _ _ _ _ _ h _ _ _ w (lv_sub hl [0, 1, 3, 4, 5] rfl)
      have L61 : ∀ (n61 : Nat) (σ : St) (x2 : Int32) (x3 : Int32) (x4 : Int32) (x5 : Int32) (x6 : Int32) (x7 : Int32), f_X11_next_L61 (f_X11_next_L30 n30) n61 σ x2 x3 x4 x5 x6 x7 = some out → Bk p l e rm_X11_next s m av below meth c A D 10 Q (MW ca ad σ) 61 [(0, .ref (ad 0)), (2, .int x2), (3, .int x3), (4, .int x4), (5, .int x5), (6, .int x6), (7, .int x7)] [] := by
        intro n61
        induction n61 with
        | zero => intro σ x2 x3 x4 x5 x6 x7 h; exact absurd h (by simp [f_X11_next_L61])
        | succ n61 ih61 =>
          have b154 : ∀ (σ : St) (x2 : Int32) (x3 : Int32) (x4 : Int32) (x5 : Int32) (x7 : Int32) (y0 : Int32), f_X11_next_b154 (f_X11_next_L30 n30) (f_X11_next_L61 (f_X11_next_L30 n30) n61) σ x2 x3 x4 x5 x7 y0 = some out → Bk p l e rm_X11_next s m av below meth c A D 10 Q (MW ca ad σ) 154 [(0, .ref (ad 0)), (2, .int x2), (3, .int x3), (4, .int x4), (5, .int x5), (7, .int x7)] [.int y0] := by
            intro σ x2 x3 x4 x5 x7 y0 h H locs ls w hl
            unfold f_X11_next_b154 at h
            refine lv_istore (lv' := [(6, .int y0), (0, .ref (ad 0)), (2, .int x2), (3, .int x3), (4, .int x4), (5, .int x5), (7, .int x7)]) hx hb dX11_next_154 hl (by decide) rfl (fun ls hl => ?_)
            refine lv_iinc (v := (x7 + (1 : Int32))) (lv' := [(7, .int (x7 + (1 : Int32))), (6, .int y0), (0, .ref (ad 0)), (2, .int x2), (3, .int x3), (4, .int x4), (5, .int x5)]) hx hb dX11_next_156 hl (k := 6) rfl rfl (by decide) rfl (fun ls hl => ?_)
            refine lv_goto (tgt := 61) hx hb dX11_next_159 (by decide) ?_
            exact ih61 _ _ _ _ _ _ _ h _ _ _ w (lv_sub hl [2, 3, 4, 5, 6, 1, 0] rfl)
          have b140 : ∀ (σ : St) (x2 : Int32) (x3 : Int32) (x4 : Int32) (x5 : Int32) (x6 : Int32) (x7 : Int32) (x8 : Int32), f_X11_next_b140 (f_X11_next_L30 n30) (f_X11_next_L61 (f_X11_next_L30 n30) n61) σ x2 x3 x4 x5 x6 x7 x8 = some out → Bk p l e rm_X11_next s m av below meth c A D 10 Q (MW ca ad σ) 140 [(0, .ref (ad 0)), (2, .int x2), (3, .int x3), (4, .int x4), (5, .int x5), (6, .int x6), (7, .int x7), (8, .int x8)] [] := by
            intro σ x2 x3 x4 x5 x6 x7 x8 h H locs ls w hl
            unfold f_X11_next_b140 at h
            refine lv_iload hx hb dX11_next_140 (lv_at hl 7 rfl) ?_
            refine lv_iload hx hb dX11_next_142 (lv_at hl 5 rfl) ?_
            refine lv_icmp_le (tgt := 152) hx hb dX11_next_144 (by decide) (fun c1 => ?_) (fun c1 => ?_)
            · have h := it_t h c1
              refine lv_iload hx hb dX11_next_152 (lv_at hl 5 rfl) ?_
              exact b154 _ _ _ _ _ _ _ h _ _ _ w (lv_sub hl [0, 1, 2, 3, 4, 6] rfl)
            · have h := it_f h c1
              refine lv_iload hx hb dX11_next_147 (lv_at hl 7 rfl) ?_
              refine lv_goto (tgt := 154) hx hb dX11_next_149 (by decide) ?_
              exact b154 _ _ _ _ _ _ _ h _ _ _ w (lv_sub hl [0, 1, 2, 3, 4, 6] rfl)
          have L81 : ∀ (n81 : Nat) (σ : St) (x2 : Int32) (x3 : Int32) (x4 : Int32) (x5 : Int32) (x6 : Int32) (x7 : Int32) (x8 : Int32) (x9 : Int32), f_X11_next_L81 (f_X11_next_L30 n30) (f_X11_next_L61 (f_X11_next_L30 n30) n61) n81 σ x2 x3 x4 x5 x6 x7 x8 x9 = some out → Bk p l e rm_X11_next s m av below meth c A D 10 Q (MW ca ad σ) 81 [(0, .ref (ad 0)), (2, .int x2), (3, .int x3), (4, .int x4), (5, .int x5), (6, .int x6), (7, .int x7), (8, .int x8), (9, .int x9)] [] := by
            intro n81
            induction n81 with
            | zero => intro σ x2 x3 x4 x5 x6 x7 x8 x9 h; exact absurd h (by simp [f_X11_next_L81])
            | succ n81 ih81 =>
              have b131 : ∀ (σ : St) (x2 : Int32) (x3 : Int32) (x4 : Int32) (x5 : Int32) (x6 : Int32) (x7 : Int32) (x9 : Int32) (y0 : Int32) (y1 : Int32), f_X11_next_b131 (f_X11_next_L30 n30) (f_X11_next_L61 (f_X11_next_L30 n30) n61) (f_X11_next_L81 (f_X11_next_L30 n30) (f_X11_next_L61 (f_X11_next_L30 n30) n61) n81) σ x2 x3 x4 x5 x6 x7 x9 y0 y1 = some out → Bk p l e rm_X11_next s m av below meth c A D 10 Q (MW ca ad σ) 131 [(0, .ref (ad 0)), (2, .int x2), (3, .int x3), (4, .int x4), (5, .int x5), (6, .int x6), (7, .int x7), (9, .int x9)] [.int y0, .int y1] := by
                intro σ x2 x3 x4 x5 x6 x7 x9 y0 y1 h H locs ls w hl
                unfold f_X11_next_b131 at h
                refine lv_iadd hx hb dX11_next_131 ?_
                refine lv_istore (lv' := [(8, .int (y1 + y0)), (0, .ref (ad 0)), (2, .int x2), (3, .int x3), (4, .int x4), (5, .int x5), (6, .int x6), (7, .int x7), (9, .int x9)]) hx hb dX11_next_132 hl (by decide) rfl (fun ls hl => ?_)
                refine lv_iinc (v := (x9 + (1 : Int32))) (lv' := [(9, .int (x9 + (1 : Int32))), (8, .int (y1 + y0)), (0, .ref (ad 0)), (2, .int x2), (3, .int x3), (4, .int x4), (5, .int x5), (6, .int x6), (7, .int x7)]) hx hb dX11_next_134 hl (k := 8) rfl rfl (by decide) rfl (fun ls hl => ?_)
                refine lv_goto (tgt := 81) hx hb dX11_next_137 (by decide) ?_
                exact ih81 _ _ _ _ _ _ _ _ _ h _ _ _ w (lv_sub hl [2, 3, 4, 5, 6, 7, 8, 1, 0] rfl)
              have b130 : ∀ (σ : St) (x2 : Int32) (x3 : Int32) (x4 : Int32) (x5 : Int32) (x6 : Int32) (x7 : Int32) (x9 : Int32) (y0 : Int32), f_X11_next_b130 (f_X11_next_L30 n30) (f_X11_next_L61 (f_X11_next_L30 n30) n61) (f_X11_next_L81 (f_X11_next_L30 n30) (f_X11_next_L61 (f_X11_next_L30 n30) n61) n81) σ x2 x3 x4 x5 x6 x7 x9 y0 = some out → Bk p l e rm_X11_next s m av below meth c A D 10 Q (MW ca ad σ) 130 [(0, .ref (ad 0)), (2, .int x2), (3, .int x3), (4, .int x4), (5, .int x5), (6, .int x6), (7, .int x7), (9, .int x9)] [.int y0] := by
                intro σ x2 x3 x4 x5 x6 x7 x9 y0 h H locs ls w hl
                unfold f_X11_next_b130 at h
                refine lv_iconst (v := 0) hx hb dX11_next_130 (by decide) ?_
                exact b131 _ _ _ _ _ _ _ _ _ _ h _ _ _ w (lv_sub hl [0, 1, 2, 3, 4, 5, 6, 7] rfl)
              intro σ x2 x3 x4 x5 x6 x7 x8 x9 h H locs ls w hl
              change f_X11_next_b81 (f_X11_next_L30 n30) (f_X11_next_L61 (f_X11_next_L30 n30) n61) (f_X11_next_L81 (f_X11_next_L30 n30) (f_X11_next_L61 (f_X11_next_L30 n30) n61) n81) σ x2 x3 x4 x5 x6 x7 x8 x9 = some out at h
              unfold f_X11_next_b81 at h
              refine lv_iload hx hb dX11_next_81 (lv_at hl 8 rfl) ?_
              refine lv_bipush (v := 6) hx hb dX11_next_83 (by decide) ?_
              refine lv_icmp_ge (tgt := 140) hx hb dX11_next_85 (by decide) (fun c1 => ?_) (fun c1 => ?_)
              · have h := it_t h c1
                exact b140 _ _ _ _ _ _ _ _ h _ _ _ w (lv_sub hl [0, 1, 2, 3, 4, 5, 6, 7] rfl)
              · have h := it_f h c1
                refine lv_iload_n hx hb dX11_next_88 rfl (lv_at hl 1 rfl) ?_
                refine lv_iload hx hb dX11_next_89 (lv_at hl 6 rfl) ?_
                obtain ⟨q1, hq1, h⟩ := ob_t h
                refine res_i C w (run_S (As := [.int x2, .int x7]) (rest := []) C w hl.1 (c_X11_has l D ca _ x2 x7 _ q1 hq1) rfl rfl wl_583 wl_584 wl_5 wl_585 hd_X11_has rfl ⟨Nat.le_of_ble_eq_true rfl, Nat.le_of_ble_eq_true rfl⟩ rfl (Nat.le_of_ble_eq_true rfl) dX11_next_91) (fun H locs w => ?_)
                refine lv_if_eq (tgt := 140) hx hb dX11_next_94 (by decide) (fun c2 => ?_) (fun c2 => ?_)
                · have h := it_t h c2
                  exact b140 _ _ _ _ _ _ _ _ h _ _ _ w (lv_sub hl [0, 1, 2, 3, 4, 5, 6, 7] rfl)
                · have h := it_f h c2
                  refine lv_iload hx hb dX11_next_97 (lv_at hl 7 rfl) ?_
                  refine lv_iload_n hx hb dX11_next_99 rfl (lv_at hl 1 rfl) ?_
                  refine lv_iload hx hb dX11_next_100 (lv_at hl 8 rfl) ?_
                  obtain ⟨q2, hq2, h⟩ := ob_t h
                  refine res_i C w (run_S (As := [.int x2, .int x9]) (rest := [.int x8]) C w hl.1 (c_X11_has l D ca _ x2 x9 _ q2 hq2) rfl rfl wl_583 wl_584 wl_5 wl_585 hd_X11_has rfl ⟨Nat.le_of_ble_eq_true rfl, Nat.le_of_ble_eq_true rfl⟩ rfl (Nat.le_of_ble_eq_true rfl) dX11_next_102) (fun H locs w => ?_)
                  refine lv_if_eq (tgt := 130) hx hb dX11_next_105 (by decide) (fun c3 => ?_) (fun c3 => ?_)
                  · have h := it_t h c3
                    exact b130 _ _ _ _ _ _ _ _ _ h _ _ _ w (lv_sub hl [0, 1, 2, 3, 4, 5, 6, 8] rfl)
                  · have h := it_f h c3
                    refine lv_iload hx hb dX11_next_108 (lv_at hl 6 rfl) ?_
                    refine lv_iload hx hb dX11_next_110 (lv_at hl 8 rfl) ?_
                    refine lv_iload hx hb dX11_next_112 (lv_at hl 4 rfl) ?_
                    refine lv_aload_n hx hb dX11_next_114 rfl (lv_at hl 0 rfl) ?_
                    refine gM0_0 C w wl_94 dX11_next_115 ?_
                    refine lv_iconst (v := 2) hx hb dX11_next_118 (by decide) ?_
                    refine ldM1 (v := (σ.2.2 1 2)) C w (vl (by decide)) rfl dX11_next_119 ?_
                    obtain ⟨q3, hq3, h⟩ := ob_t h
                    refine res_i C w (run_S (As := [.int x7, .int x9, .int x5, .int (σ.2.2 1 2)]) (rest := [.int x8]) C w hl.1 (c_X11_doAlike l D ca _ x7 x9 x5 (σ.2.2 1 2) _ q3 hq3) rfl rfl wl_831 wl_832 wl_5 wl_833 hd_X11_doAlike rfl ⟨Nat.le_of_ble_eq_true rfl, Nat.le_of_ble_eq_true rfl⟩ rfl (Nat.le_of_ble_eq_true rfl) dX11_next_120) (fun H locs w => ?_)
                    refine lv_if_eq (tgt := 130) hx hb dX11_next_123 (by decide) (fun c4 => ?_) (fun c4 => ?_)
                    · have h := it_t h c4
                      exact b130 _ _ _ _ _ _ _ _ _ h _ _ _ w (lv_sub hl [0, 1, 2, 3, 4, 5, 6, 8] rfl)
                    · have h := it_f h c4
                      refine lv_iconst (v := 1) hx hb dX11_next_126 (by decide) ?_
                      refine lv_goto (tgt := 131) hx hb dX11_next_127 (by decide) ?_
                      exact b131 _ _ _ _ _ _ _ _ _ _ h _ _ _ w (lv_sub hl [0, 1, 2, 3, 4, 5, 6, 8] rfl)
          intro σ x2 x3 x4 x5 x6 x7 h H locs ls w hl
          change f_X11_next_b61 (f_X11_next_L30 n30) (f_X11_next_L61 (f_X11_next_L30 n30) n61) σ x2 x3 x4 x5 x6 x7 = some out at h
          unfold f_X11_next_b61 at h
          refine lv_iload hx hb dX11_next_61 (lv_at hl 6 rfl) ?_
          refine lv_bipush (v := 6) hx hb dX11_next_63 (by decide) ?_
          refine lv_icmp_ge (tgt := 162) hx hb dX11_next_65 (by decide) (fun c1 => ?_) (fun c1 => ?_)
          · have h := it_t h c1
            exact b162 _ _ _ _ _ _ h _ _ _ w (lv_sub hl [0, 1, 2, 3, 4, 5] rfl)
          · have h := it_f h c1
            refine lv_iload hx hb dX11_next_68 (lv_at hl 5 rfl) ?_
            refine lv_ldc (v := 1000000) hx hb C.ow (C.ts _ wl_830) dX11_next_70 ?_
            refine lv_icmp_ge (tgt := 162) hx hb dX11_next_72 (by decide) (fun c2 => ?_) (fun c2 => ?_)
            · have h := it_t h c2
              exact b162 _ _ _ _ _ _ h _ _ _ w (lv_sub hl [0, 1, 2, 3, 4, 5] rfl)
            · have h := it_f h c2
              refine lv_iconst (v := 0) hx hb dX11_next_75 (by decide) ?_
              refine lv_istore (lv' := [(8, .int (0 : Int32)), (0, .ref (ad 0)), (2, .int x2), (3, .int x3), (4, .int x4), (5, .int x5), (6, .int x6), (7, .int x7)]) hx hb dX11_next_76 hl (by decide) rfl (fun ls hl => ?_)
              refine lv_iconst (v := 0) hx hb dX11_next_78 (by decide) ?_
              refine lv_istore (lv' := [(9, .int (0 : Int32)), (8, .int (0 : Int32)), (0, .ref (ad 0)), (2, .int x2), (3, .int x3), (4, .int x4), (5, .int x5), (6, .int x6), (7, .int x7)]) hx hb dX11_next_79 hl (by decide) rfl (fun ls hl => ?_)
              exact L81 FU _ _ _ _ _ _ _ _ _ h _ _ _ w (lv_sub hl [2, 3, 4, 5, 6, 7, 8, 1, 0] rfl)
      have b56 : ∀ (σ : St) (x2 : Int32) (x3 : Int32) (x4 : Int32) (x5 : Int32) (y0 : Int32), f_X11_next_b56 (f_X11_next_L30 n30) σ x2 x3 x4 x5 y0 = some out → Bk p l e rm_X11_next s m av below meth c A D 10 Q (MW ca ad σ) 56 [(0, .ref (ad 0)), (2, .int x2), (3, .int x3), (4, .int x4), (5, .int x5)] [.int y0] := by
        intro σ x2 x3 x4 x5 y0 h H locs ls w hl
        unfold f_X11_next_b56 at h
        refine lv_istore (lv' := [(6, .int y0), (0, .ref (ad 0)), (2, .int x2), (3, .int x3), (4, .int x4), (5, .int x5)]) hx hb dX11_next_56 hl (by decide) rfl (fun ls hl => ?_)
        refine lv_iconst (v := 0) hx hb dX11_next_58 (by decide) ?_
        refine lv_istore (lv' := [(7, .int (0 : Int32)), (6, .int y0), (0, .ref (ad 0)), (2, .int x2), (3, .int x3), (4, .int x4), (5, .int x5)]) hx hb dX11_next_59 hl (by decide) rfl (fun ls hl => ?_)
        exact L61 FU _ _ _ _ _ _ _ h _ _ _ w (lv_sub hl [2, 3, 4, 5, 6, 1, 0] rfl)
      intro σ x2 x3 x4 x5 h H locs ls w hl
      change f_X11_next_b30 (f_X11_next_L30 n30) σ x2 x3 x4 x5 = some out at h
      unfold f_X11_next_b30 at h
      refine lv_iload hx hb dX11_next_30 (lv_at hl 4 rfl) ?_
      refine lv_sipush (v := 444) hx hb dX11_next_32 (by decide) ?_
      refine lv_icmp_gt (tgt := 198) hx hb dX11_next_35 (by decide) (fun c1 => ?_) (fun c1 => ?_)
      · have h := it_t h c1
        exact b198 _ _ h _ _ _ w (lv_sub hl [2] rfl)
      · have h := it_f h c1
        refine lv_iload_n hx hb dX11_next_38 rfl (lv_at hl 1 rfl) ?_
        refine lv_if_le (tgt := 198) hx hb dX11_next_39 (by decide) (fun c2 => ?_) (fun c2 => ?_)
        · have h := it_t h c2
          exact b198 _ _ h _ _ _ w (lv_sub hl [2] rfl)
        · have h := it_f h c2
          refine lv_iload hx hb dX11_next_42 (lv_at hl 4 rfl) ?_
          obtain ⟨q1, hq1, h⟩ := ob_t h
          refine res_i C w (run_S (As := [.int x5]) (rest := []) C w hl.1 (c_X11_isLetter l D ca _ x5 _ q1 hq1) rfl rfl wl_524 wl_525 wl_5 wl_526 hd_X11_isLetter rfl ⟨Nat.le_of_ble_eq_true rfl, Nat.le_of_ble_eq_true rfl⟩ rfl (Nat.le_of_ble_eq_true rfl) dX11_next_44) (fun H locs w => ?_)
          refine lv_if_eq (tgt := 54) hx hb dX11_next_47 (by decide) (fun c3 => ?_) (fun c3 => ?_)
          · have h := it_t h c3
            refine lv_ldc (v := 1000000) hx hb C.ow (C.ts _ wl_830) dX11_next_54 ?_
            exact b56 _ _ _ _ _ _ h _ _ _ w (lv_sub hl [0, 1, 2, 3, 4] rfl)
          · have h := it_f h c3
            refine lv_iconst (v := 0) hx hb dX11_next_50 (by decide) ?_
            refine lv_goto (tgt := 56) hx hb dX11_next_51 (by decide) ?_
            exact b56 _ _ _ _ _ _ h _ _ _ w (lv_sub hl [0, 1, 2, 3, 4] rfl)
  have h := hf
  unfold f_X11_next at h
  refine lv_aload_n hx hb dX11_next_0 rfl (lv_at hl 0 rfl) ?_
  refine lv_iload_n hx hb dX11_next_1 rfl (lv_at hl 1 rfl) ?_
  obtain ⟨q1, hq1, h⟩ := ob_t h
  refine res_i C w (run_V (As := [.int x1]) (rest := []) C w hl.1 (recvM0 C w) (c_X11_isTree l D ca ad _ x1 _ q1 hq1) rfl rfl wl_188 wl_189 wl_190 wl_5 wl_191 hd_X11_isTree rfl ⟨Nat.le_of_ble_eq_true rfl, Nat.le_of_ble_eq_true rfl⟩ rfl (Nat.le_of_ble_eq_true rfl) dX11_next_2) (fun H locs w => ?_)
  refine lv_if_ne (tgt := 15) hx hb dX11_next_5 (by decide) (fun c1 => ?_) (fun c1 => ?_)
  · have h := it_f h c1
    refine lv_aload_n hx hb dX11_next_15 rfl (lv_at hl 0 rfl) ?_
    refine lv_iload_n hx hb dX11_next_16 rfl (lv_at hl 1 rfl) ?_
    obtain ⟨q2, hq2, h⟩ := ob_t h
    refine res_i C w (run_V (As := [.int x1]) (rest := []) C w hl.1 (recvM0 C w) (c_X11_kindsOf l D ca ad _ x1 _ q2 hq2) rfl rfl wl_811 wl_812 wl_813 wl_5 wl_814 hd_X11_kindsOf rfl ⟨Nat.le_of_ble_eq_true rfl, Nat.le_of_ble_eq_true rfl⟩ rfl (Nat.le_of_ble_eq_true rfl) dX11_next_17) (fun H locs w => ?_)
    refine lv_istore_n (lv' := [(2, .int q2.1), (0, .ref (ad 0)), (1, .int x1)]) hx hb dX11_next_20 rfl hl (by decide) rfl (fun ls hl => ?_)
    refine lv_iconst (v := -1) hx hb dX11_next_21 (by decide) ?_
    refine lv_istore_n (lv' := [(3, .int (-1 : Int32)), (2, .int q2.1), (0, .ref (ad 0)), (1, .int x1)]) hx hb dX11_next_22 rfl hl (by decide) rfl (fun ls hl => ?_)
    refine lv_ldc (v := 1000000) hx hb C.ow (C.ts _ wl_830) dX11_next_23 ?_
    refine lv_istore (lv' := [(4, .int (1000000 : Int32)), (3, .int (-1 : Int32)), (2, .int q2.1), (0, .ref (ad 0)), (1, .int x1)]) hx hb dX11_next_25 hl (by decide) rfl (fun ls hl => ?_)
    refine lv_iconst (v := 1) hx hb dX11_next_27 (by decide) ?_
    refine lv_istore (lv' := [(5, .int (1 : Int32)), (4, .int (1000000 : Int32)), (3, .int (-1 : Int32)), (2, .int q2.1), (0, .ref (ad 0)), (1, .int x1)]) hx hb dX11_next_28 hl (by decide) rfl (fun ls hl => ?_)
    exact L30 FU _ _ _ _ _ h _ _ _ w (lv_sub hl [4, 3, 2, 1, 0] rfl)
  · have h := it_t h c1
    refine lv_aload_n hx hb dX11_next_8 rfl (lv_at hl 0 rfl) ?_
    refine lv_bipush (v := -2) hx hb dX11_next_9 (by decide) ?_
    obtain ⟨q3, hq3, h⟩ := ob_t h
    refine res_i C w (run_V (As := [.int (-2 : Int32)]) (rest := []) C w hl.1 (recvM0 C w) (c_X11_bad l D ca ad _ (-2 : Int32) _ q3 hq3) rfl rfl wl_140 wl_141 wl_142 wl_5 wl_143 hd_X11_bad rfl ⟨Nat.le_of_ble_eq_true rfl, Nat.le_of_ble_eq_true rfl⟩ rfl (Nat.le_of_ble_eq_true rfl) dX11_next_11) (fun H locs w => ?_)
    rw [hQ]
    exact rI (F := MW ca ad) C w h dX11_next_14
theorem hd_X11_isAllSo : yX11_isAllSo.cls = RX11 ∧ yX11_isAllSo.cls ≠ "java/lang/invoke/MethodHandle" ∧ yX11_isAllSo.cls ≠ "java/lang/invoke/VarHandle" ∧ (parseMethodDescriptor yX11_isAllSo.desc).map (fun d => d.parameters.length) = some 1 := by decide +kernel
def f_X11_isAllSo_b77 (K4 : St → Int32 → Int32 → Int32 → Option (Int32 × St)) (σ : St) (x1 : Int32) (x3 : Int32) (y0 : Int32) : Option (Int32 × St) := K4 σ x1 y0 (x3 + (1 : Int32))
def f_X11_isAllSo_b76 (K4 : St → Int32 → Int32 → Int32 → Option (Int32 × St)) (σ : St) (x1 : Int32) (x3 : Int32) : Option (Int32 × St) := f_X11_isAllSo_b77 K4 σ x1 x3 (0 : Int32)
def f_X11_isAllSo_b84 (σ : St) (x2 : Int32) : Option (Int32 × St) := cond (ckZ x2) (some (x2, σ)) none
def f_X11_isAllSo_b4 (K4 : St → Int32 → Int32 → Int32 → Option (Int32 × St)) (σ : St) (x1 : Int32) (x2 : Int32) (x3 : Int32) : Option (Int32 × St) := if (σ.2.2 1 4) ≤ x3 then (f_X11_isAllSo_b84 σ x2) else (if x2 = 0 then (f_X11_isAllSo_b84 σ x2) else (cond (ckI ((50 : Int32) + ((3 : Int32) * x3)) 84) ((f_X11_layRow σ (σ.2.2 1 (((50 : Int32) + ((3 : Int32) * x3))).toNatClampNeg)).bind fun q1 => cond (ckI (((50 : Int32) + ((3 : Int32) * x3)) + (1 : Int32)) 84) ((f_X11_readBy q1.2 x1 (q1.2.2.2 1 ((((50 : Int32) + ((3 : Int32) * x3)) + (1 : Int32))).toNatClampNeg)).bind fun q2 => if q1.1 = 0 then (f_X11_isAllSo_b76 K4 q2 x1 x3) else (cond (ckI (((50 : Int32) + ((3 : Int32) * x3)) + (2 : Int32)) 84) (if (q2.1 8) = (q2.2.2 1 ((((50 : Int32) + ((3 : Int32) * x3)) + (2 : Int32))).toNatClampNeg) then (f_X11_isAllSo_b77 K4 q2 x1 x3 (1 : Int32)) else (f_X11_isAllSo_b76 K4 q2 x1 x3)) none)) none) none))
def f_X11_isAllSo_L4 : Nat → St → Int32 → Int32 → Int32 → Option (Int32 × St)
  | 0 => fun _ _ _ _ => none
  | n + 1 => f_X11_isAllSo_b4 (f_X11_isAllSo_L4 n)
def f_X11_isAllSo (σ : St) (x1 : Int32) : Option (Int32 × St) := f_X11_isAllSo_L4 FU σ x1 (1 : Int32) (0 : Int32)
abbrev rm_X11_isAllSo : Room := { frames := 4, cells := 0, slots := 0, locals := 240 }
set_option maxHeartbeats 4000000 in
set_option maxRecDepth 100000 in
theorem c_X11_isAllSo (l : Launch) (D : va_G) (ca : Nat → ClassId) (ad : Nat → Nat) (σ : St) (x1 : Int32) (sz : Nat) (out : Int32 × St) (hf : f_X11_isAllSo σ x1 = some out) : Met l yX11_isAllSo (.code yX11_isAllSo cX11_isAllSo 5 (some .boolean) :: WL) rm_X11_isAllSo (PreC D ca (MW ca ad σ) sz [.ref (ad 0), .int x1]) (PostI D (va_A (MW ca ad σ) sz) (MW ca ad out.2) out.1) 0 0 (va_A (MW ca ad σ) sz) := by
  refine Met.ofW (cc := cX11_isAllSo) (maxL := 5) (ret := (some .boolean)) (by decide) rfl ?_
  intro p e s m args below meth c s₁ B hml hv
  obtain ⟨rfl, hsz, hP, hK, hD, hN⟩ := hv
  subst hsz
  have C := Cx.mk (own := RX11) B hml rfl hK hN (ws := (MW ca ad σ))
  have w : Wd (va_A (MW ca ad σ) s.heap.size) s D (MW ca ad σ) s.heap [] := ⟨hP, hD.self, va_S.rf⟩
  have hl := lv_entry ([.ref (ad 0), .int x1]) (n := 5) (Nat.le_of_ble_eq_true rfl)
  rw [lg_entry_eq]
  generalize (lg_sl ([.ref (ad 0), .int x1]) ++ List.replicate (5 - (lg_sl ([.ref (ad 0), .int x1])).length) Slot.unset).toArray = ls at hl ⊢
  have hl : lv_has ls 5 [(0, .ref (ad 0)), (1, .int x1)] := hl
  change W p l e rm_X11_isAllSo s m _ below meth c _ [] 0 0 _ _
  clear B hP hD hK hN hml
  generalize va_A (MW ca ad σ) s.heap.size = A at C w ⊢
  generalize ([.ref (ad 0), .int x1] : List Value).toArray = av at C ⊢
  obtain ⟨Q, hQ⟩ : ∃ Q, Q = MQ below (PostI D A (MW ca ad out.2) out.1) av s 0 0 A := ⟨_, rfl⟩
  rw [← hQ]
  have hx := C.1
  have hb := C.2.1
  have b84 : ∀ (σ : St) (x2 : Int32), f_X11_isAllSo_b84 σ x2 = some out → Bk p l e rm_X11_isAllSo s m av below meth c A D 5 Q (MW ca ad σ) 84 [(2, .int x2)] [] := by
    intro σ x2 h H locs ls w hl
    unfold f_X11_isAllSo_b84 at h
    refine lv_iload_n hx hb dX11_isAllSo_84 rfl (lv_at hl 0 rfl) ?_
    obtain ⟨z1, h⟩ := cz_t h
    rw [hQ]
    exact rZ (F := MW ca ad) C w z1 h dX11_isAllSo_85
  have L4 : ∀ (n4 : Nat) (σ : St) (x1 : Int32) (x2 : Int32) (x3 : Int32), f_X11_isAllSo_L4 n4 σ x1 x2 x3 = some out → Bk p l e rm_X11_isAllSo s m av below meth c A D 5 Q (MW ca ad σ) 4 [(0, .ref (ad 0)), (1, .int x1), (2, .int x2), (3, .int x3)] [] := by
    intro n4
    induction n4 with
    | zero => intro σ x1 x2 x3 h; exact absurd h (by simp [f_X11_isAllSo_L4])
    | succ n4 ih4 =>
      have b77 : ∀ (σ : St) (x1 : Int32) (x3 : Int32) (y0 : Int32), f_X11_isAllSo_b77 (f_X11_isAllSo_L4 n4) σ x1 x3 y0 = some out → Bk p l e rm_X11_isAllSo s m av below meth c A D 5 Q (MW ca ad σ) 77 [(0, .ref (ad 0)), (1, .int x1), (3, .int x3)] [.int y0] := by
        intro σ x1 x3 y0 h H locs ls w hl
        unfold f_X11_isAllSo_b77 at h
        refine lv_istore_n (lv' := [(2, .int y0), (0, .ref (ad 0)), (1, .int x1), (3, .int x3)]) hx hb dX11_isAllSo_77 rfl hl (by decide) rfl (fun ls hl => ?_)
        refine lv_iinc (v := (x3 + (1 : Int32))) (lv' := [(3, .int (x3 + (1 : Int32))), (2, .int y0), (0, .ref (ad 0)), (1, .int x1)]) hx hb dX11_isAllSo_78 hl (k := 3) rfl rfl (by decide) rfl (fun ls hl => ?_)
        refine lv_goto (tgt := 4) hx hb dX11_isAllSo_81 (by decide) ?_
        exact ih4 _ _ _ _ h _ _ _ w (lv_sub hl [2, 3, 1, 0] rfl)
      have b76 : ∀ (σ : St) (x1 : Int32) (x3 : Int32), f_X11_isAllSo_b76 (f_X11_isAllSo_L4 n4) σ x1 x3 = some out → Bk p l e rm_X11_isAllSo s m av below meth c A D 5 Q (MW ca ad σ) 76 [(0, .ref (ad 0)), (1, .int x1), (3, .int x3)] [] := by
        intro σ x1 x3 h H locs ls w hl
        unfold f_X11_isAllSo_b76 at h
        refine lv_iconst (v := 0) hx hb dX11_isAllSo_76 (by decide) ?_
        exact b77 _ _ _ _ h _ _ _ w (lv_sub hl [0, 1, 2] rfl)
      intro σ x1 x2 x3 h H locs ls w hl
      change f_X11_isAllSo_b4 (f_X11_isAllSo_L4 n4) σ x1 x2 x3 = some out at h
      unfold f_X11_isAllSo_b4 at h
      refine lv_iload_n hx hb dX11_isAllSo_4 rfl (lv_at hl 3 rfl) ?_
      refine lv_aload_n hx hb dX11_isAllSo_5 rfl (lv_at hl 0 rfl) ?_
      refine gM0_0 C w wl_94 dX11_isAllSo_6 ?_
      refine lv_iconst (v := 4) hx hb dX11_isAllSo_9 (by decide) ?_
      refine ldM1 (v := (σ.2.2 1 4)) C w (vl (by decide)) rfl dX11_isAllSo_10 ?_
      refine lv_icmp_ge (tgt := 84) hx hb dX11_isAllSo_11 (by decide) (fun c1 => ?_) (fun c1 => ?_)
      · have h := it_t h c1
        exact b84 _ _ h _ _ _ w (lv_sub hl [2] rfl)
      · have h := it_f h c1
        refine lv_iload_n hx hb dX11_isAllSo_14 rfl (lv_at hl 2 rfl) ?_
        refine lv_if_eq (tgt := 84) hx hb dX11_isAllSo_15 (by decide) (fun c2 => ?_) (fun c2 => ?_)
        · have h := it_t h c2
          exact b84 _ _ h _ _ _ w (lv_sub hl [2] rfl)
        · have h := it_f h c2
          refine lv_bipush (v := 50) hx hb dX11_isAllSo_18 (by decide) ?_
          refine lv_iconst (v := 3) hx hb dX11_isAllSo_20 (by decide) ?_
          refine lv_iload_n hx hb dX11_isAllSo_21 rfl (lv_at hl 3 rfl) ?_
          refine lv_imul hx hb dX11_isAllSo_22 ?_
          refine lv_iadd hx hb dX11_isAllSo_23 ?_
          refine lv_istore (lv' := [(4, .int ((50 : Int32) + ((3 : Int32) * x3))), (0, .ref (ad 0)), (1, .int x1), (2, .int x2), (3, .int x3)]) hx hb dX11_isAllSo_24 hl (by decide) rfl (fun ls hl => ?_)
          refine lv_aload_n hx hb dX11_isAllSo_26 rfl (lv_at hl 1 rfl) ?_
          refine lv_aload_n hx hb dX11_isAllSo_27 rfl (lv_at hl 1 rfl) ?_
          refine gM0_0 C w wl_94 dX11_isAllSo_28 ?_
          refine lv_iload hx hb dX11_isAllSo_31 (lv_at hl 0 rfl) ?_
          obtain ⟨i3, h⟩ := ck_t h
          refine ldM1 (v := (σ.2.2 1 (((50 : Int32) + ((3 : Int32) * x3))).toNatClampNeg)) C w i3 rfl dX11_isAllSo_33 ?_
          obtain ⟨q1, hq1, h⟩ := ob_t h
          refine res_i C w (run_V (As := [.int (σ.2.2 1 (((50 : Int32) + ((3 : Int32) * x3))).toNatClampNeg)]) (rest := []) C w hl.1 (recvM0 C w) (c_X11_layRow l D ca ad _ (σ.2.2 1 (((50 : Int32) + ((3 : Int32) * x3))).toNatClampNeg) _ q1 hq1) rfl rfl wl_578 wl_579 wl_580 wl_5 wl_581 hd_X11_layRow rfl ⟨Nat.le_of_ble_eq_true rfl, Nat.le_of_ble_eq_true rfl⟩ rfl (Nat.le_of_ble_eq_true rfl) dX11_isAllSo_34) (fun H locs w => ?_)
          refine lv_istore_n (lv' := [(2, .int q1.1), (4, .int ((50 : Int32) + ((3 : Int32) * x3))), (0, .ref (ad 0)), (1, .int x1), (3, .int x3)]) hx hb dX11_isAllSo_37 rfl hl (by decide) rfl (fun ls hl => ?_)
          refine lv_aload_n hx hb dX11_isAllSo_38 rfl (lv_at hl 2 rfl) ?_
          refine lv_iload_n hx hb dX11_isAllSo_39 rfl (lv_at hl 3 rfl) ?_
          refine lv_aload_n hx hb dX11_isAllSo_40 rfl (lv_at hl 2 rfl) ?_
          refine gM0_0 C w wl_94 dX11_isAllSo_41 ?_
          refine lv_iload hx hb dX11_isAllSo_44 (lv_at hl 1 rfl) ?_
          refine lv_iconst (v := 1) hx hb dX11_isAllSo_46 (by decide) ?_
          refine lv_iadd hx hb dX11_isAllSo_47 ?_
          obtain ⟨i4, h⟩ := ck_t h
          refine ldM1 (v := (q1.2.2.2 1 ((((50 : Int32) + ((3 : Int32) * x3)) + (1 : Int32))).toNatClampNeg)) C w i4 rfl dX11_isAllSo_48 ?_
          obtain ⟨q2, hq2, h⟩ := ob_t h
          refine res_v C w (run_V (As := [.int x1, .int (q1.2.2.2 1 ((((50 : Int32) + ((3 : Int32) * x3)) + (1 : Int32))).toNatClampNeg)]) (rest := []) C w hl.1 (recvM0 C w) (c_X11_readBy l D ca ad _ x1 (q1.2.2.2 1 ((((50 : Int32) + ((3 : Int32) * x3)) + (1 : Int32))).toNatClampNeg) _ q2 hq2) rfl rfl wl_586 wl_587 wl_588 wl_5 wl_589 hd_X11_readBy rfl ⟨Nat.le_of_ble_eq_true rfl, Nat.le_of_ble_eq_true rfl⟩ rfl (Nat.le_of_ble_eq_true rfl) dX11_isAllSo_49) (fun H locs w => ?_)
          refine lv_iload_n hx hb dX11_isAllSo_52 rfl (lv_at hl 0 rfl) ?_
          refine lv_if_eq (tgt := 76) hx hb dX11_isAllSo_53 (by decide) (fun c5 => ?_) (fun c5 => ?_)
          · have h := it_t h c5
            exact b76 _ _ _ h _ _ _ w (lv_sub hl [2, 3, 4] rfl)
          · have h := it_f h c5
            refine lv_aload_n hx hb dX11_isAllSo_56 rfl (lv_at hl 2 rfl) ?_
            refine gM0_8 (v := (q2.1 8)) C w rfl wl_576 dX11_isAllSo_57 ?_
            refine lv_aload_n hx hb dX11_isAllSo_60 rfl (lv_at hl 2 rfl) ?_
            refine gM0_0 C w wl_94 dX11_isAllSo_61 ?_
            refine lv_iload hx hb dX11_isAllSo_64 (lv_at hl 1 rfl) ?_
            refine lv_iconst (v := 2) hx hb dX11_isAllSo_66 (by decide) ?_
            refine lv_iadd hx hb dX11_isAllSo_67 ?_
            obtain ⟨i6, h⟩ := ck_t h
            refine ldM1 (v := (q2.2.2 1 ((((50 : Int32) + ((3 : Int32) * x3)) + (2 : Int32))).toNatClampNeg)) C w i6 rfl dX11_isAllSo_68 ?_
            refine lv_icmp_ne (tgt := 76) hx hb dX11_isAllSo_69 (by decide) (fun c7 => ?_) (fun c7 => ?_)
            · have h := it_f h c7
              exact b76 _ _ _ h _ _ _ w (lv_sub hl [2, 3, 4] rfl)
            · have h := it_t h c7
              refine lv_iconst (v := 1) hx hb dX11_isAllSo_72 (by decide) ?_
              refine lv_goto (tgt := 77) hx hb dX11_isAllSo_73 (by decide) ?_
              exact b77 _ _ _ _ h _ _ _ w (lv_sub hl [2, 3, 4] rfl)
  have h := hf
  unfold f_X11_isAllSo at h
  refine lv_iconst (v := 1) hx hb dX11_isAllSo_0 (by decide) ?_
  refine lv_istore_n (lv' := [(2, .int (1 : Int32)), (0, .ref (ad 0)), (1, .int x1)]) hx hb dX11_isAllSo_1 rfl hl (by decide) rfl (fun ls hl => ?_)
  refine lv_iconst (v := 0) hx hb dX11_isAllSo_2 (by decide) ?_
  refine lv_istore_n (lv' := [(3, .int (0 : Int32)), (2, .int (1 : Int32)), (0, .ref (ad 0)), (1, .int x1)]) hx hb dX11_isAllSo_3 rfl hl (by decide) rfl (fun ls hl => ?_)
  exact L4 FU _ _ _ _ h _ _ _ w (lv_sub hl [2, 3, 1, 0] rfl)
theorem hd_X11_first : yX11_first.cls = RX11 ∧ yX11_first.cls ≠ "java/lang/invoke/MethodHandle" ∧ yX11_first.cls ≠ "java/lang/invoke/VarHandle" ∧ (parseMethodDescriptor yX11_first.desc).map (fun d => d.parameters.length) = some 1 := by decide +kernel
def f_X11_first_b63 (K24 : St → Int32 → Int32 → Int32 → Int32 → Option (Int32 × St)) (σ : St) (x1 : Int32) (x2 : Int32) (x3 : Int32) (x4 : Int32) : Option (Int32 × St) := K24 σ x1 x2 x3 (x4 + (1 : Int32))
def f_X11_first_b59 (K24 : St → Int32 → Int32 → Int32 → Int32 → Option (Int32 × St)) (σ : St) (x1 : Int32) (x2 : Int32) (x4 : Int32) (y0 : Int32) : Option (Int32 × St) := f_X11_first_b63 K24 σ x1 (x2 + (1 : Int32)) y0 x4
def f_X11_first_b24 (K24 : St → Int32 → Int32 → Int32 → Int32 → Option (Int32 × St)) (σ : St) (x1 : Int32) (x2 : Int32) (x3 : Int32) (x4 : Int32) : Option (Int32 × St) := if (444 : Int32) < x4 then (if x1 = 0 then (some (x2, σ)) else (some (x3, σ))) else ((f_X11_isLetter x4).bind fun q1 => if q1 = 0 then (f_X11_first_b63 K24 σ x1 x2 x3 x4) else ((f_X11_isAllSo σ x4).bind fun q2 => if q2.1 = 0 then (f_X11_first_b63 K24 q2.2 x1 x2 x3 x4) else (if x2 = 0 then (f_X11_first_b59 K24 q2.2 x1 x2 x4 x4) else (f_X11_first_b59 K24 q2.2 x1 x2 x4 x3))))
def f_X11_first_L24 : Nat → St → Int32 → Int32 → Int32 → Int32 → Option (Int32 × St)
  | 0 => fun _ _ _ _ _ => none
  | n + 1 => f_X11_first_b24 (f_X11_first_L24 n)
def f_X11_first (σ : St) (x1 : Int32) : Option (Int32 × St) := (f_X11_in x1.toInt64 (0 : Int64) (1 : Int64)).bind fun q1 => if q1 = 0 then ((f_X11_bad σ (-2 : Int32)).bind fun q2 => some (q2.1, q2.2)) else (f_X11_first_L24 FU σ x1 (0 : Int32) (-1 : Int32) (0 : Int32))
abbrev rm_X11_first : Room := { frames := 5, cells := 0, slots := 0, locals := 300 }
set_option maxHeartbeats 4000000 in
set_option maxRecDepth 100000 in
theorem c_X11_first (l : Launch) (D : va_G) (ca : Nat → ClassId) (ad : Nat → Nat) (σ : St) (x1 : Int32) (sz : Nat) (out : Int32 × St) (hf : f_X11_first σ x1 = some out) : Met l yX11_first (.code yX11_first cX11_first 5 (some .int) :: WL) rm_X11_first (PreC D ca (MW ca ad σ) sz [.ref (ad 0), .int x1]) (PostI D (va_A (MW ca ad σ) sz) (MW ca ad out.2) out.1) 0 0 (va_A (MW ca ad σ) sz) := by
  refine Met.ofW (cc := cX11_first) (maxL := 5) (ret := (some .int)) (by decide) rfl ?_
  intro p e s m args below meth c s₁ B hml hv
  obtain ⟨rfl, hsz, hP, hK, hD, hN⟩ := hv
  subst hsz
  have C := Cx.mk (own := RX11) B hml rfl hK hN (ws := (MW ca ad σ))
  have w : Wd (va_A (MW ca ad σ) s.heap.size) s D (MW ca ad σ) s.heap [] := ⟨hP, hD.self, va_S.rf⟩
  have hl := lv_entry ([.ref (ad 0), .int x1]) (n := 5) (Nat.le_of_ble_eq_true rfl)
  rw [lg_entry_eq]
  generalize (lg_sl ([.ref (ad 0), .int x1]) ++ List.replicate (5 - (lg_sl ([.ref (ad 0), .int x1])).length) Slot.unset).toArray = ls at hl ⊢
  have hl : lv_has ls 5 [(0, .ref (ad 0)), (1, .int x1)] := hl
  change W p l e rm_X11_first s m _ below meth c _ [] 0 0 _ _
  clear B hP hD hK hN hml
  generalize va_A (MW ca ad σ) s.heap.size = A at C w ⊢
  generalize ([.ref (ad 0), .int x1] : List Value).toArray = av at C ⊢
  obtain ⟨Q, hQ⟩ : ∃ Q, Q = MQ below (PostI D A (MW ca ad out.2) out.1) av s 0 0 A := ⟨_, rfl⟩
  rw [← hQ]
  have hx := C.1
  have hb := C.2.1
  have L24 : ∀ (n24 : Nat) (σ : St) (x1 : Int32) (x2 : Int32) (x3 : Int32) (x4 : Int32), f_X11_first_L24 n24 σ x1 x2 x3 x4 = some out → Bk p l e rm_X11_first s m av below meth c A D 5 Q (MW ca ad σ) 24 [(0, .ref (ad 0)), (1, .int x1), (2, .int x2), (3, .int x3), (4, .int x4)] [] := by
    intro n24
    induction n24 with
    | zero => intro σ x1 x2 x3 x4 h; exact absurd h (by simp [f_X11_first_L24])
    | succ n24 ih24 =>
      have b63 : ∀ (σ : St) (x1 : Int32) (x2 : Int32) (x3 : Int32) (x4 : Int32), f_X11_first_b63 (f_X11_first_L24 n24) σ x1 x2 x3 x4 = some out → Bk p l e rm_X11_first s m av below meth c A D 5 Q (MW ca ad σ) 63 [(0, .ref (ad 0)), (1, .int x1), (2, .int x2), (3, .int x3), (4, .int x4)] [] := by
        intro σ x1 x2 x3 x4 h H locs ls w hl
        unfold f_X11_first_b63 at h
        refine lv_iinc (v := (x4 + (1 : Int32))) (lv' := [(4, .int (x4 + (1 : Int32))), (0, .ref (ad 0)), (1, .int x1), (2, .int x2), (3, .int x3)]) hx hb dX11_first_63 hl (k := 4) rfl rfl (by decide) rfl (fun ls hl => ?_)
        refine lv_goto (tgt := 24) hx hb dX11_first_66 (by decide) ?_
        exact ih24 _ _ _ _ _ h _ _ _ w (lv_sub hl [1, 2, 3, 4, 0] rfl)
      have b59 : ∀ (σ : St) (x1 : Int32) (x2 : Int32) (x4 : Int32) (y0 : Int32), f_X11_first_b59 (f_X11_first_L24 n24) σ x1 x2 x4 y0 = some out → Bk p l e rm_X11_first s m av below meth c A D 5 Q (MW ca ad σ) 59 [(0, .ref (ad 0)), (1, .int x1), (2, .int x2), (4, .int x4)] [.int y0] := by
        intro σ x1 x2 x4 y0 h H locs ls w hl
        unfold f_X11_first_b59 at h
        refine lv_istore_n (lv' := [(3, .int y0), (0, .ref (ad 0)), (1, .int x1), (2, .int x2), (4, .int x4)]) hx hb dX11_first_59 rfl hl (by decide) rfl (fun ls hl => ?_)
        refine lv_iinc (v := (x2 + (1 : Int32))) (lv' := [(2, .int (x2 + (1 : Int32))), (3, .int y0), (0, .ref (ad 0)), (1, .int x1), (4, .int x4)]) hx hb dX11_first_60 hl (k := 3) rfl rfl (by decide) rfl (fun ls hl => ?_)
        exact b63 _ _ _ _ _ h _ _ _ w (lv_sub hl [2, 3, 0, 1, 4] rfl)
      intro σ x1 x2 x3 x4 h H locs ls w hl
      change f_X11_first_b24 (f_X11_first_L24 n24) σ x1 x2 x3 x4 = some out at h
      unfold f_X11_first_b24 at h
      refine lv_iload hx hb dX11_first_24 (lv_at hl 4 rfl) ?_
      refine lv_sipush (v := 444) hx hb dX11_first_26 (by decide) ?_
      refine lv_icmp_gt (tgt := 69) hx hb dX11_first_29 (by decide) (fun c1 => ?_) (fun c1 => ?_)
      · have h := it_t h c1
        refine lv_iload_n hx hb dX11_first_69 rfl (lv_at hl 1 rfl) ?_
        refine lv_if_ne (tgt := 77) hx hb dX11_first_70 (by decide) (fun c2 => ?_) (fun c2 => ?_)
        · have h := it_f h c2
          refine lv_iload_n hx hb dX11_first_77 rfl (lv_at hl 3 rfl) ?_
          rw [hQ]
          exact rI (F := MW ca ad) C w h dX11_first_78
        · have h := it_t h c2
          refine lv_iload_n hx hb dX11_first_73 rfl (lv_at hl 2 rfl) ?_
          refine lv_goto (tgt := 78) hx hb dX11_first_74 (by decide) ?_
          rw [hQ]
          exact rI (F := MW ca ad) C w h dX11_first_78
      · have h := it_f h c1
        refine lv_iload hx hb dX11_first_32 (lv_at hl 4 rfl) ?_
        obtain ⟨q1, hq1, h⟩ := ob_t h
        refine res_i C w (run_S (As := [.int x4]) (rest := []) C w hl.1 (c_X11_isLetter l D ca _ x4 _ q1 hq1) rfl rfl wl_524 wl_525 wl_5 wl_526 hd_X11_isLetter rfl ⟨Nat.le_of_ble_eq_true rfl, Nat.le_of_ble_eq_true rfl⟩ rfl (Nat.le_of_ble_eq_true rfl) dX11_first_34) (fun H locs w => ?_)
        refine lv_if_eq (tgt := 63) hx hb dX11_first_37 (by decide) (fun c3 => ?_) (fun c3 => ?_)
        · have h := it_t h c3
          exact b63 _ _ _ _ _ h _ _ _ w (lv_sub hl [0, 1, 2, 3, 4] rfl)
        · have h := it_f h c3
          refine lv_aload_n hx hb dX11_first_40 rfl (lv_at hl 0 rfl) ?_
          refine lv_iload hx hb dX11_first_41 (lv_at hl 4 rfl) ?_
          obtain ⟨q2, hq2, h⟩ := ob_t h
          refine res_i C w (run_V (As := [.int x4]) (rest := []) C w hl.1 (recvM0 C w) (c_X11_isAllSo l D ca ad _ x4 _ q2 hq2) rfl rfl wl_847 wl_848 wl_849 wl_5 wl_850 hd_X11_isAllSo rfl ⟨Nat.le_of_ble_eq_true rfl, Nat.le_of_ble_eq_true rfl⟩ rfl (Nat.le_of_ble_eq_true rfl) dX11_first_43) (fun H locs w => ?_)
          refine lv_if_eq (tgt := 63) hx hb dX11_first_46 (by decide) (fun c4 => ?_) (fun c4 => ?_)
          · have h := it_t h c4
            exact b63 _ _ _ _ _ h _ _ _ w (lv_sub hl [0, 1, 2, 3, 4] rfl)
          · have h := it_f h c4
            refine lv_iload_n hx hb dX11_first_49 rfl (lv_at hl 2 rfl) ?_
            refine lv_if_ne (tgt := 58) hx hb dX11_first_50 (by decide) (fun c5 => ?_) (fun c5 => ?_)
            · have h := it_f h c5
              refine lv_iload_n hx hb dX11_first_58 rfl (lv_at hl 3 rfl) ?_
              exact b59 _ _ _ _ _ h _ _ _ w (lv_sub hl [0, 1, 2, 4] rfl)
            · have h := it_t h c5
              refine lv_iload hx hb dX11_first_53 (lv_at hl 4 rfl) ?_
              refine lv_goto (tgt := 59) hx hb dX11_first_55 (by decide) ?_
              exact b59 _ _ _ _ _ h _ _ _ w (lv_sub hl [0, 1, 2, 4] rfl)
  have h := hf
  unfold f_X11_first at h
  refine lv_iload_n hx hb dX11_first_0 rfl (lv_at hl 1 rfl) ?_
  refine lv_i2l hx hb dX11_first_1 rfl ?_
  refine lv_lconst (v := 0) hx hb dX11_first_2 (by decide) ?_
  refine lv_lconst (v := 1) hx hb dX11_first_3 (by decide) ?_
  obtain ⟨q1, hq1, h⟩ := ob_t h
  refine res_i C w (run_S (As := [.long x1.toInt64, .long (0 : Int64), .long (1 : Int64)]) (rest := []) C w hl.1 (c_X11_in l D ca _ x1.toInt64 (0 : Int64) (1 : Int64) _ q1 hq1) rfl rfl wl_137 wl_138 wl_5 wl_139 hd_X11_in rfl ⟨Nat.le_of_ble_eq_true rfl, Nat.le_of_ble_eq_true rfl⟩ rfl (Nat.le_of_ble_eq_true rfl) dX11_first_4) (fun H locs w => ?_)
  refine lv_if_ne (tgt := 17) hx hb dX11_first_7 (by decide) (fun c1 => ?_) (fun c1 => ?_)
  · have h := it_f h c1
    refine lv_iconst (v := 0) hx hb dX11_first_17 (by decide) ?_
    refine lv_istore_n (lv' := [(2, .int (0 : Int32)), (0, .ref (ad 0)), (1, .int x1)]) hx hb dX11_first_18 rfl hl (by decide) rfl (fun ls hl => ?_)
    refine lv_iconst (v := -1) hx hb dX11_first_19 (by decide) ?_
    refine lv_istore_n (lv' := [(3, .int (-1 : Int32)), (2, .int (0 : Int32)), (0, .ref (ad 0)), (1, .int x1)]) hx hb dX11_first_20 rfl hl (by decide) rfl (fun ls hl => ?_)
    refine lv_iconst (v := 0) hx hb dX11_first_21 (by decide) ?_
    refine lv_istore (lv' := [(4, .int (0 : Int32)), (3, .int (-1 : Int32)), (2, .int (0 : Int32)), (0, .ref (ad 0)), (1, .int x1)]) hx hb dX11_first_22 hl (by decide) rfl (fun ls hl => ?_)
    exact L24 FU _ _ _ _ _ h _ _ _ w (lv_sub hl [3, 4, 2, 1, 0] rfl)
  · have h := it_t h c1
    refine lv_aload_n hx hb dX11_first_10 rfl (lv_at hl 0 rfl) ?_
    refine lv_bipush (v := -2) hx hb dX11_first_11 (by decide) ?_
    obtain ⟨q2, hq2, h⟩ := ob_t h
    refine res_i C w (run_V (As := [.int (-2 : Int32)]) (rest := []) C w hl.1 (recvM0 C w) (c_X11_bad l D ca ad _ (-2 : Int32) _ q2 hq2) rfl rfl wl_140 wl_141 wl_142 wl_5 wl_143 hd_X11_bad rfl ⟨Nat.le_of_ble_eq_true rfl, Nat.le_of_ble_eq_true rfl⟩ rfl (Nat.le_of_ble_eq_true rfl) dX11_first_13) (fun H locs w => ?_)
    rw [hQ]
    exact rI (F := MW ca ad) C w h dX11_first_16
theorem hd_X11_foresters : yX11_foresters.cls = RX11 ∧ yX11_foresters.cls ≠ "java/lang/invoke/MethodHandle" ∧ yX11_foresters.cls ≠ "java/lang/invoke/VarHandle" ∧ (parseMethodDescriptor yX11_foresters.desc).map (fun d => d.parameters.length) = some 4 := by decide +kernel
def f_X11_foresters_b78 (σ : St) : Option (Int32 × St) := (f_X11_bad σ (-2 : Int32)).bind fun q1 => some (q1.1, q1.2)
def f_X11_foresters_b200 (K88 : St → Int32 → Int32 → Int32 → Int32 → Int32 → Option (Int32 × St)) (σ : St) (x1 : Int32) (x2 : Int32) (x3 : Int32) (x4 : Int32) (x6 : Int32) (y0 : Int32) (y1 : Int32) : Option (Int32 × St) := cond (ckI y1 4) (K88 (sE σ 8 y1.toNatClampNeg y0) x1 x2 x3 x4 (x6 + (1 : Int32))) none
def f_X11_foresters_b164 (K88 : St → Int32 → Int32 → Int32 → Int32 → Int32 → Option (Int32 × St)) (σ : St) (x1 : Int32) (x2 : Int32) (x3 : Int32) (x4 : Int32) (x6 : Int32) (x8 : Int32) (y0 : Int32) (y1 : Int32) : Option (Int32 × St) := cond (ckI y1 4) (if x6 ≤ (1 : Int32) then (if x8 = 0 then (f_X11_foresters_b200 K88 (sE σ 7 y1.toNatClampNeg y0) x1 x2 x3 x4 x6 (0 : Int32) x6) else (f_X11_foresters_b200 K88 (sE σ 7 y1.toNatClampNeg y0) x1 x2 x3 x4 x6 (1 : Int32) x6)) else (if x8 = 0 then (f_X11_foresters_b200 K88 (sE σ 7 y1.toNatClampNeg y0) x1 x2 x3 x4 x6 (-1 : Int32) x6) else (f_X11_foresters_b200 K88 (sE σ 7 y1.toNatClampNeg y0) x1 x2 x3 x4 x6 (2 : Int32) x6))) none
def f_X11_foresters_b279 (K213 : St → Int32 → Int32 → Option (Int32 × St)) (σ : St) (x7 : Int32) (y0 : Int32) (y1 : Int32) : Option (Int32 × St) := K213 σ (y1 ||| y0) (x7 + (1 : Int32))
def f_X11_foresters_b262 (K213 : St → Int32 → Int32 → Option (Int32 × St)) (σ : St) (x6 : Int32) (x7 : Int32) (y0 : Int32) : Option (Int32 × St) := if y0 = 0 then (f_X11_foresters_b279 K213 σ x7 (0 : Int32) x6) else (f_X11_foresters_b279 K213 σ x7 ((1 : Int32) <<< (x7 &&& 31)) x6)
def f_X11_foresters_b261 (K213 : St → Int32 → Int32 → Option (Int32 × St)) (σ : St) (x6 : Int32) (x7 : Int32) : Option (Int32 × St) := f_X11_foresters_b262 K213 σ x6 x7 (0 : Int32)
def f_X11_foresters_b213 (K213 : St → Int32 → Int32 → Option (Int32 × St)) (σ : St) (x6 : Int32) (x7 : Int32) : Option (Int32 × St) := if (4 : Int32) ≤ x7 then (some (x6, σ)) else (cond (ckI x7 4) (cond (ckI (x7 ^^^ (1 : Int32)) 4) (if (σ.2.2 7 x7.toNatClampNeg) < (σ.2.2 7 ((x7 ^^^ (1 : Int32))).toNatClampNeg) then (f_X11_foresters_b261 K213 σ x6 x7) else (cond (ckI x7 4) (cond (ckI (x7 ^^^ (2 : Int32)) 4) (if (σ.2.2 8 x7.toNatClampNeg) < (σ.2.2 8 ((x7 ^^^ (2 : Int32))).toNatClampNeg) then (f_X11_foresters_b261 K213 σ x6 x7) else (f_X11_foresters_b262 K213 σ x6 x7 (1 : Int32))) none) none)) none) none)
def f_X11_foresters_L213 : Nat → St → Int32 → Int32 → Option (Int32 × St)
  | 0 => fun _ _ _ => none
  | n + 1 => f_X11_foresters_b213 (f_X11_foresters_L213 n)
def f_X11_foresters_b88 (K88 : St → Int32 → Int32 → Int32 → Int32 → Int32 → Option (Int32 × St)) (σ : St) (x1 : Int32) (x2 : Int32) (x3 : Int32) (x4 : Int32) (x6 : Int32) : Option (Int32 × St) := if (4 : Int32) ≤ x6 then (f_X11_foresters_L213 FU σ (0 : Int32) (0 : Int32)) else ((f_X11_isThereWay σ x3 x4 (((σ.2.2 1 1) ||| ((x6 &&& (1 : Int32)) <<< (x1 &&& 31))) ||| ((x6 / (2 : Int32)) <<< (x2 &&& 31)))).bind fun q1 => if (x6 &&& (1 : Int32)) = (1 : Int32) then (if q1.1 = 0 then (f_X11_foresters_b164 K88 q1.2 x1 x2 x3 x4 x6 q1.1 (-1 : Int32) x6) else (f_X11_foresters_b164 K88 q1.2 x1 x2 x3 x4 x6 q1.1 (2 : Int32) x6)) else (if q1.1 = 0 then (f_X11_foresters_b164 K88 q1.2 x1 x2 x3 x4 x6 q1.1 (0 : Int32) x6) else (f_X11_foresters_b164 K88 q1.2 x1 x2 x3 x4 x6 q1.1 (1 : Int32) x6)))
def f_X11_foresters_L88 : Nat → St → Int32 → Int32 → Int32 → Int32 → Int32 → Option (Int32 × St)
  | 0 => fun _ _ _ _ _ _ => none
  | n + 1 => f_X11_foresters_b88 (f_X11_foresters_L88 n)
def f_X11_foresters_b38 (σ : St) (x1 : Int32) (x2 : Int32) (x3 : Int32) (x4 : Int32) (y0 : Int32) : Option (Int32 × St) := (f_X11_isTree σ x1).bind fun q1 => if q1.1 = 0 then (f_X11_foresters_b78 q1.2) else ((f_X11_isTree q1.2 x2).bind fun q2 => if q2.1 = 0 then (f_X11_foresters_b78 q2.2) else ((f_X11_isTree q2.2 x3).bind fun q3 => if q3.1 = 0 then (f_X11_foresters_b78 q3.2) else ((f_X11_isTree q3.2 x4).bind fun q4 => if q4.1 = 0 then (f_X11_foresters_b78 q4.2) else (if y0 = 0 then (f_X11_foresters_b78 q4.2) else (f_X11_foresters_L88 FU q4.2 x1 x2 x3 x4 (0 : Int32))))))
def f_X11_foresters_b37 (σ : St) (x1 : Int32) (x2 : Int32) (x3 : Int32) (x4 : Int32) : Option (Int32 × St) := f_X11_foresters_b38 σ x1 x2 x3 x4 (0 : Int32)
def f_X11_foresters (σ : St) (x1 : Int32) (x2 : Int32) (x3 : Int32) (x4 : Int32) : Option (Int32 × St) := if x1 = x2 then (f_X11_foresters_b37 σ x1 x2 x3 x4) else (if x1 = x3 then (f_X11_foresters_b37 σ x1 x2 x3 x4) else (if x1 = x4 then (f_X11_foresters_b37 σ x1 x2 x3 x4) else (if x2 = x3 then (f_X11_foresters_b37 σ x1 x2 x3 x4) else (if x2 = x4 then (f_X11_foresters_b37 σ x1 x2 x3 x4) else (if x3 = x4 then (f_X11_foresters_b37 σ x1 x2 x3 x4) else (f_X11_foresters_b38 σ x1 x2 x3 x4 (1 : Int32)))))))
abbrev rm_X11_foresters : Room := { frames := 3, cells := 0, slots := 0, locals := 180 }
set_option maxHeartbeats 4000000 in
set_option maxRecDepth 100000 in
theorem c_X11_foresters (l : Launch) (D : va_G) (ca : Nat → ClassId) (ad : Nat → Nat) (σ : St) (x1 : Int32) (x2 : Int32) (x3 : Int32) (x4 : Int32) (sz : Nat) (out : Int32 × St) (hf : f_X11_foresters σ x1 x2 x3 x4 = some out) : Met l yX11_foresters (.code yX11_foresters cX11_foresters 9 (some .int) :: WL) rm_X11_foresters (PreC D ca (MW ca ad σ) sz [.ref (ad 0), .int x1, .int x2, .int x3, .int x4]) (PostI D (va_A (MW ca ad σ) sz) (MW ca ad out.2) out.1) 0 0 (va_A (MW ca ad σ) sz) := by
  refine Met.ofW (cc := cX11_foresters) (maxL := 9) (ret := (some .int)) (by decide) rfl ?_
  intro p e s m args below meth c s₁ B hml hv
  obtain ⟨rfl, hsz, hP, hK, hD, hN⟩ := hv
  subst hsz
  have C := Cx.mk (own := RX11) B hml rfl hK hN (ws := (MW ca ad σ))
  have w : Wd (va_A (MW ca ad σ) s.heap.size) s D (MW ca ad σ) s.heap [] := ⟨hP, hD.self, va_S.rf⟩
  have hl := lv_entry ([.ref (ad 0), .int x1, .int x2, .int x3, .int x4]) (n := 9) (Nat.le_of_ble_eq_true rfl)
  rw [lg_entry_eq]
  generalize (lg_sl ([.ref (ad 0), .int x1, .int x2, .int x3, .int x4]) ++ List.replicate (9 - (lg_sl ([.ref (ad 0), .int x1, .int x2, .int x3, .int x4])).length) Slot.unset).toArray = ls at hl ⊢
  have hl : lv_has ls 9 [(0, .ref (ad 0)), (1, .int x1), (2, .int x2), (3, .int x3), (4, .int x4)] := hl
  change W p l e rm_X11_foresters s m _ below meth c _ [] 0 0 _ _
  clear B hP hD hK hN hml
  generalize va_A (MW ca ad σ) s.heap.size = A at C w ⊢
  generalize ([.ref (ad 0), .int x1, .int x2, .int x3, .int x4] : List Value).toArray = av at C ⊢
  obtain ⟨Q, hQ⟩ : ∃ Q, Q = MQ below (PostI D A (MW ca ad out.2) out.1) av s 0 0 A := ⟨_, rfl⟩
  rw [← hQ]
  have hx := C.1
  have hb := C.2.1
  have b78 : ∀ (σ : St), f_X11_foresters_b78 σ = some out → Bk p l e rm_X11_foresters s m av below meth c A D 9 Q (MW ca ad σ) 78 [(0, .ref (ad 0))] [] := by
    intro σ h H locs ls w hl
    unfold f_X11_foresters_b78 at h
    refine lv_aload_n hx hb dX11_foresters_78 rfl (lv_at hl 0 rfl) ?_
    refine lv_bipush (v := -2) hx hb dX11_foresters_79 (by decide) ?_
    obtain ⟨q1, hq1, h⟩ := ob_t h
    refine res_i C w (run_V (As := [.int (-2 : Int32)]) (rest := []) C w hl.1 (recvM0 C w) (c_X11_bad l D ca ad _ (-2 : Int32) _ q1 hq1) rfl rfl wl_140 wl_141 wl_142 wl_5 wl_143 hd_X11_bad rfl ⟨Nat.le_of_ble_eq_true rfl, Nat.le_of_ble_eq_true rfl⟩ rfl (Nat.le_of_ble_eq_true rfl) dX11_foresters_81) (fun H locs w => ?_)
    rw [hQ]
    exact rI (F := MW ca ad) C w h dX11_foresters_84
  have L213 : ∀ (n213 : Nat) (σ : St) (x6 : Int32) (x7 : Int32), f_X11_foresters_L213 n213 σ x6 x7 = some out → Bk p l e rm_X11_foresters s m av below meth c A D 9 Q (MW ca ad σ) 213 [(0, .ref (ad 0)), (6, .int x6), (7, .int x7)] [] := by
    intro n213
    induction n213 with
    | zero => intro σ x6 x7 h; exact absurd h (by simp [f_X11_foresters_L213])
    | succ n213 ih213 =>
      have b279 : ∀ (σ : St) (x7 : Int32) (y0 : Int32) (y1 : Int32), f_X11_foresters_b279 (f_X11_foresters_L213 n213) σ x7 y0 y1 = some out → Bk p l e rm_X11_foresters s m av below meth c A D 9 Q (MW ca ad σ) 279 [(0, .ref (ad 0)), (7, .int x7)] [.int y0, .int y1] := by
        intro σ x7 y0 y1 h H locs ls w hl
        unfold f_X11_foresters_b279 at h
        refine lv_ior hx hb dX11_foresters_279 ?_
        refine lv_istore (lv' := [(6, .int (y1 ||| y0)), (0, .ref (ad 0)), (7, .int x7)]) hx hb dX11_foresters_280 hl (by decide) rfl (fun ls hl => ?_)
        refine lv_iinc (v := (x7 + (1 : Int32))) (lv' := [(7, .int (x7 + (1 : Int32))), (6, .int (y1 ||| y0)), (0, .ref (ad 0))]) hx hb dX11_foresters_282 hl (k := 2) rfl rfl (by decide) rfl (fun ls hl => ?_)
        refine lv_goto (tgt := 213) hx hb dX11_foresters_285 (by decide) ?_
        exact ih213 _ _ _ h _ _ _ w (lv_sub hl [2, 1, 0] rfl)
      have b262 : ∀ (σ : St) (x6 : Int32) (x7 : Int32) (y0 : Int32), f_X11_foresters_b262 (f_X11_foresters_L213 n213) σ x6 x7 y0 = some out → Bk p l e rm_X11_foresters s m av below meth c A D 9 Q (MW ca ad σ) 262 [(0, .ref (ad 0)), (6, .int x6), (7, .int x7)] [.int y0] := by
        intro σ x6 x7 y0 h H locs ls w hl
        unfold f_X11_foresters_b262 at h
        refine lv_istore (lv' := [(8, .int y0), (0, .ref (ad 0)), (6, .int x6), (7, .int x7)]) hx hb dX11_foresters_262 hl (by decide) rfl (fun ls hl => ?_)
        refine lv_iload hx hb dX11_foresters_264 (lv_at hl 2 rfl) ?_
        refine lv_iload hx hb dX11_foresters_266 (lv_at hl 0 rfl) ?_
        refine lv_if_eq (tgt := 278) hx hb dX11_foresters_268 (by decide) (fun c1 => ?_) (fun c1 => ?_)
        · have h := it_t h c1
          refine lv_iconst (v := 0) hx hb dX11_foresters_278 (by decide) ?_
          exact b279 _ _ _ _ h _ _ _ w (lv_sub hl [1, 3] rfl)
        · have h := it_f h c1
          refine lv_iconst (v := 1) hx hb dX11_foresters_271 (by decide) ?_
          refine lv_iload hx hb dX11_foresters_272 (lv_at hl 3 rfl) ?_
          refine lv_ishl hx hb dX11_foresters_274 ?_
          refine lv_goto (tgt := 279) hx hb dX11_foresters_275 (by decide) ?_
          exact b279 _ _ _ _ h _ _ _ w (lv_sub hl [1, 3] rfl)
      have b261 : ∀ (σ : St) (x6 : Int32) (x7 : Int32), f_X11_foresters_b261 (f_X11_foresters_L213 n213) σ x6 x7 = some out → Bk p l e rm_X11_foresters s m av below meth c A D 9 Q (MW ca ad σ) 261 [(0, .ref (ad 0)), (6, .int x6), (7, .int x7)] [] := by
        intro σ x6 x7 h H locs ls w hl
        unfold f_X11_foresters_b261 at h
        refine lv_iconst (v := 0) hx hb dX11_foresters_261 (by decide) ?_
        exact b262 _ _ _ _ h _ _ _ w (lv_sub hl [0, 1, 2] rfl)
      intro σ x6 x7 h H locs ls w hl
      change f_X11_foresters_b213 (f_X11_foresters_L213 n213) σ x6 x7 = some out at h
      unfold f_X11_foresters_b213 at h
      refine lv_iload hx hb dX11_foresters_213 (lv_at hl 2 rfl) ?_
      refine lv_iconst (v := 4) hx hb dX11_foresters_215 (by decide) ?_
      refine lv_icmp_ge (tgt := 288) hx hb dX11_foresters_216 (by decide) (fun c1 => ?_) (fun c1 => ?_)
      · have h := it_t h c1
        refine lv_iload hx hb dX11_foresters_288 (lv_at hl 1 rfl) ?_
        rw [hQ]
        exact rI (F := MW ca ad) C w h dX11_foresters_290
      · have h := it_f h c1
        refine lv_aload_n hx hb dX11_foresters_219 rfl (lv_at hl 0 rfl) ?_
        refine gM0_15 C w wl_101 dX11_foresters_220 ?_
        refine lv_iload hx hb dX11_foresters_223 (lv_at hl 2 rfl) ?_
        obtain ⟨i2, h⟩ := ck_t h
        refine ldM7 (v := (σ.2.2 7 x7.toNatClampNeg)) C w i2 rfl dX11_foresters_225 ?_
        refine lv_aload_n hx hb dX11_foresters_226 rfl (lv_at hl 0 rfl) ?_
        refine gM0_15 C w wl_101 dX11_foresters_227 ?_
        refine lv_iload hx hb dX11_foresters_230 (lv_at hl 2 rfl) ?_
        refine lv_iconst (v := 1) hx hb dX11_foresters_232 (by decide) ?_
        refine lv_ixor hx hb dX11_foresters_233 ?_
        obtain ⟨i3, h⟩ := ck_t h
        refine ldM7 (v := (σ.2.2 7 ((x7 ^^^ (1 : Int32))).toNatClampNeg)) C w i3 rfl dX11_foresters_234 ?_
        refine lv_icmp_lt (tgt := 261) hx hb dX11_foresters_235 (by decide) (fun c4 => ?_) (fun c4 => ?_)
        · have h := it_t h c4
          exact b261 _ _ _ h _ _ _ w (lv_sub hl [0, 1, 2] rfl)
        · have h := it_f h c4
          refine lv_aload_n hx hb dX11_foresters_238 rfl (lv_at hl 0 rfl) ?_
          refine gM0_16 C w wl_102 dX11_foresters_239 ?_
          refine lv_iload hx hb dX11_foresters_242 (lv_at hl 2 rfl) ?_
          obtain ⟨i5, h⟩ := ck_t h
          refine ldM8 (v := (σ.2.2 8 x7.toNatClampNeg)) C w i5 rfl dX11_foresters_244 ?_
          refine lv_aload_n hx hb dX11_foresters_245 rfl (lv_at hl 0 rfl) ?_
          refine gM0_16 C w wl_102 dX11_foresters_246 ?_
          refine lv_iload hx hb dX11_foresters_249 (lv_at hl 2 rfl) ?_
          refine lv_iconst (v := 2) hx hb dX11_foresters_251 (by decide) ?_
          refine lv_ixor hx hb dX11_foresters_252 ?_
          obtain ⟨i6, h⟩ := ck_t h
          refine ldM8 (v := (σ.2.2 8 ((x7 ^^^ (2 : Int32))).toNatClampNeg)) C w i6 rfl dX11_foresters_253 ?_
          refine lv_icmp_lt (tgt := 261) hx hb dX11_foresters_254 (by decide) (fun c7 => ?_) (fun c7 => ?_)
          · have h := it_t h c7
            exact b261 _ _ _ h _ _ _ w (lv_sub hl [0, 1, 2] rfl)
          · have h := it_f h c7
            refine lv_iconst (v := 1) hx hb dX11_foresters_257 (by decide) ?_
            refine lv_goto (tgt := 262) hx hb dX11_foresters_258 (by decide) ?_
            exact b262 _ _ _ _ h _ _ _ w (lv_sub hl [0, 1, 2] rfl)
  have L88 : ∀ (n88 : Nat) (σ : St) (x1 : Int32) (x2 : Int32) (x3 : Int32) (x4 : Int32) (x6 : Int32), f_X11_foresters_L88 n88 σ x1 x2 x3 x4 x6 = some out → Bk p l e rm_X11_foresters s m av below meth c A D 9 Q (MW ca ad σ) 88 [(0, .ref (ad 0)), (1, .int x1), (2, .int x2), (3, .int x3), (4, .int x4), (6, .int x6)] [] := by
    intro n88
    induction n88 with
    | zero => intro σ x1 x2 x3 x4 x6 h; exact absurd h (by simp [f_X11_foresters_L88])
    | succ n88 ih88 =>
      have b200 : ∀ (σ : St) (x1 : Int32) (x2 : Int32) (x3 : Int32) (x4 : Int32) (x6 : Int32) (y0 : Int32) (y1 : Int32), f_X11_foresters_b200 (f_X11_foresters_L88 n88) σ x1 x2 x3 x4 x6 y0 y1 = some out → Bk p l e rm_X11_foresters s m av below meth c A D 9 Q (MW ca ad σ) 200 [(0, .ref (ad 0)), (1, .int x1), (2, .int x2), (3, .int x3), (4, .int x4), (6, .int x6)] [.int y0, .int y1, .ref (ad 8)] := by
        intro σ x1 x2 x3 x4 x6 y0 y1 h H locs ls w hl
        unfold f_X11_foresters_b200 at h
        obtain ⟨i1, h⟩ := ck_t h
        refine stM8 (j := y1.toNatClampNeg) C w i1 rfl dX11_foresters_200 (fun H locs w => ?_)
        refine lv_iinc (v := (x6 + (1 : Int32))) (lv' := [(6, .int (x6 + (1 : Int32))), (0, .ref (ad 0)), (1, .int x1), (2, .int x2), (3, .int x3), (4, .int x4)]) hx hb dX11_foresters_201 hl (k := 5) rfl rfl (by decide) rfl (fun ls hl => ?_)
        refine lv_goto (tgt := 88) hx hb dX11_foresters_204 (by decide) ?_
        exact ih88 _ _ _ _ _ _ h _ _ _ w (lv_sub hl [1, 2, 3, 4, 5, 0] rfl)
      have b164 : ∀ (σ : St) (x1 : Int32) (x2 : Int32) (x3 : Int32) (x4 : Int32) (x6 : Int32) (x8 : Int32) (y0 : Int32) (y1 : Int32), f_X11_foresters_b164 (f_X11_foresters_L88 n88) σ x1 x2 x3 x4 x6 x8 y0 y1 = some out → Bk p l e rm_X11_foresters s m av below meth c A D 9 Q (MW ca ad σ) 164 [(0, .ref (ad 0)), (1, .int x1), (2, .int x2), (3, .int x3), (4, .int x4), (6, .int x6), (8, .int x8)] [.int y0, .int y1, .ref (ad 7)] := by
        intro σ x1 x2 x3 x4 x6 x8 y0 y1 h H locs ls w hl
        unfold f_X11_foresters_b164 at h
        obtain ⟨i1, h⟩ := ck_t h
        refine stM7 (j := y1.toNatClampNeg) C w i1 rfl dX11_foresters_164 (fun H locs w => ?_)
        refine lv_aload_n hx hb dX11_foresters_165 rfl (lv_at hl 0 rfl) ?_
        refine gM0_16 C w wl_102 dX11_foresters_166 ?_
        refine lv_iload hx hb dX11_foresters_169 (lv_at hl 5 rfl) ?_
        refine lv_iload hx hb dX11_foresters_171 (lv_at hl 5 rfl) ?_
        refine lv_iconst (v := 1) hx hb dX11_foresters_173 (by decide) ?_
        refine lv_icmp_le (tgt := 190) hx hb dX11_foresters_174 (by decide) (fun c2 => ?_) (fun c2 => ?_)
        · have h := it_t h c2
          refine lv_iload hx hb dX11_foresters_190 (lv_at hl 6 rfl) ?_
          refine lv_if_eq (tgt := 199) hx hb dX11_foresters_192 (by decide) (fun c3 => ?_) (fun c3 => ?_)
          · have h := it_t h c3
            refine lv_iconst (v := 0) hx hb dX11_foresters_199 (by decide) ?_
            exact b200 _ _ _ _ _ _ _ _ h _ _ _ w (lv_sub hl [0, 1, 2, 3, 4, 5] rfl)
          · have h := it_f h c3
            refine lv_iconst (v := 1) hx hb dX11_foresters_195 (by decide) ?_
            refine lv_goto (tgt := 200) hx hb dX11_foresters_196 (by decide) ?_
            exact b200 _ _ _ _ _ _ _ _ h _ _ _ w (lv_sub hl [0, 1, 2, 3, 4, 5] rfl)
        · have h := it_f h c2
          refine lv_iload hx hb dX11_foresters_177 (lv_at hl 6 rfl) ?_
          refine lv_if_eq (tgt := 186) hx hb dX11_foresters_179 (by decide) (fun c4 => ?_) (fun c4 => ?_)
          · have h := it_t h c4
            refine lv_iconst (v := -1) hx hb dX11_foresters_186 (by decide) ?_
            refine lv_goto (tgt := 200) hx hb dX11_foresters_187 (by decide) ?_
            exact b200 _ _ _ _ _ _ _ _ h _ _ _ w (lv_sub hl [0, 1, 2, 3, 4, 5] rfl)
          · have h := it_f h c4
            refine lv_iconst (v := 2) hx hb dX11_foresters_182 (by decide) ?_
            refine lv_goto (tgt := 200) hx hb dX11_foresters_183 (by decide) ?_
            exact b200 _ _ _ _ _ _ _ _ h _ _ _ w (lv_sub hl [0, 1, 2, 3, 4, 5] rfl)
      intro σ x1 x2 x3 x4 x6 h H locs ls w hl
      change f_X11_foresters_b88 (f_X11_foresters_L88 n88) σ x1 x2 x3 x4 x6 = some out at h
      unfold f_X11_foresters_b88 at h
      refine lv_iload hx hb dX11_foresters_88 (lv_at hl 5 rfl) ?_
      refine lv_iconst (v := 4) hx hb dX11_foresters_90 (by decide) ?_
      refine lv_icmp_ge (tgt := 207) hx hb dX11_foresters_91 (by decide) (fun c1 => ?_) (fun c1 => ?_)
      · have h := it_t h c1
        refine lv_iconst (v := 0) hx hb dX11_foresters_207 (by decide) ?_
        refine lv_istore (lv' := [(6, .int (0 : Int32)), (0, .ref (ad 0)), (1, .int x1), (2, .int x2), (3, .int x3), (4, .int x4)]) hx hb dX11_foresters_208 hl (by decide) rfl (fun ls hl => ?_)
        refine lv_iconst (v := 0) hx hb dX11_foresters_210 (by decide) ?_
        refine lv_istore (lv' := [(7, .int (0 : Int32)), (6, .int (0 : Int32)), (0, .ref (ad 0)), (1, .int x1), (2, .int x2), (3, .int x3), (4, .int x4)]) hx hb dX11_foresters_211 hl (by decide) rfl (fun ls hl => ?_)
        exact L213 FU _ _ _ h _ _ _ w (lv_sub hl [2, 1, 0] rfl)
      · have h := it_f h c1
        refine lv_aload_n hx hb dX11_foresters_94 rfl (lv_at hl 0 rfl) ?_
        refine gM0_0 C w wl_94 dX11_foresters_95 ?_
        refine lv_iconst (v := 1) hx hb dX11_foresters_98 (by decide) ?_
        refine ldM1 (v := (σ.2.2 1 1)) C w (vl (by decide)) rfl dX11_foresters_99 ?_
        refine lv_iload hx hb dX11_foresters_100 (lv_at hl 5 rfl) ?_
        refine lv_iconst (v := 1) hx hb dX11_foresters_102 (by decide) ?_
        refine lv_iand hx hb dX11_foresters_103 ?_
        refine lv_iload_n hx hb dX11_foresters_104 rfl (lv_at hl 1 rfl) ?_
        refine lv_ishl hx hb dX11_foresters_105 ?_
        refine lv_ior hx hb dX11_foresters_106 ?_
        refine lv_iload hx hb dX11_foresters_107 (lv_at hl 5 rfl) ?_
        refine lv_iconst (v := 2) hx hb dX11_foresters_109 (by decide) ?_
        refine lv_idiv hx hb dX11_foresters_110 (by decide) ?_
        refine lv_iload_n hx hb dX11_foresters_111 rfl (lv_at hl 2 rfl) ?_
        refine lv_ishl hx hb dX11_foresters_112 ?_
        refine lv_ior hx hb dX11_foresters_113 ?_
        refine lv_istore (lv' := [(7, .int (((σ.2.2 1 1) ||| ((x6 &&& (1 : Int32)) <<< (x1 &&& 31))) ||| ((x6 / (2 : Int32)) <<< (x2 &&& 31)))), (0, .ref (ad 0)), (1, .int x1), (2, .int x2), (3, .int x3), (4, .int x4), (6, .int x6)]) hx hb dX11_foresters_114 hl (by decide) rfl (fun ls hl => ?_)
        refine lv_aload_n hx hb dX11_foresters_116 rfl (lv_at hl 1 rfl) ?_
        refine lv_iload_n hx hb dX11_foresters_117 rfl (lv_at hl 4 rfl) ?_
        refine lv_iload hx hb dX11_foresters_118 (lv_at hl 5 rfl) ?_
        refine lv_iload hx hb dX11_foresters_120 (lv_at hl 0 rfl) ?_
        obtain ⟨q1, hq1, h⟩ := ob_t h
        refine res_i C w (run_V (As := [.int x3, .int x4, .int (((σ.2.2 1 1) ||| ((x6 &&& (1 : Int32)) <<< (x1 &&& 31))) ||| ((x6 / (2 : Int32)) <<< (x2 &&& 31)))]) (rest := []) C w hl.1 (recvM0 C w) (c_X11_isThereWay l D ca ad _ x3 x4 (((σ.2.2 1 1) ||| ((x6 &&& (1 : Int32)) <<< (x1 &&& 31))) ||| ((x6 / (2 : Int32)) <<< (x2 &&& 31))) _ q1 hq1) rfl rfl wl_735 wl_736 wl_737 wl_5 wl_738 hd_X11_isThereWay rfl ⟨Nat.le_of_ble_eq_true rfl, Nat.le_of_ble_eq_true rfl⟩ rfl (Nat.le_of_ble_eq_true rfl) dX11_foresters_122) (fun H locs w => ?_)
        refine lv_istore (lv' := [(8, .int q1.1), (7, .int (((σ.2.2 1 1) ||| ((x6 &&& (1 : Int32)) <<< (x1 &&& 31))) ||| ((x6 / (2 : Int32)) <<< (x2 &&& 31)))), (0, .ref (ad 0)), (1, .int x1), (2, .int x2), (3, .int x3), (4, .int x4), (6, .int x6)]) hx hb dX11_foresters_125 hl (by decide) rfl (fun ls hl => ?_)
        refine lv_aload_n hx hb dX11_foresters_127 rfl (lv_at hl 2 rfl) ?_
        refine gM0_15 C w wl_101 dX11_foresters_128 ?_
        refine lv_iload hx hb dX11_foresters_131 (lv_at hl 7 rfl) ?_
        refine lv_iload hx hb dX11_foresters_133 (lv_at hl 7 rfl) ?_
        refine lv_iconst (v := 1) hx hb dX11_foresters_135 (by decide) ?_
        refine lv_iand hx hb dX11_foresters_136 ?_
        refine lv_iconst (v := 1) hx hb dX11_foresters_137 (by decide) ?_
        refine lv_icmp_ne (tgt := 154) hx hb dX11_foresters_138 (by decide) (fun c2 => ?_) (fun c2 => ?_)
        · have h := it_f h c2
          refine lv_iload hx hb dX11_foresters_154 (lv_at hl 0 rfl) ?_
          refine lv_if_eq (tgt := 163) hx hb dX11_foresters_156 (by decide) (fun c3 => ?_) (fun c3 => ?_)
          · have h := it_t h c3
            refine lv_iconst (v := 0) hx hb dX11_foresters_163 (by decide) ?_
            exact b164 _ _ _ _ _ _ _ _ _ h _ _ _ w (lv_sub hl [2, 3, 4, 5, 6, 7, 0] rfl)
          · have h := it_f h c3
            refine lv_iconst (v := 1) hx hb dX11_foresters_159 (by decide) ?_
            refine lv_goto (tgt := 164) hx hb dX11_foresters_160 (by decide) ?_
            exact b164 _ _ _ _ _ _ _ _ _ h _ _ _ w (lv_sub hl [2, 3, 4, 5, 6, 7, 0] rfl)
        · have h := it_t h c2
          refine lv_iload hx hb dX11_foresters_141 (lv_at hl 0 rfl) ?_
          refine lv_if_eq (tgt := 150) hx hb dX11_foresters_143 (by decide) (fun c4 => ?_) (fun c4 => ?_)
          · have h := it_t h c4
            refine lv_iconst (v := -1) hx hb dX11_foresters_150 (by decide) ?_
            refine lv_goto (tgt := 164) hx hb dX11_foresters_151 (by decide) ?_
            exact b164 _ _ _ _ _ _ _ _ _ h _ _ _ w (lv_sub hl [2, 3, 4, 5, 6, 7, 0] rfl)
          · have h := it_f h c4
            refine lv_iconst (v := 2) hx hb dX11_foresters_146 (by decide) ?_
            refine lv_goto (tgt := 164) hx hb dX11_foresters_147 (by decide) ?_
            exact b164 _ _ _ _ _ _ _ _ _ h _ _ _ w (lv_sub hl [2, 3, 4, 5, 6, 7, 0] rfl)
  have b38 : ∀ (σ : St) (x1 : Int32) (x2 : Int32) (x3 : Int32) (x4 : Int32) (y0 : Int32), f_X11_foresters_b38 σ x1 x2 x3 x4 y0 = some out → Bk p l e rm_X11_foresters s m av below meth c A D 9 Q (MW ca ad σ) 38 [(0, .ref (ad 0)), (1, .int x1), (2, .int x2), (3, .int x3), (4, .int x4)] [.int y0] := by
    intro σ x1 x2 x3 x4 y0 h H locs ls w hl
    unfold f_X11_foresters_b38 at h
    refine lv_istore (lv' := [(5, .int y0), (0, .ref (ad 0)), (1, .int x1), (2, .int x2), (3, .int x3), (4, .int x4)]) hx hb dX11_foresters_38 hl (by decide) rfl (fun ls hl => ?_)
    refine lv_aload_n hx hb dX11_foresters_40 rfl (lv_at hl 1 rfl) ?_
    refine lv_iload_n hx hb dX11_foresters_41 rfl (lv_at hl 2 rfl) ?_
    obtain ⟨q1, hq1, h⟩ := ob_t h
    refine res_i C w (run_V (As := [.int x1]) (rest := []) C w hl.1 (recvM0 C w) (c_X11_isTree l D ca ad _ x1 _ q1 hq1) rfl rfl wl_188 wl_189 wl_190 wl_5 wl_191 hd_X11_isTree rfl ⟨Nat.le_of_ble_eq_true rfl, Nat.le_of_ble_eq_true rfl⟩ rfl (Nat.le_of_ble_eq_true rfl) dX11_foresters_42) (fun H locs w => ?_)
    refine lv_if_eq (tgt := 78) hx hb dX11_foresters_45 (by decide) (fun c1 => ?_) (fun c1 => ?_)
    · have h := it_t h c1
      exact b78 _ h _ _ _ w (lv_sub hl [1] rfl)
    · have h := it_f h c1
      refine lv_aload_n hx hb dX11_foresters_48 rfl (lv_at hl 1 rfl) ?_
      refine lv_iload_n hx hb dX11_foresters_49 rfl (lv_at hl 3 rfl) ?_
      obtain ⟨q2, hq2, h⟩ := ob_t h
      refine res_i C w (run_V (As := [.int x2]) (rest := []) C w hl.1 (recvM0 C w) (c_X11_isTree l D ca ad _ x2 _ q2 hq2) rfl rfl wl_188 wl_189 wl_190 wl_5 wl_191 hd_X11_isTree rfl ⟨Nat.le_of_ble_eq_true rfl, Nat.le_of_ble_eq_true rfl⟩ rfl (Nat.le_of_ble_eq_true rfl) dX11_foresters_50) (fun H locs w => ?_)
      refine lv_if_eq (tgt := 78) hx hb dX11_foresters_53 (by decide) (fun c2 => ?_) (fun c2 => ?_)
      · have h := it_t h c2
        exact b78 _ h _ _ _ w (lv_sub hl [1] rfl)
      · have h := it_f h c2
        refine lv_aload_n hx hb dX11_foresters_56 rfl (lv_at hl 1 rfl) ?_
        refine lv_iload_n hx hb dX11_foresters_57 rfl (lv_at hl 4 rfl) ?_
        obtain ⟨q3, hq3, h⟩ := ob_t h
        refine res_i C w (run_V (As := [.int x3]) (rest := []) C w hl.1 (recvM0 C w) (c_X11_isTree l D ca ad _ x3 _ q3 hq3) rfl rfl wl_188 wl_189 wl_190 wl_5 wl_191 hd_X11_isTree rfl ⟨Nat.le_of_ble_eq_true rfl, Nat.le_of_ble_eq_true rfl⟩ rfl (Nat.le_of_ble_eq_true rfl) dX11_foresters_58) (fun H locs w => ?_)
        refine lv_if_eq (tgt := 78) hx hb dX11_foresters_61 (by decide) (fun c3 => ?_) (fun c3 => ?_)
        · have h := it_t h c3
          exact b78 _ h _ _ _ w (lv_sub hl [1] rfl)
        · have h := it_f h c3
          refine lv_aload_n hx hb dX11_foresters_64 rfl (lv_at hl 1 rfl) ?_
          refine lv_iload hx hb dX11_foresters_65 (lv_at hl 5 rfl) ?_
          obtain ⟨q4, hq4, h⟩ := ob_t h
          refine res_i C w (run_V (As := [.int x4]) (rest := []) C w hl.1 (recvM0 C w) (c_X11_isTree l D ca ad _ x4 _ q4 hq4) rfl rfl wl_188 wl_189 wl_190 wl_5 wl_191 hd_X11_isTree rfl ⟨Nat.le_of_ble_eq_true rfl, Nat.le_of_ble_eq_true rfl⟩ rfl (Nat.le_of_ble_eq_true rfl) dX11_foresters_67) (fun H locs w => ?_)
          refine lv_if_eq (tgt := 78) hx hb dX11_foresters_70 (by decide) (fun c4 => ?_) (fun c4 => ?_)
          · have h := it_t h c4
            exact b78 _ h _ _ _ w (lv_sub hl [1] rfl)
          · have h := it_f h c4
            refine lv_iload hx hb dX11_foresters_73 (lv_at hl 0 rfl) ?_
            refine lv_if_ne (tgt := 85) hx hb dX11_foresters_75 (by decide) (fun c5 => ?_) (fun c5 => ?_)
            · have h := it_f h c5
              refine lv_iconst (v := 0) hx hb dX11_foresters_85 (by decide) ?_
              refine lv_istore (lv' := [(6, .int (0 : Int32)), (5, .int y0), (0, .ref (ad 0)), (1, .int x1), (2, .int x2), (3, .int x3), (4, .int x4)]) hx hb dX11_foresters_86 hl (by decide) rfl (fun ls hl => ?_)
              exact L88 FU _ _ _ _ _ _ h _ _ _ w (lv_sub hl [2, 3, 4, 5, 6, 0] rfl)
            · have h := it_t h c5
              exact b78 _ h _ _ _ w (lv_sub hl [1] rfl)
  have b37 : ∀ (σ : St) (x1 : Int32) (x2 : Int32) (x3 : Int32) (x4 : Int32), f_X11_foresters_b37 σ x1 x2 x3 x4 = some out → Bk p l e rm_X11_foresters s m av below meth c A D 9 Q (MW ca ad σ) 37 [(0, .ref (ad 0)), (1, .int x1), (2, .int x2), (3, .int x3), (4, .int x4)] [] := by
    intro σ x1 x2 x3 x4 h H locs ls w hl
    unfold f_X11_foresters_b37 at h
    refine lv_iconst (v := 0) hx hb dX11_foresters_37 (by decide) ?_
    exact b38 _ _ _ _ _ _ h _ _ _ w (lv_sub hl [0, 1, 2, 3, 4] rfl)
  have h := hf
  unfold f_X11_foresters at h
  refine lv_iload_n hx hb dX11_foresters_0 rfl (lv_at hl 1 rfl) ?_
  refine lv_iload_n hx hb dX11_foresters_1 rfl (lv_at hl 2 rfl) ?_
  refine lv_icmp_eq (tgt := 37) hx hb dX11_foresters_2 (by decide) (fun c1 => ?_) (fun c1 => ?_)
  · have h := it_t h c1
    exact b37 _ _ _ _ _ h _ _ _ w (lv_sub hl [0, 1, 2, 3, 4] rfl)
  · have h := it_f h c1
    refine lv_iload_n hx hb dX11_foresters_5 rfl (lv_at hl 1 rfl) ?_
    refine lv_iload_n hx hb dX11_foresters_6 rfl (lv_at hl 3 rfl) ?_
    refine lv_icmp_eq (tgt := 37) hx hb dX11_foresters_7 (by decide) (fun c2 => ?_) (fun c2 => ?_)
    · have h := it_t h c2
      exact b37 _ _ _ _ _ h _ _ _ w (lv_sub hl [0, 1, 2, 3, 4] rfl)
    · have h := it_f h c2
      refine lv_iload_n hx hb dX11_foresters_10 rfl (lv_at hl 1 rfl) ?_
      refine lv_iload hx hb dX11_foresters_11 (lv_at hl 4 rfl) ?_
      refine lv_icmp_eq (tgt := 37) hx hb dX11_foresters_13 (by decide) (fun c3 => ?_) (fun c3 => ?_)
      · have h := it_t h c3
        exact b37 _ _ _ _ _ h _ _ _ w (lv_sub hl [0, 1, 2, 3, 4] rfl)
      · have h := it_f h c3
        refine lv_iload_n hx hb dX11_foresters_16 rfl (lv_at hl 2 rfl) ?_
        refine lv_iload_n hx hb dX11_foresters_17 rfl (lv_at hl 3 rfl) ?_
        refine lv_icmp_eq (tgt := 37) hx hb dX11_foresters_18 (by decide) (fun c4 => ?_) (fun c4 => ?_)
        · have h := it_t h c4
          exact b37 _ _ _ _ _ h _ _ _ w (lv_sub hl [0, 1, 2, 3, 4] rfl)
        · have h := it_f h c4
          refine lv_iload_n hx hb dX11_foresters_21 rfl (lv_at hl 2 rfl) ?_
          refine lv_iload hx hb dX11_foresters_22 (lv_at hl 4 rfl) ?_
          refine lv_icmp_eq (tgt := 37) hx hb dX11_foresters_24 (by decide) (fun c5 => ?_) (fun c5 => ?_)
          · have h := it_t h c5
            exact b37 _ _ _ _ _ h _ _ _ w (lv_sub hl [0, 1, 2, 3, 4] rfl)
          · have h := it_f h c5
            refine lv_iload_n hx hb dX11_foresters_27 rfl (lv_at hl 3 rfl) ?_
            refine lv_iload hx hb dX11_foresters_28 (lv_at hl 4 rfl) ?_
            refine lv_icmp_eq (tgt := 37) hx hb dX11_foresters_30 (by decide) (fun c6 => ?_) (fun c6 => ?_)
            · have h := it_t h c6
              exact b37 _ _ _ _ _ h _ _ _ w (lv_sub hl [0, 1, 2, 3, 4] rfl)
            · have h := it_f h c6
              refine lv_iconst (v := 1) hx hb dX11_foresters_33 (by decide) ?_
              refine lv_goto (tgt := 38) hx hb dX11_foresters_34 (by decide) ?_
              exact b38 _ _ _ _ _ _ h _ _ _ w (lv_sub hl [0, 1, 2, 3, 4] rfl)
theorem hd_X11_fraction : yX11_fraction.cls = RX11 ∧ yX11_fraction.cls ≠ "java/lang/invoke/MethodHandle" ∧ yX11_fraction.cls ≠ "java/lang/invoke/VarHandle" ∧ (parseMethodDescriptor yX11_fraction.desc).map (fun d => d.parameters.length) = some 2 := by decide +kernel
def f_X11_fraction_b6 (K6 : St → Int64 → Int64 → Int64 → Int64 → Option (St)) (σ : St) (x1 : Int64) (x3 : Int64) (x5 : Int64) (x7 : Int64) : Option (St) := if (lg_cmp x7 (0 : Int64)) = 0 then (if x5 = 0 then none else (if x5 = 0 then none else (some (sL (sL σ 4 (x1 / x5)) 5 (x3 / x5))))) else (if x7 = 0 then none else (K6 σ x1 x3 x7 (x5 - x5 / x7 * x7)))
def f_X11_fraction_L6 : Nat → St → Int64 → Int64 → Int64 → Int64 → Option (St)
  | 0 => fun _ _ _ _ _ => none
  | n + 1 => f_X11_fraction_b6 (f_X11_fraction_L6 n)
def f_X11_fraction (σ : St) (x1 : Int64) (x3 : Int64) : Option (St) := f_X11_fraction_L6 FU σ x1 x3 x1 x3
abbrev rm_X11_fraction : Room := { frames := 0, cells := 0, slots := 0, locals := 0 }
set_option maxHeartbeats 4000000 in
set_option maxRecDepth 100000 in
theorem c_X11_fraction (l : Launch) (D : va_G) (ca : Nat → ClassId) (ad : Nat → Nat) (σ : St) (x1 : Int64) (x3 : Int64) (sz : Nat) (out : St) (hf : f_X11_fraction σ x1 x3 = some out) : Met l yX11_fraction (.code yX11_fraction cX11_fraction 11 none :: WL) rm_X11_fraction (PreC D ca (MW ca ad σ) sz [.ref (ad 0), .long x1, .long x3]) (PostV D (va_A (MW ca ad σ) sz) (MW ca ad out)) 0 0 (va_A (MW ca ad σ) sz) := by
  refine Met.ofW (cc := cX11_fraction) (maxL := 11) (ret := none) (by decide) rfl ?_
  intro p e s m args below meth c s₁ B hml hv
  obtain ⟨rfl, hsz, hP, hK, hD, hN⟩ := hv
  subst hsz
  have C := Cx.mk (own := RX11) B hml rfl hK hN (ws := (MW ca ad σ))
  have w : Wd (va_A (MW ca ad σ) s.heap.size) s D (MW ca ad σ) s.heap [] := ⟨hP, hD.self, va_S.rf⟩
  have hl := lv_entry ([.ref (ad 0), .long x1, .long x3]) (n := 11) (Nat.le_of_ble_eq_true rfl)
  rw [lg_entry_eq]
  generalize (lg_sl ([.ref (ad 0), .long x1, .long x3]) ++ List.replicate (11 - (lg_sl ([.ref (ad 0), .long x1, .long x3])).length) Slot.unset).toArray = ls at hl ⊢
  have hl : lv_has ls 11 [(0, .ref (ad 0)), (1, .long x1), (3, .long x3)] := hl
  change W p l e rm_X11_fraction s m _ below meth c _ [] 0 0 _ _
  clear B hP hD hK hN hml
  generalize va_A (MW ca ad σ) s.heap.size = A at C w ⊢
  generalize ([.ref (ad 0), .long x1, .long x3] : List Value).toArray = av at C ⊢
  obtain ⟨Q, hQ⟩ : ∃ Q, Q = MQ below (PostV D A (MW ca ad out)) av s 0 0 A := ⟨_, rfl⟩
  rw [← hQ]
  have hx := C.1
  have hb := C.2.1
  have L6 : ∀ (n6 : Nat) (σ : St) (x1 : Int64) (x3 : Int64) (x5 : Int64) (x7 : Int64), f_X11_fraction_L6 n6 σ x1 x3 x5 x7 = some out → Bk p l e rm_X11_fraction s m av below meth c A D 11 Q (MW ca ad σ) 6 [(0, .ref (ad 0)), (1, .long x1), (3, .long x3), (5, .long x5), (7, .long x7)] [] := by
    intro n6
    induction n6 with
    | zero => intro σ x1 x3 x5 x7 h; exact absurd h (by simp [f_X11_fraction_L6])
    | succ n6 ih6 =>
      intro σ x1 x3 x5 x7 h H locs ls w hl
      change f_X11_fraction_b6 (f_X11_fraction_L6 n6) σ x1 x3 x5 x7 = some out at h
      unfold f_X11_fraction_b6 at h
      refine lv_lload hx hb dX11_fraction_6 (lv_at hl 4 rfl) ?_
      refine lv_lconst (v := 0) hx hb dX11_fraction_8 (by decide) ?_
      refine W.lcmp hx hb dX11_fraction_9 ?_
      refine lv_if_eq (tgt := 31) hx hb dX11_fraction_10 (by decide) (fun c1 => ?_) (fun c1 => ?_)
      · have h := it_t h c1
        refine lv_aload_n hx hb dX11_fraction_31 rfl (lv_at hl 0 rfl) ?_
        refine lv_lload_n hx hb dX11_fraction_32 rfl (lv_at hl 1 rfl) ?_
        refine lv_lload hx hb dX11_fraction_33 (lv_at hl 3 rfl) ?_
        obtain ⟨n2, h⟩ := dl_t h
        refine lv_ldiv hx hb dX11_fraction_35 n2 ?_
        refine pM0_4 C w wl_884 dX11_fraction_36 (fun H locs w => ?_)
        refine lv_aload_n hx hb dX11_fraction_39 rfl (lv_at hl 0 rfl) ?_
        refine lv_lload_n hx hb dX11_fraction_40 rfl (lv_at hl 2 rfl) ?_
        refine lv_lload hx hb dX11_fraction_41 (lv_at hl 3 rfl) ?_
        obtain ⟨n3, h⟩ := dl_t h
        refine lv_ldiv hx hb dX11_fraction_43 n3 ?_
        refine pM0_5 C w wl_98 dX11_fraction_44 (fun H locs w => ?_)
        rw [hQ]
        exact rV (F := MW ca ad) C w h dX11_fraction_47
      · have h := it_f h c1
        refine lv_lload hx hb dX11_fraction_13 (lv_at hl 3 rfl) ?_
        refine lv_lload hx hb dX11_fraction_15 (lv_at hl 4 rfl) ?_
        obtain ⟨n4, h⟩ := dl_t h
        refine lv_lrem hx hb dX11_fraction_17 n4 ?_
        refine lv_lstore (lv' := [(9, .long (x5 - x5 / x7 * x7)), (0, .ref (ad 0)), (1, .long x1), (3, .long x3), (5, .long x5), (7, .long x7)]) hx hb dX11_fraction_18 hl (by decide) rfl (fun ls hl => ?_)
        refine lv_lload hx hb dX11_fraction_20 (lv_at hl 5 rfl) ?_
        refine lv_lstore (lv' := [(5, .long x7), (9, .long (x5 - x5 / x7 * x7)), (0, .ref (ad 0)), (1, .long x1), (3, .long x3), (7, .long x7)]) hx hb dX11_fraction_22 hl (by decide) rfl (fun ls hl => ?_)
        refine lv_lload hx hb dX11_fraction_24 (lv_at hl 1 rfl) ?_
        refine lv_lstore (lv' := [(7, .long (x5 - x5 / x7 * x7)), (5, .long x7), (9, .long (x5 - x5 / x7 * x7)), (0, .ref (ad 0)), (1, .long x1), (3, .long x3)]) hx hb dX11_fraction_26 hl (by decide) rfl (fun ls hl => ?_)
        refine lv_goto (tgt := 6) hx hb dX11_fraction_28 (by decide) ?_
        exact ih6 _ _ _ _ _ h _ _ _ w (lv_sub hl [3, 4, 5, 1, 0] rfl)
  have h := hf
  unfold f_X11_fraction at h
  refine lv_lload_n hx hb dX11_fraction_0 rfl (lv_at hl 1 rfl) ?_
  refine lv_lstore (lv' := [(5, .long x1), (0, .ref (ad 0)), (1, .long x1), (3, .long x3)]) hx hb dX11_fraction_1 hl (by decide) rfl (fun ls hl => ?_)
  refine lv_lload_n hx hb dX11_fraction_3 rfl (lv_at hl 3 rfl) ?_
  refine lv_lstore (lv' := [(7, .long x3), (5, .long x1), (0, .ref (ad 0)), (1, .long x1), (3, .long x3)]) hx hb dX11_fraction_4 hl (by decide) rfl (fun ls hl => ?_)
  exact L6 FU _ _ _ _ _ h _ _ _ w (lv_sub hl [2, 3, 4, 1, 0] rfl)
theorem hd_X11_storms : yX11_storms.cls = RX11 ∧ yX11_storms.cls ≠ "java/lang/invoke/MethodHandle" ∧ yX11_storms.cls ≠ "java/lang/invoke/VarHandle" ∧ (parseMethodDescriptor yX11_storms.desc).map (fun d => d.parameters.length) = some 3 := by decide +kernel
def f_X11_storms_b28 (σ : St) : Option (Int32 × St) := (f_X11_bad σ (-2 : Int32)).bind fun q1 => some (q1.1, q1.2)
def f_X11_storms_b82 (K64 : St → Int32 → Int64 → Int64 → Int32 → Option (Int32 × St)) (σ : St) (x3 : Int32) (x4 : Int64) (x6 : Int64) (x8 : Int32) (y0 : Int32) (y1 : Int32) : Option (Int32 × St) := (f_X11_signs y0).bind fun q1 => if q1 ≤ y1 then ((f_X11_fraction σ x4 x6).bind fun q2 => some ((1 : Int32), q2)) else (K64 σ x3 (x4 * (((10 : Int32) - x3)).toInt64) (x6 * (10 : Int64)) (x8 + (1 : Int32)))
def f_X11_storms_b64 (K64 : St → Int32 → Int64 → Int64 → Int32 → Option (Int32 × St)) (σ : St) (x3 : Int32) (x4 : Int64) (x6 : Int64) (x8 : Int32) : Option (Int32 × St) := if (σ.1 11) = (-1 : Int32) then (f_X11_storms_b82 K64 σ x3 x4 x6 x8 (0 : Int32) x8) else (f_X11_storms_b82 K64 σ x3 x4 x6 x8 (σ.1 11) x8)
def f_X11_storms_L64 : Nat → St → Int32 → Int64 → Int64 → Int32 → Option (Int32 × St)
  | 0 => fun _ _ _ _ _ => none
  | n + 1 => f_X11_storms_b64 (f_X11_storms_L64 n)
def f_X11_storms_b56 (σ : St) (x3 : Int32) (y0 : Int64) : Option (Int32 × St) := f_X11_storms_L64 FU σ x3 y0 (1 : Int64) (0 : Int32)
def f_X11_storms (σ : St) (x1 : Int32) (x2 : Int32) (x3 : Int32) : Option (Int32 × St) := (f_X11_isTree σ x1).bind fun q1 => if q1.1 = 0 then (f_X11_storms_b28 q1.2) else ((f_X11_isTree q1.2 x2).bind fun q2 => if q2.1 = 0 then (f_X11_storms_b28 q2.2) else ((f_X11_in x3.toInt64 (0 : Int64) (10 : Int64)).bind fun q3 => if q3 = 0 then (f_X11_storms_b28 q2.2) else ((f_X11_laySoonest q2.2 x1 x2 (0 : Int32) (0 : Int32)).bind fun q4 => if (q4.1 11) = (-1 : Int32) then (f_X11_storms_b56 q4 x3 (0 : Int64)) else (f_X11_storms_b56 q4 x3 (1 : Int64)))))
abbrev rm_X11_storms : Room := { frames := 5, cells := 0, slots := 0, locals := 300 }
set_option maxHeartbeats 4000000 in
set_option maxRecDepth 100000 in
theorem c_X11_storms (l : Launch) (D : va_G) (ca : Nat → ClassId) (ad : Nat → Nat) (σ : St) (x1 : Int32) (x2 : Int32) (x3 : Int32) (sz : Nat) (out : Int32 × St) (hf : f_X11_storms σ x1 x2 x3 = some out) : Met l yX11_storms (.code yX11_storms cX11_storms 9 (some .int) :: WL) rm_X11_storms (PreC D ca (MW ca ad σ) sz [.ref (ad 0), .int x1, .int x2, .int x3]) (PostI D (va_A (MW ca ad σ) sz) (MW ca ad out.2) out.1) 0 0 (va_A (MW ca ad σ) sz) := by
  refine Met.ofW (cc := cX11_storms) (maxL := 9) (ret := (some .int)) (by decide) rfl ?_
  intro p e s m args below meth c s₁ B hml hv
  obtain ⟨rfl, hsz, hP, hK, hD, hN⟩ := hv
  subst hsz
  have C := Cx.mk (own := RX11) B hml rfl hK hN (ws := (MW ca ad σ))
  have w : Wd (va_A (MW ca ad σ) s.heap.size) s D (MW ca ad σ) s.heap [] := ⟨hP, hD.self, va_S.rf⟩
  have hl := lv_entry ([.ref (ad 0), .int x1, .int x2, .int x3]) (n := 9) (Nat.le_of_ble_eq_true rfl)
  rw [lg_entry_eq]
  generalize (lg_sl ([.ref (ad 0), .int x1, .int x2, .int x3]) ++ List.replicate (9 - (lg_sl ([.ref (ad 0), .int x1, .int x2, .int x3])).length) Slot.unset).toArray = ls at hl ⊢
  have hl : lv_has ls 9 [(0, .ref (ad 0)), (1, .int x1), (2, .int x2), (3, .int x3)] := hl
  change W p l e rm_X11_storms s m _ below meth c _ [] 0 0 _ _
  clear B hP hD hK hN hml
  generalize va_A (MW ca ad σ) s.heap.size = A at C w ⊢
  generalize ([.ref (ad 0), .int x1, .int x2, .int x3] : List Value).toArray = av at C ⊢
  obtain ⟨Q, hQ⟩ : ∃ Q, Q = MQ below (PostI D A (MW ca ad out.2) out.1) av s 0 0 A := ⟨_, rfl⟩
  rw [← hQ]
  have hx := C.1
  have hb := C.2.1
  have b28 : ∀ (σ : St), f_X11_storms_b28 σ = some out → Bk p l e rm_X11_storms s m av below meth c A D 9 Q (MW ca ad σ) 28 [(0, .ref (ad 0))] [] := by
    intro σ h H locs ls w hl
    unfold f_X11_storms_b28 at h
    refine lv_aload_n hx hb dX11_storms_28 rfl (lv_at hl 0 rfl) ?_
    refine lv_bipush (v := -2) hx hb dX11_storms_29 (by decide) ?_
    obtain ⟨q1, hq1, h⟩ := ob_t h
    refine res_i C w (run_V (As := [.int (-2 : Int32)]) (rest := []) C w hl.1 (recvM0 C w) (c_X11_bad l D ca ad _ (-2 : Int32) _ q1 hq1) rfl rfl wl_140 wl_141 wl_142 wl_5 wl_143 hd_X11_bad rfl ⟨Nat.le_of_ble_eq_true rfl, Nat.le_of_ble_eq_true rfl⟩ rfl (Nat.le_of_ble_eq_true rfl) dX11_storms_31) (fun H locs w => ?_)
    rw [hQ]
    exact rI (F := MW ca ad) C w h dX11_storms_34
  have L64 : ∀ (n64 : Nat) (σ : St) (x3 : Int32) (x4 : Int64) (x6 : Int64) (x8 : Int32), f_X11_storms_L64 n64 σ x3 x4 x6 x8 = some out → Bk p l e rm_X11_storms s m av below meth c A D 9 Q (MW ca ad σ) 64 [(0, .ref (ad 0)), (3, .int x3), (4, .long x4), (6, .long x6), (8, .int x8)] [] := by
    intro n64
    induction n64 with
    | zero => intro σ x3 x4 x6 x8 h; exact absurd h (by simp [f_X11_storms_L64])
    | succ n64 ih64 =>
      have b82 : ∀ (σ : St) (x3 : Int32) (x4 : Int64) (x6 : Int64) (x8 : Int32) (y0 : Int32) (y1 : Int32), f_X11_storms_b82 (f_X11_storms_L64 n64) σ x3 x4 x6 x8 y0 y1 = some out → Bk p l e rm_X11_storms s m av below meth c A D 9 Q (MW ca ad σ) 82 [(0, .ref (ad 0)), (3, .int x3), (4, .long x4), (6, .long x6), (8, .int x8)] [.int y0, .int y1] := by
        intro σ x3 x4 x6 x8 y0 y1 h H locs ls w hl
        unfold f_X11_storms_b82 at h
        obtain ⟨q1, hq1, h⟩ := ob_t h
        refine res_i C w (run_S (As := [.int y0]) (rest := [.int y1]) C w hl.1 (c_X11_signs l D ca _ y0 _ q1 hq1) rfl rfl wl_707 wl_708 wl_5 wl_709 hd_X11_signs rfl ⟨Nat.le_of_ble_eq_true rfl, Nat.le_of_ble_eq_true rfl⟩ rfl (Nat.le_of_ble_eq_true rfl) dX11_storms_82) (fun H locs w => ?_)
        refine lv_icmp_ge (tgt := 112) hx hb dX11_storms_85 (by decide) (fun c1 => ?_) (fun c1 => ?_)
        · have h := it_t h c1
          refine lv_aload_n hx hb dX11_storms_112 rfl (lv_at hl 0 rfl) ?_
          refine lv_lload hx hb dX11_storms_113 (lv_at hl 2 rfl) ?_
          refine lv_lload hx hb dX11_storms_115 (lv_at hl 3 rfl) ?_
          obtain ⟨q2, hq2, h⟩ := ob_t h
          refine res_v C w (run_V (As := [.long x4, .long x6]) (rest := []) C w hl.1 (recvM0 C w) (c_X11_fraction l D ca ad _ x4 x6 _ q2 hq2) rfl rfl wl_880 wl_881 wl_882 wl_5 wl_883 hd_X11_fraction rfl ⟨Nat.le_of_ble_eq_true rfl, Nat.le_of_ble_eq_true rfl⟩ rfl (Nat.le_of_ble_eq_true rfl) dX11_storms_117) (fun H locs w => ?_)
          refine lv_iconst (v := 1) hx hb dX11_storms_120 (by decide) ?_
          rw [hQ]
          exact rI (F := MW ca ad) C w h dX11_storms_121
        · have h := it_f h c1
          refine lv_lload hx hb dX11_storms_88 (lv_at hl 2 rfl) ?_
          refine lv_bipush (v := 10) hx hb dX11_storms_90 (by decide) ?_
          refine lv_iload_n hx hb dX11_storms_92 rfl (lv_at hl 1 rfl) ?_
          refine lv_isub hx hb dX11_storms_93 ?_
          refine lv_i2l hx hb dX11_storms_94 rfl ?_
          refine lv_lmul hx hb dX11_storms_95 ?_
          refine lv_lstore (lv' := [(4, .long (x4 * (((10 : Int32) - x3)).toInt64)), (0, .ref (ad 0)), (3, .int x3), (6, .long x6), (8, .int x8)]) hx hb dX11_storms_96 hl (by decide) rfl (fun ls hl => ?_)
          refine lv_lload hx hb dX11_storms_98 (lv_at hl 3 rfl) ?_
          refine lv_ldc2 (v := 10) hx hb C.ow (C.ts _ wl_879) dX11_storms_100 ?_
          refine lv_lmul hx hb dX11_storms_103 ?_
          refine lv_lstore (lv' := [(6, .long (x6 * (10 : Int64))), (4, .long (x4 * (((10 : Int32) - x3)).toInt64)), (0, .ref (ad 0)), (3, .int x3), (8, .int x8)]) hx hb dX11_storms_104 hl (by decide) rfl (fun ls hl => ?_)
          refine lv_iinc (v := (x8 + (1 : Int32))) (lv' := [(8, .int (x8 + (1 : Int32))), (6, .long (x6 * (10 : Int64))), (4, .long (x4 * (((10 : Int32) - x3)).toInt64)), (0, .ref (ad 0)), (3, .int x3)]) hx hb dX11_storms_106 hl (k := 4) rfl rfl (by decide) rfl (fun ls hl => ?_)
          refine lv_goto (tgt := 64) hx hb dX11_storms_109 (by decide) ?_
          exact ih64 _ _ _ _ _ h _ _ _ w (lv_sub hl [3, 4, 2, 1, 0] rfl)
      intro σ x3 x4 x6 x8 h H locs ls w hl
      change f_X11_storms_b64 (f_X11_storms_L64 n64) σ x3 x4 x6 x8 = some out at h
      unfold f_X11_storms_b64 at h
      refine lv_iload hx hb dX11_storms_64 (lv_at hl 4 rfl) ?_
      refine lv_aload_n hx hb dX11_storms_66 rfl (lv_at hl 0 rfl) ?_
      refine gM0_11 (v := (σ.1 11)) C w rfl wl_622 dX11_storms_67 ?_
      refine lv_iconst (v := -1) hx hb dX11_storms_70 (by decide) ?_
      refine lv_icmp_ne (tgt := 78) hx hb dX11_storms_71 (by decide) (fun c1 => ?_) (fun c1 => ?_)
      · have h := it_f h c1
        refine lv_aload_n hx hb dX11_storms_78 rfl (lv_at hl 0 rfl) ?_
        refine gM0_11 (v := (σ.1 11)) C w rfl wl_622 dX11_storms_79 ?_
        exact b82 _ _ _ _ _ _ _ h _ _ _ w (lv_sub hl [0, 1, 2, 3, 4] rfl)
      · have h := it_t h c1
        refine lv_iconst (v := 0) hx hb dX11_storms_74 (by decide) ?_
        refine lv_goto (tgt := 82) hx hb dX11_storms_75 (by decide) ?_
        exact b82 _ _ _ _ _ _ _ h _ _ _ w (lv_sub hl [0, 1, 2, 3, 4] rfl)
  have b56 : ∀ (σ : St) (x3 : Int32) (y0 : Int64), f_X11_storms_b56 σ x3 y0 = some out → Bk p l e rm_X11_storms s m av below meth c A D 9 Q (MW ca ad σ) 56 [(0, .ref (ad 0)), (3, .int x3)] [.long y0] := by
    intro σ x3 y0 h H locs ls w hl
    unfold f_X11_storms_b56 at h
    refine lv_lstore (lv' := [(4, .long y0), (0, .ref (ad 0)), (3, .int x3)]) hx hb dX11_storms_56 hl (by decide) rfl (fun ls hl => ?_)
    refine lv_lconst (v := 1) hx hb dX11_storms_58 (by decide) ?_
    refine lv_lstore (lv' := [(6, .long (1 : Int64)), (4, .long y0), (0, .ref (ad 0)), (3, .int x3)]) hx hb dX11_storms_59 hl (by decide) rfl (fun ls hl => ?_)
    refine lv_iconst (v := 0) hx hb dX11_storms_61 (by decide) ?_
    refine lv_istore (lv' := [(8, .int (0 : Int32)), (6, .long (1 : Int64)), (4, .long y0), (0, .ref (ad 0)), (3, .int x3)]) hx hb dX11_storms_62 hl (by decide) rfl (fun ls hl => ?_)
    exact L64 FU _ _ _ _ _ h _ _ _ w (lv_sub hl [3, 4, 2, 1, 0] rfl)
  have h := hf
  unfold f_X11_storms at h
  refine lv_aload_n hx hb dX11_storms_0 rfl (lv_at hl 0 rfl) ?_
  refine lv_iload_n hx hb dX11_storms_1 rfl (lv_at hl 1 rfl) ?_
  obtain ⟨q1, hq1, h⟩ := ob_t h
  refine res_i C w (run_V (As := [.int x1]) (rest := []) C w hl.1 (recvM0 C w) (c_X11_isTree l D ca ad _ x1 _ q1 hq1) rfl rfl wl_188 wl_189 wl_190 wl_5 wl_191 hd_X11_isTree rfl ⟨Nat.le_of_ble_eq_true rfl, Nat.le_of_ble_eq_true rfl⟩ rfl (Nat.le_of_ble_eq_true rfl) dX11_storms_2) (fun H locs w => ?_)
  refine lv_if_eq (tgt := 28) hx hb dX11_storms_5 (by decide) (fun c1 => ?_) (fun c1 => ?_)
  · have h := it_t h c1
    exact b28 _ h _ _ _ w (lv_sub hl [0] rfl)
  · have h := it_f h c1
    refine lv_aload_n hx hb dX11_storms_8 rfl (lv_at hl 0 rfl) ?_
    refine lv_iload_n hx hb dX11_storms_9 rfl (lv_at hl 2 rfl) ?_
    obtain ⟨q2, hq2, h⟩ := ob_t h
    refine res_i C w (run_V (As := [.int x2]) (rest := []) C w hl.1 (recvM0 C w) (c_X11_isTree l D ca ad _ x2 _ q2 hq2) rfl rfl wl_188 wl_189 wl_190 wl_5 wl_191 hd_X11_isTree rfl ⟨Nat.le_of_ble_eq_true rfl, Nat.le_of_ble_eq_true rfl⟩ rfl (Nat.le_of_ble_eq_true rfl) dX11_storms_10) (fun H locs w => ?_)
    refine lv_if_eq (tgt := 28) hx hb dX11_storms_13 (by decide) (fun c2 => ?_) (fun c2 => ?_)
    · have h := it_t h c2
      exact b28 _ h _ _ _ w (lv_sub hl [0] rfl)
    · have h := it_f h c2
      refine lv_iload_n hx hb dX11_storms_16 rfl (lv_at hl 3 rfl) ?_
      refine lv_i2l hx hb dX11_storms_17 rfl ?_
      refine lv_lconst (v := 0) hx hb dX11_storms_18 (by decide) ?_
      refine lv_ldc2 (v := 10) hx hb C.ow (C.ts _ wl_879) dX11_storms_19 ?_
      obtain ⟨q3, hq3, h⟩ := ob_t h
      refine res_i C w (run_S (As := [.long x3.toInt64, .long (0 : Int64), .long (10 : Int64)]) (rest := []) C w hl.1 (c_X11_in l D ca _ x3.toInt64 (0 : Int64) (10 : Int64) _ q3 hq3) rfl rfl wl_137 wl_138 wl_5 wl_139 hd_X11_in rfl ⟨Nat.le_of_ble_eq_true rfl, Nat.le_of_ble_eq_true rfl⟩ rfl (Nat.le_of_ble_eq_true rfl) dX11_storms_22) (fun H locs w => ?_)
      refine lv_if_ne (tgt := 35) hx hb dX11_storms_25 (by decide) (fun c3 => ?_) (fun c3 => ?_)
      · have h := it_f h c3
        refine lv_aload_n hx hb dX11_storms_35 rfl (lv_at hl 0 rfl) ?_
        refine lv_iload_n hx hb dX11_storms_36 rfl (lv_at hl 1 rfl) ?_
        refine lv_iload_n hx hb dX11_storms_37 rfl (lv_at hl 2 rfl) ?_
        refine lv_iconst (v := 0) hx hb dX11_storms_38 (by decide) ?_
        refine lv_iconst (v := 0) hx hb dX11_storms_39 (by decide) ?_
        obtain ⟨q4, hq4, h⟩ := ob_t h
        refine res_v C w (run_V (As := [.int x1, .int x2, .int (0 : Int32), .int (0 : Int32)]) (rest := []) C w hl.1 (recvM0 C w) (c_X11_laySoonest l D ca ad _ x1 x2 (0 : Int32) (0 : Int32) _ q4 hq4) rfl rfl wl_625 wl_626 wl_627 wl_5 wl_628 hd_X11_laySoonest rfl ⟨Nat.le_of_ble_eq_true rfl, Nat.le_of_ble_eq_true rfl⟩ rfl (Nat.le_of_ble_eq_true rfl) dX11_storms_40) (fun H locs w => ?_)
        refine lv_aload_n hx hb dX11_storms_43 rfl (lv_at hl 0 rfl) ?_
        refine gM0_11 (v := (q4.1 11)) C w rfl wl_622 dX11_storms_44 ?_
        refine lv_iconst (v := -1) hx hb dX11_storms_47 (by decide) ?_
        refine lv_icmp_ne (tgt := 55) hx hb dX11_storms_48 (by decide) (fun c4 => ?_) (fun c4 => ?_)
        · have h := it_f h c4
          refine lv_lconst (v := 1) hx hb dX11_storms_55 (by decide) ?_
          exact b56 _ _ _ h _ _ _ w (lv_sub hl [0, 3] rfl)
        · have h := it_t h c4
          refine lv_lconst (v := 0) hx hb dX11_storms_51 (by decide) ?_
          refine lv_goto (tgt := 56) hx hb dX11_storms_52 (by decide) ?_
          exact b56 _ _ _ h _ _ _ w (lv_sub hl [0, 3] rfl)
      · have h := it_t h c3
        exact b28 _ h _ _ _ w (lv_sub hl [0] rfl)
theorem hd_X11_forests : yX11_forests.cls = RX11 ∧ yX11_forests.cls ≠ "java/lang/invoke/MethodHandle" ∧ yX11_forests.cls ≠ "java/lang/invoke/VarHandle" ∧ (parseMethodDescriptor yX11_forests.desc).map (fun d => d.parameters.length) = some 3 := by decide +kernel
def f_X11_forests_b34 (σ : St) : Option (Int32 × St) := (f_X11_bad σ (-2 : Int32)).bind fun q1 => some (q1.1, q1.2)
def f_X11_forests_b176 (K66 : St → Int32 → Int32 → Int64 → Int32 → Int32 → Int32 → Option (Int32 × St)) (σ : St) (x2 : Int32) (x3 : Int32) (x4 : Int64) (x6 : Int32) (x8 : Int32) (y0 : Int32) (y1 : Int32) : Option (Int32 × St) := K66 σ x2 x3 x4 x6 (y1 + y0) (x8 + (1 : Int32))
def f_X11_forests_b155 (K66 : St → Int32 → Int32 → Int64 → Int32 → Int32 → Int32 → Option (Int32 × St)) (σ : St) (x2 : Int32) (x3 : Int32) (x4 : Int64) (x7 : Int32) (x8 : Int32) (y0 : Int32) (y1 : Int32) : Option (Int32 × St) := if (σ.1 12) = (-1 : Int32) then (f_X11_forests_b176 K66 σ x2 x3 x4 (y1 + y0) x8 (0 : Int32) x7) else (f_X11_forests_b176 K66 σ x2 x3 x4 (y1 + y0) x8 (σ.1 12) x7)
def f_X11_forests_b66 (K66 : St → Int32 → Int32 → Int64 → Int32 → Int32 → Int32 → Option (Int32 × St)) (σ : St) (x2 : Int32) (x3 : Int32) (x4 : Int64) (x6 : Int32) (x7 : Int32) (x8 : Int32) : Option (Int32 × St) := if x2 ≤ x8 then (if x3 = 0 then (some (x6, σ)) else (some (x7, σ))) else ((f_X11_many σ).bind fun q1 => if (q1.1).toInt64 = 0 then none else ((f_X11_many q1.2).bind fun q2 => if (q2.1).toInt64 = 0 then none else ((f_X11_laySoonest q2.2 (((((((x4 * (1103515245 : Int64)) + (12345 : Int64)) - ((x4 * (1103515245 : Int64)) + (12345 : Int64)) / (2147483648 : Int64) * (2147483648 : Int64)) / (65536 : Int64)) - ((((x4 * (1103515245 : Int64)) + (12345 : Int64)) - ((x4 * (1103515245 : Int64)) + (12345 : Int64)) / (2147483648 : Int64) * (2147483648 : Int64)) / (65536 : Int64)) / (q1.1).toInt64 * (q1.1).toInt64)).toInt32) ((((((((((x4 * (1103515245 : Int64)) + (12345 : Int64)) - ((x4 * (1103515245 : Int64)) + (12345 : Int64)) / (2147483648 : Int64) * (2147483648 : Int64)) * (1103515245 : Int64)) + (12345 : Int64)) - (((((x4 * (1103515245 : Int64)) + (12345 : Int64)) - ((x4 * (1103515245 : Int64)) + (12345 : Int64)) / (2147483648 : Int64) * (2147483648 : Int64)) * (1103515245 : Int64)) + (12345 : Int64)) / (2147483648 : Int64) * (2147483648 : Int64)) / (65536 : Int64)) - (((((((x4 * (1103515245 : Int64)) + (12345 : Int64)) - ((x4 * (1103515245 : Int64)) + (12345 : Int64)) / (2147483648 : Int64) * (2147483648 : Int64)) * (1103515245 : Int64)) + (12345 : Int64)) - (((((x4 * (1103515245 : Int64)) + (12345 : Int64)) - ((x4 * (1103515245 : Int64)) + (12345 : Int64)) / (2147483648 : Int64) * (2147483648 : Int64)) * (1103515245 : Int64)) + (12345 : Int64)) / (2147483648 : Int64) * (2147483648 : Int64)) / (65536 : Int64)) / (q2.1).toInt64 * (q2.1).toInt64)).toInt32) (0 : Int32) (0 : Int32)).bind fun q3 => if (q3.1 12) = (-1 : Int32) then (f_X11_forests_b155 K66 q3 x2 x3 ((((((x4 * (1103515245 : Int64)) + (12345 : Int64)) - ((x4 * (1103515245 : Int64)) + (12345 : Int64)) / (2147483648 : Int64) * (2147483648 : Int64)) * (1103515245 : Int64)) + (12345 : Int64)) - (((((x4 * (1103515245 : Int64)) + (12345 : Int64)) - ((x4 * (1103515245 : Int64)) + (12345 : Int64)) / (2147483648 : Int64) * (2147483648 : Int64)) * (1103515245 : Int64)) + (12345 : Int64)) / (2147483648 : Int64) * (2147483648 : Int64)) x7 x8 (0 : Int32) x6) else (f_X11_forests_b155 K66 q3 x2 x3 ((((((x4 * (1103515245 : Int64)) + (12345 : Int64)) - ((x4 * (1103515245 : Int64)) + (12345 : Int64)) / (2147483648 : Int64) * (2147483648 : Int64)) * (1103515245 : Int64)) + (12345 : Int64)) - (((((x4 * (1103515245 : Int64)) + (12345 : Int64)) - ((x4 * (1103515245 : Int64)) + (12345 : Int64)) / (2147483648 : Int64) * (2147483648 : Int64)) * (1103515245 : Int64)) + (12345 : Int64)) / (2147483648 : Int64) * (2147483648 : Int64)) x7 x8 (1 : Int32) x6))))
def f_X11_forests_L66 : Nat → St → Int32 → Int32 → Int64 → Int32 → Int32 → Int32 → Option (Int32 × St)
  | 0 => fun _ _ _ _ _ _ _ => none
  | n + 1 => f_X11_forests_b66 (f_X11_forests_L66 n)
def f_X11_forests (σ : St) (x1 : Int32) (x2 : Int32) (x3 : Int32) : Option (Int32 × St) := (f_X11_in x1.toInt64 (0 : Int64) (999999 : Int64)).bind fun q1 => if q1 = 0 then (f_X11_forests_b34 σ) else ((f_X11_in x2.toInt64 (0 : Int64) (60 : Int64)).bind fun q2 => if q2 = 0 then (f_X11_forests_b34 σ) else ((f_X11_in x3.toInt64 (0 : Int64) (1 : Int64)).bind fun q3 => if q3 = 0 then (f_X11_forests_b34 σ) else ((f_X11_many σ).bind fun q4 => if q4.1 = 0 then ((f_X11_no q4.2).bind fun q5 => some (q5.1, q5.2)) else (f_X11_forests_L66 FU q4.2 x2 x3 x1.toInt64 (0 : Int32) (0 : Int32) (0 : Int32)))))
abbrev rm_X11_forests : Room := { frames := 5, cells := 0, slots := 0, locals := 300 }
set_option maxHeartbeats 4000000 in
set_option maxRecDepth 100000 in
theorem c_X11_forests (l : Launch) (D : va_G) (ca : Nat → ClassId) (ad : Nat → Nat) (σ : St) (x1 : Int32) (x2 : Int32) (x3 : Int32) (sz : Nat) (out : Int32 × St) (hf : f_X11_forests σ x1 x2 x3 = some out) : Met l yX11_forests (.code yX11_forests cX11_forests 10 (some .int) :: WL) rm_X11_forests (PreC D ca (MW ca ad σ) sz [.ref (ad 0), .int x1, .int x2, .int x3]) (PostI D (va_A (MW ca ad σ) sz) (MW ca ad out.2) out.1) 0 0 (va_A (MW ca ad σ) sz) := by
  refine Met.ofW (cc := cX11_forests) (maxL := 10) (ret := (some .int)) (by decide) rfl ?_
  intro p e s m args below meth c s₁ B hml hv
  obtain ⟨rfl, hsz, hP, hK, hD, hN⟩ := hv
  subst hsz
  have C := Cx.mk (own := RX11) B hml rfl hK hN (ws := (MW ca ad σ))
  have w : Wd (va_A (MW ca ad σ) s.heap.size) s D (MW ca ad σ) s.heap [] := ⟨hP, hD.self, va_S.rf⟩
  have hl := lv_entry ([.ref (ad 0), .int x1, .int x2, .int x3]) (n := 10) (Nat.le_of_ble_eq_true rfl)
  rw [lg_entry_eq]
  generalize (lg_sl ([.ref (ad 0), .int x1, .int x2, .int x3]) ++ List.replicate (10 - (lg_sl ([.ref (ad 0), .int x1, .int x2, .int x3])).length) Slot.unset).toArray = ls at hl ⊢
  have hl : lv_has ls 10 [(0, .ref (ad 0)), (1, .int x1), (2, .int x2), (3, .int x3)] := hl
  change W p l e rm_X11_forests s m _ below meth c _ [] 0 0 _ _
  clear B hP hD hK hN hml
  generalize va_A (MW ca ad σ) s.heap.size = A at C w ⊢
  generalize ([.ref (ad 0), .int x1, .int x2, .int x3] : List Value).toArray = av at C ⊢
  obtain ⟨Q, hQ⟩ : ∃ Q, Q = MQ below (PostI D A (MW ca ad out.2) out.1) av s 0 0 A := ⟨_, rfl⟩
  rw [← hQ]
  have hx := C.1
  have hb := C.2.1
  have b34 : ∀ (σ : St), f_X11_forests_b34 σ = some out → Bk p l e rm_X11_forests s m av below meth c A D 10 Q (MW ca ad σ) 34 [(0, .ref (ad 0))] [] := by
    intro σ h H locs ls w hl
    unfold f_X11_forests_b34 at h
    refine lv_aload_n hx hb dX11_forests_34 rfl (lv_at hl 0 rfl) ?_
    refine lv_bipush (v := -2) hx hb dX11_forests_35 (by decide) ?_
    obtain ⟨q1, hq1, h⟩ := ob_t h
    refine res_i C w (run_V (As := [.int (-2 : Int32)]) (rest := []) C w hl.1 (recvM0 C w) (c_X11_bad l D ca ad _ (-2 : Int32) _ q1 hq1) rfl rfl wl_140 wl_141 wl_142 wl_5 wl_143 hd_X11_bad rfl ⟨Nat.le_of_ble_eq_true rfl, Nat.le_of_ble_eq_true rfl⟩ rfl (Nat.le_of_ble_eq_true rfl) dX11_forests_37) (fun H locs w => ?_)
    rw [hQ]
    exact rI (F := MW ca ad) C w h dX11_forests_40
  have L66 : ∀ (n66 : Nat) (σ : St) (x2 : Int32) (x3 : Int32) (x4 : Int64) (x6 : Int32) (x7 : Int32) (x8 : Int32), f_X11_forests_L66 n66 σ x2 x3 x4 x6 x7 x8 = some out → Bk p l e rm_X11_forests s m av below meth c A D 10 Q (MW ca ad σ) 66 [(0, .ref (ad 0)), (2, .int x2), (3, .int x3), (4, .long x4), (6, .int x6), (7, .int x7), (8, .int x8)] [] := by
    intro n66
    induction n66 with
    | zero => intro σ x2 x3 x4 x6 x7 x8 h; exact absurd h (by simp [f_X11_forests_L66])
    | succ n66 ih66 =>
      have b176 : ∀ (σ : St) (x2 : Int32) (x3 : Int32) (x4 : Int64) (x6 : Int32) (x8 : Int32) (y0 : Int32) (y1 : Int32), f_X11_forests_b176 (f_X11_forests_L66 n66) σ x2 x3 x4 x6 x8 y0 y1 = some out → Bk p l e rm_X11_forests s m av below meth c A D 10 Q (MW ca ad σ) 176 [(0, .ref (ad 0)), (2, .int x2), (3, .int x3), (4, .long x4), (6, .int x6), (8, .int x8)] [.int y0, .int y1] := by
        intro σ x2 x3 x4 x6 x8 y0 y1 h H locs ls w hl
        unfold f_X11_forests_b176 at h
        refine lv_iadd hx hb dX11_forests_176 ?_
        refine lv_istore (lv' := [(7, .int (y1 + y0)), (0, .ref (ad 0)), (2, .int x2), (3, .int x3), (4, .long x4), (6, .int x6), (8, .int x8)]) hx hb dX11_forests_177 hl (by decide) rfl (fun ls hl => ?_)
        refine lv_iinc (v := (x8 + (1 : Int32))) (lv' := [(8, .int (x8 + (1 : Int32))), (7, .int (y1 + y0)), (0, .ref (ad 0)), (2, .int x2), (3, .int x3), (4, .long x4), (6, .int x6)]) hx hb dX11_forests_179 hl (k := 6) rfl rfl (by decide) rfl (fun ls hl => ?_)
        refine lv_goto (tgt := 66) hx hb dX11_forests_182 (by decide) ?_
        exact ih66 _ _ _ _ _ _ _ h _ _ _ w (lv_sub hl [2, 3, 4, 5, 6, 1, 0] rfl)
      have b155 : ∀ (σ : St) (x2 : Int32) (x3 : Int32) (x4 : Int64) (x7 : Int32) (x8 : Int32) (y0 : Int32) (y1 : Int32), f_X11_forests_b155 (f_X11_forests_L66 n66) σ x2 x3 x4 x7 x8 y0 y1 = some out → Bk p l e rm_X11_forests s m av below meth c A D 10 Q (MW ca ad σ) 155 [(0, .ref (ad 0)), (2, .int x2), (3, .int x3), (4, .long x4), (7, .int x7), (8, .int x8)] [.int y0, .int y1] := by
        intro σ x2 x3 x4 x7 x8 y0 y1 h H locs ls w hl
        unfold f_X11_forests_b155 at h
        refine lv_iadd hx hb dX11_forests_155 ?_
        refine lv_istore (lv' := [(6, .int (y1 + y0)), (0, .ref (ad 0)), (2, .int x2), (3, .int x3), (4, .long x4), (7, .int x7), (8, .int x8)]) hx hb dX11_forests_156 hl (by decide) rfl (fun ls hl => ?_)
        refine lv_iload hx hb dX11_forests_158 (lv_at hl 5 rfl) ?_
        refine lv_aload_n hx hb dX11_forests_160 rfl (lv_at hl 1 rfl) ?_
        refine gM0_12 (v := (σ.1 12)) C w rfl wl_623 dX11_forests_161 ?_
        refine lv_iconst (v := -1) hx hb dX11_forests_164 (by decide) ?_
        refine lv_icmp_ne (tgt := 172) hx hb dX11_forests_165 (by decide) (fun c1 => ?_) (fun c1 => ?_)
        · have h := it_f h c1
          refine lv_aload_n hx hb dX11_forests_172 rfl (lv_at hl 1 rfl) ?_
          refine gM0_12 (v := (σ.1 12)) C w rfl wl_623 dX11_forests_173 ?_
          exact b176 _ _ _ _ _ _ _ _ h _ _ _ w (lv_sub hl [1, 2, 3, 4, 0, 6] rfl)
        · have h := it_t h c1
          refine lv_iconst (v := 0) hx hb dX11_forests_168 (by decide) ?_
          refine lv_goto (tgt := 176) hx hb dX11_forests_169 (by decide) ?_
          exact b176 _ _ _ _ _ _ _ _ h _ _ _ w (lv_sub hl [1, 2, 3, 4, 0, 6] rfl)
      intro σ x2 x3 x4 x6 x7 x8 h H locs ls w hl
      change f_X11_forests_b66 (f_X11_forests_L66 n66) σ x2 x3 x4 x6 x7 x8 = some out at h
      unfold f_X11_forests_b66 at h
      refine lv_iload hx hb dX11_forests_66 (lv_at hl 6 rfl) ?_
      refine lv_iload_n hx hb dX11_forests_68 rfl (lv_at hl 1 rfl) ?_
      refine lv_icmp_ge (tgt := 185) hx hb dX11_forests_69 (by decide) (fun c1 => ?_) (fun c1 => ?_)
      · have h := it_t h c1
        refine lv_iload_n hx hb dX11_forests_185 rfl (lv_at hl 2 rfl) ?_
        refine lv_if_ne (tgt := 194) hx hb dX11_forests_186 (by decide) (fun c2 => ?_) (fun c2 => ?_)
        · have h := it_f h c2
          refine lv_iload hx hb dX11_forests_194 (lv_at hl 5 rfl) ?_
          rw [hQ]
          exact rI (F := MW ca ad) C w h dX11_forests_196
        · have h := it_t h c2
          refine lv_iload hx hb dX11_forests_189 (lv_at hl 4 rfl) ?_
          refine lv_goto (tgt := 196) hx hb dX11_forests_191 (by decide) ?_
          rw [hQ]
          exact rI (F := MW ca ad) C w h dX11_forests_196
      · have h := it_f h c1
        refine lv_lload hx hb dX11_forests_72 (lv_at hl 3 rfl) ?_
        refine lv_ldc2 (v := 1103515245) hx hb C.ow (C.ts _ wl_902) dX11_forests_74 ?_
        refine lv_lmul hx hb dX11_forests_77 ?_
        refine lv_ldc2 (v := 12345) hx hb C.ow (C.ts _ wl_903) dX11_forests_78 ?_
        refine lv_ladd hx hb dX11_forests_81 ?_
        refine lv_ldc2 (v := 2147483648) hx hb C.ow (C.ts _ wl_904) dX11_forests_82 ?_
        refine lv_lrem hx hb dX11_forests_85 (by decide) ?_
        refine lv_lstore (lv' := [(4, .long (((x4 * (1103515245 : Int64)) + (12345 : Int64)) - ((x4 * (1103515245 : Int64)) + (12345 : Int64)) / (2147483648 : Int64) * (2147483648 : Int64))), (0, .ref (ad 0)), (2, .int x2), (3, .int x3), (6, .int x6), (7, .int x7), (8, .int x8)]) hx hb dX11_forests_86 hl (by decide) rfl (fun ls hl => ?_)
        refine lv_lload hx hb dX11_forests_88 (lv_at hl 0 rfl) ?_
        refine lv_ldc2 (v := 65536) hx hb C.ow (C.ts _ wl_905) dX11_forests_90 ?_
        refine lv_ldiv hx hb dX11_forests_93 (by decide) ?_
        refine lv_aload_n hx hb dX11_forests_94 rfl (lv_at hl 1 rfl) ?_
        obtain ⟨q1, hq1, h⟩ := ob_t h
        refine res_i C w (run_V (As := []) (rest := [.long ((((x4 * (1103515245 : Int64)) + (12345 : Int64)) - ((x4 * (1103515245 : Int64)) + (12345 : Int64)) / (2147483648 : Int64) * (2147483648 : Int64)) / (65536 : Int64))]) C w hl.1 (recvM0 C w) (c_X11_many l D ca ad _  _ q1 hq1) rfl rfl wl_144 wl_145 wl_146 wl_5 wl_147 hd_X11_many rfl ⟨Nat.le_of_ble_eq_true rfl, Nat.le_of_ble_eq_true rfl⟩ rfl (Nat.le_of_ble_eq_true rfl) dX11_forests_95) (fun H locs w => ?_)
        refine lv_i2l hx hb dX11_forests_98 rfl ?_
        obtain ⟨n3, h⟩ := dl_t h
        refine lv_lrem hx hb dX11_forests_99 n3 ?_
        refine lv_l2i hx hb dX11_forests_100 rfl ?_
        refine lv_istore (lv' := [(9, .int (((((((x4 * (1103515245 : Int64)) + (12345 : Int64)) - ((x4 * (1103515245 : Int64)) + (12345 : Int64)) / (2147483648 : Int64) * (2147483648 : Int64)) / (65536 : Int64)) - ((((x4 * (1103515245 : Int64)) + (12345 : Int64)) - ((x4 * (1103515245 : Int64)) + (12345 : Int64)) / (2147483648 : Int64) * (2147483648 : Int64)) / (65536 : Int64)) / (q1.1).toInt64 * (q1.1).toInt64)).toInt32)), (4, .long (((x4 * (1103515245 : Int64)) + (12345 : Int64)) - ((x4 * (1103515245 : Int64)) + (12345 : Int64)) / (2147483648 : Int64) * (2147483648 : Int64))), (0, .ref (ad 0)), (2, .int x2), (3, .int x3), (6, .int x6), (7, .int x7), (8, .int x8)]) hx hb dX11_forests_101 hl (by decide) rfl (fun ls hl => ?_)
        refine lv_lload hx hb dX11_forests_103 (lv_at hl 1 rfl) ?_
        refine lv_ldc2 (v := 1103515245) hx hb C.ow (C.ts _ wl_902) dX11_forests_105 ?_
        refine lv_lmul hx hb dX11_forests_108 ?_
        refine lv_ldc2 (v := 12345) hx hb C.ow (C.ts _ wl_903) dX11_forests_109 ?_
        refine lv_ladd hx hb dX11_forests_112 ?_
        refine lv_ldc2 (v := 2147483648) hx hb C.ow (C.ts _ wl_904) dX11_forests_113 ?_
        refine lv_lrem hx hb dX11_forests_116 (by decide) ?_
        refine lv_lstore (lv' := [(4, .long ((((((x4 * (1103515245 : Int64)) + (12345 : Int64)) - ((x4 * (1103515245 : Int64)) + (12345 : Int64)) / (2147483648 : Int64) * (2147483648 : Int64)) * (1103515245 : Int64)) + (12345 : Int64)) - (((((x4 * (1103515245 : Int64)) + (12345 : Int64)) - ((x4 * (1103515245 : Int64)) + (12345 : Int64)) / (2147483648 : Int64) * (2147483648 : Int64)) * (1103515245 : Int64)) + (12345 : Int64)) / (2147483648 : Int64) * (2147483648 : Int64))), (9, .int (((((((x4 * (1103515245 : Int64)) + (12345 : Int64)) - ((x4 * (1103515245 : Int64)) + (12345 : Int64)) / (2147483648 : Int64) * (2147483648 : Int64)) / (65536 : Int64)) - ((((x4 * (1103515245 : Int64)) + (12345 : Int64)) - ((x4 * (1103515245 : Int64)) + (12345 : Int64)) / (2147483648 : Int64) * (2147483648 : Int64)) / (65536 : Int64)) / (q1.1).toInt64 * (q1.1).toInt64)).toInt32)), (0, .ref (ad 0)), (2, .int x2), (3, .int x3), (6, .int x6), (7, .int x7), (8, .int x8)]) hx hb dX11_forests_117 hl (by decide) rfl (fun ls hl => ?_)
        refine lv_aload_n hx hb dX11_forests_119 rfl (lv_at hl 2 rfl) ?_
        refine lv_iload hx hb dX11_forests_120 (lv_at hl 1 rfl) ?_
        refine lv_lload hx hb dX11_forests_122 (lv_at hl 0 rfl) ?_
        refine lv_ldc2 (v := 65536) hx hb C.ow (C.ts _ wl_905) dX11_forests_124 ?_
        refine lv_ldiv hx hb dX11_forests_127 (by decide) ?_
        refine lv_aload_n hx hb dX11_forests_128 rfl (lv_at hl 2 rfl) ?_
        obtain ⟨q2, hq2, h⟩ := ob_t h
        refine res_i C w (run_V (As := []) (rest := [.long (((((((x4 * (1103515245 : Int64)) + (12345 : Int64)) - ((x4 * (1103515245 : Int64)) + (12345 : Int64)) / (2147483648 : Int64) * (2147483648 : Int64)) * (1103515245 : Int64)) + (12345 : Int64)) - (((((x4 * (1103515245 : Int64)) + (12345 : Int64)) - ((x4 * (1103515245 : Int64)) + (12345 : Int64)) / (2147483648 : Int64) * (2147483648 : Int64)) * (1103515245 : Int64)) + (12345 : Int64)) / (2147483648 : Int64) * (2147483648 : Int64)) / (65536 : Int64)), .int (((((((x4 * (1103515245 : Int64)) + (12345 : Int64)) - ((x4 * (1103515245 : Int64)) + (12345 : Int64)) / (2147483648 : Int64) * (2147483648 : Int64)) / (65536 : Int64)) - ((((x4 * (1103515245 : Int64)) + (12345 : Int64)) - ((x4 * (1103515245 : Int64)) + (12345 : Int64)) / (2147483648 : Int64) * (2147483648 : Int64)) / (65536 : Int64)) / (q1.1).toInt64 * (q1.1).toInt64)).toInt32), .ref (ad 0)]) C w hl.1 (recvM0 C w) (c_X11_many l D ca ad _  _ q2 hq2) rfl rfl wl_144 wl_145 wl_146 wl_5 wl_147 hd_X11_many rfl ⟨Nat.le_of_ble_eq_true rfl, Nat.le_of_ble_eq_true rfl⟩ rfl (Nat.le_of_ble_eq_true rfl) dX11_forests_129) (fun H locs w => ?_)
        refine lv_i2l hx hb dX11_forests_132 rfl ?_
        obtain ⟨n4, h⟩ := dl_t h
        refine lv_lrem hx hb dX11_forests_133 n4 ?_
        refine lv_l2i hx hb dX11_forests_134 rfl ?_
        refine lv_iconst (v := 0) hx hb dX11_forests_135 (by decide) ?_
        refine lv_iconst (v := 0) hx hb dX11_forests_136 (by decide) ?_
        obtain ⟨q3, hq3, h⟩ := ob_t h
        refine res_v C w (run_V (As := [.int (((((((x4 * (1103515245 : Int64)) + (12345 : Int64)) - ((x4 * (1103515245 : Int64)) + (12345 : Int64)) / (2147483648 : Int64) * (2147483648 : Int64)) / (65536 : Int64)) - ((((x4 * (1103515245 : Int64)) + (12345 : Int64)) - ((x4 * (1103515245 : Int64)) + (12345 : Int64)) / (2147483648 : Int64) * (2147483648 : Int64)) / (65536 : Int64)) / (q1.1).toInt64 * (q1.1).toInt64)).toInt32), .int ((((((((((x4 * (1103515245 : Int64)) + (12345 : Int64)) - ((x4 * (1103515245 : Int64)) + (12345 : Int64)) / (2147483648 : Int64) * (2147483648 : Int64)) * (1103515245 : Int64)) + (12345 : Int64)) - (((((x4 * (1103515245 : Int64)) + (12345 : Int64)) - ((x4 * (1103515245 : Int64)) + (12345 : Int64)) / (2147483648 : Int64) * (2147483648 : Int64)) * (1103515245 : Int64)) + (12345 : Int64)) / (2147483648 : Int64) * (2147483648 : Int64)) / (65536 : Int64)) - (((((((x4 * (1103515245 : Int64)) + (12345 : Int64)) - ((x4 * (1103515245 : Int64)) + (12345 : Int64)) / (2147483648 : Int64) * (2147483648 : Int64)) * (1103515245 : Int64)) + (12345 : Int64)) - (((((x4 * (1103515245 : Int64)) + (12345 : Int64)) - ((x4 * (1103515245 : Int64)) + (12345 : Int64)) / (2147483648 : Int64) * (2147483648 : Int64)) * (1103515245 : Int64)) + (12345 : Int64)) / (2147483648 : Int64) * (2147483648 : Int64)) / (65536 : Int64)) / (q2.1).toInt64 * (q2.1).toInt64)).toInt32), .int (0 : Int32), .int (0 : Int32)]) (rest := []) C w hl.1 (recvM0 C w) (c_X11_laySoonest l D ca ad _ (((((((x4 * (1103515245 : Int64)) + (12345 : Int64)) - ((x4 * (1103515245 : Int64)) + (12345 : Int64)) / (2147483648 : Int64) * (2147483648 : Int64)) / (65536 : Int64)) - ((((x4 * (1103515245 : Int64)) + (12345 : Int64)) - ((x4 * (1103515245 : Int64)) + (12345 : Int64)) / (2147483648 : Int64) * (2147483648 : Int64)) / (65536 : Int64)) / (q1.1).toInt64 * (q1.1).toInt64)).toInt32) ((((((((((x4 * (1103515245 : Int64)) + (12345 : Int64)) - ((x4 * (1103515245 : Int64)) + (12345 : Int64)) / (2147483648 : Int64) * (2147483648 : Int64)) * (1103515245 : Int64)) + (12345 : Int64)) - (((((x4 * (1103515245 : Int64)) + (12345 : Int64)) - ((x4 * (1103515245 : Int64)) + (12345 : Int64)) / (2147483648 : Int64) * (2147483648 : Int64)) * (1103515245 : Int64)) + (12345 : Int64)) / (2147483648 : Int64) * (2147483648 : Int64)) / (65536 : Int64)) - (((((((x4 * (1103515245 : Int64)) + (12345 : Int64)) - ((x4 * (1103515245 : Int64)) + (12345 : Int64)) / (2147483648 : Int64) * (2147483648 : Int64)) * (1103515245 : Int64)) + (12345 : Int64)) - (((((x4 * (1103515245 : Int64)) + (12345 : Int64)) - ((x4 * (1103515245 : Int64)) + (12345 : Int64)) / (2147483648 : Int64) * (2147483648 : Int64)) * (1103515245 : Int64)) + (12345 : Int64)) / (2147483648 : Int64) * (2147483648 : Int64)) / (65536 : Int64)) / (q2.1).toInt64 * (q2.1).toInt64)).toInt32) (0 : Int32) (0 : Int32) _ q3 hq3) rfl rfl wl_625 wl_626 wl_627 wl_5 wl_628 hd_X11_laySoonest rfl ⟨Nat.le_of_ble_eq_true rfl, Nat.le_of_ble_eq_true rfl⟩ rfl (Nat.le_of_ble_eq_true rfl) dX11_forests_137) (fun H locs w => ?_)
        refine lv_iload hx hb dX11_forests_140 (lv_at hl 5 rfl) ?_
        refine lv_aload_n hx hb dX11_forests_142 rfl (lv_at hl 2 rfl) ?_
        refine gM0_12 (v := (q3.1 12)) C w rfl wl_623 dX11_forests_143 ?_
        refine lv_iconst (v := -1) hx hb dX11_forests_146 (by decide) ?_
        refine lv_icmp_ne (tgt := 154) hx hb dX11_forests_147 (by decide) (fun c5 => ?_) (fun c5 => ?_)
        · have h := it_f h c5
          refine lv_iconst (v := 1) hx hb dX11_forests_154 (by decide) ?_
          exact b155 _ _ _ _ _ _ _ _ h _ _ _ w (lv_sub hl [2, 3, 4, 0, 6, 7] rfl)
        · have h := it_t h c5
          refine lv_iconst (v := 0) hx hb dX11_forests_150 (by decide) ?_
          refine lv_goto (tgt := 155) hx hb dX11_forests_151 (by decide) ?_
          exact b155 _ _ _ _ _ _ _ _ h _ _ _ w (lv_sub hl [2, 3, 4, 0, 6, 7] rfl)
  have h := hf
  unfold f_X11_forests at h
  refine lv_iload_n hx hb dX11_forests_0 rfl (lv_at hl 1 rfl) ?_
  refine lv_i2l hx hb dX11_forests_1 rfl ?_
  refine lv_lconst (v := 0) hx hb dX11_forests_2 (by decide) ?_
  refine lv_ldc2 (v := 999999) hx hb C.ow (C.ts _ wl_901) dX11_forests_3 ?_
  obtain ⟨q1, hq1, h⟩ := ob_t h
  refine res_i C w (run_S (As := [.long x1.toInt64, .long (0 : Int64), .long (999999 : Int64)]) (rest := []) C w hl.1 (c_X11_in l D ca _ x1.toInt64 (0 : Int64) (999999 : Int64) _ q1 hq1) rfl rfl wl_137 wl_138 wl_5 wl_139 hd_X11_in rfl ⟨Nat.le_of_ble_eq_true rfl, Nat.le_of_ble_eq_true rfl⟩ rfl (Nat.le_of_ble_eq_true rfl) dX11_forests_6) (fun H locs w => ?_)
  refine lv_if_eq (tgt := 34) hx hb dX11_forests_9 (by decide) (fun c1 => ?_) (fun c1 => ?_)
  · have h := it_t h c1
    exact b34 _ h _ _ _ w (lv_sub hl [0] rfl)
  · have h := it_f h c1
    refine lv_iload_n hx hb dX11_forests_12 rfl (lv_at hl 2 rfl) ?_
    refine lv_i2l hx hb dX11_forests_13 rfl ?_
    refine lv_lconst (v := 0) hx hb dX11_forests_14 (by decide) ?_
    refine lv_ldc2 (v := 60) hx hb C.ow (C.ts _ wl_423) dX11_forests_15 ?_
    obtain ⟨q2, hq2, h⟩ := ob_t h
    refine res_i C w (run_S (As := [.long x2.toInt64, .long (0 : Int64), .long (60 : Int64)]) (rest := []) C w hl.1 (c_X11_in l D ca _ x2.toInt64 (0 : Int64) (60 : Int64) _ q2 hq2) rfl rfl wl_137 wl_138 wl_5 wl_139 hd_X11_in rfl ⟨Nat.le_of_ble_eq_true rfl, Nat.le_of_ble_eq_true rfl⟩ rfl (Nat.le_of_ble_eq_true rfl) dX11_forests_18) (fun H locs w => ?_)
    refine lv_if_eq (tgt := 34) hx hb dX11_forests_21 (by decide) (fun c2 => ?_) (fun c2 => ?_)
    · have h := it_t h c2
      exact b34 _ h _ _ _ w (lv_sub hl [0] rfl)
    · have h := it_f h c2
      refine lv_iload_n hx hb dX11_forests_24 rfl (lv_at hl 3 rfl) ?_
      refine lv_i2l hx hb dX11_forests_25 rfl ?_
      refine lv_lconst (v := 0) hx hb dX11_forests_26 (by decide) ?_
      refine lv_lconst (v := 1) hx hb dX11_forests_27 (by decide) ?_
      obtain ⟨q3, hq3, h⟩ := ob_t h
      refine res_i C w (run_S (As := [.long x3.toInt64, .long (0 : Int64), .long (1 : Int64)]) (rest := []) C w hl.1 (c_X11_in l D ca _ x3.toInt64 (0 : Int64) (1 : Int64) _ q3 hq3) rfl rfl wl_137 wl_138 wl_5 wl_139 hd_X11_in rfl ⟨Nat.le_of_ble_eq_true rfl, Nat.le_of_ble_eq_true rfl⟩ rfl (Nat.le_of_ble_eq_true rfl) dX11_forests_28) (fun H locs w => ?_)
      refine lv_if_ne (tgt := 41) hx hb dX11_forests_31 (by decide) (fun c3 => ?_) (fun c3 => ?_)
      · have h := it_f h c3
        refine lv_aload_n hx hb dX11_forests_41 rfl (lv_at hl 0 rfl) ?_
        obtain ⟨q4, hq4, h⟩ := ob_t h
        refine res_i C w (run_V (As := []) (rest := []) C w hl.1 (recvM0 C w) (c_X11_many l D ca ad _  _ q4 hq4) rfl rfl wl_144 wl_145 wl_146 wl_5 wl_147 hd_X11_many rfl ⟨Nat.le_of_ble_eq_true rfl, Nat.le_of_ble_eq_true rfl⟩ rfl (Nat.le_of_ble_eq_true rfl) dX11_forests_42) (fun H locs w => ?_)
        refine lv_if_ne (tgt := 53) hx hb dX11_forests_45 (by decide) (fun c4 => ?_) (fun c4 => ?_)
        · have h := it_f h c4
          refine lv_iload_n hx hb dX11_forests_53 rfl (lv_at hl 1 rfl) ?_
          refine lv_i2l hx hb dX11_forests_54 rfl ?_
          refine lv_lstore (lv' := [(4, .long x1.toInt64), (0, .ref (ad 0)), (1, .int x1), (2, .int x2), (3, .int x3)]) hx hb dX11_forests_55 hl (by decide) rfl (fun ls hl => ?_)
          refine lv_iconst (v := 0) hx hb dX11_forests_57 (by decide) ?_
          refine lv_istore (lv' := [(6, .int (0 : Int32)), (4, .long x1.toInt64), (0, .ref (ad 0)), (1, .int x1), (2, .int x2), (3, .int x3)]) hx hb dX11_forests_58 hl (by decide) rfl (fun ls hl => ?_)
          refine lv_iconst (v := 0) hx hb dX11_forests_60 (by decide) ?_
          refine lv_istore (lv' := [(7, .int (0 : Int32)), (6, .int (0 : Int32)), (4, .long x1.toInt64), (0, .ref (ad 0)), (1, .int x1), (2, .int x2), (3, .int x3)]) hx hb dX11_forests_61 hl (by decide) rfl (fun ls hl => ?_)
          refine lv_iconst (v := 0) hx hb dX11_forests_63 (by decide) ?_
          refine lv_istore (lv' := [(8, .int (0 : Int32)), (7, .int (0 : Int32)), (6, .int (0 : Int32)), (4, .long x1.toInt64), (0, .ref (ad 0)), (1, .int x1), (2, .int x2), (3, .int x3)]) hx hb dX11_forests_64 hl (by decide) rfl (fun ls hl => ?_)
          exact L66 FU _ _ _ _ _ _ _ h _ _ _ w (lv_sub hl [4, 6, 7, 3, 2, 1, 0] rfl)
        · have h := it_t h c4
          refine lv_aload_n hx hb dX11_forests_48 rfl (lv_at hl 0 rfl) ?_
          obtain ⟨q5, hq5, h⟩ := ob_t h
          refine res_i C w (run_V (As := []) (rest := []) C w hl.1 (recvM0 C w) (c_X11_no l D ca ad _  _ q5 hq5) rfl rfl wl_441 wl_442 wl_443 wl_5 wl_444 hd_X11_no rfl ⟨Nat.le_of_ble_eq_true rfl, Nat.le_of_ble_eq_true rfl⟩ rfl (Nat.le_of_ble_eq_true rfl) dX11_forests_49) (fun H locs w => ?_)
          rw [hQ]
          exact rI (F := MW ca ad) C w h dX11_forests_52
      · have h := it_t h c3
        exact b34 _ h _ _ _ w (lv_sub hl [0] rfl)
theorem hd_X11_type : yX11_type.cls = RX11 ∧ yX11_type.cls ≠ "java/lang/invoke/MethodHandle" ∧ yX11_type.cls ≠ "java/lang/invoke/VarHandle" ∧ (parseMethodDescriptor yX11_type.desc).map (fun d => d.parameters.length) = some 1 := by decide +kernel
def f_X11_type (σ : St) (x1 : Int32) : Option (Int32 × St) := (f_X11_in x1.toInt64 (0 : Int64) (127 : Int64)).bind fun q1 => if q1 = 0 then ((f_X11_bad σ (-2 : Int32)).bind fun q3 => some (q3.1, q3.2)) else (if (σ.1 18) = (150 : Int32) then ((f_X11_full σ).bind fun q2 => some (q2.1, q2.2)) else (cond (ckI (σ.1 18) 150) (some (((σ.1 18) + (1 : Int32)), (sI (sE σ 9 (((σ.1 18)).toNatClampNeg) x1) 18 ((σ.1 18) + (1 : Int32))))) none))
abbrev rm_X11_type : Room := { frames := 1, cells := 0, slots := 0, locals := 60 }
set_option maxHeartbeats 4000000 in
set_option maxRecDepth 100000 in
theorem c_X11_type (l : Launch) (D : va_G) (ca : Nat → ClassId) (ad : Nat → Nat) (σ : St) (x1 : Int32) (sz : Nat) (out : Int32 × St) (hf : f_X11_type σ x1 = some out) : Met l yX11_type (.code yX11_type cX11_type 2 (some .int) :: WL) rm_X11_type (PreC D ca (MW ca ad σ) sz [.ref (ad 0), .int x1]) (PostI D (va_A (MW ca ad σ) sz) (MW ca ad out.2) out.1) 0 0 (va_A (MW ca ad σ) sz) := by
  refine Met.ofW (cc := cX11_type) (maxL := 2) (ret := (some .int)) (by decide) rfl ?_
  intro p e s m args below meth c s₁ B hml hv
  obtain ⟨rfl, hsz, hP, hK, hD, hN⟩ := hv
  subst hsz
  have C := Cx.mk (own := RX11) B hml rfl hK hN (ws := (MW ca ad σ))
  have w : Wd (va_A (MW ca ad σ) s.heap.size) s D (MW ca ad σ) s.heap [] := ⟨hP, hD.self, va_S.rf⟩
  have hl := lv_entry ([.ref (ad 0), .int x1]) (n := 2) (Nat.le_of_ble_eq_true rfl)
  rw [lg_entry_eq]
  generalize (lg_sl ([.ref (ad 0), .int x1]) ++ List.replicate (2 - (lg_sl ([.ref (ad 0), .int x1])).length) Slot.unset).toArray = ls at hl ⊢
  have hl : lv_has ls 2 [(0, .ref (ad 0)), (1, .int x1)] := hl
  change W p l e rm_X11_type s m _ below meth c _ [] 0 0 _ _
  clear B hP hD hK hN hml
  generalize va_A (MW ca ad σ) s.heap.size = A at C w ⊢
  generalize ([.ref (ad 0), .int x1] : List Value).toArray = av at C ⊢
  obtain ⟨Q, hQ⟩ : ∃ Q, Q = MQ below (PostI D A (MW ca ad out.2) out.1) av s 0 0 A := ⟨_, rfl⟩
  rw [← hQ]
  have hx := C.1
  have hb := C.2.1
  have h := hf
  unfold f_X11_type at h
  refine lv_iload_n hx hb dX11_type_0 rfl (lv_at hl 1 rfl) ?_
  refine lv_i2l hx hb dX11_type_1 rfl ?_
  refine lv_lconst (v := 0) hx hb dX11_type_2 (by decide) ?_
  refine lv_ldc2 (v := 127) hx hb C.ow (C.ts _ wl_204) dX11_type_3 ?_
  obtain ⟨q1, hq1, h⟩ := ob_t h
  refine res_i C w (run_S (As := [.long x1.toInt64, .long (0 : Int64), .long (127 : Int64)]) (rest := []) C w hl.1 (c_X11_in l D ca _ x1.toInt64 (0 : Int64) (127 : Int64) _ q1 hq1) rfl rfl wl_137 wl_138 wl_5 wl_139 hd_X11_in rfl ⟨Nat.le_of_ble_eq_true rfl, Nat.le_of_ble_eq_true rfl⟩ rfl (Nat.le_of_ble_eq_true rfl) dX11_type_6) (fun H locs w => ?_)
  refine lv_if_ne (tgt := 19) hx hb dX11_type_9 (by decide) (fun c1 => ?_) (fun c1 => ?_)
  · have h := it_f h c1
    refine lv_aload_n hx hb dX11_type_19 rfl (lv_at hl 0 rfl) ?_
    refine gM0_18 (v := (σ.1 18)) C w rfl wl_205 dX11_type_20 ?_
    refine lv_sipush (v := 150) hx hb dX11_type_23 (by decide) ?_
    refine lv_icmp_ne (tgt := 34) hx hb dX11_type_26 (by decide) (fun c2 => ?_) (fun c2 => ?_)
    · have h := it_f h c2
      refine lv_aload_n hx hb dX11_type_34 rfl (lv_at hl 0 rfl) ?_
      refine gM0_17 C w wl_103 dX11_type_35 ?_
      refine lv_aload_n hx hb dX11_type_38 rfl (lv_at hl 0 rfl) ?_
      refine gM0_18 (v := (σ.1 18)) C w rfl wl_205 dX11_type_39 ?_
      refine lv_iload_n hx hb dX11_type_42 rfl (lv_at hl 1 rfl) ?_
      obtain ⟨i3, h⟩ := ck_t h
      refine stM9 (j := ((σ.1 18)).toNatClampNeg) C w i3 rfl dX11_type_43 (fun H locs w => ?_)
      refine lv_aload_n hx hb dX11_type_44 rfl (lv_at hl 0 rfl) ?_
      refine lv_dup hx hb dX11_type_45 rfl ?_
      refine gM0_18 (v := (σ.1 18)) C w rfl wl_205 dX11_type_46 ?_
      refine lv_iconst (v := 1) hx hb dX11_type_49 (by decide) ?_
      refine lv_iadd hx hb dX11_type_50 ?_
      refine pM0_18 C w wl_205 dX11_type_51 (fun H locs w => ?_)
      refine lv_aload_n hx hb dX11_type_54 rfl (lv_at hl 0 rfl) ?_
      refine gM0_18 (v := ((σ.1 18) + (1 : Int32))) C w rfl wl_205 dX11_type_55 ?_
      rw [hQ]
      exact rI (F := MW ca ad) C w h dX11_type_58
    · have h := it_t h c2
      refine lv_aload_n hx hb dX11_type_29 rfl (lv_at hl 0 rfl) ?_
      obtain ⟨q2, hq2, h⟩ := ob_t h
      refine res_i C w (run_V (As := []) (rest := []) C w hl.1 (recvM0 C w) (c_X11_full l D ca ad _  _ q2 hq2) rfl rfl wl_167 wl_168 wl_169 wl_5 wl_170 hd_X11_full rfl ⟨Nat.le_of_ble_eq_true rfl, Nat.le_of_ble_eq_true rfl⟩ rfl (Nat.le_of_ble_eq_true rfl) dX11_type_30) (fun H locs w => ?_)
      rw [hQ]
      exact rI (F := MW ca ad) C w h dX11_type_33
  · have h := it_t h c1
    refine lv_aload_n hx hb dX11_type_12 rfl (lv_at hl 0 rfl) ?_
    refine lv_bipush (v := -2) hx hb dX11_type_13 (by decide) ?_
    obtain ⟨q3, hq3, h⟩ := ob_t h
    refine res_i C w (run_V (As := [.int (-2 : Int32)]) (rest := []) C w hl.1 (recvM0 C w) (c_X11_bad l D ca ad _ (-2 : Int32) _ q3 hq3) rfl rfl wl_140 wl_141 wl_142 wl_5 wl_143 hd_X11_bad rfl ⟨Nat.le_of_ble_eq_true rfl, Nat.le_of_ble_eq_true rfl⟩ rfl (Nat.le_of_ble_eq_true rfl) dX11_type_15) (fun H locs w => ?_)
    rw [hQ]
    exact rI (F := MW ca ad) C w h dX11_type_18
theorem hd_X11_clear : yX11_clear.cls = RX11 ∧ yX11_clear.cls ≠ "java/lang/invoke/MethodHandle" ∧ yX11_clear.cls ≠ "java/lang/invoke/VarHandle" ∧ (parseMethodDescriptor yX11_clear.desc).map (fun d => d.parameters.length) = some 0 := by decide +kernel
def f_X11_clear (σ : St) : Option (Int32 × St) := some ((σ.1 18), (sI σ 18 (0 : Int32)))
abbrev rm_X11_clear : Room := { frames := 0, cells := 0, slots := 0, locals := 0 }
set_option maxHeartbeats 4000000 in
set_option maxRecDepth 100000 in
theorem c_X11_clear (l : Launch) (D : va_G) (ca : Nat → ClassId) (ad : Nat → Nat) (σ : St)  (sz : Nat) (out : Int32 × St) (hf : f_X11_clear σ  = some out) : Met l yX11_clear (.code yX11_clear cX11_clear 2 (some .int) :: WL) rm_X11_clear (PreC D ca (MW ca ad σ) sz [.ref (ad 0)]) (PostI D (va_A (MW ca ad σ) sz) (MW ca ad out.2) out.1) 0 0 (va_A (MW ca ad σ) sz) := by
  refine Met.ofW (cc := cX11_clear) (maxL := 2) (ret := (some .int)) (by decide) rfl ?_
  intro p e s m args below meth c s₁ B hml hv
  obtain ⟨rfl, hsz, hP, hK, hD, hN⟩ := hv
  subst hsz
  have C := Cx.mk (own := RX11) B hml rfl hK hN (ws := (MW ca ad σ))
  have w : Wd (va_A (MW ca ad σ) s.heap.size) s D (MW ca ad σ) s.heap [] := ⟨hP, hD.self, va_S.rf⟩
  have hl := lv_entry ([.ref (ad 0)]) (n := 2) (Nat.le_of_ble_eq_true rfl)
  rw [lg_entry_eq]
  generalize (lg_sl ([.ref (ad 0)]) ++ List.replicate (2 - (lg_sl ([.ref (ad 0)])).length) Slot.unset).toArray = ls at hl ⊢
  have hl : lv_has ls 2 [(0, .ref (ad 0))] := hl
  change W p l e rm_X11_clear s m _ below meth c _ [] 0 0 _ _
  clear B hP hD hK hN hml
  generalize va_A (MW ca ad σ) s.heap.size = A at C w ⊢
  generalize ([.ref (ad 0)] : List Value).toArray = av at C ⊢
  obtain ⟨Q, hQ⟩ : ∃ Q, Q = MQ below (PostI D A (MW ca ad out.2) out.1) av s 0 0 A := ⟨_, rfl⟩
  rw [← hQ]
  have hx := C.1
  have hb := C.2.1
  have h := hf
  unfold f_X11_clear at h
  refine lv_aload_n hx hb dX11_clear_0 rfl (lv_at hl 0 rfl) ?_
  refine gM0_18 (v := (σ.1 18)) C w rfl wl_205 dX11_clear_1 ?_
  refine lv_istore_n (lv' := [(1, .int (σ.1 18)), (0, .ref (ad 0))]) hx hb dX11_clear_4 rfl hl (by decide) rfl (fun ls hl => ?_)
  refine lv_aload_n hx hb dX11_clear_5 rfl (lv_at hl 1 rfl) ?_
  refine lv_iconst (v := 0) hx hb dX11_clear_6 (by decide) ?_
  refine pM0_18 C w wl_205 dX11_clear_7 (fun H locs w => ?_)
  refine lv_iload_n hx hb dX11_clear_10 rfl (lv_at hl 0 rfl) ?_
  rw [hQ]
  exact rI (F := MW ca ad) C w h dX11_clear_11
theorem hd_X11_isSmall : yX11_isSmall.cls ≠ "java/lang/invoke/MethodHandle" ∧ yX11_isSmall.cls ≠ "java/lang/invoke/VarHandle" ∧ (parseMethodDescriptor yX11_isSmall.desc).map (fun d => d.parameters.length) = some 1 := by decide +kernel
def f_X11_isSmall (x0 : Int32) : Option (Int32) := (f_X11_in x0.toInt64 (97 : Int64) (122 : Int64)).bind fun q1 => cond (ckZ q1) (some q1) none
abbrev rm_X11_isSmall : Room := { frames := 1, cells := 0, slots := 0, locals := 60 }
set_option maxHeartbeats 4000000 in
set_option maxRecDepth 100000 in
theorem c_X11_isSmall (l : Launch) (D : va_G) (ca : Nat → ClassId) (ws : va_W) (x0 : Int32) (sz : Nat) (out : Int32) (hf : f_X11_isSmall x0 = some out) : Met l yX11_isSmall (.code yX11_isSmall cX11_isSmall 1 (some .boolean) :: WL) rm_X11_isSmall (PreC D ca ws sz [.int x0]) (PostI D (va_A ws sz) ws out) 0 0 (va_A ws sz) := by
  refine Met.ofW (cc := cX11_isSmall) (maxL := 1) (ret := (some .boolean)) (by decide) rfl ?_
  intro p e s m args below meth c s₁ B hml hv
  obtain ⟨rfl, hsz, hP, hK, hD, hN⟩ := hv
  subst hsz
  have C := Cx.mk (own := RX11) B hml rfl hK hN (ws := ws)
  have w : Wd (va_A ws s.heap.size) s D ws s.heap [] := ⟨hP, hD.self, va_S.rf⟩
  have hl := lv_entry ([.int x0]) (n := 1) (Nat.le_of_ble_eq_true rfl)
  rw [lg_entry_eq]
  generalize (lg_sl ([.int x0]) ++ List.replicate (1 - (lg_sl ([.int x0])).length) Slot.unset).toArray = ls at hl ⊢
  have hl : lv_has ls 1 [(0, .int x0)] := hl
  change W p l e rm_X11_isSmall s m _ below meth c _ [] 0 0 _ _
  clear B hP hD hK hN hml
  generalize va_A ws s.heap.size = A at C w ⊢
  generalize ([.int x0] : List Value).toArray = av at C ⊢
  obtain ⟨Q, hQ⟩ : ∃ Q, Q = MQ below (PostI D A ws out) av s 0 0 A := ⟨_, rfl⟩
  rw [← hQ]
  have hx := C.1
  have hb := C.2.1
  have h := hf
  unfold f_X11_isSmall at h
  refine lv_iload_n hx hb dX11_isSmall_0 rfl (lv_at hl 0 rfl) ?_
  refine lv_i2l hx hb dX11_isSmall_1 rfl ?_
  refine lv_ldc2 (v := 97) hx hb C.ow (C.ts _ wl_356) dX11_isSmall_2 ?_
  refine lv_ldc2 (v := 122) hx hb C.ow (C.ts _ wl_357) dX11_isSmall_5 ?_
  obtain ⟨q1, hq1, h⟩ := ob_t h
  refine res_i C w (run_S (As := [.long x0.toInt64, .long (97 : Int64), .long (122 : Int64)]) (rest := []) C w hl.1 (c_X11_in l D ca _ x0.toInt64 (97 : Int64) (122 : Int64) _ q1 hq1) rfl rfl wl_137 wl_138 wl_5 wl_139 hd_X11_in rfl ⟨Nat.le_of_ble_eq_true rfl, Nat.le_of_ble_eq_true rfl⟩ rfl (Nat.le_of_ble_eq_true rfl) dX11_isSmall_8) (fun H locs w => ?_)
  obtain ⟨z1, h⟩ := cz_t h
  rw [hQ]
  exact qZ C w z1 h dX11_isSmall_11
theorem hd_X11_isFigure : yX11_isFigure.cls ≠ "java/lang/invoke/MethodHandle" ∧ yX11_isFigure.cls ≠ "java/lang/invoke/VarHandle" ∧ (parseMethodDescriptor yX11_isFigure.desc).map (fun d => d.parameters.length) = some 1 := by decide +kernel
def f_X11_isFigure (x0 : Int32) : Option (Int32) := (f_X11_in x0.toInt64 (48 : Int64) (57 : Int64)).bind fun q1 => cond (ckZ q1) (some q1) none
abbrev rm_X11_isFigure : Room := { frames := 1, cells := 0, slots := 0, locals := 60 }
set_option maxHeartbeats 4000000 in
set_option maxRecDepth 100000 in
theorem c_X11_isFigure (l : Launch) (D : va_G) (ca : Nat → ClassId) (ws : va_W) (x0 : Int32) (sz : Nat) (out : Int32) (hf : f_X11_isFigure x0 = some out) : Met l yX11_isFigure (.code yX11_isFigure cX11_isFigure 1 (some .boolean) :: WL) rm_X11_isFigure (PreC D ca ws sz [.int x0]) (PostI D (va_A ws sz) ws out) 0 0 (va_A ws sz) := by
  refine Met.ofW (cc := cX11_isFigure) (maxL := 1) (ret := (some .boolean)) (by decide) rfl ?_
  intro p e s m args below meth c s₁ B hml hv
  obtain ⟨rfl, hsz, hP, hK, hD, hN⟩ := hv
  subst hsz
  have C := Cx.mk (own := RX11) B hml rfl hK hN (ws := ws)
  have w : Wd (va_A ws s.heap.size) s D ws s.heap [] := ⟨hP, hD.self, va_S.rf⟩
  have hl := lv_entry ([.int x0]) (n := 1) (Nat.le_of_ble_eq_true rfl)
  rw [lg_entry_eq]
  generalize (lg_sl ([.int x0]) ++ List.replicate (1 - (lg_sl ([.int x0])).length) Slot.unset).toArray = ls at hl ⊢
  have hl : lv_has ls 1 [(0, .int x0)] := hl
  change W p l e rm_X11_isFigure s m _ below meth c _ [] 0 0 _ _
  clear B hP hD hK hN hml
  generalize va_A ws s.heap.size = A at C w ⊢
  generalize ([.int x0] : List Value).toArray = av at C ⊢
  obtain ⟨Q, hQ⟩ : ∃ Q, Q = MQ below (PostI D A ws out) av s 0 0 A := ⟨_, rfl⟩
  rw [← hQ]
  have hx := C.1
  have hb := C.2.1
  have h := hf
  unfold f_X11_isFigure at h
  refine lv_iload_n hx hb dX11_isFigure_0 rfl (lv_at hl 0 rfl) ?_
  refine lv_i2l hx hb dX11_isFigure_1 rfl ?_
  refine lv_ldc2 (v := 48) hx hb C.ow (C.ts _ wl_361) dX11_isFigure_2 ?_
  refine lv_ldc2 (v := 57) hx hb C.ow (C.ts _ wl_362) dX11_isFigure_5 ?_
  obtain ⟨q1, hq1, h⟩ := ob_t h
  refine res_i C w (run_S (As := [.long x0.toInt64, .long (48 : Int64), .long (57 : Int64)]) (rest := []) C w hl.1 (c_X11_in l D ca _ x0.toInt64 (48 : Int64) (57 : Int64) _ q1 hq1) rfl rfl wl_137 wl_138 wl_5 wl_139 hd_X11_in rfl ⟨Nat.le_of_ble_eq_true rfl, Nat.le_of_ble_eq_true rfl⟩ rfl (Nat.le_of_ble_eq_true rfl) dX11_isFigure_8) (fun H locs w => ?_)
  obtain ⟨z1, h⟩ := cz_t h
  rw [hQ]
  exact qZ C w z1 h dX11_isFigure_11
theorem hd_X11_lookAt : yX11_lookAt.cls = RX11 ∧ yX11_lookAt.cls ≠ "java/lang/invoke/MethodHandle" ∧ yX11_lookAt.cls ≠ "java/lang/invoke/VarHandle" ∧ (parseMethodDescriptor yX11_lookAt.desc).map (fun d => d.parameters.length) = some 1 := by decide +kernel
def f_X11_lookAt_b208 (K136 : St → Int32 → Option (St)) (σ : St) (x3 : Int32) (y0 : Int32) (y1 : Int32) : Option (St) := K136 (sI σ 20 (y1 + y0)) x3
def f_X11_lookAt_b193 (K136 : St → Int32 → Option (St)) (σ : St) (y0 : Int32) : Option (St) := if y0 = 0 then (f_X11_lookAt_b208 K136 σ y0 (0 : Int32) (σ.1 20)) else (f_X11_lookAt_b208 K136 σ y0 (1 : Int32) (σ.1 20))
def f_X11_lookAt_b299 (σ : St) (y0 : Int32) : Option (St) := some (sI σ 21 y0)
def f_X11_lookAt_b295 (σ : St) : Option (St) := f_X11_lookAt_b299 σ (σ.1 21)
def f_X11_lookAt_b274 (σ : St) : Option (St) := if (σ.1 21) = (2 : Int32) then (if (σ.1 20) ≤ (2 : Int32) then (f_X11_lookAt_b295 σ) else (f_X11_lookAt_b299 σ (4 : Int32))) else (f_X11_lookAt_b295 σ)
def f_X11_lookAt_b218 (K218 : St → Int32 → Option (St)) (σ : St) (x4 : Int32) : Option (St) := if (σ.1 20) ≤ x4 then (f_X11_lookAt_b274 σ) else (if (2 : Int32) ≤ x4 then (f_X11_lookAt_b274 σ) else (if (σ.1 21) = (2 : Int32) then (cond (ckI ((σ.1 19) + x4) 150) (K218 (sI σ 22 ((((10 : Int32) * (σ.1 22)) + (σ.2.2 9 (((σ.1 19) + x4)).toNatClampNeg)) - (48 : Int32))) (x4 + (1 : Int32))) none) else (f_X11_lookAt_b274 σ)))
def f_X11_lookAt_L218 : Nat → St → Int32 → Option (St)
  | 0 => fun _ _ => none
  | n + 1 => f_X11_lookAt_b218 (f_X11_lookAt_L218 n)
def f_X11_lookAt_b215 (σ : St) : Option (St) := f_X11_lookAt_L218 FU σ (0 : Int32)
def f_X11_lookAt_b136 (K136 : St → Int32 → Option (St)) (σ : St) (x3 : Int32) : Option (St) := if x3 = 0 then (f_X11_lookAt_b215 σ) else (if (σ.1 18) ≤ ((σ.1 19) + (σ.1 20)) then (f_X11_lookAt_b215 σ) else (cond (ckI ((σ.1 19) + (σ.1 20)) 150) (if (σ.1 21) = (1 : Int32) then ((f_X11_isSmall (σ.2.2 9 (((σ.1 19) + (σ.1 20))).toNatClampNeg)).bind fun q2 => f_X11_lookAt_b193 K136 σ q2) else ((f_X11_isFigure (σ.2.2 9 (((σ.1 19) + (σ.1 20))).toNatClampNeg)).bind fun q1 => f_X11_lookAt_b193 K136 σ q1)) none))
def f_X11_lookAt_L136 : Nat → St → Int32 → Option (St)
  | 0 => fun _ _ => none
  | n + 1 => f_X11_lookAt_b136 (f_X11_lookAt_L136 n)
def f_X11_lookAt_b135 (σ : St) (y0 : Int32) : Option (St) := f_X11_lookAt_L136 FU σ y0
def f_X11_lookAt_b114 (σ : St) (y0 : Int32) : Option (St) := if (3 : Int32) ≤ y0 then (f_X11_lookAt_b135 (sI (sI σ 21 y0) 20 (1 : Int32)) (0 : Int32)) else (f_X11_lookAt_b135 (sI (sI σ 21 y0) 20 (1 : Int32)) (1 : Int32))
def f_X11_lookAt_b43 (σ : St) : Option (St) := if (σ.1 19) = (σ.1 18) then (some (sI (sI (sI σ 20 (0 : Int32)) 21 (0 : Int32)) 22 (0 : Int32))) else (cond (ckI (σ.1 19) 150) ((f_X11_isSmall (σ.2.2 9 ((σ.1 19)).toNatClampNeg)).bind fun q1 => if q1 = 0 then ((f_X11_isFigure (σ.2.2 9 ((σ.1 19)).toNatClampNeg)).bind fun q2 => if q2 = 0 then (if (σ.2.2 9 ((σ.1 19)).toNatClampNeg) = (59 : Int32) then (f_X11_lookAt_b114 (sI (sI (sI σ 20 (0 : Int32)) 21 (0 : Int32)) 22 (0 : Int32)) (3 : Int32)) else (f_X11_lookAt_b114 (sI (sI (sI σ 20 (0 : Int32)) 21 (0 : Int32)) 22 (0 : Int32)) (4 : Int32))) else (f_X11_lookAt_b114 (sI (sI (sI σ 20 (0 : Int32)) 21 (0 : Int32)) 22 (0 : Int32)) (2 : Int32))) else (f_X11_lookAt_b114 (sI (sI (sI σ 20 (0 : Int32)) 21 (0 : Int32)) 22 (0 : Int32)) (1 : Int32))) none)
def f_X11_lookAt_b5 (K5 : St → Option (St)) (σ : St) : Option (St) := if (σ.1 18) ≤ (σ.1 19) then (f_X11_lookAt_b43 σ) else (cond (ckI (σ.1 19) 150) (if (σ.2.2 9 ((σ.1 19)).toNatClampNeg) = (32 : Int32) then (K5 (sI σ 19 ((σ.1 19) + (1 : Int32)))) else (f_X11_lookAt_b43 σ)) none)
def f_X11_lookAt_L5 : Nat → St → Option (St)
  | 0 => fun _ => none
  | n + 1 => f_X11_lookAt_b5 (f_X11_lookAt_L5 n)
def f_X11_lookAt (σ : St) (x1 : Int32) : Option (St) := f_X11_lookAt_L5 FU (sI σ 19 x1)
abbrev rm_X11_lookAt : Room := { frames := 2, cells := 0, slots := 0, locals := 120 }
set_option maxHeartbeats 4000000 in
set_option maxRecDepth 100000 in
theorem c_X11_lookAt (l : Launch) (D : va_G) (ca : Nat → ClassId) (ad : Nat → Nat) (σ : St) (x1 : Int32) (sz : Nat) (out : St) (hf : f_X11_lookAt σ x1 = some out) : Met l yX11_lookAt (.code yX11_lookAt cX11_lookAt 5 none :: WL) rm_X11_lookAt (PreC D ca (MW ca ad σ) sz [.ref (ad 0), .int x1]) (PostV D (va_A (MW ca ad σ) sz) (MW ca ad out)) 0 0 (va_A (MW ca ad σ) sz) := by
  refine Met.ofW (cc := cX11_lookAt) (maxL := 5) (ret := none) (by decide) rfl ?_
  intro p e s m args below meth c s₁ B hml hv
  obtain ⟨rfl, hsz, hP, hK, hD, hN⟩ := hv
  subst hsz
  have C := Cx.mk (own := RX11) B hml rfl hK hN (ws := (MW ca ad σ))
  have w : Wd (va_A (MW ca ad σ) s.heap.size) s D (MW ca ad σ) s.heap [] := ⟨hP, hD.self, va_S.rf⟩
  have hl := lv_entry ([.ref (ad 0), .int x1]) (n := 5) (Nat.le_of_ble_eq_true rfl)
  rw [lg_entry_eq]
  generalize (lg_sl ([.ref (ad 0), .int x1]) ++ List.replicate (5 - (lg_sl ([.ref (ad 0), .int x1])).length) Slot.unset).toArray = ls at hl ⊢
  have hl : lv_has ls 5 [(0, .ref (ad 0)), (1, .int x1)] := hl
  change W p l e rm_X11_lookAt s m _ below meth c _ [] 0 0 _ _
  clear B hP hD hK hN hml
  generalize va_A (MW ca ad σ) s.heap.size = A at C w ⊢
  generalize ([.ref (ad 0), .int x1] : List Value).toArray = av at C ⊢
  obtain ⟨Q, hQ⟩ : ∃ Q, Q = MQ below (PostV D A (MW ca ad out)) av s 0 0 A := ⟨_, rfl⟩
  rw [← hQ]
  have hx := C.1
  have hb := C.2.1
  have b299 : ∀ (σ : St) (y0 : Int32), f_X11_lookAt_b299 σ y0 = some out → Bk p l e rm_X11_lookAt s m av below meth c A D 5 Q (MW ca ad σ) 299 [] [.int y0, .ref (ad 0)] := by
    intro σ y0 h H locs ls w hl
    unfold f_X11_lookAt_b299 at h
    refine pM0_21 C w wl_346 dX11_lookAt_299 (fun H locs w => ?_)
    rw [hQ]
    exact rV (F := MW ca ad) C w h dX11_lookAt_302
  have b295 : ∀ (σ : St), f_X11_lookAt_b295 σ = some out → Bk p l e rm_X11_lookAt s m av below meth c A D 5 Q (MW ca ad σ) 295 [(0, .ref (ad 0))] [.ref (ad 0)] := by
    intro σ h H locs ls w hl
    unfold f_X11_lookAt_b295 at h
    refine lv_aload_n hx hb dX11_lookAt_295 rfl (lv_at hl 0 rfl) ?_
    refine gM0_21 (v := (σ.1 21)) C w rfl wl_346 dX11_lookAt_296 ?_
    exact b299 _ _ h _ _ _ w (lv_sub hl [] rfl)
  have b274 : ∀ (σ : St), f_X11_lookAt_b274 σ = some out → Bk p l e rm_X11_lookAt s m av below meth c A D 5 Q (MW ca ad σ) 274 [(0, .ref (ad 0))] [] := by
    intro σ h H locs ls w hl
    unfold f_X11_lookAt_b274 at h
    refine lv_aload_n hx hb dX11_lookAt_274 rfl (lv_at hl 0 rfl) ?_
    refine lv_aload_n hx hb dX11_lookAt_275 rfl (lv_at hl 0 rfl) ?_
    refine gM0_21 (v := (σ.1 21)) C w rfl wl_346 dX11_lookAt_276 ?_
    refine lv_iconst (v := 2) hx hb dX11_lookAt_279 (by decide) ?_
    refine lv_icmp_ne (tgt := 295) hx hb dX11_lookAt_280 (by decide) (fun c1 => ?_) (fun c1 => ?_)
    · have h := it_f h c1
      exact b295 _ h _ _ _ w (lv_sub hl [0] rfl)
    · have h := it_t h c1
      refine lv_aload_n hx hb dX11_lookAt_283 rfl (lv_at hl 0 rfl) ?_
      refine gM0_20 (v := (σ.1 20)) C w rfl wl_351 dX11_lookAt_284 ?_
      refine lv_iconst (v := 2) hx hb dX11_lookAt_287 (by decide) ?_
      refine lv_icmp_le (tgt := 295) hx hb dX11_lookAt_288 (by decide) (fun c2 => ?_) (fun c2 => ?_)
      · have h := it_t h c2
        exact b295 _ h _ _ _ w (lv_sub hl [0] rfl)
      · have h := it_f h c2
        refine lv_iconst (v := 4) hx hb dX11_lookAt_291 (by decide) ?_
        refine lv_goto (tgt := 299) hx hb dX11_lookAt_292 (by decide) ?_
        exact b299 _ _ h _ _ _ w (lv_sub hl [] rfl)
  have L218 : ∀ (n218 : Nat) (σ : St) (x4 : Int32), f_X11_lookAt_L218 n218 σ x4 = some out → Bk p l e rm_X11_lookAt s m av below meth c A D 5 Q (MW ca ad σ) 218 [(0, .ref (ad 0)), (4, .int x4)] [] := by
    intro n218
    induction n218 with
    | zero => intro σ x4 h; exact absurd h (by simp [f_X11_lookAt_L218])
    | succ n218 ih218 =>
      intro σ x4 h H locs ls w hl
      change f_X11_lookAt_b218 (f_X11_lookAt_L218 n218) σ x4 = some out at h
      unfold f_X11_lookAt_b218 at h
      refine lv_iload hx hb dX11_lookAt_218 (lv_at hl 1 rfl) ?_
      refine lv_aload_n hx hb dX11_lookAt_220 rfl (lv_at hl 0 rfl) ?_
      refine gM0_20 (v := (σ.1 20)) C w rfl wl_351 dX11_lookAt_221 ?_
      refine lv_icmp_ge (tgt := 274) hx hb dX11_lookAt_224 (by decide) (fun c1 => ?_) (fun c1 => ?_)
      · have h := it_t h c1
        exact b274 _ h _ _ _ w (lv_sub hl [0] rfl)
      · have h := it_f h c1
        refine lv_iload hx hb dX11_lookAt_227 (lv_at hl 1 rfl) ?_
        refine lv_iconst (v := 2) hx hb dX11_lookAt_229 (by decide) ?_
        refine lv_icmp_ge (tgt := 274) hx hb dX11_lookAt_230 (by decide) (fun c2 => ?_) (fun c2 => ?_)
        · have h := it_t h c2
          exact b274 _ h _ _ _ w (lv_sub hl [0] rfl)
        · have h := it_f h c2
          refine lv_aload_n hx hb dX11_lookAt_233 rfl (lv_at hl 0 rfl) ?_
          refine gM0_21 (v := (σ.1 21)) C w rfl wl_346 dX11_lookAt_234 ?_
          refine lv_iconst (v := 2) hx hb dX11_lookAt_237 (by decide) ?_
          refine lv_icmp_ne (tgt := 274) hx hb dX11_lookAt_238 (by decide) (fun c3 => ?_) (fun c3 => ?_)
          · have h := it_f h c3
            exact b274 _ h _ _ _ w (lv_sub hl [0] rfl)
          · have h := it_t h c3
            refine lv_aload_n hx hb dX11_lookAt_241 rfl (lv_at hl 0 rfl) ?_
            refine lv_bipush (v := 10) hx hb dX11_lookAt_242 (by decide) ?_
            refine lv_aload_n hx hb dX11_lookAt_244 rfl (lv_at hl 0 rfl) ?_
            refine gM0_22 (v := (σ.1 22)) C w rfl wl_352 dX11_lookAt_245 ?_
            refine lv_imul hx hb dX11_lookAt_248 ?_
            refine lv_aload_n hx hb dX11_lookAt_249 rfl (lv_at hl 0 rfl) ?_
            refine gM0_17 C w wl_103 dX11_lookAt_250 ?_
            refine lv_aload_n hx hb dX11_lookAt_253 rfl (lv_at hl 0 rfl) ?_
            refine gM0_19 (v := (σ.1 19)) C w rfl wl_345 dX11_lookAt_254 ?_
            refine lv_iload hx hb dX11_lookAt_257 (lv_at hl 1 rfl) ?_
            refine lv_iadd hx hb dX11_lookAt_259 ?_
            obtain ⟨i4, h⟩ := ck_t h
            refine ldM9 (v := (σ.2.2 9 (((σ.1 19) + x4)).toNatClampNeg)) C w i4 rfl dX11_lookAt_260 ?_
            refine lv_iadd hx hb dX11_lookAt_261 ?_
            refine lv_bipush (v := 48) hx hb dX11_lookAt_262 (by decide) ?_
            refine lv_isub hx hb dX11_lookAt_264 ?_
            refine pM0_22 C w wl_352 dX11_lookAt_265 (fun H locs w => ?_)
            refine lv_iinc (v := (x4 + (1 : Int32))) (lv' := [(4, .int (x4 + (1 : Int32))), (0, .ref (ad 0))]) hx hb dX11_lookAt_268 hl (k := 1) rfl rfl (by decide) rfl (fun ls hl => ?_)
            refine lv_goto (tgt := 218) hx hb dX11_lookAt_271 (by decide) ?_
            exact ih218 _ _ h _ _ _ w (lv_sub hl [1, 0] rfl)
  have b215 : ∀ (σ : St), f_X11_lookAt_b215 σ = some out → Bk p l e rm_X11_lookAt s m av below meth c A D 5 Q (MW ca ad σ) 215 [(0, .ref (ad 0))] [] := by
    intro σ h H locs ls w hl
    unfold f_X11_lookAt_b215 at h
    refine lv_iconst (v := 0) hx hb dX11_lookAt_215 (by decide) ?_
    refine lv_istore (lv' := [(4, .int (0 : Int32)), (0, .ref (ad 0))]) hx hb dX11_lookAt_216 hl (by decide) rfl (fun ls hl => ?_)
    exact L218 FU _ _ h _ _ _ w (lv_sub hl [1, 0] rfl)
  have L136 : ∀ (n136 : Nat) (σ : St) (x3 : Int32), f_X11_lookAt_L136 n136 σ x3 = some out → Bk p l e rm_X11_lookAt s m av below meth c A D 5 Q (MW ca ad σ) 136 [(0, .ref (ad 0)), (3, .int x3)] [] := by
    intro n136
    induction n136 with
    | zero => intro σ x3 h; exact absurd h (by simp [f_X11_lookAt_L136])
    | succ n136 ih136 =>
      have b208 : ∀ (σ : St) (x3 : Int32) (y0 : Int32) (y1 : Int32), f_X11_lookAt_b208 (f_X11_lookAt_L136 n136) σ x3 y0 y1 = some out → Bk p l e rm_X11_lookAt s m av below meth c A D 5 Q (MW ca ad σ) 208 [(0, .ref (ad 0)), (3, .int x3)] [.int y0, .int y1, .ref (ad 0)] := by
        intro σ x3 y0 y1 h H locs ls w hl
        unfold f_X11_lookAt_b208 at h
        refine lv_iadd hx hb dX11_lookAt_208 ?_
        refine pM0_20 C w wl_351 dX11_lookAt_209 (fun H locs w => ?_)
        refine lv_goto (tgt := 136) hx hb dX11_lookAt_212 (by decide) ?_
        exact ih136 _ _ h _ _ _ w (lv_sub hl [0, 1] rfl)
      have b193 : ∀ (σ : St) (y0 : Int32), f_X11_lookAt_b193 (f_X11_lookAt_L136 n136) σ y0 = some out → Bk p l e rm_X11_lookAt s m av below meth c A D 5 Q (MW ca ad σ) 193 [(0, .ref (ad 0))] [.int y0] := by
        intro σ y0 h H locs ls w hl
        unfold f_X11_lookAt_b193 at h
        refine lv_istore_n (lv' := [(3, .int y0), (0, .ref (ad 0))]) hx hb dX11_lookAt_193 rfl hl (by decide) rfl (fun ls hl => ?_)
        refine lv_aload_n hx hb dX11_lookAt_194 rfl (lv_at hl 1 rfl) ?_
        refine lv_dup hx hb dX11_lookAt_195 rfl ?_
        refine gM0_20 (v := (σ.1 20)) C w rfl wl_351 dX11_lookAt_196 ?_
        refine lv_iload_n hx hb dX11_lookAt_199 rfl (lv_at hl 0 rfl) ?_
        refine lv_if_eq (tgt := 207) hx hb dX11_lookAt_200 (by decide) (fun c1 => ?_) (fun c1 => ?_)
        · have h := it_t h c1
          refine lv_iconst (v := 0) hx hb dX11_lookAt_207 (by decide) ?_
          exact b208 _ _ _ _ h _ _ _ w (lv_sub hl [1, 0] rfl)
        · have h := it_f h c1
          refine lv_iconst (v := 1) hx hb dX11_lookAt_203 (by decide) ?_
          refine lv_goto (tgt := 208) hx hb dX11_lookAt_204 (by decide) ?_
          exact b208 _ _ _ _ h _ _ _ w (lv_sub hl [1, 0] rfl)
      intro σ x3 h H locs ls w hl
      change f_X11_lookAt_b136 (f_X11_lookAt_L136 n136) σ x3 = some out at h
      unfold f_X11_lookAt_b136 at h
      refine lv_iload_n hx hb dX11_lookAt_136 rfl (lv_at hl 1 rfl) ?_
      refine lv_if_eq (tgt := 215) hx hb dX11_lookAt_137 (by decide) (fun c1 => ?_) (fun c1 => ?_)
      · have h := it_t h c1
        exact b215 _ h _ _ _ w (lv_sub hl [0] rfl)
      · have h := it_f h c1
        refine lv_aload_n hx hb dX11_lookAt_140 rfl (lv_at hl 0 rfl) ?_
        refine gM0_19 (v := (σ.1 19)) C w rfl wl_345 dX11_lookAt_141 ?_
        refine lv_aload_n hx hb dX11_lookAt_144 rfl (lv_at hl 0 rfl) ?_
        refine gM0_20 (v := (σ.1 20)) C w rfl wl_351 dX11_lookAt_145 ?_
        refine lv_iadd hx hb dX11_lookAt_148 ?_
        refine lv_aload_n hx hb dX11_lookAt_149 rfl (lv_at hl 0 rfl) ?_
        refine gM0_18 (v := (σ.1 18)) C w rfl wl_205 dX11_lookAt_150 ?_
        refine lv_icmp_ge (tgt := 215) hx hb dX11_lookAt_153 (by decide) (fun c2 => ?_) (fun c2 => ?_)
        · have h := it_t h c2
          exact b215 _ h _ _ _ w (lv_sub hl [0] rfl)
        · have h := it_f h c2
          refine lv_aload_n hx hb dX11_lookAt_156 rfl (lv_at hl 0 rfl) ?_
          refine gM0_17 C w wl_103 dX11_lookAt_157 ?_
          refine lv_aload_n hx hb dX11_lookAt_160 rfl (lv_at hl 0 rfl) ?_
          refine gM0_19 (v := (σ.1 19)) C w rfl wl_345 dX11_lookAt_161 ?_
          refine lv_aload_n hx hb dX11_lookAt_164 rfl (lv_at hl 0 rfl) ?_
          refine gM0_20 (v := (σ.1 20)) C w rfl wl_351 dX11_lookAt_165 ?_
          refine lv_iadd hx hb dX11_lookAt_168 ?_
          obtain ⟨i3, h⟩ := ck_t h
          refine ldM9 (v := (σ.2.2 9 (((σ.1 19) + (σ.1 20))).toNatClampNeg)) C w i3 rfl dX11_lookAt_169 ?_
          refine lv_istore (lv' := [(4, .int (σ.2.2 9 (((σ.1 19) + (σ.1 20))).toNatClampNeg)), (0, .ref (ad 0)), (3, .int x3)]) hx hb dX11_lookAt_170 hl (by decide) rfl (fun ls hl => ?_)
          refine lv_aload_n hx hb dX11_lookAt_172 rfl (lv_at hl 1 rfl) ?_
          refine gM0_21 (v := (σ.1 21)) C w rfl wl_346 dX11_lookAt_173 ?_
          refine lv_iconst (v := 1) hx hb dX11_lookAt_176 (by decide) ?_
          refine lv_icmp_ne (tgt := 188) hx hb dX11_lookAt_177 (by decide) (fun c4 => ?_) (fun c4 => ?_)
          · have h := it_f h c4
            refine lv_iload hx hb dX11_lookAt_188 (lv_at hl 0 rfl) ?_
            obtain ⟨q1, hq1, h⟩ := ob_t h
            refine res_i C w (run_S (As := [.int (σ.2.2 9 (((σ.1 19) + (σ.1 20))).toNatClampNeg)]) (rest := []) C w hl.1 (c_X11_isFigure l D ca _ (σ.2.2 9 (((σ.1 19) + (σ.1 20))).toNatClampNeg) _ q1 hq1) rfl rfl wl_358 wl_359 wl_5 wl_360 hd_X11_isFigure rfl ⟨Nat.le_of_ble_eq_true rfl, Nat.le_of_ble_eq_true rfl⟩ rfl (Nat.le_of_ble_eq_true rfl) dX11_lookAt_190) (fun H locs w => ?_)
            exact b193 _ _ h _ _ _ w (lv_sub hl [1] rfl)
          · have h := it_t h c4
            refine lv_iload hx hb dX11_lookAt_180 (lv_at hl 0 rfl) ?_
            obtain ⟨q2, hq2, h⟩ := ob_t h
            refine res_i C w (run_S (As := [.int (σ.2.2 9 (((σ.1 19) + (σ.1 20))).toNatClampNeg)]) (rest := []) C w hl.1 (c_X11_isSmall l D ca _ (σ.2.2 9 (((σ.1 19) + (σ.1 20))).toNatClampNeg) _ q2 hq2) rfl rfl wl_353 wl_354 wl_5 wl_355 hd_X11_isSmall rfl ⟨Nat.le_of_ble_eq_true rfl, Nat.le_of_ble_eq_true rfl⟩ rfl (Nat.le_of_ble_eq_true rfl) dX11_lookAt_182) (fun H locs w => ?_)
            refine lv_goto (tgt := 193) hx hb dX11_lookAt_185 (by decide) ?_
            exact b193 _ _ h _ _ _ w (lv_sub hl [1] rfl)
  have b135 : ∀ (σ : St) (y0 : Int32), f_X11_lookAt_b135 σ y0 = some out → Bk p l e rm_X11_lookAt s m av below meth c A D 5 Q (MW ca ad σ) 135 [(0, .ref (ad 0))] [.int y0] := by
    intro σ y0 h H locs ls w hl
    unfold f_X11_lookAt_b135 at h
    refine lv_istore_n (lv' := [(3, .int y0), (0, .ref (ad 0))]) hx hb dX11_lookAt_135 rfl hl (by decide) rfl (fun ls hl => ?_)
    exact L136 FU _ _ h _ _ _ w (lv_sub hl [1, 0] rfl)
  have b114 : ∀ (σ : St) (y0 : Int32), f_X11_lookAt_b114 σ y0 = some out → Bk p l e rm_X11_lookAt s m av below meth c A D 5 Q (MW ca ad σ) 114 [(0, .ref (ad 0))] [.int y0, .ref (ad 0)] := by
    intro σ y0 h H locs ls w hl
    unfold f_X11_lookAt_b114 at h
    refine pM0_21 C w wl_346 dX11_lookAt_114 (fun H locs w => ?_)
    refine lv_aload_n hx hb dX11_lookAt_117 rfl (lv_at hl 0 rfl) ?_
    refine lv_iconst (v := 1) hx hb dX11_lookAt_118 (by decide) ?_
    refine pM0_20 C w wl_351 dX11_lookAt_119 (fun H locs w => ?_)
    refine lv_aload_n hx hb dX11_lookAt_122 rfl (lv_at hl 0 rfl) ?_
    refine gM0_21 (v := y0) C w rfl wl_346 dX11_lookAt_123 ?_
    refine lv_iconst (v := 3) hx hb dX11_lookAt_126 (by decide) ?_
    refine lv_icmp_ge (tgt := 134) hx hb dX11_lookAt_127 (by decide) (fun c1 => ?_) (fun c1 => ?_)
    · have h := it_t h c1
      refine lv_iconst (v := 0) hx hb dX11_lookAt_134 (by decide) ?_
      exact b135 _ _ h _ _ _ w (lv_sub hl [0] rfl)
    · have h := it_f h c1
      refine lv_iconst (v := 1) hx hb dX11_lookAt_130 (by decide) ?_
      refine lv_goto (tgt := 135) hx hb dX11_lookAt_131 (by decide) ?_
      exact b135 _ _ h _ _ _ w (lv_sub hl [0] rfl)
  have b43 : ∀ (σ : St), f_X11_lookAt_b43 σ = some out → Bk p l e rm_X11_lookAt s m av below meth c A D 5 Q (MW ca ad σ) 43 [(0, .ref (ad 0))] [] := by
    intro σ h H locs ls w hl
    unfold f_X11_lookAt_b43 at h
    refine lv_aload_n hx hb dX11_lookAt_43 rfl (lv_at hl 0 rfl) ?_
    refine lv_iconst (v := 0) hx hb dX11_lookAt_44 (by decide) ?_
    refine pM0_20 C w wl_351 dX11_lookAt_45 (fun H locs w => ?_)
    refine lv_aload_n hx hb dX11_lookAt_48 rfl (lv_at hl 0 rfl) ?_
    refine lv_iconst (v := 0) hx hb dX11_lookAt_49 (by decide) ?_
    refine pM0_21 C w wl_346 dX11_lookAt_50 (fun H locs w => ?_)
    refine lv_aload_n hx hb dX11_lookAt_53 rfl (lv_at hl 0 rfl) ?_
    refine lv_iconst (v := 0) hx hb dX11_lookAt_54 (by decide) ?_
    refine pM0_22 C w wl_352 dX11_lookAt_55 (fun H locs w => ?_)
    refine lv_aload_n hx hb dX11_lookAt_58 rfl (lv_at hl 0 rfl) ?_
    refine gM0_19 (v := (σ.1 19)) C w rfl wl_345 dX11_lookAt_59 ?_
    refine lv_aload_n hx hb dX11_lookAt_62 rfl (lv_at hl 0 rfl) ?_
    refine gM0_18 (v := (σ.1 18)) C w rfl wl_205 dX11_lookAt_63 ?_
    refine lv_icmp_ne (tgt := 70) hx hb dX11_lookAt_66 (by decide) (fun c1 => ?_) (fun c1 => ?_)
    · have h := it_f h c1
      refine lv_aload_n hx hb dX11_lookAt_70 rfl (lv_at hl 0 rfl) ?_
      refine gM0_17 C w wl_103 dX11_lookAt_71 ?_
      refine lv_aload_n hx hb dX11_lookAt_74 rfl (lv_at hl 0 rfl) ?_
      refine gM0_19 (v := (σ.1 19)) C w rfl wl_345 dX11_lookAt_75 ?_
      obtain ⟨i2, h⟩ := ck_t h
      refine ldM9 (v := (σ.2.2 9 ((σ.1 19)).toNatClampNeg)) C w i2 rfl dX11_lookAt_78 ?_
      refine lv_istore_n (lv' := [(2, .int (σ.2.2 9 ((σ.1 19)).toNatClampNeg)), (0, .ref (ad 0))]) hx hb dX11_lookAt_79 rfl hl (by decide) rfl (fun ls hl => ?_)
      refine lv_aload_n hx hb dX11_lookAt_80 rfl (lv_at hl 1 rfl) ?_
      refine lv_iload_n hx hb dX11_lookAt_81 rfl (lv_at hl 0 rfl) ?_
      obtain ⟨q1, hq1, h⟩ := ob_t h
      refine res_i C w (run_S (As := [.int (σ.2.2 9 ((σ.1 19)).toNatClampNeg)]) (rest := [.ref (ad 0)]) C w hl.1 (c_X11_isSmall l D ca _ (σ.2.2 9 ((σ.1 19)).toNatClampNeg) _ q1 hq1) rfl rfl wl_353 wl_354 wl_5 wl_355 hd_X11_isSmall rfl ⟨Nat.le_of_ble_eq_true rfl, Nat.le_of_ble_eq_true rfl⟩ rfl (Nat.le_of_ble_eq_true rfl) dX11_lookAt_82) (fun H locs w => ?_)
      refine lv_if_eq (tgt := 92) hx hb dX11_lookAt_85 (by decide) (fun c3 => ?_) (fun c3 => ?_)
      · have h := it_t h c3
        refine lv_iload_n hx hb dX11_lookAt_92 rfl (lv_at hl 0 rfl) ?_
        obtain ⟨q2, hq2, h⟩ := ob_t h
        refine res_i C w (run_S (As := [.int (σ.2.2 9 ((σ.1 19)).toNatClampNeg)]) (rest := [.ref (ad 0)]) C w hl.1 (c_X11_isFigure l D ca _ (σ.2.2 9 ((σ.1 19)).toNatClampNeg) _ q2 hq2) rfl rfl wl_358 wl_359 wl_5 wl_360 hd_X11_isFigure rfl ⟨Nat.le_of_ble_eq_true rfl, Nat.le_of_ble_eq_true rfl⟩ rfl (Nat.le_of_ble_eq_true rfl) dX11_lookAt_93) (fun H locs w => ?_)
        refine lv_if_eq (tgt := 103) hx hb dX11_lookAt_96 (by decide) (fun c4 => ?_) (fun c4 => ?_)
        · have h := it_t h c4
          refine lv_iload_n hx hb dX11_lookAt_103 rfl (lv_at hl 0 rfl) ?_
          refine lv_bipush (v := 59) hx hb dX11_lookAt_104 (by decide) ?_
          refine lv_icmp_ne (tgt := 113) hx hb dX11_lookAt_106 (by decide) (fun c5 => ?_) (fun c5 => ?_)
          · have h := it_f h c5
            refine lv_iconst (v := 4) hx hb dX11_lookAt_113 (by decide) ?_
            exact b114 _ _ h _ _ _ w (lv_sub hl [1] rfl)
          · have h := it_t h c5
            refine lv_iconst (v := 3) hx hb dX11_lookAt_109 (by decide) ?_
            refine lv_goto (tgt := 114) hx hb dX11_lookAt_110 (by decide) ?_
            exact b114 _ _ h _ _ _ w (lv_sub hl [1] rfl)
        · have h := it_f h c4
          refine lv_iconst (v := 2) hx hb dX11_lookAt_99 (by decide) ?_
          refine lv_goto (tgt := 114) hx hb dX11_lookAt_100 (by decide) ?_
          exact b114 _ _ h _ _ _ w (lv_sub hl [1] rfl)
      · have h := it_f h c3
        refine lv_iconst (v := 1) hx hb dX11_lookAt_88 (by decide) ?_
        refine lv_goto (tgt := 114) hx hb dX11_lookAt_89 (by decide) ?_
        exact b114 _ _ h _ _ _ w (lv_sub hl [1] rfl)
    · have h := it_t h c1
      rw [hQ]
      exact rV (F := MW ca ad) C w h dX11_lookAt_69
  have L5 : ∀ (n5 : Nat) (σ : St), f_X11_lookAt_L5 n5 σ = some out → Bk p l e rm_X11_lookAt s m av below meth c A D 5 Q (MW ca ad σ) 5 [(0, .ref (ad 0))] [] := by
    intro n5
    induction n5 with
    | zero => intro σ h; exact absurd h (by simp [f_X11_lookAt_L5])
    | succ n5 ih5 =>
      intro σ h H locs ls w hl
      change f_X11_lookAt_b5 (f_X11_lookAt_L5 n5) σ = some out at h
      unfold f_X11_lookAt_b5 at h
      refine lv_aload_n hx hb dX11_lookAt_5 rfl (lv_at hl 0 rfl) ?_
      refine gM0_19 (v := (σ.1 19)) C w rfl wl_345 dX11_lookAt_6 ?_
      refine lv_aload_n hx hb dX11_lookAt_9 rfl (lv_at hl 0 rfl) ?_
      refine gM0_18 (v := (σ.1 18)) C w rfl wl_205 dX11_lookAt_10 ?_
      refine lv_icmp_ge (tgt := 43) hx hb dX11_lookAt_13 (by decide) (fun c1 => ?_) (fun c1 => ?_)
      · have h := it_t h c1
        exact b43 _ h _ _ _ w (lv_sub hl [0] rfl)
      · have h := it_f h c1
        refine lv_aload_n hx hb dX11_lookAt_16 rfl (lv_at hl 0 rfl) ?_
        refine gM0_17 C w wl_103 dX11_lookAt_17 ?_
        refine lv_aload_n hx hb dX11_lookAt_20 rfl (lv_at hl 0 rfl) ?_
        refine gM0_19 (v := (σ.1 19)) C w rfl wl_345 dX11_lookAt_21 ?_
        obtain ⟨i2, h⟩ := ck_t h
        refine ldM9 (v := (σ.2.2 9 ((σ.1 19)).toNatClampNeg)) C w i2 rfl dX11_lookAt_24 ?_
        refine lv_bipush (v := 32) hx hb dX11_lookAt_25 (by decide) ?_
        refine lv_icmp_ne (tgt := 43) hx hb dX11_lookAt_27 (by decide) (fun c3 => ?_) (fun c3 => ?_)
        · have h := it_f h c3
          exact b43 _ h _ _ _ w (lv_sub hl [0] rfl)
        · have h := it_t h c3
          refine lv_aload_n hx hb dX11_lookAt_30 rfl (lv_at hl 0 rfl) ?_
          refine lv_dup hx hb dX11_lookAt_31 rfl ?_
          refine gM0_19 (v := (σ.1 19)) C w rfl wl_345 dX11_lookAt_32 ?_
          refine lv_iconst (v := 1) hx hb dX11_lookAt_35 (by decide) ?_
          refine lv_iadd hx hb dX11_lookAt_36 ?_
          refine pM0_19 C w wl_345 dX11_lookAt_37 (fun H locs w => ?_)
          refine lv_goto (tgt := 5) hx hb dX11_lookAt_40 (by decide) ?_
          exact ih5 _ h _ _ _ w (lv_sub hl [0] rfl)
  have h := hf
  unfold f_X11_lookAt at h
  refine lv_aload_n hx hb dX11_lookAt_0 rfl (lv_at hl 0 rfl) ?_
  refine lv_iload_n hx hb dX11_lookAt_1 rfl (lv_at hl 1 rfl) ?_
  refine pM0_19 C w wl_345 dX11_lookAt_2 (fun H locs w => ?_)
  exact L5 FU _ h _ _ _ w (lv_sub hl [0] rfl)
theorem hd_X11_goBehind : yX11_goBehind.cls = RX11 ∧ yX11_goBehind.cls ≠ "java/lang/invoke/MethodHandle" ∧ yX11_goBehind.cls ≠ "java/lang/invoke/VarHandle" ∧ (parseMethodDescriptor yX11_goBehind.desc).map (fun d => d.parameters.length) = some 0 := by decide +kernel
def f_X11_goBehind (σ : St) : Option (St) := (f_X11_lookAt σ ((σ.1 19) + (σ.1 20))).bind fun q1 => some q1
abbrev rm_X11_goBehind : Room := { frames := 3, cells := 0, slots := 0, locals := 180 }
set_option maxHeartbeats 4000000 in
set_option maxRecDepth 100000 in
theorem c_X11_goBehind (l : Launch) (D : va_G) (ca : Nat → ClassId) (ad : Nat → Nat) (σ : St)  (sz : Nat) (out : St) (hf : f_X11_goBehind σ  = some out) : Met l yX11_goBehind (.code yX11_goBehind cX11_goBehind 1 none :: WL) rm_X11_goBehind (PreC D ca (MW ca ad σ) sz [.ref (ad 0)]) (PostV D (va_A (MW ca ad σ) sz) (MW ca ad out)) 0 0 (va_A (MW ca ad σ) sz) := by
  refine Met.ofW (cc := cX11_goBehind) (maxL := 1) (ret := none) (by decide) rfl ?_
  intro p e s m args below meth c s₁ B hml hv
  obtain ⟨rfl, hsz, hP, hK, hD, hN⟩ := hv
  subst hsz
  have C := Cx.mk (own := RX11) B hml rfl hK hN (ws := (MW ca ad σ))
  have w : Wd (va_A (MW ca ad σ) s.heap.size) s D (MW ca ad σ) s.heap [] := ⟨hP, hD.self, va_S.rf⟩
  have hl := lv_entry ([.ref (ad 0)]) (n := 1) (Nat.le_of_ble_eq_true rfl)
  rw [lg_entry_eq]
  generalize (lg_sl ([.ref (ad 0)]) ++ List.replicate (1 - (lg_sl ([.ref (ad 0)])).length) Slot.unset).toArray = ls at hl ⊢
  have hl : lv_has ls 1 [(0, .ref (ad 0))] := hl
  change W p l e rm_X11_goBehind s m _ below meth c _ [] 0 0 _ _
  clear B hP hD hK hN hml
  generalize va_A (MW ca ad σ) s.heap.size = A at C w ⊢
  generalize ([.ref (ad 0)] : List Value).toArray = av at C ⊢
  obtain ⟨Q, hQ⟩ : ∃ Q, Q = MQ below (PostV D A (MW ca ad out)) av s 0 0 A := ⟨_, rfl⟩
  rw [← hQ]
  have hx := C.1
  have hb := C.2.1
  have h := hf
  unfold f_X11_goBehind at h
  refine lv_aload_n hx hb dX11_goBehind_0 rfl (lv_at hl 0 rfl) ?_
  refine lv_aload_n hx hb dX11_goBehind_1 rfl (lv_at hl 0 rfl) ?_
  refine gM0_19 (v := (σ.1 19)) C w rfl wl_345 dX11_goBehind_2 ?_
  refine lv_aload_n hx hb dX11_goBehind_5 rfl (lv_at hl 0 rfl) ?_
  refine gM0_20 (v := (σ.1 20)) C w rfl wl_351 dX11_goBehind_6 ?_
  refine lv_iadd hx hb dX11_goBehind_9 ?_
  obtain ⟨q1, hq1, h⟩ := ob_t h
  refine res_v C w (run_V (As := [.int ((σ.1 19) + (σ.1 20))]) (rest := []) C w hl.1 (recvM0 C w) (c_X11_lookAt l D ca ad _ ((σ.1 19) + (σ.1 20)) _ q1 hq1) rfl rfl wl_347 wl_348 wl_349 wl_5 wl_350 hd_X11_lookAt rfl ⟨Nat.le_of_ble_eq_true rfl, Nat.le_of_ble_eq_true rfl⟩ rfl (Nat.le_of_ble_eq_true rfl) dX11_goBehind_10) (fun H locs w => ?_)
  rw [hQ]
  exact rV (F := MW ca ad) C w h dX11_goBehind_13
theorem hd_X11_spells : yX11_spells.cls = RX11 ∧ yX11_spells.cls ≠ "java/lang/invoke/MethodHandle" ∧ yX11_spells.cls ≠ "java/lang/invoke/VarHandle" ∧ (parseMethodDescriptor yX11_spells.desc).map (fun d => d.parameters.length) = some 7 := by decide +kernel
def f_X11_spells_b111 (K26 : St → Int32 → Int32 → Int32 → Int32 → Int32 → Int32 → Int32 → Int32 → Int32 → Option (Int32 × St)) (σ : St) (x1 : Int32) (x2 : Int32) (x3 : Int32) (x4 : Int32) (x5 : Int32) (x6 : Int32) (x7 : Int32) (x9 : Int32) (y0 : Int32) : Option (Int32 × St) := K26 σ x1 x2 x3 x4 x5 x6 x7 y0 (x9 + (1 : Int32))
def f_X11_spells_b103 (K26 : St → Int32 → Int32 → Int32 → Int32 → Int32 → Int32 → Int32 → Int32 → Int32 → Option (Int32 × St)) (σ : St) (x1 : Int32) (x2 : Int32) (x3 : Int32) (x4 : Int32) (x5 : Int32) (x6 : Int32) (x7 : Int32) (x9 : Int32) (y0 : Int32) (y1 : Int32) : Option (Int32 × St) := if y1 = y0 then (f_X11_spells_b111 K26 σ x1 x2 x3 x4 x5 x6 x7 x9 (1 : Int32)) else (f_X11_spells_b111 K26 σ x1 x2 x3 x4 x5 x6 x7 x9 (0 : Int32))
def f_X11_spells_b119 (σ : St) (x8 : Int32) : Option (Int32 × St) := cond (ckZ x8) (some (x8, σ)) none
def f_X11_spells_b26 (K26 : St → Int32 → Int32 → Int32 → Int32 → Int32 → Int32 → Int32 → Int32 → Int32 → Option (Int32 × St)) (σ : St) (x1 : Int32) (x2 : Int32) (x3 : Int32) (x4 : Int32) (x5 : Int32) (x6 : Int32) (x7 : Int32) (x8 : Int32) (x9 : Int32) : Option (Int32 × St) := if x1 ≤ x9 then (f_X11_spells_b119 σ x8) else (if x8 = 0 then (f_X11_spells_b119 σ x8) else (cond (ckI ((σ.1 19) + x9) 150) (if x9 = 0 then (f_X11_spells_b103 K26 σ x1 x2 x3 x4 x5 x6 x7 x9 x2 (σ.2.2 9 (((σ.1 19) + x9)).toNatClampNeg)) else (if x9 = (1 : Int32) then (f_X11_spells_b103 K26 σ x1 x2 x3 x4 x5 x6 x7 x9 x3 (σ.2.2 9 (((σ.1 19) + x9)).toNatClampNeg)) else (if x9 = (2 : Int32) then (f_X11_spells_b103 K26 σ x1 x2 x3 x4 x5 x6 x7 x9 x4 (σ.2.2 9 (((σ.1 19) + x9)).toNatClampNeg)) else (if x9 = (3 : Int32) then (f_X11_spells_b103 K26 σ x1 x2 x3 x4 x5 x6 x7 x9 x5 (σ.2.2 9 (((σ.1 19) + x9)).toNatClampNeg)) else (if x9 = (4 : Int32) then (f_X11_spells_b103 K26 σ x1 x2 x3 x4 x5 x6 x7 x9 x6 (σ.2.2 9 (((σ.1 19) + x9)).toNatClampNeg)) else (f_X11_spells_b103 K26 σ x1 x2 x3 x4 x5 x6 x7 x9 x7 (σ.2.2 9 (((σ.1 19) + x9)).toNatClampNeg))))))) none))
def f_X11_spells_L26 : Nat → St → Int32 → Int32 → Int32 → Int32 → Int32 → Int32 → Int32 → Int32 → Int32 → Option (Int32 × St)
  | 0 => fun _ _ _ _ _ _ _ _ _ _ => none
  | n + 1 => f_X11_spells_b26 (f_X11_spells_L26 n)
def f_X11_spells_b21 (σ : St) (x1 : Int32) (x2 : Int32) (x3 : Int32) (x4 : Int32) (x5 : Int32) (x6 : Int32) (x7 : Int32) (y0 : Int32) : Option (Int32 × St) := f_X11_spells_L26 FU σ x1 x2 x3 x4 x5 x6 x7 y0 (0 : Int32)
def f_X11_spells_b20 (σ : St) (x1 : Int32) (x2 : Int32) (x3 : Int32) (x4 : Int32) (x5 : Int32) (x6 : Int32) (x7 : Int32) : Option (Int32 × St) := f_X11_spells_b21 σ x1 x2 x3 x4 x5 x6 x7 (0 : Int32)
def f_X11_spells (σ : St) (x1 : Int32) (x2 : Int32) (x3 : Int32) (x4 : Int32) (x5 : Int32) (x6 : Int32) (x7 : Int32) : Option (Int32 × St) := if (σ.1 21) = (1 : Int32) then (if (σ.1 20) = x1 then (f_X11_spells_b21 σ x1 x2 x3 x4 x5 x6 x7 (1 : Int32)) else (f_X11_spells_b20 σ x1 x2 x3 x4 x5 x6 x7)) else (f_X11_spells_b20 σ x1 x2 x3 x4 x5 x6 x7)
abbrev rm_X11_spells : Room := { frames := 0, cells := 0, slots := 0, locals := 0 }
set_option maxHeartbeats 4000000 in
set_option maxRecDepth 100000 in
theorem c_X11_spells (l : Launch) (D : va_G) (ca : Nat → ClassId) (ad : Nat → Nat) (σ : St) (x1 : Int32) (x2 : Int32) (x3 : Int32) (x4 : Int32) (x5 : Int32) (x6 : Int32) (x7 : Int32) (sz : Nat) (out : Int32 × St) (hf : f_X11_spells σ x1 x2 x3 x4 x5 x6 x7 = some out) : Met l yX11_spells (.code yX11_spells cX11_spells 10 (some .boolean) :: WL) rm_X11_spells (PreC D ca (MW ca ad σ) sz [.ref (ad 0), .int x1, .int x2, .int x3, .int x4, .int x5, .int x6, .int x7]) (PostI D (va_A (MW ca ad σ) sz) (MW ca ad out.2) out.1) 0 0 (va_A (MW ca ad σ) sz) := by
  refine Met.ofW (cc := cX11_spells) (maxL := 10) (ret := (some .boolean)) (by decide) rfl ?_
  intro p e s m args below meth c s₁ B hml hv
  obtain ⟨rfl, hsz, hP, hK, hD, hN⟩ := hv
  subst hsz
  have C := Cx.mk (own := RX11) B hml rfl hK hN (ws := (MW ca ad σ))
  have w : Wd (va_A (MW ca ad σ) s.heap.size) s D (MW ca ad σ) s.heap [] := ⟨hP, hD.self, va_S.rf⟩
  have hl := lv_entry ([.ref (ad 0), .int x1, .int x2, .int x3, .int x4, .int x5, .int x6, .int x7]) (n := 10) (Nat.le_of_ble_eq_true rfl)
  rw [lg_entry_eq]
  generalize (lg_sl ([.ref (ad 0), .int x1, .int x2, .int x3, .int x4, .int x5, .int x6, .int x7]) ++ List.replicate (10 - (lg_sl ([.ref (ad 0), .int x1, .int x2, .int x3, .int x4, .int x5, .int x6, .int x7])).length) Slot.unset).toArray = ls at hl ⊢
  have hl : lv_has ls 10 [(0, .ref (ad 0)), (1, .int x1), (2, .int x2), (3, .int x3), (4, .int x4), (5, .int x5), (6, .int x6), (7, .int x7)] := hl
  change W p l e rm_X11_spells s m _ below meth c _ [] 0 0 _ _
  clear B hP hD hK hN hml
  generalize va_A (MW ca ad σ) s.heap.size = A at C w ⊢
  generalize ([.ref (ad 0), .int x1, .int x2, .int x3, .int x4, .int x5, .int x6, .int x7] : List Value).toArray = av at C ⊢
  obtain ⟨Q, hQ⟩ : ∃ Q, Q = MQ below (PostI D A (MW ca ad out.2) out.1) av s 0 0 A := ⟨_, rfl⟩
  rw [← hQ]
  have hx := C.1
  have hb := C.2.1
  have b119 : ∀ (σ : St) (x8 : Int32), f_X11_spells_b119 σ x8 = some out → Bk p l e rm_X11_spells s m av below meth c A D 10 Q (MW ca ad σ) 119 [(8, .int x8)] [] := by
    intro σ x8 h H locs ls w hl
    unfold f_X11_spells_b119 at h
    refine lv_iload hx hb dX11_spells_119 (lv_at hl 0 rfl) ?_
    obtain ⟨z1, h⟩ := cz_t h
    rw [hQ]
    exact rZ (F := MW ca ad) C w z1 h dX11_spells_121
  have L26 : ∀ (n26 : Nat) (σ : St) (x1 : Int32) (x2 : Int32) (x3 : Int32) (x4 : Int32) (x5 : Int32) (x6 : Int32) (x7 : Int32) (x8 : Int32) (x9 : Int32), f_X11_spells_L26 n26 σ x1 x2 x3 x4 x5 x6 x7 x8 x9 = some out → Bk p l e rm_X11_spells s m av below meth c A D 10 Q (MW ca ad σ) 26 [(0, .ref (ad 0)), (1, .int x1), (2, .int x2), (3, .int x3), (4, .int x4), (5, .int x5), (6, .int x6), (7, .int x7), (8, .int x8), (9, .int x9)] [] := by
    intro n26
    induction n26 with
    | zero => intro σ x1 x2 x3 x4 x5 x6 x7 x8 x9 h; exact absurd h (by simp [f_X11_spells_L26])
    | succ n26 ih26 =>
      have b111 : ∀ (σ : St) (x1 : Int32) (x2 : Int32) (x3 : Int32) (x4 : Int32) (x5 : Int32) (x6 : Int32) (x7 : Int32) (x9 : Int32) (y0 : Int32), f_X11_spells_b111 (f_X11_spells_L26 n26) σ x1 x2 x3 x4 x5 x6 x7 x9 y0 = some out → Bk p l e rm_X11_spells s m av below meth c A D 10 Q (MW ca ad σ) 111 [(0, .ref (ad 0)), (1, .int x1), (2, .int x2), (3, .int x3), (4, .int x4), (5, .int x5), (6, .int x6), (7, .int x7), (9, .int x9)] [.int y0] := by
        intro σ x1 x2 x3 x4 x5 x6 x7 x9 y0 h H locs ls w hl
        unfold f_X11_spells_b111 at h
        refine lv_istore (lv' := [(8, .int y0), (0, .ref (ad 0)), (1, .int x1), (2, .int x2), (3, .int x3), (4, .int x4), (5, .int x5), (6, .int x6), (7, .int x7), (9, .int x9)]) hx hb dX11_spells_111 hl (by decide) rfl (fun ls hl => ?_)
        refine lv_iinc (v := (x9 + (1 : Int32))) (lv' := [(9, .int (x9 + (1 : Int32))), (8, .int y0), (0, .ref (ad 0)), (1, .int x1), (2, .int x2), (3, .int x3), (4, .int x4), (5, .int x5), (6, .int x6), (7, .int x7)]) hx hb dX11_spells_113 hl (k := 9) rfl rfl (by decide) rfl (fun ls hl => ?_)
        refine lv_goto (tgt := 26) hx hb dX11_spells_116 (by decide) ?_
        exact ih26 _ _ _ _ _ _ _ _ _ _ h _ _ _ w (lv_sub hl [2, 3, 4, 5, 6, 7, 8, 9, 1, 0] rfl)
      have b103 : ∀ (σ : St) (x1 : Int32) (x2 : Int32) (x3 : Int32) (x4 : Int32) (x5 : Int32) (x6 : Int32) (x7 : Int32) (x9 : Int32) (y0 : Int32) (y1 : Int32), f_X11_spells_b103 (f_X11_spells_L26 n26) σ x1 x2 x3 x4 x5 x6 x7 x9 y0 y1 = some out → Bk p l e rm_X11_spells s m av below meth c A D 10 Q (MW ca ad σ) 103 [(0, .ref (ad 0)), (1, .int x1), (2, .int x2), (3, .int x3), (4, .int x4), (5, .int x5), (6, .int x6), (7, .int x7), (9, .int x9)] [.int y0, .int y1] := by
        intro σ x1 x2 x3 x4 x5 x6 x7 x9 y0 y1 h H locs ls w hl
        unfold f_X11_spells_b103 at h
        refine lv_icmp_ne (tgt := 110) hx hb dX11_spells_103 (by decide) (fun c1 => ?_) (fun c1 => ?_)
        · have h := it_f h c1
          refine lv_iconst (v := 0) hx hb dX11_spells_110 (by decide) ?_
          exact b111 _ _ _ _ _ _ _ _ _ _ h _ _ _ w (lv_sub hl [0, 1, 2, 3, 4, 5, 6, 7, 8] rfl)
        · have h := it_t h c1
          refine lv_iconst (v := 1) hx hb dX11_spells_106 (by decide) ?_
          refine lv_goto (tgt := 111) hx hb dX11_spells_107 (by decide) ?_
          exact b111 _ _ _ _ _ _ _ _ _ _ h _ _ _ w (lv_sub hl [0, 1, 2, 3, 4, 5, 6, 7, 8] rfl)
      intro σ x1 x2 x3 x4 x5 x6 x7 x8 x9 h H locs ls w hl
      change f_X11_spells_b26 (f_X11_spells_L26 n26) σ x1 x2 x3 x4 x5 x6 x7 x8 x9 = some out at h
      unfold f_X11_spells_b26 at h
      refine lv_iload hx hb dX11_spells_26 (lv_at hl 9 rfl) ?_
      refine lv_iload_n hx hb dX11_spells_28 rfl (lv_at hl 1 rfl) ?_
      refine lv_icmp_ge (tgt := 119) hx hb dX11_spells_29 (by decide) (fun c1 => ?_) (fun c1 => ?_)
      · have h := it_t h c1
        exact b119 _ _ h _ _ _ w (lv_sub hl [8] rfl)
      · have h := it_f h c1
        refine lv_iload hx hb dX11_spells_32 (lv_at hl 8 rfl) ?_
        refine lv_if_eq (tgt := 119) hx hb dX11_spells_34 (by decide) (fun c2 => ?_) (fun c2 => ?_)
        · have h := it_t h c2
          exact b119 _ _ h _ _ _ w (lv_sub hl [8] rfl)
        · have h := it_f h c2
          refine lv_aload_n hx hb dX11_spells_37 rfl (lv_at hl 0 rfl) ?_
          refine gM0_17 C w wl_103 dX11_spells_38 ?_
          refine lv_aload_n hx hb dX11_spells_41 rfl (lv_at hl 0 rfl) ?_
          refine gM0_19 (v := (σ.1 19)) C w rfl wl_345 dX11_spells_42 ?_
          refine lv_iload hx hb dX11_spells_45 (lv_at hl 9 rfl) ?_
          refine lv_iadd hx hb dX11_spells_47 ?_
          obtain ⟨i3, h⟩ := ck_t h
          refine ldM9 (v := (σ.2.2 9 (((σ.1 19) + x9)).toNatClampNeg)) C w i3 rfl dX11_spells_48 ?_
          refine lv_iload hx hb dX11_spells_49 (lv_at hl 9 rfl) ?_
          refine lv_if_ne (tgt := 58) hx hb dX11_spells_51 (by decide) (fun c4 => ?_) (fun c4 => ?_)
          · have h := it_f h c4
            refine lv_iload hx hb dX11_spells_58 (lv_at hl 9 rfl) ?_
            refine lv_iconst (v := 1) hx hb dX11_spells_60 (by decide) ?_
            refine lv_icmp_ne (tgt := 68) hx hb dX11_spells_61 (by decide) (fun c5 => ?_) (fun c5 => ?_)
            · have h := it_f h c5
              refine lv_iload hx hb dX11_spells_68 (lv_at hl 9 rfl) ?_
              refine lv_iconst (v := 2) hx hb dX11_spells_70 (by decide) ?_
              refine lv_icmp_ne (tgt := 79) hx hb dX11_spells_71 (by decide) (fun c6 => ?_) (fun c6 => ?_)
              · have h := it_f h c6
                refine lv_iload hx hb dX11_spells_79 (lv_at hl 9 rfl) ?_
                refine lv_iconst (v := 3) hx hb dX11_spells_81 (by decide) ?_
                refine lv_icmp_ne (tgt := 90) hx hb dX11_spells_82 (by decide) (fun c7 => ?_) (fun c7 => ?_)
                · have h := it_f h c7
                  refine lv_iload hx hb dX11_spells_90 (lv_at hl 9 rfl) ?_
                  refine lv_iconst (v := 4) hx hb dX11_spells_92 (by decide) ?_
                  refine lv_icmp_ne (tgt := 101) hx hb dX11_spells_93 (by decide) (fun c8 => ?_) (fun c8 => ?_)
                  · have h := it_f h c8
                    refine lv_iload hx hb dX11_spells_101 (lv_at hl 7 rfl) ?_
                    exact b103 _ _ _ _ _ _ _ _ _ _ _ h _ _ _ w (lv_sub hl [0, 1, 2, 3, 4, 5, 6, 7, 9] rfl)
                  · have h := it_t h c8
                    refine lv_iload hx hb dX11_spells_96 (lv_at hl 6 rfl) ?_
                    refine lv_goto (tgt := 103) hx hb dX11_spells_98 (by decide) ?_
                    exact b103 _ _ _ _ _ _ _ _ _ _ _ h _ _ _ w (lv_sub hl [0, 1, 2, 3, 4, 5, 6, 7, 9] rfl)
                · have h := it_t h c7
                  refine lv_iload hx hb dX11_spells_85 (lv_at hl 5 rfl) ?_
                  refine lv_goto (tgt := 103) hx hb dX11_spells_87 (by decide) ?_
                  exact b103 _ _ _ _ _ _ _ _ _ _ _ h _ _ _ w (lv_sub hl [0, 1, 2, 3, 4, 5, 6, 7, 9] rfl)
              · have h := it_t h c6
                refine lv_iload hx hb dX11_spells_74 (lv_at hl 4 rfl) ?_
                refine lv_goto (tgt := 103) hx hb dX11_spells_76 (by decide) ?_
                exact b103 _ _ _ _ _ _ _ _ _ _ _ h _ _ _ w (lv_sub hl [0, 1, 2, 3, 4, 5, 6, 7, 9] rfl)
            · have h := it_t h c5
              refine lv_iload_n hx hb dX11_spells_64 rfl (lv_at hl 3 rfl) ?_
              refine lv_goto (tgt := 103) hx hb dX11_spells_65 (by decide) ?_
              exact b103 _ _ _ _ _ _ _ _ _ _ _ h _ _ _ w (lv_sub hl [0, 1, 2, 3, 4, 5, 6, 7, 9] rfl)
          · have h := it_t h c4
            refine lv_iload_n hx hb dX11_spells_54 rfl (lv_at hl 2 rfl) ?_
            refine lv_goto (tgt := 103) hx hb dX11_spells_55 (by decide) ?_
            exact b103 _ _ _ _ _ _ _ _ _ _ _ h _ _ _ w (lv_sub hl [0, 1, 2, 3, 4, 5, 6, 7, 9] rfl)
  have b21 : ∀ (σ : St) (x1 : Int32) (x2 : Int32) (x3 : Int32) (x4 : Int32) (x5 : Int32) (x6 : Int32) (x7 : Int32) (y0 : Int32), f_X11_spells_b21 σ x1 x2 x3 x4 x5 x6 x7 y0 = some out → Bk p l e rm_X11_spells s m av below meth c A D 10 Q (MW ca ad σ) 21 [(0, .ref (ad 0)), (1, .int x1), (2, .int x2), (3, .int x3), (4, .int x4), (5, .int x5), (6, .int x6), (7, .int x7)] [.int y0] := by
    intro σ x1 x2 x3 x4 x5 x6 x7 y0 h H locs ls w hl
    unfold f_X11_spells_b21 at h
    refine lv_istore (lv' := [(8, .int y0), (0, .ref (ad 0)), (1, .int x1), (2, .int x2), (3, .int x3), (4, .int x4), (5, .int x5), (6, .int x6), (7, .int x7)]) hx hb dX11_spells_21 hl (by decide) rfl (fun ls hl => ?_)
    refine lv_iconst (v := 0) hx hb dX11_spells_23 (by decide) ?_
    refine lv_istore (lv' := [(9, .int (0 : Int32)), (8, .int y0), (0, .ref (ad 0)), (1, .int x1), (2, .int x2), (3, .int x3), (4, .int x4), (5, .int x5), (6, .int x6), (7, .int x7)]) hx hb dX11_spells_24 hl (by decide) rfl (fun ls hl => ?_)
    exact L26 FU _ _ _ _ _ _ _ _ _ _ h _ _ _ w (lv_sub hl [2, 3, 4, 5, 6, 7, 8, 9, 1, 0] rfl)
  have b20 : ∀ (σ : St) (x1 : Int32) (x2 : Int32) (x3 : Int32) (x4 : Int32) (x5 : Int32) (x6 : Int32) (x7 : Int32), f_X11_spells_b20 σ x1 x2 x3 x4 x5 x6 x7 = some out → Bk p l e rm_X11_spells s m av below meth c A D 10 Q (MW ca ad σ) 20 [(0, .ref (ad 0)), (1, .int x1), (2, .int x2), (3, .int x3), (4, .int x4), (5, .int x5), (6, .int x6), (7, .int x7)] [] := by
    intro σ x1 x2 x3 x4 x5 x6 x7 h H locs ls w hl
    unfold f_X11_spells_b20 at h
    refine lv_iconst (v := 0) hx hb dX11_spells_20 (by decide) ?_
    exact b21 _ _ _ _ _ _ _ _ _ h _ _ _ w (lv_sub hl [0, 1, 2, 3, 4, 5, 6, 7] rfl)
  have h := hf
  unfold f_X11_spells at h
  refine lv_aload_n hx hb dX11_spells_0 rfl (lv_at hl 0 rfl) ?_
  refine gM0_21 (v := (σ.1 21)) C w rfl wl_346 dX11_spells_1 ?_
  refine lv_iconst (v := 1) hx hb dX11_spells_4 (by decide) ?_
  refine lv_icmp_ne (tgt := 20) hx hb dX11_spells_5 (by decide) (fun c1 => ?_) (fun c1 => ?_)
  · have h := it_f h c1
    exact b20 _ _ _ _ _ _ _ _ h _ _ _ w (lv_sub hl [0, 1, 2, 3, 4, 5, 6, 7] rfl)
  · have h := it_t h c1
    refine lv_aload_n hx hb dX11_spells_8 rfl (lv_at hl 0 rfl) ?_
    refine gM0_20 (v := (σ.1 20)) C w rfl wl_351 dX11_spells_9 ?_
    refine lv_iload_n hx hb dX11_spells_12 rfl (lv_at hl 1 rfl) ?_
    refine lv_icmp_ne (tgt := 20) hx hb dX11_spells_13 (by decide) (fun c2 => ?_) (fun c2 => ?_)
    · have h := it_f h c2
      exact b20 _ _ _ _ _ _ _ _ h _ _ _ w (lv_sub hl [0, 1, 2, 3, 4, 5, 6, 7] rfl)
    · have h := it_t h c2
      refine lv_iconst (v := 1) hx hb dX11_spells_16 (by decide) ?_
      refine lv_goto (tgt := 21) hx hb dX11_spells_17 (by decide) ?_
      exact b21 _ _ _ _ _ _ _ _ _ h _ _ _ w (lv_sub hl [0, 1, 2, 3, 4, 5, 6, 7] rfl)
theorem hd_X11_takes : yX11_takes.cls = RX11 ∧ yX11_takes.cls ≠ "java/lang/invoke/MethodHandle" ∧ yX11_takes.cls ≠ "java/lang/invoke/VarHandle" ∧ (parseMethodDescriptor yX11_takes.desc).map (fun d => d.parameters.length) = some 3 := by decide +kernel
def f_X11_takes (σ : St) (x1 : Int32) (x2 : Int32) (x3 : Int32) : Option (Int32 × St) := if (σ.1 21) = (2 : Int32) then ((f_X11_in (((σ.1 22)).toInt64) x2.toInt64 x3.toInt64).bind fun q1 => if q1 = 0 then (some ((0 : Int32), σ)) else (cond (ckI x1 2) ((f_X11_goBehind (sE σ 11 x1.toNatClampNeg (σ.1 22))).bind fun q2 => some ((1 : Int32), q2)) none)) else (some ((0 : Int32), σ))
abbrev rm_X11_takes : Room := { frames := 4, cells := 0, slots := 0, locals := 240 }
set_option maxHeartbeats 4000000 in
set_option maxRecDepth 100000 in
theorem c_X11_takes (l : Launch) (D : va_G) (ca : Nat → ClassId) (ad : Nat → Nat) (σ : St) (x1 : Int32) (x2 : Int32) (x3 : Int32) (sz : Nat) (out : Int32 × St) (hf : f_X11_takes σ x1 x2 x3 = some out) : Met l yX11_takes (.code yX11_takes cX11_takes 4 (some .boolean) :: WL) rm_X11_takes (PreC D ca (MW ca ad σ) sz [.ref (ad 0), .int x1, .int x2, .int x3]) (PostI D (va_A (MW ca ad σ) sz) (MW ca ad out.2) out.1) 0 0 (va_A (MW ca ad σ) sz) := by
  refine Met.ofW (cc := cX11_takes) (maxL := 4) (ret := (some .boolean)) (by decide) rfl ?_
  intro p e s m args below meth c s₁ B hml hv
  obtain ⟨rfl, hsz, hP, hK, hD, hN⟩ := hv
  subst hsz
  have C := Cx.mk (own := RX11) B hml rfl hK hN (ws := (MW ca ad σ))
  have w : Wd (va_A (MW ca ad σ) s.heap.size) s D (MW ca ad σ) s.heap [] := ⟨hP, hD.self, va_S.rf⟩
  have hl := lv_entry ([.ref (ad 0), .int x1, .int x2, .int x3]) (n := 4) (Nat.le_of_ble_eq_true rfl)
  rw [lg_entry_eq]
  generalize (lg_sl ([.ref (ad 0), .int x1, .int x2, .int x3]) ++ List.replicate (4 - (lg_sl ([.ref (ad 0), .int x1, .int x2, .int x3])).length) Slot.unset).toArray = ls at hl ⊢
  have hl : lv_has ls 4 [(0, .ref (ad 0)), (1, .int x1), (2, .int x2), (3, .int x3)] := hl
  change W p l e rm_X11_takes s m _ below meth c _ [] 0 0 _ _
  clear B hP hD hK hN hml
  generalize va_A (MW ca ad σ) s.heap.size = A at C w ⊢
  generalize ([.ref (ad 0), .int x1, .int x2, .int x3] : List Value).toArray = av at C ⊢
  obtain ⟨Q, hQ⟩ : ∃ Q, Q = MQ below (PostI D A (MW ca ad out.2) out.1) av s 0 0 A := ⟨_, rfl⟩
  rw [← hQ]
  have hx := C.1
  have hb := C.2.1
  have h := hf
  unfold f_X11_takes at h
  refine lv_aload_n hx hb dX11_takes_0 rfl (lv_at hl 0 rfl) ?_
  refine gM0_21 (v := (σ.1 21)) C w rfl wl_346 dX11_takes_1 ?_
  refine lv_iconst (v := 2) hx hb dX11_takes_4 (by decide) ?_
  refine lv_icmp_ne (tgt := 23) hx hb dX11_takes_5 (by decide) (fun c1 => ?_) (fun c1 => ?_)
  · have h := it_f h c1
    refine lv_iconst (v := 0) hx hb dX11_takes_23 (by decide) ?_
    rw [hQ]
    exact rZ (F := MW ca ad) C w (by decide) h dX11_takes_24
  · have h := it_t h c1
    refine lv_aload_n hx hb dX11_takes_8 rfl (lv_at hl 0 rfl) ?_
    refine gM0_22 (v := (σ.1 22)) C w rfl wl_352 dX11_takes_9 ?_
    refine lv_i2l hx hb dX11_takes_12 rfl ?_
    refine lv_iload_n hx hb dX11_takes_13 rfl (lv_at hl 2 rfl) ?_
    refine lv_i2l hx hb dX11_takes_14 rfl ?_
    refine lv_iload_n hx hb dX11_takes_15 rfl (lv_at hl 3 rfl) ?_
    refine lv_i2l hx hb dX11_takes_16 rfl ?_
    obtain ⟨q1, hq1, h⟩ := ob_t h
    refine res_i C w (run_S (As := [.long (((σ.1 22)).toInt64), .long x2.toInt64, .long x3.toInt64]) (rest := []) C w hl.1 (c_X11_in l D ca _ (((σ.1 22)).toInt64) x2.toInt64 x3.toInt64 _ q1 hq1) rfl rfl wl_137 wl_138 wl_5 wl_139 hd_X11_in rfl ⟨Nat.le_of_ble_eq_true rfl, Nat.le_of_ble_eq_true rfl⟩ rfl (Nat.le_of_ble_eq_true rfl) dX11_takes_17) (fun H locs w => ?_)
    refine lv_if_ne (tgt := 25) hx hb dX11_takes_20 (by decide) (fun c2 => ?_) (fun c2 => ?_)
    · have h := it_f h c2
      refine lv_aload_n hx hb dX11_takes_25 rfl (lv_at hl 0 rfl) ?_
      refine gM0_24 C w wl_105 dX11_takes_26 ?_
      refine lv_iload_n hx hb dX11_takes_29 rfl (lv_at hl 1 rfl) ?_
      refine lv_aload_n hx hb dX11_takes_30 rfl (lv_at hl 0 rfl) ?_
      refine gM0_22 (v := (σ.1 22)) C w rfl wl_352 dX11_takes_31 ?_
      obtain ⟨i3, h⟩ := ck_t h
      refine stM11 (j := x1.toNatClampNeg) C w i3 rfl dX11_takes_34 (fun H locs w => ?_)
      refine lv_aload_n hx hb dX11_takes_35 rfl (lv_at hl 0 rfl) ?_
      obtain ⟨q2, hq2, h⟩ := ob_t h
      refine res_v C w (run_V (As := []) (rest := []) C w hl.1 (recvM0 C w) (c_X11_goBehind l D ca ad _  _ q2 hq2) rfl rfl wl_371 wl_372 wl_373 wl_5 wl_374 hd_X11_goBehind rfl ⟨Nat.le_of_ble_eq_true rfl, Nat.le_of_ble_eq_true rfl⟩ rfl (Nat.le_of_ble_eq_true rfl) dX11_takes_36) (fun H locs w => ?_)
      refine lv_iconst (v := 1) hx hb dX11_takes_39 (by decide) ?_
      rw [hQ]
      exact rZ (F := MW ca ad) C w (by decide) h dX11_takes_40
    · have h := it_t h c2
      refine lv_iconst (v := 0) hx hb dX11_takes_23 (by decide) ?_
      rw [hQ]
      exact rZ (F := MW ca ad) C w (by decide) h dX11_takes_24
def f_X11_begin_10_b2 (K2 : St → Int32 → Int32 → Option (St)) (σ : St) (x1 : Int32) (x2 : Int32) : Option (St) := if (68 : Int32) ≤ x2 then (some (sE σ 10 2 x1)) else (cond (ckI x2 68) (K2 (sE σ 10 x2.toNatClampNeg (0 : Int32)) x1 (x2 + (1 : Int32))) none)
def f_X11_begin_10_L2 : Nat → St → Int32 → Int32 → Option (St)
  | 0 => fun _ _ _ => none
  | n + 1 => f_X11_begin_10_b2 (f_X11_begin_10_L2 n)
def f_X11_begin_10 (σ : St) (x1 : Int32) : Option (St) := f_X11_begin_10_L2 FU σ x1 (0 : Int32)
abbrev rm_X11_begin_10 : Room := { frames := 0, cells := 0, slots := 0, locals := 0 }
set_option maxHeartbeats 4000000 in
set_option maxRecDepth 100000 in
theorem c_X11_begin_10 (l : Launch) (D : va_G) (ca : Nat → ClassId) (ad : Nat → Nat) (σ : St) (x1 : Int32) (sz : Nat) (out : St) (hf : f_X11_begin_10 σ x1 = some out) : Met l yX11_begin (.code yX11_begin cX11_begin 3 none :: WL) rm_X11_begin_10 (PreC D ca (MW ca ad σ) sz [.ref (ad 10), .int x1]) (PostV D (va_A (MW ca ad σ) sz) (MW ca ad out)) 0 0 (va_A (MW ca ad σ) sz) := by
  refine Met.ofW (cc := cX11_begin) (maxL := 3) (ret := none) (by decide) rfl ?_
  intro p e s m args below meth c s₁ B hml hv
  obtain ⟨rfl, hsz, hP, hK, hD, hN⟩ := hv
  subst hsz
  have C := Cx.mk (own := RX11) B hml rfl hK hN (ws := (MW ca ad σ))
  have w : Wd (va_A (MW ca ad σ) s.heap.size) s D (MW ca ad σ) s.heap [] := ⟨hP, hD.self, va_S.rf⟩
  have hl := lv_entry ([.ref (ad 10), .int x1]) (n := 3) (Nat.le_of_ble_eq_true rfl)
  rw [lg_entry_eq]
  generalize (lg_sl ([.ref (ad 10), .int x1]) ++ List.replicate (3 - (lg_sl ([.ref (ad 10), .int x1])).length) Slot.unset).toArray = ls at hl ⊢
  have hl : lv_has ls 3 [(0, .ref (ad 10)), (1, .int x1)] := hl
  change W p l e rm_X11_begin_10 s m _ below meth c _ [] 0 0 _ _
  clear B hP hD hK hN hml
  generalize va_A (MW ca ad σ) s.heap.size = A at C w ⊢
  generalize ([.ref (ad 10), .int x1] : List Value).toArray = av at C ⊢
  obtain ⟨Q, hQ⟩ : ∃ Q, Q = MQ below (PostV D A (MW ca ad out)) av s 0 0 A := ⟨_, rfl⟩
  rw [← hQ]
  have hx := C.1
  have hb := C.2.1
  have L2 : ∀ (n2 : Nat) (σ : St) (x1 : Int32) (x2 : Int32), f_X11_begin_10_L2 n2 σ x1 x2 = some out → Bk p l e rm_X11_begin_10 s m av below meth c A D 3 Q (MW ca ad σ) 2 [(0, .ref (ad 10)), (1, .int x1), (2, .int x2)] [] := by
    intro n2
    induction n2 with
    | zero => intro σ x1 x2 h; exact absurd h (by simp [f_X11_begin_10_L2])
    | succ n2 ih2 =>
      intro σ x1 x2 h H locs ls w hl
      change f_X11_begin_10_b2 (f_X11_begin_10_L2 n2) σ x1 x2 = some out at h
      unfold f_X11_begin_10_b2 at h
      refine lv_iload_n hx hb dX11_begin_2 rfl (lv_at hl 2 rfl) ?_
      refine lv_bipush (v := 68) hx hb dX11_begin_3 (by decide) ?_
      refine lv_icmp_ge (tgt := 18) hx hb dX11_begin_5 (by decide) (fun c1 => ?_) (fun c1 => ?_)
      · have h := it_t h c1
        refine lv_aload_n hx hb dX11_begin_18 rfl (lv_at hl 0 rfl) ?_
        refine lv_iconst (v := 2) hx hb dX11_begin_19 (by decide) ?_
        refine lv_iload_n hx hb dX11_begin_20 rfl (lv_at hl 1 rfl) ?_
        refine stM10 (j := 2) C w (vl (by decide)) rfl dX11_begin_21 (fun H locs w => ?_)
        rw [hQ]
        exact rV (F := MW ca ad) C w h dX11_begin_22
      · have h := it_f h c1
        refine lv_aload_n hx hb dX11_begin_8 rfl (lv_at hl 0 rfl) ?_
        refine lv_iload_n hx hb dX11_begin_9 rfl (lv_at hl 2 rfl) ?_
        refine lv_iconst (v := 0) hx hb dX11_begin_10 (by decide) ?_
        obtain ⟨i2, h⟩ := ck_t h
        refine stM10 (j := x2.toNatClampNeg) C w i2 rfl dX11_begin_11 (fun H locs w => ?_)
        refine lv_iinc (v := (x2 + (1 : Int32))) (lv' := [(2, .int (x2 + (1 : Int32))), (0, .ref (ad 10)), (1, .int x1)]) hx hb dX11_begin_12 hl (k := 2) rfl rfl (by decide) rfl (fun ls hl => ?_)
        refine lv_goto (tgt := 2) hx hb dX11_begin_15 (by decide) ?_
        exact ih2 _ _ _ h _ _ _ w (lv_sub hl [1, 2, 0] rfl)
  have h := hf
  unfold f_X11_begin_10 at h
  refine lv_iconst (v := 0) hx hb dX11_begin_0 (by decide) ?_
  refine lv_istore_n (lv' := [(2, .int (0 : Int32)), (0, .ref (ad 10)), (1, .int x1)]) hx hb dX11_begin_1 rfl hl (by decide) rfl (fun ls hl => ?_)
  exact L2 FU _ _ _ h _ _ _ w (lv_sub hl [1, 2, 0] rfl)
theorem hd_X11_takesWood : yX11_takesWood.cls = RX11 ∧ yX11_takesWood.cls ≠ "java/lang/invoke/MethodHandle" ∧ yX11_takesWood.cls ≠ "java/lang/invoke/VarHandle" ∧ (parseMethodDescriptor yX11_takesWood.desc).map (fun d => d.parameters.length) = some 0 := by decide +kernel
def f_X11_takesWood (σ : St) : Option (Int32 × St) := (f_X11_spells σ (4 : Int32) (119 : Int32) (111 : Int32) (111 : Int32) (100 : Int32) (0 : Int32) (0 : Int32)).bind fun q1 => if q1.1 = 0 then (some ((0 : Int32), q1.2)) else ((f_X11_goBehind q1.2).bind fun q2 => (f_X11_takes q2 (0 : Int32) (0 : Int32) (99 : Int32)).bind fun q3 => if q3.1 = 0 then (some ((0 : Int32), q3.2)) else ((f_X11_begin_10 q3.2 (q3.2.2.2 11 0)).bind fun q4 => if (q4.1 21) = (3 : Int32) then (some ((1 : Int32), q4)) else (some ((0 : Int32), q4))))
abbrev rm_X11_takesWood : Room := { frames := 5, cells := 0, slots := 0, locals := 300 }
set_option maxHeartbeats 4000000 in
set_option maxRecDepth 100000 in
theorem c_X11_takesWood (l : Launch) (D : va_G) (ca : Nat → ClassId) (ad : Nat → Nat) (σ : St)  (sz : Nat) (out : Int32 × St) (hf : f_X11_takesWood σ  = some out) : Met l yX11_takesWood (.code yX11_takesWood cX11_takesWood 1 (some .boolean) :: WL) rm_X11_takesWood (PreC D ca (MW ca ad σ) sz [.ref (ad 0)]) (PostI D (va_A (MW ca ad σ) sz) (MW ca ad out.2) out.1) 0 0 (va_A (MW ca ad σ) sz) := by
  refine Met.ofW (cc := cX11_takesWood) (maxL := 1) (ret := (some .boolean)) (by decide) rfl ?_
  intro p e s m args below meth c s₁ B hml hv
  obtain ⟨rfl, hsz, hP, hK, hD, hN⟩ := hv
  subst hsz
  have C := Cx.mk (own := RX11) B hml rfl hK hN (ws := (MW ca ad σ))
  have w : Wd (va_A (MW ca ad σ) s.heap.size) s D (MW ca ad σ) s.heap [] := ⟨hP, hD.self, va_S.rf⟩
  have hl := lv_entry ([.ref (ad 0)]) (n := 1) (Nat.le_of_ble_eq_true rfl)
  rw [lg_entry_eq]
  generalize (lg_sl ([.ref (ad 0)]) ++ List.replicate (1 - (lg_sl ([.ref (ad 0)])).length) Slot.unset).toArray = ls at hl ⊢
  have hl : lv_has ls 1 [(0, .ref (ad 0))] := hl
  change W p l e rm_X11_takesWood s m _ below meth c _ [] 0 0 _ _
  clear B hP hD hK hN hml
  generalize va_A (MW ca ad σ) s.heap.size = A at C w ⊢
  generalize ([.ref (ad 0)] : List Value).toArray = av at C ⊢
  obtain ⟨Q, hQ⟩ : ∃ Q, Q = MQ below (PostI D A (MW ca ad out.2) out.1) av s 0 0 A := ⟨_, rfl⟩
  rw [← hQ]
  have hx := C.1
  have hb := C.2.1
  have h := hf
  unfold f_X11_takesWood at h
  refine lv_aload_n hx hb dX11_takesWood_0 rfl (lv_at hl 0 rfl) ?_
  refine lv_iconst (v := 4) hx hb dX11_takesWood_1 (by decide) ?_
  refine lv_bipush (v := 119) hx hb dX11_takesWood_2 (by decide) ?_
  refine lv_bipush (v := 111) hx hb dX11_takesWood_4 (by decide) ?_
  refine lv_bipush (v := 111) hx hb dX11_takesWood_6 (by decide) ?_
  refine lv_bipush (v := 100) hx hb dX11_takesWood_8 (by decide) ?_
  refine lv_iconst (v := 0) hx hb dX11_takesWood_10 (by decide) ?_
  refine lv_iconst (v := 0) hx hb dX11_takesWood_11 (by decide) ?_
  obtain ⟨q1, hq1, h⟩ := ob_t h
  refine res_i C w (run_V (As := [.int (4 : Int32), .int (119 : Int32), .int (111 : Int32), .int (111 : Int32), .int (100 : Int32), .int (0 : Int32), .int (0 : Int32)]) (rest := []) C w hl.1 (recvM0 C w) (c_X11_spells l D ca ad _ (4 : Int32) (119 : Int32) (111 : Int32) (111 : Int32) (100 : Int32) (0 : Int32) (0 : Int32) _ q1 hq1) rfl rfl wl_367 wl_368 wl_369 wl_5 wl_370 hd_X11_spells rfl ⟨Nat.le_of_ble_eq_true rfl, Nat.le_of_ble_eq_true rfl⟩ rfl (Nat.le_of_ble_eq_true rfl) dX11_takesWood_12) (fun H locs w => ?_)
  refine lv_if_ne (tgt := 20) hx hb dX11_takesWood_15 (by decide) (fun c1 => ?_) (fun c1 => ?_)
  · have h := it_f h c1
    refine lv_aload_n hx hb dX11_takesWood_20 rfl (lv_at hl 0 rfl) ?_
    obtain ⟨q2, hq2, h⟩ := ob_t h
    refine res_v C w (run_V (As := []) (rest := []) C w hl.1 (recvM0 C w) (c_X11_goBehind l D ca ad _  _ q2 hq2) rfl rfl wl_371 wl_372 wl_373 wl_5 wl_374 hd_X11_goBehind rfl ⟨Nat.le_of_ble_eq_true rfl, Nat.le_of_ble_eq_true rfl⟩ rfl (Nat.le_of_ble_eq_true rfl) dX11_takesWood_21) (fun H locs w => ?_)
    refine lv_aload_n hx hb dX11_takesWood_24 rfl (lv_at hl 0 rfl) ?_
    refine lv_iconst (v := 0) hx hb dX11_takesWood_25 (by decide) ?_
    refine lv_iconst (v := 0) hx hb dX11_takesWood_26 (by decide) ?_
    refine lv_bipush (v := 99) hx hb dX11_takesWood_27 (by decide) ?_
    obtain ⟨q3, hq3, h⟩ := ob_t h
    refine res_i C w (run_V (As := [.int (0 : Int32), .int (0 : Int32), .int (99 : Int32)]) (rest := []) C w hl.1 (recvM0 C w) (c_X11_takes l D ca ad _ (0 : Int32) (0 : Int32) (99 : Int32) _ q3 hq3) rfl rfl wl_375 wl_376 wl_377 wl_5 wl_378 hd_X11_takes rfl ⟨Nat.le_of_ble_eq_true rfl, Nat.le_of_ble_eq_true rfl⟩ rfl (Nat.le_of_ble_eq_true rfl) dX11_takesWood_29) (fun H locs w => ?_)
    refine lv_if_ne (tgt := 37) hx hb dX11_takesWood_32 (by decide) (fun c2 => ?_) (fun c2 => ?_)
    · have h := it_f h c2
      refine lv_aload_n hx hb dX11_takesWood_37 rfl (lv_at hl 0 rfl) ?_
      refine gM0_23 C w wl_104 dX11_takesWood_38 ?_
      refine lv_aload_n hx hb dX11_takesWood_41 rfl (lv_at hl 0 rfl) ?_
      refine gM0_24 C w wl_105 dX11_takesWood_42 ?_
      refine lv_iconst (v := 0) hx hb dX11_takesWood_45 (by decide) ?_
      refine ldM11 (v := (q3.2.2.2 11 0)) C w (vl (by decide)) rfl dX11_takesWood_46 ?_
      obtain ⟨q4, hq4, h⟩ := ob_t h
      refine res_v C w (run_S (As := [.ref (ad 10), .int (q3.2.2.2 11 0)]) (rest := []) C w hl.1 (c_X11_begin_10 l D ca ad _ (q3.2.2.2 11 0) _ q4 hq4) rfl rfl wl_106 wl_107 wl_5 wl_108 hd_X11_begin rfl ⟨Nat.le_of_ble_eq_true rfl, Nat.le_of_ble_eq_true rfl⟩ rfl (Nat.le_of_ble_eq_true rfl) dX11_takesWood_47) (fun H locs w => ?_)
      refine lv_aload_n hx hb dX11_takesWood_50 rfl (lv_at hl 0 rfl) ?_
      refine gM0_21 (v := (q4.1 21)) C w rfl wl_346 dX11_takesWood_51 ?_
      refine lv_iconst (v := 3) hx hb dX11_takesWood_54 (by decide) ?_
      refine lv_icmp_ne (tgt := 62) hx hb dX11_takesWood_55 (by decide) (fun c3 => ?_) (fun c3 => ?_)
      · have h := it_f h c3
        refine lv_iconst (v := 0) hx hb dX11_takesWood_62 (by decide) ?_
        rw [hQ]
        exact rZ (F := MW ca ad) C w (by decide) h dX11_takesWood_63
      · have h := it_t h c3
        refine lv_iconst (v := 1) hx hb dX11_takesWood_58 (by decide) ?_
        refine lv_goto (tgt := 63) hx hb dX11_takesWood_59 (by decide) ?_
        rw [hQ]
        exact rZ (F := MW ca ad) C w (by decide) h dX11_takesWood_63
    · have h := it_t h c2
      refine lv_iconst (v := 0) hx hb dX11_takesWood_35 (by decide) ?_
      rw [hQ]
      exact rZ (F := MW ca ad) C w (by decide) h dX11_takesWood_36
  · have h := it_t h c1
    refine lv_iconst (v := 0) hx hb dX11_takesWood_18 (by decide) ?_
    rw [hQ]
    exact rZ (F := MW ca ad) C w (by decide) h dX11_takesWood_19
theorem hd_X11_takesTree : yX11_takesTree.cls = RX11 ∧ yX11_takesTree.cls ≠ "java/lang/invoke/MethodHandle" ∧ yX11_takesTree.cls ≠ "java/lang/invoke/VarHandle" ∧ (parseMethodDescriptor yX11_takesTree.desc).map (fun d => d.parameters.length) = some 0 := by decide +kernel
def f_X11_takesTree (σ : St) : Option (Int32 × St) := if (σ.2.2 10 0) = (7 : Int32) then (some ((0 : Int32), σ)) else ((f_X11_goBehind σ).bind fun q1 => (f_X11_takes q1 (0 : Int32) (0 : Int32) (5 : Int32)).bind fun q2 => if q2.1 = 0 then (some ((0 : Int32), q2.2)) else (cond (ckI ((6 : Int32) + (q2.2.2.2 10 0)) 68) (some ((1 : Int32), (sE (sE q2.2 10 ((((6 : Int32) + (q2.2.2.2 10 0))).toNatClampNeg) (q2.2.2.2 11 0)) 10 0 (((sE q2.2 10 ((((6 : Int32) + (q2.2.2.2 10 0))).toNatClampNeg) (q2.2.2.2 11 0)).2.2 10 0) + (1 : Int32))))) none))
abbrev rm_X11_takesTree : Room := { frames := 5, cells := 0, slots := 0, locals := 300 }
set_option maxHeartbeats 4000000 in
set_option maxRecDepth 100000 in
theorem c_X11_takesTree (l : Launch) (D : va_G) (ca : Nat → ClassId) (ad : Nat → Nat) (σ : St)  (sz : Nat) (out : Int32 × St) (hf : f_X11_takesTree σ  = some out) : Met l yX11_takesTree (.code yX11_takesTree cX11_takesTree 1 (some .boolean) :: WL) rm_X11_takesTree (PreC D ca (MW ca ad σ) sz [.ref (ad 0)]) (PostI D (va_A (MW ca ad σ) sz) (MW ca ad out.2) out.1) 0 0 (va_A (MW ca ad σ) sz) := by
  refine Met.ofW (cc := cX11_takesTree) (maxL := 1) (ret := (some .boolean)) (by decide) rfl ?_
  intro p e s m args below meth c s₁ B hml hv
  obtain ⟨rfl, hsz, hP, hK, hD, hN⟩ := hv
  subst hsz
  have C := Cx.mk (own := RX11) B hml rfl hK hN (ws := (MW ca ad σ))
  have w : Wd (va_A (MW ca ad σ) s.heap.size) s D (MW ca ad σ) s.heap [] := ⟨hP, hD.self, va_S.rf⟩
  have hl := lv_entry ([.ref (ad 0)]) (n := 1) (Nat.le_of_ble_eq_true rfl)
  rw [lg_entry_eq]
  generalize (lg_sl ([.ref (ad 0)]) ++ List.replicate (1 - (lg_sl ([.ref (ad 0)])).length) Slot.unset).toArray = ls at hl ⊢
  have hl : lv_has ls 1 [(0, .ref (ad 0))] := hl
  change W p l e rm_X11_takesTree s m _ below meth c _ [] 0 0 _ _
  clear B hP hD hK hN hml
  generalize va_A (MW ca ad σ) s.heap.size = A at C w ⊢
  generalize ([.ref (ad 0)] : List Value).toArray = av at C ⊢
  obtain ⟨Q, hQ⟩ : ∃ Q, Q = MQ below (PostI D A (MW ca ad out.2) out.1) av s 0 0 A := ⟨_, rfl⟩
  rw [← hQ]
  have hx := C.1
  have hb := C.2.1
  have h := hf
  unfold f_X11_takesTree at h
  refine lv_aload_n hx hb dX11_takesTree_0 rfl (lv_at hl 0 rfl) ?_
  refine gM0_23 C w wl_104 dX11_takesTree_1 ?_
  refine lv_iconst (v := 0) hx hb dX11_takesTree_4 (by decide) ?_
  refine ldM10 (v := (σ.2.2 10 0)) C w (vl (by decide)) rfl dX11_takesTree_5 ?_
  refine lv_bipush (v := 7) hx hb dX11_takesTree_6 (by decide) ?_
  refine lv_icmp_ne (tgt := 13) hx hb dX11_takesTree_8 (by decide) (fun c1 => ?_) (fun c1 => ?_)
  · have h := it_f h c1
    refine lv_aload_n hx hb dX11_takesTree_13 rfl (lv_at hl 0 rfl) ?_
    obtain ⟨q1, hq1, h⟩ := ob_t h
    refine res_v C w (run_V (As := []) (rest := []) C w hl.1 (recvM0 C w) (c_X11_goBehind l D ca ad _  _ q1 hq1) rfl rfl wl_371 wl_372 wl_373 wl_5 wl_374 hd_X11_goBehind rfl ⟨Nat.le_of_ble_eq_true rfl, Nat.le_of_ble_eq_true rfl⟩ rfl (Nat.le_of_ble_eq_true rfl) dX11_takesTree_14) (fun H locs w => ?_)
    refine lv_aload_n hx hb dX11_takesTree_17 rfl (lv_at hl 0 rfl) ?_
    refine lv_iconst (v := 0) hx hb dX11_takesTree_18 (by decide) ?_
    refine lv_iconst (v := 0) hx hb dX11_takesTree_19 (by decide) ?_
    refine lv_iconst (v := 5) hx hb dX11_takesTree_20 (by decide) ?_
    obtain ⟨q2, hq2, h⟩ := ob_t h
    refine res_i C w (run_V (As := [.int (0 : Int32), .int (0 : Int32), .int (5 : Int32)]) (rest := []) C w hl.1 (recvM0 C w) (c_X11_takes l D ca ad _ (0 : Int32) (0 : Int32) (5 : Int32) _ q2 hq2) rfl rfl wl_375 wl_376 wl_377 wl_5 wl_378 hd_X11_takes rfl ⟨Nat.le_of_ble_eq_true rfl, Nat.le_of_ble_eq_true rfl⟩ rfl (Nat.le_of_ble_eq_true rfl) dX11_takesTree_21) (fun H locs w => ?_)
    refine lv_if_ne (tgt := 29) hx hb dX11_takesTree_24 (by decide) (fun c2 => ?_) (fun c2 => ?_)
    · have h := it_f h c2
      refine lv_aload_n hx hb dX11_takesTree_29 rfl (lv_at hl 0 rfl) ?_
      refine gM0_23 C w wl_104 dX11_takesTree_30 ?_
      refine lv_bipush (v := 6) hx hb dX11_takesTree_33 (by decide) ?_
      refine lv_aload_n hx hb dX11_takesTree_35 rfl (lv_at hl 0 rfl) ?_
      refine gM0_23 C w wl_104 dX11_takesTree_36 ?_
      refine lv_iconst (v := 0) hx hb dX11_takesTree_39 (by decide) ?_
      refine ldM10 (v := (q2.2.2.2 10 0)) C w (vl (by decide)) rfl dX11_takesTree_40 ?_
      refine lv_iadd hx hb dX11_takesTree_41 ?_
      refine lv_aload_n hx hb dX11_takesTree_42 rfl (lv_at hl 0 rfl) ?_
      refine gM0_24 C w wl_105 dX11_takesTree_43 ?_
      refine lv_iconst (v := 0) hx hb dX11_takesTree_46 (by decide) ?_
      refine ldM11 (v := (q2.2.2.2 11 0)) C w (vl (by decide)) rfl dX11_takesTree_47 ?_
      obtain ⟨i3, h⟩ := ck_t h
      refine stM10 (j := (((6 : Int32) + (q2.2.2.2 10 0))).toNatClampNeg) C w i3 rfl dX11_takesTree_48 (fun H locs w => ?_)
      refine lv_aload_n hx hb dX11_takesTree_49 rfl (lv_at hl 0 rfl) ?_
      refine gM0_23 C w wl_104 dX11_takesTree_50 ?_
      refine lv_iconst (v := 0) hx hb dX11_takesTree_53 (by decide) ?_
      refine lv_dup2_11 hx hb dX11_takesTree_54 rfl rfl ?_
      refine ldM10 (v := ((sE q2.2 10 ((((6 : Int32) + (q2.2.2.2 10 0))).toNatClampNeg) (q2.2.2.2 11 0)).2.2 10 0)) C w (vl (by decide)) rfl dX11_takesTree_55 ?_
      refine lv_iconst (v := 1) hx hb dX11_takesTree_56 (by decide) ?_
      refine lv_iadd hx hb dX11_takesTree_57 ?_
      refine stM10 (j := 0) C w (vl (by decide)) rfl dX11_takesTree_58 (fun H locs w => ?_)
      refine lv_iconst (v := 1) hx hb dX11_takesTree_59 (by decide) ?_
      rw [hQ]
      exact rZ (F := MW ca ad) C w (by decide) h dX11_takesTree_60
    · have h := it_t h c2
      refine lv_iconst (v := 0) hx hb dX11_takesTree_27 (by decide) ?_
      rw [hQ]
      exact rZ (F := MW ca ad) C w (by decide) h dX11_takesTree_28
  · have h := it_t h c1
    refine lv_iconst (v := 0) hx hb dX11_takesTree_11 (by decide) ?_
    rw [hQ]
    exact rZ (F := MW ca ad) C w (by decide) h dX11_takesTree_12
def f_X11_layTouch_10_b69 (σ : St) (y0 : Int32) (y1 : Int32) : Option (St) := cond (ckI y1 68) (some (sE σ 10 y1.toNatClampNeg y0)) none
def f_X11_layTouch_10_b34 (σ : St) (x1 : Int32) (x2 : Int32) (x3 : Int32) (y0 : Int32) (y1 : Int32) : Option (St) := cond (ckI y1 68) (if x3 = 0 then (cond (ckI ((13 : Int32) + x2) 68) (f_X11_layTouch_10_b69 (sE σ 10 y1.toNatClampNeg y0) (((sE σ 10 y1.toNatClampNeg y0).2.2 10 (((13 : Int32) + x2)).toNatClampNeg) &&& (((1 : Int32) <<< (x1 &&& 31)) ^^^ (-1 : Int32))) ((13 : Int32) + x2)) none) else (cond (ckI ((13 : Int32) + x2) 68) (f_X11_layTouch_10_b69 (sE σ 10 y1.toNatClampNeg y0) (((sE σ 10 y1.toNatClampNeg y0).2.2 10 (((13 : Int32) + x2)).toNatClampNeg) ||| ((1 : Int32) <<< (x1 &&& 31))) ((13 : Int32) + x2)) none)) none
def f_X11_layTouch_10 (σ : St) (x1 : Int32) (x2 : Int32) (x3 : Int32) : Option (St) := if x3 = 0 then (cond (ckI ((13 : Int32) + x1) 68) (f_X11_layTouch_10_b34 σ x1 x2 x3 ((σ.2.2 10 (((13 : Int32) + x1)).toNatClampNeg) &&& (((1 : Int32) <<< (x2 &&& 31)) ^^^ (-1 : Int32))) ((13 : Int32) + x1)) none) else (cond (ckI ((13 : Int32) + x1) 68) (f_X11_layTouch_10_b34 σ x1 x2 x3 ((σ.2.2 10 (((13 : Int32) + x1)).toNatClampNeg) ||| ((1 : Int32) <<< (x2 &&& 31))) ((13 : Int32) + x1)) none)
abbrev rm_X11_layTouch_10 : Room := { frames := 0, cells := 0, slots := 0, locals := 0 }
set_option maxHeartbeats 4000000 in
set_option maxRecDepth 100000 in
theorem c_X11_layTouch_10 (l : Launch) (D : va_G) (ca : Nat → ClassId) (ad : Nat → Nat) (σ : St) (x1 : Int32) (x2 : Int32) (x3 : Int32) (sz : Nat) (out : St) (hf : f_X11_layTouch_10 σ x1 x2 x3 = some out) : Met l yX11_layTouch (.code yX11_layTouch cX11_layTouch 4 none :: WL) rm_X11_layTouch_10 (PreC D ca (MW ca ad σ) sz [.ref (ad 10), .int x1, .int x2, .int x3]) (PostV D (va_A (MW ca ad σ) sz) (MW ca ad out)) 0 0 (va_A (MW ca ad σ) sz) := by
  refine Met.ofW (cc := cX11_layTouch) (maxL := 4) (ret := none) (by decide) rfl ?_
  intro p e s m args below meth c s₁ B hml hv
  obtain ⟨rfl, hsz, hP, hK, hD, hN⟩ := hv
  subst hsz
  have C := Cx.mk (own := RX11) B hml rfl hK hN (ws := (MW ca ad σ))
  have w : Wd (va_A (MW ca ad σ) s.heap.size) s D (MW ca ad σ) s.heap [] := ⟨hP, hD.self, va_S.rf⟩
  have hl := lv_entry ([.ref (ad 10), .int x1, .int x2, .int x3]) (n := 4) (Nat.le_of_ble_eq_true rfl)
  rw [lg_entry_eq]
  generalize (lg_sl ([.ref (ad 10), .int x1, .int x2, .int x3]) ++ List.replicate (4 - (lg_sl ([.ref (ad 10), .int x1, .int x2, .int x3])).length) Slot.unset).toArray = ls at hl ⊢
  have hl : lv_has ls 4 [(0, .ref (ad 10)), (1, .int x1), (2, .int x2), (3, .int x3)] := hl
  change W p l e rm_X11_layTouch_10 s m _ below meth c _ [] 0 0 _ _
  clear B hP hD hK hN hml
  generalize va_A (MW ca ad σ) s.heap.size = A at C w ⊢
  generalize ([.ref (ad 10), .int x1, .int x2, .int x3] : List Value).toArray = av at C ⊢
  obtain ⟨Q, hQ⟩ : ∃ Q, Q = MQ below (PostV D A (MW ca ad out)) av s 0 0 A := ⟨_, rfl⟩
  rw [← hQ]
  have hx := C.1
  have hb := C.2.1
  have b69 : ∀ (σ : St) (y0 : Int32) (y1 : Int32), f_X11_layTouch_10_b69 σ y0 y1 = some out → Bk p l e rm_X11_layTouch_10 s m av below meth c A D 4 Q (MW ca ad σ) 69 [] [.int y0, .int y1, .ref (ad 10)] := by
    intro σ y0 y1 h H locs ls w hl
    unfold f_X11_layTouch_10_b69 at h
    obtain ⟨i1, h⟩ := ck_t h
    refine stM10 (j := y1.toNatClampNeg) C w i1 rfl dX11_layTouch_69 (fun H locs w => ?_)
    rw [hQ]
    exact rV (F := MW ca ad) C w h dX11_layTouch_70
  have b34 : ∀ (σ : St) (x1 : Int32) (x2 : Int32) (x3 : Int32) (y0 : Int32) (y1 : Int32), f_X11_layTouch_10_b34 σ x1 x2 x3 y0 y1 = some out → Bk p l e rm_X11_layTouch_10 s m av below meth c A D 4 Q (MW ca ad σ) 34 [(0, .ref (ad 10)), (1, .int x1), (2, .int x2), (3, .int x3)] [.int y0, .int y1, .ref (ad 10)] := by
    intro σ x1 x2 x3 y0 y1 h H locs ls w hl
    unfold f_X11_layTouch_10_b34 at h
    obtain ⟨i1, h⟩ := ck_t h
    refine stM10 (j := y1.toNatClampNeg) C w i1 rfl dX11_layTouch_34 (fun H locs w => ?_)
    refine lv_aload_n hx hb dX11_layTouch_35 rfl (lv_at hl 0 rfl) ?_
    refine lv_bipush (v := 13) hx hb dX11_layTouch_36 (by decide) ?_
    refine lv_iload_n hx hb dX11_layTouch_38 rfl (lv_at hl 2 rfl) ?_
    refine lv_iadd hx hb dX11_layTouch_39 ?_
    refine lv_iload_n hx hb dX11_layTouch_40 rfl (lv_at hl 3 rfl) ?_
    refine lv_if_eq (tgt := 57) hx hb dX11_layTouch_41 (by decide) (fun c2 => ?_) (fun c2 => ?_)
    · have h := it_t h c2
      refine lv_aload_n hx hb dX11_layTouch_57 rfl (lv_at hl 0 rfl) ?_
      refine lv_bipush (v := 13) hx hb dX11_layTouch_58 (by decide) ?_
      refine lv_iload_n hx hb dX11_layTouch_60 rfl (lv_at hl 2 rfl) ?_
      refine lv_iadd hx hb dX11_layTouch_61 ?_
      obtain ⟨i3, h⟩ := ck_t h
      refine ldM10 (v := ((sE σ 10 y1.toNatClampNeg y0).2.2 10 (((13 : Int32) + x2)).toNatClampNeg)) C w i3 rfl dX11_layTouch_62 ?_
      refine lv_iconst (v := 1) hx hb dX11_layTouch_63 (by decide) ?_
      refine lv_iload_n hx hb dX11_layTouch_64 rfl (lv_at hl 1 rfl) ?_
      refine lv_ishl hx hb dX11_layTouch_65 ?_
      refine lv_iconst (v := -1) hx hb dX11_layTouch_66 (by decide) ?_
      refine lv_ixor hx hb dX11_layTouch_67 ?_
      refine lv_iand hx hb dX11_layTouch_68 ?_
      exact b69 _ _ _ h _ _ _ w (lv_sub hl [] rfl)
    · have h := it_f h c2
      refine lv_aload_n hx hb dX11_layTouch_44 rfl (lv_at hl 0 rfl) ?_
      refine lv_bipush (v := 13) hx hb dX11_layTouch_45 (by decide) ?_
      refine lv_iload_n hx hb dX11_layTouch_47 rfl (lv_at hl 2 rfl) ?_
      refine lv_iadd hx hb dX11_layTouch_48 ?_
      obtain ⟨i4, h⟩ := ck_t h
      refine ldM10 (v := ((sE σ 10 y1.toNatClampNeg y0).2.2 10 (((13 : Int32) + x2)).toNatClampNeg)) C w i4 rfl dX11_layTouch_49 ?_
      refine lv_iconst (v := 1) hx hb dX11_layTouch_50 (by decide) ?_
      refine lv_iload_n hx hb dX11_layTouch_51 rfl (lv_at hl 1 rfl) ?_
      refine lv_ishl hx hb dX11_layTouch_52 ?_
      refine lv_ior hx hb dX11_layTouch_53 ?_
      refine lv_goto (tgt := 69) hx hb dX11_layTouch_54 (by decide) ?_
      exact b69 _ _ _ h _ _ _ w (lv_sub hl [] rfl)
  have h := hf
  unfold f_X11_layTouch_10 at h
  refine lv_aload_n hx hb dX11_layTouch_0 rfl (lv_at hl 0 rfl) ?_
  refine lv_bipush (v := 13) hx hb dX11_layTouch_1 (by decide) ?_
  refine lv_iload_n hx hb dX11_layTouch_3 rfl (lv_at hl 1 rfl) ?_
  refine lv_iadd hx hb dX11_layTouch_4 ?_
  refine lv_iload_n hx hb dX11_layTouch_5 rfl (lv_at hl 3 rfl) ?_
  refine lv_if_eq (tgt := 22) hx hb dX11_layTouch_6 (by decide) (fun c1 => ?_) (fun c1 => ?_)
  · have h := it_t h c1
    refine lv_aload_n hx hb dX11_layTouch_22 rfl (lv_at hl 0 rfl) ?_
    refine lv_bipush (v := 13) hx hb dX11_layTouch_23 (by decide) ?_
    refine lv_iload_n hx hb dX11_layTouch_25 rfl (lv_at hl 1 rfl) ?_
    refine lv_iadd hx hb dX11_layTouch_26 ?_
    obtain ⟨i2, h⟩ := ck_t h
    refine ldM10 (v := (σ.2.2 10 (((13 : Int32) + x1)).toNatClampNeg)) C w i2 rfl dX11_layTouch_27 ?_
    refine lv_iconst (v := 1) hx hb dX11_layTouch_28 (by decide) ?_
    refine lv_iload_n hx hb dX11_layTouch_29 rfl (lv_at hl 2 rfl) ?_
    refine lv_ishl hx hb dX11_layTouch_30 ?_
    refine lv_iconst (v := -1) hx hb dX11_layTouch_31 (by decide) ?_
    refine lv_ixor hx hb dX11_layTouch_32 ?_
    refine lv_iand hx hb dX11_layTouch_33 ?_
    exact b34 _ _ _ _ _ _ h _ _ _ w (lv_sub hl [0, 1, 2, 3] rfl)
  · have h := it_f h c1
    refine lv_aload_n hx hb dX11_layTouch_9 rfl (lv_at hl 0 rfl) ?_
    refine lv_bipush (v := 13) hx hb dX11_layTouch_10 (by decide) ?_
    refine lv_iload_n hx hb dX11_layTouch_12 rfl (lv_at hl 1 rfl) ?_
    refine lv_iadd hx hb dX11_layTouch_13 ?_
    obtain ⟨i3, h⟩ := ck_t h
    refine ldM10 (v := (σ.2.2 10 (((13 : Int32) + x1)).toNatClampNeg)) C w i3 rfl dX11_layTouch_14 ?_
    refine lv_iconst (v := 1) hx hb dX11_layTouch_15 (by decide) ?_
    refine lv_iload_n hx hb dX11_layTouch_16 rfl (lv_at hl 2 rfl) ?_
    refine lv_ishl hx hb dX11_layTouch_17 ?_
    refine lv_ior hx hb dX11_layTouch_18 ?_
    refine lv_goto (tgt := 34) hx hb dX11_layTouch_19 (by decide) ?_
    exact b34 _ _ _ _ _ _ h _ _ _ w (lv_sub hl [0, 1, 2, 3] rfl)
theorem hd_X11_takesTouch : yX11_takesTouch.cls = RX11 ∧ yX11_takesTouch.cls ≠ "java/lang/invoke/MethodHandle" ∧ yX11_takesTouch.cls ≠ "java/lang/invoke/VarHandle" ∧ (parseMethodDescriptor yX11_takesTouch.desc).map (fun d => d.parameters.length) = some 0 := by decide +kernel
def f_X11_takesTouch (σ : St) : Option (Int32 × St) := (f_X11_goBehind σ).bind fun q1 => (f_X11_takes q1 (0 : Int32) (0 : Int32) ((q1.2.2 10 0) - (1 : Int32))).bind fun q2 => if q2.1 = 0 then (some ((0 : Int32), q2.2)) else (if (q2.2.1 21) = (2 : Int32) then (if (q2.2.1 22) = (q2.2.2.2 11 0) then (some ((0 : Int32), q2.2)) else ((f_X11_takes q2.2 (1 : Int32) (0 : Int32) ((q2.2.2.2 10 0) - (1 : Int32))).bind fun q3 => if q3.1 = 0 then (some ((0 : Int32), q3.2)) else ((f_X11_layTouch_10 q3.2 (q3.2.2.2 11 0) (q3.2.2.2 11 1) (1 : Int32)).bind fun q4 => some ((1 : Int32), q4)))) else (some ((0 : Int32), q2.2)))
abbrev rm_X11_takesTouch : Room := { frames := 5, cells := 0, slots := 0, locals := 300 }
set_option maxHeartbeats 4000000 in
set_option maxRecDepth 100000 in
theorem c_X11_takesTouch (l : Launch) (D : va_G) (ca : Nat → ClassId) (ad : Nat → Nat) (σ : St)  (sz : Nat) (out : Int32 × St) (hf : f_X11_takesTouch σ  = some out) : Met l yX11_takesTouch (.code yX11_takesTouch cX11_takesTouch 1 (some .boolean) :: WL) rm_X11_takesTouch (PreC D ca (MW ca ad σ) sz [.ref (ad 0)]) (PostI D (va_A (MW ca ad σ) sz) (MW ca ad out.2) out.1) 0 0 (va_A (MW ca ad σ) sz) := by
  refine Met.ofW (cc := cX11_takesTouch) (maxL := 1) (ret := (some .boolean)) (by decide) rfl ?_
  intro p e s m args below meth c s₁ B hml hv
  obtain ⟨rfl, hsz, hP, hK, hD, hN⟩ := hv
  subst hsz
  have C := Cx.mk (own := RX11) B hml rfl hK hN (ws := (MW ca ad σ))
  have w : Wd (va_A (MW ca ad σ) s.heap.size) s D (MW ca ad σ) s.heap [] := ⟨hP, hD.self, va_S.rf⟩
  have hl := lv_entry ([.ref (ad 0)]) (n := 1) (Nat.le_of_ble_eq_true rfl)
  rw [lg_entry_eq]
  generalize (lg_sl ([.ref (ad 0)]) ++ List.replicate (1 - (lg_sl ([.ref (ad 0)])).length) Slot.unset).toArray = ls at hl ⊢
  have hl : lv_has ls 1 [(0, .ref (ad 0))] := hl
  change W p l e rm_X11_takesTouch s m _ below meth c _ [] 0 0 _ _
  clear B hP hD hK hN hml
  generalize va_A (MW ca ad σ) s.heap.size = A at C w ⊢
  generalize ([.ref (ad 0)] : List Value).toArray = av at C ⊢
  obtain ⟨Q, hQ⟩ : ∃ Q, Q = MQ below (PostI D A (MW ca ad out.2) out.1) av s 0 0 A := ⟨_, rfl⟩
  rw [← hQ]
  have hx := C.1
  have hb := C.2.1
  have h := hf
  unfold f_X11_takesTouch at h
  refine lv_aload_n hx hb dX11_takesTouch_0 rfl (lv_at hl 0 rfl) ?_
  obtain ⟨q1, hq1, h⟩ := ob_t h
  refine res_v C w (run_V (As := []) (rest := []) C w hl.1 (recvM0 C w) (c_X11_goBehind l D ca ad _  _ q1 hq1) rfl rfl wl_371 wl_372 wl_373 wl_5 wl_374 hd_X11_goBehind rfl ⟨Nat.le_of_ble_eq_true rfl, Nat.le_of_ble_eq_true rfl⟩ rfl (Nat.le_of_ble_eq_true rfl) dX11_takesTouch_1) (fun H locs w => ?_)
  refine lv_aload_n hx hb dX11_takesTouch_4 rfl (lv_at hl 0 rfl) ?_
  refine lv_iconst (v := 0) hx hb dX11_takesTouch_5 (by decide) ?_
  refine lv_iconst (v := 0) hx hb dX11_takesTouch_6 (by decide) ?_
  refine lv_aload_n hx hb dX11_takesTouch_7 rfl (lv_at hl 0 rfl) ?_
  refine gM0_23 C w wl_104 dX11_takesTouch_8 ?_
  refine lv_iconst (v := 0) hx hb dX11_takesTouch_11 (by decide) ?_
  refine ldM10 (v := (q1.2.2 10 0)) C w (vl (by decide)) rfl dX11_takesTouch_12 ?_
  refine lv_iconst (v := 1) hx hb dX11_takesTouch_13 (by decide) ?_
  refine lv_isub hx hb dX11_takesTouch_14 ?_
  obtain ⟨q2, hq2, h⟩ := ob_t h
  refine res_i C w (run_V (As := [.int (0 : Int32), .int (0 : Int32), .int ((q1.2.2 10 0) - (1 : Int32))]) (rest := []) C w hl.1 (recvM0 C w) (c_X11_takes l D ca ad _ (0 : Int32) (0 : Int32) ((q1.2.2 10 0) - (1 : Int32)) _ q2 hq2) rfl rfl wl_375 wl_376 wl_377 wl_5 wl_378 hd_X11_takes rfl ⟨Nat.le_of_ble_eq_true rfl, Nat.le_of_ble_eq_true rfl⟩ rfl (Nat.le_of_ble_eq_true rfl) dX11_takesTouch_15) (fun H locs w => ?_)
  refine lv_if_eq (tgt := 59) hx hb dX11_takesTouch_18 (by decide) (fun c1 => ?_) (fun c1 => ?_)
  · have h := it_t h c1
    refine lv_iconst (v := 0) hx hb dX11_takesTouch_59 (by decide) ?_
    rw [hQ]
    exact rZ (F := MW ca ad) C w (by decide) h dX11_takesTouch_60
  · have h := it_f h c1
    refine lv_aload_n hx hb dX11_takesTouch_21 rfl (lv_at hl 0 rfl) ?_
    refine gM0_21 (v := (q2.2.1 21)) C w rfl wl_346 dX11_takesTouch_22 ?_
    refine lv_iconst (v := 2) hx hb dX11_takesTouch_25 (by decide) ?_
    refine lv_icmp_ne (tgt := 59) hx hb dX11_takesTouch_26 (by decide) (fun c2 => ?_) (fun c2 => ?_)
    · have h := it_f h c2
      refine lv_iconst (v := 0) hx hb dX11_takesTouch_59 (by decide) ?_
      rw [hQ]
      exact rZ (F := MW ca ad) C w (by decide) h dX11_takesTouch_60
    · have h := it_t h c2
      refine lv_aload_n hx hb dX11_takesTouch_29 rfl (lv_at hl 0 rfl) ?_
      refine gM0_22 (v := (q2.2.1 22)) C w rfl wl_352 dX11_takesTouch_30 ?_
      refine lv_aload_n hx hb dX11_takesTouch_33 rfl (lv_at hl 0 rfl) ?_
      refine gM0_24 C w wl_105 dX11_takesTouch_34 ?_
      refine lv_iconst (v := 0) hx hb dX11_takesTouch_37 (by decide) ?_
      refine ldM11 (v := (q2.2.2.2 11 0)) C w (vl (by decide)) rfl dX11_takesTouch_38 ?_
      refine lv_icmp_eq (tgt := 59) hx hb dX11_takesTouch_39 (by decide) (fun c3 => ?_) (fun c3 => ?_)
      · have h := it_t h c3
        refine lv_iconst (v := 0) hx hb dX11_takesTouch_59 (by decide) ?_
        rw [hQ]
        exact rZ (F := MW ca ad) C w (by decide) h dX11_takesTouch_60
      · have h := it_f h c3
        refine lv_aload_n hx hb dX11_takesTouch_42 rfl (lv_at hl 0 rfl) ?_
        refine lv_iconst (v := 1) hx hb dX11_takesTouch_43 (by decide) ?_
        refine lv_iconst (v := 0) hx hb dX11_takesTouch_44 (by decide) ?_
        refine lv_aload_n hx hb dX11_takesTouch_45 rfl (lv_at hl 0 rfl) ?_
        refine gM0_23 C w wl_104 dX11_takesTouch_46 ?_
        refine lv_iconst (v := 0) hx hb dX11_takesTouch_49 (by decide) ?_
        refine ldM10 (v := (q2.2.2.2 10 0)) C w (vl (by decide)) rfl dX11_takesTouch_50 ?_
        refine lv_iconst (v := 1) hx hb dX11_takesTouch_51 (by decide) ?_
        refine lv_isub hx hb dX11_takesTouch_52 ?_
        obtain ⟨q3, hq3, h⟩ := ob_t h
        refine res_i C w (run_V (As := [.int (1 : Int32), .int (0 : Int32), .int ((q2.2.2.2 10 0) - (1 : Int32))]) (rest := []) C w hl.1 (recvM0 C w) (c_X11_takes l D ca ad _ (1 : Int32) (0 : Int32) ((q2.2.2.2 10 0) - (1 : Int32)) _ q3 hq3) rfl rfl wl_375 wl_376 wl_377 wl_5 wl_378 hd_X11_takes rfl ⟨Nat.le_of_ble_eq_true rfl, Nat.le_of_ble_eq_true rfl⟩ rfl (Nat.le_of_ble_eq_true rfl) dX11_takesTouch_53) (fun H locs w => ?_)
        refine lv_if_ne (tgt := 61) hx hb dX11_takesTouch_56 (by decide) (fun c4 => ?_) (fun c4 => ?_)
        · have h := it_f h c4
          refine lv_aload_n hx hb dX11_takesTouch_61 rfl (lv_at hl 0 rfl) ?_
          refine gM0_23 C w wl_104 dX11_takesTouch_62 ?_
          refine lv_aload_n hx hb dX11_takesTouch_65 rfl (lv_at hl 0 rfl) ?_
          refine gM0_24 C w wl_105 dX11_takesTouch_66 ?_
          refine lv_iconst (v := 0) hx hb dX11_takesTouch_69 (by decide) ?_
          refine ldM11 (v := (q3.2.2.2 11 0)) C w (vl (by decide)) rfl dX11_takesTouch_70 ?_
          refine lv_aload_n hx hb dX11_takesTouch_71 rfl (lv_at hl 0 rfl) ?_
          refine gM0_24 C w wl_105 dX11_takesTouch_72 ?_
          refine lv_iconst (v := 1) hx hb dX11_takesTouch_75 (by decide) ?_
          refine ldM11 (v := (q3.2.2.2 11 1)) C w (vl (by decide)) rfl dX11_takesTouch_76 ?_
          refine lv_iconst (v := 1) hx hb dX11_takesTouch_77 (by decide) ?_
          obtain ⟨q4, hq4, h⟩ := ob_t h
          refine res_v C w (run_S (As := [.ref (ad 10), .int (q3.2.2.2 11 0), .int (q3.2.2.2 11 1), .int (1 : Int32)]) (rest := []) C w hl.1 (c_X11_layTouch_10 l D ca ad _ (q3.2.2.2 11 0) (q3.2.2.2 11 1) (1 : Int32) _ q4 hq4) rfl rfl wl_192 wl_193 wl_5 wl_194 hd_X11_layTouch rfl ⟨Nat.le_of_ble_eq_true rfl, Nat.le_of_ble_eq_true rfl⟩ rfl (Nat.le_of_ble_eq_true rfl) dX11_takesTouch_78) (fun H locs w => ?_)
          refine lv_iconst (v := 1) hx hb dX11_takesTouch_81 (by decide) ?_
          rw [hQ]
          exact rZ (F := MW ca ad) C w (by decide) h dX11_takesTouch_82
        · have h := it_t h c4
          refine lv_iconst (v := 0) hx hb dX11_takesTouch_59 (by decide) ?_
          rw [hQ]
          exact rZ (F := MW ca ad) C w (by decide) h dX11_takesTouch_60
theorem hd_X11_takesFell : yX11_takesFell.cls = RX11 ∧ yX11_takesFell.cls ≠ "java/lang/invoke/MethodHandle" ∧ yX11_takesFell.cls ≠ "java/lang/invoke/VarHandle" ∧ (parseMethodDescriptor yX11_takesFell.desc).map (fun d => d.parameters.length) = some 0 := by decide +kernel
def f_X11_takesFell (σ : St) : Option (Int32 × St) := (f_X11_goBehind σ).bind fun q1 => (f_X11_takes q1 (0 : Int32) (0 : Int32) ((q1.2.2 10 0) - (1 : Int32))).bind fun q2 => if q2.1 = 0 then (some ((0 : Int32), q2.2)) else (some ((1 : Int32), (sE q2.2 10 1 ((q2.2.2.2 10 1) ||| ((1 : Int32) <<< ((q2.2.2.2 11 0) &&& 31))))))
abbrev rm_X11_takesFell : Room := { frames := 5, cells := 0, slots := 0, locals := 300 }
set_option maxHeartbeats 4000000 in
set_option maxRecDepth 100000 in
theorem c_X11_takesFell (l : Launch) (D : va_G) (ca : Nat → ClassId) (ad : Nat → Nat) (σ : St)  (sz : Nat) (out : Int32 × St) (hf : f_X11_takesFell σ  = some out) : Met l yX11_takesFell (.code yX11_takesFell cX11_takesFell 1 (some .boolean) :: WL) rm_X11_takesFell (PreC D ca (MW ca ad σ) sz [.ref (ad 0)]) (PostI D (va_A (MW ca ad σ) sz) (MW ca ad out.2) out.1) 0 0 (va_A (MW ca ad σ) sz) := by
  refine Met.ofW (cc := cX11_takesFell) (maxL := 1) (ret := (some .boolean)) (by decide) rfl ?_
  intro p e s m args below meth c s₁ B hml hv
  obtain ⟨rfl, hsz, hP, hK, hD, hN⟩ := hv
  subst hsz
  have C := Cx.mk (own := RX11) B hml rfl hK hN (ws := (MW ca ad σ))
  have w : Wd (va_A (MW ca ad σ) s.heap.size) s D (MW ca ad σ) s.heap [] := ⟨hP, hD.self, va_S.rf⟩
  have hl := lv_entry ([.ref (ad 0)]) (n := 1) (Nat.le_of_ble_eq_true rfl)
  rw [lg_entry_eq]
  generalize (lg_sl ([.ref (ad 0)]) ++ List.replicate (1 - (lg_sl ([.ref (ad 0)])).length) Slot.unset).toArray = ls at hl ⊢
  have hl : lv_has ls 1 [(0, .ref (ad 0))] := hl
  change W p l e rm_X11_takesFell s m _ below meth c _ [] 0 0 _ _
  clear B hP hD hK hN hml
  generalize va_A (MW ca ad σ) s.heap.size = A at C w ⊢
  generalize ([.ref (ad 0)] : List Value).toArray = av at C ⊢
  obtain ⟨Q, hQ⟩ : ∃ Q, Q = MQ below (PostI D A (MW ca ad out.2) out.1) av s 0 0 A := ⟨_, rfl⟩
  rw [← hQ]
  have hx := C.1
  have hb := C.2.1
  have h := hf
  unfold f_X11_takesFell at h
  refine lv_aload_n hx hb dX11_takesFell_0 rfl (lv_at hl 0 rfl) ?_
  obtain ⟨q1, hq1, h⟩ := ob_t h
  refine res_v C w (run_V (As := []) (rest := []) C w hl.1 (recvM0 C w) (c_X11_goBehind l D ca ad _  _ q1 hq1) rfl rfl wl_371 wl_372 wl_373 wl_5 wl_374 hd_X11_goBehind rfl ⟨Nat.le_of_ble_eq_true rfl, Nat.le_of_ble_eq_true rfl⟩ rfl (Nat.le_of_ble_eq_true rfl) dX11_takesFell_1) (fun H locs w => ?_)
  refine lv_aload_n hx hb dX11_takesFell_4 rfl (lv_at hl 0 rfl) ?_
  refine lv_iconst (v := 0) hx hb dX11_takesFell_5 (by decide) ?_
  refine lv_iconst (v := 0) hx hb dX11_takesFell_6 (by decide) ?_
  refine lv_aload_n hx hb dX11_takesFell_7 rfl (lv_at hl 0 rfl) ?_
  refine gM0_23 C w wl_104 dX11_takesFell_8 ?_
  refine lv_iconst (v := 0) hx hb dX11_takesFell_11 (by decide) ?_
  refine ldM10 (v := (q1.2.2 10 0)) C w (vl (by decide)) rfl dX11_takesFell_12 ?_
  refine lv_iconst (v := 1) hx hb dX11_takesFell_13 (by decide) ?_
  refine lv_isub hx hb dX11_takesFell_14 ?_
  obtain ⟨q2, hq2, h⟩ := ob_t h
  refine res_i C w (run_V (As := [.int (0 : Int32), .int (0 : Int32), .int ((q1.2.2 10 0) - (1 : Int32))]) (rest := []) C w hl.1 (recvM0 C w) (c_X11_takes l D ca ad _ (0 : Int32) (0 : Int32) ((q1.2.2 10 0) - (1 : Int32)) _ q2 hq2) rfl rfl wl_375 wl_376 wl_377 wl_5 wl_378 hd_X11_takes rfl ⟨Nat.le_of_ble_eq_true rfl, Nat.le_of_ble_eq_true rfl⟩ rfl (Nat.le_of_ble_eq_true rfl) dX11_takesFell_15) (fun H locs w => ?_)
  refine lv_if_ne (tgt := 23) hx hb dX11_takesFell_18 (by decide) (fun c1 => ?_) (fun c1 => ?_)
  · have h := it_f h c1
    refine lv_aload_n hx hb dX11_takesFell_23 rfl (lv_at hl 0 rfl) ?_
    refine gM0_23 C w wl_104 dX11_takesFell_24 ?_
    refine lv_iconst (v := 1) hx hb dX11_takesFell_27 (by decide) ?_
    refine lv_dup2_11 hx hb dX11_takesFell_28 rfl rfl ?_
    refine ldM10 (v := (q2.2.2.2 10 1)) C w (vl (by decide)) rfl dX11_takesFell_29 ?_
    refine lv_iconst (v := 1) hx hb dX11_takesFell_30 (by decide) ?_
    refine lv_aload_n hx hb dX11_takesFell_31 rfl (lv_at hl 0 rfl) ?_
    refine gM0_24 C w wl_105 dX11_takesFell_32 ?_
    refine lv_iconst (v := 0) hx hb dX11_takesFell_35 (by decide) ?_
    refine ldM11 (v := (q2.2.2.2 11 0)) C w (vl (by decide)) rfl dX11_takesFell_36 ?_
    refine lv_ishl hx hb dX11_takesFell_37 ?_
    refine lv_ior hx hb dX11_takesFell_38 ?_
    refine stM10 (j := 1) C w (vl (by decide)) rfl dX11_takesFell_39 (fun H locs w => ?_)
    refine lv_iconst (v := 1) hx hb dX11_takesFell_40 (by decide) ?_
    rw [hQ]
    exact rZ (F := MW ca ad) C w (by decide) h dX11_takesFell_41
  · have h := it_t h c1
    refine lv_iconst (v := 0) hx hb dX11_takesFell_21 (by decide) ?_
    rw [hQ]
    exact rZ (F := MW ca ad) C w (by decide) h dX11_takesFell_22
theorem hd_X11_takesItem : yX11_takesItem.cls = RX11 ∧ yX11_takesItem.cls ≠ "java/lang/invoke/MethodHandle" ∧ yX11_takesItem.cls ≠ "java/lang/invoke/VarHandle" ∧ (parseMethodDescriptor yX11_takesItem.desc).map (fun d => d.parameters.length) = some 0 := by decide +kernel
def f_X11_takesItem (σ : St) : Option (Int32 × St) := (f_X11_spells σ (4 : Int32) (116 : Int32) (114 : Int32) (101 : Int32) (101 : Int32) (0 : Int32) (0 : Int32)).bind fun q1 => if q1.1 = 0 then ((f_X11_spells q1.2 (5 : Int32) (116 : Int32) (111 : Int32) (117 : Int32) (99 : Int32) (104 : Int32) (0 : Int32)).bind fun q2 => if q2.1 = 0 then ((f_X11_spells q2.2 (4 : Int32) (102 : Int32) (101 : Int32) (108 : Int32) (108 : Int32) (0 : Int32) (0 : Int32)).bind fun q3 => if q3.1 = 0 then (some ((0 : Int32), q3.2)) else ((f_X11_takesFell q3.2).bind fun q4 => if q4.1 = 0 then (some ((0 : Int32), q4.2)) else (some ((1 : Int32), q4.2)))) else ((f_X11_takesTouch q2.2).bind fun q5 => cond (ckZ q5.1) (some (q5.1, q5.2)) none)) else ((f_X11_takesTree q1.2).bind fun q6 => cond (ckZ q6.1) (some (q6.1, q6.2)) none)
abbrev rm_X11_takesItem : Room := { frames := 6, cells := 0, slots := 0, locals := 360 }
set_option maxHeartbeats 4000000 in
set_option maxRecDepth 100000 in
theorem c_X11_takesItem (l : Launch) (D : va_G) (ca : Nat → ClassId) (ad : Nat → Nat) (σ : St)  (sz : Nat) (out : Int32 × St) (hf : f_X11_takesItem σ  = some out) : Met l yX11_takesItem (.code yX11_takesItem cX11_takesItem 1 (some .boolean) :: WL) rm_X11_takesItem (PreC D ca (MW ca ad σ) sz [.ref (ad 0)]) (PostI D (va_A (MW ca ad σ) sz) (MW ca ad out.2) out.1) 0 0 (va_A (MW ca ad σ) sz) := by
  refine Met.ofW (cc := cX11_takesItem) (maxL := 1) (ret := (some .boolean)) (by decide) rfl ?_
  intro p e s m args below meth c s₁ B hml hv
  obtain ⟨rfl, hsz, hP, hK, hD, hN⟩ := hv
  subst hsz
  have C := Cx.mk (own := RX11) B hml rfl hK hN (ws := (MW ca ad σ))
  have w : Wd (va_A (MW ca ad σ) s.heap.size) s D (MW ca ad σ) s.heap [] := ⟨hP, hD.self, va_S.rf⟩
  have hl := lv_entry ([.ref (ad 0)]) (n := 1) (Nat.le_of_ble_eq_true rfl)
  rw [lg_entry_eq]
  generalize (lg_sl ([.ref (ad 0)]) ++ List.replicate (1 - (lg_sl ([.ref (ad 0)])).length) Slot.unset).toArray = ls at hl ⊢
  have hl : lv_has ls 1 [(0, .ref (ad 0))] := hl
  change W p l e rm_X11_takesItem s m _ below meth c _ [] 0 0 _ _
  clear B hP hD hK hN hml
  generalize va_A (MW ca ad σ) s.heap.size = A at C w ⊢
  generalize ([.ref (ad 0)] : List Value).toArray = av at C ⊢
  obtain ⟨Q, hQ⟩ : ∃ Q, Q = MQ below (PostI D A (MW ca ad out.2) out.1) av s 0 0 A := ⟨_, rfl⟩
  rw [← hQ]
  have hx := C.1
  have hb := C.2.1
  have h := hf
  unfold f_X11_takesItem at h
  refine lv_aload_n hx hb dX11_takesItem_0 rfl (lv_at hl 0 rfl) ?_
  refine lv_iconst (v := 4) hx hb dX11_takesItem_1 (by decide) ?_
  refine lv_bipush (v := 116) hx hb dX11_takesItem_2 (by decide) ?_
  refine lv_bipush (v := 114) hx hb dX11_takesItem_4 (by decide) ?_
  refine lv_bipush (v := 101) hx hb dX11_takesItem_6 (by decide) ?_
  refine lv_bipush (v := 101) hx hb dX11_takesItem_8 (by decide) ?_
  refine lv_iconst (v := 0) hx hb dX11_takesItem_10 (by decide) ?_
  refine lv_iconst (v := 0) hx hb dX11_takesItem_11 (by decide) ?_
  obtain ⟨q1, hq1, h⟩ := ob_t h
  refine res_i C w (run_V (As := [.int (4 : Int32), .int (116 : Int32), .int (114 : Int32), .int (101 : Int32), .int (101 : Int32), .int (0 : Int32), .int (0 : Int32)]) (rest := []) C w hl.1 (recvM0 C w) (c_X11_spells l D ca ad _ (4 : Int32) (116 : Int32) (114 : Int32) (101 : Int32) (101 : Int32) (0 : Int32) (0 : Int32) _ q1 hq1) rfl rfl wl_367 wl_368 wl_369 wl_5 wl_370 hd_X11_spells rfl ⟨Nat.le_of_ble_eq_true rfl, Nat.le_of_ble_eq_true rfl⟩ rfl (Nat.le_of_ble_eq_true rfl) dX11_takesItem_12) (fun H locs w => ?_)
  refine lv_if_eq (tgt := 23) hx hb dX11_takesItem_15 (by decide) (fun c1 => ?_) (fun c1 => ?_)
  · have h := it_t h c1
    refine lv_aload_n hx hb dX11_takesItem_23 rfl (lv_at hl 0 rfl) ?_
    refine lv_iconst (v := 5) hx hb dX11_takesItem_24 (by decide) ?_
    refine lv_bipush (v := 116) hx hb dX11_takesItem_25 (by decide) ?_
    refine lv_bipush (v := 111) hx hb dX11_takesItem_27 (by decide) ?_
    refine lv_bipush (v := 117) hx hb dX11_takesItem_29 (by decide) ?_
    refine lv_bipush (v := 99) hx hb dX11_takesItem_31 (by decide) ?_
    refine lv_bipush (v := 104) hx hb dX11_takesItem_33 (by decide) ?_
    refine lv_iconst (v := 0) hx hb dX11_takesItem_35 (by decide) ?_
    obtain ⟨q2, hq2, h⟩ := ob_t h
    refine res_i C w (run_V (As := [.int (5 : Int32), .int (116 : Int32), .int (111 : Int32), .int (117 : Int32), .int (99 : Int32), .int (104 : Int32), .int (0 : Int32)]) (rest := []) C w hl.1 (recvM0 C w) (c_X11_spells l D ca ad _ (5 : Int32) (116 : Int32) (111 : Int32) (117 : Int32) (99 : Int32) (104 : Int32) (0 : Int32) _ q2 hq2) rfl rfl wl_367 wl_368 wl_369 wl_5 wl_370 hd_X11_spells rfl ⟨Nat.le_of_ble_eq_true rfl, Nat.le_of_ble_eq_true rfl⟩ rfl (Nat.le_of_ble_eq_true rfl) dX11_takesItem_36) (fun H locs w => ?_)
    refine lv_if_eq (tgt := 47) hx hb dX11_takesItem_39 (by decide) (fun c2 => ?_) (fun c2 => ?_)
    · have h := it_t h c2
      refine lv_aload_n hx hb dX11_takesItem_47 rfl (lv_at hl 0 rfl) ?_
      refine lv_iconst (v := 4) hx hb dX11_takesItem_48 (by decide) ?_
      refine lv_bipush (v := 102) hx hb dX11_takesItem_49 (by decide) ?_
      refine lv_bipush (v := 101) hx hb dX11_takesItem_51 (by decide) ?_
      refine lv_bipush (v := 108) hx hb dX11_takesItem_53 (by decide) ?_
      refine lv_bipush (v := 108) hx hb dX11_takesItem_55 (by decide) ?_
      refine lv_iconst (v := 0) hx hb dX11_takesItem_57 (by decide) ?_
      refine lv_iconst (v := 0) hx hb dX11_takesItem_58 (by decide) ?_
      obtain ⟨q3, hq3, h⟩ := ob_t h
      refine res_i C w (run_V (As := [.int (4 : Int32), .int (102 : Int32), .int (101 : Int32), .int (108 : Int32), .int (108 : Int32), .int (0 : Int32), .int (0 : Int32)]) (rest := []) C w hl.1 (recvM0 C w) (c_X11_spells l D ca ad _ (4 : Int32) (102 : Int32) (101 : Int32) (108 : Int32) (108 : Int32) (0 : Int32) (0 : Int32) _ q3 hq3) rfl rfl wl_367 wl_368 wl_369 wl_5 wl_370 hd_X11_spells rfl ⟨Nat.le_of_ble_eq_true rfl, Nat.le_of_ble_eq_true rfl⟩ rfl (Nat.le_of_ble_eq_true rfl) dX11_takesItem_59) (fun H locs w => ?_)
      refine lv_if_eq (tgt := 76) hx hb dX11_takesItem_62 (by decide) (fun c3 => ?_) (fun c3 => ?_)
      · have h := it_t h c3
        refine lv_iconst (v := 0) hx hb dX11_takesItem_76 (by decide) ?_
        rw [hQ]
        exact rZ (F := MW ca ad) C w (by decide) h dX11_takesItem_77
      · have h := it_f h c3
        refine lv_aload_n hx hb dX11_takesItem_65 rfl (lv_at hl 0 rfl) ?_
        obtain ⟨q4, hq4, h⟩ := ob_t h
        refine res_i C w (run_V (As := []) (rest := []) C w hl.1 (recvM0 C w) (c_X11_takesFell l D ca ad _  _ q4 hq4) rfl rfl wl_391 wl_392 wl_393 wl_5 wl_394 hd_X11_takesFell rfl ⟨Nat.le_of_ble_eq_true rfl, Nat.le_of_ble_eq_true rfl⟩ rfl (Nat.le_of_ble_eq_true rfl) dX11_takesItem_66) (fun H locs w => ?_)
        refine lv_if_eq (tgt := 76) hx hb dX11_takesItem_69 (by decide) (fun c4 => ?_) (fun c4 => ?_)
        · have h := it_t h c4
          refine lv_iconst (v := 0) hx hb dX11_takesItem_76 (by decide) ?_
          rw [hQ]
          exact rZ (F := MW ca ad) C w (by decide) h dX11_takesItem_77
        · have h := it_f h c4
          refine lv_iconst (v := 1) hx hb dX11_takesItem_72 (by decide) ?_
          refine lv_goto (tgt := 77) hx hb dX11_takesItem_73 (by decide) ?_
          rw [hQ]
          exact rZ (F := MW ca ad) C w (by decide) h dX11_takesItem_77
    · have h := it_f h c2
      refine lv_aload_n hx hb dX11_takesItem_42 rfl (lv_at hl 0 rfl) ?_
      obtain ⟨q5, hq5, h⟩ := ob_t h
      refine res_i C w (run_V (As := []) (rest := []) C w hl.1 (recvM0 C w) (c_X11_takesTouch l D ca ad _  _ q5 hq5) rfl rfl wl_387 wl_388 wl_389 wl_5 wl_390 hd_X11_takesTouch rfl ⟨Nat.le_of_ble_eq_true rfl, Nat.le_of_ble_eq_true rfl⟩ rfl (Nat.le_of_ble_eq_true rfl) dX11_takesItem_43) (fun H locs w => ?_)
      obtain ⟨z5, h⟩ := cz_t h
      rw [hQ]
      exact rZ (F := MW ca ad) C w z5 h dX11_takesItem_46
  · have h := it_f h c1
    refine lv_aload_n hx hb dX11_takesItem_18 rfl (lv_at hl 0 rfl) ?_
    obtain ⟨q6, hq6, h⟩ := ob_t h
    refine res_i C w (run_V (As := []) (rest := []) C w hl.1 (recvM0 C w) (c_X11_takesTree l D ca ad _  _ q6 hq6) rfl rfl wl_383 wl_384 wl_385 wl_5 wl_386 hd_X11_takesTree rfl ⟨Nat.le_of_ble_eq_true rfl, Nat.le_of_ble_eq_true rfl⟩ rfl (Nat.le_of_ble_eq_true rfl) dX11_takesItem_19) (fun H locs w => ?_)
    obtain ⟨z6, h⟩ := cz_t h
    rw [hQ]
    exact rZ (F := MW ca ad) C w z6 h dX11_takesItem_22
theorem hd_X11_read : yX11_read.cls = RX11 ∧ yX11_read.cls ≠ "java/lang/invoke/MethodHandle" ∧ yX11_read.cls ≠ "java/lang/invoke/VarHandle" ∧ (parseMethodDescriptor yX11_read.desc).map (fun d => d.parameters.length) = some 0 := by decide +kernel
def f_X11_read_b48 (σ : St) : Option (Int32 × St) := some (((-10 : Int32) - (σ.1 19)), σ)
def f_X11_read_b68 (K68 : St → Int32 → Int32 → Option (Int32 × St)) (σ : St) (x1 : Int32) (x2 : Int32) : Option (Int32 × St) := if (68 : Int32) ≤ x2 then (some (x1, σ)) else (cond (ckI x2 68) (cond (ckI x2 84) (K68 (sE σ 1 x2.toNatClampNeg (σ.2.2 10 x2.toNatClampNeg)) x1 (x2 + (1 : Int32))) none) none)
def f_X11_read_L68 : Nat → St → Int32 → Int32 → Option (Int32 × St)
  | 0 => fun _ _ _ => none
  | n + 1 => f_X11_read_b68 (f_X11_read_L68 n)
def f_X11_read_b26 (K26 : St → Int32 → Option (Int32 × St)) (σ : St) (x1 : Int32) : Option (Int32 × St) := if (σ.1 21) = 0 then (f_X11_read_L68 FU σ x1 (0 : Int32)) else ((f_X11_takesItem σ).bind fun q1 => if q1.1 = 0 then (f_X11_read_b48 q1.2) else (if (q1.2.1 21) = (3 : Int32) then ((f_X11_goBehind q1.2).bind fun q2 => K26 q2 (x1 + (1 : Int32))) else (f_X11_read_b48 q1.2)))
def f_X11_read_L26 : Nat → St → Int32 → Option (Int32 × St)
  | 0 => fun _ _ => none
  | n + 1 => f_X11_read_b26 (f_X11_read_L26 n)
def f_X11_read (σ : St) : Option (Int32 × St) := (f_X11_lookAt σ (0 : Int32)).bind fun q1 => (f_X11_takesWood q1).bind fun q2 => if q2.1 = 0 then (some (((-10 : Int32) - (q2.2.1 19)), q2.2)) else ((f_X11_goBehind q2.2).bind fun q3 => f_X11_read_L26 FU q3 (1 : Int32))
abbrev rm_X11_read : Room := { frames := 7, cells := 0, slots := 0, locals := 420 }
set_option maxHeartbeats 4000000 in
set_option maxRecDepth 100000 in
theorem c_X11_read (l : Launch) (D : va_G) (ca : Nat → ClassId) (ad : Nat → Nat) (σ : St)  (sz : Nat) (out : Int32 × St) (hf : f_X11_read σ  = some out) : Met l yX11_read (.code yX11_read cX11_read 3 (some .int) :: WL) rm_X11_read (PreC D ca (MW ca ad σ) sz [.ref (ad 0)]) (PostI D (va_A (MW ca ad σ) sz) (MW ca ad out.2) out.1) 0 0 (va_A (MW ca ad σ) sz) := by
  refine Met.ofW (cc := cX11_read) (maxL := 3) (ret := (some .int)) (by decide) rfl ?_
  intro p e s m args below meth c s₁ B hml hv
  obtain ⟨rfl, hsz, hP, hK, hD, hN⟩ := hv
  subst hsz
  have C := Cx.mk (own := RX11) B hml rfl hK hN (ws := (MW ca ad σ))
  have w : Wd (va_A (MW ca ad σ) s.heap.size) s D (MW ca ad σ) s.heap [] := ⟨hP, hD.self, va_S.rf⟩
  have hl := lv_entry ([.ref (ad 0)]) (n := 3) (Nat.le_of_ble_eq_true rfl)
  rw [lg_entry_eq]
  generalize (lg_sl ([.ref (ad 0)]) ++ List.replicate (3 - (lg_sl ([.ref (ad 0)])).length) Slot.unset).toArray = ls at hl ⊢
  have hl : lv_has ls 3 [(0, .ref (ad 0))] := hl
  change W p l e rm_X11_read s m _ below meth c _ [] 0 0 _ _
  clear B hP hD hK hN hml
  generalize va_A (MW ca ad σ) s.heap.size = A at C w ⊢
  generalize ([.ref (ad 0)] : List Value).toArray = av at C ⊢
  obtain ⟨Q, hQ⟩ : ∃ Q, Q = MQ below (PostI D A (MW ca ad out.2) out.1) av s 0 0 A := ⟨_, rfl⟩
  rw [← hQ]
  have hx := C.1
  have hb := C.2.1
  have b48 : ∀ (σ : St), f_X11_read_b48 σ = some out → Bk p l e rm_X11_read s m av below meth c A D 3 Q (MW ca ad σ) 48 [(0, .ref (ad 0))] [] := by
    intro σ h H locs ls w hl
    unfold f_X11_read_b48 at h
    refine lv_bipush (v := -10) hx hb dX11_read_48 (by decide) ?_
    refine lv_aload_n hx hb dX11_read_50 rfl (lv_at hl 0 rfl) ?_
    refine gM0_19 (v := (σ.1 19)) C w rfl wl_345 dX11_read_51 ?_
    refine lv_isub hx hb dX11_read_54 ?_
    rw [hQ]
    exact rI (F := MW ca ad) C w h dX11_read_55
  have L68 : ∀ (n68 : Nat) (σ : St) (x1 : Int32) (x2 : Int32), f_X11_read_L68 n68 σ x1 x2 = some out → Bk p l e rm_X11_read s m av below meth c A D 3 Q (MW ca ad σ) 68 [(0, .ref (ad 0)), (1, .int x1), (2, .int x2)] [] := by
    intro n68
    induction n68 with
    | zero => intro σ x1 x2 h; exact absurd h (by simp [f_X11_read_L68])
    | succ n68 ih68 =>
      intro σ x1 x2 h H locs ls w hl
      change f_X11_read_b68 (f_X11_read_L68 n68) σ x1 x2 = some out at h
      unfold f_X11_read_b68 at h
      refine lv_iload_n hx hb dX11_read_68 rfl (lv_at hl 2 rfl) ?_
      refine lv_bipush (v := 68) hx hb dX11_read_69 (by decide) ?_
      refine lv_icmp_ge (tgt := 92) hx hb dX11_read_71 (by decide) (fun c1 => ?_) (fun c1 => ?_)
      · have h := it_t h c1
        refine lv_iload_n hx hb dX11_read_92 rfl (lv_at hl 1 rfl) ?_
        rw [hQ]
        exact rI (F := MW ca ad) C w h dX11_read_93
      · have h := it_f h c1
        refine lv_aload_n hx hb dX11_read_74 rfl (lv_at hl 0 rfl) ?_
        refine gM0_0 C w wl_94 dX11_read_75 ?_
        refine lv_iload_n hx hb dX11_read_78 rfl (lv_at hl 2 rfl) ?_
        refine lv_aload_n hx hb dX11_read_79 rfl (lv_at hl 0 rfl) ?_
        refine gM0_23 C w wl_104 dX11_read_80 ?_
        refine lv_iload_n hx hb dX11_read_83 rfl (lv_at hl 2 rfl) ?_
        obtain ⟨i2, h⟩ := ck_t h
        refine ldM10 (v := (σ.2.2 10 x2.toNatClampNeg)) C w i2 rfl dX11_read_84 ?_
        obtain ⟨i3, h⟩ := ck_t h
        refine stM1 (j := x2.toNatClampNeg) C w i3 rfl dX11_read_85 (fun H locs w => ?_)
        refine lv_iinc (v := (x2 + (1 : Int32))) (lv' := [(2, .int (x2 + (1 : Int32))), (0, .ref (ad 0)), (1, .int x1)]) hx hb dX11_read_86 hl (k := 2) rfl rfl (by decide) rfl (fun ls hl => ?_)
        refine lv_goto (tgt := 68) hx hb dX11_read_89 (by decide) ?_
        exact ih68 _ _ _ h _ _ _ w (lv_sub hl [1, 2, 0] rfl)
  have L26 : ∀ (n26 : Nat) (σ : St) (x1 : Int32), f_X11_read_L26 n26 σ x1 = some out → Bk p l e rm_X11_read s m av below meth c A D 3 Q (MW ca ad σ) 26 [(0, .ref (ad 0)), (1, .int x1)] [] := by
    intro n26
    induction n26 with
    | zero => intro σ x1 h; exact absurd h (by simp [f_X11_read_L26])
    | succ n26 ih26 =>
      intro σ x1 h H locs ls w hl
      change f_X11_read_b26 (f_X11_read_L26 n26) σ x1 = some out at h
      unfold f_X11_read_b26 at h
      refine lv_aload_n hx hb dX11_read_26 rfl (lv_at hl 0 rfl) ?_
      refine gM0_21 (v := (σ.1 21)) C w rfl wl_346 dX11_read_27 ?_
      refine lv_if_eq (tgt := 66) hx hb dX11_read_30 (by decide) (fun c1 => ?_) (fun c1 => ?_)
      · have h := it_t h c1
        refine lv_iconst (v := 0) hx hb dX11_read_66 (by decide) ?_
        refine lv_istore_n (lv' := [(2, .int (0 : Int32)), (0, .ref (ad 0)), (1, .int x1)]) hx hb dX11_read_67 rfl hl (by decide) rfl (fun ls hl => ?_)
        exact L68 FU _ _ _ h _ _ _ w (lv_sub hl [1, 2, 0] rfl)
      · have h := it_f h c1
        refine lv_aload_n hx hb dX11_read_33 rfl (lv_at hl 0 rfl) ?_
        obtain ⟨q1, hq1, h⟩ := ob_t h
        refine res_i C w (run_V (As := []) (rest := []) C w hl.1 (recvM0 C w) (c_X11_takesItem l D ca ad _  _ q1 hq1) rfl rfl wl_379 wl_380 wl_381 wl_5 wl_382 hd_X11_takesItem rfl ⟨Nat.le_of_ble_eq_true rfl, Nat.le_of_ble_eq_true rfl⟩ rfl (Nat.le_of_ble_eq_true rfl) dX11_read_34) (fun H locs w => ?_)
        refine lv_if_eq (tgt := 48) hx hb dX11_read_37 (by decide) (fun c2 => ?_) (fun c2 => ?_)
        · have h := it_t h c2
          exact b48 _ h _ _ _ w (lv_sub hl [0] rfl)
        · have h := it_f h c2
          refine lv_aload_n hx hb dX11_read_40 rfl (lv_at hl 0 rfl) ?_
          refine gM0_21 (v := (q1.2.1 21)) C w rfl wl_346 dX11_read_41 ?_
          refine lv_iconst (v := 3) hx hb dX11_read_44 (by decide) ?_
          refine lv_icmp_eq (tgt := 56) hx hb dX11_read_45 (by decide) (fun c3 => ?_) (fun c3 => ?_)
          · have h := it_t h c3
            refine lv_aload_n hx hb dX11_read_56 rfl (lv_at hl 0 rfl) ?_
            obtain ⟨q2, hq2, h⟩ := ob_t h
            refine res_v C w (run_V (As := []) (rest := []) C w hl.1 (recvM0 C w) (c_X11_goBehind l D ca ad _  _ q2 hq2) rfl rfl wl_371 wl_372 wl_373 wl_5 wl_374 hd_X11_goBehind rfl ⟨Nat.le_of_ble_eq_true rfl, Nat.le_of_ble_eq_true rfl⟩ rfl (Nat.le_of_ble_eq_true rfl) dX11_read_57) (fun H locs w => ?_)
            refine lv_iinc (v := (x1 + (1 : Int32))) (lv' := [(1, .int (x1 + (1 : Int32))), (0, .ref (ad 0))]) hx hb dX11_read_60 hl (k := 1) rfl rfl (by decide) rfl (fun ls hl => ?_)
            refine lv_goto (tgt := 26) hx hb dX11_read_63 (by decide) ?_
            exact ih26 _ _ h _ _ _ w (lv_sub hl [1, 0] rfl)
          · have h := it_f h c3
            exact b48 _ h _ _ _ w (lv_sub hl [0] rfl)
  have h := hf
  unfold f_X11_read at h
  refine lv_aload_n hx hb dX11_read_0 rfl (lv_at hl 0 rfl) ?_
  refine lv_iconst (v := 0) hx hb dX11_read_1 (by decide) ?_
  obtain ⟨q1, hq1, h⟩ := ob_t h
  refine res_v C w (run_V (As := [.int (0 : Int32)]) (rest := []) C w hl.1 (recvM0 C w) (c_X11_lookAt l D ca ad _ (0 : Int32) _ q1 hq1) rfl rfl wl_347 wl_348 wl_349 wl_5 wl_350 hd_X11_lookAt rfl ⟨Nat.le_of_ble_eq_true rfl, Nat.le_of_ble_eq_true rfl⟩ rfl (Nat.le_of_ble_eq_true rfl) dX11_read_2) (fun H locs w => ?_)
  refine lv_aload_n hx hb dX11_read_5 rfl (lv_at hl 0 rfl) ?_
  obtain ⟨q2, hq2, h⟩ := ob_t h
  refine res_i C w (run_V (As := []) (rest := []) C w hl.1 (recvM0 C w) (c_X11_takesWood l D ca ad _  _ q2 hq2) rfl rfl wl_363 wl_364 wl_365 wl_5 wl_366 hd_X11_takesWood rfl ⟨Nat.le_of_ble_eq_true rfl, Nat.le_of_ble_eq_true rfl⟩ rfl (Nat.le_of_ble_eq_true rfl) dX11_read_6) (fun H locs w => ?_)
  refine lv_if_ne (tgt := 20) hx hb dX11_read_9 (by decide) (fun c1 => ?_) (fun c1 => ?_)
  · have h := it_f h c1
    refine lv_aload_n hx hb dX11_read_20 rfl (lv_at hl 0 rfl) ?_
    obtain ⟨q3, hq3, h⟩ := ob_t h
    refine res_v C w (run_V (As := []) (rest := []) C w hl.1 (recvM0 C w) (c_X11_goBehind l D ca ad _  _ q3 hq3) rfl rfl wl_371 wl_372 wl_373 wl_5 wl_374 hd_X11_goBehind rfl ⟨Nat.le_of_ble_eq_true rfl, Nat.le_of_ble_eq_true rfl⟩ rfl (Nat.le_of_ble_eq_true rfl) dX11_read_21) (fun H locs w => ?_)
    refine lv_iconst (v := 1) hx hb dX11_read_24 (by decide) ?_
    refine lv_istore_n (lv' := [(1, .int (1 : Int32)), (0, .ref (ad 0))]) hx hb dX11_read_25 rfl hl (by decide) rfl (fun ls hl => ?_)
    exact L26 FU _ _ h _ _ _ w (lv_sub hl [1, 0] rfl)
  · have h := it_t h c1
    refine lv_bipush (v := -10) hx hb dX11_read_12 (by decide) ?_
    refine lv_aload_n hx hb dX11_read_14 rfl (lv_at hl 0 rfl) ?_
    refine gM0_19 (v := (q2.2.1 19)) C w rfl wl_345 dX11_read_15 ?_
    refine lv_isub hx hb dX11_read_18 ?_
    rw [hQ]
    exact rI (F := MW ca ad) C w h dX11_read_19
theorem hd_X11_part : yX11_part.cls = RX11 ∧ yX11_part.cls ≠ "java/lang/invoke/MethodHandle" ∧ yX11_part.cls ≠ "java/lang/invoke/VarHandle" ∧ (parseMethodDescriptor yX11_part.desc).map (fun d => d.parameters.length) = some 1 := by decide +kernel
def f_X11_part (σ : St) (x1 : Int32) : Option (Int64 × St) := if x1 = 0 then (some ((σ.2.1 4), σ)) else (if x1 = (1 : Int32) then (some ((σ.2.1 5), σ)) else ((f_X11_bad σ (-2 : Int32)).bind fun q1 => some ((q1.1).toInt64, q1.2)))
abbrev rm_X11_part : Room := { frames := 1, cells := 0, slots := 0, locals := 60 }
set_option maxHeartbeats 4000000 in
set_option maxRecDepth 100000 in
theorem c_X11_part (l : Launch) (D : va_G) (ca : Nat → ClassId) (ad : Nat → Nat) (σ : St) (x1 : Int32) (sz : Nat) (out : Int64 × St) (hf : f_X11_part σ x1 = some out) : Met l yX11_part (.code yX11_part cX11_part 2 (some .long) :: WL) rm_X11_part (PreC D ca (MW ca ad σ) sz [.ref (ad 0), .int x1]) (PostL D (va_A (MW ca ad σ) sz) (MW ca ad out.2) out.1) 0 0 (va_A (MW ca ad σ) sz) := by
  refine Met.ofW (cc := cX11_part) (maxL := 2) (ret := (some .long)) (by decide) rfl ?_
  intro p e s m args below meth c s₁ B hml hv
  obtain ⟨rfl, hsz, hP, hK, hD, hN⟩ := hv
  subst hsz
  have C := Cx.mk (own := RX11) B hml rfl hK hN (ws := (MW ca ad σ))
  have w : Wd (va_A (MW ca ad σ) s.heap.size) s D (MW ca ad σ) s.heap [] := ⟨hP, hD.self, va_S.rf⟩
  have hl := lv_entry ([.ref (ad 0), .int x1]) (n := 2) (Nat.le_of_ble_eq_true rfl)
  rw [lg_entry_eq]
  generalize (lg_sl ([.ref (ad 0), .int x1]) ++ List.replicate (2 - (lg_sl ([.ref (ad 0), .int x1])).length) Slot.unset).toArray = ls at hl ⊢
  have hl : lv_has ls 2 [(0, .ref (ad 0)), (1, .int x1)] := hl
  change W p l e rm_X11_part s m _ below meth c _ [] 0 0 _ _
  clear B hP hD hK hN hml
  generalize va_A (MW ca ad σ) s.heap.size = A at C w ⊢
  generalize ([.ref (ad 0), .int x1] : List Value).toArray = av at C ⊢
  obtain ⟨Q, hQ⟩ : ∃ Q, Q = MQ below (PostL D A (MW ca ad out.2) out.1) av s 0 0 A := ⟨_, rfl⟩
  rw [← hQ]
  have hx := C.1
  have hb := C.2.1
  have h := hf
  unfold f_X11_part at h
  refine lv_iload_n hx hb dX11_part_0 rfl (lv_at hl 1 rfl) ?_
  refine lv_if_ne (tgt := 11) hx hb dX11_part_1 (by decide) (fun c1 => ?_) (fun c1 => ?_)
  · have h := it_f h c1
    refine lv_iload_n hx hb dX11_part_11 rfl (lv_at hl 1 rfl) ?_
    refine lv_iconst (v := 1) hx hb dX11_part_12 (by decide) ?_
    refine lv_icmp_ne (tgt := 23) hx hb dX11_part_13 (by decide) (fun c2 => ?_) (fun c2 => ?_)
    · have h := it_f h c2
      refine lv_aload_n hx hb dX11_part_23 rfl (lv_at hl 0 rfl) ?_
      refine lv_bipush (v := -2) hx hb dX11_part_24 (by decide) ?_
      obtain ⟨q1, hq1, h⟩ := ob_t h
      refine res_i C w (run_V (As := [.int (-2 : Int32)]) (rest := []) C w hl.1 (recvM0 C w) (c_X11_bad l D ca ad _ (-2 : Int32) _ q1 hq1) rfl rfl wl_140 wl_141 wl_142 wl_5 wl_143 hd_X11_bad rfl ⟨Nat.le_of_ble_eq_true rfl, Nat.le_of_ble_eq_true rfl⟩ rfl (Nat.le_of_ble_eq_true rfl) dX11_part_26) (fun H locs w => ?_)
      refine lv_i2l hx hb dX11_part_29 rfl ?_
      rw [hQ]
      exact rJ (F := MW ca ad) C w h dX11_part_30
    · have h := it_t h c2
      refine lv_aload_n hx hb dX11_part_16 rfl (lv_at hl 0 rfl) ?_
      refine gM0_5 (v := (σ.2.1 5)) C w rfl wl_98 dX11_part_17 ?_
      refine lv_goto (tgt := 30) hx hb dX11_part_20 (by decide) ?_
      rw [hQ]
      exact rJ (F := MW ca ad) C w h dX11_part_30
  · have h := it_t h c1
    refine lv_aload_n hx hb dX11_part_4 rfl (lv_at hl 0 rfl) ?_
    refine gM0_4 (v := (σ.2.1 4)) C w rfl wl_884 dX11_part_5 ?_
    refine lv_goto (tgt := 30) hx hb dX11_part_8 (by decide) ?_
    rw [hQ]
    exact rJ (F := MW ca ad) C w h dX11_part_30
theorem hd_X11_image : yX11_image.cls = RX11 ∧ yX11_image.cls ≠ "java/lang/invoke/MethodHandle" ∧ yX11_image.cls ≠ "java/lang/invoke/VarHandle" ∧ (parseMethodDescriptor yX11_image.desc).map (fun d => d.parameters.length) = some 1 := by decide +kernel
def f_X11_image_b19 (K19 : St → Int32 → Int32 → Option (Int32 × St)) (σ : St) (x1 : Int32) (x2 : Int32) : Option (Int32 × St) := if (84 : Int32) ≤ x2 then (cond (ckI x1 2) (some ((1 : Int32), (sE σ 3 x1.toNatClampNeg (vp_nar .boolean (1 : Int32))))) none) else (cond (ckI x2 84) (cond (ckI (((84 : Int32) * x1) + x2) 168) (K19 (sE σ 2 (((((84 : Int32) * x1) + x2)).toNatClampNeg) (σ.2.2 1 x2.toNatClampNeg)) x1 (x2 + (1 : Int32))) none) none)
def f_X11_image_L19 : Nat → St → Int32 → Int32 → Option (Int32 × St)
  | 0 => fun _ _ _ => none
  | n + 1 => f_X11_image_b19 (f_X11_image_L19 n)
def f_X11_image (σ : St) (x1 : Int32) : Option (Int32 × St) := (f_X11_in x1.toInt64 (0 : Int64) (1 : Int64)).bind fun q1 => if q1 = 0 then ((f_X11_bad σ (-2 : Int32)).bind fun q2 => some (q2.1, q2.2)) else (f_X11_image_L19 FU σ x1 (0 : Int32))
abbrev rm_X11_image : Room := { frames := 1, cells := 0, slots := 0, locals := 60 }
set_option maxHeartbeats 4000000 in
set_option maxRecDepth 100000 in
theorem c_X11_image (l : Launch) (D : va_G) (ca : Nat → ClassId) (ad : Nat → Nat) (σ : St) (x1 : Int32) (sz : Nat) (out : Int32 × St) (hf : f_X11_image σ x1 = some out) : Met l yX11_image (.code yX11_image cX11_image 3 (some .int) :: WL) rm_X11_image (PreC D ca (MW ca ad σ) sz [.ref (ad 0), .int x1]) (PostI D (va_A (MW ca ad σ) sz) (MW ca ad out.2) out.1) 0 0 (va_A (MW ca ad σ) sz) := by
  refine Met.ofW (cc := cX11_image) (maxL := 3) (ret := (some .int)) (by decide) rfl ?_
  intro p e s m args below meth c s₁ B hml hv
  obtain ⟨rfl, hsz, hP, hK, hD, hN⟩ := hv
  subst hsz
  have C := Cx.mk (own := RX11) B hml rfl hK hN (ws := (MW ca ad σ))
  have w : Wd (va_A (MW ca ad σ) s.heap.size) s D (MW ca ad σ) s.heap [] := ⟨hP, hD.self, va_S.rf⟩
  have hl := lv_entry ([.ref (ad 0), .int x1]) (n := 3) (Nat.le_of_ble_eq_true rfl)
  rw [lg_entry_eq]
  generalize (lg_sl ([.ref (ad 0), .int x1]) ++ List.replicate (3 - (lg_sl ([.ref (ad 0), .int x1])).length) Slot.unset).toArray = ls at hl ⊢
  have hl : lv_has ls 3 [(0, .ref (ad 0)), (1, .int x1)] := hl
  change W p l e rm_X11_image s m _ below meth c _ [] 0 0 _ _
  clear B hP hD hK hN hml
  generalize va_A (MW ca ad σ) s.heap.size = A at C w ⊢
  generalize ([.ref (ad 0), .int x1] : List Value).toArray = av at C ⊢
  obtain ⟨Q, hQ⟩ : ∃ Q, Q = MQ below (PostI D A (MW ca ad out.2) out.1) av s 0 0 A := ⟨_, rfl⟩
  rw [← hQ]
  have hx := C.1
  have hb := C.2.1
  have L19 : ∀ (n19 : Nat) (σ : St) (x1 : Int32) (x2 : Int32), f_X11_image_L19 n19 σ x1 x2 = some out → Bk p l e rm_X11_image s m av below meth c A D 3 Q (MW ca ad σ) 19 [(0, .ref (ad 0)), (1, .int x1), (2, .int x2)] [] := by
    intro n19
    induction n19 with
    | zero => intro σ x1 x2 h; exact absurd h (by simp [f_X11_image_L19])
    | succ n19 ih19 =>
      intro σ x1 x2 h H locs ls w hl
      change f_X11_image_b19 (f_X11_image_L19 n19) σ x1 x2 = some out at h
      unfold f_X11_image_b19 at h
      refine lv_iload_n hx hb dX11_image_19 rfl (lv_at hl 2 rfl) ?_
      refine lv_bipush (v := 84) hx hb dX11_image_20 (by decide) ?_
      refine lv_icmp_ge (tgt := 48) hx hb dX11_image_22 (by decide) (fun c1 => ?_) (fun c1 => ?_)
      · have h := it_t h c1
        refine lv_aload_n hx hb dX11_image_48 rfl (lv_at hl 0 rfl) ?_
        refine gM0_2 C w wl_96 dX11_image_49 ?_
        refine lv_iload_n hx hb dX11_image_52 rfl (lv_at hl 1 rfl) ?_
        refine lv_iconst (v := 1) hx hb dX11_image_53 (by decide) ?_
        obtain ⟨i2, h⟩ := ck_t h
        refine stM3 (j := x1.toNatClampNeg) C w i2 rfl dX11_image_54 (fun H locs w => ?_)
        refine lv_iconst (v := 1) hx hb dX11_image_55 (by decide) ?_
        rw [hQ]
        exact rI (F := MW ca ad) C w h dX11_image_56
      · have h := it_f h c1
        refine lv_aload_n hx hb dX11_image_25 rfl (lv_at hl 0 rfl) ?_
        refine gM0_1 C w wl_95 dX11_image_26 ?_
        refine lv_bipush (v := 84) hx hb dX11_image_29 (by decide) ?_
        refine lv_iload_n hx hb dX11_image_31 rfl (lv_at hl 1 rfl) ?_
        refine lv_imul hx hb dX11_image_32 ?_
        refine lv_iload_n hx hb dX11_image_33 rfl (lv_at hl 2 rfl) ?_
        refine lv_iadd hx hb dX11_image_34 ?_
        refine lv_aload_n hx hb dX11_image_35 rfl (lv_at hl 0 rfl) ?_
        refine gM0_0 C w wl_94 dX11_image_36 ?_
        refine lv_iload_n hx hb dX11_image_39 rfl (lv_at hl 2 rfl) ?_
        obtain ⟨i3, h⟩ := ck_t h
        refine ldM1 (v := (σ.2.2 1 x2.toNatClampNeg)) C w i3 rfl dX11_image_40 ?_
        obtain ⟨i4, h⟩ := ck_t h
        refine stM2 (j := ((((84 : Int32) * x1) + x2)).toNatClampNeg) C w i4 rfl dX11_image_41 (fun H locs w => ?_)
        refine lv_iinc (v := (x2 + (1 : Int32))) (lv' := [(2, .int (x2 + (1 : Int32))), (0, .ref (ad 0)), (1, .int x1)]) hx hb dX11_image_42 hl (k := 2) rfl rfl (by decide) rfl (fun ls hl => ?_)
        refine lv_goto (tgt := 19) hx hb dX11_image_45 (by decide) ?_
        exact ih19 _ _ _ h _ _ _ w (lv_sub hl [1, 2, 0] rfl)
  have h := hf
  unfold f_X11_image at h
  refine lv_iload_n hx hb dX11_image_0 rfl (lv_at hl 1 rfl) ?_
  refine lv_i2l hx hb dX11_image_1 rfl ?_
  refine lv_lconst (v := 0) hx hb dX11_image_2 (by decide) ?_
  refine lv_lconst (v := 1) hx hb dX11_image_3 (by decide) ?_
  obtain ⟨q1, hq1, h⟩ := ob_t h
  refine res_i C w (run_S (As := [.long x1.toInt64, .long (0 : Int64), .long (1 : Int64)]) (rest := []) C w hl.1 (c_X11_in l D ca _ x1.toInt64 (0 : Int64) (1 : Int64) _ q1 hq1) rfl rfl wl_137 wl_138 wl_5 wl_139 hd_X11_in rfl ⟨Nat.le_of_ble_eq_true rfl, Nat.le_of_ble_eq_true rfl⟩ rfl (Nat.le_of_ble_eq_true rfl) dX11_image_4) (fun H locs w => ?_)
  refine lv_if_ne (tgt := 17) hx hb dX11_image_7 (by decide) (fun c1 => ?_) (fun c1 => ?_)
  · have h := it_f h c1
    refine lv_iconst (v := 0) hx hb dX11_image_17 (by decide) ?_
    refine lv_istore_n (lv' := [(2, .int (0 : Int32)), (0, .ref (ad 0)), (1, .int x1)]) hx hb dX11_image_18 rfl hl (by decide) rfl (fun ls hl => ?_)
    exact L19 FU _ _ _ h _ _ _ w (lv_sub hl [1, 2, 0] rfl)
  · have h := it_t h c1
    refine lv_aload_n hx hb dX11_image_10 rfl (lv_at hl 0 rfl) ?_
    refine lv_bipush (v := -2) hx hb dX11_image_11 (by decide) ?_
    obtain ⟨q2, hq2, h⟩ := ob_t h
    refine res_i C w (run_V (As := [.int (-2 : Int32)]) (rest := []) C w hl.1 (recvM0 C w) (c_X11_bad l D ca ad _ (-2 : Int32) _ q2 hq2) rfl rfl wl_140 wl_141 wl_142 wl_5 wl_143 hd_X11_bad rfl ⟨Nat.le_of_ble_eq_true rfl, Nat.le_of_ble_eq_true rfl⟩ rfl (Nat.le_of_ble_eq_true rfl) dX11_image_13) (fun H locs w => ?_)
    rw [hQ]
    exact rI (F := MW ca ad) C w h dX11_image_16
theorem hd_X11_from : yX11_from.cls = RX11 ∧ yX11_from.cls ≠ "java/lang/invoke/MethodHandle" ∧ yX11_from.cls ≠ "java/lang/invoke/VarHandle" ∧ (parseMethodDescriptor yX11_from.desc).map (fun d => d.parameters.length) = some 1 := by decide +kernel
def f_X11_from_b33 (K33 : St → Int32 → Int32 → Option (Int32 × St)) (σ : St) (x1 : Int32) (x2 : Int32) : Option (Int32 × St) := if (84 : Int32) ≤ x2 then (some ((1 : Int32), σ)) else (cond (ckI (((84 : Int32) * x1) + x2) 168) (cond (ckI x2 84) (K33 (sE σ 1 x2.toNatClampNeg (σ.2.2 2 ((((84 : Int32) * x1) + x2)).toNatClampNeg)) x1 (x2 + (1 : Int32))) none) none)
def f_X11_from_L33 : Nat → St → Int32 → Int32 → Option (Int32 × St)
  | 0 => fun _ _ _ => none
  | n + 1 => f_X11_from_b33 (f_X11_from_L33 n)
def f_X11_from (σ : St) (x1 : Int32) : Option (Int32 × St) := (f_X11_in x1.toInt64 (0 : Int64) (1 : Int64)).bind fun q1 => if q1 = 0 then ((f_X11_bad σ (-2 : Int32)).bind fun q3 => some (q3.1, q3.2)) else (cond (ckI x1 2) (if (σ.2.2 3 x1.toNatClampNeg) = 0 then ((f_X11_no σ).bind fun q2 => some (q2.1, q2.2)) else (f_X11_from_L33 FU σ x1 (0 : Int32))) none)
abbrev rm_X11_from : Room := { frames := 1, cells := 0, slots := 0, locals := 60 }
set_option maxHeartbeats 4000000 in
set_option maxRecDepth 100000 in
theorem c_X11_from (l : Launch) (D : va_G) (ca : Nat → ClassId) (ad : Nat → Nat) (σ : St) (x1 : Int32) (sz : Nat) (out : Int32 × St) (hf : f_X11_from σ x1 = some out) : Met l yX11_from (.code yX11_from cX11_from 3 (some .int) :: WL) rm_X11_from (PreC D ca (MW ca ad σ) sz [.ref (ad 0), .int x1]) (PostI D (va_A (MW ca ad σ) sz) (MW ca ad out.2) out.1) 0 0 (va_A (MW ca ad σ) sz) := by
  refine Met.ofW (cc := cX11_from) (maxL := 3) (ret := (some .int)) (by decide) rfl ?_
  intro p e s m args below meth c s₁ B hml hv
  obtain ⟨rfl, hsz, hP, hK, hD, hN⟩ := hv
  subst hsz
  have C := Cx.mk (own := RX11) B hml rfl hK hN (ws := (MW ca ad σ))
  have w : Wd (va_A (MW ca ad σ) s.heap.size) s D (MW ca ad σ) s.heap [] := ⟨hP, hD.self, va_S.rf⟩
  have hl := lv_entry ([.ref (ad 0), .int x1]) (n := 3) (Nat.le_of_ble_eq_true rfl)
  rw [lg_entry_eq]
  generalize (lg_sl ([.ref (ad 0), .int x1]) ++ List.replicate (3 - (lg_sl ([.ref (ad 0), .int x1])).length) Slot.unset).toArray = ls at hl ⊢
  have hl : lv_has ls 3 [(0, .ref (ad 0)), (1, .int x1)] := hl
  change W p l e rm_X11_from s m _ below meth c _ [] 0 0 _ _
  clear B hP hD hK hN hml
  generalize va_A (MW ca ad σ) s.heap.size = A at C w ⊢
  generalize ([.ref (ad 0), .int x1] : List Value).toArray = av at C ⊢
  obtain ⟨Q, hQ⟩ : ∃ Q, Q = MQ below (PostI D A (MW ca ad out.2) out.1) av s 0 0 A := ⟨_, rfl⟩
  rw [← hQ]
  have hx := C.1
  have hb := C.2.1
  have L33 : ∀ (n33 : Nat) (σ : St) (x1 : Int32) (x2 : Int32), f_X11_from_L33 n33 σ x1 x2 = some out → Bk p l e rm_X11_from s m av below meth c A D 3 Q (MW ca ad σ) 33 [(0, .ref (ad 0)), (1, .int x1), (2, .int x2)] [] := by
    intro n33
    induction n33 with
    | zero => intro σ x1 x2 h; exact absurd h (by simp [f_X11_from_L33])
    | succ n33 ih33 =>
      intro σ x1 x2 h H locs ls w hl
      change f_X11_from_b33 (f_X11_from_L33 n33) σ x1 x2 = some out at h
      unfold f_X11_from_b33 at h
      refine lv_iload_n hx hb dX11_from_33 rfl (lv_at hl 2 rfl) ?_
      refine lv_bipush (v := 84) hx hb dX11_from_34 (by decide) ?_
      refine lv_icmp_ge (tgt := 62) hx hb dX11_from_36 (by decide) (fun c1 => ?_) (fun c1 => ?_)
      · have h := it_t h c1
        refine lv_iconst (v := 1) hx hb dX11_from_62 (by decide) ?_
        rw [hQ]
        exact rI (F := MW ca ad) C w h dX11_from_63
      · have h := it_f h c1
        refine lv_aload_n hx hb dX11_from_39 rfl (lv_at hl 0 rfl) ?_
        refine gM0_0 C w wl_94 dX11_from_40 ?_
        refine lv_iload_n hx hb dX11_from_43 rfl (lv_at hl 2 rfl) ?_
        refine lv_aload_n hx hb dX11_from_44 rfl (lv_at hl 0 rfl) ?_
        refine gM0_1 C w wl_95 dX11_from_45 ?_
        refine lv_bipush (v := 84) hx hb dX11_from_48 (by decide) ?_
        refine lv_iload_n hx hb dX11_from_50 rfl (lv_at hl 1 rfl) ?_
        refine lv_imul hx hb dX11_from_51 ?_
        refine lv_iload_n hx hb dX11_from_52 rfl (lv_at hl 2 rfl) ?_
        refine lv_iadd hx hb dX11_from_53 ?_
        obtain ⟨i2, h⟩ := ck_t h
        refine ldM2 (v := (σ.2.2 2 ((((84 : Int32) * x1) + x2)).toNatClampNeg)) C w i2 rfl dX11_from_54 ?_
        obtain ⟨i3, h⟩ := ck_t h
        refine stM1 (j := x2.toNatClampNeg) C w i3 rfl dX11_from_55 (fun H locs w => ?_)
        refine lv_iinc (v := (x2 + (1 : Int32))) (lv' := [(2, .int (x2 + (1 : Int32))), (0, .ref (ad 0)), (1, .int x1)]) hx hb dX11_from_56 hl (k := 2) rfl rfl (by decide) rfl (fun ls hl => ?_)
        refine lv_goto (tgt := 33) hx hb dX11_from_59 (by decide) ?_
        exact ih33 _ _ _ h _ _ _ w (lv_sub hl [1, 2, 0] rfl)
  have h := hf
  unfold f_X11_from at h
  refine lv_iload_n hx hb dX11_from_0 rfl (lv_at hl 1 rfl) ?_
  refine lv_i2l hx hb dX11_from_1 rfl ?_
  refine lv_lconst (v := 0) hx hb dX11_from_2 (by decide) ?_
  refine lv_lconst (v := 1) hx hb dX11_from_3 (by decide) ?_
  obtain ⟨q1, hq1, h⟩ := ob_t h
  refine res_i C w (run_S (As := [.long x1.toInt64, .long (0 : Int64), .long (1 : Int64)]) (rest := []) C w hl.1 (c_X11_in l D ca _ x1.toInt64 (0 : Int64) (1 : Int64) _ q1 hq1) rfl rfl wl_137 wl_138 wl_5 wl_139 hd_X11_in rfl ⟨Nat.le_of_ble_eq_true rfl, Nat.le_of_ble_eq_true rfl⟩ rfl (Nat.le_of_ble_eq_true rfl) dX11_from_4) (fun H locs w => ?_)
  refine lv_if_ne (tgt := 17) hx hb dX11_from_7 (by decide) (fun c1 => ?_) (fun c1 => ?_)
  · have h := it_f h c1
    refine lv_aload_n hx hb dX11_from_17 rfl (lv_at hl 0 rfl) ?_
    refine gM0_2 C w wl_96 dX11_from_18 ?_
    refine lv_iload_n hx hb dX11_from_21 rfl (lv_at hl 1 rfl) ?_
    obtain ⟨i2, h⟩ := ck_t h
    refine ldM3 (v := (σ.2.2 3 x1.toNatClampNeg)) C w i2 rfl dX11_from_22 ?_
    refine lv_if_ne (tgt := 31) hx hb dX11_from_23 (by decide) (fun c3 => ?_) (fun c3 => ?_)
    · have h := it_f h c3
      refine lv_iconst (v := 0) hx hb dX11_from_31 (by decide) ?_
      refine lv_istore_n (lv' := [(2, .int (0 : Int32)), (0, .ref (ad 0)), (1, .int x1)]) hx hb dX11_from_32 rfl hl (by decide) rfl (fun ls hl => ?_)
      exact L33 FU _ _ _ h _ _ _ w (lv_sub hl [1, 2, 0] rfl)
    · have h := it_t h c3
      refine lv_aload_n hx hb dX11_from_26 rfl (lv_at hl 0 rfl) ?_
      obtain ⟨q2, hq2, h⟩ := ob_t h
      refine res_i C w (run_V (As := []) (rest := []) C w hl.1 (recvM0 C w) (c_X11_no l D ca ad _  _ q2 hq2) rfl rfl wl_441 wl_442 wl_443 wl_5 wl_444 hd_X11_no rfl ⟨Nat.le_of_ble_eq_true rfl, Nat.le_of_ble_eq_true rfl⟩ rfl (Nat.le_of_ble_eq_true rfl) dX11_from_27) (fun H locs w => ?_)
      rw [hQ]
      exact rI (F := MW ca ad) C w h dX11_from_30
  · have h := it_t h c1
    refine lv_aload_n hx hb dX11_from_10 rfl (lv_at hl 0 rfl) ?_
    refine lv_bipush (v := -2) hx hb dX11_from_11 (by decide) ?_
    obtain ⟨q3, hq3, h⟩ := ob_t h
    refine res_i C w (run_V (As := [.int (-2 : Int32)]) (rest := []) C w hl.1 (recvM0 C w) (c_X11_bad l D ca ad _ (-2 : Int32) _ q3 hq3) rfl rfl wl_140 wl_141 wl_142 wl_5 wl_143 hd_X11_bad rfl ⟨Nat.le_of_ble_eq_true rfl, Nat.le_of_ble_eq_true rfl⟩ rfl (Nat.le_of_ble_eq_true rfl) dX11_from_13) (fun H locs w => ?_)
    rw [hQ]
    exact rI (F := MW ca ad) C w h dX11_from_16
theorem hd_X11_status : yX11_status.cls = RX11 ∧ yX11_status.cls ≠ "java/lang/invoke/MethodHandle" ∧ yX11_status.cls ≠ "java/lang/invoke/VarHandle" ∧ (parseMethodDescriptor yX11_status.desc).map (fun d => d.parameters.length) = some 1 := by decide +kernel
def f_X11_status (σ : St) (x1 : Int32) : Option (Int32 × St) := (f_X11_in x1.toInt64 (0 : Int64) (2 : Int64)).bind fun q1 => if q1 = 0 then ((f_X11_bad σ (-1 : Int32)).bind fun q2 => some (q2.1, q2.2)) else (cond (ckI x1 3) (some ((σ.2.2 4 x1.toNatClampNeg), σ)) none)
abbrev rm_X11_status : Room := { frames := 1, cells := 0, slots := 0, locals := 60 }
set_option maxHeartbeats 4000000 in
set_option maxRecDepth 100000 in
theorem c_X11_status (l : Launch) (D : va_G) (ca : Nat → ClassId) (ad : Nat → Nat) (σ : St) (x1 : Int32) (sz : Nat) (out : Int32 × St) (hf : f_X11_status σ x1 = some out) : Met l yX11_status (.code yX11_status cX11_status 2 (some .int) :: WL) rm_X11_status (PreC D ca (MW ca ad σ) sz [.ref (ad 0), .int x1]) (PostI D (va_A (MW ca ad σ) sz) (MW ca ad out.2) out.1) 0 0 (va_A (MW ca ad σ) sz) := by
  refine Met.ofW (cc := cX11_status) (maxL := 2) (ret := (some .int)) (by decide) rfl ?_
  intro p e s m args below meth c s₁ B hml hv
  obtain ⟨rfl, hsz, hP, hK, hD, hN⟩ := hv
  subst hsz
  have C := Cx.mk (own := RX11) B hml rfl hK hN (ws := (MW ca ad σ))
  have w : Wd (va_A (MW ca ad σ) s.heap.size) s D (MW ca ad σ) s.heap [] := ⟨hP, hD.self, va_S.rf⟩
  have hl := lv_entry ([.ref (ad 0), .int x1]) (n := 2) (Nat.le_of_ble_eq_true rfl)
  rw [lg_entry_eq]
  generalize (lg_sl ([.ref (ad 0), .int x1]) ++ List.replicate (2 - (lg_sl ([.ref (ad 0), .int x1])).length) Slot.unset).toArray = ls at hl ⊢
  have hl : lv_has ls 2 [(0, .ref (ad 0)), (1, .int x1)] := hl
  change W p l e rm_X11_status s m _ below meth c _ [] 0 0 _ _
  clear B hP hD hK hN hml
  generalize va_A (MW ca ad σ) s.heap.size = A at C w ⊢
  generalize ([.ref (ad 0), .int x1] : List Value).toArray = av at C ⊢
  obtain ⟨Q, hQ⟩ : ∃ Q, Q = MQ below (PostI D A (MW ca ad out.2) out.1) av s 0 0 A := ⟨_, rfl⟩
  rw [← hQ]
  have hx := C.1
  have hb := C.2.1
  have h := hf
  unfold f_X11_status at h
  refine lv_iload_n hx hb dX11_status_0 rfl (lv_at hl 1 rfl) ?_
  refine lv_i2l hx hb dX11_status_1 rfl ?_
  refine lv_lconst (v := 0) hx hb dX11_status_2 (by decide) ?_
  refine lv_ldc2 (v := 2) hx hb C.ow (C.ts _ wl_454) dX11_status_3 ?_
  obtain ⟨q1, hq1, h⟩ := ob_t h
  refine res_i C w (run_S (As := [.long x1.toInt64, .long (0 : Int64), .long (2 : Int64)]) (rest := []) C w hl.1 (c_X11_in l D ca _ x1.toInt64 (0 : Int64) (2 : Int64) _ q1 hq1) rfl rfl wl_137 wl_138 wl_5 wl_139 hd_X11_in rfl ⟨Nat.le_of_ble_eq_true rfl, Nat.le_of_ble_eq_true rfl⟩ rfl (Nat.le_of_ble_eq_true rfl) dX11_status_6) (fun H locs w => ?_)
  refine lv_if_eq (tgt := 21) hx hb dX11_status_9 (by decide) (fun c1 => ?_) (fun c1 => ?_)
  · have h := it_t h c1
    refine lv_aload_n hx hb dX11_status_21 rfl (lv_at hl 0 rfl) ?_
    refine lv_iconst (v := -1) hx hb dX11_status_22 (by decide) ?_
    obtain ⟨q2, hq2, h⟩ := ob_t h
    refine res_i C w (run_V (As := [.int (-1 : Int32)]) (rest := []) C w hl.1 (recvM0 C w) (c_X11_bad l D ca ad _ (-1 : Int32) _ q2 hq2) rfl rfl wl_140 wl_141 wl_142 wl_5 wl_143 hd_X11_bad rfl ⟨Nat.le_of_ble_eq_true rfl, Nat.le_of_ble_eq_true rfl⟩ rfl (Nat.le_of_ble_eq_true rfl) dX11_status_23) (fun H locs w => ?_)
    rw [hQ]
    exact rI (F := MW ca ad) C w h dX11_status_26
  · have h := it_f h c1
    refine lv_aload_n hx hb dX11_status_12 rfl (lv_at hl 0 rfl) ?_
    refine gM0_3 C w wl_97 dX11_status_13 ?_
    refine lv_iload_n hx hb dX11_status_16 rfl (lv_at hl 1 rfl) ?_
    obtain ⟨i2, h⟩ := ck_t h
    refine ldM4 (v := (σ.2.2 4 x1.toNatClampNeg)) C w i2 rfl dX11_status_17 ?_
    refine lv_goto (tgt := 26) hx hb dX11_status_18 (by decide) ?_
    rw [hQ]
    exact rI (F := MW ca ad) C w h dX11_status_26
theorem hd_X11_manyTouches : yX11_manyTouches.cls = RX11 ∧ yX11_manyTouches.cls ≠ "java/lang/invoke/MethodHandle" ∧ yX11_manyTouches.cls ≠ "java/lang/invoke/VarHandle" ∧ (parseMethodDescriptor yX11_manyTouches.desc).map (fun d => d.parameters.length) = some 0 := by decide +kernel
def f_X11_manyTouches_b4 (K4 : St → Int32 → Int32 → Option (Int32 × St)) (σ : St) (x1 : Int32) (x2 : Int32) : Option (Int32 × St) := (f_X11_many σ).bind fun q1 => if q1.1 ≤ x2 then (some ((x1 / (2 : Int32)), q1.2)) else (cond (ckI ((13 : Int32) + x2) 84) ((f_X11_bits (q1.2.2.2 1 (((13 : Int32) + x2)).toNatClampNeg)).bind fun q2 => K4 q1.2 (x1 + q2) (x2 + (1 : Int32))) none)
def f_X11_manyTouches_L4 : Nat → St → Int32 → Int32 → Option (Int32 × St)
  | 0 => fun _ _ _ => none
  | n + 1 => f_X11_manyTouches_b4 (f_X11_manyTouches_L4 n)
def f_X11_manyTouches (σ : St) : Option (Int32 × St) := f_X11_manyTouches_L4 FU σ (0 : Int32) (0 : Int32)
abbrev rm_X11_manyTouches : Room := { frames := 1, cells := 0, slots := 0, locals := 60 }
set_option maxHeartbeats 4000000 in
set_option maxRecDepth 100000 in
theorem c_X11_manyTouches (l : Launch) (D : va_G) (ca : Nat → ClassId) (ad : Nat → Nat) (σ : St)  (sz : Nat) (out : Int32 × St) (hf : f_X11_manyTouches σ  = some out) : Met l yX11_manyTouches (.code yX11_manyTouches cX11_manyTouches 3 (some .int) :: WL) rm_X11_manyTouches (PreC D ca (MW ca ad σ) sz [.ref (ad 0)]) (PostI D (va_A (MW ca ad σ) sz) (MW ca ad out.2) out.1) 0 0 (va_A (MW ca ad σ) sz) := by
  refine Met.ofW (cc := cX11_manyTouches) (maxL := 3) (ret := (some .int)) (by decide) rfl ?_
  intro p e s m args below meth c s₁ B hml hv
  obtain ⟨rfl, hsz, hP, hK, hD, hN⟩ := hv
  subst hsz
  have C := Cx.mk (own := RX11) B hml rfl hK hN (ws := (MW ca ad σ))
  have w : Wd (va_A (MW ca ad σ) s.heap.size) s D (MW ca ad σ) s.heap [] := ⟨hP, hD.self, va_S.rf⟩
  have hl := lv_entry ([.ref (ad 0)]) (n := 3) (Nat.le_of_ble_eq_true rfl)
  rw [lg_entry_eq]
  generalize (lg_sl ([.ref (ad 0)]) ++ List.replicate (3 - (lg_sl ([.ref (ad 0)])).length) Slot.unset).toArray = ls at hl ⊢
  have hl : lv_has ls 3 [(0, .ref (ad 0))] := hl
  change W p l e rm_X11_manyTouches s m _ below meth c _ [] 0 0 _ _
  clear B hP hD hK hN hml
  generalize va_A (MW ca ad σ) s.heap.size = A at C w ⊢
  generalize ([.ref (ad 0)] : List Value).toArray = av at C ⊢
  obtain ⟨Q, hQ⟩ : ∃ Q, Q = MQ below (PostI D A (MW ca ad out.2) out.1) av s 0 0 A := ⟨_, rfl⟩
  rw [← hQ]
  have hx := C.1
  have hb := C.2.1
  have L4 : ∀ (n4 : Nat) (σ : St) (x1 : Int32) (x2 : Int32), f_X11_manyTouches_L4 n4 σ x1 x2 = some out → Bk p l e rm_X11_manyTouches s m av below meth c A D 3 Q (MW ca ad σ) 4 [(0, .ref (ad 0)), (1, .int x1), (2, .int x2)] [] := by
    intro n4
    induction n4 with
    | zero => intro σ x1 x2 h; exact absurd h (by simp [f_X11_manyTouches_L4])
    | succ n4 ih4 =>
      intro σ x1 x2 h H locs ls w hl
      change f_X11_manyTouches_b4 (f_X11_manyTouches_L4 n4) σ x1 x2 = some out at h
      unfold f_X11_manyTouches_b4 at h
      refine lv_iload_n hx hb dX11_manyTouches_4 rfl (lv_at hl 2 rfl) ?_
      refine lv_aload_n hx hb dX11_manyTouches_5 rfl (lv_at hl 0 rfl) ?_
      obtain ⟨q1, hq1, h⟩ := ob_t h
      refine res_i C w (run_V (As := []) (rest := [.int x2]) C w hl.1 (recvM0 C w) (c_X11_many l D ca ad _  _ q1 hq1) rfl rfl wl_144 wl_145 wl_146 wl_5 wl_147 hd_X11_many rfl ⟨Nat.le_of_ble_eq_true rfl, Nat.le_of_ble_eq_true rfl⟩ rfl (Nat.le_of_ble_eq_true rfl) dX11_manyTouches_6) (fun H locs w => ?_)
      refine lv_icmp_ge (tgt := 33) hx hb dX11_manyTouches_9 (by decide) (fun c1 => ?_) (fun c1 => ?_)
      · have h := it_t h c1
        refine lv_iload_n hx hb dX11_manyTouches_33 rfl (lv_at hl 1 rfl) ?_
        refine lv_iconst (v := 2) hx hb dX11_manyTouches_34 (by decide) ?_
        refine lv_idiv hx hb dX11_manyTouches_35 (by decide) ?_
        rw [hQ]
        exact rI (F := MW ca ad) C w h dX11_manyTouches_36
      · have h := it_f h c1
        refine lv_iload_n hx hb dX11_manyTouches_12 rfl (lv_at hl 1 rfl) ?_
        refine lv_aload_n hx hb dX11_manyTouches_13 rfl (lv_at hl 0 rfl) ?_
        refine gM0_0 C w wl_94 dX11_manyTouches_14 ?_
        refine lv_bipush (v := 13) hx hb dX11_manyTouches_17 (by decide) ?_
        refine lv_iload_n hx hb dX11_manyTouches_19 rfl (lv_at hl 2 rfl) ?_
        refine lv_iadd hx hb dX11_manyTouches_20 ?_
        obtain ⟨i2, h⟩ := ck_t h
        refine ldM1 (v := (q1.2.2.2 1 (((13 : Int32) + x2)).toNatClampNeg)) C w i2 rfl dX11_manyTouches_21 ?_
        obtain ⟨q2, hq2, h⟩ := ob_t h
        refine res_i C w (run_S (As := [.int (q1.2.2.2 1 (((13 : Int32) + x2)).toNatClampNeg)]) (rest := [.int x1]) C w hl.1 (c_X11_bits l D ca _ (q1.2.2.2 1 (((13 : Int32) + x2)).toNatClampNeg) _ q2 hq2) rfl rfl wl_732 wl_733 wl_5 wl_734 hd_X11_bits rfl ⟨Nat.le_of_ble_eq_true rfl, Nat.le_of_ble_eq_true rfl⟩ rfl (Nat.le_of_ble_eq_true rfl) dX11_manyTouches_22) (fun H locs w => ?_)
        refine lv_iadd hx hb dX11_manyTouches_25 ?_
        refine lv_istore_n (lv' := [(1, .int (x1 + q2)), (0, .ref (ad 0)), (2, .int x2)]) hx hb dX11_manyTouches_26 rfl hl (by decide) rfl (fun ls hl => ?_)
        refine lv_iinc (v := (x2 + (1 : Int32))) (lv' := [(2, .int (x2 + (1 : Int32))), (1, .int (x1 + q2)), (0, .ref (ad 0))]) hx hb dX11_manyTouches_27 hl (k := 2) rfl rfl (by decide) rfl (fun ls hl => ?_)
        refine lv_goto (tgt := 4) hx hb dX11_manyTouches_30 (by decide) ?_
        exact ih4 _ _ _ h _ _ _ w (lv_sub hl [2, 1, 0] rfl)
  have h := hf
  unfold f_X11_manyTouches at h
  refine lv_iconst (v := 0) hx hb dX11_manyTouches_0 (by decide) ?_
  refine lv_istore_n (lv' := [(1, .int (0 : Int32)), (0, .ref (ad 0))]) hx hb dX11_manyTouches_1 rfl hl (by decide) rfl (fun ls hl => ?_)
  refine lv_iconst (v := 0) hx hb dX11_manyTouches_2 (by decide) ?_
  refine lv_istore_n (lv' := [(2, .int (0 : Int32)), (1, .int (0 : Int32)), (0, .ref (ad 0))]) hx hb dX11_manyTouches_3 rfl hl (by decide) rfl (fun ls hl => ?_)
  exact L4 FU _ _ _ h _ _ _ w (lv_sub hl [2, 1, 0] rfl)
theorem hd_X11_counted : yX11_counted.cls = RX11 ∧ yX11_counted.cls ≠ "java/lang/invoke/MethodHandle" ∧ yX11_counted.cls ≠ "java/lang/invoke/VarHandle" ∧ (parseMethodDescriptor yX11_counted.desc).map (fun d => d.parameters.length) = some 1 := by decide +kernel
def f_X11_counted (σ : St) (x1 : Int32) : Option (Int32 × St) := if x1 = 0 then ((f_X11_many σ).bind fun q1 => some (q1.1, q1.2)) else (if x1 = 1 then (some ((σ.2.2 1 2), σ)) else (if x1 = 2 then ((f_X11_bits (σ.2.2 1 1)).bind fun q2 => some (q2, σ)) else (if x1 = 3 then ((f_X11_manyTouches σ).bind fun q3 => some (q3.1, q3.2)) else (if x1 = 4 then (some ((σ.2.2 1 3), σ)) else (if x1 = 5 then (some ((σ.2.2 1 4), σ)) else (if x1 = 6 then (some ((σ.2.2 1 5), σ)) else (some ((σ.1 18), σ))))))))
abbrev rm_X11_counted : Room := { frames := 2, cells := 0, slots := 0, locals := 120 }
set_option maxHeartbeats 4000000 in
set_option maxRecDepth 100000 in
theorem c_X11_counted (l : Launch) (D : va_G) (ca : Nat → ClassId) (ad : Nat → Nat) (σ : St) (x1 : Int32) (sz : Nat) (out : Int32 × St) (hf : f_X11_counted σ x1 = some out) : Met l yX11_counted (.code yX11_counted cX11_counted 2 (some .int) :: WL) rm_X11_counted (PreC D ca (MW ca ad σ) sz [.ref (ad 0), .int x1]) (PostI D (va_A (MW ca ad σ) sz) (MW ca ad out.2) out.1) 0 0 (va_A (MW ca ad σ) sz) := by
  refine Met.ofW (cc := cX11_counted) (maxL := 2) (ret := (some .int)) (by decide) rfl ?_
  intro p e s m args below meth c s₁ B hml hv
  obtain ⟨rfl, hsz, hP, hK, hD, hN⟩ := hv
  subst hsz
  have C := Cx.mk (own := RX11) B hml rfl hK hN (ws := (MW ca ad σ))
  have w : Wd (va_A (MW ca ad σ) s.heap.size) s D (MW ca ad σ) s.heap [] := ⟨hP, hD.self, va_S.rf⟩
  have hl := lv_entry ([.ref (ad 0), .int x1]) (n := 2) (Nat.le_of_ble_eq_true rfl)
  rw [lg_entry_eq]
  generalize (lg_sl ([.ref (ad 0), .int x1]) ++ List.replicate (2 - (lg_sl ([.ref (ad 0), .int x1])).length) Slot.unset).toArray = ls at hl ⊢
  have hl : lv_has ls 2 [(0, .ref (ad 0)), (1, .int x1)] := hl
  change W p l e rm_X11_counted s m _ below meth c _ [] 0 0 _ _
  clear B hP hD hK hN hml
  generalize va_A (MW ca ad σ) s.heap.size = A at C w ⊢
  generalize ([.ref (ad 0), .int x1] : List Value).toArray = av at C ⊢
  obtain ⟨Q, hQ⟩ : ∃ Q, Q = MQ below (PostI D A (MW ca ad out.2) out.1) av s 0 0 A := ⟨_, rfl⟩
  rw [← hQ]
  have hx := C.1
  have hb := C.2.1
  have h := hf
  unfold f_X11_counted at h
  refine lv_iload_n hx hb dX11_counted_0 rfl (lv_at hl 1 rfl) ?_
  by_cases c1_0 : x1 = 0
  · have h := it_t h c1_0
    refine int_eq c1_0 ?_
    refine lv_tableIn (off := 43) (tgt := 44) hx hb dX11_counted_1 (by decide) (by decide) (by decide) (by decide) ?_
    refine lv_aload_n hx hb dX11_counted_44 rfl (lv_at hl 0 rfl) ?_
    obtain ⟨q1, hq1, h⟩ := ob_t h
    refine res_i C w (run_V (As := []) (rest := []) C w hl.1 (recvM0 C w) (c_X11_many l D ca ad _  _ q1 hq1) rfl rfl wl_144 wl_145 wl_146 wl_5 wl_147 hd_X11_many rfl ⟨Nat.le_of_ble_eq_true rfl, Nat.le_of_ble_eq_true rfl⟩ rfl (Nat.le_of_ble_eq_true rfl) dX11_counted_45) (fun H locs w => ?_)
    rw [hQ]
    exact rI (F := MW ca ad) C w h dX11_counted_48
  have h := it_f h c1_0
  by_cases c1_1 : x1 = 1
  · have h := it_t h c1_1
    refine int_eq c1_1 ?_
    refine lv_tableIn (off := 48) (tgt := 49) hx hb dX11_counted_1 (by decide) (by decide) (by decide) (by decide) ?_
    refine lv_aload_n hx hb dX11_counted_49 rfl (lv_at hl 0 rfl) ?_
    refine gM0_0 C w wl_94 dX11_counted_50 ?_
    refine lv_iconst (v := 2) hx hb dX11_counted_53 (by decide) ?_
    refine ldM1 (v := (σ.2.2 1 2)) C w (vl (by decide)) rfl dX11_counted_54 ?_
    rw [hQ]
    exact rI (F := MW ca ad) C w h dX11_counted_55
  have h := it_f h c1_1
  by_cases c1_2 : x1 = 2
  · have h := it_t h c1_2
    refine int_eq c1_2 ?_
    refine lv_tableIn (off := 55) (tgt := 56) hx hb dX11_counted_1 (by decide) (by decide) (by decide) (by decide) ?_
    refine lv_aload_n hx hb dX11_counted_56 rfl (lv_at hl 0 rfl) ?_
    refine gM0_0 C w wl_94 dX11_counted_57 ?_
    refine lv_iconst (v := 1) hx hb dX11_counted_60 (by decide) ?_
    refine ldM1 (v := (σ.2.2 1 1)) C w (vl (by decide)) rfl dX11_counted_61 ?_
    obtain ⟨q2, hq2, h⟩ := ob_t h
    refine res_i C w (run_S (As := [.int (σ.2.2 1 1)]) (rest := []) C w hl.1 (c_X11_bits l D ca _ (σ.2.2 1 1) _ q2 hq2) rfl rfl wl_732 wl_733 wl_5 wl_734 hd_X11_bits rfl ⟨Nat.le_of_ble_eq_true rfl, Nat.le_of_ble_eq_true rfl⟩ rfl (Nat.le_of_ble_eq_true rfl) dX11_counted_62) (fun H locs w => ?_)
    rw [hQ]
    exact rI (F := MW ca ad) C w h dX11_counted_65
  have h := it_f h c1_2
  by_cases c1_3 : x1 = 3
  · have h := it_t h c1_3
    refine int_eq c1_3 ?_
    refine lv_tableIn (off := 65) (tgt := 66) hx hb dX11_counted_1 (by decide) (by decide) (by decide) (by decide) ?_
    refine lv_aload_n hx hb dX11_counted_66 rfl (lv_at hl 0 rfl) ?_
    obtain ⟨q3, hq3, h⟩ := ob_t h
    refine res_i C w (run_V (As := []) (rest := []) C w hl.1 (recvM0 C w) (c_X11_manyTouches l D ca ad _  _ q3 hq3) rfl rfl wl_961 wl_962 wl_963 wl_5 wl_964 hd_X11_manyTouches rfl ⟨Nat.le_of_ble_eq_true rfl, Nat.le_of_ble_eq_true rfl⟩ rfl (Nat.le_of_ble_eq_true rfl) dX11_counted_67) (fun H locs w => ?_)
    rw [hQ]
    exact rI (F := MW ca ad) C w h dX11_counted_70
  have h := it_f h c1_3
  by_cases c1_4 : x1 = 4
  · have h := it_t h c1_4
    refine int_eq c1_4 ?_
    refine lv_tableIn (off := 70) (tgt := 71) hx hb dX11_counted_1 (by decide) (by decide) (by decide) (by decide) ?_
    refine lv_aload_n hx hb dX11_counted_71 rfl (lv_at hl 0 rfl) ?_
    refine gM0_0 C w wl_94 dX11_counted_72 ?_
    refine lv_iconst (v := 3) hx hb dX11_counted_75 (by decide) ?_
    refine ldM1 (v := (σ.2.2 1 3)) C w (vl (by decide)) rfl dX11_counted_76 ?_
    rw [hQ]
    exact rI (F := MW ca ad) C w h dX11_counted_77
  have h := it_f h c1_4
  by_cases c1_5 : x1 = 5
  · have h := it_t h c1_5
    refine int_eq c1_5 ?_
    refine lv_tableIn (off := 77) (tgt := 78) hx hb dX11_counted_1 (by decide) (by decide) (by decide) (by decide) ?_
    refine lv_aload_n hx hb dX11_counted_78 rfl (lv_at hl 0 rfl) ?_
    refine gM0_0 C w wl_94 dX11_counted_79 ?_
    refine lv_iconst (v := 4) hx hb dX11_counted_82 (by decide) ?_
    refine ldM1 (v := (σ.2.2 1 4)) C w (vl (by decide)) rfl dX11_counted_83 ?_
    rw [hQ]
    exact rI (F := MW ca ad) C w h dX11_counted_84
  have h := it_f h c1_5
  by_cases c1_6 : x1 = 6
  · have h := it_t h c1_6
    refine int_eq c1_6 ?_
    refine lv_tableIn (off := 84) (tgt := 85) hx hb dX11_counted_1 (by decide) (by decide) (by decide) (by decide) ?_
    refine lv_aload_n hx hb dX11_counted_85 rfl (lv_at hl 0 rfl) ?_
    refine gM0_0 C w wl_94 dX11_counted_86 ?_
    refine lv_iconst (v := 5) hx hb dX11_counted_89 (by decide) ?_
    refine ldM1 (v := (σ.2.2 1 5)) C w (vl (by decide)) rfl dX11_counted_90 ?_
    rw [hQ]
    exact rI (F := MW ca ad) C w h dX11_counted_91
  have h := it_f h c1_6
  refine lv_tableOut (tgt := 92) hx hb dX11_counted_1 (swo_0_6 c1_0 c1_1 c1_2 c1_3 c1_4 c1_5 c1_6) (by decide) ?_
  refine lv_aload_n hx hb dX11_counted_92 rfl (lv_at hl 0 rfl) ?_
  refine gM0_18 (v := (σ.1 18)) C w rfl wl_205 dX11_counted_93 ?_
  rw [hQ]
  exact rI (F := MW ca ad) C w h dX11_counted_96
theorem hd_X11_count : yX11_count.cls = RX11 ∧ yX11_count.cls ≠ "java/lang/invoke/MethodHandle" ∧ yX11_count.cls ≠ "java/lang/invoke/VarHandle" ∧ (parseMethodDescriptor yX11_count.desc).map (fun d => d.parameters.length) = some 1 := by decide +kernel
def f_X11_count (σ : St) (x1 : Int32) : Option (Int32 × St) := (f_X11_in x1.toInt64 (0 : Int64) (7 : Int64)).bind fun q1 => if q1 = 0 then ((f_X11_bad σ (-2 : Int32)).bind fun q2 => some (q2.1, q2.2)) else ((f_X11_counted σ x1).bind fun q3 => some (q3.1, q3.2))
abbrev rm_X11_count : Room := { frames := 3, cells := 0, slots := 0, locals := 180 }
set_option maxHeartbeats 4000000 in
set_option maxRecDepth 100000 in
theorem c_X11_count (l : Launch) (D : va_G) (ca : Nat → ClassId) (ad : Nat → Nat) (σ : St) (x1 : Int32) (sz : Nat) (out : Int32 × St) (hf : f_X11_count σ x1 = some out) : Met l yX11_count (.code yX11_count cX11_count 2 (some .int) :: WL) rm_X11_count (PreC D ca (MW ca ad σ) sz [.ref (ad 0), .int x1]) (PostI D (va_A (MW ca ad σ) sz) (MW ca ad out.2) out.1) 0 0 (va_A (MW ca ad σ) sz) := by
  refine Met.ofW (cc := cX11_count) (maxL := 2) (ret := (some .int)) (by decide) rfl ?_
  intro p e s m args below meth c s₁ B hml hv
  obtain ⟨rfl, hsz, hP, hK, hD, hN⟩ := hv
  subst hsz
  have C := Cx.mk (own := RX11) B hml rfl hK hN (ws := (MW ca ad σ))
  have w : Wd (va_A (MW ca ad σ) s.heap.size) s D (MW ca ad σ) s.heap [] := ⟨hP, hD.self, va_S.rf⟩
  have hl := lv_entry ([.ref (ad 0), .int x1]) (n := 2) (Nat.le_of_ble_eq_true rfl)
  rw [lg_entry_eq]
  generalize (lg_sl ([.ref (ad 0), .int x1]) ++ List.replicate (2 - (lg_sl ([.ref (ad 0), .int x1])).length) Slot.unset).toArray = ls at hl ⊢
  have hl : lv_has ls 2 [(0, .ref (ad 0)), (1, .int x1)] := hl
  change W p l e rm_X11_count s m _ below meth c _ [] 0 0 _ _
  clear B hP hD hK hN hml
  generalize va_A (MW ca ad σ) s.heap.size = A at C w ⊢
  generalize ([.ref (ad 0), .int x1] : List Value).toArray = av at C ⊢
  obtain ⟨Q, hQ⟩ : ∃ Q, Q = MQ below (PostI D A (MW ca ad out.2) out.1) av s 0 0 A := ⟨_, rfl⟩
  rw [← hQ]
  have hx := C.1
  have hb := C.2.1
  have h := hf
  unfold f_X11_count at h
  refine lv_iload_n hx hb dX11_count_0 rfl (lv_at hl 1 rfl) ?_
  refine lv_i2l hx hb dX11_count_1 rfl ?_
  refine lv_lconst (v := 0) hx hb dX11_count_2 (by decide) ?_
  refine lv_ldc2 (v := 7) hx hb C.ow (C.ts _ wl_956) dX11_count_3 ?_
  obtain ⟨q1, hq1, h⟩ := ob_t h
  refine res_i C w (run_S (As := [.long x1.toInt64, .long (0 : Int64), .long (7 : Int64)]) (rest := []) C w hl.1 (c_X11_in l D ca _ x1.toInt64 (0 : Int64) (7 : Int64) _ q1 hq1) rfl rfl wl_137 wl_138 wl_5 wl_139 hd_X11_in rfl ⟨Nat.le_of_ble_eq_true rfl, Nat.le_of_ble_eq_true rfl⟩ rfl (Nat.le_of_ble_eq_true rfl) dX11_count_6) (fun H locs w => ?_)
  refine lv_if_eq (tgt := 20) hx hb dX11_count_9 (by decide) (fun c1 => ?_) (fun c1 => ?_)
  · have h := it_t h c1
    refine lv_aload_n hx hb dX11_count_20 rfl (lv_at hl 0 rfl) ?_
    refine lv_bipush (v := -2) hx hb dX11_count_21 (by decide) ?_
    obtain ⟨q2, hq2, h⟩ := ob_t h
    refine res_i C w (run_V (As := [.int (-2 : Int32)]) (rest := []) C w hl.1 (recvM0 C w) (c_X11_bad l D ca ad _ (-2 : Int32) _ q2 hq2) rfl rfl wl_140 wl_141 wl_142 wl_5 wl_143 hd_X11_bad rfl ⟨Nat.le_of_ble_eq_true rfl, Nat.le_of_ble_eq_true rfl⟩ rfl (Nat.le_of_ble_eq_true rfl) dX11_count_23) (fun H locs w => ?_)
    rw [hQ]
    exact rI (F := MW ca ad) C w h dX11_count_26
  · have h := it_f h c1
    refine lv_aload_n hx hb dX11_count_12 rfl (lv_at hl 0 rfl) ?_
    refine lv_iload_n hx hb dX11_count_13 rfl (lv_at hl 1 rfl) ?_
    obtain ⟨q3, hq3, h⟩ := ob_t h
    refine res_i C w (run_V (As := [.int x1]) (rest := []) C w hl.1 (recvM0 C w) (c_X11_counted l D ca ad _ x1 _ q3 hq3) rfl rfl wl_957 wl_958 wl_959 wl_5 wl_960 hd_X11_counted rfl ⟨Nat.le_of_ble_eq_true rfl, Nat.le_of_ble_eq_true rfl⟩ rfl (Nat.le_of_ble_eq_true rfl) dX11_count_14) (fun H locs w => ?_)
    refine lv_goto (tgt := 26) hx hb dX11_count_17 (by decide) ?_
    rw [hQ]
    exact rI (F := MW ca ad) C w h dX11_count_26
theorem hd_X11_sums : yX11_sums.cls = RX11 ∧ yX11_sums.cls ≠ "java/lang/invoke/MethodHandle" ∧ yX11_sums.cls ≠ "java/lang/invoke/VarHandle" ∧ (parseMethodDescriptor yX11_sums.desc).map (fun d => d.parameters.length) = some 3 := by decide +kernel
def f_X11_sums_b6 (K6 : St → Int32 → Int32 → Int64 → Int32 → Option (Int64 × St)) (σ : St) (x3 : Int32) (x4 : Int32) (x5 : Int64) (x7 : Int32) : Option (Int64 × St) := if x4 ≤ x7 then (some (x5, σ)) else (cond (ckI (x3 + x7) 84) (K6 σ x3 x4 (((31 : Int64) * x5) + ((σ.2.2 1 ((x3 + x7)).toNatClampNeg)).toInt64) (x7 + (1 : Int32))) none)
def f_X11_sums_L6 : Nat → St → Int32 → Int32 → Int64 → Int32 → Option (Int64 × St)
  | 0 => fun _ _ _ _ _ => none
  | n + 1 => f_X11_sums_b6 (f_X11_sums_L6 n)
def f_X11_sums (σ : St) (x1 : Int64) (x3 : Int32) (x4 : Int32) : Option (Int64 × St) := f_X11_sums_L6 FU σ x3 x4 x1 (0 : Int32)
abbrev rm_X11_sums : Room := { frames := 0, cells := 0, slots := 0, locals := 0 }
set_option maxHeartbeats 4000000 in
set_option maxRecDepth 100000 in
theorem c_X11_sums (l : Launch) (D : va_G) (ca : Nat → ClassId) (ad : Nat → Nat) (σ : St) (x1 : Int64) (x3 : Int32) (x4 : Int32) (sz : Nat) (out : Int64 × St) (hf : f_X11_sums σ x1 x3 x4 = some out) : Met l yX11_sums (.code yX11_sums cX11_sums 8 (some .long) :: WL) rm_X11_sums (PreC D ca (MW ca ad σ) sz [.ref (ad 0), .long x1, .int x3, .int x4]) (PostL D (va_A (MW ca ad σ) sz) (MW ca ad out.2) out.1) 0 0 (va_A (MW ca ad σ) sz) := by
  refine Met.ofW (cc := cX11_sums) (maxL := 8) (ret := (some .long)) (by decide) rfl ?_
  intro p e s m args below meth c s₁ B hml hv
  obtain ⟨rfl, hsz, hP, hK, hD, hN⟩ := hv
  subst hsz
  have C := Cx.mk (own := RX11) B hml rfl hK hN (ws := (MW ca ad σ))
  have w : Wd (va_A (MW ca ad σ) s.heap.size) s D (MW ca ad σ) s.heap [] := ⟨hP, hD.self, va_S.rf⟩
  have hl := lv_entry ([.ref (ad 0), .long x1, .int x3, .int x4]) (n := 8) (Nat.le_of_ble_eq_true rfl)
  rw [lg_entry_eq]
  generalize (lg_sl ([.ref (ad 0), .long x1, .int x3, .int x4]) ++ List.replicate (8 - (lg_sl ([.ref (ad 0), .long x1, .int x3, .int x4])).length) Slot.unset).toArray = ls at hl ⊢
  have hl : lv_has ls 8 [(0, .ref (ad 0)), (1, .long x1), (3, .int x3), (4, .int x4)] := hl
  change W p l e rm_X11_sums s m _ below meth c _ [] 0 0 _ _
  clear B hP hD hK hN hml
  generalize va_A (MW ca ad σ) s.heap.size = A at C w ⊢
  generalize ([.ref (ad 0), .long x1, .int x3, .int x4] : List Value).toArray = av at C ⊢
  obtain ⟨Q, hQ⟩ : ∃ Q, Q = MQ below (PostL D A (MW ca ad out.2) out.1) av s 0 0 A := ⟨_, rfl⟩
  rw [← hQ]
  have hx := C.1
  have hb := C.2.1
  have L6 : ∀ (n6 : Nat) (σ : St) (x3 : Int32) (x4 : Int32) (x5 : Int64) (x7 : Int32), f_X11_sums_L6 n6 σ x3 x4 x5 x7 = some out → Bk p l e rm_X11_sums s m av below meth c A D 8 Q (MW ca ad σ) 6 [(0, .ref (ad 0)), (3, .int x3), (4, .int x4), (5, .long x5), (7, .int x7)] [] := by
    intro n6
    induction n6 with
    | zero => intro σ x3 x4 x5 x7 h; exact absurd h (by simp [f_X11_sums_L6])
    | succ n6 ih6 =>
      intro σ x3 x4 x5 x7 h H locs ls w hl
      change f_X11_sums_b6 (f_X11_sums_L6 n6) σ x3 x4 x5 x7 = some out at h
      unfold f_X11_sums_b6 at h
      refine lv_iload hx hb dX11_sums_6 (lv_at hl 4 rfl) ?_
      refine lv_iload hx hb dX11_sums_8 (lv_at hl 2 rfl) ?_
      refine lv_icmp_ge (tgt := 38) hx hb dX11_sums_10 (by decide) (fun c1 => ?_) (fun c1 => ?_)
      · have h := it_t h c1
        refine lv_lload hx hb dX11_sums_38 (lv_at hl 3 rfl) ?_
        rw [hQ]
        exact rJ (F := MW ca ad) C w h dX11_sums_40
      · have h := it_f h c1
        refine lv_ldc2 (v := 31) hx hb C.ow (C.ts _ wl_976) dX11_sums_13 ?_
        refine lv_lload hx hb dX11_sums_16 (lv_at hl 3 rfl) ?_
        refine lv_lmul hx hb dX11_sums_18 ?_
        refine lv_aload_n hx hb dX11_sums_19 rfl (lv_at hl 0 rfl) ?_
        refine gM0_0 C w wl_94 dX11_sums_20 ?_
        refine lv_iload_n hx hb dX11_sums_23 rfl (lv_at hl 1 rfl) ?_
        refine lv_iload hx hb dX11_sums_24 (lv_at hl 4 rfl) ?_
        refine lv_iadd hx hb dX11_sums_26 ?_
        obtain ⟨i2, h⟩ := ck_t h
        refine ldM1 (v := (σ.2.2 1 ((x3 + x7)).toNatClampNeg)) C w i2 rfl dX11_sums_27 ?_
        refine lv_i2l hx hb dX11_sums_28 rfl ?_
        refine lv_ladd hx hb dX11_sums_29 ?_
        refine lv_lstore (lv' := [(5, .long (((31 : Int64) * x5) + ((σ.2.2 1 ((x3 + x7)).toNatClampNeg)).toInt64)), (0, .ref (ad 0)), (3, .int x3), (4, .int x4), (7, .int x7)]) hx hb dX11_sums_30 hl (by decide) rfl (fun ls hl => ?_)
        refine lv_iinc (v := (x7 + (1 : Int32))) (lv' := [(7, .int (x7 + (1 : Int32))), (5, .long (((31 : Int64) * x5) + ((σ.2.2 1 ((x3 + x7)).toNatClampNeg)).toInt64)), (0, .ref (ad 0)), (3, .int x3), (4, .int x4)]) hx hb dX11_sums_32 hl (k := 4) rfl rfl (by decide) rfl (fun ls hl => ?_)
        refine lv_goto (tgt := 6) hx hb dX11_sums_35 (by decide) ?_
        exact ih6 _ _ _ _ _ h _ _ _ w (lv_sub hl [2, 3, 4, 1, 0] rfl)
  have h := hf
  unfold f_X11_sums at h
  refine lv_lload_n hx hb dX11_sums_0 rfl (lv_at hl 1 rfl) ?_
  refine lv_lstore (lv' := [(5, .long x1), (0, .ref (ad 0)), (1, .long x1), (3, .int x3), (4, .int x4)]) hx hb dX11_sums_1 hl (by decide) rfl (fun ls hl => ?_)
  refine lv_iconst (v := 0) hx hb dX11_sums_3 (by decide) ?_
  refine lv_istore (lv' := [(7, .int (0 : Int32)), (5, .long x1), (0, .ref (ad 0)), (1, .long x1), (3, .int x3), (4, .int x4)]) hx hb dX11_sums_4 hl (by decide) rfl (fun ls hl => ?_)
  exact L6 FU _ _ _ _ _ h _ _ _ w (lv_sub hl [2, 4, 5, 1, 0] rfl)
theorem hd_X11_digest : yX11_digest.cls = RX11 ∧ yX11_digest.cls ≠ "java/lang/invoke/MethodHandle" ∧ yX11_digest.cls ≠ "java/lang/invoke/VarHandle" ∧ (parseMethodDescriptor yX11_digest.desc).map (fun d => d.parameters.length) = some 0 := by decide +kernel
def f_X11_digest_b33 (K33 : St → Int64 → Int32 → Option (Int64 × St)) (σ : St) (x1 : Int64) (x3 : Int32) : Option (Int64 × St) := (f_X11_many σ).bind fun q1 => if q1.1 ≤ x3 then ((f_X11_sums q1.2 x1 (20 : Int32) ((5 : Int32) * (q1.2.2.2 1 3))).bind fun q2 => (f_X11_sums q2.2 q2.1 (50 : Int32) ((3 : Int32) * (q2.2.2.2 1 4))).bind fun q3 => some ((((31 : Int64) * (((31 : Int64) * q3.1) + (q3.2.2.1 4))) + (q3.2.2.1 5)), q3.2)) else (cond (ckI ((6 : Int32) + x3) 84) (cond (ckI ((13 : Int32) + x3) 84) (K33 q1.2 (((31 : Int64) * (((31 : Int64) * (((31 : Int64) * x1) + ((q1.2.2.2 1 (((6 : Int32) + x3)).toNatClampNeg)).toInt64)) + ((((q1.2.2.2 1 1) >>> (x3 &&& 31)) &&& (1 : Int32))).toInt64)) + ((q1.2.2.2 1 (((13 : Int32) + x3)).toNatClampNeg)).toInt64) (x3 + (1 : Int32))) none) none)
def f_X11_digest_L33 : Nat → St → Int64 → Int32 → Option (Int64 × St)
  | 0 => fun _ _ _ => none
  | n + 1 => f_X11_digest_b33 (f_X11_digest_L33 n)
def f_X11_digest_b6 (K6 : St → Int64 → Int32 → Option (Int64 × St)) (σ : St) (x1 : Int64) (x3 : Int32) : Option (Int64 × St) := if (8 : Int32) ≤ x3 then (f_X11_digest_L33 FU σ x1 (0 : Int32)) else ((f_X11_counted σ x3).bind fun q1 => K6 q1.2 (((31 : Int64) * x1) + (q1.1).toInt64) (x3 + (1 : Int32)))
def f_X11_digest_L6 : Nat → St → Int64 → Int32 → Option (Int64 × St)
  | 0 => fun _ _ _ => none
  | n + 1 => f_X11_digest_b6 (f_X11_digest_L6 n)
def f_X11_digest (σ : St) : Option (Int64 × St) := f_X11_digest_L6 FU σ (1319 : Int64) (0 : Int32)
abbrev rm_X11_digest : Room := { frames := 3, cells := 0, slots := 0, locals := 180 }
set_option maxHeartbeats 4000000 in
set_option maxRecDepth 100000 in
theorem c_X11_digest (l : Launch) (D : va_G) (ca : Nat → ClassId) (ad : Nat → Nat) (σ : St)  (sz : Nat) (out : Int64 × St) (hf : f_X11_digest σ  = some out) : Met l yX11_digest (.code yX11_digest cX11_digest 4 (some .long) :: WL) rm_X11_digest (PreC D ca (MW ca ad σ) sz [.ref (ad 0)]) (PostL D (va_A (MW ca ad σ) sz) (MW ca ad out.2) out.1) 0 0 (va_A (MW ca ad σ) sz) := by
  refine Met.ofW (cc := cX11_digest) (maxL := 4) (ret := (some .long)) (by decide) rfl ?_
  intro p e s m args below meth c s₁ B hml hv
  obtain ⟨rfl, hsz, hP, hK, hD, hN⟩ := hv
  subst hsz
  have C := Cx.mk (own := RX11) B hml rfl hK hN (ws := (MW ca ad σ))
  have w : Wd (va_A (MW ca ad σ) s.heap.size) s D (MW ca ad σ) s.heap [] := ⟨hP, hD.self, va_S.rf⟩
  have hl := lv_entry ([.ref (ad 0)]) (n := 4) (Nat.le_of_ble_eq_true rfl)
  rw [lg_entry_eq]
  generalize (lg_sl ([.ref (ad 0)]) ++ List.replicate (4 - (lg_sl ([.ref (ad 0)])).length) Slot.unset).toArray = ls at hl ⊢
  have hl : lv_has ls 4 [(0, .ref (ad 0))] := hl
  change W p l e rm_X11_digest s m _ below meth c _ [] 0 0 _ _
  clear B hP hD hK hN hml
  generalize va_A (MW ca ad σ) s.heap.size = A at C w ⊢
  generalize ([.ref (ad 0)] : List Value).toArray = av at C ⊢
  obtain ⟨Q, hQ⟩ : ∃ Q, Q = MQ below (PostL D A (MW ca ad out.2) out.1) av s 0 0 A := ⟨_, rfl⟩
  rw [← hQ]
  have hx := C.1
  have hb := C.2.1
  have L33 : ∀ (n33 : Nat) (σ : St) (x1 : Int64) (x3 : Int32), f_X11_digest_L33 n33 σ x1 x3 = some out → Bk p l e rm_X11_digest s m av below meth c A D 4 Q (MW ca ad σ) 33 [(0, .ref (ad 0)), (1, .long x1), (3, .int x3)] [] := by
    intro n33
    induction n33 with
    | zero => intro σ x1 x3 h; exact absurd h (by simp [f_X11_digest_L33])
    | succ n33 ih33 =>
      intro σ x1 x3 h H locs ls w hl
      change f_X11_digest_b33 (f_X11_digest_L33 n33) σ x1 x3 = some out at h
      unfold f_X11_digest_b33 at h
      refine lv_iload_n hx hb dX11_digest_33 rfl (lv_at hl 2 rfl) ?_
      refine lv_aload_n hx hb dX11_digest_34 rfl (lv_at hl 0 rfl) ?_
      obtain ⟨q1, hq1, h⟩ := ob_t h
      refine res_i C w (run_V (As := []) (rest := [.int x3]) C w hl.1 (recvM0 C w) (c_X11_many l D ca ad _  _ q1 hq1) rfl rfl wl_144 wl_145 wl_146 wl_5 wl_147 hd_X11_many rfl ⟨Nat.le_of_ble_eq_true rfl, Nat.le_of_ble_eq_true rfl⟩ rfl (Nat.le_of_ble_eq_true rfl) dX11_digest_35) (fun H locs w => ?_)
      refine lv_icmp_ge (tgt := 95) hx hb dX11_digest_38 (by decide) (fun c1 => ?_) (fun c1 => ?_)
      · have h := it_t h c1
        refine lv_aload_n hx hb dX11_digest_95 rfl (lv_at hl 0 rfl) ?_
        refine lv_lload_n hx hb dX11_digest_96 rfl (lv_at hl 1 rfl) ?_
        refine lv_bipush (v := 20) hx hb dX11_digest_97 (by decide) ?_
        refine lv_iconst (v := 5) hx hb dX11_digest_99 (by decide) ?_
        refine lv_aload_n hx hb dX11_digest_100 rfl (lv_at hl 0 rfl) ?_
        refine gM0_0 C w wl_94 dX11_digest_101 ?_
        refine lv_iconst (v := 3) hx hb dX11_digest_104 (by decide) ?_
        refine ldM1 (v := (q1.2.2.2 1 3)) C w (vl (by decide)) rfl dX11_digest_105 ?_
        refine lv_imul hx hb dX11_digest_106 ?_
        obtain ⟨q2, hq2, h⟩ := ob_t h
        refine res_l C w (run_V (As := [.long x1, .int (20 : Int32), .int ((5 : Int32) * (q1.2.2.2 1 3))]) (rest := []) C w hl.1 (recvM0 C w) (c_X11_sums l D ca ad _ x1 (20 : Int32) ((5 : Int32) * (q1.2.2.2 1 3)) _ q2 hq2) rfl rfl wl_977 wl_978 wl_979 wl_5 wl_980 hd_X11_sums rfl ⟨Nat.le_of_ble_eq_true rfl, Nat.le_of_ble_eq_true rfl⟩ rfl (Nat.le_of_ble_eq_true rfl) dX11_digest_107) (fun H locs w => ?_)
        refine lv_lstore_n (lv' := [(1, .long q2.1), (0, .ref (ad 0)), (3, .int x3)]) hx hb dX11_digest_110 rfl hl (by decide) rfl (fun ls hl => ?_)
        refine lv_aload_n hx hb dX11_digest_111 rfl (lv_at hl 1 rfl) ?_
        refine lv_lload_n hx hb dX11_digest_112 rfl (lv_at hl 0 rfl) ?_
        refine lv_bipush (v := 50) hx hb dX11_digest_113 (by decide) ?_
        refine lv_iconst (v := 3) hx hb dX11_digest_115 (by decide) ?_
        refine lv_aload_n hx hb dX11_digest_116 rfl (lv_at hl 1 rfl) ?_
        refine gM0_0 C w wl_94 dX11_digest_117 ?_
        refine lv_iconst (v := 4) hx hb dX11_digest_120 (by decide) ?_
        refine ldM1 (v := (q2.2.2.2 1 4)) C w (vl (by decide)) rfl dX11_digest_121 ?_
        refine lv_imul hx hb dX11_digest_122 ?_
        obtain ⟨q3, hq3, h⟩ := ob_t h
        refine res_l C w (run_V (As := [.long q2.1, .int (50 : Int32), .int ((3 : Int32) * (q2.2.2.2 1 4))]) (rest := []) C w hl.1 (recvM0 C w) (c_X11_sums l D ca ad _ q2.1 (50 : Int32) ((3 : Int32) * (q2.2.2.2 1 4)) _ q3 hq3) rfl rfl wl_977 wl_978 wl_979 wl_5 wl_980 hd_X11_sums rfl ⟨Nat.le_of_ble_eq_true rfl, Nat.le_of_ble_eq_true rfl⟩ rfl (Nat.le_of_ble_eq_true rfl) dX11_digest_123) (fun H locs w => ?_)
        refine lv_lstore_n (lv' := [(1, .long q3.1), (0, .ref (ad 0)), (3, .int x3)]) hx hb dX11_digest_126 rfl hl (by decide) rfl (fun ls hl => ?_)
        refine lv_ldc2 (v := 31) hx hb C.ow (C.ts _ wl_976) dX11_digest_127 ?_
        refine lv_ldc2 (v := 31) hx hb C.ow (C.ts _ wl_976) dX11_digest_130 ?_
        refine lv_lload_n hx hb dX11_digest_133 rfl (lv_at hl 0 rfl) ?_
        refine lv_lmul hx hb dX11_digest_134 ?_
        refine lv_aload_n hx hb dX11_digest_135 rfl (lv_at hl 1 rfl) ?_
        refine gM0_4 (v := (q3.2.2.1 4)) C w rfl wl_884 dX11_digest_136 ?_
        refine lv_ladd hx hb dX11_digest_139 ?_
        refine lv_lmul hx hb dX11_digest_140 ?_
        refine lv_aload_n hx hb dX11_digest_141 rfl (lv_at hl 1 rfl) ?_
        refine gM0_5 (v := (q3.2.2.1 5)) C w rfl wl_98 dX11_digest_142 ?_
        refine lv_ladd hx hb dX11_digest_145 ?_
        rw [hQ]
        exact rJ (F := MW ca ad) C w h dX11_digest_146
      · have h := it_f h c1
        refine lv_ldc2 (v := 31) hx hb C.ow (C.ts _ wl_976) dX11_digest_41 ?_
        refine lv_ldc2 (v := 31) hx hb C.ow (C.ts _ wl_976) dX11_digest_44 ?_
        refine lv_ldc2 (v := 31) hx hb C.ow (C.ts _ wl_976) dX11_digest_47 ?_
        refine lv_lload_n hx hb dX11_digest_50 rfl (lv_at hl 1 rfl) ?_
        refine lv_lmul hx hb dX11_digest_51 ?_
        refine lv_aload_n hx hb dX11_digest_52 rfl (lv_at hl 0 rfl) ?_
        refine gM0_0 C w wl_94 dX11_digest_53 ?_
        refine lv_bipush (v := 6) hx hb dX11_digest_56 (by decide) ?_
        refine lv_iload_n hx hb dX11_digest_58 rfl (lv_at hl 2 rfl) ?_
        refine lv_iadd hx hb dX11_digest_59 ?_
        obtain ⟨i2, h⟩ := ck_t h
        refine ldM1 (v := (q1.2.2.2 1 (((6 : Int32) + x3)).toNatClampNeg)) C w i2 rfl dX11_digest_60 ?_
        refine lv_i2l hx hb dX11_digest_61 rfl ?_
        refine lv_ladd hx hb dX11_digest_62 ?_
        refine lv_lmul hx hb dX11_digest_63 ?_
        refine lv_aload_n hx hb dX11_digest_64 rfl (lv_at hl 0 rfl) ?_
        refine gM0_0 C w wl_94 dX11_digest_65 ?_
        refine lv_iconst (v := 1) hx hb dX11_digest_68 (by decide) ?_
        refine ldM1 (v := (q1.2.2.2 1 1)) C w (vl (by decide)) rfl dX11_digest_69 ?_
        refine lv_iload_n hx hb dX11_digest_70 rfl (lv_at hl 2 rfl) ?_
        refine lv_ishr hx hb dX11_digest_71 ?_
        refine lv_iconst (v := 1) hx hb dX11_digest_72 (by decide) ?_
        refine lv_iand hx hb dX11_digest_73 ?_
        refine lv_i2l hx hb dX11_digest_74 rfl ?_
        refine lv_ladd hx hb dX11_digest_75 ?_
        refine lv_lmul hx hb dX11_digest_76 ?_
        refine lv_aload_n hx hb dX11_digest_77 rfl (lv_at hl 0 rfl) ?_
        refine gM0_0 C w wl_94 dX11_digest_78 ?_
        refine lv_bipush (v := 13) hx hb dX11_digest_81 (by decide) ?_
        refine lv_iload_n hx hb dX11_digest_83 rfl (lv_at hl 2 rfl) ?_
        refine lv_iadd hx hb dX11_digest_84 ?_
        obtain ⟨i3, h⟩ := ck_t h
        refine ldM1 (v := (q1.2.2.2 1 (((13 : Int32) + x3)).toNatClampNeg)) C w i3 rfl dX11_digest_85 ?_
        refine lv_i2l hx hb dX11_digest_86 rfl ?_
        refine lv_ladd hx hb dX11_digest_87 ?_
        refine lv_lstore_n (lv' := [(1, .long (((31 : Int64) * (((31 : Int64) * (((31 : Int64) * x1) + ((q1.2.2.2 1 (((6 : Int32) + x3)).toNatClampNeg)).toInt64)) + ((((q1.2.2.2 1 1) >>> (x3 &&& 31)) &&& (1 : Int32))).toInt64)) + ((q1.2.2.2 1 (((13 : Int32) + x3)).toNatClampNeg)).toInt64)), (0, .ref (ad 0)), (3, .int x3)]) hx hb dX11_digest_88 rfl hl (by decide) rfl (fun ls hl => ?_)
        refine lv_iinc (v := (x3 + (1 : Int32))) (lv' := [(3, .int (x3 + (1 : Int32))), (1, .long (((31 : Int64) * (((31 : Int64) * (((31 : Int64) * x1) + ((q1.2.2.2 1 (((6 : Int32) + x3)).toNatClampNeg)).toInt64)) + ((((q1.2.2.2 1 1) >>> (x3 &&& 31)) &&& (1 : Int32))).toInt64)) + ((q1.2.2.2 1 (((13 : Int32) + x3)).toNatClampNeg)).toInt64)), (0, .ref (ad 0))]) hx hb dX11_digest_89 hl (k := 2) rfl rfl (by decide) rfl (fun ls hl => ?_)
        refine lv_goto (tgt := 33) hx hb dX11_digest_92 (by decide) ?_
        exact ih33 _ _ _ h _ _ _ w (lv_sub hl [2, 1, 0] rfl)
  have L6 : ∀ (n6 : Nat) (σ : St) (x1 : Int64) (x3 : Int32), f_X11_digest_L6 n6 σ x1 x3 = some out → Bk p l e rm_X11_digest s m av below meth c A D 4 Q (MW ca ad σ) 6 [(0, .ref (ad 0)), (1, .long x1), (3, .int x3)] [] := by
    intro n6
    induction n6 with
    | zero => intro σ x1 x3 h; exact absurd h (by simp [f_X11_digest_L6])
    | succ n6 ih6 =>
      intro σ x1 x3 h H locs ls w hl
      change f_X11_digest_b6 (f_X11_digest_L6 n6) σ x1 x3 = some out at h
      unfold f_X11_digest_b6 at h
      refine lv_iload_n hx hb dX11_digest_6 rfl (lv_at hl 2 rfl) ?_
      refine lv_bipush (v := 8) hx hb dX11_digest_7 (by decide) ?_
      refine lv_icmp_ge (tgt := 31) hx hb dX11_digest_9 (by decide) (fun c1 => ?_) (fun c1 => ?_)
      · have h := it_t h c1
        refine lv_iconst (v := 0) hx hb dX11_digest_31 (by decide) ?_
        refine lv_istore_n (lv' := [(3, .int (0 : Int32)), (0, .ref (ad 0)), (1, .long x1)]) hx hb dX11_digest_32 rfl hl (by decide) rfl (fun ls hl => ?_)
        exact L33 FU _ _ _ h _ _ _ w (lv_sub hl [1, 2, 0] rfl)
      · have h := it_f h c1
        refine lv_ldc2 (v := 31) hx hb C.ow (C.ts _ wl_976) dX11_digest_12 ?_
        refine lv_lload_n hx hb dX11_digest_15 rfl (lv_at hl 1 rfl) ?_
        refine lv_lmul hx hb dX11_digest_16 ?_
        refine lv_aload_n hx hb dX11_digest_17 rfl (lv_at hl 0 rfl) ?_
        refine lv_iload_n hx hb dX11_digest_18 rfl (lv_at hl 2 rfl) ?_
        obtain ⟨q1, hq1, h⟩ := ob_t h
        refine res_i C w (run_V (As := [.int x3]) (rest := [.long ((31 : Int64) * x1)]) C w hl.1 (recvM0 C w) (c_X11_counted l D ca ad _ x3 _ q1 hq1) rfl rfl wl_957 wl_958 wl_959 wl_5 wl_960 hd_X11_counted rfl ⟨Nat.le_of_ble_eq_true rfl, Nat.le_of_ble_eq_true rfl⟩ rfl (Nat.le_of_ble_eq_true rfl) dX11_digest_19) (fun H locs w => ?_)
        refine lv_i2l hx hb dX11_digest_22 rfl ?_
        refine lv_ladd hx hb dX11_digest_23 ?_
        refine lv_lstore_n (lv' := [(1, .long (((31 : Int64) * x1) + (q1.1).toInt64)), (0, .ref (ad 0)), (3, .int x3)]) hx hb dX11_digest_24 rfl hl (by decide) rfl (fun ls hl => ?_)
        refine lv_iinc (v := (x3 + (1 : Int32))) (lv' := [(3, .int (x3 + (1 : Int32))), (1, .long (((31 : Int64) * x1) + (q1.1).toInt64)), (0, .ref (ad 0))]) hx hb dX11_digest_25 hl (k := 2) rfl rfl (by decide) rfl (fun ls hl => ?_)
        refine lv_goto (tgt := 6) hx hb dX11_digest_28 (by decide) ?_
        exact ih6 _ _ _ h _ _ _ w (lv_sub hl [2, 1, 0] rfl)
  have h := hf
  unfold f_X11_digest at h
  refine lv_ldc2 (v := 1319) hx hb C.ow (C.ts _ wl_975) dX11_digest_0 ?_
  refine lv_lstore_n (lv' := [(1, .long (1319 : Int64)), (0, .ref (ad 0))]) hx hb dX11_digest_3 rfl hl (by decide) rfl (fun ls hl => ?_)
  refine lv_iconst (v := 0) hx hb dX11_digest_4 (by decide) ?_
  refine lv_istore_n (lv' := [(3, .int (0 : Int32)), (1, .long (1319 : Int64)), (0, .ref (ad 0))]) hx hb dX11_digest_5 rfl hl (by decide) rfl (fun ls hl => ?_)
  exact L6 FU _ _ _ h _ _ _ w (lv_sub hl [2, 1, 0] rfl)
