section LAWC
variable {Rel : St → St → Prop} {p : Program} {l : Launch} {e : Env} {s : State} {m : MethodId} {below : List Frame} {meth : Method} {c : Code} {D : va_G} {ca : Nat → ClassId} {adc adm : Nat → Nat} {b nS : Nat} {xs : Nat → Int32} {x3 : Int32} {CL SL : Nat} {Q : State → Prop}
set_option maxHeartbeats 4000000 in
set_option maxRecDepth 100000 in
theorem lc_wood (C : Cx p s m #[Value.ref b] meth c D ca (fun q => s.heap.size ≤ q) cL_law RL 4 (some .boolean)) (hX : va_X b nS xs s s.heap) (hbl : b < s.heap.size) (hCL : CL ≤ 600000 ∧ SL ≤ 7302250) (i1 : vp_in (x3 + 1) nS) (i2 : vp_in (x3 + 2) nS) (i3 : vp_in (x3 + 3) nS) (i4 : vp_in (x3 + 4) nS) (i5 : vp_in (x3 + 5) nS) (hop : Op1 Rel f_X10_wood f_X11_wood) (hk : LB Rel p l e s m below meth c D ca adc adm b x3 CL SL Q 1248) : LB Rel p l e s m below meth c D ca adc adm b x3 CL SL Q 184 := by
  intro σ τ H locs ls hR w hl
  have hx := C.1
  have hb := C.2.1
  have hbA : ¬ (fun q => s.heap.size ≤ q) b := Nat.not_le.mpr hbl
  obtain ⟨v, σ', τ', e1, e2, hR'⟩ := hop σ τ hR (xs (x3 + 1).toNatClampNeg)
  refine lv_aload_n hx hb dL_law_184 rfl (lv_at hl 1 rfl) ?_
  refine lv_aload_n hx hb dL_law_185 rfl (lv_at hl 0 rfl) ?_
  refine lv_iload_n hx hb dL_law_186 rfl (lv_at hl 3 rfl) ?_
  refine lv_iconst (v := 1) hx hb dL_law_187 (by decide) ?_
  refine lv_iadd hx hb dL_law_188 ?_
  refine va_sld hx hb hX hbl hbA w.2.2 i1 dL_law_189 ?_
  refine resL_i C w (run_VL (As := [.int (xs (x3 + 1).toNatClampNeg)]) (rest := []) C w.left hl.1 (recvC0 C w.left) (c_X10_wood l D ca adc σ (xs (x3 + 1).toNatClampNeg) _ (v, σ') e1) rfl rfl wl_109 wl_110 wl_111 wl_2 wl_112 hd_X10_wood rfl ⟨Nat.le_of_ble_eq_true rfl, Nat.le_of_ble_eq_true rfl⟩ rfl (Nat.le_of_ble_eq_true rfl) dL_law_190 hCL) (fun H locs w => ?_)
  refine lv_aload_n hx hb dL_law_193 rfl (lv_at hl 2 rfl) ?_
  refine lv_aload_n hx hb dL_law_194 rfl (lv_at hl 0 rfl) ?_
  refine lv_iload_n hx hb dL_law_195 rfl (lv_at hl 3 rfl) ?_
  refine lv_iconst (v := 1) hx hb dL_law_196 (by decide) ?_
  refine lv_iadd hx hb dL_law_197 ?_
  refine va_sld hx hb hX hbl hbA w.2.2 i1 dL_law_198 ?_
  refine resR_i C w (run_VL (As := [.int (xs (x3 + 1).toNatClampNeg)]) (rest := [.int v]) C w.right hl.1 (recvM0 C w.right) (c_X11_wood l D ca adm τ (xs (x3 + 1).toNatClampNeg) _ (v, τ') e2) rfl rfl wl_132 wl_133 wl_134 wl_5 wl_135 hd_X11_wood rfl ⟨Nat.le_of_ble_eq_true rfl, Nat.le_of_ble_eq_true rfl⟩ rfl (Nat.le_of_ble_eq_true rfl) dL_law_199 hCL) (fun H locs w => ?_)
  refine lv_icmp_eq (tgt := 1248) hx hb dL_law_202 (by decide) (fun _ => ?_) (fun c1 => absurd rfl c1)
  exact hk σ' τ' _ _ _ hR' w hl
set_option maxHeartbeats 4000000 in
set_option maxRecDepth 100000 in
theorem lc_tree (C : Cx p s m #[Value.ref b] meth c D ca (fun q => s.heap.size ≤ q) cL_law RL 4 (some .boolean)) (hX : va_X b nS xs s s.heap) (hbl : b < s.heap.size) (hCL : CL ≤ 600000 ∧ SL ≤ 7302250) (i1 : vp_in (x3 + 1) nS) (i2 : vp_in (x3 + 2) nS) (i3 : vp_in (x3 + 3) nS) (i4 : vp_in (x3 + 4) nS) (i5 : vp_in (x3 + 5) nS) (hop : Op1 Rel f_X10_tree f_X11_tree) (hk : LB Rel p l e s m below meth c D ca adc adm b x3 CL SL Q 1248) : LB Rel p l e s m below meth c D ca adc adm b x3 CL SL Q 207 := by
  intro σ τ H locs ls hR w hl
  have hx := C.1
  have hb := C.2.1
  have hbA : ¬ (fun q => s.heap.size ≤ q) b := Nat.not_le.mpr hbl
  obtain ⟨v, σ', τ', e1, e2, hR'⟩ := hop σ τ hR (xs (x3 + 1).toNatClampNeg)
  refine lv_aload_n hx hb dL_law_207 rfl (lv_at hl 1 rfl) ?_
  refine lv_aload_n hx hb dL_law_208 rfl (lv_at hl 0 rfl) ?_
  refine lv_iload_n hx hb dL_law_209 rfl (lv_at hl 3 rfl) ?_
  refine lv_iconst (v := 1) hx hb dL_law_210 (by decide) ?_
  refine lv_iadd hx hb dL_law_211 ?_
  refine va_sld hx hb hX hbl hbA w.2.2 i1 dL_law_212 ?_
  refine resL_i C w (run_VL (As := [.int (xs (x3 + 1).toNatClampNeg)]) (rest := []) C w.left hl.1 (recvC0 C w.left) (c_X10_tree l D ca adc σ (xs (x3 + 1).toNatClampNeg) _ (v, σ') e1) rfl rfl wl_148 wl_149 wl_150 wl_2 wl_151 hd_X10_tree rfl ⟨Nat.le_of_ble_eq_true rfl, Nat.le_of_ble_eq_true rfl⟩ rfl (Nat.le_of_ble_eq_true rfl) dL_law_213 hCL) (fun H locs w => ?_)
  refine lv_aload_n hx hb dL_law_216 rfl (lv_at hl 2 rfl) ?_
  refine lv_aload_n hx hb dL_law_217 rfl (lv_at hl 0 rfl) ?_
  refine lv_iload_n hx hb dL_law_218 rfl (lv_at hl 3 rfl) ?_
  refine lv_iconst (v := 1) hx hb dL_law_219 (by decide) ?_
  refine lv_iadd hx hb dL_law_220 ?_
  refine va_sld hx hb hX hbl hbA w.2.2 i1 dL_law_221 ?_
  refine resR_i C w (run_VL (As := [.int (xs (x3 + 1).toNatClampNeg)]) (rest := [.int v]) C w.right hl.1 (recvM0 C w.right) (c_X11_tree l D ca adm τ (xs (x3 + 1).toNatClampNeg) _ (v, τ') e2) rfl rfl wl_162 wl_163 wl_164 wl_5 wl_165 hd_X11_tree rfl ⟨Nat.le_of_ble_eq_true rfl, Nat.le_of_ble_eq_true rfl⟩ rfl (Nat.le_of_ble_eq_true rfl) dL_law_222 hCL) (fun H locs w => ?_)
  refine lv_icmp_eq (tgt := 1248) hx hb dL_law_225 (by decide) (fun _ => ?_) (fun c1 => absurd rfl c1)
  exact hk σ' τ' _ _ _ hR' w hl
set_option maxHeartbeats 4000000 in
set_option maxRecDepth 100000 in
theorem lc_touch (C : Cx p s m #[Value.ref b] meth c D ca (fun q => s.heap.size ≤ q) cL_law RL 4 (some .boolean)) (hX : va_X b nS xs s s.heap) (hbl : b < s.heap.size) (hCL : CL ≤ 600000 ∧ SL ≤ 7302250) (i1 : vp_in (x3 + 1) nS) (i2 : vp_in (x3 + 2) nS) (i3 : vp_in (x3 + 3) nS) (i4 : vp_in (x3 + 4) nS) (i5 : vp_in (x3 + 5) nS) (hop : Op3 Rel f_X10_touch f_X11_touch) (hk : LB Rel p l e s m below meth c D ca adc adm b x3 CL SL Q 1248) : LB Rel p l e s m below meth c D ca adc adm b x3 CL SL Q 230 := by
  intro σ τ H locs ls hR w hl
  have hx := C.1
  have hb := C.2.1
  have hbA : ¬ (fun q => s.heap.size ≤ q) b := Nat.not_le.mpr hbl
  obtain ⟨v, σ', τ', e1, e2, hR'⟩ := hop σ τ hR (xs (x3 + 1).toNatClampNeg) (xs (x3 + 2).toNatClampNeg) (xs (x3 + 3).toNatClampNeg)
  refine lv_aload_n hx hb dL_law_230 rfl (lv_at hl 1 rfl) ?_
  refine lv_aload_n hx hb dL_law_231 rfl (lv_at hl 0 rfl) ?_
  refine lv_iload_n hx hb dL_law_232 rfl (lv_at hl 3 rfl) ?_
  refine lv_iconst (v := 1) hx hb dL_law_233 (by decide) ?_
  refine lv_iadd hx hb dL_law_234 ?_
  refine va_sld hx hb hX hbl hbA w.2.2 i1 dL_law_235 ?_
  refine lv_aload_n hx hb dL_law_236 rfl (lv_at hl 0 rfl) ?_
  refine lv_iload_n hx hb dL_law_237 rfl (lv_at hl 3 rfl) ?_
  refine lv_iconst (v := 2) hx hb dL_law_238 (by decide) ?_
  refine lv_iadd hx hb dL_law_239 ?_
  refine va_sld hx hb hX hbl hbA w.2.2 i2 dL_law_240 ?_
  refine lv_aload_n hx hb dL_law_241 rfl (lv_at hl 0 rfl) ?_
  refine lv_iload_n hx hb dL_law_242 rfl (lv_at hl 3 rfl) ?_
  refine lv_iconst (v := 3) hx hb dL_law_243 (by decide) ?_
  refine lv_iadd hx hb dL_law_244 ?_
  refine va_sld hx hb hX hbl hbA w.2.2 i3 dL_law_245 ?_
  refine resL_i C w (run_VL (As := [.int (xs (x3 + 1).toNatClampNeg), .int (xs (x3 + 2).toNatClampNeg), .int (xs (x3 + 3).toNatClampNeg)]) (rest := []) C w.left hl.1 (recvC0 C w.left) (c_X10_touch l D ca adc σ (xs (x3 + 1).toNatClampNeg) (xs (x3 + 2).toNatClampNeg) (xs (x3 + 3).toNatClampNeg) _ (v, σ') e1) rfl rfl wl_171 wl_172 wl_173 wl_2 wl_174 hd_X10_touch rfl ⟨Nat.le_of_ble_eq_true rfl, Nat.le_of_ble_eq_true rfl⟩ rfl (Nat.le_of_ble_eq_true rfl) dL_law_246 hCL) (fun H locs w => ?_)
  refine lv_aload_n hx hb dL_law_249 rfl (lv_at hl 2 rfl) ?_
  refine lv_aload_n hx hb dL_law_250 rfl (lv_at hl 0 rfl) ?_
  refine lv_iload_n hx hb dL_law_251 rfl (lv_at hl 3 rfl) ?_
  refine lv_iconst (v := 1) hx hb dL_law_252 (by decide) ?_
  refine lv_iadd hx hb dL_law_253 ?_
  refine va_sld hx hb hX hbl hbA w.2.2 i1 dL_law_254 ?_
  refine lv_aload_n hx hb dL_law_255 rfl (lv_at hl 0 rfl) ?_
  refine lv_iload_n hx hb dL_law_256 rfl (lv_at hl 3 rfl) ?_
  refine lv_iconst (v := 2) hx hb dL_law_257 (by decide) ?_
  refine lv_iadd hx hb dL_law_258 ?_
  refine va_sld hx hb hX hbl hbA w.2.2 i2 dL_law_259 ?_
  refine lv_aload_n hx hb dL_law_260 rfl (lv_at hl 0 rfl) ?_
  refine lv_iload_n hx hb dL_law_261 rfl (lv_at hl 3 rfl) ?_
  refine lv_iconst (v := 3) hx hb dL_law_262 (by decide) ?_
  refine lv_iadd hx hb dL_law_263 ?_
  refine va_sld hx hb hX hbl hbA w.2.2 i3 dL_law_264 ?_
  refine resR_i C w (run_VL (As := [.int (xs (x3 + 1).toNatClampNeg), .int (xs (x3 + 2).toNatClampNeg), .int (xs (x3 + 3).toNatClampNeg)]) (rest := [.int v]) C w.right hl.1 (recvM0 C w.right) (c_X11_touch l D ca adm τ (xs (x3 + 1).toNatClampNeg) (xs (x3 + 2).toNatClampNeg) (xs (x3 + 3).toNatClampNeg) _ (v, τ') e2) rfl rfl wl_184 wl_185 wl_186 wl_5 wl_187 hd_X11_touch rfl ⟨Nat.le_of_ble_eq_true rfl, Nat.le_of_ble_eq_true rfl⟩ rfl (Nat.le_of_ble_eq_true rfl) dL_law_265 hCL) (fun H locs w => ?_)
  refine lv_icmp_eq (tgt := 1248) hx hb dL_law_268 (by decide) (fun _ => ?_) (fun c1 => absurd rfl c1)
  exact hk σ' τ' _ _ _ hR' w hl
set_option maxHeartbeats 4000000 in
set_option maxRecDepth 100000 in
theorem lc_type (C : Cx p s m #[Value.ref b] meth c D ca (fun q => s.heap.size ≤ q) cL_law RL 4 (some .boolean)) (hX : va_X b nS xs s s.heap) (hbl : b < s.heap.size) (hCL : CL ≤ 600000 ∧ SL ≤ 7302250) (i1 : vp_in (x3 + 1) nS) (i2 : vp_in (x3 + 2) nS) (i3 : vp_in (x3 + 3) nS) (i4 : vp_in (x3 + 4) nS) (i5 : vp_in (x3 + 5) nS) (hop : Op1 Rel f_X10_type f_X11_type) (hk : LB Rel p l e s m below meth c D ca adc adm b x3 CL SL Q 1248) : LB Rel p l e s m below meth c D ca adc adm b x3 CL SL Q 273 := by
  intro σ τ H locs ls hR w hl
  have hx := C.1
  have hb := C.2.1
  have hbA : ¬ (fun q => s.heap.size ≤ q) b := Nat.not_le.mpr hbl
  obtain ⟨v, σ', τ', e1, e2, hR'⟩ := hop σ τ hR (xs (x3 + 1).toNatClampNeg)
  refine lv_aload_n hx hb dL_law_273 rfl (lv_at hl 1 rfl) ?_
  refine lv_aload_n hx hb dL_law_274 rfl (lv_at hl 0 rfl) ?_
  refine lv_iload_n hx hb dL_law_275 rfl (lv_at hl 3 rfl) ?_
  refine lv_iconst (v := 1) hx hb dL_law_276 (by decide) ?_
  refine lv_iadd hx hb dL_law_277 ?_
  refine va_sld hx hb hX hbl hbA w.2.2 i1 dL_law_278 ?_
  refine resL_i C w (run_VL (As := [.int (xs (x3 + 1).toNatClampNeg)]) (rest := []) C w.left hl.1 (recvC0 C w.left) (c_X10_type l D ca adc σ (xs (x3 + 1).toNatClampNeg) _ (v, σ') e1) rfl rfl wl_195 wl_196 wl_197 wl_2 wl_198 hd_X10_type rfl ⟨Nat.le_of_ble_eq_true rfl, Nat.le_of_ble_eq_true rfl⟩ rfl (Nat.le_of_ble_eq_true rfl) dL_law_279 hCL) (fun H locs w => ?_)
  refine lv_aload_n hx hb dL_law_282 rfl (lv_at hl 2 rfl) ?_
  refine lv_aload_n hx hb dL_law_283 rfl (lv_at hl 0 rfl) ?_
  refine lv_iload_n hx hb dL_law_284 rfl (lv_at hl 3 rfl) ?_
  refine lv_iconst (v := 1) hx hb dL_law_285 (by decide) ?_
  refine lv_iadd hx hb dL_law_286 ?_
  refine va_sld hx hb hX hbl hbA w.2.2 i1 dL_law_287 ?_
  refine resR_i C w (run_VL (As := [.int (xs (x3 + 1).toNatClampNeg)]) (rest := [.int v]) C w.right hl.1 (recvM0 C w.right) (c_X11_type l D ca adm τ (xs (x3 + 1).toNatClampNeg) _ (v, τ') e2) rfl rfl wl_200 wl_201 wl_202 wl_5 wl_203 hd_X11_type rfl ⟨Nat.le_of_ble_eq_true rfl, Nat.le_of_ble_eq_true rfl⟩ rfl (Nat.le_of_ble_eq_true rfl) dL_law_288 hCL) (fun H locs w => ?_)
  refine lv_icmp_eq (tgt := 1248) hx hb dL_law_291 (by decide) (fun _ => ?_) (fun c1 => absurd rfl c1)
  exact hk σ' τ' _ _ _ hR' w hl
set_option maxHeartbeats 4000000 in
set_option maxRecDepth 100000 in
theorem lc_clear (C : Cx p s m #[Value.ref b] meth c D ca (fun q => s.heap.size ≤ q) cL_law RL 4 (some .boolean)) (hX : va_X b nS xs s s.heap) (hbl : b < s.heap.size) (hCL : CL ≤ 600000 ∧ SL ≤ 7302250) (i1 : vp_in (x3 + 1) nS) (i2 : vp_in (x3 + 2) nS) (i3 : vp_in (x3 + 3) nS) (i4 : vp_in (x3 + 4) nS) (i5 : vp_in (x3 + 5) nS) (hop : Op0 Rel f_X10_clear f_X11_clear) (hk : LB Rel p l e s m below meth c D ca adc adm b x3 CL SL Q 1248) : LB Rel p l e s m below meth c D ca adc adm b x3 CL SL Q 296 := by
  intro σ τ H locs ls hR w hl
  have hx := C.1
  have hb := C.2.1
  have hbA : ¬ (fun q => s.heap.size ≤ q) b := Nat.not_le.mpr hbl
  obtain ⟨v, σ', τ', e1, e2, hR'⟩ := hop σ τ hR 
  refine lv_aload_n hx hb dL_law_296 rfl (lv_at hl 1 rfl) ?_
  refine resL_i C w (run_VL (As := []) (rest := []) C w.left hl.1 (recvC0 C w.left) (c_X10_clear l D ca adc σ  _ (v, σ') e1) rfl rfl wl_206 wl_207 wl_208 wl_2 wl_209 hd_X10_clear rfl ⟨Nat.le_of_ble_eq_true rfl, Nat.le_of_ble_eq_true rfl⟩ rfl (Nat.le_of_ble_eq_true rfl) dL_law_297 hCL) (fun H locs w => ?_)
  refine lv_aload_n hx hb dL_law_300 rfl (lv_at hl 2 rfl) ?_
  refine resR_i C w (run_VL (As := []) (rest := [.int v]) C w.right hl.1 (recvM0 C w.right) (c_X11_clear l D ca adm τ  _ (v, τ') e2) rfl rfl wl_210 wl_211 wl_212 wl_5 wl_213 hd_X11_clear rfl ⟨Nat.le_of_ble_eq_true rfl, Nat.le_of_ble_eq_true rfl⟩ rfl (Nat.le_of_ble_eq_true rfl) dL_law_301 hCL) (fun H locs w => ?_)
  refine lv_icmp_eq (tgt := 1248) hx hb dL_law_304 (by decide) (fun _ => ?_) (fun c1 => absurd rfl c1)
  exact hk σ' τ' _ _ _ hR' w hl
set_option maxHeartbeats 4000000 in
set_option maxRecDepth 100000 in
theorem lc_read (C : Cx p s m #[Value.ref b] meth c D ca (fun q => s.heap.size ≤ q) cL_law RL 4 (some .boolean)) (hX : va_X b nS xs s s.heap) (hbl : b < s.heap.size) (hCL : CL ≤ 600000 ∧ SL ≤ 7302250) (i1 : vp_in (x3 + 1) nS) (i2 : vp_in (x3 + 2) nS) (i3 : vp_in (x3 + 3) nS) (i4 : vp_in (x3 + 4) nS) (i5 : vp_in (x3 + 5) nS) (hop : Op0 Rel f_X10_read f_X11_read) (hk : LB Rel p l e s m below meth c D ca adc adm b x3 CL SL Q 1248) : LB Rel p l e s m below meth c D ca adc adm b x3 CL SL Q 309 := by
  intro σ τ H locs ls hR w hl
  have hx := C.1
  have hb := C.2.1
  have hbA : ¬ (fun q => s.heap.size ≤ q) b := Nat.not_le.mpr hbl
  obtain ⟨v, σ', τ', e1, e2, hR'⟩ := hop σ τ hR 
  refine lv_aload_n hx hb dL_law_309 rfl (lv_at hl 1 rfl) ?_
  refine resL_i C w (run_VL (As := []) (rest := []) C w.left hl.1 (recvC0 C w.left) (c_X10_read l D ca adc σ  _ (v, σ') e1) rfl rfl wl_214 wl_215 wl_216 wl_2 wl_217 hd_X10_read rfl ⟨Nat.le_of_ble_eq_true rfl, Nat.le_of_ble_eq_true rfl⟩ rfl (Nat.le_of_ble_eq_true rfl) dL_law_310 hCL) (fun H locs w => ?_)
  refine lv_aload_n hx hb dL_law_313 rfl (lv_at hl 2 rfl) ?_
  refine resR_i C w (run_VL (As := []) (rest := [.int v]) C w.right hl.1 (recvM0 C w.right) (c_X11_read l D ca adm τ  _ (v, τ') e2) rfl rfl wl_341 wl_342 wl_343 wl_5 wl_344 hd_X11_read rfl ⟨Nat.le_of_ble_eq_true rfl, Nat.le_of_ble_eq_true rfl⟩ rfl (Nat.le_of_ble_eq_true rfl) dL_law_314 hCL) (fun H locs w => ?_)
  refine lv_icmp_eq (tgt := 1248) hx hb dL_law_317 (by decide) (fun _ => ?_) (fun c1 => absurd rfl c1)
  exact hk σ' τ' _ _ _ hR' w hl
set_option maxHeartbeats 4000000 in
set_option maxRecDepth 100000 in
theorem lc_fell (C : Cx p s m #[Value.ref b] meth c D ca (fun q => s.heap.size ≤ q) cL_law RL 4 (some .boolean)) (hX : va_X b nS xs s s.heap) (hbl : b < s.heap.size) (hCL : CL ≤ 600000 ∧ SL ≤ 7302250) (i1 : vp_in (x3 + 1) nS) (i2 : vp_in (x3 + 2) nS) (i3 : vp_in (x3 + 3) nS) (i4 : vp_in (x3 + 4) nS) (i5 : vp_in (x3 + 5) nS) (hop : Op2 Rel f_X10_fell f_X11_fell) (hk : LB Rel p l e s m below meth c D ca adc adm b x3 CL SL Q 1248) : LB Rel p l e s m below meth c D ca adc adm b x3 CL SL Q 322 := by
  intro σ τ H locs ls hR w hl
  have hx := C.1
  have hb := C.2.1
  have hbA : ¬ (fun q => s.heap.size ≤ q) b := Nat.not_le.mpr hbl
  obtain ⟨v, σ', τ', e1, e2, hR'⟩ := hop σ τ hR (xs (x3 + 1).toNatClampNeg) (xs (x3 + 2).toNatClampNeg)
  refine lv_aload_n hx hb dL_law_322 rfl (lv_at hl 1 rfl) ?_
  refine lv_aload_n hx hb dL_law_323 rfl (lv_at hl 0 rfl) ?_
  refine lv_iload_n hx hb dL_law_324 rfl (lv_at hl 3 rfl) ?_
  refine lv_iconst (v := 1) hx hb dL_law_325 (by decide) ?_
  refine lv_iadd hx hb dL_law_326 ?_
  refine va_sld hx hb hX hbl hbA w.2.2 i1 dL_law_327 ?_
  refine lv_aload_n hx hb dL_law_328 rfl (lv_at hl 0 rfl) ?_
  refine lv_iload_n hx hb dL_law_329 rfl (lv_at hl 3 rfl) ?_
  refine lv_iconst (v := 2) hx hb dL_law_330 (by decide) ?_
  refine lv_iadd hx hb dL_law_331 ?_
  refine va_sld hx hb hX hbl hbA w.2.2 i2 dL_law_332 ?_
  refine resL_i C w (run_VL (As := [.int (xs (x3 + 1).toNatClampNeg), .int (xs (x3 + 2).toNatClampNeg)]) (rest := []) C w.left hl.1 (recvC0 C w.left) (c_X10_fell l D ca adc σ (xs (x3 + 1).toNatClampNeg) (xs (x3 + 2).toNatClampNeg) _ (v, σ') e1) rfl rfl wl_395 wl_396 wl_397 wl_2 wl_398 hd_X10_fell rfl ⟨Nat.le_of_ble_eq_true rfl, Nat.le_of_ble_eq_true rfl⟩ rfl (Nat.le_of_ble_eq_true rfl) dL_law_333 hCL) (fun H locs w => ?_)
  refine lv_aload_n hx hb dL_law_336 rfl (lv_at hl 2 rfl) ?_
  refine lv_aload_n hx hb dL_law_337 rfl (lv_at hl 0 rfl) ?_
  refine lv_iload_n hx hb dL_law_338 rfl (lv_at hl 3 rfl) ?_
  refine lv_iconst (v := 1) hx hb dL_law_339 (by decide) ?_
  refine lv_iadd hx hb dL_law_340 ?_
  refine va_sld hx hb hX hbl hbA w.2.2 i1 dL_law_341 ?_
  refine lv_aload_n hx hb dL_law_342 rfl (lv_at hl 0 rfl) ?_
  refine lv_iload_n hx hb dL_law_343 rfl (lv_at hl 3 rfl) ?_
  refine lv_iconst (v := 2) hx hb dL_law_344 (by decide) ?_
  refine lv_iadd hx hb dL_law_345 ?_
  refine va_sld hx hb hX hbl hbA w.2.2 i2 dL_law_346 ?_
  refine resR_i C w (run_VL (As := [.int (xs (x3 + 1).toNatClampNeg), .int (xs (x3 + 2).toNatClampNeg)]) (rest := [.int v]) C w.right hl.1 (recvM0 C w.right) (c_X11_fell l D ca adm τ (xs (x3 + 1).toNatClampNeg) (xs (x3 + 2).toNatClampNeg) _ (v, τ') e2) rfl rfl wl_405 wl_406 wl_407 wl_5 wl_408 hd_X11_fell rfl ⟨Nat.le_of_ble_eq_true rfl, Nat.le_of_ble_eq_true rfl⟩ rfl (Nat.le_of_ble_eq_true rfl) dL_law_347 hCL) (fun H locs w => ?_)
  refine lv_icmp_eq (tgt := 1248) hx hb dL_law_350 (by decide) (fun _ => ?_) (fun c1 => absurd rfl c1)
  exact hk σ' τ' _ _ _ hR' w hl
set_option maxHeartbeats 4000000 in
set_option maxRecDepth 100000 in
theorem lc_season (C : Cx p s m #[Value.ref b] meth c D ca (fun q => s.heap.size ≤ q) cL_law RL 4 (some .boolean)) (hX : va_X b nS xs s s.heap) (hbl : b < s.heap.size) (hCL : CL ≤ 600000 ∧ SL ≤ 7302250) (i1 : vp_in (x3 + 1) nS) (i2 : vp_in (x3 + 2) nS) (i3 : vp_in (x3 + 3) nS) (i4 : vp_in (x3 + 4) nS) (i5 : vp_in (x3 + 5) nS) (hop : Op1 Rel f_X10_season f_X11_season) (hk : LB Rel p l e s m below meth c D ca adc adm b x3 CL SL Q 1248) : LB Rel p l e s m below meth c D ca adc adm b x3 CL SL Q 355 := by
  intro σ τ H locs ls hR w hl
  have hx := C.1
  have hb := C.2.1
  have hbA : ¬ (fun q => s.heap.size ≤ q) b := Nat.not_le.mpr hbl
  obtain ⟨v, σ', τ', e1, e2, hR'⟩ := hop σ τ hR (xs (x3 + 1).toNatClampNeg)
  refine lv_aload_n hx hb dL_law_355 rfl (lv_at hl 1 rfl) ?_
  refine lv_aload_n hx hb dL_law_356 rfl (lv_at hl 0 rfl) ?_
  refine lv_iload_n hx hb dL_law_357 rfl (lv_at hl 3 rfl) ?_
  refine lv_iconst (v := 1) hx hb dL_law_358 (by decide) ?_
  refine lv_iadd hx hb dL_law_359 ?_
  refine va_sld hx hb hX hbl hbA w.2.2 i1 dL_law_360 ?_
  refine resL_i C w (run_VL (As := [.int (xs (x3 + 1).toNatClampNeg)]) (rest := []) C w.left hl.1 (recvC0 C w.left) (c_X10_season l D ca adc σ (xs (x3 + 1).toNatClampNeg) _ (v, σ') e1) rfl rfl wl_413 wl_414 wl_415 wl_2 wl_416 hd_X10_season rfl ⟨Nat.le_of_ble_eq_true rfl, Nat.le_of_ble_eq_true rfl⟩ rfl (Nat.le_of_ble_eq_true rfl) dL_law_361 hCL) (fun H locs w => ?_)
  refine lv_aload_n hx hb dL_law_364 rfl (lv_at hl 2 rfl) ?_
  refine lv_aload_n hx hb dL_law_365 rfl (lv_at hl 0 rfl) ?_
  refine lv_iload_n hx hb dL_law_366 rfl (lv_at hl 3 rfl) ?_
  refine lv_iconst (v := 1) hx hb dL_law_367 (by decide) ?_
  refine lv_iadd hx hb dL_law_368 ?_
  refine va_sld hx hb hX hbl hbA w.2.2 i1 dL_law_369 ?_
  refine resR_i C w (run_VL (As := [.int (xs (x3 + 1).toNatClampNeg)]) (rest := [.int v]) C w.right hl.1 (recvM0 C w.right) (c_X11_season l D ca adm τ (xs (x3 + 1).toNatClampNeg) _ (v, τ') e2) rfl rfl wl_419 wl_420 wl_421 wl_5 wl_422 hd_X11_season rfl ⟨Nat.le_of_ble_eq_true rfl, Nat.le_of_ble_eq_true rfl⟩ rfl (Nat.le_of_ble_eq_true rfl) dL_law_370 hCL) (fun H locs w => ?_)
  refine lv_icmp_eq (tgt := 1248) hx hb dL_law_373 (by decide) (fun _ => ?_) (fun c1 => absurd rfl c1)
  exact hk σ' τ' _ _ _ hR' w hl
set_option maxHeartbeats 4000000 in
set_option maxRecDepth 100000 in
theorem lc_undo (C : Cx p s m #[Value.ref b] meth c D ca (fun q => s.heap.size ≤ q) cL_law RL 4 (some .boolean)) (hX : va_X b nS xs s s.heap) (hbl : b < s.heap.size) (hCL : CL ≤ 600000 ∧ SL ≤ 7302250) (i1 : vp_in (x3 + 1) nS) (i2 : vp_in (x3 + 2) nS) (i3 : vp_in (x3 + 3) nS) (i4 : vp_in (x3 + 4) nS) (i5 : vp_in (x3 + 5) nS) (hop : Op0 Rel f_X10_undo f_X11_undo) (hk : LB Rel p l e s m below meth c D ca adc adm b x3 CL SL Q 1248) : LB Rel p l e s m below meth c D ca adc adm b x3 CL SL Q 378 := by
  intro σ τ H locs ls hR w hl
  have hx := C.1
  have hb := C.2.1
  have hbA : ¬ (fun q => s.heap.size ≤ q) b := Nat.not_le.mpr hbl
  obtain ⟨v, σ', τ', e1, e2, hR'⟩ := hop σ τ hR 
  refine lv_aload_n hx hb dL_law_378 rfl (lv_at hl 1 rfl) ?_
  refine resL_i C w (run_VL (As := []) (rest := []) C w.left hl.1 (recvC0 C w.left) (c_X10_undo l D ca adc σ  _ (v, σ') e1) rfl rfl wl_424 wl_425 wl_426 wl_2 wl_427 hd_X10_undo rfl ⟨Nat.le_of_ble_eq_true rfl, Nat.le_of_ble_eq_true rfl⟩ rfl (Nat.le_of_ble_eq_true rfl) dL_law_379 hCL) (fun H locs w => ?_)
  refine lv_aload_n hx hb dL_law_382 rfl (lv_at hl 2 rfl) ?_
  refine resR_i C w (run_VL (As := []) (rest := [.int v]) C w.right hl.1 (recvM0 C w.right) (c_X11_undo l D ca adm τ  _ (v, τ') e2) rfl rfl wl_437 wl_438 wl_439 wl_5 wl_440 hd_X11_undo rfl ⟨Nat.le_of_ble_eq_true rfl, Nat.le_of_ble_eq_true rfl⟩ rfl (Nat.le_of_ble_eq_true rfl) dL_law_383 hCL) (fun H locs w => ?_)
  refine lv_icmp_eq (tgt := 1248) hx hb dL_law_386 (by decide) (fun _ => ?_) (fun c1 => absurd rfl c1)
  exact hk σ' τ' _ _ _ hR' w hl
set_option maxHeartbeats 4000000 in
set_option maxRecDepth 100000 in
theorem lc_of (C : Cx p s m #[Value.ref b] meth c D ca (fun q => s.heap.size ≤ q) cL_law RL 4 (some .boolean)) (hX : va_X b nS xs s s.heap) (hbl : b < s.heap.size) (hCL : CL ≤ 600000 ∧ SL ≤ 7302250) (i1 : vp_in (x3 + 1) nS) (i2 : vp_in (x3 + 2) nS) (i3 : vp_in (x3 + 3) nS) (i4 : vp_in (x3 + 4) nS) (i5 : vp_in (x3 + 5) nS) (hop : Op2 Rel f_X10_of f_X11_of) (hk : LB Rel p l e s m below meth c D ca adc adm b x3 CL SL Q 1248) : LB Rel p l e s m below meth c D ca adc adm b x3 CL SL Q 391 := by
  intro σ τ H locs ls hR w hl
  have hx := C.1
  have hb := C.2.1
  have hbA : ¬ (fun q => s.heap.size ≤ q) b := Nat.not_le.mpr hbl
  obtain ⟨v, σ', τ', e1, e2, hR'⟩ := hop σ τ hR (xs (x3 + 1).toNatClampNeg) (xs (x3 + 2).toNatClampNeg)
  refine lv_aload_n hx hb dL_law_391 rfl (lv_at hl 1 rfl) ?_
  refine lv_aload_n hx hb dL_law_392 rfl (lv_at hl 0 rfl) ?_
  refine lv_iload_n hx hb dL_law_393 rfl (lv_at hl 3 rfl) ?_
  refine lv_iconst (v := 1) hx hb dL_law_394 (by decide) ?_
  refine lv_iadd hx hb dL_law_395 ?_
  refine va_sld hx hb hX hbl hbA w.2.2 i1 dL_law_396 ?_
  refine lv_aload_n hx hb dL_law_397 rfl (lv_at hl 0 rfl) ?_
  refine lv_iload_n hx hb dL_law_398 rfl (lv_at hl 3 rfl) ?_
  refine lv_iconst (v := 2) hx hb dL_law_399 (by decide) ?_
  refine lv_iadd hx hb dL_law_400 ?_
  refine va_sld hx hb hX hbl hbA w.2.2 i2 dL_law_401 ?_
  refine resL_i C w (run_VL (As := [.int (xs (x3 + 1).toNatClampNeg), .int (xs (x3 + 2).toNatClampNeg)]) (rest := []) C w.left hl.1 (recvC0 C w.left) (c_X10_of l D ca adc σ (xs (x3 + 1).toNatClampNeg) (xs (x3 + 2).toNatClampNeg) _ (v, σ') e1) rfl rfl wl_445 wl_446 wl_447 wl_2 wl_448 hd_X10_of rfl ⟨Nat.le_of_ble_eq_true rfl, Nat.le_of_ble_eq_true rfl⟩ rfl (Nat.le_of_ble_eq_true rfl) dL_law_402 hCL) (fun H locs w => ?_)
  refine lv_aload_n hx hb dL_law_405 rfl (lv_at hl 2 rfl) ?_
  refine lv_aload_n hx hb dL_law_406 rfl (lv_at hl 0 rfl) ?_
  refine lv_iload_n hx hb dL_law_407 rfl (lv_at hl 3 rfl) ?_
  refine lv_iconst (v := 1) hx hb dL_law_408 (by decide) ?_
  refine lv_iadd hx hb dL_law_409 ?_
  refine va_sld hx hb hX hbl hbA w.2.2 i1 dL_law_410 ?_
  refine lv_aload_n hx hb dL_law_411 rfl (lv_at hl 0 rfl) ?_
  refine lv_iload_n hx hb dL_law_412 rfl (lv_at hl 3 rfl) ?_
  refine lv_iconst (v := 2) hx hb dL_law_413 (by decide) ?_
  refine lv_iadd hx hb dL_law_414 ?_
  refine va_sld hx hb hX hbl hbA w.2.2 i2 dL_law_415 ?_
  refine resR_i C w (run_VL (As := [.int (xs (x3 + 1).toNatClampNeg), .int (xs (x3 + 2).toNatClampNeg)]) (rest := [.int v]) C w.right hl.1 (recvM0 C w.right) (c_X11_of l D ca adm τ (xs (x3 + 1).toNatClampNeg) (xs (x3 + 2).toNatClampNeg) _ (v, τ') e2) rfl rfl wl_450 wl_451 wl_452 wl_5 wl_453 hd_X11_of rfl ⟨Nat.le_of_ble_eq_true rfl, Nat.le_of_ble_eq_true rfl⟩ rfl (Nat.le_of_ble_eq_true rfl) dL_law_416 hCL) (fun H locs w => ?_)
  refine lv_icmp_eq (tgt := 1248) hx hb dL_law_419 (by decide) (fun _ => ?_) (fun c1 => absurd rfl c1)
  exact hk σ' τ' _ _ _ hR' w hl
set_option maxHeartbeats 4000000 in
set_option maxRecDepth 100000 in
theorem lc_copy (C : Cx p s m #[Value.ref b] meth c D ca (fun q => s.heap.size ≤ q) cL_law RL 4 (some .boolean)) (hX : va_X b nS xs s s.heap) (hbl : b < s.heap.size) (hCL : CL ≤ 600000 ∧ SL ≤ 7302250) (i1 : vp_in (x3 + 1) nS) (i2 : vp_in (x3 + 2) nS) (i3 : vp_in (x3 + 3) nS) (i4 : vp_in (x3 + 4) nS) (i5 : vp_in (x3 + 5) nS) (hop : Op3 Rel f_X10_copy f_X11_copy) (hk : LB Rel p l e s m below meth c D ca adc adm b x3 CL SL Q 1248) : LB Rel p l e s m below meth c D ca adc adm b x3 CL SL Q 424 := by
  intro σ τ H locs ls hR w hl
  have hx := C.1
  have hb := C.2.1
  have hbA : ¬ (fun q => s.heap.size ≤ q) b := Nat.not_le.mpr hbl
  obtain ⟨v, σ', τ', e1, e2, hR'⟩ := hop σ τ hR (xs (x3 + 1).toNatClampNeg) (xs (x3 + 2).toNatClampNeg) (xs (x3 + 3).toNatClampNeg)
  refine lv_aload_n hx hb dL_law_424 rfl (lv_at hl 1 rfl) ?_
  refine lv_aload_n hx hb dL_law_425 rfl (lv_at hl 0 rfl) ?_
  refine lv_iload_n hx hb dL_law_426 rfl (lv_at hl 3 rfl) ?_
  refine lv_iconst (v := 1) hx hb dL_law_427 (by decide) ?_
  refine lv_iadd hx hb dL_law_428 ?_
  refine va_sld hx hb hX hbl hbA w.2.2 i1 dL_law_429 ?_
  refine lv_aload_n hx hb dL_law_430 rfl (lv_at hl 0 rfl) ?_
  refine lv_iload_n hx hb dL_law_431 rfl (lv_at hl 3 rfl) ?_
  refine lv_iconst (v := 2) hx hb dL_law_432 (by decide) ?_
  refine lv_iadd hx hb dL_law_433 ?_
  refine va_sld hx hb hX hbl hbA w.2.2 i2 dL_law_434 ?_
  refine lv_aload_n hx hb dL_law_435 rfl (lv_at hl 0 rfl) ?_
  refine lv_iload_n hx hb dL_law_436 rfl (lv_at hl 3 rfl) ?_
  refine lv_iconst (v := 3) hx hb dL_law_437 (by decide) ?_
  refine lv_iadd hx hb dL_law_438 ?_
  refine va_sld hx hb hX hbl hbA w.2.2 i3 dL_law_439 ?_
  refine resL_i C w (run_VL (As := [.int (xs (x3 + 1).toNatClampNeg), .int (xs (x3 + 2).toNatClampNeg), .int (xs (x3 + 3).toNatClampNeg)]) (rest := []) C w.left hl.1 (recvC0 C w.left) (c_X10_copy l D ca adc σ (xs (x3 + 1).toNatClampNeg) (xs (x3 + 2).toNatClampNeg) (xs (x3 + 3).toNatClampNeg) _ (v, σ') e1) rfl rfl wl_455 wl_456 wl_457 wl_2 wl_458 hd_X10_copy rfl ⟨Nat.le_of_ble_eq_true rfl, Nat.le_of_ble_eq_true rfl⟩ rfl (Nat.le_of_ble_eq_true rfl) dL_law_440 hCL) (fun H locs w => ?_)
  refine lv_aload_n hx hb dL_law_443 rfl (lv_at hl 2 rfl) ?_
  refine lv_aload_n hx hb dL_law_444 rfl (lv_at hl 0 rfl) ?_
  refine lv_iload_n hx hb dL_law_445 rfl (lv_at hl 3 rfl) ?_
  refine lv_iconst (v := 1) hx hb dL_law_446 (by decide) ?_
  refine lv_iadd hx hb dL_law_447 ?_
  refine va_sld hx hb hX hbl hbA w.2.2 i1 dL_law_448 ?_
  refine lv_aload_n hx hb dL_law_449 rfl (lv_at hl 0 rfl) ?_
  refine lv_iload_n hx hb dL_law_450 rfl (lv_at hl 3 rfl) ?_
  refine lv_iconst (v := 2) hx hb dL_law_451 (by decide) ?_
  refine lv_iadd hx hb dL_law_452 ?_
  refine va_sld hx hb hX hbl hbA w.2.2 i2 dL_law_453 ?_
  refine lv_aload_n hx hb dL_law_454 rfl (lv_at hl 0 rfl) ?_
  refine lv_iload_n hx hb dL_law_455 rfl (lv_at hl 3 rfl) ?_
  refine lv_iconst (v := 3) hx hb dL_law_456 (by decide) ?_
  refine lv_iadd hx hb dL_law_457 ?_
  refine va_sld hx hb hX hbl hbA w.2.2 i3 dL_law_458 ?_
  refine resR_i C w (run_VL (As := [.int (xs (x3 + 1).toNatClampNeg), .int (xs (x3 + 2).toNatClampNeg), .int (xs (x3 + 3).toNatClampNeg)]) (rest := [.int v]) C w.right hl.1 (recvM0 C w.right) (c_X11_copy l D ca adm τ (xs (x3 + 1).toNatClampNeg) (xs (x3 + 2).toNatClampNeg) (xs (x3 + 3).toNatClampNeg) _ (v, τ') e2) rfl rfl wl_520 wl_521 wl_522 wl_5 wl_523 hd_X11_copy rfl ⟨Nat.le_of_ble_eq_true rfl, Nat.le_of_ble_eq_true rfl⟩ rfl (Nat.le_of_ble_eq_true rfl) dL_law_459 hCL) (fun H locs w => ?_)
  refine lv_icmp_eq (tgt := 1248) hx hb dL_law_462 (by decide) (fun _ => ?_) (fun c1 => absurd rfl c1)
  exact hk σ' τ' _ _ _ hR' w hl
set_option maxHeartbeats 4000000 in
set_option maxRecDepth 100000 in
theorem lc_byRow (C : Cx p s m #[Value.ref b] meth c D ca (fun q => s.heap.size ≤ q) cL_law RL 4 (some .boolean)) (hX : va_X b nS xs s s.heap) (hbl : b < s.heap.size) (hCL : CL ≤ 600000 ∧ SL ≤ 7302250) (i1 : vp_in (x3 + 1) nS) (i2 : vp_in (x3 + 2) nS) (i3 : vp_in (x3 + 3) nS) (i4 : vp_in (x3 + 4) nS) (i5 : vp_in (x3 + 5) nS) (hop : Op3 Rel f_X10_byRow f_X11_byRow) (hk : LB Rel p l e s m below meth c D ca adc adm b x3 CL SL Q 1248) : LB Rel p l e s m below meth c D ca adc adm b x3 CL SL Q 467 := by
  intro σ τ H locs ls hR w hl
  have hx := C.1
  have hb := C.2.1
  have hbA : ¬ (fun q => s.heap.size ≤ q) b := Nat.not_le.mpr hbl
  obtain ⟨v, σ', τ', e1, e2, hR'⟩ := hop σ τ hR (xs (x3 + 1).toNatClampNeg) (xs (x3 + 2).toNatClampNeg) (xs (x3 + 3).toNatClampNeg)
  refine lv_aload_n hx hb dL_law_467 rfl (lv_at hl 1 rfl) ?_
  refine lv_aload_n hx hb dL_law_468 rfl (lv_at hl 0 rfl) ?_
  refine lv_iload_n hx hb dL_law_469 rfl (lv_at hl 3 rfl) ?_
  refine lv_iconst (v := 1) hx hb dL_law_470 (by decide) ?_
  refine lv_iadd hx hb dL_law_471 ?_
  refine va_sld hx hb hX hbl hbA w.2.2 i1 dL_law_472 ?_
  refine lv_aload_n hx hb dL_law_473 rfl (lv_at hl 0 rfl) ?_
  refine lv_iload_n hx hb dL_law_474 rfl (lv_at hl 3 rfl) ?_
  refine lv_iconst (v := 2) hx hb dL_law_475 (by decide) ?_
  refine lv_iadd hx hb dL_law_476 ?_
  refine va_sld hx hb hX hbl hbA w.2.2 i2 dL_law_477 ?_
  refine lv_aload_n hx hb dL_law_478 rfl (lv_at hl 0 rfl) ?_
  refine lv_iload_n hx hb dL_law_479 rfl (lv_at hl 3 rfl) ?_
  refine lv_iconst (v := 3) hx hb dL_law_480 (by decide) ?_
  refine lv_iadd hx hb dL_law_481 ?_
  refine va_sld hx hb hX hbl hbA w.2.2 i3 dL_law_482 ?_
  refine resL_i C w (run_VL (As := [.int (xs (x3 + 1).toNatClampNeg), .int (xs (x3 + 2).toNatClampNeg), .int (xs (x3 + 3).toNatClampNeg)]) (rest := []) C w.left hl.1 (recvC0 C w.left) (c_X10_byRow l D ca adc σ (xs (x3 + 1).toNatClampNeg) (xs (x3 + 2).toNatClampNeg) (xs (x3 + 3).toNatClampNeg) _ (v, σ') e1) rfl rfl wl_541 wl_542 wl_543 wl_2 wl_544 hd_X10_byRow rfl ⟨Nat.le_of_ble_eq_true rfl, Nat.le_of_ble_eq_true rfl⟩ rfl (Nat.le_of_ble_eq_true rfl) dL_law_483 hCL) (fun H locs w => ?_)
  refine lv_aload_n hx hb dL_law_486 rfl (lv_at hl 2 rfl) ?_
  refine lv_aload_n hx hb dL_law_487 rfl (lv_at hl 0 rfl) ?_
  refine lv_iload_n hx hb dL_law_488 rfl (lv_at hl 3 rfl) ?_
  refine lv_iconst (v := 1) hx hb dL_law_489 (by decide) ?_
  refine lv_iadd hx hb dL_law_490 ?_
  refine va_sld hx hb hX hbl hbA w.2.2 i1 dL_law_491 ?_
  refine lv_aload_n hx hb dL_law_492 rfl (lv_at hl 0 rfl) ?_
  refine lv_iload_n hx hb dL_law_493 rfl (lv_at hl 3 rfl) ?_
  refine lv_iconst (v := 2) hx hb dL_law_494 (by decide) ?_
  refine lv_iadd hx hb dL_law_495 ?_
  refine va_sld hx hb hX hbl hbA w.2.2 i2 dL_law_496 ?_
  refine lv_aload_n hx hb dL_law_497 rfl (lv_at hl 0 rfl) ?_
  refine lv_iload_n hx hb dL_law_498 rfl (lv_at hl 3 rfl) ?_
  refine lv_iconst (v := 3) hx hb dL_law_499 (by decide) ?_
  refine lv_iadd hx hb dL_law_500 ?_
  refine va_sld hx hb hX hbl hbA w.2.2 i3 dL_law_501 ?_
  refine resR_i C w (run_VL (As := [.int (xs (x3 + 1).toNatClampNeg), .int (xs (x3 + 2).toNatClampNeg), .int (xs (x3 + 3).toNatClampNeg)]) (rest := [.int v]) C w.right hl.1 (recvM0 C w.right) (c_X11_byRow l D ca adm τ (xs (x3 + 1).toNatClampNeg) (xs (x3 + 2).toNatClampNeg) (xs (x3 + 3).toNatClampNeg) _ (v, τ') e2) rfl rfl wl_572 wl_573 wl_574 wl_5 wl_575 hd_X11_byRow rfl ⟨Nat.le_of_ble_eq_true rfl, Nat.le_of_ble_eq_true rfl⟩ rfl (Nat.le_of_ble_eq_true rfl) dL_law_502 hCL) (fun H locs w => ?_)
  refine lv_icmp_eq (tgt := 1248) hx hb dL_law_505 (by decide) (fun _ => ?_) (fun c1 => absurd rfl c1)
  exact hk σ' τ' _ _ _ hR' w hl
set_option maxHeartbeats 4000000 in
set_option maxRecDepth 100000 in
theorem lc_soonest (C : Cx p s m #[Value.ref b] meth c D ca (fun q => s.heap.size ≤ q) cL_law RL 4 (some .boolean)) (hX : va_X b nS xs s s.heap) (hbl : b < s.heap.size) (hCL : CL ≤ 600000 ∧ SL ≤ 7302250) (i1 : vp_in (x3 + 1) nS) (i2 : vp_in (x3 + 2) nS) (i3 : vp_in (x3 + 3) nS) (i4 : vp_in (x3 + 4) nS) (i5 : vp_in (x3 + 5) nS) (hop : Op4 Rel f_X10_soonest f_X11_soonest) (hk : LB Rel p l e s m below meth c D ca adc adm b x3 CL SL Q 1248) : LB Rel p l e s m below meth c D ca adc adm b x3 CL SL Q 510 := by
  intro σ τ H locs ls hR w hl
  have hx := C.1
  have hb := C.2.1
  have hbA : ¬ (fun q => s.heap.size ≤ q) b := Nat.not_le.mpr hbl
  obtain ⟨v, σ', τ', e1, e2, hR'⟩ := hop σ τ hR (xs (x3 + 1).toNatClampNeg) (xs (x3 + 2).toNatClampNeg) (xs (x3 + 3).toNatClampNeg) (xs (x3 + 4).toNatClampNeg)
  refine lv_aload_n hx hb dL_law_510 rfl (lv_at hl 1 rfl) ?_
  refine lv_aload_n hx hb dL_law_511 rfl (lv_at hl 0 rfl) ?_
  refine lv_iload_n hx hb dL_law_512 rfl (lv_at hl 3 rfl) ?_
  refine lv_iconst (v := 1) hx hb dL_law_513 (by decide) ?_
  refine lv_iadd hx hb dL_law_514 ?_
  refine va_sld hx hb hX hbl hbA w.2.2 i1 dL_law_515 ?_
  refine lv_aload_n hx hb dL_law_516 rfl (lv_at hl 0 rfl) ?_
  refine lv_iload_n hx hb dL_law_517 rfl (lv_at hl 3 rfl) ?_
  refine lv_iconst (v := 2) hx hb dL_law_518 (by decide) ?_
  refine lv_iadd hx hb dL_law_519 ?_
  refine va_sld hx hb hX hbl hbA w.2.2 i2 dL_law_520 ?_
  refine lv_aload_n hx hb dL_law_521 rfl (lv_at hl 0 rfl) ?_
  refine lv_iload_n hx hb dL_law_522 rfl (lv_at hl 3 rfl) ?_
  refine lv_iconst (v := 3) hx hb dL_law_523 (by decide) ?_
  refine lv_iadd hx hb dL_law_524 ?_
  refine va_sld hx hb hX hbl hbA w.2.2 i3 dL_law_525 ?_
  refine lv_aload_n hx hb dL_law_526 rfl (lv_at hl 0 rfl) ?_
  refine lv_iload_n hx hb dL_law_527 rfl (lv_at hl 3 rfl) ?_
  refine lv_iconst (v := 4) hx hb dL_law_528 (by decide) ?_
  refine lv_iadd hx hb dL_law_529 ?_
  refine va_sld hx hb hX hbl hbA w.2.2 i4 dL_law_530 ?_
  refine resL_i C w (run_VL (As := [.int (xs (x3 + 1).toNatClampNeg), .int (xs (x3 + 2).toNatClampNeg), .int (xs (x3 + 3).toNatClampNeg), .int (xs (x3 + 4).toNatClampNeg)]) (rest := []) C w.left hl.1 (recvC0 C w.left) (c_X10_soonest l D ca adc σ (xs (x3 + 1).toNatClampNeg) (xs (x3 + 2).toNatClampNeg) (xs (x3 + 3).toNatClampNeg) (xs (x3 + 4).toNatClampNeg) _ (v, σ') e1) rfl rfl wl_594 wl_595 wl_596 wl_2 wl_597 hd_X10_soonest rfl ⟨Nat.le_of_ble_eq_true rfl, Nat.le_of_ble_eq_true rfl⟩ rfl (Nat.le_of_ble_eq_true rfl) dL_law_531 hCL) (fun H locs w => ?_)
  refine lv_aload_n hx hb dL_law_534 rfl (lv_at hl 2 rfl) ?_
  refine lv_aload_n hx hb dL_law_535 rfl (lv_at hl 0 rfl) ?_
  refine lv_iload_n hx hb dL_law_536 rfl (lv_at hl 3 rfl) ?_
  refine lv_iconst (v := 1) hx hb dL_law_537 (by decide) ?_
  refine lv_iadd hx hb dL_law_538 ?_
  refine va_sld hx hb hX hbl hbA w.2.2 i1 dL_law_539 ?_
  refine lv_aload_n hx hb dL_law_540 rfl (lv_at hl 0 rfl) ?_
  refine lv_iload_n hx hb dL_law_541 rfl (lv_at hl 3 rfl) ?_
  refine lv_iconst (v := 2) hx hb dL_law_542 (by decide) ?_
  refine lv_iadd hx hb dL_law_543 ?_
  refine va_sld hx hb hX hbl hbA w.2.2 i2 dL_law_544 ?_
  refine lv_aload_n hx hb dL_law_545 rfl (lv_at hl 0 rfl) ?_
  refine lv_iload_n hx hb dL_law_546 rfl (lv_at hl 3 rfl) ?_
  refine lv_iconst (v := 3) hx hb dL_law_547 (by decide) ?_
  refine lv_iadd hx hb dL_law_548 ?_
  refine va_sld hx hb hX hbl hbA w.2.2 i3 dL_law_549 ?_
  refine lv_aload_n hx hb dL_law_550 rfl (lv_at hl 0 rfl) ?_
  refine lv_iload_n hx hb dL_law_551 rfl (lv_at hl 3 rfl) ?_
  refine lv_iconst (v := 4) hx hb dL_law_552 (by decide) ?_
  refine lv_iadd hx hb dL_law_553 ?_
  refine va_sld hx hb hX hbl hbA w.2.2 i4 dL_law_554 ?_
  refine resR_i C w (run_VL (As := [.int (xs (x3 + 1).toNatClampNeg), .int (xs (x3 + 2).toNatClampNeg), .int (xs (x3 + 3).toNatClampNeg), .int (xs (x3 + 4).toNatClampNeg)]) (rest := [.int v]) C w.right hl.1 (recvM0 C w.right) (c_X11_soonest l D ca adm τ (xs (x3 + 1).toNatClampNeg) (xs (x3 + 2).toNatClampNeg) (xs (x3 + 3).toNatClampNeg) (xs (x3 + 4).toNatClampNeg) _ (v, τ') e2) rfl rfl wl_618 wl_619 wl_620 wl_5 wl_621 hd_X11_soonest rfl ⟨Nat.le_of_ble_eq_true rfl, Nat.le_of_ble_eq_true rfl⟩ rfl (Nat.le_of_ble_eq_true rfl) dL_law_555 hCL) (fun H locs w => ?_)
  refine lv_icmp_eq (tgt := 1248) hx hb dL_law_558 (by decide) (fun _ => ?_) (fun c1 => absurd rfl c1)
  exact hk σ' τ' _ _ _ hR' w hl
set_option maxHeartbeats 4000000 in
set_option maxRecDepth 100000 in
theorem lc_whole (C : Cx p s m #[Value.ref b] meth c D ca (fun q => s.heap.size ≤ q) cL_law RL 4 (some .boolean)) (hX : va_X b nS xs s s.heap) (hbl : b < s.heap.size) (hCL : CL ≤ 600000 ∧ SL ≤ 7302250) (i1 : vp_in (x3 + 1) nS) (i2 : vp_in (x3 + 2) nS) (i3 : vp_in (x3 + 3) nS) (i4 : vp_in (x3 + 4) nS) (i5 : vp_in (x3 + 5) nS) (hop : Op4 Rel f_X10_whole f_X11_whole) (hk : LB Rel p l e s m below meth c D ca adc adm b x3 CL SL Q 1248) : LB Rel p l e s m below meth c D ca adc adm b x3 CL SL Q 563 := by
  intro σ τ H locs ls hR w hl
  have hx := C.1
  have hb := C.2.1
  have hbA : ¬ (fun q => s.heap.size ≤ q) b := Nat.not_le.mpr hbl
  obtain ⟨v, σ', τ', e1, e2, hR'⟩ := hop σ τ hR (xs (x3 + 1).toNatClampNeg) (xs (x3 + 2).toNatClampNeg) (xs (x3 + 3).toNatClampNeg) (xs (x3 + 4).toNatClampNeg)
  refine lv_aload_n hx hb dL_law_563 rfl (lv_at hl 1 rfl) ?_
  refine lv_aload_n hx hb dL_law_564 rfl (lv_at hl 0 rfl) ?_
  refine lv_iload_n hx hb dL_law_565 rfl (lv_at hl 3 rfl) ?_
  refine lv_iconst (v := 1) hx hb dL_law_566 (by decide) ?_
  refine lv_iadd hx hb dL_law_567 ?_
  refine va_sld hx hb hX hbl hbA w.2.2 i1 dL_law_568 ?_
  refine lv_aload_n hx hb dL_law_569 rfl (lv_at hl 0 rfl) ?_
  refine lv_iload_n hx hb dL_law_570 rfl (lv_at hl 3 rfl) ?_
  refine lv_iconst (v := 2) hx hb dL_law_571 (by decide) ?_
  refine lv_iadd hx hb dL_law_572 ?_
  refine va_sld hx hb hX hbl hbA w.2.2 i2 dL_law_573 ?_
  refine lv_aload_n hx hb dL_law_574 rfl (lv_at hl 0 rfl) ?_
  refine lv_iload_n hx hb dL_law_575 rfl (lv_at hl 3 rfl) ?_
  refine lv_iconst (v := 3) hx hb dL_law_576 (by decide) ?_
  refine lv_iadd hx hb dL_law_577 ?_
  refine va_sld hx hb hX hbl hbA w.2.2 i3 dL_law_578 ?_
  refine lv_aload_n hx hb dL_law_579 rfl (lv_at hl 0 rfl) ?_
  refine lv_iload_n hx hb dL_law_580 rfl (lv_at hl 3 rfl) ?_
  refine lv_iconst (v := 4) hx hb dL_law_581 (by decide) ?_
  refine lv_iadd hx hb dL_law_582 ?_
  refine va_sld hx hb hX hbl hbA w.2.2 i4 dL_law_583 ?_
  refine resL_i C w (run_VL (As := [.int (xs (x3 + 1).toNatClampNeg), .int (xs (x3 + 2).toNatClampNeg), .int (xs (x3 + 3).toNatClampNeg), .int (xs (x3 + 4).toNatClampNeg)]) (rest := []) C w.left hl.1 (recvC0 C w.left) (c_X10_whole l D ca adc σ (xs (x3 + 1).toNatClampNeg) (xs (x3 + 2).toNatClampNeg) (xs (x3 + 3).toNatClampNeg) (xs (x3 + 4).toNatClampNeg) _ (v, σ') e1) rfl rfl wl_650 wl_651 wl_652 wl_2 wl_653 hd_X10_whole rfl ⟨Nat.le_of_ble_eq_true rfl, Nat.le_of_ble_eq_true rfl⟩ rfl (Nat.le_of_ble_eq_true rfl) dL_law_584 hCL) (fun H locs w => ?_)
  refine lv_aload_n hx hb dL_law_587 rfl (lv_at hl 2 rfl) ?_
  refine lv_aload_n hx hb dL_law_588 rfl (lv_at hl 0 rfl) ?_
  refine lv_iload_n hx hb dL_law_589 rfl (lv_at hl 3 rfl) ?_
  refine lv_iconst (v := 1) hx hb dL_law_590 (by decide) ?_
  refine lv_iadd hx hb dL_law_591 ?_
  refine va_sld hx hb hX hbl hbA w.2.2 i1 dL_law_592 ?_
  refine lv_aload_n hx hb dL_law_593 rfl (lv_at hl 0 rfl) ?_
  refine lv_iload_n hx hb dL_law_594 rfl (lv_at hl 3 rfl) ?_
  refine lv_iconst (v := 2) hx hb dL_law_595 (by decide) ?_
  refine lv_iadd hx hb dL_law_596 ?_
  refine va_sld hx hb hX hbl hbA w.2.2 i2 dL_law_597 ?_
  refine lv_aload_n hx hb dL_law_598 rfl (lv_at hl 0 rfl) ?_
  refine lv_iload_n hx hb dL_law_599 rfl (lv_at hl 3 rfl) ?_
  refine lv_iconst (v := 3) hx hb dL_law_600 (by decide) ?_
  refine lv_iadd hx hb dL_law_601 ?_
  refine va_sld hx hb hX hbl hbA w.2.2 i3 dL_law_602 ?_
  refine lv_aload_n hx hb dL_law_603 rfl (lv_at hl 0 rfl) ?_
  refine lv_iload_n hx hb dL_law_604 rfl (lv_at hl 3 rfl) ?_
  refine lv_iconst (v := 4) hx hb dL_law_605 (by decide) ?_
  refine lv_iadd hx hb dL_law_606 ?_
  refine va_sld hx hb hX hbl hbA w.2.2 i4 dL_law_607 ?_
  refine resR_i C w (run_VL (As := [.int (xs (x3 + 1).toNatClampNeg), .int (xs (x3 + 2).toNatClampNeg), .int (xs (x3 + 3).toNatClampNeg), .int (xs (x3 + 4).toNatClampNeg)]) (rest := [.int v]) C w.right hl.1 (recvM0 C w.right) (c_X11_whole l D ca adm τ (xs (x3 + 1).toNatClampNeg) (xs (x3 + 2).toNatClampNeg) (xs (x3 + 3).toNatClampNeg) (xs (x3 + 4).toNatClampNeg) _ (v, τ') e2) rfl rfl wl_654 wl_655 wl_656 wl_5 wl_657 hd_X11_whole rfl ⟨Nat.le_of_ble_eq_true rfl, Nat.le_of_ble_eq_true rfl⟩ rfl (Nat.le_of_ble_eq_true rfl) dL_law_608 hCL) (fun H locs w => ?_)
  refine lv_icmp_eq (tgt := 1248) hx hb dL_law_611 (by decide) (fun _ => ?_) (fun c1 => absurd rfl c1)
  exact hk σ' τ' _ _ _ hR' w hl
set_option maxHeartbeats 4000000 in
set_option maxRecDepth 100000 in
theorem lc_ways (C : Cx p s m #[Value.ref b] meth c D ca (fun q => s.heap.size ≤ q) cL_law RL 4 (some .boolean)) (hX : va_X b nS xs s s.heap) (hbl : b < s.heap.size) (hCL : CL ≤ 600000 ∧ SL ≤ 7302250) (i1 : vp_in (x3 + 1) nS) (i2 : vp_in (x3 + 2) nS) (i3 : vp_in (x3 + 3) nS) (i4 : vp_in (x3 + 4) nS) (i5 : vp_in (x3 + 5) nS) (hop : Op2 Rel f_X10_ways f_X11_ways) (hk : LB Rel p l e s m below meth c D ca adc adm b x3 CL SL Q 1248) : LB Rel p l e s m below meth c D ca adc adm b x3 CL SL Q 616 := by
  intro σ τ H locs ls hR w hl
  have hx := C.1
  have hb := C.2.1
  have hbA : ¬ (fun q => s.heap.size ≤ q) b := Nat.not_le.mpr hbl
  obtain ⟨v, σ', τ', e1, e2, hR'⟩ := hop σ τ hR (xs (x3 + 1).toNatClampNeg) (xs (x3 + 2).toNatClampNeg)
  refine lv_aload_n hx hb dL_law_616 rfl (lv_at hl 1 rfl) ?_
  refine lv_aload_n hx hb dL_law_617 rfl (lv_at hl 0 rfl) ?_
  refine lv_iload_n hx hb dL_law_618 rfl (lv_at hl 3 rfl) ?_
  refine lv_iconst (v := 1) hx hb dL_law_619 (by decide) ?_
  refine lv_iadd hx hb dL_law_620 ?_
  refine va_sld hx hb hX hbl hbA w.2.2 i1 dL_law_621 ?_
  refine lv_aload_n hx hb dL_law_622 rfl (lv_at hl 0 rfl) ?_
  refine lv_iload_n hx hb dL_law_623 rfl (lv_at hl 3 rfl) ?_
  refine lv_iconst (v := 2) hx hb dL_law_624 (by decide) ?_
  refine lv_iadd hx hb dL_law_625 ?_
  refine va_sld hx hb hX hbl hbA w.2.2 i2 dL_law_626 ?_
  refine resL_i C w (run_VL (As := [.int (xs (x3 + 1).toNatClampNeg), .int (xs (x3 + 2).toNatClampNeg)]) (rest := []) C w.left hl.1 (recvC0 C w.left) (c_X10_ways l D ca adc σ (xs (x3 + 1).toNatClampNeg) (xs (x3 + 2).toNatClampNeg) _ (v, σ') e1) rfl rfl wl_658 wl_659 wl_660 wl_2 wl_661 hd_X10_ways rfl ⟨Nat.le_of_ble_eq_true rfl, Nat.le_of_ble_eq_true rfl⟩ rfl (Nat.le_of_ble_eq_true rfl) dL_law_627 hCL) (fun H locs w => ?_)
  refine lv_aload_n hx hb dL_law_630 rfl (lv_at hl 2 rfl) ?_
  refine lv_aload_n hx hb dL_law_631 rfl (lv_at hl 0 rfl) ?_
  refine lv_iload_n hx hb dL_law_632 rfl (lv_at hl 3 rfl) ?_
  refine lv_iconst (v := 1) hx hb dL_law_633 (by decide) ?_
  refine lv_iadd hx hb dL_law_634 ?_
  refine va_sld hx hb hX hbl hbA w.2.2 i1 dL_law_635 ?_
  refine lv_aload_n hx hb dL_law_636 rfl (lv_at hl 0 rfl) ?_
  refine lv_iload_n hx hb dL_law_637 rfl (lv_at hl 3 rfl) ?_
  refine lv_iconst (v := 2) hx hb dL_law_638 (by decide) ?_
  refine lv_iadd hx hb dL_law_639 ?_
  refine va_sld hx hb hX hbl hbA w.2.2 i2 dL_law_640 ?_
  refine resR_i C w (run_VL (As := [.int (xs (x3 + 1).toNatClampNeg), .int (xs (x3 + 2).toNatClampNeg)]) (rest := [.int v]) C w.right hl.1 (recvM0 C w.right) (c_X11_ways l D ca adm τ (xs (x3 + 1).toNatClampNeg) (xs (x3 + 2).toNatClampNeg) _ (v, τ') e2) rfl rfl wl_670 wl_671 wl_672 wl_5 wl_673 hd_X11_ways rfl ⟨Nat.le_of_ble_eq_true rfl, Nat.le_of_ble_eq_true rfl⟩ rfl (Nat.le_of_ble_eq_true rfl) dL_law_641 hCL) (fun H locs w => ?_)
  refine lv_icmp_eq (tgt := 1248) hx hb dL_law_644 (by decide) (fun _ => ?_) (fun c1 => absurd rfl c1)
  exact hk σ' τ' _ _ _ hR' w hl
set_option maxHeartbeats 4000000 in
set_option maxRecDepth 100000 in
theorem lc_put (C : Cx p s m #[Value.ref b] meth c D ca (fun q => s.heap.size ≤ q) cL_law RL 4 (some .boolean)) (hX : va_X b nS xs s s.heap) (hbl : b < s.heap.size) (hCL : CL ≤ 600000 ∧ SL ≤ 7302250) (i1 : vp_in (x3 + 1) nS) (i2 : vp_in (x3 + 2) nS) (i3 : vp_in (x3 + 3) nS) (i4 : vp_in (x3 + 4) nS) (i5 : vp_in (x3 + 5) nS) (hop : Op4 Rel f_X10_put f_X11_put) (hk : LB Rel p l e s m below meth c D ca adc adm b x3 CL SL Q 1248) : LB Rel p l e s m below meth c D ca adc adm b x3 CL SL Q 649 := by
  intro σ τ H locs ls hR w hl
  have hx := C.1
  have hb := C.2.1
  have hbA : ¬ (fun q => s.heap.size ≤ q) b := Nat.not_le.mpr hbl
  obtain ⟨v, σ', τ', e1, e2, hR'⟩ := hop σ τ hR (xs (x3 + 1).toNatClampNeg) (xs (x3 + 2).toNatClampNeg) (xs (x3 + 3).toNatClampNeg) (xs (x3 + 4).toNatClampNeg)
  refine lv_aload_n hx hb dL_law_649 rfl (lv_at hl 1 rfl) ?_
  refine lv_aload_n hx hb dL_law_650 rfl (lv_at hl 0 rfl) ?_
  refine lv_iload_n hx hb dL_law_651 rfl (lv_at hl 3 rfl) ?_
  refine lv_iconst (v := 1) hx hb dL_law_652 (by decide) ?_
  refine lv_iadd hx hb dL_law_653 ?_
  refine va_sld hx hb hX hbl hbA w.2.2 i1 dL_law_654 ?_
  refine lv_aload_n hx hb dL_law_655 rfl (lv_at hl 0 rfl) ?_
  refine lv_iload_n hx hb dL_law_656 rfl (lv_at hl 3 rfl) ?_
  refine lv_iconst (v := 2) hx hb dL_law_657 (by decide) ?_
  refine lv_iadd hx hb dL_law_658 ?_
  refine va_sld hx hb hX hbl hbA w.2.2 i2 dL_law_659 ?_
  refine lv_aload_n hx hb dL_law_660 rfl (lv_at hl 0 rfl) ?_
  refine lv_iload_n hx hb dL_law_661 rfl (lv_at hl 3 rfl) ?_
  refine lv_iconst (v := 3) hx hb dL_law_662 (by decide) ?_
  refine lv_iadd hx hb dL_law_663 ?_
  refine va_sld hx hb hX hbl hbA w.2.2 i3 dL_law_664 ?_
  refine lv_aload_n hx hb dL_law_665 rfl (lv_at hl 0 rfl) ?_
  refine lv_iload_n hx hb dL_law_666 rfl (lv_at hl 3 rfl) ?_
  refine lv_iconst (v := 4) hx hb dL_law_667 (by decide) ?_
  refine lv_iadd hx hb dL_law_668 ?_
  refine va_sld hx hb hX hbl hbA w.2.2 i4 dL_law_669 ?_
  refine resL_i C w (run_VL (As := [.int (xs (x3 + 1).toNatClampNeg), .int (xs (x3 + 2).toNatClampNeg), .int (xs (x3 + 3).toNatClampNeg), .int (xs (x3 + 4).toNatClampNeg)]) (rest := []) C w.left hl.1 (recvC0 C w.left) (c_X10_put l D ca adc σ (xs (x3 + 1).toNatClampNeg) (xs (x3 + 2).toNatClampNeg) (xs (x3 + 3).toNatClampNeg) (xs (x3 + 4).toNatClampNeg) _ (v, σ') e1) rfl rfl wl_678 wl_679 wl_680 wl_2 wl_681 hd_X10_put rfl ⟨Nat.le_of_ble_eq_true rfl, Nat.le_of_ble_eq_true rfl⟩ rfl (Nat.le_of_ble_eq_true rfl) dL_law_670 hCL) (fun H locs w => ?_)
  refine lv_aload_n hx hb dL_law_673 rfl (lv_at hl 2 rfl) ?_
  refine lv_aload_n hx hb dL_law_674 rfl (lv_at hl 0 rfl) ?_
  refine lv_iload_n hx hb dL_law_675 rfl (lv_at hl 3 rfl) ?_
  refine lv_iconst (v := 1) hx hb dL_law_676 (by decide) ?_
  refine lv_iadd hx hb dL_law_677 ?_
  refine va_sld hx hb hX hbl hbA w.2.2 i1 dL_law_678 ?_
  refine lv_aload_n hx hb dL_law_679 rfl (lv_at hl 0 rfl) ?_
  refine lv_iload_n hx hb dL_law_680 rfl (lv_at hl 3 rfl) ?_
  refine lv_iconst (v := 2) hx hb dL_law_681 (by decide) ?_
  refine lv_iadd hx hb dL_law_682 ?_
  refine va_sld hx hb hX hbl hbA w.2.2 i2 dL_law_683 ?_
  refine lv_aload_n hx hb dL_law_684 rfl (lv_at hl 0 rfl) ?_
  refine lv_iload_n hx hb dL_law_685 rfl (lv_at hl 3 rfl) ?_
  refine lv_iconst (v := 3) hx hb dL_law_686 (by decide) ?_
  refine lv_iadd hx hb dL_law_687 ?_
  refine va_sld hx hb hX hbl hbA w.2.2 i3 dL_law_688 ?_
  refine lv_aload_n hx hb dL_law_689 rfl (lv_at hl 0 rfl) ?_
  refine lv_iload_n hx hb dL_law_690 rfl (lv_at hl 3 rfl) ?_
  refine lv_iconst (v := 4) hx hb dL_law_691 (by decide) ?_
  refine lv_iadd hx hb dL_law_692 ?_
  refine va_sld hx hb hX hbl hbA w.2.2 i4 dL_law_693 ?_
  refine resR_i C w (run_VL (As := [.int (xs (x3 + 1).toNatClampNeg), .int (xs (x3 + 2).toNatClampNeg), .int (xs (x3 + 3).toNatClampNeg), .int (xs (x3 + 4).toNatClampNeg)]) (rest := [.int v]) C w.right hl.1 (recvM0 C w.right) (c_X11_put l D ca adm τ (xs (x3 + 1).toNatClampNeg) (xs (x3 + 2).toNatClampNeg) (xs (x3 + 3).toNatClampNeg) (xs (x3 + 4).toNatClampNeg) _ (v, τ') e2) rfl rfl wl_685 wl_686 wl_687 wl_5 wl_688 hd_X11_put rfl ⟨Nat.le_of_ble_eq_true rfl, Nat.le_of_ble_eq_true rfl⟩ rfl (Nat.le_of_ble_eq_true rfl) dL_law_694 hCL) (fun H locs w => ?_)
  refine lv_icmp_eq (tgt := 1248) hx hb dL_law_697 (by decide) (fun _ => ?_) (fun c1 => absurd rfl c1)
  exact hk σ' τ' _ _ _ hR' w hl
set_option maxHeartbeats 4000000 in
set_option maxRecDepth 100000 in
theorem lc_meet (C : Cx p s m #[Value.ref b] meth c D ca (fun q => s.heap.size ≤ q) cL_law RL 4 (some .boolean)) (hX : va_X b nS xs s s.heap) (hbl : b < s.heap.size) (hCL : CL ≤ 600000 ∧ SL ≤ 7302250) (i1 : vp_in (x3 + 1) nS) (i2 : vp_in (x3 + 2) nS) (i3 : vp_in (x3 + 3) nS) (i4 : vp_in (x3 + 4) nS) (i5 : vp_in (x3 + 5) nS) (hop : Op2 Rel f_X10_meet f_X11_meet) (hk : LB Rel p l e s m below meth c D ca adc adm b x3 CL SL Q 1248) : LB Rel p l e s m below meth c D ca adc adm b x3 CL SL Q 702 := by
  intro σ τ H locs ls hR w hl
  have hx := C.1
  have hb := C.2.1
  have hbA : ¬ (fun q => s.heap.size ≤ q) b := Nat.not_le.mpr hbl
  obtain ⟨v, σ', τ', e1, e2, hR'⟩ := hop σ τ hR (xs (x3 + 1).toNatClampNeg) (xs (x3 + 2).toNatClampNeg)
  refine lv_aload_n hx hb dL_law_702 rfl (lv_at hl 1 rfl) ?_
  refine lv_aload_n hx hb dL_law_703 rfl (lv_at hl 0 rfl) ?_
  refine lv_iload_n hx hb dL_law_704 rfl (lv_at hl 3 rfl) ?_
  refine lv_iconst (v := 1) hx hb dL_law_705 (by decide) ?_
  refine lv_iadd hx hb dL_law_706 ?_
  refine va_sld hx hb hX hbl hbA w.2.2 i1 dL_law_707 ?_
  refine lv_aload_n hx hb dL_law_708 rfl (lv_at hl 0 rfl) ?_
  refine lv_iload_n hx hb dL_law_709 rfl (lv_at hl 3 rfl) ?_
  refine lv_iconst (v := 2) hx hb dL_law_710 (by decide) ?_
  refine lv_iadd hx hb dL_law_711 ?_
  refine va_sld hx hb hX hbl hbA w.2.2 i2 dL_law_712 ?_
  refine resL_i C w (run_VL (As := [.int (xs (x3 + 1).toNatClampNeg), .int (xs (x3 + 2).toNatClampNeg)]) (rest := []) C w.left hl.1 (recvC0 C w.left) (c_X10_meet l D ca adc σ (xs (x3 + 1).toNatClampNeg) (xs (x3 + 2).toNatClampNeg) _ (v, σ') e1) rfl rfl wl_689 wl_690 wl_691 wl_2 wl_692 hd_X10_meet rfl ⟨Nat.le_of_ble_eq_true rfl, Nat.le_of_ble_eq_true rfl⟩ rfl (Nat.le_of_ble_eq_true rfl) dL_law_713 hCL) (fun H locs w => ?_)
  refine lv_aload_n hx hb dL_law_716 rfl (lv_at hl 2 rfl) ?_
  refine lv_aload_n hx hb dL_law_717 rfl (lv_at hl 0 rfl) ?_
  refine lv_iload_n hx hb dL_law_718 rfl (lv_at hl 3 rfl) ?_
  refine lv_iconst (v := 1) hx hb dL_law_719 (by decide) ?_
  refine lv_iadd hx hb dL_law_720 ?_
  refine va_sld hx hb hX hbl hbA w.2.2 i1 dL_law_721 ?_
  refine lv_aload_n hx hb dL_law_722 rfl (lv_at hl 0 rfl) ?_
  refine lv_iload_n hx hb dL_law_723 rfl (lv_at hl 3 rfl) ?_
  refine lv_iconst (v := 2) hx hb dL_law_724 (by decide) ?_
  refine lv_iadd hx hb dL_law_725 ?_
  refine va_sld hx hb hX hbl hbA w.2.2 i2 dL_law_726 ?_
  refine resR_i C w (run_VL (As := [.int (xs (x3 + 1).toNatClampNeg), .int (xs (x3 + 2).toNatClampNeg)]) (rest := [.int v]) C w.right hl.1 (recvM0 C w.right) (c_X11_meet l D ca adm τ (xs (x3 + 1).toNatClampNeg) (xs (x3 + 2).toNatClampNeg) _ (v, τ') e2) rfl rfl wl_700 wl_701 wl_702 wl_5 wl_703 hd_X11_meet rfl ⟨Nat.le_of_ble_eq_true rfl, Nat.le_of_ble_eq_true rfl⟩ rfl (Nat.le_of_ble_eq_true rfl) dL_law_727 hCL) (fun H locs w => ?_)
  refine lv_icmp_eq (tgt := 1248) hx hb dL_law_730 (by decide) (fun _ => ?_) (fun c1 => absurd rfl c1)
  exact hk σ' τ' _ _ _ hR' w hl
set_option maxHeartbeats 4000000 in
set_option maxRecDepth 100000 in
theorem lc_apart (C : Cx p s m #[Value.ref b] meth c D ca (fun q => s.heap.size ≤ q) cL_law RL 4 (some .boolean)) (hX : va_X b nS xs s s.heap) (hbl : b < s.heap.size) (hCL : CL ≤ 600000 ∧ SL ≤ 7302250) (i1 : vp_in (x3 + 1) nS) (i2 : vp_in (x3 + 2) nS) (i3 : vp_in (x3 + 3) nS) (i4 : vp_in (x3 + 4) nS) (i5 : vp_in (x3 + 5) nS) (hop : Op2 Rel f_X10_apart f_X11_apart) (hk : LB Rel p l e s m below meth c D ca adc adm b x3 CL SL Q 1248) : LB Rel p l e s m below meth c D ca adc adm b x3 CL SL Q 735 := by
  intro σ τ H locs ls hR w hl
  have hx := C.1
  have hb := C.2.1
  have hbA : ¬ (fun q => s.heap.size ≤ q) b := Nat.not_le.mpr hbl
  obtain ⟨v, σ', τ', e1, e2, hR'⟩ := hop σ τ hR (xs (x3 + 1).toNatClampNeg) (xs (x3 + 2).toNatClampNeg)
  refine lv_aload_n hx hb dL_law_735 rfl (lv_at hl 1 rfl) ?_
  refine lv_aload_n hx hb dL_law_736 rfl (lv_at hl 0 rfl) ?_
  refine lv_iload_n hx hb dL_law_737 rfl (lv_at hl 3 rfl) ?_
  refine lv_iconst (v := 1) hx hb dL_law_738 (by decide) ?_
  refine lv_iadd hx hb dL_law_739 ?_
  refine va_sld hx hb hX hbl hbA w.2.2 i1 dL_law_740 ?_
  refine lv_aload_n hx hb dL_law_741 rfl (lv_at hl 0 rfl) ?_
  refine lv_iload_n hx hb dL_law_742 rfl (lv_at hl 3 rfl) ?_
  refine lv_iconst (v := 2) hx hb dL_law_743 (by decide) ?_
  refine lv_iadd hx hb dL_law_744 ?_
  refine va_sld hx hb hX hbl hbA w.2.2 i2 dL_law_745 ?_
  refine resL_i C w (run_VL (As := [.int (xs (x3 + 1).toNatClampNeg), .int (xs (x3 + 2).toNatClampNeg)]) (rest := []) C w.left hl.1 (recvC0 C w.left) (c_X10_apart l D ca adc σ (xs (x3 + 1).toNatClampNeg) (xs (x3 + 2).toNatClampNeg) _ (v, σ') e1) rfl rfl wl_713 wl_714 wl_715 wl_2 wl_716 hd_X10_apart rfl ⟨Nat.le_of_ble_eq_true rfl, Nat.le_of_ble_eq_true rfl⟩ rfl (Nat.le_of_ble_eq_true rfl) dL_law_746 hCL) (fun H locs w => ?_)
  refine lv_aload_n hx hb dL_law_749 rfl (lv_at hl 2 rfl) ?_
  refine lv_aload_n hx hb dL_law_750 rfl (lv_at hl 0 rfl) ?_
  refine lv_iload_n hx hb dL_law_751 rfl (lv_at hl 3 rfl) ?_
  refine lv_iconst (v := 1) hx hb dL_law_752 (by decide) ?_
  refine lv_iadd hx hb dL_law_753 ?_
  refine va_sld hx hb hX hbl hbA w.2.2 i1 dL_law_754 ?_
  refine lv_aload_n hx hb dL_law_755 rfl (lv_at hl 0 rfl) ?_
  refine lv_iload_n hx hb dL_law_756 rfl (lv_at hl 3 rfl) ?_
  refine lv_iconst (v := 2) hx hb dL_law_757 (by decide) ?_
  refine lv_iadd hx hb dL_law_758 ?_
  refine va_sld hx hb hX hbl hbA w.2.2 i2 dL_law_759 ?_
  refine resR_i C w (run_VL (As := [.int (xs (x3 + 1).toNatClampNeg), .int (xs (x3 + 2).toNatClampNeg)]) (rest := [.int v]) C w.right hl.1 (recvM0 C w.right) (c_X11_apart l D ca adm τ (xs (x3 + 1).toNatClampNeg) (xs (x3 + 2).toNatClampNeg) _ (v, τ') e2) rfl rfl wl_728 wl_729 wl_730 wl_5 wl_731 hd_X11_apart rfl ⟨Nat.le_of_ble_eq_true rfl, Nat.le_of_ble_eq_true rfl⟩ rfl (Nat.le_of_ble_eq_true rfl) dL_law_760 hCL) (fun H locs w => ?_)
  refine lv_icmp_eq (tgt := 1248) hx hb dL_law_763 (by decide) (fun _ => ?_) (fun c1 => absurd rfl c1)
  exact hk σ' τ' _ _ _ hR' w hl
set_option maxHeartbeats 4000000 in
set_option maxRecDepth 100000 in
theorem lc_most (C : Cx p s m #[Value.ref b] meth c D ca (fun q => s.heap.size ≤ q) cL_law RL 4 (some .boolean)) (hX : va_X b nS xs s s.heap) (hbl : b < s.heap.size) (hCL : CL ≤ 600000 ∧ SL ≤ 7302250) (i1 : vp_in (x3 + 1) nS) (i2 : vp_in (x3 + 2) nS) (i3 : vp_in (x3 + 3) nS) (i4 : vp_in (x3 + 4) nS) (i5 : vp_in (x3 + 5) nS) (hop : Op0 Rel f_X10_most f_X11_most) (hk : LB Rel p l e s m below meth c D ca adc adm b x3 CL SL Q 1248) : LB Rel p l e s m below meth c D ca adc adm b x3 CL SL Q 768 := by
  intro σ τ H locs ls hR w hl
  have hx := C.1
  have hb := C.2.1
  have hbA : ¬ (fun q => s.heap.size ≤ q) b := Nat.not_le.mpr hbl
  obtain ⟨v, σ', τ', e1, e2, hR'⟩ := hop σ τ hR 
  refine lv_aload_n hx hb dL_law_768 rfl (lv_at hl 1 rfl) ?_
  refine resL_i C w (run_VL (As := []) (rest := []) C w.left hl.1 (recvC0 C w.left) (c_X10_most l D ca adc σ  _ (v, σ') e1) rfl rfl wl_739 wl_740 wl_741 wl_2 wl_742 hd_X10_most rfl ⟨Nat.le_of_ble_eq_true rfl, Nat.le_of_ble_eq_true rfl⟩ rfl (Nat.le_of_ble_eq_true rfl) dL_law_769 hCL) (fun H locs w => ?_)
  refine lv_aload_n hx hb dL_law_772 rfl (lv_at hl 2 rfl) ?_
  refine resR_i C w (run_VL (As := []) (rest := [.int v]) C w.right hl.1 (recvM0 C w.right) (c_X11_most l D ca adm τ  _ (v, τ') e2) rfl rfl wl_755 wl_756 wl_757 wl_5 wl_758 hd_X11_most rfl ⟨Nat.le_of_ble_eq_true rfl, Nat.le_of_ble_eq_true rfl⟩ rfl (Nat.le_of_ble_eq_true rfl) dL_law_773 hCL) (fun H locs w => ?_)
  refine lv_icmp_eq (tgt := 1248) hx hb dL_law_776 (by decide) (fun _ => ?_) (fun c1 => absurd rfl c1)
  exact hk σ' τ' _ _ _ hR' w hl
set_option maxHeartbeats 4000000 in
set_option maxRecDepth 100000 in
theorem lc_note (C : Cx p s m #[Value.ref b] meth c D ca (fun q => s.heap.size ≤ q) cL_law RL 4 (some .boolean)) (hX : va_X b nS xs s s.heap) (hbl : b < s.heap.size) (hCL : CL ≤ 600000 ∧ SL ≤ 7302250) (i1 : vp_in (x3 + 1) nS) (i2 : vp_in (x3 + 2) nS) (i3 : vp_in (x3 + 3) nS) (i4 : vp_in (x3 + 4) nS) (i5 : vp_in (x3 + 5) nS) (hop : Op5 Rel f_X10_note f_X11_note) (hk : LB Rel p l e s m below meth c D ca adc adm b x3 CL SL Q 1248) : LB Rel p l e s m below meth c D ca adc adm b x3 CL SL Q 781 := by
  intro σ τ H locs ls hR w hl
  have hx := C.1
  have hb := C.2.1
  have hbA : ¬ (fun q => s.heap.size ≤ q) b := Nat.not_le.mpr hbl
  obtain ⟨v, σ', τ', e1, e2, hR'⟩ := hop σ τ hR (xs (x3 + 1).toNatClampNeg) (xs (x3 + 2).toNatClampNeg) (xs (x3 + 3).toNatClampNeg) (xs (x3 + 4).toNatClampNeg) (xs (x3 + 5).toNatClampNeg)
  refine lv_aload_n hx hb dL_law_781 rfl (lv_at hl 1 rfl) ?_
  refine lv_aload_n hx hb dL_law_782 rfl (lv_at hl 0 rfl) ?_
  refine lv_iload_n hx hb dL_law_783 rfl (lv_at hl 3 rfl) ?_
  refine lv_iconst (v := 1) hx hb dL_law_784 (by decide) ?_
  refine lv_iadd hx hb dL_law_785 ?_
  refine va_sld hx hb hX hbl hbA w.2.2 i1 dL_law_786 ?_
  refine lv_aload_n hx hb dL_law_787 rfl (lv_at hl 0 rfl) ?_
  refine lv_iload_n hx hb dL_law_788 rfl (lv_at hl 3 rfl) ?_
  refine lv_iconst (v := 2) hx hb dL_law_789 (by decide) ?_
  refine lv_iadd hx hb dL_law_790 ?_
  refine va_sld hx hb hX hbl hbA w.2.2 i2 dL_law_791 ?_
  refine lv_aload_n hx hb dL_law_792 rfl (lv_at hl 0 rfl) ?_
  refine lv_iload_n hx hb dL_law_793 rfl (lv_at hl 3 rfl) ?_
  refine lv_iconst (v := 3) hx hb dL_law_794 (by decide) ?_
  refine lv_iadd hx hb dL_law_795 ?_
  refine va_sld hx hb hX hbl hbA w.2.2 i3 dL_law_796 ?_
  refine lv_aload_n hx hb dL_law_797 rfl (lv_at hl 0 rfl) ?_
  refine lv_iload_n hx hb dL_law_798 rfl (lv_at hl 3 rfl) ?_
  refine lv_iconst (v := 4) hx hb dL_law_799 (by decide) ?_
  refine lv_iadd hx hb dL_law_800 ?_
  refine va_sld hx hb hX hbl hbA w.2.2 i4 dL_law_801 ?_
  refine lv_aload_n hx hb dL_law_802 rfl (lv_at hl 0 rfl) ?_
  refine lv_iload_n hx hb dL_law_803 rfl (lv_at hl 3 rfl) ?_
  refine lv_iconst (v := 5) hx hb dL_law_804 (by decide) ?_
  refine lv_iadd hx hb dL_law_805 ?_
  refine va_sld hx hb hX hbl hbA w.2.2 i5 dL_law_806 ?_
  refine resL_i C w (run_VL (As := [.int (xs (x3 + 1).toNatClampNeg), .int (xs (x3 + 2).toNatClampNeg), .int (xs (x3 + 3).toNatClampNeg), .int (xs (x3 + 4).toNatClampNeg), .int (xs (x3 + 5).toNatClampNeg)]) (rest := []) C w.left hl.1 (recvC0 C w.left) (c_X10_note l D ca adc σ (xs (x3 + 1).toNatClampNeg) (xs (x3 + 2).toNatClampNeg) (xs (x3 + 3).toNatClampNeg) (xs (x3 + 4).toNatClampNeg) (xs (x3 + 5).toNatClampNeg) _ (v, σ') e1) rfl rfl wl_759 wl_760 wl_761 wl_2 wl_762 hd_X10_note rfl ⟨Nat.le_of_ble_eq_true rfl, Nat.le_of_ble_eq_true rfl⟩ rfl (Nat.le_of_ble_eq_true rfl) dL_law_807 hCL) (fun H locs w => ?_)
  refine lv_aload_n hx hb dL_law_810 rfl (lv_at hl 2 rfl) ?_
  refine lv_aload_n hx hb dL_law_811 rfl (lv_at hl 0 rfl) ?_
  refine lv_iload_n hx hb dL_law_812 rfl (lv_at hl 3 rfl) ?_
  refine lv_iconst (v := 1) hx hb dL_law_813 (by decide) ?_
  refine lv_iadd hx hb dL_law_814 ?_
  refine va_sld hx hb hX hbl hbA w.2.2 i1 dL_law_815 ?_
  refine lv_aload_n hx hb dL_law_816 rfl (lv_at hl 0 rfl) ?_
  refine lv_iload_n hx hb dL_law_817 rfl (lv_at hl 3 rfl) ?_
  refine lv_iconst (v := 2) hx hb dL_law_818 (by decide) ?_
  refine lv_iadd hx hb dL_law_819 ?_
  refine va_sld hx hb hX hbl hbA w.2.2 i2 dL_law_820 ?_
  refine lv_aload_n hx hb dL_law_821 rfl (lv_at hl 0 rfl) ?_
  refine lv_iload_n hx hb dL_law_822 rfl (lv_at hl 3 rfl) ?_
  refine lv_iconst (v := 3) hx hb dL_law_823 (by decide) ?_
  refine lv_iadd hx hb dL_law_824 ?_
  refine va_sld hx hb hX hbl hbA w.2.2 i3 dL_law_825 ?_
  refine lv_aload_n hx hb dL_law_826 rfl (lv_at hl 0 rfl) ?_
  refine lv_iload_n hx hb dL_law_827 rfl (lv_at hl 3 rfl) ?_
  refine lv_iconst (v := 4) hx hb dL_law_828 (by decide) ?_
  refine lv_iadd hx hb dL_law_829 ?_
  refine va_sld hx hb hX hbl hbA w.2.2 i4 dL_law_830 ?_
  refine lv_aload_n hx hb dL_law_831 rfl (lv_at hl 0 rfl) ?_
  refine lv_iload_n hx hb dL_law_832 rfl (lv_at hl 3 rfl) ?_
  refine lv_iconst (v := 5) hx hb dL_law_833 (by decide) ?_
  refine lv_iadd hx hb dL_law_834 ?_
  refine va_sld hx hb hX hbl hbA w.2.2 i5 dL_law_835 ?_
  refine resR_i C w (run_VL (As := [.int (xs (x3 + 1).toNatClampNeg), .int (xs (x3 + 2).toNatClampNeg), .int (xs (x3 + 3).toNatClampNeg), .int (xs (x3 + 4).toNatClampNeg), .int (xs (x3 + 5).toNatClampNeg)]) (rest := [.int v]) C w.right hl.1 (recvM0 C w.right) (c_X11_note l D ca adm τ (xs (x3 + 1).toNatClampNeg) (xs (x3 + 2).toNatClampNeg) (xs (x3 + 3).toNatClampNeg) (xs (x3 + 4).toNatClampNeg) (xs (x3 + 5).toNatClampNeg) _ (v, τ') e2) rfl rfl wl_768 wl_769 wl_770 wl_5 wl_771 hd_X11_note rfl ⟨Nat.le_of_ble_eq_true rfl, Nat.le_of_ble_eq_true rfl⟩ rfl (Nat.le_of_ble_eq_true rfl) dL_law_836 hCL) (fun H locs w => ?_)
  refine lv_icmp_eq (tgt := 1248) hx hb dL_law_839 (by decide) (fun _ => ?_) (fun c1 => absurd rfl c1)
  exact hk σ' τ' _ _ _ hR' w hl
set_option maxHeartbeats 4000000 in
set_option maxRecDepth 100000 in
theorem lc_came (C : Cx p s m #[Value.ref b] meth c D ca (fun q => s.heap.size ≤ q) cL_law RL 4 (some .boolean)) (hX : va_X b nS xs s s.heap) (hbl : b < s.heap.size) (hCL : CL ≤ 600000 ∧ SL ≤ 7302250) (i1 : vp_in (x3 + 1) nS) (i2 : vp_in (x3 + 2) nS) (i3 : vp_in (x3 + 3) nS) (i4 : vp_in (x3 + 4) nS) (i5 : vp_in (x3 + 5) nS) (hop : Op3 Rel f_X10_came f_X11_came) (hk : LB Rel p l e s m below meth c D ca adc adm b x3 CL SL Q 1248) : LB Rel p l e s m below meth c D ca adc adm b x3 CL SL Q 844 := by
  intro σ τ H locs ls hR w hl
  have hx := C.1
  have hb := C.2.1
  have hbA : ¬ (fun q => s.heap.size ≤ q) b := Nat.not_le.mpr hbl
  obtain ⟨v, σ', τ', e1, e2, hR'⟩ := hop σ τ hR (xs (x3 + 1).toNatClampNeg) (xs (x3 + 2).toNatClampNeg) (xs (x3 + 3).toNatClampNeg)
  refine lv_aload_n hx hb dL_law_844 rfl (lv_at hl 1 rfl) ?_
  refine lv_aload_n hx hb dL_law_845 rfl (lv_at hl 0 rfl) ?_
  refine lv_iload_n hx hb dL_law_846 rfl (lv_at hl 3 rfl) ?_
  refine lv_iconst (v := 1) hx hb dL_law_847 (by decide) ?_
  refine lv_iadd hx hb dL_law_848 ?_
  refine va_sld hx hb hX hbl hbA w.2.2 i1 dL_law_849 ?_
  refine lv_aload_n hx hb dL_law_850 rfl (lv_at hl 0 rfl) ?_
  refine lv_iload_n hx hb dL_law_851 rfl (lv_at hl 3 rfl) ?_
  refine lv_iconst (v := 2) hx hb dL_law_852 (by decide) ?_
  refine lv_iadd hx hb dL_law_853 ?_
  refine va_sld hx hb hX hbl hbA w.2.2 i2 dL_law_854 ?_
  refine lv_aload_n hx hb dL_law_855 rfl (lv_at hl 0 rfl) ?_
  refine lv_iload_n hx hb dL_law_856 rfl (lv_at hl 3 rfl) ?_
  refine lv_iconst (v := 3) hx hb dL_law_857 (by decide) ?_
  refine lv_iadd hx hb dL_law_858 ?_
  refine va_sld hx hb hX hbl hbA w.2.2 i3 dL_law_859 ?_
  refine resL_i C w (run_VL (As := [.int (xs (x3 + 1).toNatClampNeg), .int (xs (x3 + 2).toNatClampNeg), .int (xs (x3 + 3).toNatClampNeg)]) (rest := []) C w.left hl.1 (recvC0 C w.left) (c_X10_came l D ca adc σ (xs (x3 + 1).toNatClampNeg) (xs (x3 + 2).toNatClampNeg) (xs (x3 + 3).toNatClampNeg) _ (v, σ') e1) rfl rfl wl_773 wl_774 wl_775 wl_2 wl_776 hd_X10_came rfl ⟨Nat.le_of_ble_eq_true rfl, Nat.le_of_ble_eq_true rfl⟩ rfl (Nat.le_of_ble_eq_true rfl) dL_law_860 hCL) (fun H locs w => ?_)
  refine lv_aload_n hx hb dL_law_863 rfl (lv_at hl 2 rfl) ?_
  refine lv_aload_n hx hb dL_law_864 rfl (lv_at hl 0 rfl) ?_
  refine lv_iload_n hx hb dL_law_865 rfl (lv_at hl 3 rfl) ?_
  refine lv_iconst (v := 1) hx hb dL_law_866 (by decide) ?_
  refine lv_iadd hx hb dL_law_867 ?_
  refine va_sld hx hb hX hbl hbA w.2.2 i1 dL_law_868 ?_
  refine lv_aload_n hx hb dL_law_869 rfl (lv_at hl 0 rfl) ?_
  refine lv_iload_n hx hb dL_law_870 rfl (lv_at hl 3 rfl) ?_
  refine lv_iconst (v := 2) hx hb dL_law_871 (by decide) ?_
  refine lv_iadd hx hb dL_law_872 ?_
  refine va_sld hx hb hX hbl hbA w.2.2 i2 dL_law_873 ?_
  refine lv_aload_n hx hb dL_law_874 rfl (lv_at hl 0 rfl) ?_
  refine lv_iload_n hx hb dL_law_875 rfl (lv_at hl 3 rfl) ?_
  refine lv_iconst (v := 3) hx hb dL_law_876 (by decide) ?_
  refine lv_iadd hx hb dL_law_877 ?_
  refine va_sld hx hb hX hbl hbA w.2.2 i3 dL_law_878 ?_
  refine resR_i C w (run_VL (As := [.int (xs (x3 + 1).toNatClampNeg), .int (xs (x3 + 2).toNatClampNeg), .int (xs (x3 + 3).toNatClampNeg)]) (rest := [.int v]) C w.right hl.1 (recvM0 C w.right) (c_X11_came l D ca adm τ (xs (x3 + 1).toNatClampNeg) (xs (x3 + 2).toNatClampNeg) (xs (x3 + 3).toNatClampNeg) _ (v, τ') e2) rfl rfl wl_782 wl_783 wl_784 wl_5 wl_785 hd_X11_came rfl ⟨Nat.le_of_ble_eq_true rfl, Nat.le_of_ble_eq_true rfl⟩ rfl (Nat.le_of_ble_eq_true rfl) dL_law_879 hCL) (fun H locs w => ?_)
  refine lv_icmp_eq (tgt := 1248) hx hb dL_law_882 (by decide) (fun _ => ?_) (fun c1 => absurd rfl c1)
  exact hk σ' τ' _ _ _ hR' w hl
set_option maxHeartbeats 4000000 in
set_option maxRecDepth 100000 in
theorem lc_forget (C : Cx p s m #[Value.ref b] meth c D ca (fun q => s.heap.size ≤ q) cL_law RL 4 (some .boolean)) (hX : va_X b nS xs s s.heap) (hbl : b < s.heap.size) (hCL : CL ≤ 600000 ∧ SL ≤ 7302250) (i1 : vp_in (x3 + 1) nS) (i2 : vp_in (x3 + 2) nS) (i3 : vp_in (x3 + 3) nS) (i4 : vp_in (x3 + 4) nS) (i5 : vp_in (x3 + 5) nS) (hop : Op1 Rel f_X10_forget f_X11_forget) (hk : LB Rel p l e s m below meth c D ca adc adm b x3 CL SL Q 1248) : LB Rel p l e s m below meth c D ca adc adm b x3 CL SL Q 887 := by
  intro σ τ H locs ls hR w hl
  have hx := C.1
  have hb := C.2.1
  have hbA : ¬ (fun q => s.heap.size ≤ q) b := Nat.not_le.mpr hbl
  obtain ⟨v, σ', τ', e1, e2, hR'⟩ := hop σ τ hR (xs (x3 + 1).toNatClampNeg)
  refine lv_aload_n hx hb dL_law_887 rfl (lv_at hl 1 rfl) ?_
  refine lv_aload_n hx hb dL_law_888 rfl (lv_at hl 0 rfl) ?_
  refine lv_iload_n hx hb dL_law_889 rfl (lv_at hl 3 rfl) ?_
  refine lv_iconst (v := 1) hx hb dL_law_890 (by decide) ?_
  refine lv_iadd hx hb dL_law_891 ?_
  refine va_sld hx hb hX hbl hbA w.2.2 i1 dL_law_892 ?_
  refine resL_i C w (run_VL (As := [.int (xs (x3 + 1).toNatClampNeg)]) (rest := []) C w.left hl.1 (recvC0 C w.left) (c_X10_forget l D ca adc σ (xs (x3 + 1).toNatClampNeg) _ (v, σ') e1) rfl rfl wl_786 wl_787 wl_788 wl_2 wl_789 hd_X10_forget rfl ⟨Nat.le_of_ble_eq_true rfl, Nat.le_of_ble_eq_true rfl⟩ rfl (Nat.le_of_ble_eq_true rfl) dL_law_893 hCL) (fun H locs w => ?_)
  refine lv_aload_n hx hb dL_law_896 rfl (lv_at hl 2 rfl) ?_
  refine lv_aload_n hx hb dL_law_897 rfl (lv_at hl 0 rfl) ?_
  refine lv_iload_n hx hb dL_law_898 rfl (lv_at hl 3 rfl) ?_
  refine lv_iconst (v := 1) hx hb dL_law_899 (by decide) ?_
  refine lv_iadd hx hb dL_law_900 ?_
  refine va_sld hx hb hX hbl hbA w.2.2 i1 dL_law_901 ?_
  refine resR_i C w (run_VL (As := [.int (xs (x3 + 1).toNatClampNeg)]) (rest := [.int v]) C w.right hl.1 (recvM0 C w.right) (c_X11_forget l D ca adm τ (xs (x3 + 1).toNatClampNeg) _ (v, τ') e2) rfl rfl wl_790 wl_791 wl_792 wl_5 wl_793 hd_X11_forget rfl ⟨Nat.le_of_ble_eq_true rfl, Nat.le_of_ble_eq_true rfl⟩ rfl (Nat.le_of_ble_eq_true rfl) dL_law_902 hCL) (fun H locs w => ?_)
  refine lv_icmp_eq (tgt := 1248) hx hb dL_law_905 (by decide) (fun _ => ?_) (fun c1 => absurd rfl c1)
  exact hk σ' τ' _ _ _ hR' w hl
set_option maxHeartbeats 4000000 in
set_option maxRecDepth 100000 in
theorem lc_is (C : Cx p s m #[Value.ref b] meth c D ca (fun q => s.heap.size ≤ q) cL_law RL 4 (some .boolean)) (hX : va_X b nS xs s s.heap) (hbl : b < s.heap.size) (hCL : CL ≤ 600000 ∧ SL ≤ 7302250) (i1 : vp_in (x3 + 1) nS) (i2 : vp_in (x3 + 2) nS) (i3 : vp_in (x3 + 3) nS) (i4 : vp_in (x3 + 4) nS) (i5 : vp_in (x3 + 5) nS) (hop : Op1 Rel f_X10_is f_X11_is) (hk : LB Rel p l e s m below meth c D ca adc adm b x3 CL SL Q 1248) : LB Rel p l e s m below meth c D ca adc adm b x3 CL SL Q 910 := by
  intro σ τ H locs ls hR w hl
  have hx := C.1
  have hb := C.2.1
  have hbA : ¬ (fun q => s.heap.size ≤ q) b := Nat.not_le.mpr hbl
  obtain ⟨v, σ', τ', e1, e2, hR'⟩ := hop σ τ hR (xs (x3 + 1).toNatClampNeg)
  refine lv_aload_n hx hb dL_law_910 rfl (lv_at hl 1 rfl) ?_
  refine lv_aload_n hx hb dL_law_911 rfl (lv_at hl 0 rfl) ?_
  refine lv_iload_n hx hb dL_law_912 rfl (lv_at hl 3 rfl) ?_
  refine lv_iconst (v := 1) hx hb dL_law_913 (by decide) ?_
  refine lv_iadd hx hb dL_law_914 ?_
  refine va_sld hx hb hX hbl hbA w.2.2 i1 dL_law_915 ?_
  refine resL_i C w (run_VL (As := [.int (xs (x3 + 1).toNatClampNeg)]) (rest := []) C w.left hl.1 (recvC0 C w.left) (c_X10_is l D ca adc σ (xs (x3 + 1).toNatClampNeg) _ (v, σ') e1) rfl rfl wl_794 wl_795 wl_796 wl_2 wl_797 hd_X10_is rfl ⟨Nat.le_of_ble_eq_true rfl, Nat.le_of_ble_eq_true rfl⟩ rfl (Nat.le_of_ble_eq_true rfl) dL_law_916 hCL) (fun H locs w => ?_)
  refine lv_aload_n hx hb dL_law_919 rfl (lv_at hl 2 rfl) ?_
  refine lv_aload_n hx hb dL_law_920 rfl (lv_at hl 0 rfl) ?_
  refine lv_iload_n hx hb dL_law_921 rfl (lv_at hl 3 rfl) ?_
  refine lv_iconst (v := 1) hx hb dL_law_922 (by decide) ?_
  refine lv_iadd hx hb dL_law_923 ?_
  refine va_sld hx hb hX hbl hbA w.2.2 i1 dL_law_924 ?_
  refine resR_i C w (run_VL (As := [.int (xs (x3 + 1).toNatClampNeg)]) (rest := [.int v]) C w.right hl.1 (recvM0 C w.right) (c_X11_is l D ca adm τ (xs (x3 + 1).toNatClampNeg) _ (v, τ') e2) rfl rfl wl_807 wl_808 wl_809 wl_5 wl_810 hd_X11_is rfl ⟨Nat.le_of_ble_eq_true rfl, Nat.le_of_ble_eq_true rfl⟩ rfl (Nat.le_of_ble_eq_true rfl) dL_law_925 hCL) (fun H locs w => ?_)
  refine lv_icmp_eq (tgt := 1248) hx hb dL_law_928 (by decide) (fun _ => ?_) (fun c1 => absurd rfl c1)
  exact hk σ' τ' _ _ _ hR' w hl
set_option maxHeartbeats 4000000 in
set_option maxRecDepth 100000 in
theorem lc_next (C : Cx p s m #[Value.ref b] meth c D ca (fun q => s.heap.size ≤ q) cL_law RL 4 (some .boolean)) (hX : va_X b nS xs s s.heap) (hbl : b < s.heap.size) (hCL : CL ≤ 600000 ∧ SL ≤ 7302250) (i1 : vp_in (x3 + 1) nS) (i2 : vp_in (x3 + 2) nS) (i3 : vp_in (x3 + 3) nS) (i4 : vp_in (x3 + 4) nS) (i5 : vp_in (x3 + 5) nS) (hop : Op1 Rel f_X10_next f_X11_next) (hk : LB Rel p l e s m below meth c D ca adc adm b x3 CL SL Q 1248) : LB Rel p l e s m below meth c D ca adc adm b x3 CL SL Q 933 := by
  intro σ τ H locs ls hR w hl
  have hx := C.1
  have hb := C.2.1
  have hbA : ¬ (fun q => s.heap.size ≤ q) b := Nat.not_le.mpr hbl
  obtain ⟨v, σ', τ', e1, e2, hR'⟩ := hop σ τ hR (xs (x3 + 1).toNatClampNeg)
  refine lv_aload_n hx hb dL_law_933 rfl (lv_at hl 1 rfl) ?_
  refine lv_aload_n hx hb dL_law_934 rfl (lv_at hl 0 rfl) ?_
  refine lv_iload_n hx hb dL_law_935 rfl (lv_at hl 3 rfl) ?_
  refine lv_iconst (v := 1) hx hb dL_law_936 (by decide) ?_
  refine lv_iadd hx hb dL_law_937 ?_
  refine va_sld hx hb hX hbl hbA w.2.2 i1 dL_law_938 ?_
  refine resL_i C w (run_VL (As := [.int (xs (x3 + 1).toNatClampNeg)]) (rest := []) C w.left hl.1 (recvC0 C w.left) (c_X10_next l D ca adc σ (xs (x3 + 1).toNatClampNeg) _ (v, σ') e1) rfl rfl wl_815 wl_816 wl_817 wl_2 wl_818 hd_X10_next rfl ⟨Nat.le_of_ble_eq_true rfl, Nat.le_of_ble_eq_true rfl⟩ rfl (Nat.le_of_ble_eq_true rfl) dL_law_939 hCL) (fun H locs w => ?_)
  refine lv_aload_n hx hb dL_law_942 rfl (lv_at hl 2 rfl) ?_
  refine lv_aload_n hx hb dL_law_943 rfl (lv_at hl 0 rfl) ?_
  refine lv_iload_n hx hb dL_law_944 rfl (lv_at hl 3 rfl) ?_
  refine lv_iconst (v := 1) hx hb dL_law_945 (by decide) ?_
  refine lv_iadd hx hb dL_law_946 ?_
  refine va_sld hx hb hX hbl hbA w.2.2 i1 dL_law_947 ?_
  refine resR_i C w (run_VL (As := [.int (xs (x3 + 1).toNatClampNeg)]) (rest := [.int v]) C w.right hl.1 (recvM0 C w.right) (c_X11_next l D ca adm τ (xs (x3 + 1).toNatClampNeg) _ (v, τ') e2) rfl rfl wl_826 wl_827 wl_828 wl_5 wl_829 hd_X11_next rfl ⟨Nat.le_of_ble_eq_true rfl, Nat.le_of_ble_eq_true rfl⟩ rfl (Nat.le_of_ble_eq_true rfl) dL_law_948 hCL) (fun H locs w => ?_)
  refine lv_icmp_eq (tgt := 1248) hx hb dL_law_951 (by decide) (fun _ => ?_) (fun c1 => absurd rfl c1)
  exact hk σ' τ' _ _ _ hR' w hl
set_option maxHeartbeats 4000000 in
set_option maxRecDepth 100000 in
theorem lc_first (C : Cx p s m #[Value.ref b] meth c D ca (fun q => s.heap.size ≤ q) cL_law RL 4 (some .boolean)) (hX : va_X b nS xs s s.heap) (hbl : b < s.heap.size) (hCL : CL ≤ 600000 ∧ SL ≤ 7302250) (i1 : vp_in (x3 + 1) nS) (i2 : vp_in (x3 + 2) nS) (i3 : vp_in (x3 + 3) nS) (i4 : vp_in (x3 + 4) nS) (i5 : vp_in (x3 + 5) nS) (hop : Op1 Rel f_X10_first f_X11_first) (hk : LB Rel p l e s m below meth c D ca adc adm b x3 CL SL Q 1248) : LB Rel p l e s m below meth c D ca adc adm b x3 CL SL Q 956 := by
  intro σ τ H locs ls hR w hl
  have hx := C.1
  have hb := C.2.1
  have hbA : ¬ (fun q => s.heap.size ≤ q) b := Nat.not_le.mpr hbl
  obtain ⟨v, σ', τ', e1, e2, hR'⟩ := hop σ τ hR (xs (x3 + 1).toNatClampNeg)
  refine lv_aload_n hx hb dL_law_956 rfl (lv_at hl 1 rfl) ?_
  refine lv_aload_n hx hb dL_law_957 rfl (lv_at hl 0 rfl) ?_
  refine lv_iload_n hx hb dL_law_958 rfl (lv_at hl 3 rfl) ?_
  refine lv_iconst (v := 1) hx hb dL_law_959 (by decide) ?_
  refine lv_iadd hx hb dL_law_960 ?_
  refine va_sld hx hb hX hbl hbA w.2.2 i1 dL_law_961 ?_
  refine resL_i C w (run_VL (As := [.int (xs (x3 + 1).toNatClampNeg)]) (rest := []) C w.left hl.1 (recvC0 C w.left) (c_X10_first l D ca adc σ (xs (x3 + 1).toNatClampNeg) _ (v, σ') e1) rfl rfl wl_834 wl_835 wl_836 wl_2 wl_837 hd_X10_first rfl ⟨Nat.le_of_ble_eq_true rfl, Nat.le_of_ble_eq_true rfl⟩ rfl (Nat.le_of_ble_eq_true rfl) dL_law_962 hCL) (fun H locs w => ?_)
  refine lv_aload_n hx hb dL_law_965 rfl (lv_at hl 2 rfl) ?_
  refine lv_aload_n hx hb dL_law_966 rfl (lv_at hl 0 rfl) ?_
  refine lv_iload_n hx hb dL_law_967 rfl (lv_at hl 3 rfl) ?_
  refine lv_iconst (v := 1) hx hb dL_law_968 (by decide) ?_
  refine lv_iadd hx hb dL_law_969 ?_
  refine va_sld hx hb hX hbl hbA w.2.2 i1 dL_law_970 ?_
  refine resR_i C w (run_VL (As := [.int (xs (x3 + 1).toNatClampNeg)]) (rest := [.int v]) C w.right hl.1 (recvM0 C w.right) (c_X11_first l D ca adm τ (xs (x3 + 1).toNatClampNeg) _ (v, τ') e2) rfl rfl wl_843 wl_844 wl_845 wl_5 wl_846 hd_X11_first rfl ⟨Nat.le_of_ble_eq_true rfl, Nat.le_of_ble_eq_true rfl⟩ rfl (Nat.le_of_ble_eq_true rfl) dL_law_971 hCL) (fun H locs w => ?_)
  refine lv_icmp_eq (tgt := 1248) hx hb dL_law_974 (by decide) (fun _ => ?_) (fun c1 => absurd rfl c1)
  exact hk σ' τ' _ _ _ hR' w hl
set_option maxHeartbeats 4000000 in
set_option maxRecDepth 100000 in
theorem lc_foresters (C : Cx p s m #[Value.ref b] meth c D ca (fun q => s.heap.size ≤ q) cL_law RL 4 (some .boolean)) (hX : va_X b nS xs s s.heap) (hbl : b < s.heap.size) (hCL : CL ≤ 600000 ∧ SL ≤ 7302250) (i1 : vp_in (x3 + 1) nS) (i2 : vp_in (x3 + 2) nS) (i3 : vp_in (x3 + 3) nS) (i4 : vp_in (x3 + 4) nS) (i5 : vp_in (x3 + 5) nS) (hop : Op4 Rel f_X10_foresters f_X11_foresters) (hk : LB Rel p l e s m below meth c D ca adc adm b x3 CL SL Q 1248) : LB Rel p l e s m below meth c D ca adc adm b x3 CL SL Q 979 := by
  intro σ τ H locs ls hR w hl
  have hx := C.1
  have hb := C.2.1
  have hbA : ¬ (fun q => s.heap.size ≤ q) b := Nat.not_le.mpr hbl
  obtain ⟨v, σ', τ', e1, e2, hR'⟩ := hop σ τ hR (xs (x3 + 1).toNatClampNeg) (xs (x3 + 2).toNatClampNeg) (xs (x3 + 3).toNatClampNeg) (xs (x3 + 4).toNatClampNeg)
  refine lv_aload_n hx hb dL_law_979 rfl (lv_at hl 1 rfl) ?_
  refine lv_aload_n hx hb dL_law_980 rfl (lv_at hl 0 rfl) ?_
  refine lv_iload_n hx hb dL_law_981 rfl (lv_at hl 3 rfl) ?_
  refine lv_iconst (v := 1) hx hb dL_law_982 (by decide) ?_
  refine lv_iadd hx hb dL_law_983 ?_
  refine va_sld hx hb hX hbl hbA w.2.2 i1 dL_law_984 ?_
  refine lv_aload_n hx hb dL_law_985 rfl (lv_at hl 0 rfl) ?_
  refine lv_iload_n hx hb dL_law_986 rfl (lv_at hl 3 rfl) ?_
  refine lv_iconst (v := 2) hx hb dL_law_987 (by decide) ?_
  refine lv_iadd hx hb dL_law_988 ?_
  refine va_sld hx hb hX hbl hbA w.2.2 i2 dL_law_989 ?_
  refine lv_aload_n hx hb dL_law_990 rfl (lv_at hl 0 rfl) ?_
  refine lv_iload_n hx hb dL_law_991 rfl (lv_at hl 3 rfl) ?_
  refine lv_iconst (v := 3) hx hb dL_law_992 (by decide) ?_
  refine lv_iadd hx hb dL_law_993 ?_
  refine va_sld hx hb hX hbl hbA w.2.2 i3 dL_law_994 ?_
  refine lv_aload_n hx hb dL_law_995 rfl (lv_at hl 0 rfl) ?_
  refine lv_iload_n hx hb dL_law_996 rfl (lv_at hl 3 rfl) ?_
  refine lv_iconst (v := 4) hx hb dL_law_997 (by decide) ?_
  refine lv_iadd hx hb dL_law_998 ?_
  refine va_sld hx hb hX hbl hbA w.2.2 i4 dL_law_999 ?_
  refine resL_i C w (run_VL (As := [.int (xs (x3 + 1).toNatClampNeg), .int (xs (x3 + 2).toNatClampNeg), .int (xs (x3 + 3).toNatClampNeg), .int (xs (x3 + 4).toNatClampNeg)]) (rest := []) C w.left hl.1 (recvC0 C w.left) (c_X10_foresters l D ca adc σ (xs (x3 + 1).toNatClampNeg) (xs (x3 + 2).toNatClampNeg) (xs (x3 + 3).toNatClampNeg) (xs (x3 + 4).toNatClampNeg) _ (v, σ') e1) rfl rfl wl_851 wl_852 wl_853 wl_2 wl_854 hd_X10_foresters rfl ⟨Nat.le_of_ble_eq_true rfl, Nat.le_of_ble_eq_true rfl⟩ rfl (Nat.le_of_ble_eq_true rfl) dL_law_1000 hCL) (fun H locs w => ?_)
  refine lv_aload_n hx hb dL_law_1003 rfl (lv_at hl 2 rfl) ?_
  refine lv_aload_n hx hb dL_law_1004 rfl (lv_at hl 0 rfl) ?_
  refine lv_iload_n hx hb dL_law_1005 rfl (lv_at hl 3 rfl) ?_
  refine lv_iconst (v := 1) hx hb dL_law_1006 (by decide) ?_
  refine lv_iadd hx hb dL_law_1007 ?_
  refine va_sld hx hb hX hbl hbA w.2.2 i1 dL_law_1008 ?_
  refine lv_aload_n hx hb dL_law_1009 rfl (lv_at hl 0 rfl) ?_
  refine lv_iload_n hx hb dL_law_1010 rfl (lv_at hl 3 rfl) ?_
  refine lv_iconst (v := 2) hx hb dL_law_1011 (by decide) ?_
  refine lv_iadd hx hb dL_law_1012 ?_
  refine va_sld hx hb hX hbl hbA w.2.2 i2 dL_law_1013 ?_
  refine lv_aload_n hx hb dL_law_1014 rfl (lv_at hl 0 rfl) ?_
  refine lv_iload_n hx hb dL_law_1015 rfl (lv_at hl 3 rfl) ?_
  refine lv_iconst (v := 3) hx hb dL_law_1016 (by decide) ?_
  refine lv_iadd hx hb dL_law_1017 ?_
  refine va_sld hx hb hX hbl hbA w.2.2 i3 dL_law_1018 ?_
  refine lv_aload_n hx hb dL_law_1019 rfl (lv_at hl 0 rfl) ?_
  refine lv_iload_n hx hb dL_law_1020 rfl (lv_at hl 3 rfl) ?_
  refine lv_iconst (v := 4) hx hb dL_law_1021 (by decide) ?_
  refine lv_iadd hx hb dL_law_1022 ?_
  refine va_sld hx hb hX hbl hbA w.2.2 i4 dL_law_1023 ?_
  refine resR_i C w (run_VL (As := [.int (xs (x3 + 1).toNatClampNeg), .int (xs (x3 + 2).toNatClampNeg), .int (xs (x3 + 3).toNatClampNeg), .int (xs (x3 + 4).toNatClampNeg)]) (rest := [.int v]) C w.right hl.1 (recvM0 C w.right) (c_X11_foresters l D ca adm τ (xs (x3 + 1).toNatClampNeg) (xs (x3 + 2).toNatClampNeg) (xs (x3 + 3).toNatClampNeg) (xs (x3 + 4).toNatClampNeg) _ (v, τ') e2) rfl rfl wl_862 wl_863 wl_864 wl_5 wl_865 hd_X11_foresters rfl ⟨Nat.le_of_ble_eq_true rfl, Nat.le_of_ble_eq_true rfl⟩ rfl (Nat.le_of_ble_eq_true rfl) dL_law_1024 hCL) (fun H locs w => ?_)
  refine lv_icmp_eq (tgt := 1248) hx hb dL_law_1027 (by decide) (fun _ => ?_) (fun c1 => absurd rfl c1)
  exact hk σ' τ' _ _ _ hR' w hl
set_option maxHeartbeats 4000000 in
set_option maxRecDepth 100000 in
theorem lc_storms (C : Cx p s m #[Value.ref b] meth c D ca (fun q => s.heap.size ≤ q) cL_law RL 4 (some .boolean)) (hX : va_X b nS xs s s.heap) (hbl : b < s.heap.size) (hCL : CL ≤ 600000 ∧ SL ≤ 7302250) (i1 : vp_in (x3 + 1) nS) (i2 : vp_in (x3 + 2) nS) (i3 : vp_in (x3 + 3) nS) (i4 : vp_in (x3 + 4) nS) (i5 : vp_in (x3 + 5) nS) (hop : Op3 Rel f_X10_storms f_X11_storms) (hk : LB Rel p l e s m below meth c D ca adc adm b x3 CL SL Q 1248) : LB Rel p l e s m below meth c D ca adc adm b x3 CL SL Q 1032 := by
  intro σ τ H locs ls hR w hl
  have hx := C.1
  have hb := C.2.1
  have hbA : ¬ (fun q => s.heap.size ≤ q) b := Nat.not_le.mpr hbl
  obtain ⟨v, σ', τ', e1, e2, hR'⟩ := hop σ τ hR (xs (x3 + 1).toNatClampNeg) (xs (x3 + 2).toNatClampNeg) (xs (x3 + 3).toNatClampNeg)
  refine lv_aload_n hx hb dL_law_1032 rfl (lv_at hl 1 rfl) ?_
  refine lv_aload_n hx hb dL_law_1033 rfl (lv_at hl 0 rfl) ?_
  refine lv_iload_n hx hb dL_law_1034 rfl (lv_at hl 3 rfl) ?_
  refine lv_iconst (v := 1) hx hb dL_law_1035 (by decide) ?_
  refine lv_iadd hx hb dL_law_1036 ?_
  refine va_sld hx hb hX hbl hbA w.2.2 i1 dL_law_1037 ?_
  refine lv_aload_n hx hb dL_law_1038 rfl (lv_at hl 0 rfl) ?_
  refine lv_iload_n hx hb dL_law_1039 rfl (lv_at hl 3 rfl) ?_
  refine lv_iconst (v := 2) hx hb dL_law_1040 (by decide) ?_
  refine lv_iadd hx hb dL_law_1041 ?_
  refine va_sld hx hb hX hbl hbA w.2.2 i2 dL_law_1042 ?_
  refine lv_aload_n hx hb dL_law_1043 rfl (lv_at hl 0 rfl) ?_
  refine lv_iload_n hx hb dL_law_1044 rfl (lv_at hl 3 rfl) ?_
  refine lv_iconst (v := 3) hx hb dL_law_1045 (by decide) ?_
  refine lv_iadd hx hb dL_law_1046 ?_
  refine va_sld hx hb hX hbl hbA w.2.2 i3 dL_law_1047 ?_
  refine resL_i C w (run_VL (As := [.int (xs (x3 + 1).toNatClampNeg), .int (xs (x3 + 2).toNatClampNeg), .int (xs (x3 + 3).toNatClampNeg)]) (rest := []) C w.left hl.1 (recvC0 C w.left) (c_X10_storms l D ca adc σ (xs (x3 + 1).toNatClampNeg) (xs (x3 + 2).toNatClampNeg) (xs (x3 + 3).toNatClampNeg) _ (v, σ') e1) rfl rfl wl_866 wl_867 wl_868 wl_2 wl_869 hd_X10_storms rfl ⟨Nat.le_of_ble_eq_true rfl, Nat.le_of_ble_eq_true rfl⟩ rfl (Nat.le_of_ble_eq_true rfl) dL_law_1048 hCL) (fun H locs w => ?_)
  refine lv_aload_n hx hb dL_law_1051 rfl (lv_at hl 2 rfl) ?_
  refine lv_aload_n hx hb dL_law_1052 rfl (lv_at hl 0 rfl) ?_
  refine lv_iload_n hx hb dL_law_1053 rfl (lv_at hl 3 rfl) ?_
  refine lv_iconst (v := 1) hx hb dL_law_1054 (by decide) ?_
  refine lv_iadd hx hb dL_law_1055 ?_
  refine va_sld hx hb hX hbl hbA w.2.2 i1 dL_law_1056 ?_
  refine lv_aload_n hx hb dL_law_1057 rfl (lv_at hl 0 rfl) ?_
  refine lv_iload_n hx hb dL_law_1058 rfl (lv_at hl 3 rfl) ?_
  refine lv_iconst (v := 2) hx hb dL_law_1059 (by decide) ?_
  refine lv_iadd hx hb dL_law_1060 ?_
  refine va_sld hx hb hX hbl hbA w.2.2 i2 dL_law_1061 ?_
  refine lv_aload_n hx hb dL_law_1062 rfl (lv_at hl 0 rfl) ?_
  refine lv_iload_n hx hb dL_law_1063 rfl (lv_at hl 3 rfl) ?_
  refine lv_iconst (v := 3) hx hb dL_law_1064 (by decide) ?_
  refine lv_iadd hx hb dL_law_1065 ?_
  refine va_sld hx hb hX hbl hbA w.2.2 i3 dL_law_1066 ?_
  refine resR_i C w (run_VL (As := [.int (xs (x3 + 1).toNatClampNeg), .int (xs (x3 + 2).toNatClampNeg), .int (xs (x3 + 3).toNatClampNeg)]) (rest := [.int v]) C w.right hl.1 (recvM0 C w.right) (c_X11_storms l D ca adm τ (xs (x3 + 1).toNatClampNeg) (xs (x3 + 2).toNatClampNeg) (xs (x3 + 3).toNatClampNeg) _ (v, τ') e2) rfl rfl wl_875 wl_876 wl_877 wl_5 wl_878 hd_X11_storms rfl ⟨Nat.le_of_ble_eq_true rfl, Nat.le_of_ble_eq_true rfl⟩ rfl (Nat.le_of_ble_eq_true rfl) dL_law_1067 hCL) (fun H locs w => ?_)
  refine lv_icmp_eq (tgt := 1248) hx hb dL_law_1070 (by decide) (fun _ => ?_) (fun c1 => absurd rfl c1)
  exact hk σ' τ' _ _ _ hR' w hl
set_option maxHeartbeats 4000000 in
set_option maxRecDepth 100000 in
theorem lc_forests (C : Cx p s m #[Value.ref b] meth c D ca (fun q => s.heap.size ≤ q) cL_law RL 4 (some .boolean)) (hX : va_X b nS xs s s.heap) (hbl : b < s.heap.size) (hCL : CL ≤ 600000 ∧ SL ≤ 7302250) (i1 : vp_in (x3 + 1) nS) (i2 : vp_in (x3 + 2) nS) (i3 : vp_in (x3 + 3) nS) (i4 : vp_in (x3 + 4) nS) (i5 : vp_in (x3 + 5) nS) (hop : Op3 Rel f_X10_forests f_X11_forests) (hk : LB Rel p l e s m below meth c D ca adc adm b x3 CL SL Q 1248) : LB Rel p l e s m below meth c D ca adc adm b x3 CL SL Q 1075 := by
  intro σ τ H locs ls hR w hl
  have hx := C.1
  have hb := C.2.1
  have hbA : ¬ (fun q => s.heap.size ≤ q) b := Nat.not_le.mpr hbl
  obtain ⟨v, σ', τ', e1, e2, hR'⟩ := hop σ τ hR (xs (x3 + 1).toNatClampNeg) (xs (x3 + 2).toNatClampNeg) (xs (x3 + 3).toNatClampNeg)
  refine lv_aload_n hx hb dL_law_1075 rfl (lv_at hl 1 rfl) ?_
  refine lv_aload_n hx hb dL_law_1076 rfl (lv_at hl 0 rfl) ?_
  refine lv_iload_n hx hb dL_law_1077 rfl (lv_at hl 3 rfl) ?_
  refine lv_iconst (v := 1) hx hb dL_law_1078 (by decide) ?_
  refine lv_iadd hx hb dL_law_1079 ?_
  refine va_sld hx hb hX hbl hbA w.2.2 i1 dL_law_1080 ?_
  refine lv_aload_n hx hb dL_law_1081 rfl (lv_at hl 0 rfl) ?_
  refine lv_iload_n hx hb dL_law_1082 rfl (lv_at hl 3 rfl) ?_
  refine lv_iconst (v := 2) hx hb dL_law_1083 (by decide) ?_
  refine lv_iadd hx hb dL_law_1084 ?_
  refine va_sld hx hb hX hbl hbA w.2.2 i2 dL_law_1085 ?_
  refine lv_aload_n hx hb dL_law_1086 rfl (lv_at hl 0 rfl) ?_
  refine lv_iload_n hx hb dL_law_1087 rfl (lv_at hl 3 rfl) ?_
  refine lv_iconst (v := 3) hx hb dL_law_1088 (by decide) ?_
  refine lv_iadd hx hb dL_law_1089 ?_
  refine va_sld hx hb hX hbl hbA w.2.2 i3 dL_law_1090 ?_
  refine resL_i C w (run_VL (As := [.int (xs (x3 + 1).toNatClampNeg), .int (xs (x3 + 2).toNatClampNeg), .int (xs (x3 + 3).toNatClampNeg)]) (rest := []) C w.left hl.1 (recvC0 C w.left) (c_X10_forests l D ca adc σ (xs (x3 + 1).toNatClampNeg) (xs (x3 + 2).toNatClampNeg) (xs (x3 + 3).toNatClampNeg) _ (v, σ') e1) rfl rfl wl_885 wl_886 wl_887 wl_2 wl_888 hd_X10_forests rfl ⟨Nat.le_of_ble_eq_true rfl, Nat.le_of_ble_eq_true rfl⟩ rfl (Nat.le_of_ble_eq_true rfl) dL_law_1091 hCL) (fun H locs w => ?_)
  refine lv_aload_n hx hb dL_law_1094 rfl (lv_at hl 2 rfl) ?_
  refine lv_aload_n hx hb dL_law_1095 rfl (lv_at hl 0 rfl) ?_
  refine lv_iload_n hx hb dL_law_1096 rfl (lv_at hl 3 rfl) ?_
  refine lv_iconst (v := 1) hx hb dL_law_1097 (by decide) ?_
  refine lv_iadd hx hb dL_law_1098 ?_
  refine va_sld hx hb hX hbl hbA w.2.2 i1 dL_law_1099 ?_
  refine lv_aload_n hx hb dL_law_1100 rfl (lv_at hl 0 rfl) ?_
  refine lv_iload_n hx hb dL_law_1101 rfl (lv_at hl 3 rfl) ?_
  refine lv_iconst (v := 2) hx hb dL_law_1102 (by decide) ?_
  refine lv_iadd hx hb dL_law_1103 ?_
  refine va_sld hx hb hX hbl hbA w.2.2 i2 dL_law_1104 ?_
  refine lv_aload_n hx hb dL_law_1105 rfl (lv_at hl 0 rfl) ?_
  refine lv_iload_n hx hb dL_law_1106 rfl (lv_at hl 3 rfl) ?_
  refine lv_iconst (v := 3) hx hb dL_law_1107 (by decide) ?_
  refine lv_iadd hx hb dL_law_1108 ?_
  refine va_sld hx hb hX hbl hbA w.2.2 i3 dL_law_1109 ?_
  refine resR_i C w (run_VL (As := [.int (xs (x3 + 1).toNatClampNeg), .int (xs (x3 + 2).toNatClampNeg), .int (xs (x3 + 3).toNatClampNeg)]) (rest := [.int v]) C w.right hl.1 (recvM0 C w.right) (c_X11_forests l D ca adm τ (xs (x3 + 1).toNatClampNeg) (xs (x3 + 2).toNatClampNeg) (xs (x3 + 3).toNatClampNeg) _ (v, τ') e2) rfl rfl wl_897 wl_898 wl_899 wl_5 wl_900 hd_X11_forests rfl ⟨Nat.le_of_ble_eq_true rfl, Nat.le_of_ble_eq_true rfl⟩ rfl (Nat.le_of_ble_eq_true rfl) dL_law_1110 hCL) (fun H locs w => ?_)
  refine lv_icmp_eq (tgt := 1248) hx hb dL_law_1113 (by decide) (fun _ => ?_) (fun c1 => absurd rfl c1)
  exact hk σ' τ' _ _ _ hR' w hl
set_option maxHeartbeats 4000000 in
set_option maxRecDepth 100000 in
theorem lc_part (C : Cx p s m #[Value.ref b] meth c D ca (fun q => s.heap.size ≤ q) cL_law RL 4 (some .boolean)) (hX : va_X b nS xs s s.heap) (hbl : b < s.heap.size) (hCL : CL ≤ 600000 ∧ SL ≤ 7302250) (i1 : vp_in (x3 + 1) nS) (i2 : vp_in (x3 + 2) nS) (i3 : vp_in (x3 + 3) nS) (i4 : vp_in (x3 + 4) nS) (i5 : vp_in (x3 + 5) nS) (hop : OpL1 Rel f_X10_part f_X11_part) (hk : LB Rel p l e s m below meth c D ca adc adm b x3 CL SL Q 1248) : LB Rel p l e s m below meth c D ca adc adm b x3 CL SL Q 1118 := by
  intro σ τ H locs ls hR w hl
  have hx := C.1
  have hb := C.2.1
  have hbA : ¬ (fun q => s.heap.size ≤ q) b := Nat.not_le.mpr hbl
  obtain ⟨v, σ', τ', e1, e2, hR'⟩ := hop σ τ hR (xs (x3 + 1).toNatClampNeg)
  refine lv_aload_n hx hb dL_law_1118 rfl (lv_at hl 1 rfl) ?_
  refine lv_aload_n hx hb dL_law_1119 rfl (lv_at hl 0 rfl) ?_
  refine lv_iload_n hx hb dL_law_1120 rfl (lv_at hl 3 rfl) ?_
  refine lv_iconst (v := 1) hx hb dL_law_1121 (by decide) ?_
  refine lv_iadd hx hb dL_law_1122 ?_
  refine va_sld hx hb hX hbl hbA w.2.2 i1 dL_law_1123 ?_
  refine resL_l C w (run_VL (As := [.int (xs (x3 + 1).toNatClampNeg)]) (rest := []) C w.left hl.1 (recvC0 C w.left) (c_X10_part l D ca adc σ (xs (x3 + 1).toNatClampNeg) _ (v, σ') e1) rfl rfl wl_906 wl_907 wl_908 wl_2 wl_909 hd_X10_part rfl ⟨Nat.le_of_ble_eq_true rfl, Nat.le_of_ble_eq_true rfl⟩ rfl (Nat.le_of_ble_eq_true rfl) dL_law_1124 hCL) (fun H locs w => ?_)
  refine lv_aload_n hx hb dL_law_1127 rfl (lv_at hl 2 rfl) ?_
  refine lv_aload_n hx hb dL_law_1128 rfl (lv_at hl 0 rfl) ?_
  refine lv_iload_n hx hb dL_law_1129 rfl (lv_at hl 3 rfl) ?_
  refine lv_iconst (v := 1) hx hb dL_law_1130 (by decide) ?_
  refine lv_iadd hx hb dL_law_1131 ?_
  refine va_sld hx hb hX hbl hbA w.2.2 i1 dL_law_1132 ?_
  refine resR_l C w (run_VL (As := [.int (xs (x3 + 1).toNatClampNeg)]) (rest := [.long v]) C w.right hl.1 (recvM0 C w.right) (c_X11_part l D ca adm τ (xs (x3 + 1).toNatClampNeg) _ (v, τ') e2) rfl rfl wl_910 wl_911 wl_912 wl_5 wl_913 hd_X11_part rfl ⟨Nat.le_of_ble_eq_true rfl, Nat.le_of_ble_eq_true rfl⟩ rfl (Nat.le_of_ble_eq_true rfl) dL_law_1133 hCL) (fun H locs w => ?_)
  refine W.lcmp hx hb dL_law_1136 ?_
  refine lv_if_eq (tgt := 1248) hx hb dL_law_1137 (by decide) (fun _ => ?_) (fun c1 => absurd (by simp [lg_cmp]) c1)
  exact hk σ' τ' _ _ _ hR' w hl
set_option maxHeartbeats 4000000 in
set_option maxRecDepth 100000 in
theorem lc_image (C : Cx p s m #[Value.ref b] meth c D ca (fun q => s.heap.size ≤ q) cL_law RL 4 (some .boolean)) (hX : va_X b nS xs s s.heap) (hbl : b < s.heap.size) (hCL : CL ≤ 600000 ∧ SL ≤ 7302250) (i1 : vp_in (x3 + 1) nS) (i2 : vp_in (x3 + 2) nS) (i3 : vp_in (x3 + 3) nS) (i4 : vp_in (x3 + 4) nS) (i5 : vp_in (x3 + 5) nS) (hop : Op1 Rel f_X10_image f_X11_image) (hk : LB Rel p l e s m below meth c D ca adc adm b x3 CL SL Q 1248) : LB Rel p l e s m below meth c D ca adc adm b x3 CL SL Q 1142 := by
  intro σ τ H locs ls hR w hl
  have hx := C.1
  have hb := C.2.1
  have hbA : ¬ (fun q => s.heap.size ≤ q) b := Nat.not_le.mpr hbl
  obtain ⟨v, σ', τ', e1, e2, hR'⟩ := hop σ τ hR (xs (x3 + 1).toNatClampNeg)
  refine lv_aload_n hx hb dL_law_1142 rfl (lv_at hl 1 rfl) ?_
  refine lv_aload_n hx hb dL_law_1143 rfl (lv_at hl 0 rfl) ?_
  refine lv_iload_n hx hb dL_law_1144 rfl (lv_at hl 3 rfl) ?_
  refine lv_iconst (v := 1) hx hb dL_law_1145 (by decide) ?_
  refine lv_iadd hx hb dL_law_1146 ?_
  refine va_sld hx hb hX hbl hbA w.2.2 i1 dL_law_1147 ?_
  refine resL_i C w (run_VL (As := [.int (xs (x3 + 1).toNatClampNeg)]) (rest := []) C w.left hl.1 (recvC0 C w.left) (c_X10_image l D ca adc σ (xs (x3 + 1).toNatClampNeg) _ (v, σ') e1) rfl rfl wl_914 wl_915 wl_916 wl_2 wl_917 hd_X10_image rfl ⟨Nat.le_of_ble_eq_true rfl, Nat.le_of_ble_eq_true rfl⟩ rfl (Nat.le_of_ble_eq_true rfl) dL_law_1148 hCL) (fun H locs w => ?_)
  refine lv_aload_n hx hb dL_law_1151 rfl (lv_at hl 2 rfl) ?_
  refine lv_aload_n hx hb dL_law_1152 rfl (lv_at hl 0 rfl) ?_
  refine lv_iload_n hx hb dL_law_1153 rfl (lv_at hl 3 rfl) ?_
  refine lv_iconst (v := 1) hx hb dL_law_1154 (by decide) ?_
  refine lv_iadd hx hb dL_law_1155 ?_
  refine va_sld hx hb hX hbl hbA w.2.2 i1 dL_law_1156 ?_
  refine resR_i C w (run_VL (As := [.int (xs (x3 + 1).toNatClampNeg)]) (rest := [.int v]) C w.right hl.1 (recvM0 C w.right) (c_X11_image l D ca adm τ (xs (x3 + 1).toNatClampNeg) _ (v, τ') e2) rfl rfl wl_918 wl_919 wl_920 wl_5 wl_921 hd_X11_image rfl ⟨Nat.le_of_ble_eq_true rfl, Nat.le_of_ble_eq_true rfl⟩ rfl (Nat.le_of_ble_eq_true rfl) dL_law_1157 hCL) (fun H locs w => ?_)
  refine lv_icmp_eq (tgt := 1248) hx hb dL_law_1160 (by decide) (fun _ => ?_) (fun c1 => absurd rfl c1)
  exact hk σ' τ' _ _ _ hR' w hl
set_option maxHeartbeats 4000000 in
set_option maxRecDepth 100000 in
theorem lc_from (C : Cx p s m #[Value.ref b] meth c D ca (fun q => s.heap.size ≤ q) cL_law RL 4 (some .boolean)) (hX : va_X b nS xs s s.heap) (hbl : b < s.heap.size) (hCL : CL ≤ 600000 ∧ SL ≤ 7302250) (i1 : vp_in (x3 + 1) nS) (i2 : vp_in (x3 + 2) nS) (i3 : vp_in (x3 + 3) nS) (i4 : vp_in (x3 + 4) nS) (i5 : vp_in (x3 + 5) nS) (hop : Op1 Rel f_X10_from f_X11_from) (hk : LB Rel p l e s m below meth c D ca adc adm b x3 CL SL Q 1248) : LB Rel p l e s m below meth c D ca adc adm b x3 CL SL Q 1165 := by
  intro σ τ H locs ls hR w hl
  have hx := C.1
  have hb := C.2.1
  have hbA : ¬ (fun q => s.heap.size ≤ q) b := Nat.not_le.mpr hbl
  obtain ⟨v, σ', τ', e1, e2, hR'⟩ := hop σ τ hR (xs (x3 + 1).toNatClampNeg)
  refine lv_aload_n hx hb dL_law_1165 rfl (lv_at hl 1 rfl) ?_
  refine lv_aload_n hx hb dL_law_1166 rfl (lv_at hl 0 rfl) ?_
  refine lv_iload_n hx hb dL_law_1167 rfl (lv_at hl 3 rfl) ?_
  refine lv_iconst (v := 1) hx hb dL_law_1168 (by decide) ?_
  refine lv_iadd hx hb dL_law_1169 ?_
  refine va_sld hx hb hX hbl hbA w.2.2 i1 dL_law_1170 ?_
  refine resL_i C w (run_VL (As := [.int (xs (x3 + 1).toNatClampNeg)]) (rest := []) C w.left hl.1 (recvC0 C w.left) (c_X10_from l D ca adc σ (xs (x3 + 1).toNatClampNeg) _ (v, σ') e1) rfl rfl wl_922 wl_923 wl_924 wl_2 wl_925 hd_X10_from rfl ⟨Nat.le_of_ble_eq_true rfl, Nat.le_of_ble_eq_true rfl⟩ rfl (Nat.le_of_ble_eq_true rfl) dL_law_1171 hCL) (fun H locs w => ?_)
  refine lv_aload_n hx hb dL_law_1174 rfl (lv_at hl 2 rfl) ?_
  refine lv_aload_n hx hb dL_law_1175 rfl (lv_at hl 0 rfl) ?_
  refine lv_iload_n hx hb dL_law_1176 rfl (lv_at hl 3 rfl) ?_
  refine lv_iconst (v := 1) hx hb dL_law_1177 (by decide) ?_
  refine lv_iadd hx hb dL_law_1178 ?_
  refine va_sld hx hb hX hbl hbA w.2.2 i1 dL_law_1179 ?_
  refine resR_i C w (run_VL (As := [.int (xs (x3 + 1).toNatClampNeg)]) (rest := [.int v]) C w.right hl.1 (recvM0 C w.right) (c_X11_from l D ca adm τ (xs (x3 + 1).toNatClampNeg) _ (v, τ') e2) rfl rfl wl_926 wl_927 wl_928 wl_5 wl_929 hd_X11_from rfl ⟨Nat.le_of_ble_eq_true rfl, Nat.le_of_ble_eq_true rfl⟩ rfl (Nat.le_of_ble_eq_true rfl) dL_law_1180 hCL) (fun H locs w => ?_)
  refine lv_icmp_eq (tgt := 1248) hx hb dL_law_1183 (by decide) (fun _ => ?_) (fun c1 => absurd rfl c1)
  exact hk σ' τ' _ _ _ hR' w hl
set_option maxHeartbeats 4000000 in
set_option maxRecDepth 100000 in
theorem lc_status (C : Cx p s m #[Value.ref b] meth c D ca (fun q => s.heap.size ≤ q) cL_law RL 4 (some .boolean)) (hX : va_X b nS xs s s.heap) (hbl : b < s.heap.size) (hCL : CL ≤ 600000 ∧ SL ≤ 7302250) (i1 : vp_in (x3 + 1) nS) (i2 : vp_in (x3 + 2) nS) (i3 : vp_in (x3 + 3) nS) (i4 : vp_in (x3 + 4) nS) (i5 : vp_in (x3 + 5) nS) (hop : Op1 Rel f_X10_status f_X11_status) (hk : LB Rel p l e s m below meth c D ca adc adm b x3 CL SL Q 1248) : LB Rel p l e s m below meth c D ca adc adm b x3 CL SL Q 1188 := by
  intro σ τ H locs ls hR w hl
  have hx := C.1
  have hb := C.2.1
  have hbA : ¬ (fun q => s.heap.size ≤ q) b := Nat.not_le.mpr hbl
  obtain ⟨v, σ', τ', e1, e2, hR'⟩ := hop σ τ hR (xs (x3 + 1).toNatClampNeg)
  refine lv_aload_n hx hb dL_law_1188 rfl (lv_at hl 1 rfl) ?_
  refine lv_aload_n hx hb dL_law_1189 rfl (lv_at hl 0 rfl) ?_
  refine lv_iload_n hx hb dL_law_1190 rfl (lv_at hl 3 rfl) ?_
  refine lv_iconst (v := 1) hx hb dL_law_1191 (by decide) ?_
  refine lv_iadd hx hb dL_law_1192 ?_
  refine va_sld hx hb hX hbl hbA w.2.2 i1 dL_law_1193 ?_
  refine resL_i C w (run_VL (As := [.int (xs (x3 + 1).toNatClampNeg)]) (rest := []) C w.left hl.1 (recvC0 C w.left) (c_X10_status l D ca adc σ (xs (x3 + 1).toNatClampNeg) _ (v, σ') e1) rfl rfl wl_930 wl_931 wl_932 wl_2 wl_933 hd_X10_status rfl ⟨Nat.le_of_ble_eq_true rfl, Nat.le_of_ble_eq_true rfl⟩ rfl (Nat.le_of_ble_eq_true rfl) dL_law_1194 hCL) (fun H locs w => ?_)
  refine lv_aload_n hx hb dL_law_1197 rfl (lv_at hl 2 rfl) ?_
  refine lv_aload_n hx hb dL_law_1198 rfl (lv_at hl 0 rfl) ?_
  refine lv_iload_n hx hb dL_law_1199 rfl (lv_at hl 3 rfl) ?_
  refine lv_iconst (v := 1) hx hb dL_law_1200 (by decide) ?_
  refine lv_iadd hx hb dL_law_1201 ?_
  refine va_sld hx hb hX hbl hbA w.2.2 i1 dL_law_1202 ?_
  refine resR_i C w (run_VL (As := [.int (xs (x3 + 1).toNatClampNeg)]) (rest := [.int v]) C w.right hl.1 (recvM0 C w.right) (c_X11_status l D ca adm τ (xs (x3 + 1).toNatClampNeg) _ (v, τ') e2) rfl rfl wl_934 wl_935 wl_936 wl_5 wl_937 hd_X11_status rfl ⟨Nat.le_of_ble_eq_true rfl, Nat.le_of_ble_eq_true rfl⟩ rfl (Nat.le_of_ble_eq_true rfl) dL_law_1203 hCL) (fun H locs w => ?_)
  refine lv_icmp_eq (tgt := 1248) hx hb dL_law_1206 (by decide) (fun _ => ?_) (fun c1 => absurd rfl c1)
  exact hk σ' τ' _ _ _ hR' w hl
set_option maxHeartbeats 4000000 in
set_option maxRecDepth 100000 in
theorem lc_count (C : Cx p s m #[Value.ref b] meth c D ca (fun q => s.heap.size ≤ q) cL_law RL 4 (some .boolean)) (hX : va_X b nS xs s s.heap) (hbl : b < s.heap.size) (hCL : CL ≤ 600000 ∧ SL ≤ 7302250) (i1 : vp_in (x3 + 1) nS) (i2 : vp_in (x3 + 2) nS) (i3 : vp_in (x3 + 3) nS) (i4 : vp_in (x3 + 4) nS) (i5 : vp_in (x3 + 5) nS) (hop : Op1 Rel f_X10_count f_X11_count) (hk : LB Rel p l e s m below meth c D ca adc adm b x3 CL SL Q 1248) : LB Rel p l e s m below meth c D ca adc adm b x3 CL SL Q 1211 := by
  intro σ τ H locs ls hR w hl
  have hx := C.1
  have hb := C.2.1
  have hbA : ¬ (fun q => s.heap.size ≤ q) b := Nat.not_le.mpr hbl
  obtain ⟨v, σ', τ', e1, e2, hR'⟩ := hop σ τ hR (xs (x3 + 1).toNatClampNeg)
  refine lv_aload_n hx hb dL_law_1211 rfl (lv_at hl 1 rfl) ?_
  refine lv_aload_n hx hb dL_law_1212 rfl (lv_at hl 0 rfl) ?_
  refine lv_iload_n hx hb dL_law_1213 rfl (lv_at hl 3 rfl) ?_
  refine lv_iconst (v := 1) hx hb dL_law_1214 (by decide) ?_
  refine lv_iadd hx hb dL_law_1215 ?_
  refine va_sld hx hb hX hbl hbA w.2.2 i1 dL_law_1216 ?_
  refine resL_i C w (run_VL (As := [.int (xs (x3 + 1).toNatClampNeg)]) (rest := []) C w.left hl.1 (recvC0 C w.left) (c_X10_count l D ca adc σ (xs (x3 + 1).toNatClampNeg) _ (v, σ') e1) rfl rfl wl_938 wl_939 wl_940 wl_2 wl_941 hd_X10_count rfl ⟨Nat.le_of_ble_eq_true rfl, Nat.le_of_ble_eq_true rfl⟩ rfl (Nat.le_of_ble_eq_true rfl) dL_law_1217 hCL) (fun H locs w => ?_)
  refine lv_aload_n hx hb dL_law_1220 rfl (lv_at hl 2 rfl) ?_
  refine lv_aload_n hx hb dL_law_1221 rfl (lv_at hl 0 rfl) ?_
  refine lv_iload_n hx hb dL_law_1222 rfl (lv_at hl 3 rfl) ?_
  refine lv_iconst (v := 1) hx hb dL_law_1223 (by decide) ?_
  refine lv_iadd hx hb dL_law_1224 ?_
  refine va_sld hx hb hX hbl hbA w.2.2 i1 dL_law_1225 ?_
  refine resR_i C w (run_VL (As := [.int (xs (x3 + 1).toNatClampNeg)]) (rest := [.int v]) C w.right hl.1 (recvM0 C w.right) (c_X11_count l D ca adm τ (xs (x3 + 1).toNatClampNeg) _ (v, τ') e2) rfl rfl wl_952 wl_953 wl_954 wl_5 wl_955 hd_X11_count rfl ⟨Nat.le_of_ble_eq_true rfl, Nat.le_of_ble_eq_true rfl⟩ rfl (Nat.le_of_ble_eq_true rfl) dL_law_1226 hCL) (fun H locs w => ?_)
  refine lv_icmp_eq (tgt := 1248) hx hb dL_law_1229 (by decide) (fun _ => ?_) (fun c1 => absurd rfl c1)
  exact hk σ' τ' _ _ _ hR' w hl
set_option maxHeartbeats 4000000 in
set_option maxRecDepth 100000 in
theorem lc_digest (C : Cx p s m #[Value.ref b] meth c D ca (fun q => s.heap.size ≤ q) cL_law RL 4 (some .boolean)) (hX : va_X b nS xs s s.heap) (hbl : b < s.heap.size) (hCL : CL ≤ 600000 ∧ SL ≤ 7302250) (i1 : vp_in (x3 + 1) nS) (i2 : vp_in (x3 + 2) nS) (i3 : vp_in (x3 + 3) nS) (i4 : vp_in (x3 + 4) nS) (i5 : vp_in (x3 + 5) nS) (hop : OpL0 Rel f_X10_digest f_X11_digest) (hk : LB Rel p l e s m below meth c D ca adc adm b x3 CL SL Q 1248) : LB Rel p l e s m below meth c D ca adc adm b x3 CL SL Q 1234 := by
  intro σ τ H locs ls hR w hl
  have hx := C.1
  have hb := C.2.1
  have hbA : ¬ (fun q => s.heap.size ≤ q) b := Nat.not_le.mpr hbl
  obtain ⟨v, σ', τ', e1, e2, hR'⟩ := hop σ τ hR 
  refine lv_aload_n hx hb dL_law_1234 rfl (lv_at hl 1 rfl) ?_
  refine resL_l C w (run_VL (As := []) (rest := []) C w.left hl.1 (recvC0 C w.left) (c_X10_digest l D ca adc σ  _ (v, σ') e1) rfl rfl wl_965 wl_966 wl_967 wl_2 wl_968 hd_X10_digest rfl ⟨Nat.le_of_ble_eq_true rfl, Nat.le_of_ble_eq_true rfl⟩ rfl (Nat.le_of_ble_eq_true rfl) dL_law_1235 hCL) (fun H locs w => ?_)
  refine lv_aload_n hx hb dL_law_1238 rfl (lv_at hl 2 rfl) ?_
  refine resR_l C w (run_VL (As := []) (rest := [.long v]) C w.right hl.1 (recvM0 C w.right) (c_X11_digest l D ca adm τ  _ (v, τ') e2) rfl rfl wl_971 wl_972 wl_973 wl_5 wl_974 hd_X11_digest rfl ⟨Nat.le_of_ble_eq_true rfl, Nat.le_of_ble_eq_true rfl⟩ rfl (Nat.le_of_ble_eq_true rfl) dL_law_1239 hCL) (fun H locs w => ?_)
  refine W.lcmp hx hb dL_law_1242 ?_
  refine lv_if_eq (tgt := 1248) hx hb dL_law_1243 (by decide) (fun _ => ?_) (fun c1 => absurd (by simp [lg_cmp]) c1)
  exact hk σ' τ' _ _ _ hR' w hl
end LAWC
