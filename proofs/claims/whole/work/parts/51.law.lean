/-! THE CLAIM OUT OF ONE WALK OF THE LAW'S BODY. Your part is whole_start (and what it stands on); all else here is the same for every law, but numbers. -/
def R_law : String := "BarkPostLaw"
def lw_P (b : Addr) (xs : List Int32) (args : Array Value) (s : State) : Prop := args = #[.ref b] ∧ s.IntsAt b xs ∧ xs.length ≤ 3072 ∧ (Jvm.Cond.and given_1 narrow_1).before args s = true
def lw_Q (_ : Array Value) (s : State) (o : Outcome) (t : State) : Prop := o = .returned (some (.int 1)) ∧ Framed s o t [] 600000 7302250
def lw_Z (below : List Frame) (a : Array Value) (s : State) : State → Prop := fun t => ∃ o, t.status = .running ∧ Ended t below o ∧ lw_Q a s o t
/-- the law's own end, with 1 on the stack, nothing written that was there before, its room as the claim has it -/
theorem lw_ret {p : Program} {l : Launch} {e : Env} {s : State} {m : MethodId} {below : List Frame} {meth : Method} {c : Code} {b : Nat} (hx : p.tables.exec = Jvm.exec) (hb : c.code = code) (hr : meth.sig.returnType = ret) (hlocks : meth.locks = false) {pc : Nat} {H : Heap} {ls : Array Slot} (hdg : decode code pc = .ok (.ireturn, 1)) : W p l e room_1 s m #[Value.ref b] below meth c H [] 600000 7302250 (lw_Z below #[Value.ref b] s) (F0 m pc ls [.int 1]) := by
  intro T hT X
  obtain ⟨fs, hret, hrun, hended, hW, hframe⟩ := X.leave (v := some (.int 1)) (hlocks := hlocks) (fun h => by rw [hr] at h; cases h)
  have hmeth' : T.vm.method? m = some meth := X.method'
  refine ⟨T.setFrames fs, ?_, .returned (some (.int 1)), hrun, hended, rfl, ⟨_, rfl⟩, hW, hframe⟩
  jvm_step X.here [X.here.top, hx, hb, hdg, hmeth', hr, ret, narrow_b1]
  (try refine ⟨rfl, ?_⟩); (try refine ⟨rfl, ?_⟩)
  first | (intro acts; rw [hret _ acts rfl rfl rfl]) | rw [hret _ _ rfl rfl rfl]
  exact Steps.refl _
/-- what holds at the law's entry: the machine, the code, the tables' words (any of lw_tbl by 'hts w (by decide +kernel)'), the script of L ints xs at the cell b, what the Statement gives of the start (any of its parts by flat_of_before) -/
def lw_At (p : Program) (s : State) (m : MethodId) (meth : Method) (c : Code) (b L : Nat) (xs : Nat → Int32) : Prop :=
  p.tables.exec = Jvm.exec ∧ c.code = code ∧ meth.sig.returnType = ret ∧ c.maxLocals = 4 ∧ s.vm.findClass R_law = some m.cls ∧ (∀ w ∈ lw_tbl, w.before #[Value.ref b] s = true) ∧ va_X b L xs s s.heap ∧ b < s.heap.size ∧ meth.locks = false ∧ (Jvm.Cond.and given_1 narrow_1).before #[Value.ref b] s = true
def OpsOK (Rel : St → St → Prop) : Prop := Op1 Rel f_X10_wood f_X11_wood ∧ Op1 Rel f_X10_tree f_X11_tree ∧ Op3 Rel f_X10_touch f_X11_touch ∧ Op1 Rel f_X10_type f_X11_type ∧ Op0 Rel f_X10_clear f_X11_clear ∧ Op0 Rel f_X10_read f_X11_read ∧ Op2 Rel f_X10_fell f_X11_fell ∧ Op1 Rel f_X10_season f_X11_season ∧ Op0 Rel f_X10_undo f_X11_undo ∧ Op2 Rel f_X10_of f_X11_of ∧ Op3 Rel f_X10_copy f_X11_copy ∧ Op3 Rel f_X10_byRow f_X11_byRow ∧ Op4 Rel f_X10_soonest f_X11_soonest ∧ Op4 Rel f_X10_whole f_X11_whole ∧ Op2 Rel f_X10_ways f_X11_ways ∧ Op4 Rel f_X10_put f_X11_put ∧ Op2 Rel f_X10_meet f_X11_meet ∧ Op2 Rel f_X10_apart f_X11_apart ∧ Op0 Rel f_X10_most f_X11_most ∧ Op5 Rel f_X10_note f_X11_note ∧ Op3 Rel f_X10_came f_X11_came ∧ Op1 Rel f_X10_forget f_X11_forget ∧ Op1 Rel f_X10_is f_X11_is ∧ Op1 Rel f_X10_next f_X11_next ∧ Op1 Rel f_X10_first f_X11_first ∧ Op4 Rel f_X10_foresters f_X11_foresters ∧ Op3 Rel f_X10_storms f_X11_storms ∧ Op3 Rel f_X10_forests f_X11_forests ∧ OpL1 Rel f_X10_part f_X11_part ∧ Op1 Rel f_X10_image f_X11_image ∧ Op1 Rel f_X10_from f_X11_from ∧ Op1 Rel f_X10_status f_X11_status ∧ Op1 Rel f_X10_count f_X11_count ∧ OpL0 Rel f_X10_digest f_X11_digest
theorem ii_k {i k nS : Nat} (h : i + k < nS) (hn : nS ≤ 3072) : vp_in (nI i + nI k) nS := by rw [nI_add]; exact vp_in_nI h (by omega)
set_option maxHeartbeats 8000000 in
set_option maxRecDepth 100000 in
theorem law_loop {Rel : St → St → Prop} (hO : OpsOK Rel) {p : Program} {l : Launch} {e : Env} {s : State} {m : MethodId} {below : List Frame} {meth : Method} {c : Code} {D : va_G} {ca : Nat → ClassId} {adc adm : Nat → Nat} {b nS : Nat} {xs : Nat → Int32} {CL SL : Nat} (C : Cx p s m #[Value.ref b] meth c D ca (fun q => s.heap.size ≤ q) cL_law RL 4 (some .boolean)) (hX : va_X b nS xs s s.heap) (hbl : b < s.heap.size) (hCL : CL ≤ 600000 ∧ SL ≤ 7302250) (hL : nS ≤ 3072) :
    ∀ (n i : Nat), nS < i + n → i ≤ nS + 6 → LB Rel p l e s m below meth c D ca adc adm b (nI i) CL SL (lw_Z below #[Value.ref b] s) 18 := by
  obtain ⟨o_wood, o_tree, o_touch, o_type, o_clear, o_read, o_fell, o_season, o_undo, o_of, o_copy, o_byRow, o_soonest, o_whole, o_ways, o_put, o_meet, o_apart, o_most, o_note, o_came, o_forget, o_is, o_next, o_first, o_foresters, o_storms, o_forests, o_part, o_image, o_from, o_status, o_count, o_digest⟩ := hO
  have hx := C.1
  have hb := C.2.1
  have hbA : ¬ (fun q => s.heap.size ≤ q) b := Nat.not_le.mpr hbl
  intro n
  induction n with
  | zero =>
    intro i h1 h2 σ τ H locs ls hR w hl
    refine lv_iload_n hx hb dL_law_18 rfl (lv_at hl 3 rfl) ?_
    refine lv_aload_n hx hb dL_law_19 rfl (lv_at hl 0 rfl) ?_
    refine va_slen hx hb hX hbl hbA w.2.2 dL_law_20 ?_
    refine lv_bipush (v := 6) hx hb dL_law_21 (by decide) ?_
    refine lv_isub hx hb dL_law_23 ?_
    refine lv_icmp_gt (tgt := 1254) hx hb dL_law_24 (by decide) (fun c1 => ?_) (fun c1 => ?_)
    · refine lv_iconst (v := 1) hx hb dL_law_1254 (by decide) ?_
      refine va_forget (fun q hq => w.2.2.2.2 q hq) ?_
      refine W.widen (k := 600000) (n := 7302250) hCL.1 hCL.2 ?_
      exact lw_ret hx hb C.rt C.locks dL_law_1255
    have hi : i + 6 ≤ nS := by
      have h9 : ¬ (nI nS - nI 6 < nI i) := c1
      rw [Int32.lt_iff_toInt_lt, pk_sub_toInt (by omega) (by omega), nI_toInt (by omega)] at h9
      omega
    exact absurd hi (by omega)
  | succ n ih =>
    intro i h1 h2
    have hk : i + 6 ≤ nS → LB Rel p l e s m below meth c D ca adc adm b (nI i) CL SL (lw_Z below #[Value.ref b] s) 1248 := by
      intro hi σ τ H locs ls hR w hl
      refine lv_iinc (v := nI (i + 6)) (lv' := [(3, .int (nI (i + 6))), (0, .ref b), (1, .ref (adc 0)), (2, .ref (adm 0))]) hx hb dL_law_1248 hl (k := 3) rfl (nI_add i 6) (by decide) rfl (fun ls hl => ?_)
      refine lv_goto (tgt := 18) hx hb dL_law_1251 (by decide) ?_
      exact ih (i + 6) (by omega) (by omega) σ τ _ _ _ hR w (lv_sub hl [1, 2, 3, 0] rfl)
    intro σ τ H locs ls hR w hl
    refine lv_iload_n hx hb dL_law_18 rfl (lv_at hl 3 rfl) ?_
    refine lv_aload_n hx hb dL_law_19 rfl (lv_at hl 0 rfl) ?_
    refine va_slen hx hb hX hbl hbA w.2.2 dL_law_20 ?_
    refine lv_bipush (v := 6) hx hb dL_law_21 (by decide) ?_
    refine lv_isub hx hb dL_law_23 ?_
    refine lv_icmp_gt (tgt := 1254) hx hb dL_law_24 (by decide) (fun c1 => ?_) (fun c1 => ?_)
    · refine lv_iconst (v := 1) hx hb dL_law_1254 (by decide) ?_
      refine va_forget (fun q hq => w.2.2.2.2 q hq) ?_
      refine W.widen (k := 600000) (n := 7302250) hCL.1 hCL.2 ?_
      exact lw_ret hx hb C.rt C.locks dL_law_1255
    have hi : i + 6 ≤ nS := by
      have h9 : ¬ (nI nS - nI 6 < nI i) := c1
      rw [Int32.lt_iff_toInt_lt, pk_sub_toInt (by omega) (by omega), nI_toInt (by omega)] at h9
      omega
    have hk := hk hi
    have i0 : vp_in (nI i) nS := vp_in_nI (by omega) (by omega)
    have i1 : vp_in (nI i + 1) nS := ii_k (k := 1) (by omega) hL
    have i2 : vp_in (nI i + 2) nS := ii_k (k := 2) (by omega) hL
    have i3 : vp_in (nI i + 3) nS := ii_k (k := 3) (by omega) hL
    have i4 : vp_in (nI i + 4) nS := ii_k (k := 4) (by omega) hL
    have i5 : vp_in (nI i + 5) nS := ii_k (k := 5) (by omega) hL
    refine lv_aload_n hx hb dL_law_27 rfl (lv_at hl 0 rfl) ?_
    refine lv_iload_n hx hb dL_law_28 rfl (lv_at hl 3 rfl) ?_
    refine va_sld hx hb hX hbl hbA w.2.2 i0 dL_law_29 ?_
    refine lv_bipush (v := 63) hx hb dL_law_30 (by decide) ?_
    refine lv_iand hx hb dL_law_32 ?_
    obtain ⟨j, hj, ej⟩ := pk_andE (xs (nI i).toNatClampNeg) (m := 63) 6 (by decide)
    refine int_eq ej ?_
    match j, hj with
    | 0, _ =>
      refine lv_tableIn (off := 151) (tgt := 184) hx hb dL_law_33 (by decide) (by decide) (by decide) (by decide) ?_
      exact lc_wood C hX hbl hCL i1 i2 i3 i4 i5 o_wood hk σ τ _ _ _ hR w hl
    | 1, _ =>
      refine lv_tableIn (off := 174) (tgt := 207) hx hb dL_law_33 (by decide) (by decide) (by decide) (by decide) ?_
      exact lc_tree C hX hbl hCL i1 i2 i3 i4 i5 o_tree hk σ τ _ _ _ hR w hl
    | 2, _ =>
      refine lv_tableIn (off := 197) (tgt := 230) hx hb dL_law_33 (by decide) (by decide) (by decide) (by decide) ?_
      exact lc_touch C hX hbl hCL i1 i2 i3 i4 i5 o_touch hk σ τ _ _ _ hR w hl
    | 3, _ =>
      refine lv_tableIn (off := 240) (tgt := 273) hx hb dL_law_33 (by decide) (by decide) (by decide) (by decide) ?_
      exact lc_type C hX hbl hCL i1 i2 i3 i4 i5 o_type hk σ τ _ _ _ hR w hl
    | 4, _ =>
      refine lv_tableIn (off := 263) (tgt := 296) hx hb dL_law_33 (by decide) (by decide) (by decide) (by decide) ?_
      exact lc_clear C hX hbl hCL i1 i2 i3 i4 i5 o_clear hk σ τ _ _ _ hR w hl
    | 5, _ =>
      refine lv_tableIn (off := 276) (tgt := 309) hx hb dL_law_33 (by decide) (by decide) (by decide) (by decide) ?_
      exact lc_read C hX hbl hCL i1 i2 i3 i4 i5 o_read hk σ τ _ _ _ hR w hl
    | 6, _ =>
      refine lv_tableIn (off := 289) (tgt := 322) hx hb dL_law_33 (by decide) (by decide) (by decide) (by decide) ?_
      exact lc_fell C hX hbl hCL i1 i2 i3 i4 i5 o_fell hk σ τ _ _ _ hR w hl
    | 7, _ =>
      refine lv_tableIn (off := 322) (tgt := 355) hx hb dL_law_33 (by decide) (by decide) (by decide) (by decide) ?_
      exact lc_season C hX hbl hCL i1 i2 i3 i4 i5 o_season hk σ τ _ _ _ hR w hl
    | 8, _ =>
      refine lv_tableIn (off := 345) (tgt := 378) hx hb dL_law_33 (by decide) (by decide) (by decide) (by decide) ?_
      exact lc_undo C hX hbl hCL i1 i2 i3 i4 i5 o_undo hk σ τ _ _ _ hR w hl
    | 9, _ =>
      refine lv_tableIn (off := 358) (tgt := 391) hx hb dL_law_33 (by decide) (by decide) (by decide) (by decide) ?_
      exact lc_of C hX hbl hCL i1 i2 i3 i4 i5 o_of hk σ τ _ _ _ hR w hl
    | 10, _ =>
      refine lv_tableIn (off := 391) (tgt := 424) hx hb dL_law_33 (by decide) (by decide) (by decide) (by decide) ?_
      exact lc_copy C hX hbl hCL i1 i2 i3 i4 i5 o_copy hk σ τ _ _ _ hR w hl
    | 11, _ =>
      refine lv_tableIn (off := 434) (tgt := 467) hx hb dL_law_33 (by decide) (by decide) (by decide) (by decide) ?_
      exact lc_byRow C hX hbl hCL i1 i2 i3 i4 i5 o_byRow hk σ τ _ _ _ hR w hl
    | 12, _ =>
      refine lv_tableIn (off := 477) (tgt := 510) hx hb dL_law_33 (by decide) (by decide) (by decide) (by decide) ?_
      exact lc_soonest C hX hbl hCL i1 i2 i3 i4 i5 o_soonest hk σ τ _ _ _ hR w hl
    | 13, _ =>
      refine lv_tableIn (off := 530) (tgt := 563) hx hb dL_law_33 (by decide) (by decide) (by decide) (by decide) ?_
      exact lc_whole C hX hbl hCL i1 i2 i3 i4 i5 o_whole hk σ τ _ _ _ hR w hl
    | 14, _ =>
      refine lv_tableIn (off := 583) (tgt := 616) hx hb dL_law_33 (by decide) (by decide) (by decide) (by decide) ?_
      exact lc_ways C hX hbl hCL i1 i2 i3 i4 i5 o_ways hk σ τ _ _ _ hR w hl
    | 15, _ =>
      refine lv_tableIn (off := 616) (tgt := 649) hx hb dL_law_33 (by decide) (by decide) (by decide) (by decide) ?_
      exact lc_put C hX hbl hCL i1 i2 i3 i4 i5 o_put hk σ τ _ _ _ hR w hl
    | 16, _ =>
      refine lv_tableIn (off := 669) (tgt := 702) hx hb dL_law_33 (by decide) (by decide) (by decide) (by decide) ?_
      exact lc_meet C hX hbl hCL i1 i2 i3 i4 i5 o_meet hk σ τ _ _ _ hR w hl
    | 17, _ =>
      refine lv_tableIn (off := 702) (tgt := 735) hx hb dL_law_33 (by decide) (by decide) (by decide) (by decide) ?_
      exact lc_apart C hX hbl hCL i1 i2 i3 i4 i5 o_apart hk σ τ _ _ _ hR w hl
    | 18, _ =>
      refine lv_tableIn (off := 735) (tgt := 768) hx hb dL_law_33 (by decide) (by decide) (by decide) (by decide) ?_
      exact lc_most C hX hbl hCL i1 i2 i3 i4 i5 o_most hk σ τ _ _ _ hR w hl
    | 19, _ =>
      refine lv_tableIn (off := 748) (tgt := 781) hx hb dL_law_33 (by decide) (by decide) (by decide) (by decide) ?_
      exact lc_note C hX hbl hCL i1 i2 i3 i4 i5 o_note hk σ τ _ _ _ hR w hl
    | 20, _ =>
      refine lv_tableIn (off := 811) (tgt := 844) hx hb dL_law_33 (by decide) (by decide) (by decide) (by decide) ?_
      exact lc_came C hX hbl hCL i1 i2 i3 i4 i5 o_came hk σ τ _ _ _ hR w hl
    | 21, _ =>
      refine lv_tableIn (off := 854) (tgt := 887) hx hb dL_law_33 (by decide) (by decide) (by decide) (by decide) ?_
      exact lc_forget C hX hbl hCL i1 i2 i3 i4 i5 o_forget hk σ τ _ _ _ hR w hl
    | 22, _ =>
      refine lv_tableIn (off := 877) (tgt := 910) hx hb dL_law_33 (by decide) (by decide) (by decide) (by decide) ?_
      exact lc_is C hX hbl hCL i1 i2 i3 i4 i5 o_is hk σ τ _ _ _ hR w hl
    | 23, _ =>
      refine lv_tableIn (off := 900) (tgt := 933) hx hb dL_law_33 (by decide) (by decide) (by decide) (by decide) ?_
      exact lc_next C hX hbl hCL i1 i2 i3 i4 i5 o_next hk σ τ _ _ _ hR w hl
    | 24, _ =>
      refine lv_tableIn (off := 923) (tgt := 956) hx hb dL_law_33 (by decide) (by decide) (by decide) (by decide) ?_
      exact lc_first C hX hbl hCL i1 i2 i3 i4 i5 o_first hk σ τ _ _ _ hR w hl
    | 25, _ =>
      refine lv_tableIn (off := 946) (tgt := 979) hx hb dL_law_33 (by decide) (by decide) (by decide) (by decide) ?_
      exact lc_foresters C hX hbl hCL i1 i2 i3 i4 i5 o_foresters hk σ τ _ _ _ hR w hl
    | 26, _ =>
      refine lv_tableIn (off := 999) (tgt := 1032) hx hb dL_law_33 (by decide) (by decide) (by decide) (by decide) ?_
      exact lc_storms C hX hbl hCL i1 i2 i3 i4 i5 o_storms hk σ τ _ _ _ hR w hl
    | 27, _ =>
      refine lv_tableIn (off := 1042) (tgt := 1075) hx hb dL_law_33 (by decide) (by decide) (by decide) (by decide) ?_
      exact lc_forests C hX hbl hCL i1 i2 i3 i4 i5 o_forests hk σ τ _ _ _ hR w hl
    | 28, _ =>
      refine lv_tableIn (off := 1085) (tgt := 1118) hx hb dL_law_33 (by decide) (by decide) (by decide) (by decide) ?_
      exact lc_part C hX hbl hCL i1 i2 i3 i4 i5 o_part hk σ τ _ _ _ hR w hl
    | 29, _ =>
      refine lv_tableIn (off := 1109) (tgt := 1142) hx hb dL_law_33 (by decide) (by decide) (by decide) (by decide) ?_
      exact lc_image C hX hbl hCL i1 i2 i3 i4 i5 o_image hk σ τ _ _ _ hR w hl
    | 30, _ =>
      refine lv_tableIn (off := 1132) (tgt := 1165) hx hb dL_law_33 (by decide) (by decide) (by decide) (by decide) ?_
      exact lc_from C hX hbl hCL i1 i2 i3 i4 i5 o_from hk σ τ _ _ _ hR w hl
    | 31, _ =>
      refine lv_tableIn (off := 1155) (tgt := 1188) hx hb dL_law_33 (by decide) (by decide) (by decide) (by decide) ?_
      exact lc_status C hX hbl hCL i1 i2 i3 i4 i5 o_status hk σ τ _ _ _ hR w hl
    | 32, _ =>
      refine lv_tableIn (off := 1178) (tgt := 1211) hx hb dL_law_33 (by decide) (by decide) (by decide) (by decide) ?_
      exact lc_count C hX hbl hCL i1 i2 i3 i4 i5 o_count hk σ τ _ _ _ hR w hl
    | 33, _ =>
      refine lv_tableIn (off := 1201) (tgt := 1234) hx hb dL_law_33 (by decide) (by decide) (by decide) (by decide) ?_
      exact lc_digest C hX hbl hCL i1 i2 i3 i4 i5 o_digest hk σ τ _ _ _ hR w hl
    | j + 34, hj =>
      refine lv_tableOut (tgt := 1248) hx hb dL_law_33 (Or.inr (by rw [nI_toInt (by omega)]; omega)) (by decide) ?_
      exact hk σ τ _ _ _ hR w hl
set_option maxHeartbeats 16000000 in
set_option maxRecDepth 100000 in
theorem whole_open {Rel : St → St → Prop} (hO : OpsOK Rel) (outM : St) (hM0 : f_X11_begin_1 σM0 0 = some outM) (hR0 : Rel σC0 outM) {p : Program} {e : Env} {s : State} {m : MethodId} {below : List Frame} {meth : Method} {c : Code} (l : Launch) {b L : Nat} {xs : Nat → Int32} (hL : L ≤ 3072) (C0 : lw_At p s m meth c b L xs) : W p l e room_1 s m #[Value.ref b] below meth c s.heap [] 0 0 (lw_Z below #[Value.ref b] s) (entryFrame m ([Value.ref b] : List Value).toArray 4) := by
  obtain ⟨hx, hb, hr, hml, hown, hts, hX, hbl, hlocks, hgv⟩ := id C0
  have hfl := flat_of_before _ hgv
  have hWL : ∀ w ∈ WL, w.before #[Value.ref b] s = true := fun w h => hts w (WL_in w h)
  have hA : ∀ a : Nat, a < s.heap.size → ¬ (fun q : Nat => s.heap.size ≤ q) a := fun a h => Nat.not_le.mpr h
  obtain ⟨c0, iS0, hKn0⟩ := u_known (C := RX0) (T := TX0) (N := 0) (n := 0) hWL inwX0 (hWL _ wl_16)
  obtain ⟨c1, iS1, hKn1⟩ := u_known (C := RX1) (T := TX1) (N := 0) (n := 0) hWL inwX1 (hWL _ wl_22)
  obtain ⟨c2, iS2, hKn2⟩ := u_known (C := RX2) (T := TX2) (N := 12) (n := 12) hWL inwX2 (hWL _ wl_32)
  obtain ⟨c3, iS3, hKn3⟩ := u_known (C := RX4) (T := TX4) (N := 0) (n := 0) hWL inwX4 (hWL _ wl_19)
  obtain ⟨c4, iS4, hKn4⟩ := u_known (C := RX5) (T := TX5) (N := 0) (n := 0) hWL inwX5 (hWL _ wl_13)
  obtain ⟨c5, iS5, hKn5⟩ := u_known (C := RX6) (T := TX6) (N := 0) (n := 0) hWL inwX6 (hWL _ wl_28)
  obtain ⟨c6, iS6, hKn6⟩ := u_known (C := RX7) (T := TX7) (N := 9) (n := 9) hWL inwX7 (hWL _ wl_40)
  obtain ⟨c7, iS7, hKn7⟩ := u_known (C := RX8) (T := TX8) (N := 0) (n := 0) hWL inwX8 (hWL _ wl_25)
  obtain ⟨c8, iS8, hKn8⟩ := u_known (C := RX9) (T := TX9) (N := 8) (n := 8) hWL inwX9 (hWL _ wl_46)
  obtain ⟨c9, iS9, hKn9⟩ := u_known (C := RX10) (T := TX10) (N := 16) (n := 16) hWL inwX10 (hWL _ wl_1)
  obtain ⟨c10, iS10, hKn10⟩ := u_known (C := RX11) (T := TX11) (N := 25) (n := 25) hWL inwX11 (hWL _ wl_4)
  obtain ⟨aI, kI, mI, fI1, fI2, fI3⟩ := Cond.arrayClass_spec (hWL _ wl_49)
  obtain ⟨aB, kB, mB, fB1, fB2, fB3⟩ := Cond.arrayClass_spec (hWL _ wl_43)
  obtain ⟨aZ, kZ, mZ, fZ1, fZ2, fZ3⟩ := Cond.arrayClass_spec (hWL _ wl_37)
  obtain ⟨mF, aF, kF, fF1, fF2, fF3, fF4, fF5⟩ := Cond.arrayOver_spec (hts _ ta_Forest)
  obtain ⟨mP, aP, kP, fP1, fP2, fP3, fP4, fP5⟩ := Cond.arrayOver_spec (hts _ ta_Plain)
  obtain ⟨adK, adV, hS4, hS5⟩ := vk_Sof (N := 4) (tm := fun i => Term.string RX9 ([54, 63, 71, 76].getD i 0)) (len := strL) (byt := strB) (A := fun q : Nat => s.heap.size ≤ q) (args := #[Value.ref b]) (s := s) (by decide)
    (fun i hi => by
      match i, hi with
      | 0, _ => exact hfl _ (by decide +kernel)
      | 1, _ => exact hfl _ (by decide +kernel)
      | 2, _ => exact hfl _ (by decide +kernel)
      | 3, _ => exact hfl _ (by decide +kernel)
      | i + 4, hi => exact absurd hi (by omega))
    (fun i hi => by
      match i, hi with
      | 0, _ => exact hfl _ (by decide +kernel)
      | 1, _ => exact hfl _ (by decide +kernel)
      | 2, _ => exact hfl _ (by decide +kernel)
      | 3, _ => exact hfl _ (by decide +kernel)
      | i + 4, hi => exact absurd hi (by omega))
    (fun i hi => by
      match i, hi with
      | 0, _ => exact hfl _ (by decide +kernel)
      | 1, _ => exact hfl _ (by decide +kernel)
      | 2, _ => exact hfl _ (by decide +kernel)
      | 3, _ => exact hfl _ (by decide +kernel)
      | i + 4, hi => exact absurd hi (by omega))
    (fun i hi => by
      match i, hi with
      | 0, _ => exact hfl _ (by decide +kernel)
      | 1, _ => exact hfl _ (by decide +kernel)
      | 2, _ => exact hfl _ (by decide +kernel)
      | 3, _ => exact hfl _ (by decide +kernel)
      | i + 4, hi => exact absurd hi (by omega))
    (fun i hi j hj => by
      match i, hi, j, hj with
      | 0, _, 0, _ => exact hfl _ (by decide +kernel)
      | 0, _, 1, _ => exact hfl _ (by decide +kernel)
      | 0, _, 2, _ => exact hfl _ (by decide +kernel)
      | 0, _, 3, _ => exact hfl _ (by decide +kernel)
      | 0, _, j + 4, hj => exact absurd (show j + 4 < 4 from hj) (by omega)
      | 1, _, 0, _ => exact hfl _ (by decide +kernel)
      | 1, _, 1, _ => exact hfl _ (by decide +kernel)
      | 1, _, 2, _ => exact hfl _ (by decide +kernel)
      | 1, _, 3, _ => exact hfl _ (by decide +kernel)
      | 1, _, j + 4, hj => exact absurd (show j + 4 < 4 from hj) (by omega)
      | 2, _, 0, _ => exact hfl _ (by decide +kernel)
      | 2, _, 1, _ => exact hfl _ (by decide +kernel)
      | 2, _, 2, _ => exact hfl _ (by decide +kernel)
      | 2, _, 3, _ => exact hfl _ (by decide +kernel)
      | 2, _, 4, _ => exact hfl _ (by decide +kernel)
      | 2, _, j + 5, hj => exact absurd (show j + 5 < 5 from hj) (by omega)
      | 3, _, 0, _ => exact hfl _ (by decide +kernel)
      | 3, _, 1, _ => exact hfl _ (by decide +kernel)
      | 3, _, 2, _ => exact hfl _ (by decide +kernel)
      | 3, _, 3, _ => exact hfl _ (by decide +kernel)
      | 3, _, j + 4, hj => exact absurd (show j + 4 < 4 from hj) (by omega)
      | i + 4, hi, _, _ => exact absurd hi (by omega))
    (fun i j hi hj hne => by
      match i, hi, j, hj, hne with
      | 0, _, 0, _, h => exact absurd rfl h
      | 0, _, 1, _, _ => exact Or.inl (hfl _ (by decide +kernel))
      | 0, _, 2, _, _ => exact Or.inl (hfl _ (by decide +kernel))
      | 0, _, 3, _, _ => exact Or.inl (hfl _ (by decide +kernel))
      | 0, _, j + 4, hj, _ => exact absurd hj (by omega)
      | 1, _, 0, _, _ => exact Or.inr (hfl _ (by decide +kernel))
      | 1, _, 1, _, h => exact absurd rfl h
      | 1, _, 2, _, _ => exact Or.inl (hfl _ (by decide +kernel))
      | 1, _, 3, _, _ => exact Or.inl (hfl _ (by decide +kernel))
      | 1, _, j + 4, hj, _ => exact absurd hj (by omega)
      | 2, _, 0, _, _ => exact Or.inr (hfl _ (by decide +kernel))
      | 2, _, 1, _, _ => exact Or.inr (hfl _ (by decide +kernel))
      | 2, _, 2, _, h => exact absurd rfl h
      | 2, _, 3, _, _ => exact Or.inl (hfl _ (by decide +kernel))
      | 2, _, j + 4, hj, _ => exact absurd hj (by omega)
      | 3, _, 0, _, _ => exact Or.inr (hfl _ (by decide +kernel))
      | 3, _, 1, _, _ => exact Or.inr (hfl _ (by decide +kernel))
      | 3, _, 2, _, _ => exact Or.inr (hfl _ (by decide +kernel))
      | 3, _, 3, _, h => exact absurd rfl h
      | 3, _, j + 4, hj, _ => exact absurd hj (by omega)
      | i + 4, hi, _, _, _ => exact absurd hi (by omega)) hA
  have hZ1 : va_Z "java/lang/String" "COMPACT_STRINGS" "Z" (.int 1) (fun q : Nat => s.heap.size ≤ q) s s.heap := va_Zof (hts _ tl_cs) (hts _ ti_String) (va_eqi (hfl _ (by decide +kernel))) hA
  have hZ2 : va_Zq "jdk/internal/util/Preconditions" "SIOOBE_FORMATTER" "Ljava/util/function/BiFunction;" (fun q : Nat => s.heap.size ≤ q) s s.heap := va_Zqof (hts _ tl_fm) (hts _ ti_Preconditions) (hfl _ (by decide +kernel)) hA
  obtain ⟨ca, hca⟩ : ∃ ca : Nat → ClassId, ca = fun k => [aI, aB, aZ, aF, aP, 0, 0, 0, 0, 0, adK 0, adK 1, adK 2, adK 3, 0, 0, 0, 0, 0, 0, adV 0, adV 1, adV 2, adV 3].getD k 0 := ⟨_, rfl⟩
  obtain ⟨D, hD⟩ : ∃ D : va_G, D = (fun k => [c0, c1, c2, c3, c4, c5, c6, c7, c8, c9, c10].getD k 0, fun k => [iS0, iS1, iS2, iS3, iS4, iS5, iS6, iS7, iS8, iS9, iS10].getD k iS0) := ⟨_, rfl⟩
  have hK : va_K D vwCl (TY ca) s := by
    subst hD; subst hca
    refine ⟨fun k q hq => ?_, fun k q hq => ?_⟩
    · match k, hq with
      | 0, hq => cases hq; exact hKn0
      | 1, hq => cases hq; exact hKn1
      | 2, hq => cases hq; exact hKn2
      | 3, hq => cases hq; exact hKn3
      | 4, hq => cases hq; exact hKn4
      | 5, hq => cases hq; exact hKn5
      | 6, hq => cases hq; exact hKn6
      | 7, hq => cases hq; exact hKn7
      | 8, hq => cases hq; exact hKn8
      | 9, hq => cases hq; exact hKn9
      | 10, hq => cases hq; exact hKn10
      | k + 11, hq => simp [vwCl] at hq
    · match k, hq with
      | 0, hq => cases hq; exact ⟨fun n z => ⟨fun k h => (by cases h), kI, fI2, mI, fI3⟩, fI1⟩
      | 1, hq => cases hq; exact ⟨fun n z => ⟨fun k h => (by cases h), kB, fB2, mB, fB3⟩, fB1⟩
      | 2, hq => cases hq; exact ⟨fun n z => ⟨fun k h => (by cases h), kZ, fZ2, mZ, fZ3⟩, fZ1⟩
      | 3, hq => cases hq; exact ⟨fun n z => ⟨fun k h => (by cases h), kF, fF3, mF, fF4⟩, kF, mF, fF3, fF4, fF1, fF5⟩
      | 4, hq => cases hq; exact ⟨fun n z => ⟨fun k h => (by cases h), kP, fP3, mP, fP4⟩, kP, mP, fP3, fP4, fP1, fP5⟩
      | k + 5, hq => simp [TY] at hq
  have hNX : NX ca (fun q : Nat => s.heap.size ≤ q) s s.heap := by
    subst hca
    refine ⟨⟨⟨va_Nw.of rfl (hts _ tn_RX3_10), va_Nw.of rfl (hts _ tn_RX7_33), va_Nw.of rfl (hts _ tn_RX9_106)⟩, vk_R.of (hts _ ts_54) (hS5 0 (by decide)), vk_R.of (hts _ ts_63) (hS5 1 (by decide)), vk_R.of (hts _ ts_71) (hS5 2 (by decide)), vk_R.of (hts _ ts_76) (hS5 3 (by decide))⟩, ⟨fun i hi => ?_, fun i j hi hj h => ?_⟩, hZ1, hZ2⟩
    · match i, hi with
      | 0, _ => exact hS4.1 0 (by decide)
      | 1, _ => exact hS4.1 1 (by decide)
      | 2, _ => exact hS4.1 2 (by decide)
      | 3, _ => exact hS4.1 3 (by decide)
      | i + 4, hi => exact absurd hi (by omega)
    · refine hS4.2 i j hi hj ?_
      match i, hi, j, hj, h with
      | 0, _, 0, _, h => exact h
      | 0, _, 1, _, h => exact h
      | 0, _, 2, _, h => exact h
      | 0, _, 3, _, h => exact h
      | 0, _, j + 4, hj, _ => exact absurd hj (by omega)
      | 1, _, 0, _, h => exact h
      | 1, _, 1, _, h => exact h
      | 1, _, 2, _, h => exact h
      | 1, _, 3, _, h => exact h
      | 1, _, j + 4, hj, _ => exact absurd hj (by omega)
      | 2, _, 0, _, h => exact h
      | 2, _, 1, _, h => exact h
      | 2, _, 2, _, h => exact h
      | 2, _, 3, _, h => exact h
      | 2, _, j + 4, hj, _ => exact absurd hj (by omega)
      | 3, _, 0, _, h => exact h
      | 3, _, 1, _, h => exact h
      | 3, _, 2, _, h => exact h
      | 3, _, 3, _, h => exact h
      | 3, _, j + 4, hj, _ => exact absurd hj (by omega)
      | i + 4, hi, _, _, _ => exact absurd hi (by omega)
  have hI : NI s := ⟨⟨va_Nw.of rfl (hts _ tn_RX10_9), va_Nw.of rfl (hts _ tn_RX10_12), va_Nw.of rfl (hts _ tn_RX0_1), va_Nw.of rfl (hts _ tn_RX10_15), va_Nw.of rfl (hts _ tn_RX4_1), va_Nw.of rfl (hts _ tn_RX10_18), va_Nw.of rfl (hts _ tn_RX1_1), va_Nw.of rfl (hts _ tn_RX10_21), va_Nw.of rfl (hts _ tn_RX8_1), va_Nw.of rfl (hts _ tn_RX10_24), va_Nw.of rfl (hts _ tn_RX6_1), va_Nw.of rfl (hts _ tn_RX10_33)⟩, ⟨va_AO.of (hts _ ta_Plain), va_AO.of (hts _ ta_Forest)⟩, va_Nw.of rfl (hts _ tc_Ash), va_Nw.of rfl (hts _ tc_Oak), va_Nw.of rfl (hts _ tc_Beech), va_Nw.of rfl (hts _ tc_Stump), va_Nw.of rfl (hts _ tc_Resin)⟩
  have C : Cx p s m #[Value.ref b] meth c D ca (fun q => s.heap.size ≤ q) cL_law RL 4 (some .boolean) := ⟨hx, hb, hml, hown, hWL, hK, fun _ h => h, hlocks, hr, hNX⟩
  have w : Wd (fun q => s.heap.size ≤ q) s D [] s.heap [] := ⟨fun k q h => by simp at h, ⟨fun i j p q h => by simp at h, fun k q h => by simp at h⟩, va_S.rf⟩
  have hl := lv_entry ([.ref b]) (n := 4) (Nat.le_of_ble_eq_true rfl)
  rw [lg_entry_eq]
  generalize (lg_sl ([.ref b]) ++ List.replicate (4 - (lg_sl ([.ref b])).length) Slot.unset).toArray = ls at hl ⊢
  have hl : lv_has ls 4 [(0, .ref b)] := hl
  generalize ([] : List Loc) = locs at w ⊢
  refine rnew (R := room_1) (ci := 9) (fs := [.null, .null, .null, .null, .null, .null, .null, .null, .null, .null, .int 0, .long 0, .long 0, .int 0, .int 0, .int 0]) C w tyX10 inwX10 tyX10_ok wl_0 wl_1 wl_2 rfl (fun j hj => by rcases (show j = 0 ∨ j = 1 ∨ j = 2 ∨ j = 3 ∨ j = 4 ∨ j = 5 ∨ j = 6 ∨ j = 7 ∨ j = 8 ∨ j = 9 ∨ j = 10 ∨ j = 11 ∨ j = 12 ∨ j = 13 ∨ j = 14 ∨ j = 15 by omega) with rfl | rfl | rfl | rfl | rfl | rfl | rfl | rfl | rfl | rfl | rfl | rfl | rfl | rfl | rfl | rfl <;> rfl) (Nat.le_of_ble_eq_true rfl) (Nat.le_of_ble_eq_true rfl) dL_law_0 (fun q0 H w => ?_)
  refine lv_dup hx hb dL_law_3 rfl ?_
  have wc : Wd (fun q => s.heap.size ≤ q) s D [(q0, .inr (9, [.null, .null, .null, .null, .null, .null, .null, .null, .null, .null, .int 0, .long 0, .long 0, .int 0, .int 0, .int 0]))] H locs := w
  refine res_n (wc := [(q0, .inr (9, [.null, .null, .null, .null, .null, .null, .null, .null, .null, .null, .int 0, .long 0, .long 0, .int 0, .int 0, .int 0]))]) (wr := []) C wc [0] [] rfl rfl (by decide) (by decide) (run_I (R := room_1) (As := []) (rest := [.ref q0]) C wc hI hl.1 (c_X10_init l D ca q0 _) rfl rfl wl_6 wl_7 wl_2 wl_8 rfl hi_X10_init rfl ⟨Nat.le_of_ble_eq_true rfl, Nat.le_of_ble_eq_true rfl⟩ rfl (Nat.le_of_ble_eq_true rfl) dL_law_4 ⟨Nat.le_of_ble_eq_true rfl, Nat.le_of_ble_eq_true rfl⟩) (fun adc H2 locs2 e0 w2 => ?_)
  subst e0
  refine lv_astore_n (lv' := [(1, .ref (adc 0)), (0, .ref b)]) hx hb dL_law_7 rfl hl (by decide) rfl (fun ls hl => ?_)
  have w : Wd (fun q => s.heap.size ≤ q) s D (CW ca adc σC0) H2 locs2 := w2
  refine rnew (R := room_1) (ci := 10) (fs := [.null, .null, .null, .null, .long 0, .long 0, .null, .int 0, .int 0, .int 0, .int 0, .int 0, .int 0, .int 0, .null, .null, .null, .null, .int 0, .int 0, .int 0, .int 0, .int 0, .null, .null]) C w tyX11 inwX11 tyX11_ok wl_3 wl_4 wl_5 rfl (fun j hj => by rcases (show j = 0 ∨ j = 1 ∨ j = 2 ∨ j = 3 ∨ j = 4 ∨ j = 5 ∨ j = 6 ∨ j = 7 ∨ j = 8 ∨ j = 9 ∨ j = 10 ∨ j = 11 ∨ j = 12 ∨ j = 13 ∨ j = 14 ∨ j = 15 ∨ j = 16 ∨ j = 17 ∨ j = 18 ∨ j = 19 ∨ j = 20 ∨ j = 21 ∨ j = 22 ∨ j = 23 ∨ j = 24 by omega) with rfl | rfl | rfl | rfl | rfl | rfl | rfl | rfl | rfl | rfl | rfl | rfl | rfl | rfl | rfl | rfl | rfl | rfl | rfl | rfl | rfl | rfl | rfl | rfl | rfl <;> rfl) (Nat.le_of_ble_eq_true rfl) (Nat.le_of_ble_eq_true rfl) dL_law_8 (fun q1 H w => ?_)
  refine lv_dup hx hb dL_law_11 rfl ?_
  have wc : Wd (fun q => s.heap.size ≤ q) s D [(q1, .inr (10, [.null, .null, .null, .null, .long 0, .long 0, .null, .int 0, .int 0, .int 0, .int 0, .int 0, .int 0, .int 0, .null, .null, .null, .null, .int 0, .int 0, .int 0, .int 0, .int 0, .null, .null]))] H locs2 := w.right
  refine res_n (wc := [(q1, .inr (10, [.null, .null, .null, .null, .long 0, .long 0, .null, .int 0, .int 0, .int 0, .int 0, .int 0, .int 0, .int 0, .null, .null, .null, .null, .int 0, .int 0, .int 0, .int 0, .int 0, .null, .null]))]) (wr := CW ca adc σC0) C w [45] [0, 1, 2, 3, 4, 5, 6, 7, 8, 9, 10, 11, 12, 13, 14, 15, 16, 17, 18, 19, 20, 21, 22, 23, 24, 25, 26, 27, 28, 29, 30, 31, 32, 33, 34, 35, 36, 37, 38, 39, 40, 41, 42, 43, 44] rfl rfl (by decide) (by decide) (run_I (R := room_1) (As := []) (rest := [.ref q1]) C wc hI hl.1 (c_X11_init l D ca q1 _ outM hM0) rfl rfl wl_90 wl_91 wl_5 wl_92 rfl hi_X11_init rfl ⟨Nat.le_of_ble_eq_true rfl, Nat.le_of_ble_eq_true rfl⟩ rfl (Nat.le_of_ble_eq_true rfl) dL_law_12 ⟨Nat.le_of_ble_eq_true rfl, Nat.le_of_ble_eq_true rfl⟩) (fun adm H3 locs3 e0 w3 => ?_)
  subst e0
  refine lv_astore_n (lv' := [(2, .ref (adm 0)), (1, .ref (adc 0)), (0, .ref b)]) hx hb dL_law_15 rfl hl (by decide) rfl (fun ls hl => ?_)
  refine lv_iconst (v := 0) hx hb dL_law_16 (by decide) ?_
  refine lv_istore_n (lv' := [(3, .int 0), (2, .ref (adm 0)), (1, .ref (adc 0)), (0, .ref b)]) hx hb dL_law_17 rfl hl (by decide) rfl (fun ls hl => ?_)
  exact law_loop hO C hX hbl ⟨Nat.le_of_ble_eq_true rfl, Nat.le_of_ble_eq_true rfl⟩ hL (L + 1) 0 (by omega) (by omega) σC0 outM _ _ _ hR0 w3 (lv_sub hl [3, 2, 1, 0] rfl)
