/-! two letters that meet -/
def tgd (a b : Nat) : Nat := if a = 0 then a + b else if b = 0 then a + b else if a + b - 1 ≤ 4 then a + b - 1 else a + b - 1 - 4
def mt : Nat → Nat → List Nat → List Nat → Nat
  | 0, acc, _, _ => acc
  | d + 1, acc, fa, fb => if fa = [] ∧ fb = [] then acc else mt d (acc * 10 + tgd (fa.headD 0) (fb.headD 0)) fa.tail fb.tail
theorem mt_nil : ∀ (d acc : Nat), mt d acc [] [] = acc := by
  intro d acc
  cases d with
  | zero => rfl
  | succ d => unfold mt; rw [if_pos ⟨rfl, rfl⟩]
theorem tg_C : ∀ a b : Fin 5, f_X3_together (nI a.val) (nI b.val) = some (nI (tgd a.val b.val)) := by decide +kernel
theorem vL_m {l : List Nat} (h : Lg l) : vL l % 10 = l.headD 0 ∧ vL l / 10 = vL l.tail := by
  cases l with
  | nil => exact ⟨rfl, rfl⟩
  | cons c l =>
    have := h.hd
    constructor
    · show (c + 10 * vL l) % 10 = c; omega
    · show (c + 10 * vL l) / 10 = vL l; omega
theorem Lg.h4 {l : List Nat} (h : Lg l) : l.headD 0 < 5 := by
  cases l with
  | nil => show 0 < 5; omega
  | cons c l => have := h.hd; show c < 5; omega
theorem third_C : ∀ (d k fu acc : Nat) (fa fb : List Nat), k + d = 6 → d < fu → Lg fa → Lg fb → vL fa < 2 ^ 31 → vL fb < 2 ^ 31 → f_X3_third_L16 fu (nI (vL fa)) (nI (vL fb)) (nI acc) (nI k) = some (nI (mt d acc fa fb)) := by
  intro d
  induction d with
  | zero =>
    intro k fu acc fa fb hk hfu ha hb h1 h2
    obtain ⟨fu, rfl⟩ : ∃ m, fu = m + 1 := ⟨fu - 1, by omega⟩
    have hk : k = 6 := by omega
    subst hk
    show f_X3_third_b16 _ _ _ _ (nI 6) = _
    unfold f_X3_third_b16
    rw [if_pos (by decide)]
    rfl
  | succ d ih =>
    intro k fu acc fa fb hk hfu ha hb h1 h2
    obtain ⟨fu, rfl⟩ : ∃ m, fu = m + 1 := ⟨fu - 1, by omega⟩
    have e : f_X3_third_L16 (fu + 1) (nI (vL fa)) (nI (vL fb)) (nI acc) (nI k) = f_X3_third_b16 (f_X3_third_L16 fu) (nI (vL fa)) (nI (vL fb)) (nI acc) (nI k) := rfl
    have go : f_X3_third_b31 (f_X3_third_L16 fu) (nI (vL fa)) (nI (vL fb)) (nI acc) (nI k) = some (nI (mt d (acc * 10 + tgd (fa.headD 0) (fb.headD 0)) fa.tail fb.tail)) := by
      unfold f_X3_third_b31
      rw [r10 h1, r10 h2, d10 h1, d10 h2, (vL_m ha).1, (vL_m ha).2, (vL_m hb).1, (vL_m hb).2, tg_C ⟨_, ha.h4⟩ ⟨_, hb.h4⟩, bs, show (10 : Int32) = nI 10 from rfl, pk_mul, nI_add, nI_1]
      exact ih (k + 1) fu _ fa.tail fb.tail (by omega) (by omega) ha.tail hb.tail (by rw [← (vL_m ha).2]; omega) (by rw [← (vL_m hb).2]; omega)
    rw [e]
    unfold f_X3_third_b16 f_X3_third_b66
    rw [if_neg (show ¬ (6 : Int32) ≤ nI k from nI_ge (b := 6) (by omega) (by omega)), go]
    cases fa with
    | nil =>
      rw [if_neg (show ¬ 0 < nI (vL []) by decide)]
      cases fb with
      | nil =>
        rw [if_pos (show nI (vL []) ≤ 0 by decide), mt_nil]
      | cons c fb =>
        rw [if_neg (vc_p hb.hd h2)]
        rfl
    | cons c fa =>
      rw [if_pos (show (0 : Int32) < nI (vL (c :: fa)) from (nlt (a := 0) (by omega) h1).mpr (show 0 < c + 10 * vL fa by have := ha.hd; omega))]
      rfl
theorem signs_M : ∀ (l : List Nat) (fu k : Nat), Lg l → vL l < 2 ^ 31 → l.length < fu → f_X11_signs_L4 fu (nI k) (nI (vL l)) = some (nI (k + l.length)) := by
  intro l
  induction l with
  | nil =>
    intro fu k h hb hfu
    obtain ⟨fu, rfl⟩ : ∃ m, fu = m + 1 := ⟨fu - 1, by omega⟩
    show f_X11_signs_b4 _ (nI k) (nI 0) = _
    unfold f_X11_signs_b4
    rw [if_pos (by decide)]
    rfl
  | cons c l ih =>
    intro fu k h hb hfu
    simp only [List.length_cons] at hfu
    obtain ⟨fu, rfl⟩ : ∃ m, fu = m + 1 := ⟨fu - 1, by omega⟩
    show f_X11_signs_b4 _ (nI k) (nI (vL (c :: l))) = _
    unfold f_X11_signs_b4
    rw [if_neg (vc_p h.hd hb), vc_d h.hd hb, nI_1, ih fu (k + 1) h.tl (vl_tl hb) (by omega), List.length_cons]
    congr 2
    omega
theorem power_M (k : Nat) (hk : k ≤ 6) : ∀ (d j fu : Nat), j + d = k → d < fu → f_X11_power_L4 fu (nI k) (nI (10 ^ j)) (nI j) = some (nI (10 ^ k)) := by
  intro d
  induction d with
  | zero =>
    intro j fu hj hfu
    obtain ⟨fu, rfl⟩ : ∃ m, fu = m + 1 := ⟨fu - 1, by omega⟩
    have : j = k := by omega
    subst this
    show f_X11_power_b4 _ (nI j) (nI (10 ^ j)) (nI j) = _
    unfold f_X11_power_b4
    rw [if_pos ((nle (by omega) (by omega)).mpr (by omega))]
  | succ d ih =>
    intro j fu hj hfu
    obtain ⟨fu, rfl⟩ : ∃ m, fu = m + 1 := ⟨fu - 1, by omega⟩
    show f_X11_power_b4 _ (nI k) (nI (10 ^ j)) (nI j) = _
    unfold f_X11_power_b4
    rw [if_neg (show ¬ nI k ≤ nI j from fun z => absurd ((nle (by omega) (by omega)).mp z) (by omega)), show (10 : Int32) = nI 10 from rfl, pk_mul, nI_1, ← Nat.pow_succ]
    exact ih (j + 1) fu (by omega) (by omega)
theorem dg_vL : ∀ (l : List Nat) (p : Nat), Lg l → dg (vL l) p = l.getD p 0 := by
  intro l
  induction l with
  | nil =>
    intro p _
    unfold dg
    rw [show vL [] = 0 from rfl, Nat.zero_div]
    simp
  | cons c l ih =>
    intro p h
    cases p with
    | zero => rw [dg_0, (vL_m h).1]; rfl
    | succ p => rw [dg_s, (vL_m h).2]; exact ih p h.tl
theorem signAt_M {l : List Nat} (h : Lg l) (hl : l.length ≤ 6) (j : Nat) (hj : j ≤ 6) : f_X11_signAt (nI (vL l)) (nI j) = some (nI (l.reverse.getD j 0)) := by
  have hb := vl_le h hl
  have hs : f_X11_signs (nI (vL l)) = some (nI l.length) := by
    have := signs_M l FU 0 h (by omega) (by unfold FU; omega)
    rw [Nat.zero_add] at this
    exact this
  unfold f_X11_signAt
  rw [hs, bs, bs]
  by_cases g : l.length ≤ j
  · rw [if_pos ((nle (by omega) (by omega)).mpr g), List.getD_eq_getElem?_getD, List.getElem?_eq_none (by simpa using g)]
    rfl
  · rw [if_neg (fun z => g ((nle (by omega) (by omega)).mp z))]
    have e1 : nI l.length - 1 - nI j = nI (l.length - 1 - j) := by
      rw [show (1 : Int32) = nI 1 from rfl, pk_sub (by omega), pk_sub (by omega)]
    have hp : f_X11_power (nI (l.length - 1 - j)) = some (nI (10 ^ (l.length - 1 - j))) := power_M _ (by omega) (l.length - 1 - j) 0 FU (by omega) (by unfold FU; omega)
    rw [e1, hp, bs, if_neg (nI_ne0 (Nat.pow_pos (by omega)) (p10 (by omega))), t10 (by omega) (by omega), dg_vL l _ h]
    congr 2
    rw [List.getD_eq_getElem?_getD, List.getD_eq_getElem?_getD, List.getElem?_reverse (by omega)]
theorem meet_M {la lb : List Nat} (ha : Lg la) (hla : la.length ≤ 6) (hb : Lg lb) (hlb : lb.length ≤ 6) (τ : St) : ∀ (d j fu acc : Nat), j + d = 6 → d < fu → f_X11_meet_L26 fu τ (nI (vL la)) (nI (vL lb)) (nI acc) (nI j) = some (nI (mt d acc (la.reverse.drop j) (lb.reverse.drop j)), τ) := by
  intro d
  induction d with
  | zero =>
    intro j fu acc hj hfu
    obtain ⟨fu, rfl⟩ : ∃ m, fu = m + 1 := ⟨fu - 1, by omega⟩
    have hj : j = 6 := by omega
    subst hj
    show f_X11_meet_b26 _ τ _ _ (nI acc) (nI 6) = _
    unfold f_X11_meet_b26
    rw [if_pos (by decide)]
    rfl
  | succ d ih =>
    intro j fu acc hj hfu
    obtain ⟨fu, rfl⟩ : ∃ m, fu = m + 1 := ⟨fu - 1, by omega⟩
    have e : f_X11_meet_L26 (fu + 1) τ (nI (vL la)) (nI (vL lb)) (nI acc) (nI j) = f_X11_meet_b26 (f_X11_meet_L26 fu) τ (nI (vL la)) (nI (vL lb)) (nI acc) (nI j) := rfl
    have hd : ∀ l : List Nat, (l.drop j).headD 0 = l.getD j 0 := fun l => by
      rw [List.getD_eq_getElem?_getD, List.headD_eq_head?_getD, List.head?_drop]
    have g5 : ∀ l : List Nat, Lg l → l.getD j 0 < 5 := fun l h => by
      rw [← hd]
      exact Lg.h4 (fun c hc => h c (List.mem_of_mem_drop hc))
    have ga := g5 la.reverse ha.rev
    have gb := g5 lb.reverse hb.rev
    have step : f_X11_meet_b26 (f_X11_meet_L26 fu) τ (nI (vL la)) (nI (vL lb)) (nI acc) (nI j) = if tgd (la.reverse.getD j 0) (lb.reverse.getD j 0) = 0 then f_X11_meet_L26 fu τ (nI (vL la)) (nI (vL lb)) (nI acc) (nI (j + 1)) else f_X11_meet_L26 fu τ (nI (vL la)) (nI (vL lb)) (nI (acc * 10 + tgd (la.reverse.getD j 0) (lb.reverse.getD j 0))) (nI (j + 1)) := by
      unfold f_X11_meet_b26
      rw [if_neg (show ¬ (6 : Int32) ≤ nI j from nI_ge (b := 6) (by omega) (by omega)), signAt_M ha hla j (by omega), signAt_M hb hlb j (by omega), bs, bs]
      generalize la.reverse.getD j 0 = a at ga ⊢
      generalize lb.reverse.getD j 0 = b at gb ⊢
      unfold f_X11_meet_b59 f_X11_meet_b74 f_X11_meet_b104 f_X11_meet_b105
      have e10 : (10 : Int32) * nI acc = nI (acc * 10) := by rw [Nat.mul_comm]; exact pk_mul 10 acc
      rw [nI_1, e10, show nI (acc * 10 + tgd a b) = nI (acc * 10) + nI (tgd a b) from (nI_add _ _).symm]
      generalize nI (acc * 10) = A
      generalize nI (j + 1) = J
      rcases (show a = 0 ∨ a = 1 ∨ a = 2 ∨ a = 3 ∨ a = 4 by omega) with rfl | rfl | rfl | rfl | rfl <;> rcases (show b = 0 ∨ b = 1 ∨ b = 2 ∨ b = 3 ∨ b = 4 by omega) with rfl | rfl | rfl | rfl | rfl
      all_goals rfl
    rw [e, step]
    have nx := ih (j + 1) fu
    have dr : ∀ l : List Nat, l.drop (j + 1) = (l.drop j).tail := fun l => by rw [List.tail_drop]
    by_cases h0 : la.reverse.drop j = [] ∧ lb.reverse.drop j = []
    · have z : tgd (la.reverse.getD j 0) (lb.reverse.getD j 0) = 0 := by
        rw [← hd, ← hd, h0.1, h0.2]; rfl
      rw [if_pos z, nx acc (by omega) (by omega), dr, dr, h0.1, h0.2, mt_nil]
      rw [show ([] : List Nat).tail = [] from rfl, mt_nil]
    · have z : ¬ tgd (la.reverse.getD j 0) (lb.reverse.getD j 0) = 0 := by
        have pos : ∀ l : List Nat, Lg l → l.drop j ≠ [] → 0 < l.getD j 0 := fun l h hne => by
          rw [← hd]
          cases e : l.drop j with
          | nil => exact absurd e hne
          | cons c t => exact (h c (List.mem_of_mem_drop (by rw [e]; exact List.mem_cons_self ..))).1
        have : 0 < la.reverse.getD j 0 ∨ 0 < lb.reverse.getD j 0 := by
          by_cases q : la.reverse.drop j = []
          · exact Or.inr (pos _ hb.rev (fun w => h0 ⟨q, w⟩))
          · exact Or.inl (pos _ ha.rev q)
        unfold tgd
        repeat' split
        all_goals omega
      rw [if_neg z, nx _ (by omega) (by omega), dr, dr]
      rw [show mt (d + 1) acc (la.reverse.drop j) (lb.reverse.drop j) = if la.reverse.drop j = [] ∧ lb.reverse.drop j = [] then acc else mt d (acc * 10 + tgd ((la.reverse.drop j).headD 0) ((lb.reverse.drop j).headD 0)) (la.reverse.drop j).tail (lb.reverse.drop j).tail from rfl, if_neg h0, hd, hd]
theorem op_meet : Op2 RelP f_X10_meet f_X11_meet := by
  intro σ τ hR a b
  unfold f_X10_meet f_X11_meet
  have bad : (f_X10_meet_b14 σ = some (-2, sI σ 13 (σ.1 13 + 1))) ∧ f_X11_meet_b14 τ = some (-2, sE τ 4 0 (τ.2.2 4 0 + 1)) := ⟨rfl, rfl⟩
  obtain ⟨v, v1, v2, ⟨rfl, ha⟩ | ⟨rfl, ha⟩⟩ := isL a
  case inr => exact ⟨-2, _, _, by rw [v1, b0]; exact bad.1, by rw [v2, b0]; exact bad.2, hR.bad⟩
  rw [v1, v2, b1, b1]
  obtain ⟨v, v1, v2, ⟨rfl, hb⟩ | ⟨rfl, hb⟩⟩ := isL b
  case inr => exact ⟨-2, _, _, by rw [v1, b0]; exact bad.1, by rw [v2, b0]; exact bad.2, hR.bad⟩
  rw [v1, v2, b1, b1]
  obtain ⟨ma, rfl, hma⟩ := ha
  obtain ⟨la, hla, hga, rfl⟩ := hma.list
  obtain ⟨mb, rfl, hmb⟩ := hb
  obtain ⟨lb, hlb, hgb, rfl⟩ := hmb.list
  refine ⟨nI (mt 6 0 la.reverse lb.reverse), σ, τ, ?_, ?_, hR⟩
  · unfold f_X3_third
    rw [turned_C hga hla, turned_C hgb hlb, bs, bs]
    have h1 := vl_le hga.rev (by simpa using hla)
    have h2 := vl_le hgb.rev (by simpa using hlb)
    have := third_C 6 0 FU 0 la.reverse lb.reverse (by omega) (by unfold FU; omega) hga.rev hgb.rev (by omega) (by omega)
    have this : f_X3_third_L16 FU (nI (vL la.reverse)) (nI (vL lb.reverse)) 0 0 = some (nI (mt 6 0 la.reverse lb.reverse)) := this
    rw [this]
    rfl
  · exact meet_M hga hla hgb hlb τ 6 0 FU 0 (by omega) (by unfold FU; omega)
