/-! is there a row at all -/
theorem nd_len (n : Nat) : ∀ r : List Nat, r.Nodup → (∀ t ∈ r, t < n) → ((List.range n).filter (fun c => decide (c ∉ r))).length + r.length = n := by
  intro r
  induction r with
  | nil =>
    intro _ _
    rw [List.filter_eq_self.mpr (fun c _ => by simp), List.length_range]
    rfl
  | cons t r ih =>
    intro h hb
    have h1 := ih (List.nodup_cons.mp h).2 (fun x hx => hb x (List.mem_cons_of_mem _ hx))
    have hn : t ∉ r := (List.nodup_cons.mp h).1
    have ht : t < n := hb t (List.mem_cons_self ..)
    have nd : ((List.range n).filter (fun c => decide (c ∉ r))).Nodup := List.Pairwise.filter _ List.nodup_range
    have e : (List.range n).filter (fun c => decide (c ∉ t :: r)) = ((List.range n).filter (fun c => decide (c ∉ r))).erase t := by
      rw [List.Nodup.erase_eq_filter nd, List.filter_filter]
      apply List.filter_congr
      intro c _
      by_cases g1 : c = t
      · simp [g1]
      · simp [g1]
    have hm : t ∈ (List.range n).filter (fun c => decide (c ∉ r)) := List.mem_filter.mpr ⟨List.mem_range.mpr ht, by simpa using hn⟩
    rw [e, List.length_erase_of_mem hm, List.length_cons]
    have := List.length_pos_of_mem hm
    omega
def IsRow (M : Nat → Int32) (st : Int32) (a : Nat) : List Nat → Prop
  | [] => False
  | [t] => t = a ∧ bt st a = true
  | c :: t :: r => fr M st (t :: r) c = true ∧ IsRow M st a (t :: r)
theorem IsRow.one {M : Nat → Int32} {st : Int32} {a : Nat} (h : bt st a = true) : IsRow M st a [a] := ⟨rfl, h⟩
theorem IsRow.add {M : Nat → Int32} {st : Int32} {a : Nat} {r : List Nat} {c : Nat} (h : IsRow M st a r) (hf : fr M st r c = true) : IsRow M st a (c :: r) := by
  cases r with
  | nil => cases hf
  | cons t r => exact ⟨hf, h⟩
theorem IsRow.el {M : Nat → Int32} {st : Int32} {a : Nat} {P : List Nat → Prop} (h1 : bt st a = true → P [a]) (h2 : ∀ r c, IsRow M st a r → fr M st r c = true → P r → P (c :: r)) : ∀ r, IsRow M st a r → P r := by
  intro r
  induction r with
  | nil => intro h; cases h
  | cons c r ih =>
    intro h
    cases r with
    | nil => obtain ⟨e, h⟩ := h; subst e; exact h1 h
    | cons t r => exact h2 (t :: r) c h.2 h.1 (ih h.2)
section ROWS
variable {M : Nat → Int32} {st : Int32} {a n : Nat}
theorem fr_st {r : List Nat} {c : Nat} (h : fr M st r c = true) : bt st c = true := by
  cases r with
  | nil => cases h
  | cons t r =>
    unfold fr at h
    simp only [Bool.and_eq_true] at h
    exact h.1.2
theorem IsRow.sd {r : List Nat} (h : IsRow M st a r) : ∀ t ∈ r, bt st t = true := by
  refine IsRow.el (P := fun r => ∀ t ∈ r, bt st t = true) ?_ ?_ r h
  · intro h t ht; rw [List.mem_singleton.mp ht]; exact h
  · intro r c h1 h2 ih t ht
    rcases List.mem_cons.mp ht with e | e
    · rw [e]; exact fr_st h2
    · exact ih t e
theorem IsRow.nd {r : List Nat} (h : IsRow M st a r) : r.Nodup := by
  refine IsRow.el (P := fun r => r.Nodup) ?_ ?_ r h
  · intro _; simp
  · intro r c h1 h2 ih; exact List.nodup_cons.mpr ⟨fr_no h2, ih⟩
theorem IsRow.len {r : List Nat} (h : IsRow M st a r) (hs : ∀ c, bt st c = true → c < n) : r.length ≤ n := by
  have := nd_len n r h.nd (fun t ht => hs t (h.sd t ht))
  omega
theorem IsRow.rok {r : List Nat} (h : IsRow M st a r) (hs : ∀ c, bt st c = true → c < n) (hn : n ≤ 7) : Rok r := ⟨h.nd, fun t ht => by have := hs t (h.sd t ht); omega⟩
theorem IsRow.ne {r : List Nat} (h : IsRow M st a r) : r ≠ [] := by rintro rfl; cases h
theorem IsRow.cut {r : List Nat} (h : IsRow M st a r) {c : Nat} (hc : c ∈ r) : ∃ r', IsRow M st a r' ∧ r'.head? = some c := by
  refine IsRow.el (P := fun r => c ∈ r → ∃ r', IsRow M st a r' ∧ r'.head? = some c) ?_ ?_ r h hc
  · intro h hc; exact ⟨[a], .one h, by rw [List.mem_singleton.mp hc]; rfl⟩
  · intro r k h1 h2 ih hc
    rcases List.mem_cons.mp hc with e | e
    · exact ⟨_, h1.add h2, by rw [e]; rfl⟩
    · exact ih e
theorem kidsR_in (P : Nat → Bool) : ∀ d x c, P c = true → x ≤ c → c < x + d → c ∈ kidsR P d x := by
  intro d
  induction d with
  | zero => intro x c _ h1 h2; omega
  | succ d ih =>
    intro x c hP h1 h2
    show c ∈ (if P x = true then x :: kidsR P d (x + 1) else kidsR P d (x + 1))
    by_cases e : c = x
    · subst e; rw [if_pos hP]; exact List.mem_cons_self ..
    · have := ih (x + 1) c hP (by omega) (by omega)
      split
      · exact List.mem_cons_of_mem _ this
      · exact this
theorem pre_self (d : Nat) (r : List Nat) : r ∈ pre M st d r := by cases d <;> exact List.mem_cons_self ..
theorem pre_row : ∀ (d : Nat) (r r' : List Nat), IsRow M st a r → r' ∈ pre M st d r → IsRow M st a r' := by
  intro d
  induction d with
  | zero => intro r r' h hm; rw [List.mem_singleton.mp hm]; exact h
  | succ d ih =>
    intro r r' h hm
    rcases List.mem_cons.mp hm with e | e
    · rw [e]; exact h
    · obtain ⟨c, hc, hr⟩ := List.mem_flatMap.mp e
      exact ih _ _ (h.add (kidsR_mem _ _ _ _ hc).1) hr
theorem pre_add : ∀ (d : Nat) (r r' : List Nat) (c : Nat), r' ∈ pre M st d r → r'.length < r.length + d → fr M st r' c = true → c < 7 → c :: r' ∈ pre M st d r := by
  intro d
  induction d with
  | zero =>
    intro r r' c hm hl
    rw [List.mem_singleton.mp hm] at hl
    omega
  | succ d ih =>
    intro r r' c hm hl hf hc
    rcases List.mem_cons.mp hm with e | e
    · subst e
      exact List.mem_cons_of_mem _ (List.mem_flatMap.mpr ⟨c, kidsR_in _ _ _ _ hf (by omega) (by omega), pre_self d _⟩)
    · obtain ⟨k, hk, hr⟩ := List.mem_flatMap.mp e
      exact List.mem_cons_of_mem _ (List.mem_flatMap.mpr ⟨k, hk, ih (k :: r) r' c hr (by rw [List.length_cons]; omega) hf hc⟩)
theorem row_pre (hs : ∀ c, bt st c = true → c < n) (hn : n ≤ 7) {r : List Nat} (h : IsRow M st a r) : r ∈ pre M st 7 [a] := by
  refine IsRow.el (P := fun r => r ∈ pre M st 7 [a]) ?_ ?_ r h
  · intro _; exact pre_self 7 _
  · intro r c h1 h2 ih
    have hl := (IsRow.add h1 h2).len hs
    have := hs _ (fr_st h2)
    rw [List.length_cons] at hl
    exact pre_add 7 [a] _ _ ih (by simp only [List.length_cons, List.length_nil]; omega) h2 (by omega)
end ROWS
theorem way_1 (fu : Nat) (τ : St) (g : Int32) : f_X11_isThereWay_L9 (fu + 1) τ g 1 = some (1, τ) := by
  show f_X11_isThereWay_b9 _ τ g 1 = _
  unfold f_X11_isThereWay_b9
  by_cases h : τ.1 7 ≤ 0
  · rw [if_pos h]; rfl
  · rw [if_neg h, if_neg (show ¬ (1 : Int32) = 0 by decide)]; rfl
theorem way_L {g : Nat} (hg : g < 7) {τ0 : St} : ∀ (l : List (List Nat)) (r : List Nat) (fu : Nat) (τ : St), here (τ0.2.2 1) (τ0.1 10) r = l → l.length < fu → RS τ r → Rok r → SR τ0 τ → ∃ τ', f_X11_isThereWay_L9 fu τ (nI g) 0 = some (if l.any (isE g) = true then 1 else 0, τ') ∧ SR τ0 τ' := by
  intro l
  induction l with
  | nil =>
    intro r fu τ hh hfu hS hr h0
    obtain ⟨fu, rfl⟩ : ∃ m, fu = m + 1 := ⟨fu - 1, by omega⟩
    have hr0 : r = [] := by
      unfold here at hh
      by_cases q : r = []
      · exact q
      · rw [if_neg q] at hh; cases hh
    subst hr0
    refine ⟨τ, ?_, h0⟩
    show f_X11_isThereWay_b9 _ τ (nI g) 0 = _
    unfold f_X11_isThereWay_b9
    rw [hS.1, if_pos (by decide)]
    rfl
  | cons r1 l ih =>
    intro r fu τ hh hfu hS hr h0
    rw [List.length_cons] at hfu
    obtain ⟨fu, rfl⟩ : ∃ m, fu = m + 2 := ⟨fu - 2, by omega⟩
    have hne : r ≠ [] := fun q => by unfold here at hh; rw [if_pos q] at hh; cases hh
    rw [here_nx _ _ hr hne] at hh
    injection hh with e1 e2
    subst e1
    have hl := hr.le
    obtain ⟨τ1, g1, g2, g3⟩ := goOn_M hS hr
    rw [h0.2.2 1 (by omega), h0.1 10 (by omega)] at g2
    have hpos : 0 < r.length := List.length_pos_iff.mpr hne
    have e : f_X11_isThereWay_L9 (fu + 2) τ (nI g) 0 = f_X11_isThereWay_b9 (f_X11_isThereWay_L9 (fu + 1)) τ (nI g) 0 := rfl
    rw [e]
    unfold f_X11_isThereWay_b9
    rw [hS.1, if_neg (nI_nle hpos (by omega)), if_pos rfl, ends_M hS hr hne g hg, bs]
    dsimp only
    rw [g1, bs, List.any_cons]
    by_cases q : isE g r = true
    · rw [if_pos q, q, Bool.true_or, if_pos rfl]
      exact ⟨τ1, way_1 fu τ1 (nI g), h0.tr g3⟩
    · have q2 : isE g r = false := by simpa using q
      rw [if_neg q, q2, Bool.false_or]
      exact ih _ (fu + 1) τ1 e2 (by omega) g2 (nx_ok r 0 hr (by omega)) (h0.tr g3)
/-- is there a row from a to g -/
def Way (M : Nat → Int32) (st : Int32) (a g : Nat) : Prop := ∃ r, IsRow M st a r ∧ r.head? = some g
theorem way_M {τ : St} {n : Nat} (h0 : τ.2.2 1 0 = nI n) (hn : n ≤ 7) {a g : Nat} (ha : a < n) (hg : g < n) (f : Int32) : ∃ (b : Bool) (τ' : St), f_X11_isThereWay τ (nI a) (nI g) f = some (if b = true then 1 else 0, τ') ∧ (b = true ↔ Way (τ.2.2 1) (stn n f) a g) ∧ (∀ k, k ≠ 7 → k ≠ 10 → τ'.1 k = τ.1 k) ∧ τ'.2.1 = τ.2.1 ∧ (∀ x, x ≠ 5 → τ'.2.2 x = τ.2.2 x) := by
  obtain ⟨τ1, q1, q2, q3, q4, q5, q6⟩ := first_M h0 hn ha f
  have hs : ∀ c, bt (stn n f) c = true → c < n := fun c hb => by
    rw [stn_b hn] at hb
    simp only [Bool.and_eq_true, decide_eq_true_eq] at hb
    exact hb.1
  unfold f_X11_isThereWay
  rw [q1, bs]
  have m1 : τ1.2.2 1 = τ.2.2 1 := q6 1 (by omega)
  have fin : ∀ (r : List Nat) (l : List (List Nat)), here (τ1.2.2 1) (τ1.1 10) r = l → l.length < FU → RS τ1 r → Rok r → ∃ τ', f_X11_isThereWay_L9 FU τ1 (nI g) 0 = some (if l.any (isE g) = true then 1 else 0, τ') ∧ SR τ1 τ' := fun r l h1 h2 h3 h4 => way_L (by omega) l r FU τ1 h1 h2 h3 h4 (SR.rf τ1)
  by_cases hf : bt f a = true
  · rw [if_pos hf] at q3
    obtain ⟨τ2, z1, z2⟩ := fin [] [] rfl (by unfold FU; simp) q3 ⟨by simp, fun x hx => by cases hx⟩
    refine ⟨false, τ2, z1, ?_, fun k h1 h2 => (z2.1 k h1).trans (q4 k h1 h2), z2.2.1.trans q5, fun x hx => (z2.2.2 x hx).trans (q6 x hx)⟩
    refine ⟨fun h => (by cases h), fun ⟨r, hr, _⟩ => ?_⟩
    have : bt (stn n f) a = true := IsRow.el (P := fun _ => bt (stn n f) a = true) (fun h => h) (fun _ _ _ _ h => h) r hr
    rw [stn_b hn, hf] at this
    simp at this
  · rw [if_neg hf] at q3
    have hsa : bt (stn n f) a = true := by
      have : bt f a = false := by simpa using hf
      rw [stn_b hn, this, decide_eq_true ha]; rfl
    obtain ⟨τ2, z1, z2⟩ := fin [a] (pre (τ1.2.2 1) (τ1.1 10) 7 [a]) (here_1 _ _ a) (by unfold FU; exact pre_fu _ _ a) q3 (rok_1 (by omega))
    refine ⟨_, τ2, z1, ?_, fun k h1 h2 => (z2.1 k h1).trans (q4 k h1 h2), z2.2.1.trans q5, fun x hx => (z2.2.2 x hx).trans (q6 x hx)⟩
    rw [m1, q2, List.any_eq_true]
    constructor
    · rintro ⟨r, hr, hE⟩
      exact ⟨r, pre_row 7 [a] r (.one hsa) hr, of_decide_eq_true hE⟩
    · rintro ⟨r, hr, hE⟩
      exact ⟨r, row_pre hs hn hr, decide_eq_true hE⟩
