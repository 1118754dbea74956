/-! how many rows there are between two trees -/
theorem count_flat {α β : Type} (p : β → Bool) (f : α → List β) (l : List α) : (l.flatMap f).countP p = (l.map (fun a => (f a).countP p)).sum := by
  induction l with
  | nil => rfl
  | cons a l ih => rw [List.flatMap_cons, List.countP_append, ih, List.map_cons, List.sum_cons]
section CZ
variable (M : Nat → Int32) (st : Int32) (g : Nat)
theorem pre_zero : ∀ (d c : Nat) (r : List Nat), g ∈ r → c ∉ r → (pre M st d (c :: r)).countP (isE g) = 0 := by
  intro d
  induction d with
  | zero =>
    intro c r h1 h2
    have : isE g (c :: r) = false := by
      unfold isE
      have : c ≠ g := fun e => h2 (e ▸ h1)
      simp [this]
    show [c :: r].countP (isE g) = 0
    simp [this]
  | succ d ih =>
    intro c r h1 h2
    have hf : isE g (c :: r) = false := by
      unfold isE
      have : c ≠ g := fun e => h2 (e ▸ h1)
      simp [this]
    show ((c :: r) :: (kidsR (fr M st (c :: r)) 7 0).flatMap (fun x => pre M st d (x :: c :: r))).countP (isE g) = 0
    rw [List.countP_cons, hf, count_flat]
    have : ((kidsR (fr M st (c :: r)) 7 0).map (fun a => (pre M st d (a :: c :: r)).countP (isE g))).sum = 0 := by
      have hz : ∀ l : List Nat, (∀ a ∈ l, a ∉ c :: r) → (l.map (fun a => (pre M st d (a :: c :: r)).countP (isE g))).sum = 0 := by
        intro l
        induction l with
        | nil => intro _; rfl
        | cons a l ihl =>
          intro h
          rw [List.map_cons, List.sum_cons, ih a (c :: r) (List.mem_cons_of_mem _ h1) (h a (List.mem_cons_self ..)), ihl (fun x hx => h x (List.mem_cons_of_mem _ hx))]
      exact hz _ (fun a ha => fr_no (kidsR_mem _ _ _ _ ha).1)
    simp [this]
theorem subs_zero (r : List Nat) (h : g ∈ r) : (subs M st r 0).countP (isE g) = 0 := by
  unfold subs
  rw [count_flat]
  have hz : ∀ l : List Nat, (∀ a ∈ l, a ∉ r) → (l.map (fun a => (pre M st (7 - r.length) (a :: r)).countP (isE g))).sum = 0 := by
    intro l
    induction l with
    | nil => intro _; rfl
    | cons a l ihl =>
      intro hh
      rw [List.map_cons, List.sum_cons, pre_zero M st g _ a r h (hh a (List.mem_cons_self ..)), ihl (fun x hx => hh x (List.mem_cons_of_mem _ hx))]
  exact hz _ (fun a ha => fr_no (kidsR_mem _ _ _ _ ha).1)
end CZ
theorem full_kids (M : Nat → Int32) (st : Int32) {r : List Nat} (h : Rok r) (hl : r.length = 7) : kidsR (fr M st r) 7 0 = [] := by
  have h1 := rok_len r h
  cases e : kidsR (fr M st r) 7 0 with
  | nil => rfl
  | cons a l =>
    have hm := kidsR_mem (fr M st r) 7 0 a (by rw [e]; exact List.mem_cons_self ..)
    have : a ∈ (List.range 7).filter (fun c => decide (c ∉ r)) := List.mem_filter.mpr ⟨List.mem_range.mpr (by omega), by simpa using fr_no hm.1⟩
    have := List.length_pos_of_mem this
    omega
/-- what the class needs of the forest where it walks: trees, touches, who is felled -/
def Wk (σ : St) (M : Nat → Int32) (n : Nat) (st : Int32) : Prop := σ.1 106 = nI n ∧ n ≤ 7 ∧ (∀ t, t < n → σ.2.2 3 t = M (13 + t)) ∧ (∀ t i, t < 7 → bt (M (13 + t)) i = true → i < n) ∧ (∀ c, c < n → bt st c = !bt (σ.1 107) c) ∧ (∀ c, bt st c = true → c < n)
theorem kid_bits {σ : St} {M : Nat → Int32} {n : Nat} {st u : Int32} (hW : Wk σ M n st) {t : Nat} {r : List Nat} (ht : t < n) (hu : ∀ c, bt u c = decide (c ∈ t :: r)) (c : Nat) (hc : c < 7) : bt (((σ.2.2 3 t) &&& ((σ.1 107) ^^^ (-1))) &&& (u ^^^ (-1))) c = fr M st (t :: r) c := by
  obtain ⟨h1, h2, h3, h4, h5, h6⟩ := hW
  have fe : fr M st (t :: r) c = (bt (M (13 + t)) c && bt st c && !decide (c ∈ t :: r)) := rfl
  rw [b_and, b_and, b_xor, b_xor, b_m1 c (by omega), hu, h3 t ht, fe]
  by_cases q : c < n
  · rw [h5 c q]
    cases bt (M (13 + t)) c <;> cases bt (σ.1 107) c <;> cases decide (c ∈ t :: r) <;> rfl
  · have : bt (M (13 + t)) c = false := by
      cases e : bt (M (13 + t)) c
      · rfl
      · exact absurd (h4 t c (by omega) e) q
    rw [this]; rfl
theorem fr_n {σ : St} {M : Nat → Int32} {n : Nat} {st : Int32} (hW : Wk σ M n st) {r : List Nat} {c : Nat} (h : fr M st r c = true) : c < n := by
  cases r with
  | nil => cases h
  | cons t r =>
    unfold fr at h
    simp only [Bool.and_eq_true] at h
    exact hW.2.2.2.2.2 c h.1.2
theorem kidsR_stop (P : Nat → Bool) {n : Nat} (h : ∀ c, P c = true → c < n) : ∀ d x, n ≤ x → kidsR P d x = [] := by
  intro d x hx
  cases e : kidsR P d x with
  | nil => rfl
  | cons a l =>
    have := kidsR_mem P d x a (by rw [e]; exact List.mem_cons_self ..)
    have := h a this.1
    omega
theorem rowsOn_C {σ : St} {M : Nat → Int32} {n g : Nat} {st : Int32} (hW : Wk σ M n st) (hg : g < n) : ∀ (d t : Nat) (r : List Nat) (u : Int32), (t :: r).length + d = 8 → Rok (t :: r) → t < n → (∀ c, bt u c = decide (c ∈ t :: r)) → f_X7_rowsOn (d + 1) σ (nI t) (nI g) u (nI (t :: r).length) = some (nI ((pre M st d (t :: r)).countP (isE g)), σ) := by
  have hn := hW.2.1
  intro d
  induction d with
  | zero =>
    intro t r u hl hr ht hu
    have := hr.le
    omega
  | succ d ih =>
    intro t r u hl hr ht hu
    have hl7 := hr.le
    have e : f_X7_rowsOn (d + 2) σ (nI t) (nI g) u (nI (t :: r).length) = f_X7_rowsOn_body (f_X7_rowsOn (d + 1)) σ (nI t) (nI g) u (nI (t :: r).length) := rfl
    have pe : pre M st (d + 1) (t :: r) = (t :: r) :: subs M st (t :: r) 0 := by
      rw [show d + 1 = 8 - (t :: r).length by omega]
      exact pre_s M st hl7
    rw [e, pe, List.countP_cons]
    unfold f_X7_rowsOn_body
    by_cases q : t = g
    · subst q
      rw [if_pos rfl, subs_zero M st t (t :: r) (List.mem_cons_self ..), if_pos (by unfold isE; simp)]
      rfl
    · have hE : ¬ isE g (t :: r) = true := by unfold isE; simp [q]
      rw [if_neg (fun z => q ((neq (by omega) (by omega)).mp z)), if_neg hE, Nat.add_zero]
      by_cases h7 : (t :: r).length = 7
      · rw [if_neg (show ¬ nI (t :: r).length < (7 : Int32) from fun z => absurd ((nlt (b := 7) (by omega) (by omega)).mp z) (by omega))]
        unfold subs
        rw [Nat.sub_zero, full_kids M st hr h7]
        rfl
      · rw [if_pos (show nI (t :: r).length < (7 : Int32) from nI_lt (b := 7) (by omega) (by omega)), ck_nI (show t < 7 by omega) (by omega), cT, nI_clamp (show t < 2 ^ 31 by omega)]
        have hb := kid_bits hW ht hu
        generalize ((σ.2.2 3 t) &&& ((σ.1 107) ^^^ (-1))) &&& (u ^^^ (-1)) = free at hb
        have key : ∀ (k x fu a : Nat), x + k = 7 → k < fu → f_X7_rowsOn_L47 (f_X7_rowsOn (d + 1)) fu σ (nI g) u (nI (t :: r).length) free (nI a) (nI x) = some (nI (a + ((kidsR (fr M st (t :: r)) k x).flatMap (fun c => pre M st d (c :: t :: r))).countP (isE g)), σ) := by
          intro k
          induction k with
          | zero =>
            intro x fu a hx hfu
            obtain ⟨fu, rfl⟩ : ∃ m, fu = m + 1 := ⟨fu - 1, by omega⟩
            show f_X7_rowsOn_b47 _ _ σ (nI g) u (nI (t :: r).length) free (nI a) (nI x) = _
            unfold f_X7_rowsOn_b47
            rw [hW.1, if_pos ((nle (by omega) (by omega)).mpr (by omega))]
            rfl
          | succ k ihk =>
            intro x fu a hx hfu
            obtain ⟨fu, rfl⟩ : ∃ m, fu = m + 1 := ⟨fu - 1, by omega⟩
            have e : f_X7_rowsOn_L47 (f_X7_rowsOn (d + 1)) (fu + 1) σ (nI g) u (nI (t :: r).length) free (nI a) (nI x) = f_X7_rowsOn_b47 (f_X7_rowsOn (d + 1)) (f_X7_rowsOn_L47 (f_X7_rowsOn (d + 1)) fu) σ (nI g) u (nI (t :: r).length) free (nI a) (nI x) := rfl
            rw [e]
            unfold f_X7_rowsOn_b47 f_X7_rowsOn_b92
            rw [hW.1]
            by_cases hxn : n ≤ x
            · rw [if_pos ((nle (by omega) (by omega)).mpr hxn), kidsR_stop _ (fun c h => fr_n hW h) _ _ hxn]
              rfl
            · rw [if_neg (fun z => hxn ((nle (by omega) (by omega)).mp z)), bit_v (show x < 32 by omega), hb x (by omega)]
              have ke : kidsR (fr M st (t :: r)) (k + 1) x = if fr M st (t :: r) x = true then x :: kidsR (fr M st (t :: r)) k (x + 1) else kidsR (fr M st (t :: r)) k (x + 1) := rfl
              rw [ke]
              by_cases hf : fr M st (t :: r) x = true
              · rw [if_pos hf, if_pos rfl, if_pos hf, nI_1, List.flatMap_cons, List.countP_append]
                have hr2 := hr.cons (fr_no hf) (show x < 7 by omega)
                have := ih x (t :: r) (u ||| ((1 : Int32) <<< (nI x &&& 31))) (by rw [List.length_cons]; omega) hr2 (by omega) (fun c => by
                  rw [bt_set (by omega), hu]
                  by_cases g1 : c = x
                  · simp [g1]
                  · simp [g1])
                rw [List.length_cons] at this
                rw [this, bs]
                dsimp only
                rw [nI_add, nI_1, ihk (x + 1) fu _ (by omega) (by omega)]
                congr 3
                omega
              · rw [if_neg hf, if_neg (show ¬ (0 : Int32) = 1 by decide), if_neg hf, nI_1]
                exact ihk (x + 1) fu a (by omega) (by omega)
        have := key 7 0 FU 0 (by omega) (by unfold FU; omega)
        rw [Nat.zero_add] at this
        unfold subs
        rw [Nat.sub_zero, show 7 - (t :: r).length = d by omega]
        exact this
/-! the first row -/
theorem low_bits : ∀ n : Fin 8, ∀ c : Fin 32, bt (((1 : Int32) <<< (nI n.val &&& 31)) - 1) c.val = decide (c.val < n.val) := by decide +kernel
def stn (n : Nat) (f : Int32) : Int32 := (((1 : Int32) <<< (nI n &&& 31)) - 1) &&& (f ^^^ (-1))
theorem stn_b {n : Nat} (hn : n ≤ 7) (f : Int32) (c : Nat) : bt (stn n f) c = (decide (c < n) && !bt f c) := by
  unfold stn
  by_cases h : c < 32
  · rw [b_and, b_xor, b_m1 c h, low_bits ⟨n, by omega⟩ ⟨c, h⟩]
    simp
  · rw [b_big (by omega), decide_eq_false (by omega)]
    rfl
theorem first_M {τ : St} {n : Nat} (h0 : τ.2.2 1 0 = nI n) (hn : n ≤ 7) {t : Nat} (ht : t < n) (f : Int32) : ∃ τ1, f_X11_layFirst τ (nI t) f = some τ1 ∧ τ1.1 10 = stn n f ∧ RS τ1 (if bt f t = true then [] else [t]) ∧ (∀ k, k ≠ 7 → k ≠ 10 → τ1.1 k = τ.1 k) ∧ τ1.2.1 = τ.2.1 ∧ (∀ a, a ≠ 5 → τ1.2.2 a = τ.2.2 a) := by
  unfold f_X11_layFirst f_X11_many f_X11_layFirst_b33
  rw [bs]
  dsimp only
  rw [h0]
  have e : (((1 : Int32) <<< (nI n &&& 31)) - 1) &&& (f ^^^ (-1)) = stn n f := rfl
  rw [e, has_v (show t < 32 by omega), stn_b hn, decide_eq_true ht]
  by_cases g : bt f t = true
  · rw [if_pos g, g, if_neg (show ¬ (true && !true) = true by decide), b0]
    refine ⟨_, rfl, rfl, ⟨rfl, fun j hj => absurd hj (by simp)⟩, fun k h1 h2 => ?_, rfl, fun a ha => ?_⟩
    · show (sI (sI τ 10 _) 7 _).1 k = _
      rw [sI1, if_neg h1, sI1, if_neg h2]
    · rw [sE3, if_neg ha]; rfl
  · have g2 : bt f t = false := by simpa using g
    rw [if_neg g, g2, if_pos (show (true && !false) = true by decide), b1]
    refine ⟨_, rfl, rfl, ⟨rfl, fun j hj => ?_⟩, fun k h1 h2 => ?_, rfl, fun a ha => ?_⟩
    · have hj : j = 0 := by simpa using hj
      subst hj
      rfl
    · show (sI (sI τ 10 _) 7 _).1 k = _
      rw [sI1, if_neg h1, sI1, if_neg h2]
    · rw [sE3, if_neg ha]; rfl
theorem RelP.wk {σ τ : St} (hR : RelP σ τ) {n nn rn un se : Nat} (hI : Inv (τ.2.2 1) n nn rn un se) : Wk σ (τ.2.2 1) n (stn n (τ.2.2 1 1)) := by
  have g2 := hR.2.1.2.2.2.2.2.2.2.1
  rw [hI.c0.1] at g2
  refine ⟨hR.2.1.1.trans hI.1.1, hI.1.2, g2, fun t i h hb => (hI.2.2.2.2.2.2.1 t i h hb).2.1, fun c hc => ?_, fun c hb => ?_⟩
  · rw [stn_b hI.1.2, decide_eq_true hc, hR.2.1.2.1]; rfl
  · rw [stn_b hI.1.2] at hb
    simp only [Bool.and_eq_true, decide_eq_true_eq] at hb
    exact hb.1
theorem here_1 (M : Nat → Int32) (st : Int32) (t : Nat) : here M st [t] = pre M st 7 [t] := by
  unfold here
  rw [if_neg (by simp)]
  exact rem_one M st t
theorem rok_1 {t : Nat} (h : t < 7) : Rok [t] := ⟨by simp, fun x hx => by rw [List.mem_singleton.mp hx]; exact h⟩
theorem op_ways : Op2 RelP f_X10_ways f_X11_ways := by
  intro σ τ hR a b
  obtain ⟨n, nn, rn, un, se, hI⟩ := hR.n
  have a1 : τ.2.2 1 0 = nI n := hI.1.1
  have a2 : n ≤ 7 := hI.1.2
  have e106 : σ.1 106 = nI n := hR.2.1.1.trans a1
  have e107 : σ.1 107 = τ.2.2 1 1 := hR.2.1.2.1
  have bad : (f_X10_ways_b16 σ = some (-2, sI σ 13 (σ.1 13 + 1))) ∧ f_X11_ways_b31 τ = some (-2, sE τ 4 0 (τ.2.2 4 0 + 1)) := ⟨rfl, rfl⟩
  unfold f_X10_ways f_X11_ways
  by_cases hA : ¬ Tr n a
  · exact ⟨-2, _, _, by rw [isT_n e106 a2 hA, p0]; exact bad.1, by rw [isM_n a1 a2 hA, p0]; exact bad.2, hR.bad⟩
  have hA := Classical.not_not.mp hA
  rw [isT_y e106 a2 hA, isM_y a1 a2 hA, p1, p1]
  dsimp only
  by_cases hB : ¬ Tr n b
  · exact ⟨-2, _, _, by rw [isT_n e106 a2 hB, p0]; exact bad.1, by rw [isM_n a1 a2 hB, p0]; exact bad.2, hR.bad⟩
  have hB := Classical.not_not.mp hB
  rw [isT_y e106 a2 hB, isM_y a1 a2 hB, p1, p1]
  dsimp only
  obtain ⟨t, ht, rfl⟩ := hA
  obtain ⟨g, hg, rfl⟩ := hB
  obtain ⟨τ1, q1, q2, q3, q4, q5, q6⟩ := first_M a1 a2 ht (τ.2.2 1 1)
  have hsm : SM τ τ1 := ⟨q4 18 (by omega) (by omega), fun a ha => q6 a (fun e => by subst e; exact absurd ha (by decide)), q5⟩
  have m1 : τ1.2.2 1 = τ.2.2 1 := q6 1 (by omega)
  unfold f_X11_manyWays f_X7_howMany f_X7_howMany_b20
  rw [q1, bs, bit_v (show t < 32 by omega), e107]
  by_cases hf : bt (τ.2.2 1 1) t = true
  · rw [if_pos hf] at q3
    obtain ⟨τ2, z1, z2⟩ := ways_L (τ0 := τ1) (show g < 7 by omega) [] [] FU 0 τ1 rfl (by unfold FU; simp) q3 ⟨by simp, fun x hx => by cases hx⟩ (SR.rf τ1)
    have z1 : f_X11_manyWays_L9 FU τ1 (nI g) 0 = some (nI 0, τ2) := z1
    rw [if_pos hf, if_pos rfl, if_neg (show ¬ (1 : Int32) = 0 by decide), z1]
    exact ⟨0, σ, τ2, rfl, rfl, hR.same (SC.rf σ) (hsm.tr z2.sm)⟩
  · rw [if_neg hf] at q3
    obtain ⟨τ2, z1, z2⟩ := ways_L (τ0 := τ1) (show g < 7 by omega) (pre (τ1.2.2 1) (τ1.1 10) 7 [t]) [t] FU 0 τ1 (here_1 _ _ t) (by unfold FU; exact pre_fu _ _ t) q3 (rok_1 (by omega)) (SR.rf τ1)
    have z1 : f_X11_manyWays_L9 FU τ1 (nI g) 0 = _ := z1
    have c := rowsOn_C (hR.wk hI) hg 7 t [] ((1 : Int32) <<< (nI t &&& 31)) (by simp) (rok_1 (by omega)) ht (fun c => by rw [bt_shl1 (by omega)]; simp)
    have c : f_X7_rowsOn 8 σ (nI t) (nI g) ((1 : Int32) <<< (nI t &&& 31)) 1 = _ := c
    rw [if_neg hf, if_neg (show ¬ (0 : Int32) = 1 by decide), if_pos rfl, c, z1, m1, q2, Nat.zero_add]
    exact ⟨_, σ, τ2, rfl, rfl, hR.same (SC.rf σ) (hsm.tr z2.sm)⟩
