/-! most, in the class: all sets -/
section MOSTD
variable {M : Nat → Int32} {st : Int32} {n : Nat}
def Tb (M : Nat → Int32) (st : Int32) (n : Nat) (σ : St) (S : Nat) : Prop := ∀ S', 1 ≤ S' → S' < S → ∀ t, t < n → σ.2.2 39 (S' * 7 + t) = nI (En M st n S' t)
def Ob (M : Nat → Int32) (st : Int32) (n : Nat) (σ : St) (S : Nat) : Prop := ∀ t, t < n → σ.2.2 40 t = nI ((allR M st n).countP (fun r => decide (so r < S) && (decide (t ∈ r) && decide (2 ≤ r.length))))
theorem set_L {K : St → Int32 → Option St} {S : Nat} (hS0 : 0 < S) : ∀ (d x fu a : Nat) (σ : St), Ms σ M n st → S < 2 ^ n → x + d = n → d < fu → Tb M st n σ S → (∀ t, t < x → σ.2.2 39 (S * 7 + t) = nI (En M st n S t)) → ∃ σ', f_X7_countRowsBySets_L40 K fu σ (nI S) (nI a) (nI x) = f_X7_countRowsBySets_L85 K FU σ' (nI S) (nI (a + (allR M st n).countP (fun r => decide (so r = S) && decide (x ≤ hd r)))) 0 ∧ SY σ σ' ∧ σ'.2.2 40 = σ.2.2 40 ∧ Tb M st n σ' (S + 1) := by
  intro d
  induction d with
  | zero =>
    intro x fu a σ hM hS hx hfu tab now
    obtain ⟨fu, rfl⟩ : ∃ m, fu = m + 1 := ⟨fu - 1, by omega⟩
    have hn := hM.1.2.1
    have hs := hM.1.2.2.2.2.2
    refine ⟨σ, ?_, SY.rf σ, rfl, fun S' h1 h2 t ht => ?_⟩
    · show f_X7_countRowsBySets_b40 K _ σ (nI S) (nI a) (nI x) = _
      unfold f_X7_countRowsBySets_b40
      rw [hM.1.1, if_pos ((nle (by omega) (by omega)).mpr (by omega)), cp_0]
      · rfl
      · intro r hr hp
        simp only [Bool.and_eq_true, decide_eq_true_eq] at hp
        obtain ⟨-, h2, h3⟩ := all_ok M st n hs hr
        cases r with
        | nil => exact absurd rfl h3
        | cons t r =>
          have := (h2 t (List.mem_cons_self ..)).2
          have : hd (t :: r) = t := rfl
          omega
    · by_cases e : S' = S
      · subst e; exact now t (by omega)
      · exact tab S' h1 (by omega) t ht
  | succ d ih =>
    intro x fu a σ hM hS hx hfu tab now
    obtain ⟨fu, rfl⟩ : ∃ m, fu = m + 1 := ⟨fu - 1, by omega⟩
    have hn := hM.1.2.1
    have h2n : 2 ^ n ≤ 128 := Nat.pow_le_pow_right (n := 2) (by omega) hn
    have ei : (nI S * 7) + nI x = nI (S * 7 + x) := by rw [show (7 : Int32) = nI 7 from rfl, pk_mul, nI_add]
    have re := ending_C hM hS0 hS (z := x) (by omega) tab
    have hY := SY.e σ 39 (S * 7 + x) (nI (En M st n S x)) (Or.inl rfl)
    have e39 : ∀ k, (sE σ 39 (S * 7 + x) (nI (En M st n S x))).2.2 39 k = if k = S * 7 + x then nI (En M st n S x) else σ.2.2 39 k := fun k => rfl
    obtain ⟨σ', z1, z2, z3, z4⟩ := ih (x + 1) fu (a + En M st n S x) (sE σ 39 (S * 7 + x) (nI (En M st n S x))) (hM.sy hY) hS (by omega) (by omega) (fun S' h1 h2 t ht => by
      rw [e39, if_neg (by omega)]
      exact tab S' h1 h2 t ht) (fun t ht => by
      rw [e39]
      by_cases g : t = x
      · rw [if_pos (by rw [g]), g]
      · rw [if_neg (by omega)]
        exact now t (by omega))
    refine ⟨σ', ?_, hY.tr z2, z3, z4⟩
    show f_X7_countRowsBySets_b40 K (f_X7_countRowsBySets_L40 K fu) σ (nI S) (nI a) (nI x) = _
    unfold f_X7_countRowsBySets_b40
    rw [hM.1.1, if_neg (show ¬ nI n ≤ nI x from fun z => absurd ((nle (by omega) (by omega)).mp z) (by omega)), re, bs]
    dsimp only
    rw [ei, ck_nI (show S * 7 + x < 896 by omega) (by omega), cT, nI_clamp (show S * 7 + x < 2 ^ 31 by omega), nI_add, nI_1, z1]
    have sp : (allR M st n).countP (fun r => decide (so r = S) && decide (x ≤ hd r)) = En M st n S x + (allR M st n).countP (fun r => decide (so r = S) && decide (x + 1 ≤ hd r)) := by
      apply cp_split
      intro r _
      by_cases h1 : so r = S
      · by_cases h2 : hd r = x
        · have h4 : ¬ x + 1 ≤ x := by omega
          simp [h1, h2, h4]
        · by_cases h3 : x ≤ hd r
          · have h4 : x + 1 ≤ hd r := by omega
            simp [h1, h2, h3, h4]
          · have h4 : ¬ x + 1 ≤ hd r := by omega
            simp [h1, h2, h3, h4]
      · simp [h1]
    rw [sp, Nat.add_assoc]
theorem add_L {K : St → Int32 → Option St} {S : Nat} {c : Nat} : ∀ (d x fu : Nat) (σ : St), Ms σ M n st → S < 2 ^ n → x + d = n → d < fu → ∃ σ', f_X7_countRowsBySets_L85 K fu σ (nI S) (nI c) (nI x) = K σ' (nI (S + 1)) ∧ SY σ σ' ∧ σ'.2.2 39 = σ.2.2 39 ∧ ∀ t, t < n → σ'.2.2 40 t = if x ≤ t ∧ 1 < pcN S ∧ S.testBit t = true then σ.2.2 40 t + nI c else σ.2.2 40 t := by
  intro d
  induction d with
  | zero =>
    intro x fu σ hM hS hx hfu
    obtain ⟨fu, rfl⟩ : ∃ m, fu = m + 1 := ⟨fu - 1, by omega⟩
    have hn := hM.1.2.1
    refine ⟨σ, ?_, SY.rf σ, rfl, fun t ht => by rw [if_neg (by omega)]⟩
    show f_X7_countRowsBySets_b85 K _ σ (nI S) (nI c) (nI x) = _
    unfold f_X7_countRowsBySets_b85 f_X7_countRowsBySets_b126
    rw [hM.1.1, if_pos ((nle (by omega) (by omega)).mpr (by omega)), nI_1]
  | succ d ih =>
    intro x fu σ hM hS hx hfu
    obtain ⟨fu, rfl⟩ : ∃ m, fu = m + 1 := ⟨fu - 1, by omega⟩
    have hn := hM.1.2.1
    have h2n : 2 ^ n ≤ 128 := Nat.pow_le_pow_right (n := 2) (by omega) hn
    have hpc := (bits_pc ⟨S, by omega⟩).1
    dsimp only at hpc
    have pc7 : pcN S ≤ 7 := by
      have h1 : ∀ b : Bool, b.toNat ≤ 1 := fun b => by cases b <;> decide
      have := h1 (S.testBit 0); have := h1 (S.testBit 1); have := h1 (S.testBit 2); have := h1 (S.testBit 3); have := h1 (S.testBit 4); have := h1 (S.testBit 5); have := h1 (S.testBit 6)
      unfold pcN
      omega
    have e : f_X7_countRowsBySets_L85 K (fu + 1) σ (nI S) (nI c) (nI x) = f_X7_countRowsBySets_b85 K (f_X7_countRowsBySets_L85 K fu) σ (nI S) (nI c) (nI x) := rfl
    rw [e]
    unfold f_X7_countRowsBySets_b85 f_X7_countRowsBySets_b126
    rw [hM.1.1, if_neg (show ¬ nI n ≤ nI x from fun z => absurd ((nle (by omega) (by omega)).mp z) (by omega)), hpc, bs, nI_1]
    by_cases g : pcN S ≤ 1
    · rw [if_pos (show nI (pcN S) ≤ 1 from (nle (b := 1) (by omega) (by omega)).mpr g)]
      exact ⟨σ, rfl, SY.rf σ, rfl, fun t ht => by rw [if_neg (by omega)]⟩
    · rw [if_neg (show ¬ nI (pcN S) ≤ 1 from fun z => g ((nle (b := 1) (by omega) (by omega)).mp z)), ck_nI (show x < 7 by omega) (by omega), cT, cT, nI_clamp (show x < 2 ^ 31 by omega), bit_v (show x < 32 by omega), bt_nI (by omega), nI_1]
      have hv : σ.2.2 40 x + (if S.testBit x = true then (1 : Int32) else 0) * nI c = if S.testBit x = true then σ.2.2 40 x + nI c else σ.2.2 40 x := by
        by_cases q : S.testBit x = true
        · rw [if_pos q, if_pos q, Int32.one_mul]
        · rw [if_neg q, if_neg q, Int32.zero_mul, Int32.add_zero]
      rw [hv]
      have hY := SY.e σ 40 x (if S.testBit x = true then σ.2.2 40 x + nI c else σ.2.2 40 x) (Or.inr rfl)
      obtain ⟨σ', z1, z2, z3, z4⟩ := ih (x + 1) fu (sE σ 40 x (if S.testBit x = true then σ.2.2 40 x + nI c else σ.2.2 40 x)) (hM.sy hY) hS (by omega) (by omega)
      refine ⟨σ', z1, hY.tr z2, z3, fun t ht => ?_⟩
      have e40 : (sE σ 40 x (if S.testBit x = true then σ.2.2 40 x + nI c else σ.2.2 40 x)).2.2 40 t = if t = x then (if S.testBit x = true then σ.2.2 40 x + nI c else σ.2.2 40 x) else σ.2.2 40 t := rfl
      rw [z4 t ht, e40]
      by_cases q : t = x
      · subst q
        rw [if_neg (by omega), if_pos rfl]
        by_cases w : S.testBit t = true
        · rw [if_pos w, if_pos ⟨by omega, by omega, w⟩]
        · rw [if_neg w, if_neg (fun y => w y.2.2)]
      · rw [if_neg q]
        by_cases w : x ≤ t ∧ 1 < pcN S ∧ S.testBit t = true
        · rw [if_pos w, if_pos ⟨by omega, w.2.1, w.2.2⟩]
        · rw [if_neg w, if_neg (fun y => w ⟨by omega, y.2.1, y.2.2⟩)]
theorem sets_L : ∀ (d S fu : Nat) (σ : St), Ms σ M n st → S + d = 2 ^ n → 0 < S → d < fu → Tb M st n σ S → Ob M st n σ S → ∃ σ', f_X7_countRowsBySets_L23 fu σ (nI S) = some σ' ∧ SY σ σ' ∧ Ob M st n σ' (2 ^ n) := by
  intro d
  induction d with
  | zero =>
    intro S fu σ hM hS hS0 hfu tab ob
    obtain ⟨fu, rfl⟩ : ∃ m, fu = m + 1 := ⟨fu - 1, by omega⟩
    have hn := hM.1.2.1
    have h2n : 2 ^ n ≤ 128 := Nat.pow_le_pow_right (n := 2) (by omega) hn
    have hpw : (1 : Int32) <<< (nI n &&& 31) = nI (2 ^ n) := pw2 ⟨n, by omega⟩
    have hS : S = 2 ^ n := by omega
    rw [hS] at ob ⊢
    refine ⟨σ, ?_, SY.rf σ, ob⟩
    show f_X7_countRowsBySets_b23 _ σ (nI (2 ^ n)) = _
    unfold f_X7_countRowsBySets_b23
    rw [hM.1.1, hpw, if_pos ((nle (by omega) (by omega)).mpr (by omega))]
  | succ d ih =>
    intro S fu σ hM hS hS0 hfu tab ob
    obtain ⟨fu, rfl⟩ : ∃ m, fu = m + 1 := ⟨fu - 1, by omega⟩
    have hn := hM.1.2.1
    have hs := hM.1.2.2.2.2.2
    have h2n : 2 ^ n ≤ 128 := Nat.pow_le_pow_right (n := 2) (by omega) hn
    have hpw : (1 : Int32) <<< (nI n &&& 31) = nI (2 ^ n) := pw2 ⟨n, by omega⟩
    obtain ⟨σ1, z1, z2, z3, z4⟩ := set_L (K := f_X7_countRowsBySets_L23 fu) hS0 n 0 FU 0 σ hM (by omega) (by omega) (by unfold FU; omega) tab (fun t ht => by omega)
    obtain ⟨σ2, y1, y2, y3, y4⟩ := add_L (K := f_X7_countRowsBySets_L23 fu) (S := S) (c := (0 + (allR M st n).countP (fun r => decide (so r = S) && decide (0 ≤ hd r)))) n 0 FU σ1 (hM.sy z2) (by omega) (by omega) (by unfold FU; omega)
    have z1 : f_X7_countRowsBySets_L40 (f_X7_countRowsBySets_L23 fu) FU σ (nI S) 0 0 = _ := z1
    have y1 : f_X7_countRowsBySets_L85 (f_X7_countRowsBySets_L23 fu) FU σ1 (nI S) _ 0 = _ := y1
    have hY := z2.tr y2
    obtain ⟨σ', w1, w2, w3⟩ := ih (S + 1) fu σ2 (hM.sy hY) (by omega) (by omega) (by omega) (fun S' h1 h2 t ht => by rw [y3]; exact z4 S' h1 h2 t ht) (fun t ht => by
      rw [y4 t ht, z3, ob t ht]
      have sp : (allR M st n).countP (fun r => decide (so r < S + 1) && (decide (t ∈ r) && decide (2 ≤ r.length))) = (allR M st n).countP (fun r => decide (so r < S) && (decide (t ∈ r) && decide (2 ≤ r.length))) + (allR M st n).countP (fun r => decide (so r = S) && (decide (t ∈ r) && decide (2 ≤ r.length))) := by
        apply cp_split
        intro r _
        by_cases h1 : so r = S
        · have h2 : ¬ so r < S := by omega
          have h3 : so r < S + 1 := by omega
          rw [decide_eq_true h1, decide_eq_false h2, decide_eq_true h3]
          simp
        · by_cases h2 : so r < S
          · have h3 : so r < S + 1 := by omega
            rw [decide_eq_false h1, decide_eq_true h2, decide_eq_true h3]
            simp
          · have h3 : ¬ so r < S + 1 := by omega
            rw [decide_eq_false h1, decide_eq_false h2, decide_eq_false h3]
            simp
      rw [sp]
      have ok : ∀ r ∈ allR M st n, so r = S → (S.testBit t = decide (t ∈ r)) ∧ pcN S = r.length := fun r hr h => by
        obtain ⟨a1, a2, -⟩ := all_ok M st n hs hr
        have := so_ok r a1 (fun t ht => by have := (a2 t ht).2; omega)
        rw [h] at this
        exact ⟨this.2.1 t, this.2.2⟩
      by_cases g : 0 ≤ t ∧ 1 < pcN S ∧ S.testBit t = true
      · rw [if_pos g, nI_add, Nat.zero_add]
        congr 2
        apply cp_congr
        intro r hr
        by_cases h1 : so r = S
        · obtain ⟨o1, o2⟩ := ok r hr h1
          rw [decide_eq_true h1, decide_eq_true (Nat.zero_le _), ← o1, g.2.2, decide_eq_true (show 2 ≤ r.length by omega)]
          rfl
        · rw [decide_eq_false h1, Bool.false_and, Bool.false_and]
      · rw [if_neg g, cp_0 (p := fun r => decide (so r = S) && (decide (t ∈ r) && decide (2 ≤ r.length))), Nat.add_zero]
        intro r hr hp
        simp only [Bool.and_eq_true, decide_eq_true_eq] at hp
        obtain ⟨o1, o2⟩ := ok r hr hp.1
        exact g ⟨Nat.zero_le _, by omega, by rw [o1]; exact decide_eq_true hp.2.1⟩)
    refine ⟨σ', ?_, hY.tr w2, w3⟩
    show f_X7_countRowsBySets_b23 (f_X7_countRowsBySets_L23 fu) σ (nI S) = _
    unfold f_X7_countRowsBySets_b23
    rw [hM.1.1, hpw, if_neg (fun z => absurd ((nle (by omega) (by omega)).mp z) (by omega)), z1, y1]
    exact w1
theorem zero_L : ∀ (d x fu : Nat) (σ : St), x + d = 7 → d < fu → (∀ t, t < x → σ.2.2 40 t = 0) → ∃ σ', f_X7_countRowsBySets_L2 fu σ (nI x) = f_X7_countRowsBySets_L23 FU σ' 1 ∧ SY σ σ' ∧ ∀ t, t < 7 → σ'.2.2 40 t = 0 := by
  intro d
  induction d with
  | zero =>
    intro x fu σ hx hfu h0
    obtain ⟨fu, rfl⟩ : ∃ m, fu = m + 1 := ⟨fu - 1, by omega⟩
    refine ⟨σ, ?_, SY.rf σ, fun t ht => h0 t (by omega)⟩
    show f_X7_countRowsBySets_b2 _ σ (nI x) = _
    unfold f_X7_countRowsBySets_b2
    rw [if_pos (show (7 : Int32) ≤ nI x from (nle (a := 7) (by omega) (by omega)).mpr (by omega))]
  | succ d ih =>
    intro x fu σ hx hfu h0
    obtain ⟨fu, rfl⟩ : ∃ m, fu = m + 1 := ⟨fu - 1, by omega⟩
    obtain ⟨σ', z1, z2, z3⟩ := ih (x + 1) fu (sE σ 40 x 0) (by omega) (by omega) (fun t ht => by
      have e40 : (sE σ 40 x 0).2.2 40 t = if t = x then 0 else σ.2.2 40 t := rfl
      rw [e40]
      by_cases q : t = x
      · rw [if_pos q]
      · rw [if_neg q]; exact h0 t (by omega))
    refine ⟨σ', ?_, (SY.e σ 40 x 0 (Or.inr rfl)).tr z2, z3⟩
    show f_X7_countRowsBySets_b2 (f_X7_countRowsBySets_L2 fu) σ (nI x) = _
    unfold f_X7_countRowsBySets_b2
    rw [if_neg (show ¬ (7 : Int32) ≤ nI x from nI_ge (b := 7) (by omega) (by omega)), ck_nI (show x < 7 by omega) (by omega), cT, nI_clamp (show x < 2 ^ 31 by omega), nI_1]
    exact z1
/-- on how many rows of two trees or more a tree is -/
def onN (M : Nat → Int32) (st : Int32) (n t : Nat) : Nat := (allR M st n).countP (fun r => decide (t ∈ r) && decide (2 ≤ r.length))
theorem count_C {σ : St} (hM : Ms σ M n st) : ∃ σ', f_X7_countRowsBySets σ = some σ' ∧ SY σ σ' ∧ ∀ t, t < n → σ'.2.2 40 t = nI (onN M st n t) := by
  have hn := hM.1.2.1
  have hs := hM.1.2.2.2.2.2
  have h2n : 2 ^ n ≤ 128 := Nat.pow_le_pow_right (n := 2) (by omega) hn
  have h2p : 0 < 2 ^ n := Nat.pow_pos (by omega)
  obtain ⟨σ1, z1, z2, z3⟩ := zero_L 7 0 FU σ (by omega) (by unfold FU; omega) (fun t ht => by omega)
  have z1 : f_X7_countRowsBySets σ = _ := z1
  obtain ⟨σ2, y1, y2, y3⟩ := sets_L (2 ^ n - 1) 1 FU σ1 (hM.sy z2) (by omega) (by omega) (by unfold FU; omega) (fun S' h1 h2 => by omega) (fun t ht => by
    rw [z3 t (by omega), cp_0]
    · rfl
    · intro r hr hp
      simp only [Bool.and_eq_true, decide_eq_true_eq] at hp
      obtain ⟨a1, a2, -⟩ := all_ok M st n hs hr
      have := (so_ok r a1 (fun t ht => by have := (a2 t ht).2; omega)).2.2
      rw [show so r = 0 by omega] at this
      have : pcN 0 = 0 := by decide
      omega)
  refine ⟨σ2, z1.trans y1, z2.tr y2, fun t ht => ?_⟩
  rw [y3 t ht]
  congr 1
  apply cp_congr
  intro r hr
  obtain ⟨a1, a2, -⟩ := all_ok M st n hs hr
  have hb := (so_ok r a1 (fun t ht => by have := (a2 t ht).2; omega)).2.1
  have : so r < 2 ^ n := Nat.lt_pow_two_of_testBit _ (fun i hi => by
    rw [hb]
    exact decide_eq_false (fun hm => by have := (a2 i hm).2; omega))
  rw [decide_eq_true this, Bool.true_and]
end MOSTD
