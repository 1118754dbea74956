/-! most, in the class: rows counted by their sets of trees -/
theorem oth_fin : ∀ S : Fin 128, ∀ z : Fin 7, S.val.testBit z.val = true → (nI S.val &&& (((1 : Int32) <<< (nI z.val &&& 31)) ^^^ (-1 : Int32))) = nI (S.val - 2 ^ z.val) ∧ 2 ^ z.val ≤ S.val ∧ (S.val - 2 ^ z.val).testBit z.val = false := by decide +kernel
/-- what the class needs of the forest where it counts -/
def Ms (σ : St) (M : Nat → Int32) (n : Nat) (st : Int32) : Prop := Wk σ M n st ∧ ∀ t i, t < 7 → bt (M (13 + t)) i = true → bt (M (13 + i)) t = true
def SY (σ σ' : St) : Prop := σ'.1 = σ.1 ∧ σ'.2.1 = σ.2.1 ∧ ∀ a, a ≠ 39 → a ≠ 40 → σ'.2.2 a = σ.2.2 a
theorem SY.rf (σ : St) : SY σ σ := ⟨rfl, rfl, fun _ _ _ => rfl⟩
theorem SY.tr {a b c : St} (h : SY a b) (g : SY b c) : SY a c := ⟨g.1.trans h.1, g.2.1.trans h.2.1, fun k h1 h2 => (g.2.2 k h1 h2).trans (h.2.2 k h1 h2)⟩
theorem SY.e (σ : St) (a i : Nat) (v : Int32) (h : a = 39 ∨ a = 40) : SY σ (sE σ a i v) := ⟨rfl, rfl, fun b h1 h2 => by rw [sE3, if_neg (fun e => by omega)]⟩
theorem Ms.sy {σ σ' : St} {M : Nat → Int32} {n : Nat} {st : Int32} (h : Ms σ M n st) (g : SY σ σ') : Ms σ' M n st := by
  obtain ⟨⟨h1, h2, h3, h4, h5, h6⟩, h7⟩ := h
  refine ⟨⟨?_, h2, ?_, h4, ?_, h6⟩, h7⟩
  · rw [g.1]; exact h1
  · rw [g.2.2 3 (by omega) (by omega)]; exact h3
  · rw [g.1]; exact h5
section MOSTC
variable {M : Nat → Int32} {st : Int32} {n : Nat}
theorem ending_L {σ : St} (hM : Ms σ M n st) {O : Nat} (hO : O < 128) (A : Int32) (tab : ∀ t, t < n → σ.2.2 39 (O * 7 + t) = nI (En M st n O t)) : ∀ (d x fu a : Nat), x + d = n → d < fu → f_X7_rowsEnding_L55 fu σ (nI O) A (nI a) (nI x) = some (nI (a + (allR M st n).countP (fun r => decide (so r = O) && (decide (x ≤ hd r) && bt A (hd r)))), σ) := by
  have hn := hM.1.2.1
  have hs := hM.1.2.2.2.2.2
  have hhd : ∀ r ∈ allR M st n, hd r < n := fun r hr => by
    obtain ⟨-, h2, h3⟩ := all_ok M st n hs hr
    cases r with
    | nil => exact absurd rfl h3
    | cons t r => exact (h2 t (List.mem_cons_self ..)).2
  intro d
  induction d with
  | zero =>
    intro x fu a hx hfu
    obtain ⟨fu, rfl⟩ : ∃ m, fu = m + 1 := ⟨fu - 1, by omega⟩
    show f_X7_rowsEnding_b55 _ σ (nI O) A (nI a) (nI x) = _
    unfold f_X7_rowsEnding_b55
    rw [hM.1.1, if_pos ((nle (by omega) (by omega)).mpr (by omega)), cp_0]
    · rfl
    · intro r hr hp
      simp only [Bool.and_eq_true, decide_eq_true_eq] at hp
      have := hhd r hr
      omega
  | succ d ih =>
    intro x fu a hx hfu
    obtain ⟨fu, rfl⟩ : ∃ m, fu = m + 1 := ⟨fu - 1, by omega⟩
    have ei : (nI O * 7) + nI x = nI (O * 7 + x) := by rw [show (7 : Int32) = nI 7 from rfl, pk_mul, nI_add]
    have sp : (allR M st n).countP (fun r => decide (so r = O) && (decide (x ≤ hd r) && bt A (hd r))) = (allR M st n).countP (fun r => decide (so r = O) && (decide (hd r = x) && bt A x)) + (allR M st n).countP (fun r => decide (so r = O) && (decide (x + 1 ≤ hd r) && bt A (hd r))) := by
      apply cp_split
      intro r _
      by_cases h1 : so r = O
      · by_cases h2 : hd r = x
        · have h4 : ¬ x + 1 ≤ x := by omega
          simp [h1, h2, h4]
        · by_cases h3 : x ≤ hd r
          · have h4 : x + 1 ≤ hd r := by omega
            simp [h1, h2, h3, h4]
          · have h4 : ¬ x + 1 ≤ hd r := by omega
            simp [h1, h2, h3, h4]
      · simp [h1]
    show f_X7_rowsEnding_b55 (f_X7_rowsEnding_L55 fu) σ (nI O) A (nI a) (nI x) = _
    unfold f_X7_rowsEnding_b55 f_X7_rowsEnding_b95
    rw [hM.1.1, if_neg (show ¬ nI n ≤ nI x from fun z => absurd ((nle (by omega) (by omega)).mp z) (by omega)), bit_v (show x < 32 by omega), nI_1, ei, ck_nI (show O * 7 + x < 896 by omega) (by omega), cT, nI_clamp (show O * 7 + x < 2 ^ 31 by omega), tab x (by omega), nI_add, sp]
    by_cases g : bt A x = true
    · rw [if_pos g, if_pos rfl, ih (x + 1) fu _ (by omega) (by omega)]
      have : (allR M st n).countP (fun r => decide (so r = O) && (decide (hd r = x) && bt A x)) = En M st n O x := cp_congr _ (fun r _ => by rw [g, Bool.and_true])
      rw [this, Nat.add_assoc]
    · rw [if_neg g, if_neg (show ¬ (0 : Int32) = 1 by decide), ih (x + 1) fu a (by omega) (by omega)]
      have : (allR M st n).countP (fun r => decide (so r = O) && (decide (hd r = x) && bt A x)) = 0 := cp_0 (fun r _ hp => by simp [g] at hp)
      rw [this, Nat.zero_add]
theorem ending_C {σ : St} (hM : Ms σ M n st) {S z : Nat} (hS0 : 0 < S) (hS : S < 2 ^ n) (hz : z < n) (tab : ∀ S', 1 ≤ S' → S' < S → ∀ t, t < n → σ.2.2 39 (S' * 7 + t) = nI (En M st n S' t)) : f_X7_rowsEnding σ (nI S) (nI z) = some (nI (En M st n S z), σ) := by
  have hn := hM.1.2.1
  have hs := hM.1.2.2.2.2.2
  have h2n : 2 ^ n ≤ 128 := Nat.pow_le_pow_right (n := 2) (by omega) hn
  have ok := fun {r} (hr : r ∈ allR M st n) => all_ok M st n hs hr
  have sok : ∀ r ∈ allR M st n, ∀ i, (so r).testBit i = decide (i ∈ r) := fun r hr => (so_ok r (ok hr).1 (fun t ht => by have := ((ok hr).2.1 t ht).2; omega)).2.1
  have hdm : ∀ r ∈ allR M st n, hd r ∈ r := fun r hr => by
    have h3 := (ok hr).2.2
    cases r with
    | nil => exact absurd rfl h3
    | cons t r => exact List.mem_cons_self ..
  unfold f_X7_rowsEnding
  rw [bit_v (show z < 32 by omega), bt_nI (by omega)]
  by_cases g : S.testBit z = true
  · obtain ⟨o1, o2, o3⟩ := oth_fin ⟨S, by omega⟩ ⟨z, by omega⟩ g
    dsimp only at o1 o2 o3
    rw [if_pos g, if_neg (show ¬ (1 : Int32) = 0 by decide), o1]
    by_cases gf : nI S &&& σ.1 107 = 0
    · rw [if_pos gf]
      have gf' := (and_0 _ _).mp gf
      have fz : bt (σ.1 107) z = false := gf' z (by rw [bt_nI (by omega)]; exact g)
      have sz : bt st z = true := by rw [hM.1.2.2.2.2.1 z hz, fz]; rfl
      have hrec := En_rec M st n hn S z hz
      by_cases g0 : S - 2 ^ z = 0
      · rw [if_pos (show nI (S - 2 ^ z) = 0 by rw [g0]; rfl), hrec, if_pos (by rw [sz]; simp; omega), cp_0]
        · rfl
        · intro r hr hp
          simp only [Bool.and_eq_true, decide_eq_true_eq] at hp
          have h0 : so r = 0 := by omega
          have := sok r hr (hd r)
          rw [h0, Nat.zero_testBit, decide_eq_true (hdm r hr)] at this
          cases this
      · have hlt : S - 2 ^ z < S := by have : 0 < 2 ^ z := Nat.pow_pos (by omega); omega
        rw [if_neg (nI_ne0 (by omega) (by omega)), ck_nI (show z < 7 by omega) (by omega), cT, nI_clamp (show z < 2 ^ 31 by omega), hM.1.2.2.1 z hz]
        have := ending_L hM (O := S - 2 ^ z) (by omega) (nI (S - 2 ^ z) &&& M (13 + z)) (tab _ (by omega) hlt) n 0 FU 0 (by omega) (by unfold FU; omega)
        have this : f_X7_rowsEnding_L55 FU σ (nI (S - 2 ^ z)) (nI (S - 2 ^ z) &&& M (13 + z)) 0 0 = _ := this
        rw [this, hrec, if_neg (by simp; omega)]
        have e : (allR M st n).countP (fun r => decide (so r = S - 2 ^ z) && (decide (0 ≤ hd r) && bt (nI (S - 2 ^ z) &&& M (13 + z)) (hd r))) = (allR M st n).countP (fun r => fr M st r z && decide (2 ^ z + so r = S)) := by
          apply cp_congr
          intro r hr
          by_cases h1 : so r = S - 2 ^ z
          · have h2 : 2 ^ z + so r = S := by omega
            rw [decide_eq_true h1, decide_eq_true h2, Bool.and_true, Bool.true_and, decide_eq_true (Nat.zero_le _), Bool.true_and, b_and, bt_nI (by omega), ← h1, sok r hr, decide_eq_true (hdm r hr), Bool.true_and]
            have hzr : z ∉ r := fun hm => by
              have := sok r hr z
              rw [h1, o3, decide_eq_true hm] at this
              cases this
            have h3 := (ok hr).2.2
            have h4 := (ok hr).2.1
            cases r with
            | nil => exact absurd rfl h3
            | cons t r =>
              have ht : t < 7 := by have := (h4 t (List.mem_cons_self ..)).2; omega
              have fe : fr M st (t :: r) z = (bt (M (13 + t)) z && bt st z && !decide (z ∈ t :: r)) := rfl
              have he : hd (t :: r) = t := rfl
              rw [fe, he, sz, decide_eq_false hzr, Bool.and_true, Bool.not_false, Bool.and_true]
              cases e1 : bt (M (13 + z)) t with
              | true => exact (hM.2 z t (by omega) e1).symm
              | false =>
                cases e2 : bt (M (13 + t)) z with
                | false => rfl
                | true => have := hM.2 t z ht e2; rw [e1] at this; cases this
          · have h2 : ¬ 2 ^ z + so r = S := by omega
            rw [decide_eq_false h1, decide_eq_false h2, Bool.and_false, Bool.false_and]
        rw [e]
    · rw [if_neg gf]
      have : En M st n S z = 0 := cp_0 (fun r hr hp => by
        simp only [Bool.and_eq_true, decide_eq_true_eq] at hp
        apply gf
        rw [and_0]
        intro i hi
        rw [bt_nI (by omega), ← hp.1, sok r hr] at hi
        have := (ok hr).2.1 i (of_decide_eq_true hi)
        have h5 := hM.1.2.2.2.2.1 i this.2
        rw [this.1] at h5
        cases e : bt (σ.1 107) i
        · rfl
        · rw [e] at h5; cases h5)
      rw [this]
      rfl
  · rw [if_neg g, if_pos rfl]
    have : En M st n S z = 0 := cp_0 (fun r hr hp => by
      simp only [Bool.and_eq_true, decide_eq_true_eq] at hp
      apply g
      rw [← hp.1, sok r hr, ← hp.2]
      exact decide_eq_true (hdm r hr))
    rw [this]
    rfl
end MOSTC
