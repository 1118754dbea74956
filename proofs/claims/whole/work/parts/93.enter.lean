/-! the soonest row in the class -/
theorem pre_rok {M : Nat → Int32} {st : Int32} : ∀ (d : Nat) (r r' : List Nat), Rok r → r' ∈ pre M st d r → Rok r' := by
  intro d
  induction d with
  | zero => intro r r' h hm; rw [List.mem_singleton.mp hm]; exact h
  | succ d ih =>
    intro r r' h hm
    rcases List.mem_cons.mp hm with e | e
    · rw [e]; exact h
    · obtain ⟨c, hc, hr⟩ := List.mem_flatMap.mp e
      have := kidsR_mem _ _ _ _ hc
      exact ih _ _ (h.cons (fr_no this.1) (by omega)) hr
def tmB (M : Nat → Int32) (s : Nat) (l : List Nat) : Option (List Nat) → Nat
  | none => 1000000
  | some b => (rdL M s l b).2
theorem EC.tm {M : Nat → Int32} {s : Nat} {l : List Nat} {σ : St} {b : Option (List Nat)} (h : EC M s l σ b) : σ.1 3807 = nI (tmB M s l b) := by
  cases b with
  | none => exact h.2.trans (show (1000000 : Int32) = nI 1000000 by decide)
  | some b => exact h.2.1
theorem sooner_tm {M : Nat → Int32} {s : Nat} {l : List Nat} {T : Nat} {b : Option (List Nat)} (hT : T < 100) : sooner M s l T b = decide (T < tmB M s l b) := by
  cases b with
  | none => exact (decide_eq_true (show T < 1000000 by omega)).symm
  | some b => rfl
def SX (σ σ' : St) : Prop := (∀ k, k ≠ 3806 → k ≠ 3807 → k ≠ 3808 → σ'.1 k = σ.1 k) ∧ σ'.2 = σ.2
theorem SX.rf (σ : St) : SX σ σ := ⟨fun _ _ _ _ => rfl, rfl⟩
theorem SX.tr {a b c : St} (h : SX a b) (g : SX b c) : SX a c := ⟨fun k h1 h2 h3 => (g.1 k h1 h2 h3).trans (h.1 k h1 h2 h3), g.2.trans h.2⟩
section ENTER
variable {M : Nat → Int32} {n se g : Nat} {st : Int32} {l : List Nat} {W : Bool} {σ0 : St}
theorem keep_C {b : Option (List Nat)} {σ : St} {r : List Nat} (hlg : Lg l) (hll : l.length ≤ 6) (hr : r.length ≤ 7) (hw : σ.1 3805 = if W = true then nI (vL l) else -1) (hb : ∀ b', b = some b' → b'.length ≤ 7) (hE : EC M se l σ b) (hg : isE g r = true) : ∃ σ', f_X7_keepIfSooner σ (nI (numL r)) (nI (rdL M se l r).2) (nI (vL (rdL M se l r).1)) = some σ' ∧ EC M se l σ' (stepB M se g l W b r) ∧ SX σ σ' := by
  obtain ⟨G1, G2, G3⟩ := rdL_good (M := M) (s := se) hlg hll r
  have vl := vl_le hlg hll
  have tb : tmB M se l b < 2 ^ 31 := by
    cases b with
    | none => show 1000000 < 2 ^ 31; omega
    | some b =>
      have := (rdL_good (M := M) (s := se) hlg hll b).2.2
      have := hb b rfl
      show (rdL M se l b).2 < 2 ^ 31
      omega
  have key : ∀ (y : Int32), (y = 0 ∨ y = 1) → (okQ l W (rdL M se l r).1 = true ↔ y = 1) → ∃ σ', f_X7_keepIfSooner_b21 σ (nI (numL r)) (nI (rdL M se l r).2) (nI (vL (rdL M se l r).1)) y = some σ' ∧ EC M se l σ' (stepB M se g l W b r) ∧ SX σ σ' := by
    intro y hy ho
    unfold f_X7_keepIfSooner_b21 stepB
    rw [hg, sooner_tm (b := b) (show (rdL M se l r).2 < 100 by omega)]
    rcases hy with rfl | rfl
    · have : okQ l W (rdL M se l r).1 = false := by
        cases e : okQ l W (rdL M se l r).1
        · rfl
        · exact absurd (ho.mp e) (by decide)
      rw [if_pos rfl, this, if_neg (by simp)]
      exact ⟨σ, rfl, hE, SX.rf σ⟩
    · rw [if_neg (show ¬ (1 : Int32) = 0 by decide), ho.mpr rfl, hE.tm]
      by_cases w : (rdL M se l r).2 < tmB M se l b
      · rw [if_neg (show ¬ nI (tmB M se l b) ≤ nI (rdL M se l r).2 from fun z => absurd ((nle tb (by omega)).mp z) (by omega)), if_pos (by simp [w])]
        refine ⟨_, rfl, ⟨rfl, rfl, rfl⟩, fun k h1 h2 h3 => ?_, rfl⟩
        rw [sI1, if_neg h3, sI1, if_neg h2, sI1, if_neg h1]
      · rw [if_pos ((nle tb (by omega)).mpr (by omega)), if_neg (by simp [w])]
        exact ⟨σ, rfl, hE, SX.rf σ⟩
  unfold f_X7_keepIfSooner f_X7_keepIfSooner_b16
  rw [hw]
  cases W with
  | false =>
    rw [if_pos (show (if false = true then nI (vL l) else (-1 : Int32)) = -1 from rfl)]
    exact key 1 (Or.inr rfl) ⟨fun _ => rfl, fun _ => rfl⟩
  | true =>
    have hm1 : ¬ (if true = true then nI (vL l) else (-1 : Int32)) = -1 := fun z => by
      rw [if_pos rfl] at z
      have : (nI (vL l)).toInt = -1 := by rw [z]; rfl
      rw [nI_toInt (by omega)] at this
      omega
    rw [if_neg hm1, if_pos (show true = true from rfl)]
    by_cases w : nI (vL l) = nI (vL (rdL M se l r).1)
    · rw [if_pos w]
      exact key 1 (Or.inr rfl) ⟨fun _ => rfl, fun _ => by unfold okQ; simp [w]⟩
    · rw [if_neg w]
      exact key 0 (Or.inl rfl) ⟨fun h => by unfold okQ at h; simp [Ne.symm w] at h, fun h => absurd h (by decide)⟩
theorem enter_C (hW : Wk σ0 M n st) (hK : Ks σ0 M n) (hse : σ0.1 108 = nI se) (hse9 : se ≤ 999) (hg : g < n) (h3804 : σ0.1 3804 = nI g) (hw : σ0.1 3805 = if W = true then nI (vL l) else -1) (hlg : Lg l) (hll : l.length ≤ 6) : ∀ (d t : Nat) (r : List Nat) (u : Int32) (b : Option (List Nat)) (σ : St), (t :: r).length + d = 8 → Rok (t :: r) → t < n → (∀ c, bt u c = decide (c ∈ t :: r)) → SX σ0 σ → (∀ b', b = some b' → b'.length ≤ 7) → EC M se l σ b → ∃ σ', f_X7_enter (d + 1) σ (nI t) u (nI (numL r)) (nI (rdL M se l r).2) (nI (vL (rdL M se l r).1)) = some σ' ∧ EC M se l σ' (bestB M se g l W b (pre M st d (t :: r))) ∧ SX σ0 σ' := by
  have hn := hW.2.1
  intro d
  induction d with
  | zero =>
    intro t r u b σ hl hr
    have := hr.le
    omega
  | succ d ih =>
    intro t r u b σ hl hr ht hu h0 hb hE
    have hl7 := hr.le
    have r7 : ∀ x ∈ t :: r, x < 7 := hr.2
    obtain ⟨G1, G2, G3⟩ := rdL_good (M := M) (s := se) hlg hll r
    obtain ⟨F1, F2, F3⟩ := rdL_good (M := M) (s := se) hlg hll (t :: r)
    obtain ⟨k1, k2⟩ := hK.2.2 t ht
    have e : f_X7_enter (d + 2) σ (nI t) u (nI (numL r)) (nI (rdL M se l r).2) (nI (vL (rdL M se l r).1)) = f_X7_enter_body (f_X7_enter (d + 1)) σ (nI t) u (nI (numL r)) (nI (rdL M se l r).2) (nI (vL (rdL M se l r).1)) := rfl
    have pe : pre M st (d + 1) (t :: r) = (t :: r) :: subs M st (t :: r) 0 := by
      rw [show d + 1 = 8 - (t :: r).length by omega]
      exact pre_s M st hl7
    have be : bestB M se g l W b ((t :: r) :: subs M st (t :: r) 0) = bestB M se g l W (stepB M se g l W b (t :: r)) (subs M st (t :: r) 0) := rfl
    have hlr : r.length ≤ 6 := by rw [List.length_cons] at hl7; omega
    have e108 : σ.1 108 = nI se := (h0.1 108 (by omega) (by omega) (by omega)).trans hse
    have eg : σ.1 3804 = nI g := (h0.1 3804 (by omega) (by omega) (by omega)).trans h3804
    have ew : σ.1 3805 = if W = true then nI (vL l) else -1 := (h0.1 3805 (by omega) (by omega) (by omega)).trans hw
    have told : (nI (numL r) * 10 + nI t) + 1 = nI (numL (t :: r)) := by
      rw [show (10 : Int32) = nI 10 from rfl, pk_mul, nI_add, nI_1, Nat.mul_comm]
      rfl
    have nb := numL_bd (t :: r) r7
    have nlt7 : numL (t :: r) < 2 ^ 31 := Nat.lt_of_lt_of_le nb.1 (Nat.le_trans (Nat.pow_le_pow_right (by omega) hl7) (by omega))
    have bh : nI (rdL M se l r).2 + nI (tkN (kdN M t) (se + (rdL M se l r).2)) = nI (rdL M se l (t :: r)).2 := by rw [nI_add]; rfl
    have cp : cpL (kdN M t) (se + (rdL M se l r).2) (rdL M se l r).1 = (rdL M se l (t :: r)).1 := rfl
    rw [e, pe, be]
    unfold f_X7_enter_body
    rw [ck_nI (show t < 7 by omega) (by omega), cT, nI_clamp (show t < 2 ^ 31 by omega), h0.2, k1, ck_nI k2 (by omega), cT, nI_clamp (show kdN M t < 2 ^ 31 by omega), e108, nI_add, cp_C k2 (by omega) G1 G2, bs, tk_C k2 (by omega), bs, told, bh, cp, eg]
    by_cases q : t = g
    · subst q
      have hid : ∀ b1, bestB M se t l W b1 (subs M st (t :: r) 0) = b1 := fun b1 => best_id M se t l W b1 _ (fun r' h' hE' _ => by
        have := List.countP_eq_zero.mp (subs_zero M st t (t :: r) (List.mem_cons_self ..)) r' h'
        exact this hE')
      rw [if_pos rfl, hid]
      obtain ⟨σ', z1, z2, z3⟩ := keep_C (σ := σ) (r := t :: r) (W := W) (g := t) (b := b) (M := M) (se := se) hlg hll hl7 ew hb hE (by unfold isE; simp)
      rw [z1, bs]
      exact ⟨σ', rfl, z2, h0.tr z3⟩
    · have hE0 : stepB M se g l W b (t :: r) = b := by
        unfold stepB
        rw [if_neg]
        intro z
        simp only [Bool.and_eq_true] at z
        have := z.1.1
        unfold isE at this
        simp [q] at this
      have tb : tmB M se l b < 2 ^ 31 := by
        cases b with
        | none => show 1000000 < 2 ^ 31; omega
        | some b =>
          have := (rdL_good (M := M) (s := se) hlg hll b).2.2
          have := hb b rfl
          show (rdL M se l b).2 < 2 ^ 31
          omega
      rw [if_neg (fun z => q ((neq (by omega) (by omega)).mp z)), hE0, nI_1, hE.tm]
      by_cases w : tmB M se l b ≤ (rdL M se l (t :: r)).2 + 1
      · rw [if_pos ((nle tb (by omega)).mpr w)]
        refine ⟨σ, rfl, ?_, h0⟩
        rw [best_id]
        · exact hE
        · intro r' h' _ hs
          unfold subs at h'
          obtain ⟨c, hc, hr'⟩ := List.mem_flatMap.mp h'
          have hk := kidsR_mem _ _ _ _ hc
          have m1 := rdL_pre M st se l _ _ _ hr'
          have m2 := rdL_more M se l c (t :: r)
          have hro := pre_rok _ _ _ (hr.cons (fr_no hk.1) (by omega)) hr'
          have := hro.le
          have := (rdL_good (M := M) (s := se) hlg hll r').2.2
          rw [sooner_tm (by omega)] at hs
          have := of_decide_eq_true hs
          omega
      · rw [if_neg (fun z => w ((nle tb (by omega)).mp z))]
        by_cases h7 : (t :: r).length = 7
        · have h106 : 1000000 ≤ numL (t :: r) := by
            have := nb.2 (by simp)
            rw [h7] at this
            exact this
          rw [if_neg (show ¬ nI (numL (t :: r)) < (1000000 : Int32) from fun z => absurd ((nlt (b := 1000000) nlt7 (by omega)).mp z) (by omega))]
          refine ⟨σ, rfl, ?_, h0⟩
          unfold subs
          rw [Nat.sub_zero, full_kids M st hr h7]
          exact hE
        · have h106 : numL (t :: r) < 1000000 := Nat.lt_of_lt_of_le nb.1 (pow6 (by omega))
          rw [if_pos (show nI (numL (t :: r)) < (1000000 : Int32) from nI_lt (b := 1000000) h106 (by omega)), cT, h0.1 107 (by omega) (by omega) (by omega)]
          have hbit := kid_bits hW ht hu
          generalize ((σ0.2.2 3 t) &&& ((σ0.1 107) ^^^ (-1))) &&& (u ^^^ (-1)) = free at hbit
          have key : ∀ (k x fu : Nat) (b1 : Option (List Nat)) (σ1 : St), x + k = 7 → k < fu → SX σ0 σ1 → (∀ b', b1 = some b' → b'.length ≤ 7) → EC M se l σ1 b1 → ∃ σ', f_X7_enter_L127 (f_X7_enter (d + 1)) fu σ1 u (nI (vL (rdL M se l (t :: r)).1)) (nI (rdL M se l (t :: r)).2) (nI (numL (t :: r))) free (nI x) = some σ' ∧ EC M se l σ' (bestB M se g l W b1 ((kidsR (fr M st (t :: r)) k x).flatMap (fun c => pre M st d (c :: t :: r)))) ∧ SX σ0 σ' := by
            intro k
            induction k with
            | zero =>
              intro x fu b1 σ1 hx hfu h1 hb1 hE1
              obtain ⟨fu, rfl⟩ : ∃ m, fu = m + 1 := ⟨fu - 1, by omega⟩
              refine ⟨σ1, ?_, hE1, h1⟩
              show f_X7_enter_b127 _ _ σ1 _ _ _ _ _ _ = _
              unfold f_X7_enter_b127
              rw [h1.1 106 (by omega) (by omega) (by omega), hW.1, if_pos ((nle (by omega) (by omega)).mpr (by omega))]
            | succ k ihk =>
              intro x fu b1 σ1 hx hfu h1 hb1 hE1
              obtain ⟨fu, rfl⟩ : ∃ m, fu = m + 1 := ⟨fu - 1, by omega⟩
              have e : f_X7_enter_L127 (f_X7_enter (d + 1)) (fu + 1) σ1 u (nI (vL (rdL M se l (t :: r)).1)) (nI (rdL M se l (t :: r)).2) (nI (numL (t :: r))) free (nI x) = f_X7_enter_b127 (f_X7_enter (d + 1)) (f_X7_enter_L127 (f_X7_enter (d + 1)) fu) σ1 u (nI (vL (rdL M se l (t :: r)).1)) (nI (rdL M se l (t :: r)).2) (nI (numL (t :: r))) free (nI x) := rfl
              rw [e]
              unfold f_X7_enter_b127 f_X7_enter_b168
              rw [h1.1 106 (by omega) (by omega) (by omega), hW.1]
              by_cases hxn : n ≤ x
              · rw [if_pos ((nle (by omega) (by omega)).mpr hxn), kidsR_stop _ (fun c h => fr_n hW h) _ _ hxn]
                exact ⟨σ1, rfl, hE1, h1⟩
              · rw [if_neg (fun z => hxn ((nle (by omega) (by omega)).mp z)), bit_v (show x < 32 by omega), hbit x (by omega)]
                have ke : kidsR (fr M st (t :: r)) (k + 1) x = if fr M st (t :: r) x = true then x :: kidsR (fr M st (t :: r)) k (x + 1) else kidsR (fr M st (t :: r)) k (x + 1) := rfl
                rw [ke]
                by_cases hf : fr M st (t :: r) x = true
                · rw [if_pos hf, if_pos rfl, if_pos hf, nI_1, List.flatMap_cons, best_app]
                  have hr2 := hr.cons (fr_no hf) (show x < 7 by omega)
                  obtain ⟨σ2, z1, z2, z3⟩ := ih x (t :: r) (u ||| ((1 : Int32) <<< (nI x &&& 31))) b1 σ1 (by rw [List.length_cons]; omega) hr2 (by omega) (fun c => by
                    rw [bt_set (by omega), hu]
                    by_cases g1 : c = x
                    · simp [g1]
                    · simp [g1]) h1 hb1 hE1
                  rw [z1, bs]
                  exact ihk (x + 1) fu _ σ2 (by omega) (by omega) z3 (best_P M se g l W _ _ (fun r' h' _ => (pre_rok _ _ _ hr2 h').le) hb1) z2
                · rw [if_neg hf, if_neg (show ¬ (0 : Int32) = 1 by decide), if_neg hf, nI_1]
                  exact ihk (x + 1) fu b1 σ1 (by omega) (by omega) h1 hb1 hE1
          have := key 7 0 FU b σ (by omega) (by unfold FU; omega) h0 hb hE
          unfold subs
          rw [Nat.sub_zero, show 7 - (t :: r).length = d by omega]
          exact this
end ENTER
