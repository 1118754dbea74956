/-! forests by a seed -/
def drw (x : Nat) : Nat := (x * 1103515245 + 12345) % 2147483648
theorem drw_b (x : Nat) : drw x < 2147483648 := Nat.mod_lt _ (by omega)
theorem drw_I {x : Nat} (h : x < 2147483648) : ((lN x * (1103515245 : Int64)) + (12345 : Int64)) - ((lN x * (1103515245 : Int64)) + (12345 : Int64)) / (2147483648 : Int64) * (2147483648 : Int64) = lN (drw x) := by
  rw [show (1103515245 : Int64) = lN 1103515245 from rfl, show (12345 : Int64) = lN 12345 from rfl, show (2147483648 : Int64) = lN 2147483648 from rfl, lN_mul, lN_add, pk_lRem (by omega) (by omega) (by omega)]
  rfl
theorem tree_I {x n : Nat} (h : x < 2147483648) (hn : 0 < n) (hn7 : n ≤ 7) : (((lN x / (65536 : Int64)) - (lN x / (65536 : Int64)) / lN n * lN n)).toInt32 = nI (x / 65536 % n) := by
  rw [show (65536 : Int64) = lN 65536 from rfl, pk_lDiv (by omega) (by omega) (by omega), pk_lRem (by omega) hn (by omega), lN_i]
theorem forests_L {n nn rn un se N : Nat} (hN : N ≤ 60) (hn : 0 < n) (x3 : Int32) : ∀ (d i fu gu x : Nat) (σ τ : St) (c b : Int32), i + d = N → d < fu → d < gu → x < 2147483648 → RelP σ τ → Inv (τ.2.2 1) n nn rn un se → ∃ v σ' τ', f_X10_forests_L66 gu σ (nI N) x3 (nI n) c b (lN x) (nI i) = some (v, σ') ∧ f_X11_forests_L66 fu τ (nI N) x3 (lN x) c b (nI i) = some (v, τ') ∧ RelP σ' τ' := by
  intro d
  induction d with
  | zero =>
    intro i fu gu x σ τ c b hi hfu hgu hx hR hI
    obtain ⟨fu, rfl⟩ : ∃ m, fu = m + 1 := ⟨fu - 1, by omega⟩
    obtain ⟨gu, rfl⟩ : ∃ m, gu = m + 1 := ⟨gu - 1, by omega⟩
    have hle : nI N ≤ nI i := (nle (by omega) (by omega)).mpr (by omega)
    refine ⟨if x3 = 0 then c else b, σ, τ, ?_, ?_, hR⟩
    · show f_X10_forests_b66 _ σ (nI N) x3 (nI n) c b (lN x) (nI i) = _
      unfold f_X10_forests_b66
      rw [if_pos hle]
      split <;> rfl
    · show f_X11_forests_b66 _ τ (nI N) x3 (lN x) c b (nI i) = _
      unfold f_X11_forests_b66
      rw [if_pos hle]
      split <;> rfl
  | succ d ih =>
    intro i fu gu x σ τ c b hi hfu hgu hx hR hI
    obtain ⟨fu, rfl⟩ : ∃ m, fu = m + 1 := ⟨fu - 1, by omega⟩
    obtain ⟨gu, rfl⟩ : ∃ m, gu = m + 1 := ⟨gu - 1, by omega⟩
    have hn7 : n ≤ 7 := hI.1.2
    have hle : ¬ nI N ≤ nI i := fun z => absurd ((nle (by omega) (by omega)).mp z) (by omega)
    have hne : ¬ lN n = 0 := fun z => absurd ((pk_lEQ (b := 0) (by omega) (by omega)).mp z) (by omega)
    have d1 := drw_I hx
    have d2 := drw_I (drw_b x)
    have t1 := tree_I (drw_b x) hn hn7
    have t2 := tree_I (drw_b (drw x)) hn hn7
    have eC : f_X10_forests_L66 (gu + 1) σ (nI N) x3 (nI n) c b (lN x) (nI i) = f_X10_forests_b66 (f_X10_forests_L66 gu) σ (nI N) x3 (nI n) c b (lN x) (nI i) := rfl
    have eM : f_X11_forests_L66 (fu + 1) τ (nI N) x3 (lN x) c b (nI i) = f_X11_forests_b66 (f_X11_forests_L66 fu) τ (nI N) x3 (lN x) c b (nI i) := rfl
    have hmany : f_X11_many τ = some (nI n, τ) := by
      unfold f_X11_many
      rw [hI.1.1]
    obtain ⟨b', σ', τ', z1, z2, z3, z4, z5, z6, z7⟩ := seek_both hR hI (Nat.mod_lt (drw x / 65536) hn) (Nat.mod_lt (drw (drw x) / 65536) hn) (l := []) (fun c hc => by cases hc) (by simp) false
    have z1 : f_X7_seek σ (nI (drw x / 65536 % n)) (nI (drw (drw x) / 65536 % n)) 0 (-1) = _ := z1
    have z2 : f_X11_laySoonest τ (nI (drw x / 65536 % n)) (nI (drw (drw x) / 65536 % n)) 0 0 = _ := z2
    have hI' : Inv (τ'.2.2 1) n nn rn un se := by rw [z6]; exact hI
    rw [eC, eM]
    unfold f_X10_forests_b66 f_X11_forests_b66 f_X10_drawn f_X10_forests_b143 f_X11_forests_b155 f_X11_forests_b176
    rw [if_neg hle, if_neg hle, hmany, bs, bs, bs]
    dsimp only
    rw [hmany, bs]
    dsimp only
    rw [nI_l (show n < 2 ^ 31 by omega), if_neg hne, if_neg hne, if_neg hne, if_neg hne, d1, d2, t1, t2, z1, z2, bs, bs]
    dsimp only
    rw [nI_1]
    cases b' with
    | none =>
      rw [if_pos rfl, if_pos rfl, z4.2.1, if_pos rfl, if_pos rfl, Int32.add_zero, Int32.add_zero]
      exact ih (i + 1) fu gu _ σ' τ' c b (by omega) (by omega) (by omega) (drw_b _) z5 hI'
    | some r =>
      have hm1 : ¬ τ'.1 12 = -1 := fun z => by
        rw [z4.2.1] at z
        have hlt := (rdL_good (M := τ.2.2 1) (s := se) (l := []) (fun c hc => by cases hc) (by simp) r).2.2
        have h7 : r.length ≤ 7 := by
          have := z7 r rfl
          have := nd_len n r this.1 this.2.1
          omega
        have : (nI (rdL (τ.2.2 1) se [] r).2).toInt = -1 := by rw [z]; rfl
        rw [nI_toInt (by omega)] at this
        omega
      rw [if_neg (show ¬ (some r : Option (List Nat)) = none by simp), if_neg (show ¬ (1 : Int32) = 0 by decide), if_neg hm1, if_neg hm1, z4.2.1, z3.2.1]
      exact ih (i + 1) fu gu _ σ' τ' _ _ (by omega) (by omega) (by omega) (drw_b _) z5 hI'
theorem op_forests : Op3 RelP f_X10_forests f_X11_forests := by
  intro σ τ hR a b c
  obtain ⟨n, nn, rn, un, se, hI⟩ := hR.n
  have a1 : τ.2.2 1 0 = nI n := hI.1.1
  have a2 : n ≤ 7 := hI.1.2
  have e106 : σ.1 106 = nI n := hR.2.1.1.trans a1
  have bad : (f_X10_forests_b29 σ = some (-2, sI σ 13 (σ.1 13 + 1))) ∧ f_X11_forests_b34 τ = some (-2, sE τ 4 0 (τ.2.2 4 0 + 1)) := ⟨rfl, rfl⟩
  unfold f_X10_forests f_X11_forests
  by_cases hA : ¬ Rg 0 999999 a
  · exact ⟨-2, _, _, by rw [wi_n (a := 0) (b := 999999) (lo := 0) (hi := 999999) hA (by omega) (by omega) rfl rfl, b0]; exact bad.1, by rw [in_n (a := 0) (b := 999999) (lo := 0) (hi := 999999) hA (by omega) (by omega) rfl rfl, b0]; exact bad.2, hR.bad⟩
  have hA := Classical.not_not.mp hA
  rw [wi_y (a := 0) (b := 999999) (lo := 0) (hi := 999999) hA (by omega) (by omega) rfl rfl, in_y (a := 0) (b := 999999) (lo := 0) (hi := 999999) hA (by omega) (by omega) rfl rfl, b1, b1]
  by_cases hB : ¬ Rg 0 60 b
  · exact ⟨-2, _, _, by rw [wi_n (a := 0) (b := 60) (lo := 0) (hi := 60) hB (by omega) (by omega) rfl rfl, b0]; exact bad.1, by rw [in_n (a := 0) (b := 60) (lo := 0) (hi := 60) hB (by omega) (by omega) rfl rfl, b0]; exact bad.2, hR.bad⟩
  have hB := Classical.not_not.mp hB
  rw [wi_y (a := 0) (b := 60) (lo := 0) (hi := 60) hB (by omega) (by omega) rfl rfl, in_y (a := 0) (b := 60) (lo := 0) (hi := 60) hB (by omega) (by omega) rfl rfl, b1, b1]
  by_cases hC : ¬ Rg 0 1 c
  · exact ⟨-2, _, _, by rw [wi_n (a := 0) (b := 1) (lo := 0) (hi := 1) hC (by omega) (by omega) rfl rfl, b0]; exact bad.1, by rw [in_n (a := 0) (b := 1) (lo := 0) (hi := 1) hC (by omega) (by omega) rfl rfl, b0]; exact bad.2, hR.bad⟩
  have hC := Classical.not_not.mp hC
  rw [wi_y (a := 0) (b := 1) (lo := 0) (hi := 1) hC (by omega) (by omega) rfl rfl, in_y (a := 0) (b := 1) (lo := 0) (hi := 1) hC (by omega) (by omega) rfl rfl, b1, b1]
  have hmany : f_X11_many τ = some (nI n, τ) := by
    unfold f_X11_many
    rw [a1]
  rw [hmany, bs, e106]
  dsimp only
  by_cases h0 : n = 0
  · subst h0
    rw [if_pos nI_0, if_pos nI_0]
    exact ⟨-3, _, _, rfl, rfl, hR.no⟩
  · have hne : ¬ nI n = 0 := nI_ne0 (by omega) (by omega)
    rw [if_neg hne, if_neg hne]
    obtain ⟨x, -, hx, rfl⟩ := hA
    obtain ⟨N, -, hN, rfl⟩ := hB
    rw [nI_l (show x < 2 ^ 31 by omega)]
    exact forests_L hN (by omega) c N 0 FU FU x σ τ 0 0 (by omega) (by unfold FU; omega) (by unfold FU; omega) (by omega) hR hI
