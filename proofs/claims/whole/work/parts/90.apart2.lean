/-! apart -/
theorem op_apart : Op2 RelP f_X10_apart f_X11_apart := by
  intro σ τ hR a b
  obtain ⟨n, nn, rn, un, se, hI⟩ := hR.n
  have a1 : τ.2.2 1 0 = nI n := hI.1.1
  have a2 : n ≤ 7 := hI.1.2
  have e106 : σ.1 106 = nI n := hR.2.1.1.trans a1
  have e107 : σ.1 107 = τ.2.2 1 1 := hR.2.1.2.1
  have bad : (f_X10_apart_b16 σ = some (-2, sI σ 13 (σ.1 13 + 1))) ∧ f_X11_apart_b16 τ = some (-2, sE τ 4 0 (τ.2.2 4 0 + 1)) := ⟨rfl, rfl⟩
  obtain ⟨m, hm, hF⟩ : ∃ m, 200 < m ∧ FU = m + 1 := ⟨999999, by decide, rfl⟩
  unfold f_X10_apart f_X11_apart
  rw [hF]
  by_cases hA : ¬ Tr n a
  · exact ⟨-2, _, _, by rw [isT_n e106 a2 hA, p0]; exact bad.1, by rw [isM_n a1 a2 hA, p0]; exact bad.2, hR.bad⟩
  have hA := Classical.not_not.mp hA
  rw [isT_y e106 a2 hA, isM_y a1 a2 hA, p1, p1]
  dsimp only
  by_cases hB : ¬ Tr n b
  · exact ⟨-2, _, _, by rw [isT_n e106 a2 hB, p0]; exact bad.1, by rw [isM_n a1 a2 hB, p0]; exact bad.2, hR.bad⟩
  have hB := Classical.not_not.mp hB
  rw [isT_y e106 a2 hB, isM_y a1 a2 hB, p1, p1]
  dsimp only
  obtain ⟨a, ha, rfl⟩ := hA
  obtain ⟨g, hg, rfl⟩ := hB
  have hpw : (1 : Int32) <<< (nI n &&& 31) = nI (2 ^ n) := pw2 ⟨n, by omega⟩
  have h2n : 2 ^ n ≤ 128 := Nat.pow_le_pow_right (n := 2) (by omega) a2
  have h2p : 0 < 2 ^ n := Nat.pow_pos (by omega)
  have or0 : τ.2.2 1 1 ||| nI 0 = τ.2.2 1 1 := or_0 _
  obtain ⟨w1, w2, w3, w4, -, -⟩ := hR.wk hI
  obtain ⟨b2, e1, hb⟩ := joins_C w1 w2 w3 w4 ha hg (τ.2.2 1 1)
  obtain ⟨b', τ1, j1, j2, hR1, -, m5⟩ := jw hR hI ha hg (τ.2.2 1 1)
  have hbb : b2 = b' := by
    have := j1.symm.trans e1
    cases b' <;> cases b2
    · rfl
    · exact absurd (show (0 : Int32) = 1 from congrArg Prod.fst (Option.some.inj this)) (by decide)
    · exact absurd (show (1 : Int32) = 0 from congrArg Prod.fst (Option.some.inj this)) (by decide)
    · rfl
  subst hbb
  have hM1 : τ1.2.2 1 = τ.2.2 1 := m5 1 (by omega)
  have step0 : f_X11_apart_L28 (m + 1) τ (nI a) (nI g) (-1) 0 = if b2 = true then f_X11_apart_L28 m τ1 (nI a) (nI g) (bst none) (nI 1) else f_X11_apart_L28 m τ1 (nI a) (nI g) (bst (some 0)) (nI 1) := by
    show f_X11_apart_b28 (f_X11_apart_L28 m) τ (nI a) (nI g) (-1) (nI 0) = _
    unfold f_X11_apart_b28 f_X11_many
    rw [bs]
    dsimp only
    rw [a1, hpw, if_neg (fun z => absurd ((nle (by omega) (by omega)).mp z) (by omega)), has_v (show a < 32 by omega), has_v (show g < 32 by omega), bt_nI (by omega), bt_nI (by omega), Nat.zero_testBit, Nat.zero_testBit, if_neg (show ¬ false = true by decide), b0, b0, if_pos ((and_0 _ _).mpr (fun i hi => by rw [bt_nI (by omega), Nat.zero_testBit] at hi; cases hi))]
    unfold f_X11_apart_b74 f_X11_apart_b93 f_X11_apart_b98
    rw [if_pos rfl, if_neg (show ¬ (1 : Int32) = 0 by decide), if_neg (show ¬ (1 : Int32) = 0 by decide), or0, j2, bs]
    cases b2 <;> rfl
  unfold f_X7_fewestToPart
  rw [hF, e107, e1, bs]
  dsimp only
  cases b2 with
  | false =>
    rw [if_neg (show ¬ false = true by decide)] at step0
    obtain ⟨τ2, z1, z2⟩ := stay_L hI ha hg (2 ^ n - 1) 1 m (some 0) σ τ1 (by omega) (by omega) hR1 hM1 (fun z e => by cases e; omega) (fun y _ _ _ _ => Or.inl ⟨0, rfl, by show (0 : Nat) ≤ _; omega⟩)
    rw [step0, z1]
    exact ⟨0, σ, τ2, rfl, rfl, z2⟩
  | true =>
    rw [if_pos rfl, if_neg (show ¬ (1 : Int32) = 0 by decide)]
    have hW := hb.mp rfl
    have sa : bt (stn n (τ.2.2 1 1)) a = true := by
      obtain ⟨r, hr, -⟩ := hW
      exact IsRow.el (P := fun _ => bt (stn n (τ.2.2 1 1)) a = true) (fun h => h) (fun _ _ _ _ h => h) r hr
    have sg : bt (stn n (τ.2.2 1 1)) g = true := by
      obtain ⟨r, hr, hh⟩ := hW
      exact hr.sd g (List.mem_of_mem_head? (by rw [hh]; rfl))
    have so : ∀ (c y : Nat), y < 2 ^ n → bt (stn n (τ.2.2 1 1)) c = true → y.testBit c = false → bt (stn n (τ.2.2 1 1 ||| nI y)) c = true := fun c y hy h1 h2 => by
      rw [stn_b a2] at h1 ⊢
      rw [b_or, bt_nI (by omega), h2, Bool.or_false]
      exact h1
    have stay : (∀ y, 0 ≤ y → y < 2 ^ n → y.testBit a = false → y.testBit g = false → Way (τ.2.2 1) (stn n (τ.2.2 1 1 ||| nI y)) a g) → ∃ τ', f_X11_apart_L28 (m + 1) τ (nI a) (nI g) (-1) 0 = some (-1, τ') ∧ RelP σ τ' := fun h => stay_L hI ha hg (2 ^ n) 0 (m + 1) none σ τ (by omega) (by omega) hR rfl (fun z e => by cases e) (fun y h1 h2 h3 h4 => Or.inr (h y h1 h2 h3 h4))
    by_cases hag : a = g
    · subst hag
      obtain ⟨τ2, z1, z2⟩ := stay (fun y _ hy h3 _ => ⟨[a], .one (so a y hy sa h3), rfl⟩)
      rw [if_pos rfl, z1]
      exact ⟨-1, σ, τ2, rfl, rfl, z2⟩
    · rw [if_neg (fun z => hag ((neq (by omega) (by omega)).mp z)), ck_nI (show a < 7 by omega) (by omega), cT, nI_clamp (show a < 2 ^ 31 by omega), w3 a ha, bit_v (show g < 32 by omega)]
      by_cases ht : bt (τ.2.2 1 (13 + a)) g = true
      · obtain ⟨τ2, z1, z2⟩ := stay (fun y _ hy h3 h4 => ⟨[g, a], ⟨by
          show (bt (τ.2.2 1 (13 + a)) g && bt (stn n (τ.2.2 1 1 ||| nI y)) g && !decide (g ∈ [a])) = true
          rw [ht, so g y hy sg h4]
          simp [Ne.symm hag], .one (so a y hy sa h3)⟩, rfl⟩)
        rw [if_pos ht, if_pos rfl, z1]
        exact ⟨-1, σ, τ2, rfl, rfl, z2⟩
      · rw [if_neg ht, if_neg (show ¬ (0 : Int32) = 1 by decide), step0, if_pos rfl]
        obtain ⟨v, τ2, z1, z2, z3⟩ := apart_L hI ha hg (2 ^ n - 1) 1 m (m + 1) none σ τ1 (by omega) (by omega) (by omega) hR1 hM1 (fun z e => by cases e) (fun y hy _ _ h => by
          have : y = 0 := by omega
          subst this
          rw [or0] at h
          exact absurd hW h)
        have z1 : f_X7_fewestToPart_L60 (m + 1) σ (nI a) (nI g) (((1 : Int32) <<< (nI a &&& 31)) ||| ((1 : Int32) <<< (nI g &&& 31))) (-1) 7 1 = some (v, σ) := z1
        rw [z1, z2]
        exact ⟨v, σ, τ2, rfl, rfl, z3⟩
