def bst : Option Nat → Int32
  | none => -1
  | some y => nI y
def bct : Option Nat → Nat
  | none => 7
  | some y => pcN y
theorem apart_L {n nn rn un se : Nat} {M : Nat → Int32} (hI : Inv M n nn rn un se) {a g : Nat} (ha : a < n) (hg : g < n) : ∀ (d x fu gu : Nat) (o : Option Nat) (σ τ : St), x + d = 2 ^ n → d < fu → d < gu → RelP σ τ → τ.2.2 1 = M → (∀ z, o = some z → z < 128) → (∀ y, y < x → y.testBit a = false → y.testBit g = false → ¬ Way M (stn n (M 1 ||| nI y)) a g → ∃ z, o = some z ∧ pcN z ≤ pcN y) → ∃ v τ', f_X7_fewestToPart_L60 gu σ (nI a) (nI g) (((1 : Int32) <<< (nI a &&& 31)) ||| ((1 : Int32) <<< (nI g &&& 31))) (bst o) (nI (bct o)) (nI x) = some (v, σ) ∧ f_X11_apart_L28 fu τ (nI a) (nI g) (bst o) (nI x) = some (v, τ') ∧ RelP σ τ' := by
  have hn : n ≤ 7 := hI.1.2
  have hpw : (1 : Int32) <<< (nI n &&& 31) = nI (2 ^ n) := pw2 ⟨n, by omega⟩
  have h2n : 2 ^ n ≤ 128 := Nat.pow_le_pow_right (n := 2) (by omega) hn
  obtain ⟨p, hp, ef, hpb⟩ := low7 hn hI.2.2.2.2.2.2.2.1
  intro d
  induction d with
  | zero =>
    intro x fu gu o σ τ hx hfu hgu hR hM ho hinv
    obtain ⟨fu, rfl⟩ : ∃ m, fu = m + 1 := ⟨fu - 1, by omega⟩
    obtain ⟨gu, rfl⟩ : ∃ m, gu = m + 1 := ⟨gu - 1, by omega⟩
    have hx : x = 2 ^ n := by omega
    have h106 : σ.1 106 = nI n := hR.2.1.1.trans (by rw [hM]; exact hI.1.1)
    refine ⟨bst o, τ, ?_, ?_, hR⟩
    · show f_X7_fewestToPart_b60 _ σ _ _ _ _ _ (nI x) = _
      unfold f_X7_fewestToPart_b60
      rw [h106, hpw, hx, if_pos ((nle (by omega) (by omega)).mpr (Nat.le_refl _))]
    · show f_X11_apart_b28 _ τ _ _ _ (nI x) = _
      unfold f_X11_apart_b28 f_X11_many
      rw [bs]
      dsimp only
      rw [hM, hI.1.1, hpw, hx, if_pos ((nle (by omega) (by omega)).mpr (Nat.le_refl _))]
  | succ d ih =>
    intro x fu gu o σ τ hx hfu hgu hR hM ho hinv
    obtain ⟨fu, rfl⟩ : ∃ m, fu = m + 1 := ⟨fu - 1, by omega⟩
    obtain ⟨gu, rfl⟩ : ∃ m, gu = m + 1 := ⟨gu - 1, by omega⟩
    have hx128 : x < 128 := by omega
    have h106 : σ.1 106 = nI n := hR.2.1.1.trans (by rw [hM]; exact hI.1.1)
    have h107 : σ.1 107 = M 1 := hR.2.1.2.1.trans (by rw [hM])
    obtain ⟨c1, c2⟩ := bits_pc ⟨x, hx128⟩
    have c1 : f_J6_bitCount_0f7a4 (nI x) = some (nI (pcN x)) := c1
    have c2 : f_X11_bits (nI x) = some (nI (pcN x)) := c2
    have hlt : ¬ nI (2 ^ n) ≤ nI x := fun z => absurd ((nle (by omega) (by omega)).mp z) (by omega)
    have eC : f_X7_fewestToPart_L60 (gu + 1) σ (nI a) (nI g) (((1 : Int32) <<< (nI a &&& 31)) ||| ((1 : Int32) <<< (nI g &&& 31))) (bst o) (nI (bct o)) (nI x) = f_X7_fewestToPart_b60 (f_X7_fewestToPart_L60 gu) σ (nI a) (nI g) (((1 : Int32) <<< (nI a &&& 31)) ||| ((1 : Int32) <<< (nI g &&& 31))) (bst o) (nI (bct o)) (nI x) := rfl
    have eM : f_X11_apart_L28 (fu + 1) τ (nI a) (nI g) (bst o) (nI x) = f_X11_apart_b28 (f_X11_apart_L28 fu) τ (nI a) (nI g) (bst o) (nI x) := rfl
    have skC : f_X7_fewestToPart_b122 (f_X7_fewestToPart_L60 gu) σ (nI a) (nI g) (((1 : Int32) <<< (nI a &&& 31)) ||| ((1 : Int32) <<< (nI g &&& 31))) (bst o) (nI (bct o)) (nI x) = f_X7_fewestToPart_L60 gu σ (nI a) (nI g) (((1 : Int32) <<< (nI a &&& 31)) ||| ((1 : Int32) <<< (nI g &&& 31))) (bst o) (nI (bct o)) (nI (x + 1)) := by unfold f_X7_fewestToPart_b122; rw [nI_1]
    have skM : ∀ τ : St, f_X11_apart_b133 (f_X11_apart_L28 fu) τ (nI a) (nI g) (bst o) (nI x) = f_X11_apart_L28 fu τ (nI a) (nI g) (bst o) (nI (x + 1)) := fun τ => by unfold f_X11_apart_b133 f_X11_apart_b134; rw [nI_1]
    have no0 : f_X11_apart_b74 (f_X11_apart_L28 fu) τ (nI a) (nI g) (bst o) (nI x) 0 = f_X11_apart_L28 fu τ (nI a) (nI g) (bst o) (nI (x + 1)) := by
      unfold f_X11_apart_b74 f_X11_apart_b93 f_X11_apart_b98
      rw [skM]
      by_cases q : bst o = -1
      · rw [if_pos q, if_pos rfl]
      · rw [if_neg q]
        cases o with
        | none => exact absurd rfl q
        | some z =>
          have := (bits_pc ⟨z, ho z rfl⟩).2
          have this : f_X11_bits (bst (some z)) = some (nI (pcN z)) := this
          rw [c2, bs, this, bs, if_pos rfl]
          split <;> rfl
    have hxm : (nI x &&& (((1 : Int32) <<< (nI a &&& 31)) ||| ((1 : Int32) <<< (nI g &&& 31)))) = 0 ↔ x.testBit a = false ∧ x.testBit g = false := by
      rw [and_0]
      constructor
      · intro h
        have ba : ∀ i, (i = a ∨ i = g) → x.testBit i = false := fun i hi => by
          cases e : x.testBit i
          · rfl
          · have := h i (by rw [bt_nI hx128]; exact e)
            rw [b_or, bt_shl1 (by omega), bt_shl1 (by omega)] at this
            rcases hi with rfl | rfl <;> simp at this
        exact ⟨ba a (Or.inl rfl), ba g (Or.inr rfl)⟩
      · rintro ⟨h1, h2⟩ i hi
        rw [bt_nI hx128] at hi
        rw [b_or, bt_shl1 (by omega), bt_shl1 (by omega)]
        have n1 : i ≠ a := fun e => by rw [e, h1] at hi; cases hi
        have n2 : i ≠ g := fun e => by rw [e, h2] at hi; cases hi
        simp [n1, n2]
    have sw : ∀ y y' : Nat, y < 128 → y' < 128 → (∀ c, (y.testBit c || p.testBit c) = (y'.testBit c || p.testBit c)) → stn n (M 1 ||| nI y) = stn n (M 1 ||| nI y') := fun y y' hy hy' h => stn_ext hn (fun c _ => by rw [b_or, b_or, bt_nI hy, bt_nI hy', ← hpb c, Bool.or_comm, h c, Bool.or_comm])
    have cutx : x.testBit a = false → x.testBit g = false → x &&& p ≠ 0 → ¬ Way M (stn n (M 1 ||| nI x)) a g → ∃ z, o = some z ∧ pcN z ≤ pcN x := by
      intro h1 h2 h3 h4
      obtain ⟨k1, k2⟩ := pc_cut ⟨p, hp⟩ ⟨x, hx128⟩ h3
      have k1 : (x &&& (127 ^^^ p)) < x := k1
      have k2 : pcN (x &&& (127 ^^^ p)) < pcN x := k2
      have e := sw x (x &&& (127 ^^^ p)) hx128 (by omega) (fun c => by
        rw [Nat.testBit_and, Nat.testBit_xor]
        by_cases hc : c < 7
        · have : (127 : Nat).testBit c = true := by
            have h127 : ∀ c : Fin 7, (127 : Nat).testBit c.val = true := by decide
            exact h127 ⟨c, hc⟩
          rw [this]
          cases x.testBit c <;> cases p.testBit c <;> rfl
        · have : x.testBit c = false := Nat.testBit_lt_two_pow (Nat.lt_of_lt_of_le hx128 (by
            calc 128 = 2 ^ 7 := by decide
              _ ≤ 2 ^ c := Nat.pow_le_pow_right (by omega) (by omega)))
          rw [this]; rfl)
      rw [e] at h4
      obtain ⟨z, z1, z2⟩ := hinv (x &&& (127 ^^^ p)) k1 (by rw [Nat.testBit_and, h1]; rfl) (by rw [Nat.testBit_and, h2]; rfl) h4
      exact ⟨z, z1, by omega⟩
    have skip : (x.testBit a = false → x.testBit g = false → ¬ Way M (stn n (M 1 ||| nI x)) a g → ∃ z, o = some z ∧ pcN z ≤ pcN x) → ∀ τ2, RelP σ τ2 → τ2.2.2 1 = M → ∃ v τ', f_X7_fewestToPart_L60 gu σ (nI a) (nI g) (((1 : Int32) <<< (nI a &&& 31)) ||| ((1 : Int32) <<< (nI g &&& 31))) (bst o) (nI (bct o)) (nI (x + 1)) = some (v, σ) ∧ f_X11_apart_L28 fu τ2 (nI a) (nI g) (bst o) (nI (x + 1)) = some (v, τ') ∧ RelP σ τ' := fun h τ2 hR2 hM2 => ih (x + 1) fu gu o σ τ2 (by omega) (by omega) (by omega) hR2 hM2 ho (fun y hy h1 h2 h3 => by
      by_cases e : y = x
      · subst e; exact h h1 h2 h3
      · exact hinv y (by omega) h1 h2 h3)
    have bo : bct o ≤ 7 := by
      cases o with
      | none => exact Nat.le_refl _
      | some z =>
        show pcN z ≤ 7
        unfold pcN
        have := Bool.toNat_le (z.testBit 0)
        have := Bool.toNat_le (z.testBit 1)
        have := Bool.toNat_le (z.testBit 2)
        have := Bool.toNat_le (z.testBit 3)
        have := Bool.toNat_le (z.testBit 4)
        have := Bool.toNat_le (z.testBit 5)
        have := Bool.toNat_le (z.testBit 6)
        omega
    rw [eC, eM]
    unfold f_X7_fewestToPart_b60 f_X11_apart_b28 f_X11_many f_X11_apart_b73
    rw [bs]
    dsimp only
    rw [hM, hI.1.1, h106, hpw, if_neg hlt, if_neg hlt, c1, bs, h107, skC, no0, has_v (show a < 32 by omega), has_v (show g < 32 by omega), bt_nI hx128, bt_nI hx128]
    by_cases hA : x.testBit a = true
    · rw [if_pos hA, b1, if_neg (fun z => by have := (hxm.mp z).1; rw [hA] at this; cases this)]
      exact skip (fun h => by rw [hA] at h; cases h) τ hR hM
    have hA2 : x.testBit a = false := by simpa using hA
    rw [if_neg hA, b0]
    by_cases hG : x.testBit g = true
    · rw [if_pos hG, b1, if_neg (fun z => by have := (hxm.mp z).2; rw [hG] at this; cases this)]
      exact skip (fun _ h => by rw [hG] at h; cases h) τ hR hM
    have hG2 : x.testBit g = false := by simpa using hG
    rw [if_neg hG, b0, if_pos (hxm.mpr ⟨hA2, hG2⟩)]
    have p6 : pcN x ≤ 6 := pc_6 ⟨a, by omega⟩ ⟨x, hx128⟩ hA2
    obtain ⟨b, τ1, j1, j2, hR1, -, m5⟩ := jw hR (hM ▸ hI) ha hg (M 1 ||| nI x)
    have hM1 : τ1.2.2 1 = M := (m5 1 (by omega)).trans hM
    have hfx : nI x &&& M 1 = nI (x &&& p) := by rw [ef, fa_and]
    have hxp : x &&& p < 2 ^ 31 := Nat.lt_of_le_of_lt Nat.and_le_left (by omega)
    have hWk := hR.wk (hM ▸ hI)
    rw [hM] at hWk
    obtain ⟨w1, w2, w3, w4, -, -⟩ := hWk
    obtain ⟨b2, e1, hb⟩ := joins_C w1 w2 w3 w4 ha hg (M 1 ||| nI x)
    have hbb : b2 = b := by
      have := j1.symm.trans e1
      cases b <;> cases b2
      · rfl
      · exact absurd (show (0 : Int32) = 1 from congrArg Prod.fst (Option.some.inj this)) (by decide)
      · exact absurd (show (1 : Int32) = 0 from congrArg Prod.fst (Option.some.inj this)) (by decide)
      · rfl
    subst hbb
    have tC : ¬ bct o ≤ pcN x → (if nI (bct o) ≤ nI (pcN x) then f_X7_fewestToPart_L60 gu σ (nI a) (nI g) (((1 : Int32) <<< (nI a &&& 31)) ||| ((1 : Int32) <<< (nI g &&& 31))) (bst o) (nI (bct o)) (nI (x + 1)) else (f_X7_joins σ (nI a) (nI g) (M 1 ||| nI x)).bind fun q2 => if q2.1 = 0 then f_X7_fewestToPart_b122 (f_X7_fewestToPart_L60 gu) q2.2 (nI a) (nI g) (((1 : Int32) <<< (nI a &&& 31)) ||| ((1 : Int32) <<< (nI g &&& 31))) (nI x) (nI (pcN x)) (nI x) else f_X7_fewestToPart_b122 (f_X7_fewestToPart_L60 gu) q2.2 (nI a) (nI g) (((1 : Int32) <<< (nI a &&& 31)) ||| ((1 : Int32) <<< (nI g &&& 31))) (bst o) (nI (bct o)) (nI x)) = if b2 = true then f_X7_fewestToPart_L60 gu σ (nI a) (nI g) (((1 : Int32) <<< (nI a &&& 31)) ||| ((1 : Int32) <<< (nI g &&& 31))) (bst o) (nI (bct o)) (nI (x + 1)) else f_X7_fewestToPart_L60 gu σ (nI a) (nI g) (((1 : Int32) <<< (nI a &&& 31)) ||| ((1 : Int32) <<< (nI g &&& 31))) (bst (some x)) (nI (bct (some x))) (nI (x + 1)) := by
      intro q
      rw [if_neg (fun z => q ((nle (by omega) (by omega)).mp z)), e1, bs]
      cases b2
      · show f_X7_fewestToPart_b122 (f_X7_fewestToPart_L60 gu) σ _ _ _ (nI x) (nI (pcN x)) (nI x) = _
        unfold f_X7_fewestToPart_b122
        rw [nI_1]
        rfl
      · show f_X7_fewestToPart_b122 (f_X7_fewestToPart_L60 gu) σ _ _ _ (bst o) (nI (bct o)) (nI x) = _
        rw [skC]
        rfl
    by_cases hxp0 : x &&& p = 0
    · rw [if_pos (show nI x &&& M 1 = 0 by rw [hfx, hxp0]; rfl)]
      by_cases q : bct o ≤ pcN x
      · rw [if_pos ((nle (by omega) (by omega)).mpr q)]
        cases o with
        | none => exact absurd (show 7 ≤ pcN x from q) (by omega)
        | some z =>
          have hz := ho z rfl
          have hb1 : f_X11_bits (bst (some z)) = some (nI (pcN z)) := (bits_pc ⟨z, hz⟩).2
          have hne : ¬ bst (some z) = -1 := fun e => by
            have : (nI z).toInt = (-1 : Int32).toInt := congrArg Int32.toInt e
            rw [nI_toInt (by omega)] at this
            have e1 : (-1 : Int32).toInt = -1 := by decide
            rw [e1] at this
            omega
          unfold f_X11_apart_b74 f_X11_apart_b98
          rw [if_neg hne, c2, bs, hb1, bs, if_pos (show nI (pcN z) ≤ nI (pcN x) from (nle (by have : pcN z ≤ 7 := bo; omega) (by omega)).mpr q), if_neg (show ¬ (1 : Int32) = 0 by decide), if_pos rfl, skM]
          exact skip (fun _ _ _ => ⟨z, rfl, q⟩) τ hR hM
      · rw [tC q]
        have tM : f_X11_apart_b74 (f_X11_apart_L28 fu) τ (nI a) (nI g) (bst o) (nI x) 1 = if b2 = true then f_X11_apart_L28 fu τ1 (nI a) (nI g) (bst o) (nI (x + 1)) else f_X11_apart_L28 fu τ1 (nI a) (nI g) (bst (some x)) (nI (x + 1)) := by
          have t93 : f_X11_apart_b93 (f_X11_apart_L28 fu) τ (nI a) (nI g) (bst o) (nI x) 1 = if b2 = true then f_X11_apart_L28 fu τ1 (nI a) (nI g) (bst o) (nI (x + 1)) else f_X11_apart_L28 fu τ1 (nI a) (nI g) (bst (some x)) (nI (x + 1)) := by
            unfold f_X11_apart_b93 f_X11_apart_b98
            rw [if_neg (show ¬ (1 : Int32) = 0 by decide), if_neg (show ¬ (1 : Int32) = 0 by decide), hM, j2, bs]
            cases b2
            · show f_X11_apart_b134 (f_X11_apart_L28 fu) τ1 (nI a) (nI g) (nI x) (nI x) = _
              unfold f_X11_apart_b134
              rw [nI_1]
              rfl
            · show f_X11_apart_b133 (f_X11_apart_L28 fu) τ1 (nI a) (nI g) (bst o) (nI x) = _
              rw [skM]
              rfl
          unfold f_X11_apart_b74
          rw [t93]
          by_cases e : bst o = -1
          · rw [if_pos e]
          · rw [if_neg e]
            cases o with
            | none => exact absurd rfl e
            | some z =>
              have hb1 : f_X11_bits (bst (some z)) = some (nI (pcN z)) := (bits_pc ⟨z, ho z rfl⟩).2
              rw [c2, bs, hb1, bs, if_neg (show ¬ nI (pcN z) ≤ nI (pcN x) from fun w => q ((nle (by have : pcN z ≤ 7 := bo; omega) (by omega)).mp w))]
        rw [tM]
        cases b2 with
        | true =>
          rw [if_pos rfl, if_pos rfl]
          exact skip (fun _ _ h => absurd (hb.mp rfl) h) τ1 hR1 hM1
        | false =>
          rw [if_neg (by decide), if_neg (by decide)]
          refine ih (x + 1) fu gu (some x) σ τ1 (by omega) (by omega) (by omega) hR1 hM1 (fun z e => by cases e; exact hx128) (fun y hy h1 h2 h3 => ⟨x, rfl, ?_⟩)
          by_cases e : y = x
          · rw [e]; exact Nat.le_refl _
          · obtain ⟨z, z1, z2⟩ := hinv y (by omega) h1 h2 h3
            subst z1
            have q : ¬ pcN z ≤ pcN x := q
            omega
    · rw [if_neg (show ¬ nI x &&& M 1 = 0 from fun z => hxp0 ((neq (b := 0) hxp (by omega)).mp (hfx.symm.trans z)))]
      by_cases q : bct o ≤ pcN x
      · rw [if_pos ((nle (by omega) (by omega)).mpr q)]
        exact skip (fun h1 h2 => cutx h1 h2 hxp0) τ hR hM
      · rw [tC q]
        cases b2 with
        | true =>
          rw [if_pos rfl]
          exact skip (fun h1 h2 => cutx h1 h2 hxp0) τ hR hM
        | false =>
          obtain ⟨z, z1, z2⟩ := cutx hA2 hG2 hxp0 (fun w => by have := hb.mpr w; cases this)
          subst z1
          exact absurd z2 q
/-- the reference keeps its best where no later set is better -/
theorem stay_L {n nn rn un se : Nat} {M : Nat → Int32} (hI : Inv M n nn rn un se) {a g : Nat} (ha : a < n) (hg : g < n) : ∀ (d x fu : Nat) (o : Option Nat) (σ τ : St), x + d = 2 ^ n → d < fu → RelP σ τ → τ.2.2 1 = M → (∀ z, o = some z → z < 128) → (∀ y, x ≤ y → y < 2 ^ n → y.testBit a = false → y.testBit g = false → (∃ z, o = some z ∧ pcN z ≤ pcN y) ∨ Way M (stn n (M 1 ||| nI y)) a g) → ∃ τ', f_X11_apart_L28 fu τ (nI a) (nI g) (bst o) (nI x) = some (bst o, τ') ∧ RelP σ τ' := by
  have hn : n ≤ 7 := hI.1.2
  have hpw : (1 : Int32) <<< (nI n &&& 31) = nI (2 ^ n) := pw2 ⟨n, by omega⟩
  have h2n : 2 ^ n ≤ 128 := Nat.pow_le_pow_right (n := 2) (by omega) hn
  intro d
  induction d with
  | zero =>
    intro x fu o σ τ hx hfu hR hM ho hy
    obtain ⟨fu, rfl⟩ : ∃ m, fu = m + 1 := ⟨fu - 1, by omega⟩
    have hx : x = 2 ^ n := by omega
    refine ⟨τ, ?_, hR⟩
    show f_X11_apart_b28 _ τ _ _ _ (nI x) = _
    unfold f_X11_apart_b28 f_X11_many
    rw [bs]
    dsimp only
    rw [hM, hI.1.1, hpw, hx, if_pos ((nle (by omega) (by omega)).mpr (Nat.le_refl _))]
  | succ d ih =>
    intro x fu o σ τ hx hfu hR hM ho hy
    obtain ⟨fu, rfl⟩ : ∃ m, fu = m + 1 := ⟨fu - 1, by omega⟩
    have hx128 : x < 128 := by omega
    have c2 : f_X11_bits (nI x) = some (nI (pcN x)) := (bits_pc ⟨x, hx128⟩).2
    have pc7 : ∀ z, z < 128 → pcN z ≤ 7 := fun z hz => by
      have h127 : ∀ z : Fin 128, pcN z.val ≤ 7 := by decide +kernel
      exact h127 ⟨z, hz⟩
    have px := pc7 x hx128
    have hlt : ¬ nI (2 ^ n) ≤ nI x := fun z => absurd ((nle (by omega) (by omega)).mp z) (by omega)
    have go : ∀ τ2, RelP σ τ2 → τ2.2.2 1 = M → ∃ τ', f_X11_apart_L28 fu τ2 (nI a) (nI g) (bst o) (nI (x + 1)) = some (bst o, τ') ∧ RelP σ τ' := fun τ2 h1 h2 => ih (x + 1) fu o σ τ2 (by omega) (by omega) h1 h2 ho (fun y h3 h4 => hy y (by omega) h4)
    have skM : ∀ τ : St, f_X11_apart_b133 (f_X11_apart_L28 fu) τ (nI a) (nI g) (bst o) (nI x) = f_X11_apart_L28 fu τ (nI a) (nI g) (bst o) (nI (x + 1)) := fun τ => by unfold f_X11_apart_b133 f_X11_apart_b134; rw [nI_1]
    obtain ⟨b, τ1, j1, j2, hR1, -, m5⟩ := jw hR (hM ▸ hI) ha hg (M 1 ||| nI x)
    have hM1 : τ1.2.2 1 = M := (m5 1 (by omega)).trans hM
    have hWk := hR.wk (hM ▸ hI)
    rw [hM] at hWk
    obtain ⟨w1, w2, w3, w4, -, -⟩ := hWk
    obtain ⟨b2, e1, hb⟩ := joins_C w1 w2 w3 w4 ha hg (M 1 ||| nI x)
    have hbb : b2 = b := by
      have := j1.symm.trans e1
      cases b <;> cases b2
      · rfl
      · exact absurd (show (0 : Int32) = 1 from congrArg Prod.fst (Option.some.inj this)) (by decide)
      · exact absurd (show (1 : Int32) = 0 from congrArg Prod.fst (Option.some.inj this)) (by decide)
      · rfl
    subst hbb
    have any : ∀ y0 : Int32, (y0 = 0 ∨ (x.testBit a = false ∧ x.testBit g = false)) → ∃ τ', f_X11_apart_b74 (f_X11_apart_L28 fu) τ (nI a) (nI g) (bst o) (nI x) y0 = some (bst o, τ') ∧ RelP σ τ' := by
      intro y0 h0
      have t98 : ∀ u : Int32, (y0 = 0 ∨ u = 0 ∨ b2 = true) → ∃ τ', f_X11_apart_b98 (f_X11_apart_L28 fu) τ (nI a) (nI g) (bst o) (nI x) y0 u = some (bst o, τ') ∧ RelP σ τ' := by
        intro u hu
        unfold f_X11_apart_b98
        rw [skM]
        by_cases q0 : y0 = 0
        · rw [if_pos q0]; exact go τ hR hM
        · rw [if_neg q0]
          by_cases qu : u = 0
          · rw [if_pos qu]; exact go τ hR hM
          · have : b2 = true := by
              rcases hu with h | h | h
              · exact absurd h q0
              · exact absurd h qu
              · exact h
            subst this
            rw [if_neg qu, hM, j2, bs]
            show ∃ τ', f_X11_apart_b133 (f_X11_apart_L28 fu) τ1 (nI a) (nI g) (bst o) (nI x) = some (bst o, τ') ∧ RelP σ τ'
            rw [skM]
            exact go τ1 hR1 hM1
      unfold f_X11_apart_b74 f_X11_apart_b93
      have alt : y0 = 0 ∨ (∃ z, o = some z ∧ pcN z ≤ pcN x) ∨ b2 = true := by
        rcases h0 with h | ⟨h1, h2⟩
        · exact Or.inl h
        · exact Or.inr ((hy x (Nat.le_refl _) (by omega) h1 h2).imp id hb.mpr)
      cases o with
      | none =>
        rw [if_pos (show bst none = -1 from rfl)]
        refine t98 1 (alt.imp id (fun h => Or.inr (h.elim (fun ⟨z, e, _⟩ => by cases e) id)))
      | some z =>
        have hz := ho z rfl
        have hb1 : f_X11_bits (bst (some z)) = some (nI (pcN z)) := (bits_pc ⟨z, hz⟩).2
        have pz := pc7 z hz
        have hne : ¬ bst (some z) = -1 := fun e => by
          have : (nI z).toInt = (-1 : Int32).toInt := congrArg Int32.toInt e
          rw [nI_toInt (by omega)] at this
          have e1 : (-1 : Int32).toInt = -1 := by decide
          rw [e1] at this
          omega
        rw [if_neg hne, c2, bs, hb1, bs]
        by_cases q : pcN z ≤ pcN x
        · rw [if_pos ((nle (by omega) (by omega)).mpr q)]
          exact t98 0 (Or.inr (Or.inl rfl))
        · rw [if_neg (fun w => q ((nle (by omega) (by omega)).mp w))]
          exact t98 1 (alt.imp id (fun h => Or.inr (h.elim (fun ⟨z', e, h'⟩ => by cases e; exact absurd h' q) id)))
    have e : f_X11_apart_L28 (fu + 1) τ (nI a) (nI g) (bst o) (nI x) = f_X11_apart_b28 (f_X11_apart_L28 fu) τ (nI a) (nI g) (bst o) (nI x) := rfl
    rw [e]
    unfold f_X11_apart_b28 f_X11_many f_X11_apart_b73
    rw [bs]
    dsimp only
    rw [hM, hI.1.1, hpw, if_neg hlt, has_v (show a < 32 by omega), has_v (show g < 32 by omega), bt_nI hx128, bt_nI hx128]
    by_cases hA : x.testBit a = true
    · rw [if_pos hA, b1]; exact any 0 (Or.inl rfl)
    rw [if_neg hA, b0]
    by_cases hG : x.testBit g = true
    · rw [if_pos hG, b1]; exact any 0 (Or.inl rfl)
    rw [if_neg hG, b0]
    split
    · exact any 1 (Or.inr ⟨by simpa using hA, by simpa using hG⟩)
    · exact any 0 (Or.inl rfl)
