/-! read -/
theorem begin_10 (τ : St) (x : Int32) : ∃ τ', f_X11_begin_10 τ x = some τ' ∧ τ'.1 = τ.1 ∧ τ'.2.1 = τ.2.1 ∧ (∀ a, a ≠ 10 → τ'.2.2 a = τ.2.2 a) ∧ (∀ k, k < 68 → k ≠ 2 → τ'.2.2 10 k = 0) ∧ τ'.2.2 10 2 = x := by
  have key : ∀ (d k n : Nat) (τ1 : St), k + d = 68 → d < n → τ1.1 = τ.1 → τ1.2.1 = τ.2.1 → (∀ a, a ≠ 10 → τ1.2.2 a = τ.2.2 a) → (∀ j, j < k → τ1.2.2 10 j = 0) → ∃ τ', f_X11_begin_10_L2 n τ1 x (nI k) = some τ' ∧ τ'.1 = τ.1 ∧ τ'.2.1 = τ.2.1 ∧ (∀ a, a ≠ 10 → τ'.2.2 a = τ.2.2 a) ∧ (∀ k, k < 68 → k ≠ 2 → τ'.2.2 10 k = 0) ∧ τ'.2.2 10 2 = x := by
    intro d
    induction d with
    | zero =>
      intro k n τ1 hk hn h1 h2 h3 h4
      obtain ⟨n, rfl⟩ : ∃ m, n = m + 1 := ⟨n - 1, by omega⟩
      have hk : k = 68 := by omega
      subst hk
      refine ⟨sE τ1 10 2 x, ?_, h1, h2, fun a ha => by rw [sE3, if_neg ha]; exact h3 a ha, fun k hk hk2 => ?_, rfl⟩
      · show f_X11_begin_10_b2 _ τ1 x (nI 68) = _
        unfold f_X11_begin_10_b2
        rw [if_pos (by decide)]
      · rw [sE3, if_pos rfl, upd_a, if_neg hk2]
        exact h4 k hk
    | succ d ih =>
      intro k n τ1 hk hn h1 h2 h3 h4
      obtain ⟨n, rfl⟩ : ∃ m, n = m + 1 := ⟨n - 1, by omega⟩
      have e : f_X11_begin_10_L2 (n + 1) τ1 x (nI k) = f_X11_begin_10_L2 n (sE τ1 10 k 0) x (nI (k + 1)) := by
        show f_X11_begin_10_b2 _ τ1 x (nI k) = _
        unfold f_X11_begin_10_b2
        rw [if_neg (show ¬ (68 : Int32) ≤ nI k from nI_ge (b := 68) (by omega) (by omega)), ck_nI (by omega) (by omega), nI_1, nI_clamp (by omega)]
        rfl
      rw [e]
      refine ih (k + 1) n _ (by omega) (by omega) h1 h2 (fun a ha => by rw [sE3, if_neg ha]; exact h3 a ha) (fun j hj => ?_)
      rw [sE3, if_pos rfl, upd_a]
      by_cases q : j = k
      · rw [if_pos q]
      · rw [if_neg q]; exact h4 j (by omega)
  exact key 68 0 FU τ (by omega) (by unfold FU; omega) rfl rfl (fun _ _ => rfl) (fun j hj => by omega)
section READ
variable {B : Nat → Int32} {N : Nat}
theorem b_iff {a b : Bool} {P : Prop} (h : a = true ↔ P) (g : b = true ↔ P) : a = b := by
  have : a = true ↔ b = true := h.trans g.symm
  cases a <;> cases b <;> simp_all
theorem bsome (b : Bool) (σ : St) : (some ((if b = true then (1 : Int32) else 0), σ) : Option (Int32 × St)) = if b = true then some (1, σ) else some (0, σ) := by cases b <;> rfl
theorem item_both (hN : N ≤ 150) {σ τ : St} (hC : CX B N σ) (hM : MX B N τ) {p n se : Nat} (hp : p ≤ N) (hT : TC B N σ p) (hV : TM B N τ p) (hD : Dr σ (τ.2.2 10) n se) (h7 : ¬ σ.1 4107 = 0) : ∃ y σ1 τ1, f_X9_takesItem σ = f_X9_takesItem_b130 σ1 y ∧ f_X11_takesItem τ = some (y, τ1) ∧ (y = 0 ∨ y = 1) ∧ After B N σ τ p se y σ1 τ1 := by
  have fail : After B N σ τ p se 0 σ τ := ⟨Rc.rf σ, Rn.rf τ, Or.inl ⟨rfl, _, (tkS_b B hp).2, hT.1, hV.1⟩⟩
  obtain ⟨bT, t1, t2⟩ := spells_M hN hM hp hV (z := 4) (by omega) 116 114 101 101 0 0
  obtain ⟨bH, h1, h2⟩ := spells_M hN hM hp hV (z := 5) (by omega) 116 111 117 99 104 0
  obtain ⟨bF, f1, f2⟩ := spells_M hN hM hp hV (z := 4) (by omega) 102 101 108 108 0 0
  have t1 : f_X11_spells τ 4 116 114 101 101 0 0 = _ := t1
  have h1 : f_X11_spells τ 5 116 111 117 99 104 0 = _ := h1
  have f1 : f_X11_spells τ 4 102 101 108 108 0 0 = _ := f1
  have none : bT = false → bH = false → bF = false → f_X11_takesItem τ = some (0, τ) := fun e1 e2 e3 => by
    unfold f_X11_takesItem
    rw [t1, e1, bs]
    show ((f_X11_spells τ 5 116 111 117 99 104 0).bind _) = _
    rw [h1, e2, bs]
    show ((f_X11_spells τ 4 102 101 108 108 0 0).bind _) = _
    rw [f1, e3, bs]
    rfl
  have nof : ∀ {b : Bool} {P : Prop}, (b = true ↔ P) → ¬ P → b = false := fun {b P} h g => by
    cases b
    · rfl
    · exact absurd (h.mp rfl) g
  by_cases g : tkK B N p = 1
  · obtain ⟨b0', w1, w2⟩ := spC_S0 hN hC hp hT
    obtain ⟨b1', x1, x2⟩ := spC_S1 hN hC hp hT
    obtain ⟨b2', y1, y2⟩ := spC_S2 hN hC hp hT
    obtain ⟨b3', z1, z2⟩ := spC_S3 hN hC hp hT
    have e1 : b1' = bT := b_iff x2 (t2.trans ⟨fun h => h.2, fun h => ⟨g, h⟩⟩)
    have e2 : b2' = bH := b_iff y2 (h2.trans ⟨fun h => h.2, fun h => ⟨g, h⟩⟩)
    have e3 : b3' = bF := b_iff z2 (f2.trans ⟨fun h => h.2, fun h => ⟨g, h⟩⟩)
    subst e1 e2 e3
    unfold f_X9_takesItem
    rw [hT.2.2.1, if_pos g, w1, bs]
    dsimp only
    cases b0' with
    | true =>
      have hw := (w2.mp rfl).2 0 (by omega)
      have hw : B (tkS B N p + 0) = 119 := hw
      rw [if_pos rfl, if_neg (show ¬ (1 : Int32) = 0 by decide), if_neg h7]
      refine ⟨0, σ, τ, rfl, none (nof t2 (fun h => ?_)) (nof h2 (fun h => ?_)) (nof f2 (fun h => ?_)), Or.inl rfl, fail⟩
      · have := h.2.2 0 (by omega)
        rw [hw] at this
        exact absurd this (by decide)
      · have := h.2.2 0 (by omega)
        rw [hw] at this
        exact absurd this (by decide)
      · have := h.2.2 0 (by omega)
        rw [hw] at this
        exact absurd this (by decide)
    | false =>
      rw [if_neg (show ¬ false = true by decide), if_pos rfl, if_neg h7, x1, bs]
      dsimp only
      cases b1' with
      | true =>
        rw [if_pos rfl, if_neg (show ¬ (1 : Int32) = 0 by decide)]
        have a0 : τ.2.2 10 0 = nI n := hD.1.1.1
        have hn7 : n ≤ 7 := hD.1.1.2
        have e806 : σ.1 806 = nI n := hD.2.1.1.trans a0
        have eM : f_X11_takesItem τ = (f_X11_takesTree τ).bind fun q6 => cond (ckZ q6.1) (some (q6.1, q6.2)) Option.none := by
          unfold f_X11_takesItem
          rw [t1, bs]
          rfl
        rw [eM, e806]
        by_cases hn : n < 7
        · rw [if_neg (show ¬ (7 : Int32) ≤ nI n from nI_ge (b := 7) hn (by omega))]
          obtain ⟨y, σ1, τ1, k1, k2, k3, k4⟩ := tree_both hN hC hM hp hT hV hD hn
          rw [k1, k2, bs, bs]
          refine ⟨y, σ1, τ1, ?_, ?_, k3, k4⟩
          · rcases k3 with rfl | rfl <;> rfl
          · rcases k3 with rfl | rfl <;> rfl
        · have hn : n = 7 := by omega
          subst hn
          rw [if_pos (show (7 : Int32) ≤ nI 7 by decide)]
          refine ⟨0, σ, τ, rfl, ?_, Or.inl rfl, fail⟩
          unfold f_X11_takesTree
          rw [a0, if_pos (show nI 7 = 7 from rfl), bs]
          rfl
      | false =>
        rw [if_neg (show ¬ false = true by decide), if_pos rfl, y1, bs]
        dsimp only
        cases b2' with
        | true =>
          have eM : f_X11_takesItem τ = (f_X11_takesTouch τ).bind fun q5 => cond (ckZ q5.1) (some (q5.1, q5.2)) Option.none := by
            unfold f_X11_takesItem
            rw [t1, bs]
            show ((f_X11_spells τ 5 116 111 117 99 104 0).bind _) = _
            rw [h1, bs]
            rfl
          rw [if_pos rfl, if_neg (show ¬ (1 : Int32) = 0 by decide), eM]
          obtain ⟨y, σ1, τ1, k1, k2, k3, k4⟩ := touch_both hN hC hM hp hT hV hD
          rw [k1, k2, bs, bs]
          refine ⟨y, σ1, τ1, rfl, ?_, k3, k4⟩
          rcases k3 with rfl | rfl <;> rfl
        | false =>
          rw [if_neg (show ¬ false = true by decide), if_pos rfl, z1, bs]
          dsimp only
          cases b3' with
          | true =>
            have eM : f_X11_takesItem τ = (f_X11_takesFell τ).bind fun q4 => if q4.1 = 0 then (some ((0 : Int32), q4.2)) else (some ((1 : Int32), q4.2)) := by
              unfold f_X11_takesItem
              rw [t1, bs]
              show ((f_X11_spells τ 5 116 111 117 99 104 0).bind _) = _
              rw [h1, bs]
              show ((f_X11_spells τ 4 102 101 108 108 0 0).bind _) = _
              rw [f1, bs]
              rfl
            rw [if_pos rfl, if_neg (show ¬ (1 : Int32) = 0 by decide), eM]
            obtain ⟨y, σ1, τ1, k1, k2, k3, k4⟩ := fell_both hN hC hM hp hT hV hD
            rw [k1, k2, bs, bs]
            refine ⟨y, σ1, τ1, ?_, ?_, k3, k4⟩
            · rcases k3 with rfl | rfl <;> rfl
            · rcases k3 with rfl | rfl <;> rfl
          | false =>
            rw [if_neg (show ¬ false = true by decide), if_pos rfl]
            exact ⟨0, σ, τ, rfl, none rfl rfl rfl, Or.inl rfl, fail⟩
  · refine ⟨0, σ, τ, ?_, none (nof t2 (fun h => g h.1)) (nof h2 (fun h => g h.1)) (nof f2 (fun h => g h.1)), Or.inl rfl, fail⟩
    unfold f_X9_takesItem
    rw [hT.2.2.1, if_neg g]
    rfl
theorem wood_both (hN : N ≤ 150) {σ τ : St} (hC : CX B N σ) (hM : MX B N τ) {p : Nat} (hp : p ≤ N) (hT : TC B N σ p) (hV : TM B N τ p) (h7 : σ.1 4107 = 0) : ∃ y se σ1 τ1, f_X9_takesItem σ = f_X9_takesItem_b130 σ1 y ∧ f_X11_takesWood τ = some ((if y = 0 then 0 else if τ1.1 21 = 3 then 1 else 0), τ1) ∧ (y = 0 ∨ y = 1) ∧ After B N σ τ p se y σ1 τ1 := by
  have fail : After B N σ τ p 0 0 σ τ := ⟨Rc.rf σ, Rn.rf τ, Or.inl ⟨rfl, _, (tkS_b B hp).2, hT.1, hV.1⟩⟩
  obtain ⟨bT, t1, t2⟩ := spells_M hN hM hp hV (z := 4) (by omega) 119 111 111 100 0 0
  have t1 : f_X11_spells τ 4 119 111 111 100 0 0 = _ := t1
  have hb := tkE_b B hp
  by_cases g : tkK B N p = 1
  · obtain ⟨b0', w1, w2⟩ := spC_S0 hN hC hp hT
    have e1 : b0' = bT := b_iff w2 (t2.trans ⟨fun h => h.2, fun h => ⟨g, h⟩⟩)
    subst e1
    unfold f_X9_takesItem f_X11_takesWood
    rw [hT.2.2.1, if_pos g, w1, t1, bs, bs]
    dsimp only
    cases b0' with
    | false =>
      rw [if_neg (show ¬ false = true by decide), if_pos rfl, if_pos rfl, if_pos h7]
      exact ⟨0, 0, σ, τ, rfl, rfl, Or.inl rfl, fail⟩
    | true =>
      rw [if_pos rfl, if_neg (show ¬ (1 : Int32) = 0 by decide), if_neg (show ¬ (1 : Int32) = 0 by decide), if_pos h7]
      obtain ⟨σ1, c1, c2, c3, c4⟩ := num_C hN hC hb.2.1 hT.2.1 99
      obtain ⟨τ1, m1, m2, m3⟩ := behind_M hN hM hp hV
      have hM1 := hM.rm m2
      have hb1 := tkE_b B hb.2.1
      obtain ⟨k1, k2⟩ := takes_M hN hM1 hb.2.1 m3 (j := 0) (by omega) 99
      have k1 : okN B N (tkE B N p) 99 → ∃ τ', f_X11_takes τ1 0 0 99 = some (1, τ') ∧ _ := k1
      have k2 : ¬ okN B N (tkE B N p) 99 → f_X11_takes τ1 0 0 99 = some (0, τ1) := k2
      unfold f_X9_takesWood
      rw [m1, bs]
      by_cases gg : okN B N (tkE B N p) 99
      · obtain ⟨e1, e2⟩ := c3 gg
        obtain ⟨τ2, z1, z2, z3, z4⟩ := k1 gg
        have hv := val_p hb.2.1 gg.1
        have v0 : τ2.2.2 11 0 = nI (tkV B N (tkE B N p)) := by rw [z4, if_pos rfl]
        generalize tkV B N (tkE B N p) = v at *
        obtain ⟨τ3, b1, b2, b3, b4, b5, b6⟩ := begin_10 τ2 (nI v)
        rw [e1, z1, bs, bs]
        dsimp only
        rw [if_neg (show ¬ (1 : Int32) = 0 by decide), if_neg (show ¬ (1 : Int32) = 0 by decide), e2, v0, b1, bs]
        have rn3 : Rn τ2 τ3 := ⟨fun k _ _ _ _ => by rw [b2], b3, fun a h1 _ => b4 a h1⟩
        have hV3 : TM B N τ3 (tkE B N (tkE B N p)) := by
          unfold TM
          rw [b2]
          exact z3
        refine ⟨1, v, sI (sI (sI (sI (sI (sI σ1 806 0) 807 0) 808 (nI v)) 809 0) 810 0) 811 0, τ3, rfl, ?_, Or.inr rfl, (((((c1.rc.i 806 0 (by omega)).i 807 0 (by omega)).i 808 (nI v) (by omega)).i 809 0 (by omega)).i 810 0 (by omega)).i 811 0 (by omega), (m2.rn.tr z2.rn).tr rn3, Or.inr ⟨rfl, tkE B N (tkE B N p), 0, by omega, hb1.2.1, c2.2.1, hV3, Inv.empty (by omega) b5 b6, ?_, fun t ht => absurd ht (by omega), fun t ht => absurd ht (by omega)⟩⟩
        · rw [if_neg (show ¬ (1 : Int32) = 0 by decide)]
          by_cases q : τ3.1 21 = 3
          · rw [if_pos q, if_pos q]
          · rw [if_neg q, if_neg q]
        · rw [b5 0 (by omega) (by omega), b5 1 (by omega) (by omega), b6, b5 3 (by omega) (by omega), b5 4 (by omega) (by omega), b5 5 (by omega) (by omega)]
          exact ⟨rfl, rfl, rfl, rfl, rfl, rfl⟩
      · rw [c4 gg, k2 gg, bs, bs]
        exact ⟨0, 0, σ1, τ1, rfl, rfl, Or.inl rfl, c1.rc, m2.rn, Or.inl ⟨rfl, _, (tkS_b B hb.2.1).2, c2.1, m3.1⟩⟩
  · have e : bT = false := by
      cases bT
      · rfl
      · exact absurd (t2.mp rfl).1 g
    refine ⟨0, 0, σ, τ, ?_, ?_, Or.inl rfl, fail⟩
    · unfold f_X9_takesItem
      rw [hT.2.2.1, if_neg g]
      rfl
    · unfold f_X11_takesWood
      rw [t1, e, bs]
      rfl
theorem semi_C (hN : N ≤ 150) {σ : St} (hC : CX B N σ) {q : Nat} (hq : q ≤ N) (h : σ.1 4103 = nI q) : ∃ σ', f_X9_takesItem_b130 σ 1 = some ((if tkK B N q = 3 then 1 else 0), σ') ∧ Rd σ σ' ∧ TC B N σ' q := by
  obtain ⟨σ', z1, z2, z3⟩ := advance_C hN hC hq h
  refine ⟨σ', ?_, z2, z3⟩
  unfold f_X9_takesItem_b130 f_X9_takesSemicolon
  rw [if_neg (show ¬ (1 : Int32) = 0 by decide), z1, bs, z3.2.2.1]
  by_cases g : tkK B N q = 3
  · rw [if_pos g, if_pos g]; rfl
  · rw [if_neg g, if_neg g]; rfl
theorem Rc.sc {σ σ' : St} (h : Rc σ σ') : SC σ σ' := ⟨fun k hk => h.1 k (by
    have : ∀ k ∈ cints, k < 806 ∨ 811 < k := by decide
    exact this k hk) (by
    have : ∀ k ∈ cints, k < 4103 ∨ 4106 < k := by decide
    exact this k hk), fun a ha => h.2.2 a (fun e => by subst e; exact absurd ha (by decide)) (fun e => by subst e; exact absurd ha (by decide)), h.2.1⟩
theorem Rn.sm {τ τ' : St} (h : Rn τ τ') : SM τ τ' := ⟨h.1 18 (by omega) (by omega) (by omega) (by omega), fun a ha => h.2.2 a (fun e => by subst e; exact absurd ha (by decide)) (fun e => by subst e; exact absurd ha (by decide)), h.2.1⟩
theorem neg_v {f : Nat} (h : f ≤ 150) : (-10 : Int32) - nI f < 0 := by
  have : ∀ f : Fin 151, (-10 : Int32) - nI f.val < 0 := by decide +kernel
  exact this ⟨f, by omega⟩
theorem read_L (hN : N ≤ 150) {se : Nat} : ∀ (d p i fu gu n : Nat) (σ τ : St), N - p ≤ d → p ≤ N → 1 ≤ i → i ≤ p → d < fu → d < gu → CX B N σ → MX B N τ → σ.1 4103 = nI p → σ.1 4107 = nI i → TM B N τ p → Dr σ (τ.2.2 10) n se → ∃ v σ' τ', f_X9_readAll_L33 gu σ (nI i) = some (v, σ') ∧ SC σ σ' ∧ SM τ τ' ∧ ((v < 0 ∧ f_X11_read_L26 fu τ (nI i) = some (v, τ')) ∨ (¬ v < 0 ∧ f_X11_read_L26 fu τ (nI i) = f_X11_read_L68 FU τ' v 0 ∧ ∃ n', Dr σ' (τ'.2.2 10) n' se)) := by
  intro d
  induction d with
  | zero =>
    intro p i fu gu n σ τ hd hp hi hip hfu hgu hC hM h43 h47 hV hD
    obtain ⟨fu, rfl⟩ : ∃ m, fu = m + 1 := ⟨fu - 1, by omega⟩
    obtain ⟨gu, rfl⟩ : ∃ m, gu = m + 1 := ⟨gu - 1, by omega⟩
    obtain ⟨σ1, z1, z2, z3⟩ := advance_C hN hC hp h43
    have hpN : p = N := by omega
    have hk : tkK B N p = 0 := by
      have := tkS_b B hp
      unfold tkK kindOf
      rw [if_neg (by omega)]
    refine ⟨nI i, σ1, τ, ?_, z2.rc.sc, SM.rf τ, Or.inr ⟨nI_pos (by omega), ?_, n, hD.rd z2⟩⟩
    · show f_X9_readAll_b33 _ σ (nI i) = _
      unfold f_X9_readAll_b33
      rw [hC.1, if_neg (show ¬ nI N < nI i from fun z => absurd ((nlt (by omega) (by omega)).mp z) (by omega)), z1, bs, z3.2.2.1, hk, if_pos rfl, z2.1 4107 (by omega) (by omega) (by omega) (by omega), h47, if_neg (nI_nle (by omega) (by omega))]
    · show f_X11_read_b26 _ τ (nI i) = _
      unfold f_X11_read_b26
      rw [hV.2.2.1, hk, if_pos rfl]
  | succ d ih =>
    intro p i fu gu n σ τ hd hp hi hip hfu hgu hC hM h43 h47 hV hD
    obtain ⟨fu, rfl⟩ : ∃ m, fu = m + 1 := ⟨fu - 1, by omega⟩
    obtain ⟨gu, rfl⟩ : ∃ m, gu = m + 1 := ⟨gu - 1, by omega⟩
    obtain ⟨σ1, z1, z2, z3⟩ := advance_C hN hC hp h43
    have e47 : σ1.1 4107 = nI i := (z2.1 4107 (by omega) (by omega) (by omega) (by omega)).trans h47
    have eC : f_X9_readAll_L33 (gu + 1) σ (nI i) = f_X9_readAll_b33 (f_X9_readAll_L33 gu) σ (nI i) := rfl
    have eM : f_X11_read_L26 (fu + 1) τ (nI i) = f_X11_read_b26 (f_X11_read_L26 fu) τ (nI i) := rfl
    rw [eC, eM]
    unfold f_X9_readAll_b33 f_X11_read_b26
    rw [hC.1, if_neg (show ¬ nI N < nI i from fun z => absurd ((nlt (by omega) (by omega)).mp z) (by omega)), z1, bs, z3.2.2.1, hV.2.2.1]
    by_cases hk : tkK B N p = 0
    · rw [if_pos hk, if_pos hk, e47, if_neg (nI_nle (by omega) (by omega))]
      exact ⟨nI i, σ1, τ, rfl, z2.rc.sc, SM.rf τ, Or.inr ⟨nI_pos (by omega), rfl, n, hD.rd z2⟩⟩
    · rw [if_neg hk, if_neg hk]
      unfold f_X9_readAll_b64
      obtain ⟨y, σ2, τ2, k1, k2, k3, k4, k5, k6⟩ := item_both hN (hC.rd z2) hM hp z3 hV (hD.rd z2) (by rw [e47]; exact nI_ne0 (by omega) (by omega))
      rw [k1, k2, bs]
      dsimp only
      rcases k6 with ⟨rfl, f, f1, f2, f3⟩ | ⟨rfl, q, n', q1, q2, q3, q4, q5⟩
      · rw [if_pos rfl]
        have e : f_X9_takesItem_b130 σ2 0 = some (0, σ2) := rfl
        rw [e, bs]
        dsimp only
        rw [if_pos rfl]
        unfold f_X9_readAll_b90 f_X11_read_b48
        rw [f2, f3]
        exact ⟨_, σ2, τ2, rfl, (z2.rc.tr k4).sc, k5.sm, Or.inl ⟨neg_v (by omega), rfl⟩⟩
      · have hC2 : CX B N σ2 := (hC.rd z2).rc k4
        have hM2 := hM.rn k5
        obtain ⟨σ3, s1, s2, s3⟩ := semi_C hN hC2 q2 q3
        rw [if_neg (show ¬ (1 : Int32) = 0 by decide), s1, bs, q4.2.2.1]
        dsimp only
        by_cases hs : tkK B N q = 3
        · have hb := tkE_b B q2
          have hlt := tkK_0 B q2 (by rw [hs]; decide)
          have hS := tkS_b B q2
          rw [if_pos hs, if_neg (show ¬ (1 : Int32) = 0 by decide), if_pos hs]
          obtain ⟨τ3, m1, m2, m3⟩ := behind_M hN hM2 q2 q4
          have e47' : σ3.1 4107 = nI i := by
            rw [s2.1 4107 (by omega) (by omega) (by omega) (by omega), k4.1 4107 (by omega) (by omega)]
            exact e47
          rw [m1, bs, e47', nI_1]
          have hD3 : Dr (sI σ3 4107 (nI (i + 1))) (τ3.2.2 10) n' se := by
            rw [m2.2]
            have hx := q5.rd s2
            exact hx
          have hC3 := hC2.rd s2
          obtain ⟨v, σ', τ', w1, w2, w3, w4⟩ := ih (tkE B N q) (i + 1) fu gu n' (sI σ3 4107 (nI (i + 1))) τ3 (by omega) hb.2.1 (by omega) (by omega) (by omega) (by omega) hC3 (hM2.rm m2) s3.2.1 rfl m3 hD3
          exact ⟨v, σ', τ', w1, (((z2.rc.tr k4).tr s2.rc).sc.tr (SC.i _ 4107 _ (by decide))).tr w2, (k5.tr m2.rn).sm.tr w3, w4⟩
        · rw [if_neg hs, if_pos rfl, if_neg hs]
          unfold f_X9_readAll_b90 f_X11_read_b48
          rw [s3.1, q4.1]
          exact ⟨_, σ3, τ2, rfl, ((z2.rc.tr k4).tr s2.rc).sc, k5.sm, Or.inl ⟨neg_v (by have := tkS_b B q2; omega), rfl⟩⟩
end READ
theorem copy_L {τ : St} {v : Int32} : ∀ (d k fu : Nat) (τ1 : St), k + d = 68 → d < fu → SMo τ τ1 → (∀ j, τ1.2.2 1 j = if j < k then τ.2.2 10 j else τ.2.2 1 j) → τ1.2.2 10 = τ.2.2 10 → ∃ τ', f_X11_read_L68 fu τ1 v (nI k) = some (v, τ') ∧ SMo τ τ' ∧ ∀ j, j < 68 → τ'.2.2 1 j = τ.2.2 10 j := by
  intro d
  induction d with
  | zero =>
    intro k fu τ1 hk hfu hS h1 h10
    obtain ⟨fu, rfl⟩ : ∃ m, fu = m + 1 := ⟨fu - 1, by omega⟩
    refine ⟨τ1, ?_, hS, fun j hj => by rw [h1, if_pos (by omega)]⟩
    show f_X11_read_b68 _ τ1 v (nI k) = _
    unfold f_X11_read_b68
    rw [if_pos (show (68 : Int32) ≤ nI k from (nle (a := 68) (by omega) (by omega)).mpr (by omega))]
  | succ d ih =>
    intro k fu τ1 hk hfu hS h1 h10
    obtain ⟨fu, rfl⟩ : ∃ m, fu = m + 1 := ⟨fu - 1, by omega⟩
    have e : f_X11_read_L68 (fu + 1) τ1 v (nI k) = f_X11_read_L68 fu (sE τ1 1 k (τ.2.2 10 k)) v (nI (k + 1)) := by
      show f_X11_read_b68 (f_X11_read_L68 fu) τ1 v (nI k) = _
      unfold f_X11_read_b68
      rw [if_neg (show ¬ (68 : Int32) ≤ nI k from nI_ge (b := 68) (by omega) (by omega)), ck_nI (show k < 68 by omega) (by omega), ck_nI (show k < 84 by omega) (by omega), cT, cT, nI_clamp (show k < 2 ^ 31 by omega), nI_1, h10]
    rw [e]
    refine ih (k + 1) fu _ (by omega) (by omega) (hS.e k _) (fun j => ?_) h10
    have e1 : (sE τ1 1 k (τ.2.2 10 k)).2.2 1 j = if j = k then τ.2.2 10 k else τ1.2.2 1 j := rfl
    rw [e1, h1]
    by_cases q : j = k
    · rw [if_pos q, if_pos (by omega), q]
    · rw [if_neg q]
      by_cases w : j < k
      · rw [if_pos w, if_pos (by omega)]
      · rw [if_neg w, if_neg (by omega)]
theorem SC.o {σ σ' : St} (h : SC σ σ') : SCo σ σ' := ⟨fun k hk => h.1 k (by
    have : ∀ k ∈ [1506, 1507, 1508, 1509, 1510, 1511, 2206, 2207, 2208, 2209, 2210, 2211, 10, 13, 14, 15], k ∈ cints := by decide
    exact this k hk), fun a ha => h.2.1 a (by
    have : ∀ a ∈ [16, 17, 18, 19, 20, 21, 23, 24, 25, 26, 27, 28, 37, 42], a ∈ crows := by decide
    exact this a ha), h.2.2⟩
theorem SM.o {τ τ' : St} (h : SM τ τ') : SMo τ τ' := ⟨h.1, fun a ha => h.2.1 a (by
    have : ∀ a ∈ [2, 3, 4, 9], a ∈ mrows := by decide
    exact this a ha), h.2.2⟩
theorem cl_nI0 {x : Int32} (h : x = nI 0) : x.toNatClampNeg = 0 := by rw [h]; exact nI_clamp (by omega)
theorem take_both {σ τ σ1 τ1 : St} (hR : RelP σ τ) (c : SC σ σ1) (m : SM τ τ1) {n se : Nat} (hD : Dr σ1 (τ1.2.2 10) n se) (v : Int32) : ∃ σ' τ', f_X2_takeAll_1_8 σ1 = some σ' ∧ f_X11_read_L68 FU τ1 v 0 = some (v, τ') ∧ RelP σ' τ' := by
  obtain ⟨τ', z1, z2, z3⟩ := copy_L (τ := τ1) (v := v) 68 0 FU τ1 (by omega) (by unfold FU; omega) (SMo.rf τ1) (fun j => by rw [if_neg (by omega)]) rfl
  have z1 : f_X11_read_L68 FU τ1 v 0 = some (v, τ') := z1
  refine ⟨_, τ', rfl, z1, ?_⟩
  obtain ⟨hI, ⟨g0, g1, g2, g3, g4, g5⟩, g6, g7⟩ := hD
  obtain ⟨⟨a1, a2⟩, ⟨s1, s2⟩, ⟨n1, n2⟩, ⟨r1, r2⟩, ⟨u1, u2⟩, -⟩ := id hI
  have q0 := z3 0 (by omega)
  have q1 := z3 1 (by omega)
  have q2 := z3 2 (by omega)
  have q3 := z3 3 (by omega)
  have q4 := z3 4 (by omega)
  have q5 := z3 5 (by omega)
  have hI' : Inv (τ'.2.2 1) n 0 0 0 se := ⟨⟨q0.trans a1, a2⟩, ⟨q2.trans s1, s2⟩, ⟨q3.trans n1, n2⟩, ⟨q4.trans r1, r2⟩, ⟨q5.trans u1, u2⟩, hI.hK (fun t ht => z3 _ (by omega)), hI.hT (fun t ht => z3 _ (by omega)), hI.hF q1, fun k hk => absurd hk (by omega), fun k hk => absurd hk (by omega), fun k hk => absurd hk (by omega)⟩
  refine RelP.mk ⟨n, 0, 0, 0, se, hI'⟩ ?_ (hR.o.same (c.o.tr ((((((((((((((SCo.rf σ1).cp 9 2 0 0 7 (by omega)).cp 10 3 0 0 7 (by omega)).cp 11 4 0 0 30 (by omega)).cp 12 5 0 0 18 (by omega)).cp 13 6 0 0 8 (by omega)).cp 14 7 0 0 8 (by omega)).i 106 (σ1.1 806) (by simp)).i 107 (σ1.1 807) (by simp)).i 108 (σ1.1 808) (by simp)).i 109 (σ1.1 809) (by simp)).i 110 (σ1.1 810) (by simp)).i 111 (σ1.1 811) (by simp)))) (m.o.tr z2))
  obtain ⟨k0, k3, k4, k5⟩ := hI'.c0
  unfold FR1
  rw [k0, k3, k4, k5, q0, q1, q2, q3, q4, q5]
  refine ⟨g0, g1, g2, g3, g4, g5, fun t ht => ?_, fun t ht => ?_, fun t ht => absurd ht (by omega), fun t ht => absurd ht (by omega), fun t ht => absurd ht (by omega), fun t ht => absurd ht (by omega)⟩
  · rw [z3 (6 + t) (by omega), ← g6 t ht]
    exact cp0 (σ1.2.2 9) (σ1.2.2 2) (show t < 7 by omega)
  · rw [z3 (13 + t) (by omega), ← g7 t ht]
    exact cp0 (σ1.2.2 10) (σ1.2.2 3) (show t < 7 by omega)
theorem op_read : Op0 RelP f_X10_read f_X11_read := by
  intro σ τ hR
  obtain ⟨N, hN, t1, t2, t3⟩ := hR.2.2.2.2.1
  have eN : (if (150 : Int32) < nI N then (150 : Int32) else nI N) = nI N := if_neg (fun z => absurd ((nlt (a := 150) (by omega) (by omega)).mp z) (by omega))
  unfold f_X10_read f_X9_readAll f_X2_startAt_8 f_X11_read
  rw [t1, eN, bs]
  have hM : MX (τ.2.2 9) N τ := ⟨t2, rfl⟩
  have hC0 : CX (τ.2.2 9) N (sI (sI (sI (sI (sI (sI (sI (sI (sI σ 4102 (nI N)) 4103 0) 4107 0) 806 0) 807 0) 808 0) 809 0) 810 0) 811 0) := ⟨rfl, fun k hk => (t3 k hk).1⟩
  have h43 : (sI (sI (sI (sI (sI (sI (sI (sI (sI σ 4102 (nI N)) 4103 0) 4107 0) 806 0) 807 0) 808 0) 809 0) 810 0) 811 0).1 4103 = nI 0 := rfl
  have h47 : (sI (sI (sI (sI (sI (sI (sI (sI (sI σ 4102 (nI N)) 4103 0) 4107 0) 806 0) 807 0) 808 0) 809 0) 810 0) 811 0).1 4107 = 0 := rfl
  have hs0 : SC σ (sI (sI (sI (sI (sI (sI (sI (sI (sI σ 4102 (nI N)) 4103 0) 4107 0) 806 0) 807 0) 808 0) 809 0) 810 0) 811 0) := ((((((((SC.i σ 4102 _ (by decide)).tr (SC.i _ 4103 _ (by decide))).tr (SC.i _ 4107 _ (by decide))).tr (SC.i _ 806 _ (by decide))).tr (SC.i _ 807 _ (by decide))).tr (SC.i _ 808 _ (by decide))).tr (SC.i _ 809 _ (by decide))).tr (SC.i _ 810 _ (by decide))).tr (SC.i _ 811 _ (by decide))
  generalize sI (sI (sI (sI (sI (sI (sI (sI (sI σ 4102 (nI N)) 4103 0) 4107 0) 806 0) 807 0) 808 0) 809 0) 810 0) 811 0 = σ0 at *
  obtain ⟨σ1, c1, c2, c3⟩ := advance_C hN hC0 (p := 0) (by omega) h43
  obtain ⟨τ1, m1, m2, m3⟩ := look_M hN hM (p := 0) (by omega)
  have m1 : f_X11_lookAt τ 0 = some τ1 := m1
  have e47 : σ1.1 4107 = 0 := (c2.1 4107 (by omega) (by omega) (by omega) (by omega)).trans h47
  obtain ⟨y, se, σ2, τ2, k1, k2, k3, k4, k5, k6⟩ := wood_both hN (hC0.rd c2) (hM.rm m2) (p := 0) (by omega) c3 m3 e47
  obtain ⟨gu, hgu, hF⟩ : ∃ m, 200 < m ∧ FU = m + 1 := ⟨999999, by decide, rfl⟩
  have first : f_X9_readAll_L33 FU σ0 0 = f_X9_readAll_b64 (f_X9_readAll_L33 gu) σ1 0 := by
    rw [hF]
    show f_X9_readAll_b33 (f_X9_readAll_L33 gu) σ0 0 = _
    unfold f_X9_readAll_b33
    rw [hC0.1, if_neg (show ¬ nI N < 0 from nI_pos (by omega)), c1, bs, e47, if_pos (show (0 : Int32) ≤ 0 by decide)]
    by_cases g : σ1.1 4105 = 0
    · rw [if_pos g]
    · rw [if_neg g]
  rw [first, m1, bs, k2, bs]
  unfold f_X9_readAll_b64 f_X10_read_b27
  rw [k1]
  dsimp only
  have sc2 : SC σ σ2 := hs0.tr (c2.rc.tr k4).sc
  have sm2 : SM τ τ2 := (m2.rn.tr k5).sm
  rcases k6 with ⟨rfl, f, f1, f2, f3⟩ | ⟨rfl, q, n', q1, q2, q3, q4, q5⟩
  · have e : f_X9_takesItem_b130 σ2 0 = some (0, σ2) := rfl
    rw [e, bs]
    dsimp only
    unfold f_X9_readAll_b90
    rw [if_pos rfl, if_pos rfl, if_pos rfl, bs]
    dsimp only
    rw [f2, f3, if_pos (neg_v (by omega))]
    exact ⟨_, σ2, τ2, rfl, rfl, hR.same sc2 sm2⟩
  · have hC2 := (hC0.rd c2).rc k4
    have hM2 := (hM.rm m2).rn k5
    obtain ⟨σ3, s1, s2, s3⟩ := semi_C hN hC2 q2 q3
    rw [if_neg (show ¬ (1 : Int32) = 0 by decide), s1, bs, q4.2.2.1]
    dsimp only
    by_cases hs : tkK (τ.2.2 9) N q = 3
    · have hb := tkE_b (τ.2.2 9) q2
      have hlt := tkK_0 (τ.2.2 9) q2 (by rw [hs]; decide)
      rw [if_pos hs, if_neg (show ¬ (1 : Int32) = 0 by decide), if_neg (show ¬ (1 : Int32) = 0 by decide)]
      obtain ⟨τ3, n1, n2, n3⟩ := behind_M hN hM2 q2 q4
      have e47' : σ3.1 4107 = 0 := by
        rw [s2.1 4107 (by omega) (by omega) (by omega) (by omega), k4.1 4107 (by omega) (by omega)]
        exact e47
      have hD3 : Dr (sI σ3 4107 (nI 1)) (τ3.2.2 10) n' se := by
        rw [n2.2]
        have hx := q5.rd s2
        exact hx
      have hC3 := hC2.rd s2
      obtain ⟨v, σ', τ', w1, w2, w3, w4⟩ := read_L (se := se) hN N (tkE (τ.2.2 9) N q) 1 FU gu n' (sI σ3 4107 (nI 1)) τ3 (by omega) hb.2.1 (by omega) (by omega) (by rw [hF]; omega) (by omega) hC3 (hM2.rm n2) s3.2.1 rfl n3 hD3
      have w1 : f_X9_readAll_L33 gu (sI σ3 4107 ((0 : Int32) + 1)) ((0 : Int32) + 1) = some (v, σ') := w1
      rw [n1, bs, e47', w1, bs]
      dsimp only
      have sc3 : SC σ σ' := ((sc2.tr s2.rc.sc).tr (SC.i _ 4107 _ (by decide))).tr w2
      have sm3 : SM τ τ' := (sm2.tr n2.rn.sm).tr w3
      rcases w4 with ⟨x1, x2⟩ | ⟨x1, x2, n2', x3⟩
      · have x2 : f_X11_read_L26 FU τ3 1 = some (v, τ') := x2
        rw [if_pos x1, x2]
        exact ⟨v, σ', τ', rfl, rfl, hR.same sc3 sm3⟩
      · have x2 : f_X11_read_L26 FU τ3 1 = f_X11_read_L68 FU τ' v 0 := x2
        obtain ⟨σ4, τ4, y1, y2, y3⟩ := take_both hR sc3 sm3 x3 v
        rw [if_neg x1, x2, y1, y2, bs]
        exact ⟨v, σ4, τ4, rfl, rfl, y3⟩
    · rw [if_neg hs, if_pos rfl, if_pos rfl]
      unfold f_X9_readAll_b90
      rw [bs]
      dsimp only
      rw [s3.1, q4.1, if_pos (neg_v (by have := tkS_b (τ.2.2 9) q2; omega))]
      exact ⟨_, σ3, τ2, rfl, rfl, hR.same (sc2.tr s2.rc.sc) sm2⟩
