/-! the plain calls -/
theorem RelP.n {σ τ : St} (h : RelP σ τ) : ∃ n nn rn un se : Nat, Inv (τ.2.2 1) n nn rn un se := h.1
theorem RelP.o {σ τ : St} (h : RelP σ τ) : RelO σ τ := ⟨h.2.2.1, h.2.2.2.1, h.2.2.2.2.1, h.2.2.2.2.2⟩
theorem RelP.mk {σ τ : St} (h1 : Good (τ.2.2 1)) (h2 : FR1 σ (τ.2.2 1)) (h3 : RelO σ τ) : RelP σ τ := ⟨h1, h2, h3.1, h3.2.1, h3.2.2.1, h3.2.2.2⟩
theorem SCo.rf (σ : St) : SCo σ σ := ⟨fun _ _ => rfl, fun _ _ => rfl, rfl⟩
theorem SMo.rf (τ : St) : SMo τ τ := ⟨rfl, fun _ _ => rfl, rfl⟩
theorem SCo.tr {a b c : St} (h : SCo a b) (g : SCo b c) : SCo a c := ⟨fun k hk => (g.1 k hk).trans (h.1 k hk), fun k hk => (g.2.1 k hk).trans (h.2.1 k hk), g.2.2.trans h.2.2⟩
theorem SMo.tr {a b c : St} (h : SMo a b) (g : SMo b c) : SMo a c := ⟨g.1.trans h.1, fun k hk => (g.2.1 k hk).trans (h.2.1 k hk), g.2.2.trans h.2.2⟩
theorem SCo.i {a : St} {σ : St} (k : Nat) (v : Int32) (g : SCo a σ) (h : k = 106 ∨ k = 107 ∨ k = 108 ∨ k = 109 ∨ k = 110 ∨ k = 111) : SCo a (sI σ k v) := g.tr ⟨fun j hj => by
  rw [sI1, if_neg]
  intro e
  subst e
  rcases h with rfl | rfl | rfl | rfl | rfl | rfl <;> exact absurd hj (by decide), fun _ _ => rfl, rfl⟩
theorem SCo.e {a : St} {σ : St} (b i : Nat) (v : Int32) (g : SCo a σ) (h : b ≤ 7) : SCo a (sE σ b i v) := g.tr ⟨fun _ _ => rfl, fun j hj => by
  rw [sE3, if_neg]
  intro e
  subst e
  have : ∀ x ∈ [16, 17, 18, 19, 20, 21, 23, 24, 25, 26, 27, 28, 37, 42], ¬ x ≤ 7 := by decide
  exact this _ hj h, rfl⟩
theorem SCo.cp {a : St} {σ : St} (b c : Nat) (x y z : Int32) (g : SCo a σ) (h : c ≤ 7) : SCo a (scp σ b c x y z) := g.tr ⟨fun _ _ => rfl, fun j hj => by
  rw [scp3, if_neg]
  intro e
  subst e
  have : ∀ x ∈ [16, 17, 18, 19, 20, 21, 23, 24, 25, 26, 27, 28, 37, 42], ¬ x ≤ 7 := by decide
  exact this _ hj h, rfl⟩
theorem SMo.e {a : St} {τ : St} (i : Nat) (v : Int32) (g : SMo a τ) : SMo a (sE τ 1 i v) := g.tr ⟨rfl, fun j hj => by
  rw [sE3, if_neg]
  intro e
  subst e
  exact absurd hj (by decide), rfl⟩
/-- the reference's begin: rows 0 .. 67 are 0, but the season -/
def bgF (M : Nat → Int32) (k : Nat) : Nat → Int32 := fun j => if j < k then 0 else M j
theorem bg_loop (a : Nat) (ha : a = 1 ∨ a = 10) : True := trivial
theorem begin_1 (τ : St) (x : Int32) : ∃ τ', f_X11_begin_1 τ x = some τ' ∧ SMo τ τ' ∧ τ'.2.2 1 = upd (bgF (τ.2.2 1) 68) 2 x ∧ τ'.1 = τ.1 := by
  have key : ∀ (d k n : Nat) (τ1 : St), k + d = 68 → d < n → SMo τ τ1 → τ1.2.2 1 = bgF (τ.2.2 1) k → τ1.1 = τ.1 → ∃ τ', f_X11_begin_1_L2 n τ1 x (nI k) = some τ' ∧ SMo τ τ' ∧ τ'.2.2 1 = upd (bgF (τ.2.2 1) 68) 2 x ∧ τ'.1 = τ.1 := by
    intro d
    induction d with
    | zero =>
      intro k n τ1 hk hn hS h1 h2
      obtain ⟨n, rfl⟩ : ∃ m, n = m + 1 := ⟨n - 1, by omega⟩
      have hk : k = 68 := by omega
      subst hk
      refine ⟨sE τ1 1 2 x, ?_, hS.e 2 x, ?_, h2⟩
      · show f_X11_begin_1_b2 _ τ1 x (nI 68) = _
        unfold f_X11_begin_1_b2
        rw [if_pos (by decide)]
      · rw [sE3, if_pos rfl, h1]
    | succ d ih =>
      intro k n τ1 hk hn hS h1 h2
      obtain ⟨n, rfl⟩ : ∃ m, n = m + 1 := ⟨n - 1, by omega⟩
      have e : f_X11_begin_1_L2 (n + 1) τ1 x (nI k) = f_X11_begin_1_L2 n (sE τ1 1 k 0) x (nI (k + 1)) := by
        show f_X11_begin_1_b2 _ τ1 x (nI k) = _
        unfold f_X11_begin_1_b2
        rw [if_neg (show ¬ (68 : Int32) ≤ nI k from nI_ge (b := 68) (by omega) (by omega)), ck_nI (by omega) (by omega), nI_1, nI_clamp (by omega)]
        rfl
      rw [e]
      refine ih (k + 1) n _ (by omega) (by omega) (hS.e k 0) ?_ h2
      rw [sE3, if_pos rfl, h1]
      funext j
      rw [upd_a]
      unfold bgF
      by_cases hj : j = k
      · rw [if_pos hj, if_pos (by omega)]
      · rw [if_neg hj]
        by_cases hj2 : j < k
        · rw [if_pos hj2, if_pos (by omega)]
        · rw [if_neg hj2, if_neg (by omega)]
  exact key 68 0 FU τ (by omega) (by unfold FU; omega) (SMo.rf τ) (by funext j; unfold bgF; rw [if_neg (Nat.not_lt_zero j)]) rfl
theorem bt0 (i : Nat) : bt 0 i = false := b_0 i
/-- an empty wood in season s -/
theorem Inv.empty {M : Nat → Int32} {s : Nat} (hs : s ≤ 999) (h : ∀ k, k < 68 → k ≠ 2 → M k = 0) (h2 : M 2 = nI s) : Inv M 0 0 0 0 s := by
  refine ⟨⟨h 0 (by omega) (by omega), by omega⟩, ⟨h2, hs⟩, ⟨h 3 (by omega) (by omega), by omega⟩, ⟨h 4 (by omega) (by omega), by omega⟩, ⟨h 5 (by omega) (by omega), by omega⟩, fun t ht => absurd ht (by omega), ?_, ?_, fun t ht => absurd ht (by omega), fun t ht => absurd ht (by omega), fun t ht => absurd ht (by omega)⟩
  · intro t i ht hb
    rw [h (13 + t) (by omega) (by omega), bt0] at hb
    cases hb
  · intro i hb
    rw [h 1 (by omega) (by omega), bt0] at hb
    cases hb
theorem op_wood : Op1 RelP f_X10_wood f_X11_wood := by
  intro σ τ hR a
  by_cases ha : Rg 0 99 a
  · obtain ⟨j, -, hj, rfl⟩ := id ha
    obtain ⟨τ', e1, hS, e2, e3⟩ := begin_1 τ (nI j)
    have hM : ∀ k, k < 68 → k ≠ 2 → τ'.2.2 1 k = 0 := by
      intro k h1 h2
      rw [e2, upd_a, if_neg h2]
      unfold bgF
      rw [if_pos h1]
    have hM2 : τ'.2.2 1 2 = nI j := by rw [e2, upd_a, if_pos rfl]
    have h106 : σ.1 106 = τ.2.2 1 0 := hR.2.1.1
    refine ⟨τ.2.2 1 0, sI (sI (sI (sI (sI (sI σ 106 0) 107 0) 108 (nI j)) 109 0) 110 0) 111 0, τ', ?_, ?_, ?_⟩
    · unfold f_X10_wood
      rw [wi_y (a := 0) (b := 99) (lo := 0) (hi := 99) ha (by omega) (by omega) rfl rfl, b1]
      unfold f_X2_startAt_1
      rw [← h106]
      rfl
    · unfold f_X11_wood
      rw [in_y (a := 0) (b := 99) (lo := 0) (hi := 99) ha (by omega) (by omega) rfl rfl, b1]
      unfold f_X11_many
      rw [bs, e1]
      rfl
    · refine RelP.mk ⟨0, 0, 0, 0, j, Inv.empty (by omega) hM hM2⟩ ?_ (hR.o.same ((((((((SCo.rf σ).i 106 0 (by simp)).i 107 0 (by simp)).i 108 (nI j) (by simp)).i 109 0 (by simp)).i 110 0 (by simp)).i 111 0 (by simp))) hS)
      unfold FR1
      rw [hM 0 (by omega) (by omega), hM 1 (by omega) (by omega), hM2, hM 3 (by omega) (by omega), hM 4 (by omega) (by omega), hM 5 (by omega) (by omega)]
      refine ⟨rfl, rfl, rfl, rfl, rfl, rfl, ?_, ?_, ?_, ?_, ?_, ?_⟩ <;> intro t ht <;> exact absurd ht (by simp [sb_cl0])
  · refine ⟨-2, _, _, ?_, ?_, hR.bad⟩
    · unfold f_X10_wood
      rw [wi_n (a := 0) (b := 99) (lo := 0) (hi := 99) ha (by omega) (by omega) rfl rfl]
      rfl
    · unfold f_X11_wood
      rw [in_n (a := 0) (b := 99) (lo := 0) (hi := 99) ha (by omega) (by omega) rfl rfl]
      rfl
theorem op_clear : Op0 RelP f_X10_clear f_X11_clear := by
  intro σ τ hR
  obtain ⟨h1, h2, h3, h4, ⟨tl, g1, g2, g3, g4⟩, h6⟩ := hR
  refine ⟨τ.1 18, sI σ 10 0, sI τ 18 0, ?_, rfl, h1, h2, h3, h4, ⟨0, by omega, rfl, rfl, fun k hk => absurd hk (by omega)⟩, h6⟩
  unfold f_X10_clear
  rw [g2, g3]
theorem op_type : Op1 RelP f_X10_type f_X11_type := by
  intro σ τ hR a
  by_cases ha : Rg 0 127 a
  · obtain ⟨h1, h2, h3, h4, ⟨tl, g1, g2, g3, g4⟩, h6⟩ := id hR
    obtain ⟨j, -, hj, rfl⟩ := id ha
    by_cases ht : tl = 150
    · subst ht
      refine ⟨-4, _, _, ?_, ?_, hR.full⟩
      · unfold f_X10_type
        rw [wi_y (a := 0) (b := 127) (lo := 0) (hi := 127) ha (by omega) (by omega) rfl rfl]
        show (if σ.1 10 < 150 then _ else _) = _
        rw [g2, if_neg (by decide)]
        rfl
      · unfold f_X11_type
        rw [in_y (a := 0) (b := 127) (lo := 0) (hi := 127) ha (by omega) (by omega) rfl rfl]
        show (if τ.1 18 = 150 then _ else _) = _
        rw [g3, if_pos (by decide)]
        rfl
    · refine ⟨nI (tl + 1), sI (sE σ 42 tl (nI j)) 10 (nI (tl + 1)), sI (sE τ 9 tl (nI j)) 18 (nI (tl + 1)), ?_, ?_, ?_⟩
      · unfold f_X10_type
        rw [wi_y (a := 0) (b := 127) (lo := 0) (hi := 127) ha (by omega) (by omega) rfl rfl]
        show (if σ.1 10 < 150 then _ else _) = _
        rw [g2, if_pos (show nI tl < (150 : Int32) from nI_lt (b := 150) (by omega) (by omega)), ck_nI (by omega) (by omega), nI_1, nI_clamp (by omega), pk_vb, fa_byte_small (by omega)]
        rfl
      · unfold f_X11_type
        rw [in_y (a := 0) (b := 127) (lo := 0) (hi := 127) ha (by omega) (by omega) rfl rfl]
        show (if τ.1 18 = 150 then _ else _) = _
        rw [g3, if_neg (show ¬ nI tl = (150 : Int32) from fun e => ht ((nI_eq (b := 150) (by omega) (by omega)).mp e)), ck_nI (by omega) (by omega), nI_1, nI_clamp (by omega)]
        rfl
      · refine ⟨h1, h2, h3, h4, ⟨tl + 1, by omega, rfl, rfl, fun k hk => ?_⟩, h6⟩
        have e1 : (sI (sE σ 42 tl (nI j)) 10 (nI (tl + 1))).2.2 42 k = if k = tl then nI j else σ.2.2 42 k := rfl
        have e2 : (sI (sE τ 9 tl (nI j)) 18 (nI (tl + 1))).2.2 9 k = if k = tl then nI j else τ.2.2 9 k := rfl
        rw [e1, e2]
        by_cases hk2 : k = tl
        · rw [if_pos hk2, if_pos hk2]
          exact ⟨rfl, ha⟩
        · rw [if_neg hk2, if_neg hk2]
          exact g4 k (by omega)
  · refine ⟨-2, _, _, ?_, ?_, hR.bad⟩
    · unfold f_X10_type
      rw [wi_n (a := 0) (b := 127) (lo := 0) (hi := 127) ha (by omega) (by omega) rfl rfl]
      rfl
    · unfold f_X11_type
      rw [in_n (a := 0) (b := 127) (lo := 0) (hi := 127) ha (by omega) (by omega) rfl rfl]
      rfl
theorem op_part : OpL1 RelP f_X10_part f_X11_part := by
  intro σ τ hR a
  obtain ⟨h1, h2, h3, h4, h5, g1, g2, g3, g4, g5⟩ := id hR
  by_cases ha : Rg 0 1 a
  · obtain ⟨j, -, hj, rfl⟩ := id ha
    rcases (show j = 0 ∨ j = 1 by omega) with rfl | rfl
    · refine ⟨τ.2.1 4, σ, τ, ?_, rfl, hR⟩
      unfold f_X10_part
      rw [wi_y (a := 0) (b := 1) (lo := 0) (hi := 1) ha (by omega) (by omega) rfl rfl, ← g4]
      rfl
    · refine ⟨τ.2.1 5, σ, τ, ?_, rfl, hR⟩
      unfold f_X10_part
      rw [wi_y (a := 0) (b := 1) (lo := 0) (hi := 1) ha (by omega) (by omega) rfl rfl, ← g5]
      rfl
  · refine ⟨(-2 : Int32).toInt64, _, _, ?_, ?_, hR.bad⟩
    · unfold f_X10_part
      rw [wi_n (a := 0) (b := 1) (lo := 0) (hi := 1) ha (by omega) (by omega) rfl rfl]
      rfl
    · have e0 : ¬ a = 0 := fun e => ha ⟨0, by omega, by omega, e⟩
      have e1 : ¬ a = 1 := fun e => ha ⟨1, by omega, by omega, e⟩
      unfold f_X11_part
      rw [if_neg e0, if_neg e1]
      rfl
theorem op_status : Op1 RelP f_X10_status f_X11_status := by
  intro σ τ hR a
  obtain ⟨h1, h2, h3, h4, h5, g1, g2, g3, g4, g5⟩ := id hR
  by_cases ha : Rg 0 2 a
  · obtain ⟨j, -, hj, rfl⟩ := id ha
    refine ⟨τ.2.2 4 j, σ, τ, ?_, ?_, hR⟩
    · rcases (show j = 0 ∨ j = 1 ∨ j = 2 by omega) with rfl | rfl | rfl
      · rw [← g1]; rfl
      · rw [← g2]; rfl
      · rw [← g3]; rfl
    · unfold f_X11_status
      rw [in_y (a := 0) (b := 2) (lo := 0) (hi := 2) ha (by omega) (by omega) rfl rfl]
      rcases (show j = 0 ∨ j = 1 ∨ j = 2 by omega) with rfl | rfl | rfl <;> rfl
  · refine ⟨-1, _, _, ?_, ?_, hR.bad⟩
    · have e0 : ¬ a = 0 := fun e => ha ⟨0, by omega, by omega, e⟩
      have e1 : ¬ a = 1 := fun e => ha ⟨1, by omega, by omega, e⟩
      have e2 : ¬ a = 2 := fun e => ha ⟨2, by omega, by omega, e⟩
      unfold f_X10_status
      rw [if_neg e0, if_neg e1, if_neg e2]
    · unfold f_X11_status
      rw [in_n (a := 0) (b := 2) (lo := 0) (hi := 2) ha (by omega) (by omega) rfl rfl]
      rfl
