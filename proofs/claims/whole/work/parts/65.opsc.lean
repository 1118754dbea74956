/-! what stays of the invariant when other rows change -/
section KEEPS
variable {M M' : Nat → Int32} {n nn rn un se : Nat}
theorem Inv.hK (h : Inv M n nn rn un se) (e : ∀ t, t < 7 → M' (6 + t) = M (6 + t)) : ∀ t, t < n → ∃ k, k < 6 ∧ M' (6 + t) = nI k := fun t ht => by
  rw [e t (Nat.lt_of_lt_of_le ht h.1.2)]
  exact h.2.2.2.2.2.1 t ht
theorem Inv.hT (h : Inv M n nn rn un se) (e : ∀ t, t < 7 → M' (13 + t) = M (13 + t)) : ∀ t i, t < 7 → bt (M' (13 + t)) i = true → t < n ∧ i < n ∧ i ≠ t ∧ bt (M' (13 + i)) t = true := fun t i ht hb => by
  rw [e t ht] at hb
  obtain ⟨z1, z2, z3, z4⟩ := h.2.2.2.2.2.2.1 t i ht hb
  have := h.1.2
  rw [e i (by omega)]
  exact ⟨z1, z2, z3, z4⟩
theorem Inv.hF (h : Inv M n nn rn un se) (e : M' 1 = M 1) : ∀ i, bt (M' 1) i = true → i < n := fun i hb => h.2.2.2.2.2.2.2.1 i (e ▸ hb)
theorem Inv.hN (h : Inv M n nn rn un se) (e : ∀ k, k < 30 → M' (20 + k) = M (20 + k)) : ∀ k, k < nn → Tr n (M' (20 + 5 * k)) ∧ LtI (M' (21 + 5 * k)) ∧ Rg 0 99 (M' (22 + 5 * k)) ∧ LtI (M' (23 + 5 * k)) ∧ Rg 0 20 (M' (24 + 5 * k)) := fun k hk => by
  have h6 : nn ≤ 6 := h.2.2.1.2
  have e0 := e (5 * k) (by omega)
  have e1 := e (5 * k + 1) (by omega)
  have e2 := e (5 * k + 2) (by omega)
  have e3 := e (5 * k + 3) (by omega)
  have e4 := e (5 * k + 4) (by omega)
  rw [e0, show 21 + 5 * k = 20 + (5 * k + 1) by omega, show 22 + 5 * k = 20 + (5 * k + 2) by omega, show 23 + 5 * k = 20 + (5 * k + 3) by omega, show 24 + 5 * k = 20 + (5 * k + 4) by omega, e1, e2, e3, e4]
  have z := h.2.2.2.2.2.2.2.2.1 k hk
  rw [show 21 + 5 * k = 20 + (5 * k + 1) by omega, show 22 + 5 * k = 20 + (5 * k + 2) by omega, show 23 + 5 * k = 20 + (5 * k + 3) by omega, show 24 + 5 * k = 20 + (5 * k + 4) by omega] at z
  exact z
theorem Inv.hRd (h : Inv M n nn rn un se) (e : ∀ k, k < 18 → M' (50 + k) = M (50 + k)) : ∀ k, k < rn → RwI n (M' (50 + 3 * k)) ∧ Rg 0 99 (M' (51 + 3 * k)) ∧ LtI (M' (52 + 3 * k)) := fun k hk => by
  have h6 : rn ≤ 6 := h.2.2.2.1.2
  have e0 := e (3 * k) (by omega)
  have e1 := e (3 * k + 1) (by omega)
  have e2 := e (3 * k + 2) (by omega)
  rw [e0, show 51 + 3 * k = 50 + (3 * k + 1) by omega, show 52 + 3 * k = 50 + (3 * k + 2) by omega, e1, e2]
  have z := h.2.2.2.2.2.2.2.2.2.1 k hk
  rw [show 51 + 3 * k = 50 + (3 * k + 1) by omega, show 52 + 3 * k = 50 + (3 * k + 2) by omega] at z
  exact z
theorem Inv.hU (h : Inv M n nn rn un se) (e : ∀ k, k < 16 → M' (68 + k) = M (68 + k)) : ∀ k, k < un → (∀ i, bt (M' (68 + 2 * k)) i = true → i < n) ∧ Rg 0 999 (M' (69 + 2 * k)) := fun k hk => by
  have h8 : un ≤ 8 := h.2.2.2.2.1.2
  have e0 := e (2 * k) (by omega)
  have e1 := e (2 * k + 1) (by omega)
  rw [e0, show 69 + 2 * k = 68 + (2 * k + 1) by omega, e1]
  have z := h.2.2.2.2.2.2.2.2.2.2 k hk
  rw [show 69 + 2 * k = 68 + (2 * k + 1) by omega] at z
  exact z
end KEEPS
theorem lt32 {j n : Nat} (h : j < n) (hn : n ≤ 7) : j < 32 := by omega
theorem op_touch : Op3 RelP f_X10_touch f_X11_touch := by
  intro σ τ hR a b c
  obtain ⟨n, nn, rn, un, se, hI⟩ := hR.n
  obtain ⟨k0, k3, k4, k5⟩ := hI.c0
  obtain ⟨⟨a1, a2⟩, ⟨s1, s2⟩, ⟨n1, n2⟩, ⟨r1, r2⟩, ⟨u1, u2⟩, hk, ht, hf, hno, hre, hun⟩ := id hI
  obtain ⟨f0, f1, f2, f3, f4, f5, g1, g2, g3, g4, g5, g6⟩ := id hR.2.1
  have e106 : σ.1 106 = nI n := f0.trans a1
  have bad : (f_X10_touch_b30 σ = some (-2, sI σ 13 (σ.1 13 + 1))) ∧ f_X11_touch_b31 τ = some (-2, sE τ 4 0 (τ.2.2 4 0 + 1)) := ⟨rfl, rfl⟩
  unfold f_X10_touch f_X11_touch
  by_cases hA : ¬ Tr n a
  · exact ⟨-2, _, _, by rw [isT_n e106 a2 hA, p0]; exact bad.1, by rw [isM_n a1 a2 hA, p0]; exact bad.2, hR.bad⟩
  have hA := Classical.not_not.mp hA
  rw [isT_y e106 a2 hA, isM_y a1 a2 hA, p1, p1]
  dsimp only
  by_cases hB : ¬ Tr n b
  · exact ⟨-2, _, _, by rw [isT_n e106 a2 hB, p0]; exact bad.1, by rw [isM_n a1 a2 hB, p0]; exact bad.2, hR.bad⟩
  have hB := Classical.not_not.mp hB
  rw [isT_y e106 a2 hB, isM_y a1 a2 hB, p1, p1]
  dsimp only
  by_cases hab : a = b
  · exact ⟨-2, _, _, by rw [if_pos hab]; exact bad.1, by rw [if_pos hab]; exact bad.2, hR.bad⟩
  rw [if_neg hab, if_neg hab]
  by_cases hC : ¬ Rg 0 1 c
  · exact ⟨-2, _, _, by rw [wi_n (a := 0) (b := 1) (lo := 0) (hi := 1) hC (by omega) (by omega) rfl rfl, b0]; exact bad.1, by rw [in_n (a := 0) (b := 1) (lo := 0) (hi := 1) hC (by omega) (by omega) rfl rfl, b0]; exact bad.2, hR.bad⟩
  have hC := Classical.not_not.mp hC
  rw [wi_y (a := 0) (b := 1) (lo := 0) (hi := 1) hC (by omega) (by omega) rfl rfl, in_y (a := 0) (b := 1) (lo := 0) (hi := 1) hC (by omega) (by omega) rfl rfl, b1, b1]
  obtain ⟨i, hi, rfl⟩ := hA
  obtain ⟨j, hj, rfl⟩ := hB
  have hij : i ≠ j := fun e => hab (by rw [e])
  obtain ⟨is, -, his, rfl⟩ := hC
  have ci : (nI i).toNatClampNeg = i := nI_clamp (by omega)
  have cj : (nI j).toNatClampNeg = j := nI_clamp (by omega)
  have vi : (13 : Int32) + nI i = nI (13 + i) := nI_add 13 i
  have vj : (13 : Int32) + nI j = nI (13 + j) := nI_add 13 j
  have wi : (nI (13 + i)).toNatClampNeg = 13 + i := nI_clamp (by omega)
  have wj : (nI (13 + j)).toNatClampNeg = 13 + j := nI_clamp (by omega)
  have qi : σ.2.2 3 i = τ.2.2 1 (13 + i) := g2 i (by omega)
  have qj : σ.2.2 3 j = τ.2.2 1 (13 + j) := g2 j (by omega)
  -- the new values
  obtain ⟨x, y, hxy⟩ : ∃ x y : Int32, x = (if is = 1 then τ.2.2 1 (13 + i) ||| ((1 : Int32) <<< (nI j &&& 31)) else τ.2.2 1 (13 + i) &&& (((1 : Int32) <<< (nI j &&& 31)) ^^^ (-1))) ∧ y = (if is = 1 then τ.2.2 1 (13 + j) ||| ((1 : Int32) <<< (nI i &&& 31)) else τ.2.2 1 (13 + j) &&& (((1 : Int32) <<< (nI i &&& 31)) ^^^ (-1))) := ⟨_, _, rfl, rfl⟩
  obtain ⟨hx, hy⟩ := hxy
  let σ' := sI (sE (sE σ 3 i x) 3 j y) 111 0
  let τ' := sE (sE (sE τ 1 (13 + i) x) 1 (13 + j) y) 1 5 0
  have hM : ∀ k, τ'.2.2 1 k = if k = 5 then 0 else if k = 13 + j then y else if k = 13 + i then x else τ.2.2 1 k := fun k => rfl
  refine ⟨((τ.2.2 1 (13 + i)) >>> (nI j &&& 31)) &&& 1, σ', τ', ?_, ?_, ?_⟩
  · rw [ck_nI (by omega) (by omega), cT, ci, qi]
    have e1 : f_X2_join_1 σ (nI i) (nI j) (nI is) = some (sE (sE σ 3 i x) 3 j y) := by
      unfold f_X2_join_1
      rw [ck_nI (by omega) (by omega), ck_nI (by omega) (by omega), ci, cj, qi]
      simp only [cT]
      have e2 : (sE σ 3 i ((τ.2.2 1 (13 + i) &&& (((1 : Int32) <<< (nI j &&& 31)) ^^^ (-1))) ||| (nI is <<< (nI j &&& 31)))).2.2 3 j = τ.2.2 1 (13 + j) := by rw [sE3, if_pos rfl, upd_a, if_neg (by omega), qj]
      rw [e2]
      rcases (show is = 0 ∨ is = 1 by omega) with rfl | rfl
      · rw [show nI 0 = 0 from rfl, or_clr (by omega), or_clr (by omega)]
        rw [if_neg (by omega)] at hx hy
        rw [hx, hy]
      · rw [show nI 1 = 1 from rfl, or_set (by omega), or_set (by omega)]
        rw [if_pos rfl] at hx hy
        rw [hx, hy]
    rw [e1]
    rfl
  · rw [vi, ck_nI (by omega) (by omega), cT, wi]
    have e3 : ∀ z : Int32, (z = 1 ∧ is = 1) ∨ (z = 0 ∧ is = 0) → f_X11_touch_b69 τ (((τ.2.2 1 (13 + i)) >>> (nI j &&& 31)) &&& 1) z (nI j) (nI i) = some (((τ.2.2 1 (13 + i)) >>> (nI j &&& 31)) &&& 1, τ') := by
      intro z hz
      have e1 : f_X11_layTouch_1 τ (nI i) (nI j) z = some (sE (sE τ 1 (13 + i) x) 1 (13 + j) y) := by
        unfold f_X11_layTouch_1 f_X11_layTouch_1_b34 f_X11_layTouch_1_b69
        rw [vi, vj, ck_nI (by omega) (by omega), ck_nI (by omega) (by omega), wi, wj]
        simp only [cT]
        have e2 : ∀ v : Int32, (sE τ 1 (13 + i) v).2.2 1 (13 + j) = τ.2.2 1 (13 + j) := fun v => by rw [sE3, if_pos rfl, upd_a, if_neg (by omega)]
        simp only [e2]
        rcases hz with ⟨rfl, h1⟩ | ⟨rfl, h1⟩
        · rw [if_neg (by decide), if_neg (by decide)]
          rw [if_pos h1] at hx hy
          rw [hx, hy]
        · rw [if_pos rfl, if_pos rfl]
          rw [if_neg (by omega)] at hx hy
          rw [hx, hy]
      unfold f_X11_touch_b69
      rw [e1]
      rfl
    rcases (show is = 0 ∨ is = 1 by omega) with h1 | h1
    · rw [if_neg (by rw [h1]; decide)]
      exact e3 0 (Or.inr ⟨rfl, h1⟩)
    · rw [if_pos (by rw [h1]; rfl)]
      exact e3 1 (Or.inl ⟨rfl, h1⟩)
  · have bx : ∀ k, bt x k = if k = j then decide (is = 1) else bt (τ.2.2 1 (13 + i)) k := by
      intro k
      rw [hx]
      by_cases h1 : is = 1
      · rw [if_pos h1, bt_set (by omega)]
        by_cases h2 : k = j <;> simp [h1, h2]
      · rw [if_neg h1, bt_clr (by omega)]
        by_cases h2 : k = j <;> simp [h1, h2]
    have by_ : ∀ k, bt y k = if k = i then decide (is = 1) else bt (τ.2.2 1 (13 + j)) k := by
      intro k
      rw [hy]
      by_cases h1 : is = 1
      · rw [if_pos h1, bt_set (by omega)]
        by_cases h2 : k = i <;> simp [h1, h2]
      · rw [if_neg h1, bt_clr (by omega)]
        by_cases h2 : k = i <;> simp [h1, h2]
    have hB2 : ∀ t k, t < 7 → bt (τ'.2.2 1 (13 + t)) k = if (t = i ∧ k = j) ∨ (t = j ∧ k = i) then decide (is = 1) else bt (τ.2.2 1 (13 + t)) k := by
      intro t k ht7
      rw [hM, if_neg (by omega)]
      by_cases h1 : t = j
      · rw [if_pos (by omega), by_, h1]
        by_cases h2 : k = i <;> simp [h2, hij, Ne.symm hij]
      · rw [if_neg (by omega)]
        by_cases h3 : t = i
        · rw [if_pos (by omega), bx, h3]
          by_cases h2 : k = j <;> simp [h2, hij, Ne.symm hij]
        · rw [if_neg (by omega)]
          simp [h1, h3]
    refine RelP.mk ⟨n, nn, rn, 0, se, ?_⟩ ?_ (hR.o.same ((((SCo.rf σ).e 3 i x (by omega)).e 3 j y (by omega)).i 111 0 (by simp)) ((((SMo.rf τ).e (13 + i) x).e (13 + j) y).e 5 0))
    · refine ⟨⟨by rw [hM]; (repeat (first | rw [if_neg (by omega)] | rw [if_pos (by omega)])); exact a1, a2⟩, ⟨by rw [hM]; (repeat (first | rw [if_neg (by omega)] | rw [if_pos (by omega)])); exact s1, s2⟩, ⟨by rw [hM]; (repeat (first | rw [if_neg (by omega)] | rw [if_pos (by omega)])); exact n1, n2⟩, ⟨by rw [hM]; (repeat (first | rw [if_neg (by omega)] | rw [if_pos (by omega)])); exact r1, r2⟩, ⟨by rw [hM]; rfl, by omega⟩, hI.hK (fun t h => by rw [hM]; (repeat (first | rw [if_neg (by omega)] | rw [if_pos (by omega)]))), ?_, hI.hF (by rw [hM]; (repeat (first | rw [if_neg (by omega)] | rw [if_pos (by omega)]))), hI.hN (fun t h => by rw [hM]; (repeat (first | rw [if_neg (by omega)] | rw [if_pos (by omega)]))), hI.hRd (fun t h => by rw [hM]; (repeat (first | rw [if_neg (by omega)] | rw [if_pos (by omega)]))), fun k hk => absurd hk (by omega)⟩
      intro t k h hb
      rw [hB2 t k h] at hb
      by_cases hq : (t = i ∧ k = j) ∨ (t = j ∧ k = i)
      · rw [if_pos hq] at hb
        have hk7 : k < 7 := by omega
        rw [hB2 k t hk7, if_pos (by omega)]
        exact ⟨by omega, by omega, by omega, hb⟩
      · rw [if_neg hq] at hb
        obtain ⟨z1, z2, z3, z4⟩ := ht t k h hb
        rw [hB2 k t (by omega), if_neg (by omega)]
        exact ⟨z1, z2, z3, z4⟩
    · have dd : ∀ k, k ≠ 5 → (k < 13 ∨ 20 ≤ k) → τ'.2.2 1 k = τ.2.2 1 k := fun k h1 h2 => by rw [hM]; (repeat (first | rw [if_neg (by omega)] | rw [if_pos (by omega)]))
      have d5 : τ'.2.2 1 5 = 0 := by rw [hM]; rfl
      unfold FR1
      rw [dd 0 (by omega) (by omega), d5, dd 1 (by omega) (by omega), dd 2 (by omega) (by omega), dd 3 (by omega) (by omega), dd 4 (by omega) (by omega)]
      refine ⟨f0, f1, f2, f3, f4, rfl, fun t h => ?_, fun t h => ?_, fun t h => ?_, fun t h => ?_, fun k h => ?_, fun k h => ?_⟩
      · rw [dd (6 + t) (by omega) (by omega)]; exact g1 t h
      · have e1 : σ'.2.2 3 t = if t = j then y else if t = i then x else σ.2.2 3 t := rfl
        rw [e1, hM]
        by_cases h1 : t = j
        · (repeat (first | rw [if_neg (by omega)] | rw [if_pos (by omega)]))
        · by_cases h3 : t = i
          · (repeat (first | rw [if_neg (by omega)] | rw [if_pos (by omega)]))
          · (repeat (first | rw [if_neg (by omega)] | rw [if_pos (by omega)]))
            exact g2 t h
      · rw [dd (20 + t) (by omega) (by omega)]; exact g3 t h
      · rw [dd (50 + t) (by omega) (by omega)]; exact g4 t h
      · rw [sb_cl0] at h; exact absurd h (by omega)
      · rw [sb_cl0] at h; exact absurd h (by omega)
