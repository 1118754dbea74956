/-! images, and from them -/
theorem Inv.congr {M M' : Nat → Int32} {n nn rn un se : Nat} (h : Inv M n nn rn un se) (e : ∀ k, k < 84 → M' k = M k) : Inv M' n nn rn un se := by
  obtain ⟨⟨a1, a2⟩, ⟨s1, s2⟩, ⟨n1, n2⟩, ⟨r1, r2⟩, ⟨u1, u2⟩, -⟩ := id h
  exact ⟨⟨(e 0 (by omega)).trans a1, a2⟩, ⟨(e 2 (by omega)).trans s1, s2⟩, ⟨(e 3 (by omega)).trans n1, n2⟩, ⟨(e 4 (by omega)).trans r1, r2⟩, ⟨(e 5 (by omega)).trans u1, u2⟩, h.hK (fun t h => e _ (by omega)), h.hT (fun t h => e _ (by omega)), h.hF (e 1 (by omega)), h.hN (fun t h => e _ (by omega)), h.hRd (fun t h => e _ (by omega)), h.hU (fun t h => e _ (by omega))⟩
theorem Good.congr {M M' : Nat → Int32} (h : Good M) (e : ∀ k, k < 84 → M' k = M k) : Good M' := by
  obtain ⟨n, nn, rn, un, se, hI⟩ := h
  exact ⟨n, nn, rn, un, se, hI.congr e⟩
def FRX (c0 c1 c2 c3 c4 c5 : Int32) (r2 r3 r4 r5 r6 r7 : Nat → Int32) (M : Nat → Int32) : Prop := c0 = M 0 ∧ c1 = M 1 ∧ c2 = M 2 ∧ c3 = M 3 ∧ c4 = M 4 ∧ c5 = M 5 ∧ (∀ t, t < (M 0).toNatClampNeg → r2 t = M (6 + t)) ∧ (∀ t, t < (M 0).toNatClampNeg → r3 t = M (13 + t)) ∧ (∀ k, k < 5 * (M 3).toNatClampNeg → r4 k = M (20 + k)) ∧ (∀ k, k < 3 * (M 4).toNatClampNeg → r5 k = M (50 + k)) ∧ (∀ k, k < (M 5).toNatClampNeg → r6 k = M (68 + 2 * k)) ∧ (∀ k, k < (M 5).toNatClampNeg → r7 k = M (69 + 2 * k))
theorem FRX.congr {c0 c1 c2 c3 c4 c5 : Int32} {r2 r3 r4 r5 r6 r7 p2 p3 p4 p5 p6 p7 : Nat → Int32} {M M' : Nat → Int32} (hG : Good M) (h : FRX c0 c1 c2 c3 c4 c5 r2 r3 r4 r5 r6 r7 M) (e : ∀ k, k < 84 → M' k = M k) (e2 : ∀ k, k < 7 → p2 k = r2 k) (e3 : ∀ k, k < 7 → p3 k = r3 k) (e4 : ∀ k, k < 30 → p4 k = r4 k) (e5 : ∀ k, k < 18 → p5 k = r5 k) (e6 : ∀ k, k < 8 → p6 k = r6 k) (e7 : ∀ k, k < 8 → p7 k = r7 k) : FRX c0 c1 c2 c3 c4 c5 p2 p3 p4 p5 p6 p7 M' := by
  obtain ⟨n, nn, rn, un, se, hI⟩ := hG
  obtain ⟨k0, k3, k4, k5⟩ := hI.c0
  obtain ⟨⟨a1, a2⟩, ⟨s1, s2⟩, ⟨n1, n2⟩, ⟨r1, r2⟩, ⟨u1, u2⟩, -⟩ := id hI
  obtain ⟨f0, f1, f2, f3, f4, f5, g1, g2, g3, g4, g5, g6⟩ := h
  unfold FRX
  rw [e 0 (by omega), e 1 (by omega), e 2 (by omega), e 3 (by omega), e 4 (by omega), e 5 (by omega)]
  refine ⟨f0, f1, f2, f3, f4, f5, fun t h => ?_, fun t h => ?_, fun t h => ?_, fun t h => ?_, fun t h => ?_, fun t h => ?_⟩
  · rw [e2 t (by omega), e _ (by omega)]; exact g1 t h
  · rw [e3 t (by omega), e _ (by omega)]; exact g2 t h
  · rw [e4 t (by omega), e _ (by omega)]; exact g3 t h
  · rw [e5 t (by omega), e _ (by omega)]; exact g4 t h
  · rw [e6 t (by omega), e _ (by omega)]; exact g5 t h
  · rw [e7 t (by omega), e _ (by omega)]; exact g6 t h
theorem cp0 (f g : Nat → Int32) {n k : Nat} (h : k < n) : va_cpy f g 0 0 n k = f k := by rw [pk_cpy_in (by omega) (by omega), show 0 + (k - 0) = k by omega]
theorem image_M (τ : St) (i : Nat) (hi : i < 2) : ∃ τ', f_X11_image_L19 FU τ (nI i) 0 = some (1, τ') ∧ τ'.1 = τ.1 ∧ τ'.2.1 = τ.2.1 ∧ (∀ a, a ≠ 2 → a ≠ 3 → τ'.2.2 a = τ.2.2 a) ∧ (∀ j, τ'.2.2 2 j = if 84 * i ≤ j ∧ j < 84 * i + 84 then τ.2.2 1 (j - 84 * i) else τ.2.2 2 j) ∧ (∀ j, τ'.2.2 3 j = if j = i then 1 else τ.2.2 3 j) := by
  have key : ∀ (d k n : Nat) (τ1 : St), k + d = 84 → d < n → τ1.1 = τ.1 → τ1.2.1 = τ.2.1 → (∀ a, a ≠ 2 → τ1.2.2 a = τ.2.2 a) → (∀ j, τ1.2.2 2 j = if 84 * i ≤ j ∧ j < 84 * i + k then τ.2.2 1 (j - 84 * i) else τ.2.2 2 j) → ∃ τ', f_X11_image_L19 n τ1 (nI i) (nI k) = some (1, τ') ∧ τ'.1 = τ.1 ∧ τ'.2.1 = τ.2.1 ∧ (∀ a, a ≠ 2 → a ≠ 3 → τ'.2.2 a = τ.2.2 a) ∧ (∀ j, τ'.2.2 2 j = if 84 * i ≤ j ∧ j < 84 * i + 84 then τ.2.2 1 (j - 84 * i) else τ.2.2 2 j) ∧ (∀ j, τ'.2.2 3 j = if j = i then 1 else τ.2.2 3 j) := by
    intro d
    induction d with
    | zero =>
      intro k n τ1 hk hn h1 h2 h3 h4
      obtain ⟨n, rfl⟩ : ∃ m, n = m + 1 := ⟨n - 1, by omega⟩
      have hk : k = 84 := by omega
      subst hk
      refine ⟨sE τ1 3 i 1, ?_, h1, h2, ?_, ?_, ?_⟩
      · show f_X11_image_b19 _ τ1 (nI i) (nI 84) = _
        unfold f_X11_image_b19
        rw [if_pos (by decide), ck_nI hi (by omega), cT, nI_clamp (by omega)]
        rfl
      · intro a g2 g3
        rw [sE3, if_neg g3]
        exact h3 a g2
      · intro j
        rw [sE3, if_neg (by omega)]
        exact h4 j
      · intro j
        rw [sE3, if_pos rfl, upd_a, h3 3 (by omega)]
    | succ d ih =>
      intro k n τ1 hk hn h1 h2 h3 h4
      obtain ⟨n, rfl⟩ : ∃ m, n = m + 1 := ⟨n - 1, by omega⟩
      have e : f_X11_image_L19 (n + 1) τ1 (nI i) (nI k) = f_X11_image_L19 n (sE τ1 2 (84 * i + k) (τ1.2.2 1 k)) (nI i) (nI (k + 1)) := by
        show f_X11_image_b19 _ τ1 (nI i) (nI k) = _
        unfold f_X11_image_b19
        have e1 : (84 : Int32) * nI i + nI k = nI (84 * i + k) := by rw [show (84 : Int32) = nI 84 from rfl, pk_mul, nI_add]
        rw [if_neg (show ¬ (84 : Int32) ≤ nI k from nI_ge (b := 84) (by omega) (by omega)), e1, ck_nI (by omega) (by omega), ck_nI (by omega) (by omega), nI_1, nI_clamp (by omega), nI_clamp (by omega)]
        rfl
      rw [e]
      refine ih (k + 1) n _ (by omega) (by omega) h1 h2 ?_ ?_
      · intro a g2
        rw [sE3, if_neg g2]
        exact h3 a g2
      · intro j
        rw [sE3, if_pos rfl, upd_a, h4, h3 1 (by omega)]
        by_cases g1 : j = 84 * i + k
        · (repeat (first | rw [if_neg (by omega)] | rw [if_pos (by omega)]))
          rw [g1, show 84 * i + k - 84 * i = k by omega]
        · by_cases g2 : 84 * i ≤ j ∧ j < 84 * i + k
          · (repeat (first | rw [if_neg (by omega)] | rw [if_pos (by omega)]))
          · (repeat (first | rw [if_neg (by omega)] | rw [if_pos (by omega)]))
  exact key 84 0 FU τ (by omega) (by unfold FU; omega) rfl rfl (fun a _ => rfl) (fun j => by rw [if_neg (by omega)])
theorem from_M (τ : St) (i : Nat) (hi : i < 2) : ∃ τ', f_X11_from_L33 FU τ (nI i) 0 = some (1, τ') ∧ SMo τ τ' ∧ (∀ j, τ'.2.2 1 j = if j < 84 then τ.2.2 2 (84 * i + j) else τ.2.2 1 j) := by
  have key : ∀ (d k n : Nat) (τ1 : St), k + d = 84 → d < n → SMo τ τ1 → (∀ j, τ1.2.2 1 j = if j < k then τ.2.2 2 (84 * i + j) else τ.2.2 1 j) → ∃ τ', f_X11_from_L33 n τ1 (nI i) (nI k) = some (1, τ') ∧ SMo τ τ' ∧ (∀ j, τ'.2.2 1 j = if j < 84 then τ.2.2 2 (84 * i + j) else τ.2.2 1 j) := by
    intro d
    induction d with
    | zero =>
      intro k n τ1 hk hn h1 h4
      obtain ⟨n, rfl⟩ : ∃ m, n = m + 1 := ⟨n - 1, by omega⟩
      have hk : k = 84 := by omega
      subst hk
      refine ⟨τ1, ?_, h1, h4⟩
      show f_X11_from_b33 _ τ1 (nI i) (nI 84) = _
      unfold f_X11_from_b33
      rw [if_pos (by decide)]
    | succ d ih =>
      intro k n τ1 hk hn h1 h4
      obtain ⟨n, rfl⟩ : ∃ m, n = m + 1 := ⟨n - 1, by omega⟩
      have e : f_X11_from_L33 (n + 1) τ1 (nI i) (nI k) = f_X11_from_L33 n (sE τ1 1 k (τ1.2.2 2 (84 * i + k))) (nI i) (nI (k + 1)) := by
        show f_X11_from_b33 _ τ1 (nI i) (nI k) = _
        unfold f_X11_from_b33
        have e1 : (84 : Int32) * nI i + nI k = nI (84 * i + k) := by rw [show (84 : Int32) = nI 84 from rfl, pk_mul, nI_add]
        rw [if_neg (show ¬ (84 : Int32) ≤ nI k from nI_ge (b := 84) (by omega) (by omega)), e1, ck_nI (by omega) (by omega), ck_nI (by omega) (by omega), nI_1, nI_clamp (by omega), nI_clamp (by omega)]
        rfl
      rw [e]
      refine ih (k + 1) n _ (by omega) (by omega) (h1.e _ _) ?_
      intro j
      rw [sE3, if_pos rfl, upd_a, h4, h1.2.1 2 (by decide)]
      by_cases g1 : j = k
      · (repeat (first | rw [if_neg (by omega)] | rw [if_pos (by omega)]))
        rw [g1]
      · by_cases g2 : j < k
        · (repeat (first | rw [if_neg (by omega)] | rw [if_pos (by omega)]))
        · (repeat (first | rw [if_neg (by omega)] | rw [if_pos (by omega)]))
  exact key 84 0 FU τ (by omega) (by unfold FU; omega) (SMo.rf τ) (fun j => by rw [if_neg (by omega)])
def img0 (σ : St) : St := (sI (sI (sI (sI (sI (sI (scp (scp (scp (scp (scp (scp σ 2 16 0 0 7) 3 17 0 0 7) 4 18 0 0 30) 5 19 0 0 18) 6 20 0 0 8) 7 21 0 0 8) 1506 (σ.1 106)) 1507 (σ.1 107)) 1508 (σ.1 108)) 1509 (σ.1 109)) 1510 (σ.1 110)) 1511 (σ.1 111))
theorem img0_eq (σ : St) : f_X2_takeAll_15_1 σ = some (img0 σ) := rfl
theorem img0_FR {σ : St} {M M' : Nat → Int32} (hG : Good M) (hF : FR1 σ M) (ek : ∀ k, k < 84 → M' k = M k) (v : Int32) : FR15 (sE (img0 σ) 37 0 v) M' := FRX.congr hG hF ek (fun k h => cp0 (σ.2.2 2) (σ.2.2 16) h) (fun k h => cp0 (σ.2.2 3) (σ.2.2 17) h) (fun k h => cp0 (σ.2.2 4) (σ.2.2 18) h) (fun k h => cp0 (σ.2.2 5) (σ.2.2 19) h) (fun k h => cp0 (σ.2.2 6) (σ.2.2 20) h) (fun k h => cp0 (σ.2.2 7) (σ.2.2 21) h)
theorem img0_F1 {σ : St} {M : Nat → Int32} (hF : FR1 σ M) (v : Int32) : FR1 (sE (img0 σ) 37 0 v) M := hF
theorem img0_Fo {σ : St} {M : Nat → Int32} (hF : FR22 σ M) (v : Int32) : FR22 (sE (img0 σ) 37 0 v) M := hF
def img1 (σ : St) : St := (sI (sI (sI (sI (sI (sI (scp (scp (scp (scp (scp (scp σ 2 23 0 0 7) 3 24 0 0 7) 4 25 0 0 30) 5 26 0 0 18) 6 27 0 0 8) 7 28 0 0 8) 2206 (σ.1 106)) 2207 (σ.1 107)) 2208 (σ.1 108)) 2209 (σ.1 109)) 2210 (σ.1 110)) 2211 (σ.1 111))
theorem img1_eq (σ : St) : f_X2_takeAll_22_1 σ = some (img1 σ) := rfl
theorem img1_FR {σ : St} {M M' : Nat → Int32} (hG : Good M) (hF : FR1 σ M) (ek : ∀ k, k < 84 → M' k = M k) (v : Int32) : FR22 (sE (img1 σ) 37 1 v) M' := FRX.congr hG hF ek (fun k h => cp0 (σ.2.2 2) (σ.2.2 23) h) (fun k h => cp0 (σ.2.2 3) (σ.2.2 24) h) (fun k h => cp0 (σ.2.2 4) (σ.2.2 25) h) (fun k h => cp0 (σ.2.2 5) (σ.2.2 26) h) (fun k h => cp0 (σ.2.2 6) (σ.2.2 27) h) (fun k h => cp0 (σ.2.2 7) (σ.2.2 28) h)
theorem img1_F1 {σ : St} {M : Nat → Int32} (hF : FR1 σ M) (v : Int32) : FR1 (sE (img1 σ) 37 1 v) M := hF
theorem img1_Fo {σ : St} {M : Nat → Int32} (hF : FR15 σ M) (v : Int32) : FR15 (sE (img1 σ) 37 1 v) M := hF
theorem op_image : Op1 RelP f_X10_image f_X11_image := by
  intro σ τ hR a
  unfold f_X10_image f_X11_image
  by_cases hC : ¬ Rg 0 1 a
  · exact ⟨-2, _, _, by rw [wi_n (a := 0) (b := 1) (lo := 0) (hi := 1) hC (by omega) (by omega) rfl rfl, b0]; rfl, by rw [in_n (a := 0) (b := 1) (lo := 0) (hi := 1) hC (by omega) (by omega) rfl rfl, b0]; rfl, hR.bad⟩
  have hC := Classical.not_not.mp hC
  rw [wi_y (a := 0) (b := 1) (lo := 0) (hi := 1) hC (by omega) (by omega) rfl rfl, in_y (a := 0) (b := 1) (lo := 0) (hi := 1) hC (by omega) (by omega) rfl rfl, b1, b1]
  obtain ⟨d, -, hd, rfl⟩ := hC
  obtain ⟨τ', m0, m1, m2, m3, m4, m5⟩ := image_M τ d (by omega)
  obtain ⟨hG, hF, ⟨i1, i2⟩, ⟨j1, j2⟩, ⟨tl, t1, t2, t3, t4⟩, ⟨q1, q2, q3, q4, q5⟩⟩ := hR
  have e1 : τ'.2.2 1 = τ.2.2 1 := m3 1 (by omega) (by omega)
  have e4 : τ'.2.2 4 = τ.2.2 4 := m3 4 (by omega) (by omega)
  have e9 : τ'.2.2 9 = τ.2.2 9 := m3 9 (by omega) (by omega)
  have hv : vp_nar .boolean (1 : Int32) = 1 := rfl
  rw [m0, img0_eq, img1_eq, bs, bs, hv]
  rcases (show d = 0 ∨ d = 1 by omega) with rfl | rfl
  · refine ⟨1, sE (img0 σ) 37 0 1, τ', rfl, rfl, ?_⟩
    have eo : ∀ k, k < 84 → KP τ' 1 k = KP τ 1 k := fun k hk => by unfold KP; rw [m4, if_neg (by omega)]
    have ek : ∀ k, k < 84 → KP τ' 0 k = τ.2.2 1 k := fun k hk => by
      unfold KP
      rw [m4, if_pos (by omega), show 84 * 0 + k - 84 * 0 = k by omega]
    have e3 : τ'.2.2 3 1 = τ.2.2 3 1 := by rw [m5, if_neg (by omega)]
    have e3i : τ'.2.2 3 0 = 1 := by rw [m5, if_pos rfl]
    have hA : Im0 (sE (img0 σ) 37 0 1) τ' := by
      unfold Im0
      rw [e3i]
      exact ⟨rfl, Or.inr ⟨rfl, hG.congr ek, img0_FR hG hF ek 1⟩⟩
    have hB : Im1 (sE (img0 σ) 37 0 1) τ' := by
      unfold Im1
      rw [e3]
      exact ⟨j1, j2.imp id (fun z => ⟨z.1, z.2.1.congr eo, FRX.congr z.2.1 (img0_Fo z.2.2 1) eo (fun k h => rfl) (fun k h => rfl) (fun k h => rfl) (fun k h => rfl) (fun k h => rfl) (fun k h => rfl)⟩)⟩
    have hT : Txt (sE (img0 σ) 37 0 1) τ' := ⟨tl, t1, t2, by rw [m1]; exact t3, by rw [e9]; exact t4⟩
    have hM : Msc (sE (img0 σ) 37 0 1) τ' := ⟨by rw [e4]; exact q1, by rw [e4]; exact q2, by rw [e4]; exact q3, by rw [m2]; exact q4, by rw [m2]; exact q5⟩
    exact ⟨by rw [e1]; exact hG, by rw [e1]; exact img0_F1 hF 1, hA, hB, hT, hM⟩
  · refine ⟨1, sE (img1 σ) 37 1 1, τ', rfl, rfl, ?_⟩
    have eo : ∀ k, k < 84 → KP τ' 0 k = KP τ 0 k := fun k hk => by unfold KP; rw [m4, if_neg (by omega)]
    have ek : ∀ k, k < 84 → KP τ' 1 k = τ.2.2 1 k := fun k hk => by
      unfold KP
      rw [m4, if_pos (by omega), show 84 * 1 + k - 84 * 1 = k by omega]
    have e3 : τ'.2.2 3 0 = τ.2.2 3 0 := by rw [m5, if_neg (by omega)]
    have e3i : τ'.2.2 3 1 = 1 := by rw [m5, if_pos rfl]
    have hA : Im1 (sE (img1 σ) 37 1 1) τ' := by
      unfold Im1
      rw [e3i]
      exact ⟨rfl, Or.inr ⟨rfl, hG.congr ek, img1_FR hG hF ek 1⟩⟩
    have hB : Im0 (sE (img1 σ) 37 1 1) τ' := by
      unfold Im0
      rw [e3]
      exact ⟨i1, i2.imp id (fun z => ⟨z.1, z.2.1.congr eo, FRX.congr z.2.1 (img1_Fo z.2.2 1) eo (fun k h => rfl) (fun k h => rfl) (fun k h => rfl) (fun k h => rfl) (fun k h => rfl) (fun k h => rfl)⟩)⟩
    have hT : Txt (sE (img1 σ) 37 1 1) τ' := ⟨tl, t1, t2, by rw [m1]; exact t3, by rw [e9]; exact t4⟩
    have hM : Msc (sE (img1 σ) 37 1 1) τ' := ⟨by rw [e4]; exact q1, by rw [e4]; exact q2, by rw [e4]; exact q3, by rw [m2]; exact q4, by rw [m2]; exact q5⟩
    exact ⟨by rw [e1]; exact hG, by rw [e1]; exact img1_F1 hF 1, hB, hA, hT, hM⟩
theorem op_from : Op1 RelP f_X10_from f_X11_from := by
  intro σ τ hR a
  unfold f_X10_from f_X11_from
  by_cases hC : ¬ Rg 0 1 a
  · exact ⟨-2, _, _, by rw [wi_n (a := 0) (b := 1) (lo := 0) (hi := 1) hC (by omega) (by omega) rfl rfl, b0]; rfl, by rw [in_n (a := 0) (b := 1) (lo := 0) (hi := 1) hC (by omega) (by omega) rfl rfl, b0]; rfl, hR.bad⟩
  have hC := Classical.not_not.mp hC
  rw [wi_y (a := 0) (b := 1) (lo := 0) (hi := 1) hC (by omega) (by omega) rfl rfl, in_y (a := 0) (b := 1) (lo := 0) (hi := 1) hC (by omega) (by omega) rfl rfl, b1, b1]
  obtain ⟨d, -, hd, rfl⟩ := hC
  obtain ⟨τ', m0, mS, m4⟩ := from_M τ d (by omega)
  have i1 : σ.2.2 37 0 = τ.2.2 3 0 := hR.2.2.1.1
  have j1 : σ.2.2 37 1 = τ.2.2 3 1 := hR.2.2.2.1.1
  rw [ck_nI (by omega) (by omega), cT, cT, cT, nI_clamp (by omega)]
  rcases (show d = 0 ∨ d = 1 by omega) with rfl | rfl
  · rw [i1]
    rcases hR.2.2.1.2 with h0 | ⟨h1, hG, hF⟩
    · rw [if_pos h0, if_pos h0]
      exact ⟨-3, _, _, rfl, rfl, hR.no⟩
    · rw [h1, if_neg (show ¬ (1 : Int32) = 0 by decide), if_neg (show ¬ (1 : Int32) = 0 by decide), m0]
      have ek : ∀ k, k < 84 → τ'.2.2 1 k = KP τ 0 k := fun k hk => by rw [m4, if_pos hk]; rfl
      refine ⟨1, sI (sI (sI (sI (sI (sI (scp (scp (scp (scp (scp (scp σ 16 2 0 0 7) 17 3 0 0 7) 18 4 0 0 30) 19 5 0 0 18) 20 6 0 0 8) 21 7 0 0 8) 106 (σ.1 1506)) 107 (σ.1 1507)) 108 (σ.1 1508)) 109 (σ.1 1509)) 110 (σ.1 1510)) 111 (σ.1 1511), τ', rfl, rfl, RelP.mk (hG.congr ek) ?_ (hR.o.same ((((((((((((((SCo.rf σ).cp 16 2 0 0 7 (by omega)).cp 17 3 0 0 7 (by omega)).cp 18 4 0 0 30 (by omega)).cp 19 5 0 0 18 (by omega)).cp 20 6 0 0 8 (by omega)).cp 21 7 0 0 8 (by omega)).i 106 (σ.1 1506) (by simp)).i 107 (σ.1 1507) (by simp)).i 108 (σ.1 1508) (by simp)).i 109 (σ.1 1509) (by simp)).i 110 (σ.1 1510) (by simp)).i 111 (σ.1 1511) (by simp))) mS)⟩
      exact FRX.congr hG hF ek (fun k h => cp0 (σ.2.2 16) (σ.2.2 2) h) (fun k h => cp0 (σ.2.2 17) (σ.2.2 3) h) (fun k h => cp0 (σ.2.2 18) (σ.2.2 4) h) (fun k h => cp0 (σ.2.2 19) (σ.2.2 5) h) (fun k h => cp0 (σ.2.2 20) (σ.2.2 6) h) (fun k h => cp0 (σ.2.2 21) (σ.2.2 7) h)
  · rw [j1]
    rcases hR.2.2.2.1.2 with h0 | ⟨h1, hG, hF⟩
    · rw [if_pos h0, if_pos h0]
      exact ⟨-3, _, _, rfl, rfl, hR.no⟩
    · rw [h1, if_neg (show ¬ (1 : Int32) = 0 by decide), if_neg (show ¬ (1 : Int32) = 0 by decide), m0]
      have ek : ∀ k, k < 84 → τ'.2.2 1 k = KP τ 1 k := fun k hk => by rw [m4, if_pos hk]; rfl
      refine ⟨1, sI (sI (sI (sI (sI (sI (scp (scp (scp (scp (scp (scp σ 23 2 0 0 7) 24 3 0 0 7) 25 4 0 0 30) 26 5 0 0 18) 27 6 0 0 8) 28 7 0 0 8) 106 (σ.1 2206)) 107 (σ.1 2207)) 108 (σ.1 2208)) 109 (σ.1 2209)) 110 (σ.1 2210)) 111 (σ.1 2211), τ', rfl, rfl, RelP.mk (hG.congr ek) ?_ (hR.o.same ((((((((((((((SCo.rf σ).cp 23 2 0 0 7 (by omega)).cp 24 3 0 0 7 (by omega)).cp 25 4 0 0 30 (by omega)).cp 26 5 0 0 18 (by omega)).cp 27 6 0 0 8 (by omega)).cp 28 7 0 0 8 (by omega)).i 106 (σ.1 2206) (by simp)).i 107 (σ.1 2207) (by simp)).i 108 (σ.1 2208) (by simp)).i 109 (σ.1 2209) (by simp)).i 110 (σ.1 2210) (by simp)).i 111 (σ.1 2211) (by simp))) mS)⟩
      exact FRX.congr hG hF ek (fun k h => cp0 (σ.2.2 23) (σ.2.2 2) h) (fun k h => cp0 (σ.2.2 24) (σ.2.2 3) h) (fun k h => cp0 (σ.2.2 25) (σ.2.2 4) h) (fun k h => cp0 (σ.2.2 26) (σ.2.2 5) h) (fun k h => cp0 (σ.2.2 27) (σ.2.2 6) h) (fun k h => cp0 (σ.2.2 28) (σ.2.2 7) h)
