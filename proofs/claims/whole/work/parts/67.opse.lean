/-! felling, seasons, taking back, asking, forgetting -/
theorem nlt {a b : Nat} (ha : a < 2 ^ 31) (hb : b < 2 ^ 31) : nI a < nI b ↔ a < b := by rw [Int32.lt_iff_toInt_lt, nI_toInt ha, nI_toInt hb]; omega
theorem nle {a b : Nat} (ha : a < 2 ^ 31) (hb : b < 2 ^ 31) : nI a ≤ nI b ↔ a ≤ b := by rw [Int32.le_iff_toInt_le, nI_toInt ha, nI_toInt hb]; omega
theorem neq {a b : Nat} (ha : a < 2 ^ 31) (hb : b < 2 ^ 31) : nI a = nI b ↔ a = b := by rw [← Int32.toInt_inj, nI_toInt ha, nI_toInt hb]; omega
theorem rel_g {σ τ σ' τ' : St} {n nn rn un se un' s : Nat} {x : Int32} (hI : Inv (τ.2.2 1) n nn rn un se) (hF : FR1 σ (τ.2.2 1)) (hO : RelO σ τ) (c : SCo σ σ') (m : SMo τ τ') (hu : un' ≤ un) (hs : s ≤ 999) (hx : ∀ i, bt x i = true → i < n) (e : ∀ k, k ≠ 1 → k ≠ 2 → k ≠ 5 → τ'.2.2 1 k = τ.2.2 1 k) (e1 : τ'.2.2 1 1 = x) (e2 : τ'.2.2 1 2 = nI s) (e5 : τ'.2.2 1 5 = nI un') (cc : ∀ k, k ≠ 107 → k ≠ 108 → k ≠ 111 → σ'.1 k = σ.1 k) (c1 : σ'.1 107 = x) (c2 : σ'.1 108 = nI s) (c5 : σ'.1 111 = nI un') (ca : ∀ a, a ≤ 7 → σ'.2.2 a = σ.2.2 a) : RelP σ' τ' := by
  obtain ⟨⟨a1, a2⟩, ⟨s1, s2⟩, ⟨n1, n2⟩, ⟨r1, r2⟩, ⟨u1, u2⟩, hk, ht, hf, hno, hre, hun⟩ := id hI
  obtain ⟨f0, f1, f2, f3, f4, f5, g1, g2, g3, g4, g5, g6⟩ := id hF
  have k5 := hI.c0.2.2.2
  refine RelP.mk ⟨n, nn, rn, un', s, ?_⟩ ?_ (hO.same c m)
  · refine ⟨⟨(e 0 (by omega) (by omega) (by omega)).trans a1, a2⟩, ⟨e2, hs⟩, ⟨(e 3 (by omega) (by omega) (by omega)).trans n1, n2⟩, ⟨(e 4 (by omega) (by omega) (by omega)).trans r1, r2⟩, ⟨e5, by omega⟩, hI.hK (fun t h => e _ (by omega) (by omega) (by omega)), hI.hT (fun t h => e _ (by omega) (by omega) (by omega)), fun i hb => hx i (e1 ▸ hb), hI.hN (fun t h => e _ (by omega) (by omega) (by omega)), hI.hRd (fun t h => e _ (by omega) (by omega) (by omega)), fun k h => hI.hU (fun t h => e _ (by omega) (by omega) (by omega)) k (by omega)⟩
  · unfold FR1
    rw [e5, nI_clamp (by omega), e 0 (by omega) (by omega) (by omega), e 3 (by omega) (by omega) (by omega), e 4 (by omega) (by omega) (by omega), e1, e2, cc 106 (by omega) (by omega) (by omega), cc 109 (by omega) (by omega) (by omega), cc 110 (by omega) (by omega) (by omega), c1, c2, c5, ca 2 (by omega), ca 3 (by omega), ca 4 (by omega), ca 5 (by omega), ca 6 (by omega), ca 7 (by omega)]
    refine ⟨f0, rfl, rfl, f3, f4, rfl, fun t h => ?_, fun t h => ?_, fun t h => ?_, fun t h => ?_, fun k h => ?_, fun k h => ?_⟩
    · rw [e (6 + t) (by omega) (by omega) (by omega)]; exact g1 t h
    · rw [e (13 + t) (by omega) (by omega) (by omega)]; exact g2 t h
    · rw [e (20 + t) (by omega) (by omega) (by omega)]; exact g3 t h
    · rw [e (50 + t) (by omega) (by omega) (by omega)]; exact g4 t h
    · rw [e (68 + 2 * k) (by omega) (by omega) (by omega)]; exact g5 k (by omega)
    · rw [e (69 + 2 * k) (by omega) (by omega) (by omega)]; exact g6 k (by omega)
theorem op_fell : Op2 RelP f_X10_fell f_X11_fell := by
  intro σ τ hR a b
  obtain ⟨n, nn, rn, un, se, hI⟩ := hR.n
  obtain ⟨⟨a1, a2⟩, ⟨s1, s2⟩, ⟨n1, n2⟩, ⟨r1, r2⟩, ⟨u1, u2⟩, hk, ht, hf, hno, hre, hun⟩ := id hI
  obtain ⟨f0, f1, f2, f3, f4, f5, g1, g2, g3, g4, g5, g6⟩ := id hR.2.1
  have e106 : σ.1 106 = nI n := f0.trans a1
  have bad : (f_X10_fell_b17 σ = some (-2, sI σ 13 (σ.1 13 + 1))) ∧ f_X11_fell_b18 τ = some (-2, sE τ 4 0 (τ.2.2 4 0 + 1)) := ⟨rfl, rfl⟩
  unfold f_X10_fell f_X11_fell
  by_cases hA : ¬ Tr n a
  · exact ⟨-2, _, _, by rw [isT_n e106 a2 hA, p0]; exact bad.1, by rw [isM_n a1 a2 hA, p0]; exact bad.2, hR.bad⟩
  have hA := Classical.not_not.mp hA
  rw [isT_y e106 a2 hA, isM_y a1 a2 hA, p1, p1]
  dsimp only
  by_cases hC : ¬ Rg 0 1 b
  · exact ⟨-2, _, _, by rw [wi_n (a := 0) (b := 1) (lo := 0) (hi := 1) hC (by omega) (by omega) rfl rfl, b0]; exact bad.1, by rw [in_n (a := 0) (b := 1) (lo := 0) (hi := 1) hC (by omega) (by omega) rfl rfl, b0]; exact bad.2, hR.bad⟩
  have hC := Classical.not_not.mp hC
  rw [wi_y (a := 0) (b := 1) (lo := 0) (hi := 1) hC (by omega) (by omega) rfl rfl, in_y (a := 0) (b := 1) (lo := 0) (hi := 1) hC (by omega) (by omega) rfl rfl, b1, b1]
  obtain ⟨i, hi, rfl⟩ := hA
  obtain ⟨is, -, his, rfl⟩ := hC
  obtain ⟨σ1, τ1, c1, m1, hc, hm, hF1, hI1, hd⟩ := keep_both hI hR.2.1
  obtain ⟨x, hx⟩ : ∃ x : Int32, x = (if is = 1 then τ1.2.2 1 1 ||| ((1 : Int32) <<< (nI i &&& 31)) else τ1.2.2 1 1 &&& (((1 : Int32) <<< (nI i &&& 31)) ^^^ (-1))) := ⟨_, rfl⟩
  have q1 : σ1.1 107 = τ1.2.2 1 1 := hF1.2.1
  refine ⟨((τ.2.2 1 1) >>> (nI i &&& 31)) &&& 1, sI σ1 107 x, sE τ1 1 1 x, ?_, ?_, ?_⟩
  · rw [c1, bs]
    unfold f_X2_markFelled_1
    rw [bs, q1, f1]
    rcases (show is = 0 ∨ is = 1 by omega) with rfl | rfl
    · rw [show nI 0 = 0 from rfl, or_clr (by omega)]
      rw [if_neg (by omega)] at hx
      rw [hx]
    · rw [show nI 1 = 1 from rfl, or_set (by omega)]
      rw [if_pos rfl] at hx
      rw [hx]
  · rw [m1, bs]
    rcases (show is = 0 ∨ is = 1 by omega) with rfl | rfl
    · rw [if_neg (by decide)]
      rw [if_neg (by omega)] at hx
      rw [hx]
      rfl
    · rw [if_pos (by decide)]
      rw [if_pos rfl] at hx
      rw [hx]
      rfl
  · refine rel_g (un' := kpU un + 1) (s := se) (x := x) hI1 hF1 (hR.o.same hc hm) ((SCo.rf σ1).i 107 x (by simp)) ((SMo.rf τ1).e 1 x) (by omega) s2 ?_ (fun k h1 h2 h3 => by rw [sE3, if_pos rfl, upd_a, if_neg h1]) rfl hI1.2.1.1 hI1.2.2.2.2.1.1 (fun k h1 h2 h3 => by rw [sI1, if_neg h1]) rfl (hF1.2.2.1.trans hI1.2.1.1) (hF1.2.2.2.2.2.1.trans hI1.2.2.2.2.1.1) (fun a h => rfl)
    intro k hb
    have hf1 := hI1.2.2.2.2.2.2.2.1
    rw [hx] at hb
    by_cases h1 : is = 1
    · rw [if_pos h1, bt_set (by omega)] at hb
      by_cases h2 : k = i
      · omega
      · simp [h2] at hb
        exact hf1 k hb
    · rw [if_neg h1, bt_clr (by omega)] at hb
      simp at hb
      exact hf1 k hb.1
theorem op_season : Op1 RelP f_X10_season f_X11_season := by
  intro σ τ hR a
  obtain ⟨n, nn, rn, un, se, hI⟩ := hR.n
  unfold f_X10_season f_X11_season
  by_cases hC : ¬ Rg 1 60 a
  · exact ⟨-2, _, _, by rw [wi_n (a := 1) (b := 60) (lo := 1) (hi := 60) hC (by omega) (by omega) rfl rfl, b0]; rfl, by rw [in_n (a := 1) (b := 60) (lo := 1) (hi := 60) hC (by omega) (by omega) rfl rfl, b0]; rfl, hR.bad⟩
  have hC := Classical.not_not.mp hC
  rw [wi_y (a := 1) (b := 60) (lo := 1) (hi := 60) hC (by omega) (by omega) rfl rfl, in_y (a := 1) (b := 60) (lo := 1) (hi := 60) hC (by omega) (by omega) rfl rfl, b1, b1]
  obtain ⟨d, h1d, hd, rfl⟩ := hC
  obtain ⟨σ1, τ1, c1, m1, hc, hm, hF1, hI1, hdd⟩ := keep_both hI hR.2.1
  have s2 : se ≤ 999 := hI.2.1.2
  have q2 : τ1.2.2 1 2 = nI se := hI1.2.1.1
  have q1 : σ1.1 108 = nI se := hF1.2.2.1.trans q2
  obtain ⟨s, hs⟩ : ∃ s : Nat, s = if se + d ≤ 999 then se + d else 999 := ⟨_, rfl⟩
  have hs9 : s ≤ 999 := by rw [hs]; by_cases h : se + d ≤ 999 <;> simp [h]
  refine ⟨nI s, sI σ1 108 (nI s), sE τ1 1 2 (nI s), ?_, ?_, ?_⟩
  · rw [c1, bs, q1, nI_add]
    by_cases h : se + d ≤ 999
    · rw [if_neg (show ¬ (999 : Int32) < nI (se + d) from fun e => absurd ((nlt (a := 999) (by omega) (by omega)).mp e) (by omega))]
      rw [if_pos h] at hs
      rw [hs]
    · rw [if_pos (show (999 : Int32) < nI (se + d) from (nlt (a := 999) (by omega) (by omega)).mpr (by omega))]
      rw [if_neg h] at hs
      rw [hs]
      rfl
  · rw [m1, bs, q2, nI_add]
    by_cases h : se + d ≤ 999
    · rw [if_pos (show nI (se + d) ≤ (999 : Int32) from (nle (b := 999) (by omega) (by omega)).mpr (by omega))]
      rw [if_pos h] at hs
      rw [hs]
      rfl
    · rw [if_neg (show ¬ nI (se + d) ≤ (999 : Int32) from fun e => absurd ((nle (b := 999) (by omega) (by omega)).mp e) (by omega))]
      rw [if_neg h] at hs
      rw [hs]
      rfl
  · exact rel_g (un' := kpU un + 1) (s := s) (x := τ1.2.2 1 1) hI1 hF1 (hR.o.same hc hm) ((SCo.rf σ1).i 108 (nI s) (by simp)) ((SMo.rf τ1).e 2 (nI s)) (by omega) hs9 hI1.2.2.2.2.2.2.2.1 (fun k h1 h2 h3 => by rw [sE3, if_pos rfl, upd_a, if_neg h2]) rfl rfl hI1.2.2.2.2.1.1 (fun k h1 h2 h3 => by rw [sI1, if_neg h2]) hF1.2.1 rfl (hF1.2.2.2.2.2.1.trans hI1.2.2.2.2.1.1) (fun a h => rfl)
theorem op_undo : Op0 RelP f_X10_undo f_X11_undo := by
  intro σ τ hR
  obtain ⟨n, nn, rn, un, se, hI⟩ := hR.n
  obtain ⟨k0, k3, k4, k5⟩ := hI.c0
  obtain ⟨⟨a1, a2⟩, ⟨s1, s2⟩, ⟨n1, n2⟩, ⟨r1, r2⟩, ⟨u1, u2⟩, hk, ht, hf, hno, hre, hun⟩ := id hI
  obtain ⟨f0, f1, f2, f3, f4, f5, g1, g2, g3, g4, g5, g6⟩ := id hR.2.1
  unfold f_X10_undo f_X11_undo f_X2_takeBack_1
  by_cases h0 : un = 0
  · subst h0
    rw [f5, u1, show nI 0 = 0 from rfl, if_pos rfl, if_pos rfl]
    exact ⟨-3, _, _, rfl, rfl, hR.no⟩
  obtain ⟨u, rfl⟩ : ∃ u, un = u + 1 := ⟨un - 1, by omega⟩
  have p : nI (u + 1) - 1 = nI u := nI_pred u
  have hu := hun u (by omega)
  rw [f5, u1, p]
  have hz : ¬ nI (u + 1) = 0 := fun e => absurd ((nI_eq (b := 0) (by omega) (by omega)).mp e) (by omega)
  have hz2 : ¬ nI (u + 1) ≤ 0 := fun e => absurd ((nle (b := 0) (by omega) (by omega)).mp e) (by omega)
  rw [if_neg hz, if_neg hz, if_neg hz2]
  rw [ck_nI (by omega) (by omega), cT, cT, nI_clamp (by omega), g5 u (by omega), g6 u (by omega), bs]
  obtain ⟨v, hv9, hv⟩ : ∃ v : Nat, v ≤ 999 ∧ τ.2.2 1 (69 + 2 * u) = nI v := by
    obtain ⟨j, -, hj, e⟩ := hu.2
    exact ⟨j, hj, e⟩
  obtain ⟨x, hx⟩ : ∃ x : Int32, τ.2.2 1 (68 + 2 * u) = x := ⟨_, rfl⟩
  rw [hv, hx]
  refine ⟨nI v, sI (sI (sI σ 111 (nI u)) 107 x) 108 (nI v), sE (sE (sE τ 1 5 (nI u)) 1 1 x) 1 2 (nI v), rfl, ?_, ?_⟩
  · have r1 : (sE τ 1 5 (nI u)).2.2 1 5 = nI u := rfl
    have e1 : (68 : Int32) + 2 * nI u = nI (68 + 2 * u) := by rw [show (2 : Int32) = nI 2 from rfl, pk_mul]; exact nI_add 68 (2 * u)
    have r2 : (sE τ 1 5 (nI u)).2.2 1 (68 + 2 * u) = x := by rw [sE3, if_pos rfl, upd_a, if_neg (by omega), hx]
    have r3 : (sE (sE τ 1 5 (nI u)) 1 1 x).2.2 1 5 = nI u := rfl
    have r4 : (sE (sE τ 1 5 (nI u)) 1 1 x).2.2 1 (69 + 2 * u) = nI v := by rw [sE3, if_pos rfl, upd_a, if_neg (by omega), sE3, if_pos rfl, upd_a, if_neg (by omega), hv]
    have c1 : (nI (68 + 2 * u)).toNatClampNeg = 68 + 2 * u := nI_clamp (by omega)
    have c2 : (nI (69 + 2 * u)).toNatClampNeg = 69 + 2 * u := nI_clamp (by omega)
    have e2 : nI (68 + 2 * u) + 1 = nI (69 + 2 * u) := by rw [nI_1]; congr 1; omega
    rw [r1, e1, c1, r2, r3, e1, e2, c2, r4, ck_nI (by omega) (by omega), ck_nI (by omega) (by omega), cT, cT]
    rfl
  · refine rel_g (un' := u) (s := v) (x := x) hI hR.2.1 hR.o ((((SCo.rf σ).i 111 (nI u) (by simp)).i 107 x (by simp)).i 108 (nI v) (by simp)) ((((SMo.rf τ).e 5 (nI u)).e 1 x).e 2 (nI v)) (by omega) hv9 ?_ (fun k h1 h2 h3 => ?_) rfl rfl rfl (fun k h1 h2 h3 => by rw [sI1, if_neg h2, sI1, if_neg h1, sI1, if_neg h3]) rfl rfl rfl (fun a h => rfl)
    · intro i hb
      exact hu.1 i (hx ▸ hb)
    · rw [sE3, if_pos rfl, upd_a, if_neg h2, sE3, if_pos rfl, upd_a, if_neg h1, sE3, if_pos rfl, upd_a, if_neg h3]
theorem op_of : Op2 RelP f_X10_of f_X11_of := by
  intro σ τ hR a b
  obtain ⟨n, nn, rn, un, se, hI⟩ := hR.n
  obtain ⟨k0, k3, k4, k5⟩ := hI.c0
  obtain ⟨⟨a1, a2⟩, ⟨s1, s2⟩, ⟨n1, n2⟩, ⟨r1, r2⟩, ⟨u1, u2⟩, hk, ht, hf, hno, hre, hun⟩ := id hI
  obtain ⟨f0, f1, f2, f3, f4, f5, g1, g2, g3, g4, g5, g6⟩ := id hR.2.1
  have e106 : σ.1 106 = nI n := f0.trans a1
  have bad : (f_X10_of_b17 σ = some (-2, sI σ 13 (σ.1 13 + 1))) ∧ f_X11_of_b20 τ = some (-2, sE τ 4 0 (τ.2.2 4 0 + 1)) := ⟨rfl, rfl⟩
  unfold f_X10_of f_X11_of
  by_cases hA : ¬ Tr n a
  · exact ⟨-2, _, _, by rw [isT_n e106 a2 hA, p0]; exact bad.1, by rw [isM_n a1 a2 hA, p0]; exact bad.2, hR.bad⟩
  have hA := Classical.not_not.mp hA
  rw [isT_y e106 a2 hA, isM_y a1 a2 hA, p1, p1]
  dsimp only
  by_cases hC : ¬ Rg 0 2 b
  · exact ⟨-2, _, _, by rw [wi_n (a := 0) (b := 2) (lo := 0) (hi := 2) hC (by omega) (by omega) rfl rfl, b0]; exact bad.1, by rw [in_n (a := 0) (b := 2) (lo := 0) (hi := 2) hC (by omega) (by omega) rfl rfl, b0]; exact bad.2, hR.bad⟩
  have hC := Classical.not_not.mp hC
  rw [wi_y (a := 0) (b := 2) (lo := 0) (hi := 2) hC (by omega) (by omega) rfl rfl, in_y (a := 0) (b := 2) (lo := 0) (hi := 2) hC (by omega) (by omega) rfl rfl, b1, b1]
  obtain ⟨i, hi, rfl⟩ := hA
  have e6 : (6 : Int32) + nI i = nI (6 + i) := nI_add 6 i
  have e13 : (13 : Int32) + nI i = nI (13 + i) := nI_add 13 i
  have c6 : (nI (6 + i)).toNatClampNeg = 6 + i := nI_clamp (by omega)
  have c13 : (nI (13 + i)).toNatClampNeg = 13 + i := nI_clamp (by omega)
  rw [e6, e13, c6, c13, ck_nI (by omega) (by omega), ck_nI (by omega) (by omega), ck_nI (by omega) (by omega), nI_clamp (by omega), g1 i (by omega), g2 i (by omega), f1, cT, cT, cT, cT]
  exact ⟨if b = 0 then τ.2.2 1 (6 + i) else if b = 1 then ((τ.2.2 1 1) >>> (nI i &&& 31)) &&& 1 else τ.2.2 1 (13 + i), σ, τ, by split; rfl; split <;> rfl, by split; rfl; split <;> rfl, hR⟩
theorem op_forget : Op1 RelP f_X10_forget f_X11_forget := by
  intro σ τ hR a
  obtain ⟨n, nn, rn, un, se, hI⟩ := hR.n
  obtain ⟨k0, k3, k4, k5⟩ := hI.c0
  obtain ⟨⟨a1, a2⟩, ⟨s1, s2⟩, ⟨n1, n2⟩, ⟨r1, r2⟩, ⟨u1, u2⟩, hk, ht, hf, hno, hre, hun⟩ := id hI
  obtain ⟨f0, f1, f2, f3, f4, f5, g1, g2, g3, g4, g5, g6⟩ := id hR.2.1
  unfold f_X10_forget f_X11_forget
  by_cases hC : ¬ Rg 0 1 a
  · exact ⟨-2, _, _, by rw [wi_n (a := 0) (b := 1) (lo := 0) (hi := 1) hC (by omega) (by omega) rfl rfl, b0]; rfl, by rw [in_n (a := 0) (b := 1) (lo := 0) (hi := 1) hC (by omega) (by omega) rfl rfl, b0]; rfl, hR.bad⟩
  have hC := Classical.not_not.mp hC
  rw [wi_y (a := 0) (b := 1) (lo := 0) (hi := 1) hC (by omega) (by omega) rfl rfl, in_y (a := 0) (b := 1) (lo := 0) (hi := 1) hC (by omega) (by omega) rfl rfl, b1, b1]
  obtain ⟨d, h1d, hd, rfl⟩ := hC
  rcases (show d = 0 ∨ d = 1 by omega) with rfl | rfl
  · refine ⟨τ.2.2 1 3, sI σ 109 0, sE τ 1 3 0, ?_, rfl, ?_⟩
    · rw [show nI 0 = 0 from rfl, if_pos rfl, f3]; rfl
    · have e : ∀ k, k ≠ 3 → (sE τ 1 3 0).2.2 1 k = τ.2.2 1 k := fun k h => by rw [sE3, if_pos rfl, upd_a, if_neg h]
      have e3 : (sE τ 1 3 0).2.2 1 3 = 0 := rfl
      refine RelP.mk ⟨n, 0, rn, un, se, ?_⟩ ?_ (hR.o.same ((SCo.rf σ).i 109 0 (by simp)) ((SMo.rf τ).e 3 0))
      · exact ⟨⟨(e 0 (by omega)).trans a1, a2⟩, ⟨(e 2 (by omega)).trans s1, s2⟩, ⟨rfl, by omega⟩, ⟨(e 4 (by omega)).trans r1, r2⟩, ⟨(e 5 (by omega)).trans u1, u2⟩, hI.hK (fun t h => e _ (by omega)), hI.hT (fun t h => e _ (by omega)), hI.hF (e 1 (by omega)), fun k h => absurd h (by omega), hI.hRd (fun t h => e _ (by omega)), hI.hU (fun t h => e _ (by omega))⟩
      · unfold FR1
        rw [e 0 (by omega), e 1 (by omega), e 2 (by omega), e3, e 4 (by omega), e 5 (by omega)]
        refine ⟨f0, f1, f2, rfl, f4, f5, fun t h => ?_, fun t h => ?_, fun t h => ?_, fun t h => ?_, fun k h => ?_, fun k h => ?_⟩
        · rw [e _ (by omega)]; exact g1 t h
        · rw [e _ (by omega)]; exact g2 t h
        · rw [sb_cl0] at h; exact absurd h (by omega)
        · rw [e _ (by omega)]; exact g4 t h
        · rw [e _ (by omega)]; exact g5 k h
        · rw [e _ (by omega)]; exact g6 k h
  · refine ⟨τ.2.2 1 4, sI σ 110 0, sE τ 1 4 0, ?_, rfl, ?_⟩
    · rw [if_neg (by decide), f4]; rfl
    · have e : ∀ k, k ≠ 4 → (sE τ 1 4 0).2.2 1 k = τ.2.2 1 k := fun k h => by rw [sE3, if_pos rfl, upd_a, if_neg h]
      have e3 : (sE τ 1 4 0).2.2 1 4 = 0 := rfl
      refine RelP.mk ⟨n, nn, 0, un, se, ?_⟩ ?_ (hR.o.same ((SCo.rf σ).i 110 0 (by simp)) ((SMo.rf τ).e 4 0))
      · exact ⟨⟨(e 0 (by omega)).trans a1, a2⟩, ⟨(e 2 (by omega)).trans s1, s2⟩, ⟨(e 3 (by omega)).trans n1, n2⟩, ⟨rfl, by omega⟩, ⟨(e 5 (by omega)).trans u1, u2⟩, hI.hK (fun t h => e _ (by omega)), hI.hT (fun t h => e _ (by omega)), hI.hF (e 1 (by omega)), hI.hN (fun t h => e _ (by omega)), fun k h => absurd h (by omega), hI.hU (fun t h => e _ (by omega))⟩
      · unfold FR1
        rw [e 0 (by omega), e 1 (by omega), e 2 (by omega), e3, e 3 (by omega), e 5 (by omega)]
        refine ⟨f0, f1, f2, f3, rfl, f5, fun t h => ?_, fun t h => ?_, fun t h => ?_, fun t h => ?_, fun k h => ?_, fun k h => ?_⟩
        · rw [e _ (by omega)]; exact g1 t h
        · rw [e _ (by omega)]; exact g2 t h
        · rw [e _ (by omega)]; exact g3 t h
        · rw [sb_cl0] at h; exact absurd h (by omega)
        · rw [e _ (by omega)]; exact g5 k h
        · rw [e _ (by omega)]; exact g6 k h
