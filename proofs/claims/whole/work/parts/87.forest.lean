/-! both say alike whether there is a row; the two foresters -/
theorem jw {σ τ : St} (hR : RelP σ τ) {n nn rn un se : Nat} (hI : Inv (τ.2.2 1) n nn rn un se) {a g : Nat} (ha : a < n) (hg : g < n) (f : Int32) : ∃ (b : Bool) (τ' : St), f_X7_joins σ (nI a) (nI g) f = some (if b = true then 1 else 0, σ) ∧ f_X11_isThereWay τ (nI a) (nI g) f = some (if b = true then 1 else 0, τ') ∧ RelP σ τ' ∧ (∀ k, k ≠ 7 → k ≠ 10 → τ'.1 k = τ.1 k) ∧ (∀ x, x ≠ 5 → τ'.2.2 x = τ.2.2 x) := by
  obtain ⟨w1, w2, w3, w4, -, -⟩ := hR.wk hI
  obtain ⟨b, j1, j2⟩ := joins_C w1 w2 w3 w4 ha hg f
  obtain ⟨b', τ', m1, m2, m3, m4, m5⟩ := way_M hI.1.1 hI.1.2 ha hg f
  have : b' = b := by
    have : b' = true ↔ b = true := m2.trans j2.symm
    cases b <;> cases b' <;> simp_all
  subst this
  exact ⟨b', τ', j1, m1, hR.same (SC.rf σ) ⟨m3 18 (by omega) (by omega), fun x hx => m5 x (fun e => by subst e; exact absurd hx (by decide)), m4⟩, m3, m5⟩
def hisv (b : Bool) (j : Nat) : Int32 := if j % 2 = 1 then (if b = true then 2 else -1) else (if b = true then 1 else 0)
def thv (b : Bool) (j : Nat) : Int32 := if j ≤ 1 then (if b = true then 1 else 0) else (if b = true then 2 else -1)
def fres (c0 c1 c2 c3 d0 d1 d2 d3 : Int32) : Int32 := ((((0 : Int32) ||| (if c0 < c1 then 0 else if d0 < d2 then 0 else (1 : Int32) <<< ((0 : Int32) &&& 31))) ||| (if c1 < c0 then 0 else if d1 < d3 then 0 else (1 : Int32) <<< ((1 : Int32) &&& 31))) ||| (if c2 < c3 then 0 else if d2 < d0 then 0 else (1 : Int32) <<< ((2 : Int32) &&& 31))) ||| (if c3 < c2 then 0 else if d3 < d1 then 0 else (1 : Int32) <<< ((3 : Int32) &&& 31))
theorem f213 (K : St → Int32 → Int32 → Option (Int32 × St)) (τ : St) (x : Int32) (j p q : Nat) (hj : j < 4) (hp : p < 4) (hq : q < 4) (e1 : nI j ^^^ 1 = nI p) (e2 : nI j ^^^ 2 = nI q) : f_X11_foresters_b213 K τ x (nI j) = K τ (x ||| (if τ.2.2 7 j < τ.2.2 7 p then 0 else if τ.2.2 8 j < τ.2.2 8 q then 0 else (1 : Int32) <<< (nI j &&& 31))) (nI (j + 1)) := by
  unfold f_X11_foresters_b213 f_X11_foresters_b261 f_X11_foresters_b262 f_X11_foresters_b279
  rw [if_neg (show ¬ (4 : Int32) ≤ nI j from nI_ge (b := 4) hj (by omega)), e1, e2, ck_nI hj (by omega), ck_nI hp (by omega), ck_nI hq (by omega), nI_clamp (show j < 2 ^ 31 by omega), nI_clamp (show p < 2 ^ 31 by omega), nI_clamp (show q < 2 ^ 31 by omega), nI_1]
  simp only [cT]
  by_cases g : τ.2.2 7 j < τ.2.2 7 p
  · rw [if_pos g, if_pos g, if_pos trivial]
  · rw [if_neg g, if_neg g]
    by_cases g2 : τ.2.2 8 j < τ.2.2 8 q
    · rw [if_pos g2, if_pos g2, if_pos trivial]
    · rw [if_neg g2, if_neg g2, if_neg (show ¬ (1 : Int32) = 0 by decide)]
theorem f213_all (τ : St) : f_X11_foresters_L213 FU τ 0 0 = some (fres (τ.2.2 7 0) (τ.2.2 7 1) (τ.2.2 7 2) (τ.2.2 7 3) (τ.2.2 8 0) (τ.2.2 8 1) (τ.2.2 8 2) (τ.2.2 8 3), τ) := by
  show f_X11_foresters_b213 (f_X11_foresters_L213 999999) τ 0 (nI 0) = _
  rw [f213 _ τ 0 0 1 2 (by omega) (by omega) (by omega) (by decide) (by decide)]
  show f_X11_foresters_b213 (f_X11_foresters_L213 999998) τ _ (nI 1) = _
  rw [f213 _ τ _ 1 0 3 (by omega) (by omega) (by omega) (by decide) (by decide)]
  show f_X11_foresters_b213 (f_X11_foresters_L213 999997) τ _ (nI 2) = _
  rw [f213 _ τ _ 2 3 0 (by omega) (by omega) (by omega) (by decide) (by decide)]
  show f_X11_foresters_b213 (f_X11_foresters_L213 999996) τ _ (nI 3) = _
  rw [f213 _ τ _ 3 2 1 (by omega) (by omega) (by omega) (by decide) (by decide)]
  show f_X11_foresters_b213 (f_X11_foresters_L213 999995) τ _ (nI 4) = _
  unfold f_X11_foresters_b213
  rw [if_pos (by decide)]
  rfl
def bI (b : Bool) (j : Nat) : Int32 := if b = true then (1 : Int32) <<< (nI j &&& 31) else 0
theorem f120_all (σ : St) (b0 b1 b2 b3 : Bool) : f_X10_foresters_L120 FU σ ((((0 : Int32) ||| bI b0 0) ||| bI b1 1) ||| bI b2 2 ||| bI b3 3) 0 0 = some (fres (hisv b0 0) (hisv b1 1) (hisv b2 2) (hisv b3 3) (thv b0 0) (thv b1 1) (thv b2 2) (thv b3 3), σ) := by
  cases b0 <;> cases b1 <;> cases b2 <;> cases b3 <;> rfl
theorem or_as (x y z : Int32) : x ||| (y ||| z) = (x ||| y) ||| z := by
  apply b_ext
  intro i _
  rw [b_or, b_or, b_or, b_or, Bool.or_assoc]
theorem half4 : ∀ j, j < 4 → nI j >>> ((1 : Int32) &&& 31) = nI j / 2 := by decide +kernel
theorem fstep {σ τ : St} (hR : RelP σ τ) {n nn rn un se : Nat} (hI : Inv (τ.2.2 1) n nn rn un se) {s t a g : Nat} (ha : a < n) (hg : g < n) {j : Nat} (hj : j < 4) : ∃ (b : Bool) (τ' : St), RelP σ τ' ∧ τ'.2.2 1 = τ.2.2 1 ∧ (∀ i, τ'.2.2 7 i = if i = j then hisv b j else τ.2.2 7 i) ∧ (∀ i, τ'.2.2 8 i = if i = j then thv b j else τ.2.2 8 i) ∧ (∀ K X, f_X10_foresters_b55 K σ (nI s) (nI t) (nI a) (nI g) X (nI j) = K σ (nI s) (nI t) (nI a) (nI g) (X ||| bI b j) (nI (j + 1))) ∧ (∀ K, f_X11_foresters_b88 K τ (nI s) (nI t) (nI a) (nI g) (nI j) = K τ' (nI s) (nI t) (nI a) (nI g) (nI (j + 1))) := by
  have e107 : σ.1 107 = τ.2.2 1 1 := hR.2.1.2.1
  obtain ⟨b, τ1, j1, m1, hR1, -, m5⟩ := jw hR hI ha hg (((τ.2.2 1 1) ||| ((nI j &&& 1) <<< (nI s &&& 31))) ||| ((nI j / 2) <<< (nI t &&& 31)))
  refine ⟨b, sE (sE τ1 7 j (hisv b j)) 8 j (thv b j), hR1.same (SC.rf σ) ((SM.e τ1 7 j _ (by decide)).tr (SM.e _ 8 j _ (by decide))), m5 1 (by omega), fun i => ?_, fun i => ?_, fun K X => ?_, fun K => ?_⟩
  · rw [← m5 7 (by omega)]; rfl
  · rw [← m5 8 (by omega)]; rfl
  · unfold f_X10_foresters_b55 f_X10_foresters_b108
    rw [if_neg (show ¬ (4 : Int32) ≤ nI j from nI_ge (b := 4) hj (by omega)), half4 j hj, or_as, e107, j1, bs, nI_1]
    cases b
    · show K σ _ _ _ _ X _ = K σ _ _ _ _ (X ||| 0) _
      rw [or_0]
    · rfl
  · unfold f_X11_foresters_b88
    rw [if_neg (show ¬ (4 : Int32) ≤ nI j from nI_ge (b := 4) hj (by omega)), m1, bs]
    rcases (show j = 0 ∨ j = 1 ∨ j = 2 ∨ j = 3 by omega) with rfl | rfl | rfl | rfl <;> cases b <;> rfl
theorem unlike (τ : St) (a b c d : Int32) : ∃ u : Int32, (u = 0 ∨ u = 1) ∧ f_X10_allUnlike a b c d = some u ∧ f_X11_foresters τ a b c d = f_X11_foresters_b38 τ a b c d u := by
  unfold f_X10_allUnlike f_X11_foresters f_X11_foresters_b37
  by_cases h1 : a = b
  · exact ⟨0, Or.inl rfl, by rw [if_pos h1], by rw [if_pos h1]⟩
  rw [if_neg h1, if_neg h1]
  by_cases h2 : a = c
  · exact ⟨0, Or.inl rfl, by rw [if_pos h2], by rw [if_pos h2]⟩
  rw [if_neg h2, if_neg h2]
  by_cases h3 : a = d
  · exact ⟨0, Or.inl rfl, by rw [if_pos h3], by rw [if_pos h3]⟩
  rw [if_neg h3, if_neg h3]
  by_cases h4 : b = c
  · exact ⟨0, Or.inl rfl, by rw [if_pos h4], by rw [if_pos h4]⟩
  rw [if_neg h4, if_neg h4]
  by_cases h5 : b = d
  · exact ⟨0, Or.inl rfl, by rw [if_pos h5], by rw [if_pos h5]⟩
  rw [if_neg h5, if_neg h5]
  by_cases h6 : c = d
  · exact ⟨0, Or.inl rfl, by rw [if_pos h6], by rw [if_pos h6]⟩
  rw [if_neg h6, if_neg h6]
  exact ⟨1, Or.inr rfl, rfl, rfl⟩
theorem op_foresters : Op4 RelP f_X10_foresters f_X11_foresters := by
  intro σ τ hR a b c d
  obtain ⟨n, nn, rn, un, se, hI⟩ := hR.n
  have a1 : τ.2.2 1 0 = nI n := hI.1.1
  have a2 : n ≤ 7 := hI.1.2
  have e106 : σ.1 106 = nI n := hR.2.1.1.trans a1
  have bad : (f_X10_foresters_b44 σ = some (-2, sI σ 13 (σ.1 13 + 1))) ∧ f_X11_foresters_b78 τ = some (-2, sE τ 4 0 (τ.2.2 4 0 + 1)) := ⟨rfl, rfl⟩
  obtain ⟨u, hu, u1, u2⟩ := unlike τ a b c d
  rw [u2]
  unfold f_X10_foresters f_X11_foresters_b38
  rw [u1]
  by_cases hA : ¬ Tr n a
  · exact ⟨-2, _, _, by rw [isT_n e106 a2 hA, p0]; exact bad.1, by rw [isM_n a1 a2 hA, p0]; exact bad.2, hR.bad⟩
  have hA := Classical.not_not.mp hA
  rw [isT_y e106 a2 hA, isM_y a1 a2 hA, p1, p1]
  dsimp only
  by_cases hB : ¬ Tr n b
  · exact ⟨-2, _, _, by rw [isT_n e106 a2 hB, p0]; exact bad.1, by rw [isM_n a1 a2 hB, p0]; exact bad.2, hR.bad⟩
  have hB := Classical.not_not.mp hB
  rw [isT_y e106 a2 hB, isM_y a1 a2 hB, p1, p1]
  dsimp only
  by_cases hC : ¬ Tr n c
  · exact ⟨-2, _, _, by rw [isT_n e106 a2 hC, p0]; exact bad.1, by rw [isM_n a1 a2 hC, p0]; exact bad.2, hR.bad⟩
  have hC := Classical.not_not.mp hC
  rw [isT_y e106 a2 hC, isM_y a1 a2 hC, p1, p1]
  dsimp only
  by_cases hD : ¬ Tr n d
  · exact ⟨-2, _, _, by rw [isT_n e106 a2 hD, p0]; exact bad.1, by rw [isM_n a1 a2 hD, p0]; exact bad.2, hR.bad⟩
  have hD := Classical.not_not.mp hD
  rw [isT_y e106 a2 hD, isM_y a1 a2 hD, p1, p1]
  dsimp only
  rcases hu with rfl | rfl
  · exact ⟨-2, _, _, by rw [b0]; exact bad.1, by rw [if_pos rfl]; exact bad.2, hR.bad⟩
  rw [b1, if_neg (show ¬ (1 : Int32) = 0 by decide)]
  obtain ⟨s, hs, rfl⟩ := hA
  obtain ⟨t, ht, rfl⟩ := hB
  obtain ⟨x, hx, rfl⟩ := hC
  obtain ⟨g, hg, rfl⟩ := hD
  obtain ⟨b0, τ0, r0, m0, p0, q0, c0, k0⟩ := fstep (s := s) (t := t) hR hI hx hg (j := 0) (by omega)
  obtain ⟨b1, τ1, r1, m1, p1, q1, c1, k1⟩ := fstep (s := s) (t := t) r0 (m0 ▸ hI) hx hg (j := 1) (by omega)
  obtain ⟨b2, τ2, r2, m2, p2, q2, c2, k2⟩ := fstep (s := s) (t := t) r1 (m1 ▸ m0 ▸ hI) hx hg (j := 2) (by omega)
  obtain ⟨b3, τ3, r3, m3, p3, q3, c3, k3⟩ := fstep (s := s) (t := t) r2 (m2 ▸ m1 ▸ m0 ▸ hI) hx hg (j := 3) (by omega)
  have w0 : τ3.2.2 7 0 = hisv b0 0 ∧ τ3.2.2 8 0 = thv b0 0 := ⟨by rw [p3, p2, p1, p0]; rfl, by rw [q3, q2, q1, q0]; rfl⟩
  have w1 : τ3.2.2 7 1 = hisv b1 1 ∧ τ3.2.2 8 1 = thv b1 1 := ⟨by rw [p3, p2, p1]; rfl, by rw [q3, q2, q1]; rfl⟩
  have w2 : τ3.2.2 7 2 = hisv b2 2 ∧ τ3.2.2 8 2 = thv b2 2 := ⟨by rw [p3, p2]; rfl, by rw [q3, q2]; rfl⟩
  have w3 : τ3.2.2 7 3 = hisv b3 3 ∧ τ3.2.2 8 3 = thv b3 3 := ⟨by rw [p3]; rfl, by rw [q3]; rfl⟩
  refine ⟨fres (hisv b0 0) (hisv b1 1) (hisv b2 2) (hisv b3 3) (thv b0 0) (thv b1 1) (thv b2 2) (thv b3 3), σ, τ3, ?_, ?_, r3⟩
  rotate_left
  · show f_X11_foresters_b88 (f_X11_foresters_L88 999999) τ _ _ _ _ (nI 0) = _
    rw [k0]
    show f_X11_foresters_b88 (f_X11_foresters_L88 999998) τ0 _ _ _ _ (nI 1) = _
    rw [k1]
    show f_X11_foresters_b88 (f_X11_foresters_L88 999997) τ1 _ _ _ _ (nI 2) = _
    rw [k2]
    show f_X11_foresters_b88 (f_X11_foresters_L88 999996) τ2 _ _ _ _ (nI 3) = _
    rw [k3]
    show f_X11_foresters_b88 (f_X11_foresters_L88 999995) τ3 _ _ _ _ (nI 4) = _
    unfold f_X11_foresters_b88
    rw [if_pos (by decide), f213_all, w0.1, w0.2, w1.1, w1.2, w2.1, w2.2, w3.1, w3.2]
  · show f_X10_foresters_b55 (f_X10_foresters_L55 999999) σ _ _ _ _ 0 (nI 0) = _
    rw [c0]
    show f_X10_foresters_b55 (f_X10_foresters_L55 999998) σ _ _ _ _ _ (nI 1) = _
    rw [c1]
    show f_X10_foresters_b55 (f_X10_foresters_L55 999997) σ _ _ _ _ _ (nI 2) = _
    rw [c2]
    show f_X10_foresters_b55 (f_X10_foresters_L55 999996) σ _ _ _ _ _ (nI 3) = _
    rw [c3]
    show f_X10_foresters_b55 (f_X10_foresters_L55 999995) σ _ _ _ _ _ (nI 4) = _
    unfold f_X10_foresters_b55
    rw [if_pos (by decide)]
    exact f120_all σ b0 b1 b2 b3
