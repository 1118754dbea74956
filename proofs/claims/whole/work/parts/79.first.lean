/-! the short letters in their order, and what may have been put in -/
def chk : Nat → Nat → Nat → Bool
  | 0, _, i => i == 85
  | d + 1, x, i => if okL 6 x = true then decide (f_X3_shortLetter (nI i) = some (nI x)) && decide (i < 85) && chk d (x + 1) (i + 1) else chk d (x + 1) i
theorem chk_0 : chk 445 0 0 = true := by decide +kernel
theorem chk_1 : chk 444 1 1 = true := by decide +kernel
theorem chk_y {d x i : Nat} (h : chk (d + 1) x i = true) (g : okL 6 x = true) : f_X3_shortLetter (nI i) = some (nI x) ∧ i < 85 ∧ chk d (x + 1) (i + 1) = true := by
  unfold chk at h
  rw [if_pos g] at h
  simp only [Bool.and_eq_true, decide_eq_true_eq] at h
  exact ⟨h.1.1, h.1.2, h.2⟩
theorem chk_n {d x i : Nat} (h : chk (d + 1) x i = true) (g : okL 6 x = false) : chk d (x + 1) i = true := by
  unfold chk at h
  rw [if_neg (by rw [g]; decide)] at h
  exact h
theorem isLM (x : Nat) (h : x ≤ 444444) : f_X11_isLetter (nI x) = some (if okL 6 x = true then 1 else 0) := by
  obtain ⟨v, -, h2, h3⟩ := isL (nI x)
  rw [h2]
  rcases h3 with ⟨rfl, m, e, hm⟩ | ⟨rfl, hN⟩
  · have : x = m := (neq (by omega) (by have := hm.1; omega)).mp e
    subst this
    rw [if_pos hm.2]
  · rw [if_neg (fun g => hN ⟨x, rfl, h, g⟩)]
theorem may_both : ∀ (d k fu : Nat) (σ τ : St) (n nn rn un se : Nat) (l : List Nat), RelP σ τ → Inv (τ.2.2 1) n nn rn un se → Lg l → l.length ≤ 6 → k + d = rn → d + 1 < fu → ∃ (r : Int32) (σ' τ' : St), f_X10_mayHaveBeenPutIn_L2 fu σ (nI (vL l)) (nI k) = some (r, σ') ∧ f_X11_isAllSo_L4 fu τ (nI (vL l)) 1 (nI k) = some (r, τ') ∧ RelP σ' τ' ∧ τ'.2.2 1 = τ.2.2 1 := by
  intro d
  induction d with
  | zero =>
    intro k fu σ τ n nn rn un se l hR hI hg hl hk hfu
    obtain ⟨fu, rfl⟩ : ∃ m, fu = m + 1 := ⟨fu - 1, by omega⟩
    have r1 : τ.2.2 1 4 = nI rn := hI.2.2.2.1.1
    have r2 : rn ≤ 6 := hI.2.2.2.1.2
    have e110 : σ.1 110 = nI rn := hR.2.1.2.2.2.2.1.trans r1
    refine ⟨1, σ, τ, ?_, ?_, hR, rfl⟩
    · show f_X10_mayHaveBeenPutIn_b2 _ σ (nI (vL l)) (nI k) = _
      unfold f_X10_mayHaveBeenPutIn_b2
      rw [e110, if_pos ((nle (by omega) (by omega)).mpr (by omega))]
    · show f_X11_isAllSo_b4 _ τ (nI (vL l)) 1 (nI k) = _
      unfold f_X11_isAllSo_b4
      rw [r1, if_pos ((nle (by omega) (by omega)).mpr (by omega))]
      rfl
  | succ d ih =>
    intro k fu σ τ n nn rn un se l hR hI hg hl hk hfu
    obtain ⟨fu, rfl⟩ : ∃ m, fu = m + 1 := ⟨fu - 1, by omega⟩
    have r1 : τ.2.2 1 4 = nI rn := hI.2.2.2.1.1
    have r2 : rn ≤ 6 := hI.2.2.2.1.2
    have e110 : σ.1 110 = nI rn := hR.2.1.2.2.2.2.1.trans r1
    have g4 := hR.2.1.2.2.2.2.2.2.2.2.2.1
    rw [hI.c0.2.2.1] at g4
    obtain ⟨hrow, ⟨s, -, hs, e51⟩, -⟩ := hI.2.2.2.2.2.2.2.2.2.1 k (by omega)
    have eC : f_X10_mayHaveBeenPutIn_L2 (fu + 1) σ (nI (vL l)) (nI k) = f_X10_mayHaveBeenPutIn_b2 (f_X10_mayHaveBeenPutIn_L2 fu) σ (nI (vL l)) (nI k) := rfl
    have eM : f_X11_isAllSo_L4 (fu + 1) τ (nI (vL l)) 1 (nI k) = f_X11_isAllSo_b4 (f_X11_isAllSo_L4 fu) τ (nI (vL l)) 1 (nI k) := rfl
    have hle : ¬ nI rn ≤ nI k := fun z => absurd ((nle (by omega) (by omega)).mp z) (by omega)
    have q0 : nI k * 3 = nI (3 * k) := by rw [show (3 : Int32) = nI 3 from rfl, pk_mul, Nat.mul_comm]
    have q1 : nI (3 * k) + 1 = nI (3 * k + 1) := nI_add _ 1
    have q2 : nI (3 * k) + 2 = nI (3 * k + 2) := nI_add _ 2
    have w0 : (50 : Int32) + 3 * nI k = nI (50 + 3 * k) := by rw [show (3 : Int32) = nI 3 from rfl, pk_mul]; exact nI_add 50 _
    have w1 : nI (50 + 3 * k) + 1 = nI (51 + 3 * k) := by rw [nI_1]; congr 1; omega
    have w2 : nI (50 + 3 * k) + 2 = nI (52 + 3 * k) := by rw [show (2 : Int32) = nI 2 from rfl, nI_add]; congr 1; omega
    rcases row_v hI.1.1 hI.1.2 (τ.2.2 1 (50 + 3 * k)) with ⟨m, τ1, L, hx, hrw, el, hS, hL⟩ | ⟨hN, -⟩
    case inr => exact absurd hrow hN
    have m1 : τ1.2.2 1 = τ.2.2 1 := hS.2.1 1 (by decide)
    have hI1 : Inv (τ1.2.2 1) n nn rn un se := by rw [m1]; exact hI
    have hR1 := hR.same (SC.rf σ) hS
    obtain ⟨τ2, t1, t2, t3, t4, -⟩ := readBy_M hI1 ⟨hrw, hL⟩ (show s ≤ 999 by omega) hg hl
    obtain ⟨σ2, c1, c2, c3, c4, -, -⟩ := follow_C (hR1.ks hI1) hrw (show s ≤ 999 by omega) hg hl
    have hR2 : RelP σ2 τ2 := hR1.same (SC.of c2 c3) (SM.of t2 t3)
    have m2 : τ2.2.2 1 = τ.2.2 1 := by rw [t3, m1]
    have hI2 : Inv (τ2.2.2 1) n nn rn un se := by rw [m2]; exact hI
    have x0 : σ.2.2 5 (3 * k) = nI m := by rw [g4 _ (by omega)]; exact hx
    have x1 : σ.2.2 5 (3 * k + 1) = nI s := by rw [g4 _ (by omega), show 50 + (3 * k + 1) = 51 + 3 * k by omega]; exact e51
    have x2 : σ2.2.2 5 (3 * k + 2) = τ.2.2 1 (52 + 3 * k) := by rw [c3, g4 _ (by omega), show 50 + (3 * k + 2) = 52 + 3 * k by omega]
    have e51' : τ1.2.2 1 (51 + 3 * k) = nI s := by rw [m1]; exact e51
    rw [eC, eM]
    unfold f_X10_mayHaveBeenPutIn_b2 f_X11_isAllSo_b4
    rw [e110, r1, if_neg hle, if_neg hle, q0, q1, q2, ck_nI (show 3 * k < 18 by omega) (by omega), ck_nI (show 3 * k + 1 < 18 by omega) (by omega), ck_nI (show 3 * k + 2 < 18 by omega) (by omega), nI_clamp (show 3 * k < 2 ^ 31 by omega), nI_clamp (show 3 * k + 1 < 2 ^ 31 by omega), nI_clamp (show 3 * k + 2 < 2 ^ 31 by omega), x0, x1, cT, cT, c1, bs, cT, c4, x2, if_neg (show ¬ (1 : Int32) = 0 by decide), w0, w1, w2, ck_nI (show 50 + 3 * k < 84 by omega) (by omega), ck_nI (show 51 + 3 * k < 84 by omega) (by omega), ck_nI (show 52 + 3 * k < 84 by omega) (by omega), nI_clamp (show 50 + 3 * k < 2 ^ 31 by omega), nI_clamp (show 51 + 3 * k < 2 ^ 31 by omega), nI_clamp (show 52 + 3 * k < 2 ^ 31 by omega), cT, el, bs, cT]
    dsimp only
    rw [e51', t1, bs, if_neg (show ¬ (1 : Int32) = 0 by decide), cT, t4, m2, m1]
    by_cases g : nI (vL (rd (τ.2.2 1) s m 7 (l, 0)).1) = τ.2.2 1 (52 + 3 * k)
    · rw [if_pos g, if_pos g]
      unfold f_X11_isAllSo_b77
      rw [nI_1]
      obtain ⟨r, σ', τ', z1, z2, z3, z4⟩ := ih (k + 1) fu σ2 τ2 n nn rn un se l hR2 hI2 hg hl (by omega) (by omega)
      exact ⟨r, σ', τ', z1, z2, z3, z4.trans m2⟩
    · rw [if_neg g, if_neg g]
      unfold f_X11_isAllSo_b76 f_X11_isAllSo_b77
      refine ⟨0, σ2, τ2, rfl, ?_, hR2, m2⟩
      obtain ⟨fu, rfl⟩ : ∃ m, fu = m + 1 := ⟨fu - 1, by omega⟩
      show f_X11_isAllSo_b4 _ τ2 (nI (vL l)) 0 _ = _
      unfold f_X11_isAllSo_b4
      by_cases gg : τ2.2.2 1 4 ≤ nI k + 1
      · rw [if_pos gg]; rfl
      · rw [if_neg gg, if_pos rfl]; rfl
theorem op_first : Op1 RelP f_X10_first f_X11_first := by
  intro σ τ hR a
  unfold f_X10_first f_X11_first
  by_cases hC : ¬ Rg 0 1 a
  · exact ⟨-2, _, _, by rw [wi_n (a := 0) (b := 1) (lo := 0) (hi := 1) hC (by omega) (by omega) rfl rfl, b0]; rfl, by rw [in_n (a := 0) (b := 1) (lo := 0) (hi := 1) hC (by omega) (by omega) rfl rfl, b0]; rfl, hR.bad⟩
  have hC := Classical.not_not.mp hC
  rw [wi_y (a := 0) (b := 1) (lo := 0) (hi := 1) hC (by omega) (by omega) rfl rfl, in_y (a := 0) (b := 1) (lo := 0) (hi := 1) hC (by omega) (by omega) rfl rfl, b1, b1]
  obtain ⟨n, nn, rn, un, se, hI⟩ := hR.n
  have r2 : rn ≤ 6 := hI.2.2.2.1.2
  have key : ∀ (d x i fu gu : Nat) (σ τ : St) (c b : Int32), x + d = 445 → chk d x i = true → i + gu ≥ 86 → d < fu → RelP σ τ → Inv (τ.2.2 1) n nn rn un se → ∃ v σ' τ', f_X10_first_L21 gu σ a c b (nI i) = some (v, σ') ∧ f_X11_first_L24 fu τ a c b (nI x) = some (v, τ') ∧ RelP σ' τ' := by
    intro d
    induction d with
    | zero =>
      intro x i fu gu σ τ c b hx hc hgu hfu hR hI
      have hx : x = 445 := by omega
      have hi : i = 85 := by simpa [chk] using hc
      subst hx hi
      obtain ⟨fu, rfl⟩ : ∃ m, fu = m + 1 := ⟨fu - 1, by omega⟩
      obtain ⟨gu, rfl⟩ : ∃ m, gu = m + 1 := ⟨gu - 1, by omega⟩
      refine ⟨if a = 0 then c else b, σ, τ, ?_, ?_, hR⟩
      · show f_X10_first_b21 _ σ a c b (nI 85) = _
        unfold f_X10_first_b21
        rw [if_pos (by decide)]
        split <;> rfl
      · show f_X11_first_b24 _ τ a c b (nI 445) = _
        unfold f_X11_first_b24
        rw [if_pos (by decide)]
        split <;> rfl
    | succ d ih =>
      intro x i fu gu σ τ c b hx hc hgu hfu hR hI
      obtain ⟨fu, rfl⟩ : ∃ m, fu = m + 1 := ⟨fu - 1, by omega⟩
      have eM : f_X11_first_L24 (fu + 1) τ a c b (nI x) = f_X11_first_b24 (f_X11_first_L24 fu) τ a c b (nI x) := rfl
      have hx4 : ¬ (444 : Int32) < nI x := fun z => absurd ((nlt (a := 444) (by omega) (by omega)).mp z) (by omega)
      by_cases g : okL 6 x = true
      · obtain ⟨s1, s2, s3⟩ := chk_y hc g
        obtain ⟨gu, rfl⟩ : ∃ m, gu = m + 1 := ⟨gu - 1, by omega⟩
        have eC : f_X10_first_L21 (gu + 1) σ a c b (nI i) = f_X10_first_b21 (f_X10_first_L21 gu) σ a c b (nI i) := rfl
        obtain ⟨l, hl, hg, hxl⟩ := Lt.list (m := x) ⟨by omega, g⟩
        obtain ⟨r, σ1, τ1, z1, z2, hR1, m1⟩ := may_both rn 0 FU σ τ n nn rn un se l hR hI hg hl (by omega) (by unfold FU; omega)
        rw [← hxl] at z1 z2
        have z1 : f_X10_mayHaveBeenPutIn σ (nI x) = some (r, σ1) := z1
        have z2 : f_X11_isAllSo τ (nI x) = some (r, τ1) := z2
        have hI1 : Inv (τ1.2.2 1) n nn rn un se := by rw [m1]; exact hI
        rw [eC, eM]
        unfold f_X10_first_b21 f_X11_first_b24 f_X10_first_b54 f_X11_first_b59 f_X10_first_b58 f_X11_first_b63
        rw [if_neg (show ¬ (85 : Int32) ≤ nI i from nI_ge (b := 85) s2 (by omega)), if_neg hx4, s1, bs, z1, bs, isLM x (by omega), if_pos g, b1, z2, bs]
        dsimp only
        rw [nI_1, nI_1]
        by_cases hr : r = 0
        · rw [if_pos hr, if_pos hr]
          exact ih (x + 1) (i + 1) fu gu σ1 τ1 c b (by omega) s3 (by omega) (by omega) hR1 hI1
        · rw [if_neg hr, if_neg hr]
          by_cases h0 : c = 0
          · rw [if_pos h0, if_pos h0]
            exact ih (x + 1) (i + 1) fu gu σ1 τ1 _ _ (by omega) s3 (by omega) (by omega) hR1 hI1
          · rw [if_neg h0, if_neg h0]
            exact ih (x + 1) (i + 1) fu gu σ1 τ1 _ _ (by omega) s3 (by omega) (by omega) hR1 hI1
      · have g : okL 6 x = false := by simpa using g
        have s3 := chk_n hc g
        rw [eM]
        unfold f_X11_first_b24 f_X11_first_b63
        rw [if_neg hx4, isLM x (by omega), if_neg (by rw [g]; decide), b0, nI_1]
        exact ih (x + 1) i fu gu σ τ c b (by omega) s3 (by omega) (by omega) hR hI
  obtain ⟨v, σ', τ', z⟩ := key 445 0 0 FU FU σ τ 0 (-1) (by omega) chk_0 (by unfold FU; omega) (by unfold FU; omega) hR hI
  exact ⟨v, σ', τ', z⟩
