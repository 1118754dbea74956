/-! both find the same soonest row; soonest, whole, put -/
def bestR (M : Nat → Int32) (n se a g : Nat) (l : List Nat) (W : Bool) : Option (List Nat) := if bt (M 1) a = true then none else bestB M se g l W none (pre M (stn n (M 1)) 7 [a])
theorem bestR_P {M : Nat → Int32} {n se a g : Nat} {l : List Nat} {W : Bool} (hn : n ≤ 7) (ha : a < n) : ∀ r, bestR M n se a g l W = some r → r.Nodup ∧ (∀ t ∈ r, t < n) ∧ r ≠ [] := by
  intro r h
  unfold bestR at h
  by_cases hf : bt (M 1) a = true
  · rw [if_pos hf] at h; cases h
  · rw [if_neg hf] at h
    have sa : bt (stn n (M 1)) a = true := by
      have : bt (M 1) a = false := by simpa using hf
      rw [stn_b hn, this, decide_eq_true ha]; rfl
    have hs : ∀ c, bt (stn n (M 1)) c = true → c < n := fun c hb => by
      rw [stn_b hn] at hb
      simp only [Bool.and_eq_true, decide_eq_true_eq] at hb
      exact hb.1
    exact best_P M se g l W (P := fun r => r.Nodup ∧ (∀ t ∈ r, t < n) ∧ r ≠ []) _ none (fun r hr _ => by
      have h := pre_row 7 [a] r (.one sa) hr
      exact ⟨h.nd, fun t ht => hs t (h.sd t ht), h.ne⟩) (fun r h => by cases h) r h
theorem seek_C {σ : St} {M : Nat → Int32} {n se : Nat} (hWk : Wk σ M n (stn n (M 1))) (hKs : Ks σ M n) (s108 : σ.1 108 = nI se) (hse : se ≤ 999) (e107 : σ.1 107 = M 1) {a g : Nat} (ha : a < n) (hg : g < n) {l : List Nat} (hlg : Lg l) (hll : l.length ≤ 6) (W : Bool) : ∃ σ' : St, f_X7_seek σ (nI a) (nI g) (nI (vL l)) (if W = true then nI (vL l) else -1) = some (if bestR M n se a g l W = none then 0 else 1, σ') ∧ EC M se l σ' (bestR M n se a g l W) ∧ SC σ σ' := by
  have hn := hWk.2.1
  have hs := hWk.2.2.2.2.2
  have hWk1 : Wk (sI (sI (sI (sI (sI σ 3806 0) 3807 1000000) 3808 (nI (vL l))) 3804 (nI g)) 3805 (if W = true then nI (vL l) else -1)) M n (stn n (M 1)) := hWk
  have hKs1 : Ks (sI (sI (sI (sI (sI σ 3806 0) 3807 1000000) 3808 (nI (vL l))) 3804 (nI g)) 3805 (if W = true then nI (vL l) else -1)) M n := hKs
  have hE1 : EC M se l (sI (sI (sI (sI (sI σ 3806 0) 3807 1000000) 3808 (nI (vL l))) 3804 (nI g)) 3805 (if W = true then nI (vL l) else -1)) none := ⟨rfl, rfl⟩
  have h81 : (sI (sI (sI (sI (sI σ 3806 0) 3807 1000000) 3808 (nI (vL l))) 3804 (nI g)) 3805 (if W = true then nI (vL l) else -1)).1 108 = nI se := s108
  have h41 : (sI (sI (sI (sI (sI σ 3806 0) 3807 1000000) 3808 (nI (vL l))) 3804 (nI g)) 3805 (if W = true then nI (vL l) else -1)).1 3804 = nI g := rfl
  have h51 : (sI (sI (sI (sI (sI σ 3806 0) 3807 1000000) 3808 (nI (vL l))) 3804 (nI g)) 3805 (if W = true then nI (vL l) else -1)).1 3805 = if W = true then nI (vL l) else -1 := rfl
  have hc1 : SC σ (sI (sI (sI (sI (sI σ 3806 0) 3807 1000000) 3808 (nI (vL l))) 3804 (nI g)) 3805 (if W = true then nI (vL l) else -1)) := ((((SC.i σ 3806 _ (by decide)).tr (SC.i _ 3807 _ (by decide))).tr (SC.i _ 3808 _ (by decide))).tr (SC.i _ 3804 _ (by decide))).tr (SC.i _ 3805 _ (by decide))
  have hP := bestR_P (M := M) (n := n) (se := se) (a := a) (g := g) (l := l) (W := W) hn ha
  unfold f_X7_seek
  rw [e107]
  generalize sI (sI (sI (sI (sI σ 3806 0) 3807 1000000) 3808 (nI (vL l))) 3804 (nI g)) 3805 (if W = true then nI (vL l) else -1) = σ1 at *
  have hWk2 := hWk1
  obtain ⟨w1, w2, w3, w4, -, -⟩ := hWk2
  obtain ⟨bb, j1, j2⟩ := joins_C w1 w2 w3 w4 ha hg (M 1)
  rw [j1, bs]
  dsimp only
  cases bb with
  | false =>
    have hno : ¬ Way M (stn n (M 1)) a g := fun h => by have := j2.mpr h; cases this
    have hb : bestR M n se a g l W = none := by
      unfold bestR
      by_cases hf : bt (M 1) a = true
      · rw [if_pos hf]
      · rw [if_neg hf]
        have sa : bt (stn n (M 1)) a = true := by
          have : bt (M 1) a = false := by simpa using hf
          rw [stn_b hn, this, decide_eq_true ha]; rfl
        exact best_id _ _ _ _ _ _ _ (fun r hr hE _ => hno ⟨r, pre_row 7 [a] r (.one sa) hr, of_decide_eq_true hE⟩)
    rw [hb, if_neg (show ¬ false = true by decide), if_pos rfl]
    refine ⟨σ1, ?_, hE1, hc1⟩
    unfold f_X7_seek_b54
    rw [hE1.1, if_pos (by decide), if_pos rfl]
  | true =>
    obtain ⟨r0, hr0, -⟩ := j2.mp rfl
    have sa : bt (stn n (M 1)) a = true := IsRow.el (P := fun _ => bt (stn n (M 1)) a = true) (fun h => h) (fun _ _ _ _ h => h) r0 hr0
    have hf : ¬ bt (M 1) a = true := fun h => by
      rw [stn_b hn, h] at sa
      simp at sa
    obtain ⟨σ2, z1, z2, z3⟩ := enter_C (g := g) (W := W) hWk1 hKs1 h81 hse hg h41 h51 hlg hll 7 a [] ((1 : Int32) <<< (nI a &&& 31)) none σ1 (by simp) (rok_1 (by omega)) ha (fun c => by rw [bt_shl1 (by omega)]; simp) (SX.rf σ1) (fun b' h => by cases h) hE1
    have z1 : f_X7_enter 8 σ1 (nI a) ((1 : Int32) <<< (nI a &&& 31)) 0 0 (nI (vL l)) = some σ2 := z1
    have be : bestR M n se a g l W = bestB M se g l W none (pre M (stn n (M 1)) 7 [a]) := by unfold bestR; rw [if_neg hf]
    rw [← be] at z2
    rw [if_pos rfl, if_neg (show ¬ (1 : Int32) = 0 by decide), z1, bs]
    refine ⟨σ2, ?_, z2, hc1.tr (SC.of z3.1 z3.2)⟩
    generalize bestR M n se a g l W = b at z2 hP
    unfold f_X7_seek_b54
    cases b with
    | none => rw [z2.1, if_pos (by decide), if_pos rfl]
    | some r =>
      obtain ⟨h1, h2, h3⟩ := hP r rfl
      have hrw := numL_rw hn h1 h2 h3
      have := RwN.le hn hrw
      rw [z2.1, if_neg (nI_nle hrw.1 (by omega)), if_neg (by simp)]
theorem seek_both {σ τ : St} (hR : RelP σ τ) {n nn rn un se : Nat} (hI : Inv (τ.2.2 1) n nn rn un se) {a g : Nat} (ha : a < n) (hg : g < n) {l : List Nat} (hlg : Lg l) (hll : l.length ≤ 6) (W : Bool) : ∃ (b : Option (List Nat)) (σ' τ' : St), f_X7_seek σ (nI a) (nI g) (nI (vL l)) (if W = true then nI (vL l) else -1) = some (if b = none then 0 else 1, σ') ∧ f_X11_laySoonest τ (nI a) (nI g) (nI (vL l)) (if W = true then 1 else 0) = some τ' ∧ EC (τ.2.2 1) se l σ' b ∧ EM (τ.2.2 1) se l τ' b ∧ RelP σ' τ' ∧ τ'.2.2 1 = τ.2.2 1 ∧ (∀ r, b = some r → r.Nodup ∧ (∀ t ∈ r, t < n) ∧ r ≠ []) := by
  obtain ⟨τ', m1, m2, m3, m4⟩ := soon_M hI ha hg hlg hll W
  obtain ⟨σ', c1, c2, c3⟩ := seek_C (hR.wk hI) (hR.ks hI) (hR.2.1.2.2.1.trans hI.2.1.1) hI.2.1.2 hR.2.1.2.1 ha hg hlg hll W
  exact ⟨bestR (τ.2.2 1) n se a g l W, σ', τ', c1, m1, c2, m2, hR.same c3 m3, m4, bestR_P hI.1.2 ha⟩
theorem op_soonest : Op4 RelP f_X10_soonest f_X11_soonest := by
  intro σ τ hR a b c d
  obtain ⟨n, nn, rn, un, se, hI⟩ := hR.n
  have a1 : τ.2.2 1 0 = nI n := hI.1.1
  have a2 : n ≤ 7 := hI.1.2
  have e106 : σ.1 106 = nI n := hR.2.1.1.trans a1
  have bad : (f_X10_soonest_b33 σ = some (-2, sI σ 13 (σ.1 13 + 1))) ∧ f_X11_soonest_b36 τ = some (-2, sE τ 4 0 (τ.2.2 4 0 + 1)) := ⟨rfl, rfl⟩
  unfold f_X10_soonest f_X11_soonest
  by_cases hA : ¬ Tr n a
  · exact ⟨-2, _, _, by rw [isT_n e106 a2 hA, p0]; exact bad.1, by rw [isM_n a1 a2 hA, p0]; exact bad.2, hR.bad⟩
  have hA := Classical.not_not.mp hA
  rw [isT_y e106 a2 hA, isM_y a1 a2 hA, p1, p1]
  dsimp only
  by_cases hB : ¬ Tr n b
  · exact ⟨-2, _, _, by rw [isT_n e106 a2 hB, p0]; exact bad.1, by rw [isM_n a1 a2 hB, p0]; exact bad.2, hR.bad⟩
  have hB := Classical.not_not.mp hB
  rw [isT_y e106 a2 hB, isM_y a1 a2 hB, p1, p1]
  dsimp only
  obtain ⟨v, v1, v2, ⟨rfl, hb⟩ | ⟨rfl, hb⟩⟩ := isL c
  case inr => exact ⟨-2, _, _, by rw [v1, b0]; exact bad.1, by rw [v2, b0]; exact bad.2, hR.bad⟩
  rw [v1, v2, b1, b1]
  by_cases hC : ¬ Rg 0 2 d
  · exact ⟨-2, _, _, by rw [wi_n (a := 0) (b := 2) (lo := 0) (hi := 2) hC (by omega) (by omega) rfl rfl, b0]; exact bad.1, by rw [in_n (a := 0) (b := 2) (lo := 0) (hi := 2) hC (by omega) (by omega) rfl rfl, b0]; exact bad.2, hR.bad⟩
  have hC := Classical.not_not.mp hC
  rw [wi_y (a := 0) (b := 2) (lo := 0) (hi := 2) hC (by omega) (by omega) rfl rfl, in_y (a := 0) (b := 2) (lo := 0) (hi := 2) hC (by omega) (by omega) rfl rfl, b1, b1]
  obtain ⟨ml, rfl, hml⟩ := hb
  obtain ⟨l, hl, hg, rfl⟩ := hml.list
  obtain ⟨a, ha, rfl⟩ := hA
  obtain ⟨g, hgn, rfl⟩ := hB
  obtain ⟨b, σ', τ', z1, z2, z3, z4, z5, -, -⟩ := seek_both hR hI ha hgn hg hl false
  have z1 : f_X7_seek σ (nI a) (nI g) (nI (vL l)) (-1) = _ := z1
  have z2 : f_X11_laySoonest τ (nI a) (nI g) (nI (vL l)) 0 = _ := z2
  rw [z1, z2, bs, bs]
  dsimp only
  cases b with
  | none =>
    rw [if_pos rfl, if_pos rfl, z4.1, z4.2.1, z4.2.2]
    refine ⟨-1, σ', τ', rfl, ?_, z5⟩
    split
    · rfl
    · split <;> rfl
  | some r =>
    rw [if_neg (show ¬ (some r : Option (List Nat)) = none by simp), if_neg (show ¬ (1 : Int32) = 0 by decide), z4.1, z4.2.1, z4.2.2, z3.1, z3.2.1, z3.2.2]
    by_cases h0 : d = 0
    · rw [if_pos h0, if_pos h0]; exact ⟨_, σ', τ', rfl, rfl, z5⟩
    · rw [if_neg h0, if_neg h0]
      by_cases h1 : d = 1
      · rw [if_pos h1, if_pos h1]; exact ⟨_, σ', τ', rfl, rfl, z5⟩
      · rw [if_neg h1, if_neg h1]; exact ⟨_, σ', τ', rfl, rfl, z5⟩
theorem op_whole : Op4 RelP f_X10_whole f_X11_whole := by
  intro σ τ hR a b c d
  obtain ⟨n, nn, rn, un, se, hI⟩ := hR.n
  have a1 : τ.2.2 1 0 = nI n := hI.1.1
  have a2 : n ≤ 7 := hI.1.2
  have e106 : σ.1 106 = nI n := hR.2.1.1.trans a1
  have bad : (f_X10_whole_b33 σ = some (-2, sI σ 13 (σ.1 13 + 1))) ∧ f_X11_whole_b34 τ = some (-2, sE τ 4 0 (τ.2.2 4 0 + 1)) := ⟨rfl, rfl⟩
  unfold f_X10_whole f_X11_whole
  by_cases hA : ¬ Tr n a
  · exact ⟨-2, _, _, by rw [isT_n e106 a2 hA, p0]; exact bad.1, by rw [isM_n a1 a2 hA, p0]; exact bad.2, hR.bad⟩
  have hA := Classical.not_not.mp hA
  rw [isT_y e106 a2 hA, isM_y a1 a2 hA, p1, p1]
  dsimp only
  by_cases hB : ¬ Tr n b
  · exact ⟨-2, _, _, by rw [isT_n e106 a2 hB, p0]; exact bad.1, by rw [isM_n a1 a2 hB, p0]; exact bad.2, hR.bad⟩
  have hB := Classical.not_not.mp hB
  rw [isT_y e106 a2 hB, isM_y a1 a2 hB, p1, p1]
  dsimp only
  obtain ⟨v, v1, v2, ⟨rfl, hb⟩ | ⟨rfl, hb⟩⟩ := isL c
  case inr => exact ⟨-2, _, _, by rw [v1, b0]; exact bad.1, by rw [v2, b0]; exact bad.2, hR.bad⟩
  rw [v1, v2, b1, b1]
  by_cases hC : ¬ Rg 0 1 d
  · exact ⟨-2, _, _, by rw [wi_n (a := 0) (b := 1) (lo := 0) (hi := 1) hC (by omega) (by omega) rfl rfl, b0]; exact bad.1, by rw [in_n (a := 0) (b := 1) (lo := 0) (hi := 1) hC (by omega) (by omega) rfl rfl, b0]; exact bad.2, hR.bad⟩
  have hC := Classical.not_not.mp hC
  rw [wi_y (a := 0) (b := 1) (lo := 0) (hi := 1) hC (by omega) (by omega) rfl rfl, in_y (a := 0) (b := 1) (lo := 0) (hi := 1) hC (by omega) (by omega) rfl rfl, b1, b1]
  obtain ⟨ml, rfl, hml⟩ := hb
  obtain ⟨l, hl, hg, rfl⟩ := hml.list
  obtain ⟨a, ha, rfl⟩ := hA
  obtain ⟨g, hgn, rfl⟩ := hB
  obtain ⟨b, σ', τ', z1, z2, z3, z4, z5, -, -⟩ := seek_both hR hI ha hgn hg hl true
  have z1 : f_X7_seek σ (nI a) (nI g) (nI (vL l)) (nI (vL l)) = _ := z1
  have z2 : f_X11_laySoonest τ (nI a) (nI g) (nI (vL l)) 1 = _ := z2
  rw [z1, z2, bs, bs]
  dsimp only
  cases b with
  | none =>
    rw [if_pos rfl, if_pos rfl, z4.1, z4.2.1]
    refine ⟨-1, σ', τ', rfl, ?_, z5⟩
    split <;> rfl
  | some r =>
    rw [if_neg (show ¬ (some r : Option (List Nat)) = none by simp), if_neg (show ¬ (1 : Int32) = 0 by decide), z4.1, z4.2.1, z3.1, z3.2.1]
    by_cases h0 : d = 0
    · rw [if_pos h0, if_pos h0]; exact ⟨_, σ', τ', rfl, rfl, z5⟩
    · rw [if_neg h0, if_neg h0]; exact ⟨_, σ', τ', rfl, rfl, z5⟩
theorem put_L {n nn rn un se m L : Nat} (x3 x4 : Int32) : ∀ (d x i fu gu : Nat) (σ τ : St) (c b : Int32), x + d = 445 → chk d x i = true → i + gu ≥ 86 → d < fu → RelP σ τ → Inv (τ.2.2 1) n nn rn un se → Laid τ n m L → ∃ v σ' τ', f_X10_put_L72 gu σ x3 x4 (nI m) c b (nI i) = some (v, σ') ∧ f_X11_put_L83 fu τ x3 x4 c b (nI x) = some (v, τ') ∧ RelP σ' τ' := by
  intro d
  induction d with
  | zero =>
    intro x i fu gu σ τ c b hx hc hgu hfu hR hI hL
    have hx : x = 445 := by omega
    have hi : i = 85 := by simpa [chk] using hc
    subst hx hi
    obtain ⟨fu, rfl⟩ : ∃ m, fu = m + 1 := ⟨fu - 1, by omega⟩
    obtain ⟨gu, rfl⟩ : ∃ m, gu = m + 1 := ⟨gu - 1, by omega⟩
    refine ⟨if x4 = 0 then c else b, σ, τ, ?_, ?_, hR⟩
    · show f_X10_put_b72 _ σ x3 x4 (nI m) c b (nI 85) = _
      unfold f_X10_put_b72
      rw [if_pos (by decide)]
      split <;> rfl
    · show f_X11_put_b83 _ τ x3 x4 c b (nI 445) = _
      unfold f_X11_put_b83
      rw [if_pos (by decide)]
      split <;> rfl
  | succ d ih =>
    intro x i fu gu σ τ c b hx hc hgu hfu hR hI hL
    obtain ⟨fu, rfl⟩ : ∃ m, fu = m + 1 := ⟨fu - 1, by omega⟩
    have eM : f_X11_put_L83 (fu + 1) τ x3 x4 c b (nI x) = f_X11_put_b83 (f_X11_put_L83 fu) τ x3 x4 c b (nI x) := rfl
    have hx4 : ¬ (444 : Int32) < nI x := fun z => absurd ((nlt (a := 444) (by omega) (by omega)).mp z) (by omega)
    by_cases g : okL 6 x = true
    · obtain ⟨s1, s2, s3⟩ := chk_y hc g
      obtain ⟨gu, rfl⟩ : ∃ m, gu = m + 1 := ⟨gu - 1, by omega⟩
      have eC : f_X10_put_L72 (gu + 1) σ x3 x4 (nI m) c b (nI i) = f_X10_put_b72 (f_X10_put_L72 gu) σ x3 x4 (nI m) c b (nI i) := rfl
      obtain ⟨l, hl, hg, hxl⟩ := Lt.list (m := x) ⟨by omega, g⟩
      obtain ⟨τ2, t1, t2, t3, t4, -⟩ := readBy_M hI hL hI.2.1.2 hg hl
      obtain ⟨σ2, c1, c2, c3, c4, -, -⟩ := follow_C (hR.ks hI) hL.1 hI.2.1.2 hg hl
      rw [← hxl] at t1 c1
      have hR2 : RelP σ2 τ2 := hR.same (SC.of c2 c3) (SM.of t2 t3)
      have hI2 : Inv (τ2.2.2 1) n nn rn un se := by rw [t3]; exact hI
      have hL2 : Laid τ2 n m L := hL.of t2 t3
      have s108 : σ.1 108 = nI se := hR.2.1.2.2.1.trans hI.2.1.1
      rw [eC, eM]
      unfold f_X10_put_b72 f_X11_put_b83 f_X10_put_b127 f_X10_put_b132 f_X11_put_b129 f_X11_put_b131 f_X11_put_b148 f_X11_put_b151
      rw [if_neg (show ¬ (85 : Int32) ≤ nI i from nI_ge (b := 85) s2 (by omega)), if_neg hx4, s1, bs, s108, c1, bs, isLM x (by omega), if_pos g, b1, hI.2.1.1, t1, bs, c4, t4, nI_1, nI_1]
      by_cases w : nI (vL (rd (τ.2.2 1) se m 7 (l, 0)).1) = x3
      · rw [if_pos w, if_pos w]
        by_cases h0 : c = 0
        · rw [if_pos h0, if_pos h0, if_pos w]
          exact ih (x + 1) (i + 1) fu gu σ2 τ2 _ _ (by omega) s3 (by omega) (by omega) hR2 hI2 hL2
        · rw [if_neg h0, if_neg h0, if_pos w]
          exact ih (x + 1) (i + 1) fu gu σ2 τ2 _ _ (by omega) s3 (by omega) (by omega) hR2 hI2 hL2
      · rw [if_neg w, if_neg w, if_neg w, Int32.add_zero]
        exact ih (x + 1) (i + 1) fu gu σ2 τ2 _ _ (by omega) s3 (by omega) (by omega) hR2 hI2 hL2
    · have g : okL 6 x = false := by simpa using g
      have s3 := chk_n hc g
      rw [eM]
      unfold f_X11_put_b83 f_X11_put_b151
      rw [if_neg hx4, isLM x (by omega), if_neg (by rw [g]; decide), b0, nI_1]
      exact ih (x + 1) i fu gu σ τ c b (by omega) s3 (by omega) (by omega) hR hI hL
theorem op_put : Op4 RelP f_X10_put f_X11_put := by
  intro σ τ hR a b c d
  obtain ⟨n, nn, rn, un, se, hI⟩ := hR.n
  have a1 : τ.2.2 1 0 = nI n := hI.1.1
  have a2 : n ≤ 7 := hI.1.2
  have e106 : σ.1 106 = nI n := hR.2.1.1.trans a1
  have bad : (f_X10_put_b33 σ = some (-2, sI σ 13 (σ.1 13 + 1))) ∧ f_X11_put_b34 τ = some (-2, sE τ 4 0 (τ.2.2 4 0 + 1)) := ⟨rfl, rfl⟩
  unfold f_X10_put f_X11_put
  by_cases hA : ¬ Tr n a
  · exact ⟨-2, _, _, by rw [isT_n e106 a2 hA, p0]; exact bad.1, by rw [isM_n a1 a2 hA, p0]; exact bad.2, hR.bad⟩
  have hA := Classical.not_not.mp hA
  rw [isT_y e106 a2 hA, isM_y a1 a2 hA, p1, p1]
  dsimp only
  by_cases hB : ¬ Tr n b
  · exact ⟨-2, _, _, by rw [isT_n e106 a2 hB, p0]; exact bad.1, by rw [isM_n a1 a2 hB, p0]; exact bad.2, hR.bad⟩
  have hB := Classical.not_not.mp hB
  rw [isT_y e106 a2 hB, isM_y a1 a2 hB, p1, p1]
  dsimp only
  obtain ⟨v, v1, v2, ⟨rfl, hb⟩ | ⟨rfl, hb⟩⟩ := isL c
  case inr => exact ⟨-2, _, _, by rw [v1, b0]; exact bad.1, by rw [v2, b0]; exact bad.2, hR.bad⟩
  rw [v1, v2, b1, b1]
  by_cases hC : ¬ Rg 0 1 d
  · exact ⟨-2, _, _, by rw [wi_n (a := 0) (b := 1) (lo := 0) (hi := 1) hC (by omega) (by omega) rfl rfl, b0]; exact bad.1, by rw [in_n (a := 0) (b := 1) (lo := 0) (hi := 1) hC (by omega) (by omega) rfl rfl, b0]; exact bad.2, hR.bad⟩
  have hC := Classical.not_not.mp hC
  rw [wi_y (a := 0) (b := 1) (lo := 0) (hi := 1) hC (by omega) (by omega) rfl rfl, in_y (a := 0) (b := 1) (lo := 0) (hi := 1) hC (by omega) (by omega) rfl rfl, b1, b1]
  obtain ⟨a, ha, rfl⟩ := hA
  obtain ⟨g, hgn, rfl⟩ := hB
  obtain ⟨b, σ', τ', z1, z2, z3, z4, z5, z6, z7⟩ := seek_both hR hI ha hgn (l := []) (fun c hc => by cases hc) (by simp) false
  have z1 : f_X7_seek σ (nI a) (nI g) 0 (-1) = _ := z1
  have z2 : f_X11_laySoonest τ (nI a) (nI g) 0 0 = _ := z2
  have hI' : Inv (τ'.2.2 1) n nn rn un se := by rw [z6]; exact hI
  rw [z1, z2, bs, bs]
  dsimp only
  unfold f_X11_put_b66
  cases b with
  | none =>
    rw [if_pos rfl, if_pos rfl, z4.1, if_pos rfl]
    rcases row_v hI'.1.1 a2 0 with ⟨m, τ1, L, hx, hrw, -⟩ | ⟨-, τ1, e, hS⟩
    · have := (neq (a := 0) (by omega) (by have := RwN.le a2 hrw; omega)).mp hx
      have := hrw.1
      omega
    · rw [e, bs]
      exact ⟨-1, σ', τ1, rfl, rfl, z5.same (SC.rf σ') hS⟩
  | some r =>
    obtain ⟨h1, h2, h3⟩ := z7 r rfl
    have hrw := numL_rw a2 h1 h2 h3
    have hle := RwN.le a2 hrw
    have hm1 : ¬ nI (numL r) = -1 := fun z => by
      have : (nI (numL r)).toInt = -1 := by rw [z]; rfl
      rw [nI_toInt (by omega)] at this
      omega
    rw [if_neg (show ¬ (some r : Option (List Nat)) = none by simp), if_neg (show ¬ (1 : Int32) = 0 by decide), z4.1, if_neg hm1, z3.1]
    rcases row_v hI'.1.1 a2 (nI (numL r)) with ⟨m, τ1, L, hx, hrw', e, hS, hL⟩ | ⟨hN, -⟩
    · have hm : numL r = m := (neq (by omega) (by have := RwN.le a2 hrw'; omega)).mp hx
      subst hm
      rw [e, bs]
      dsimp only
      rw [if_neg (show ¬ (1 : Int32) = 0 by decide)]
      have hR1 := z5.same (SC.rf σ') hS
      have hI1 : Inv (τ1.2.2 1) n nn rn un se := by rw [hS.2.1 1 (by decide)]; exact hI'
      obtain ⟨v, σ2, τ2, y⟩ := put_L (m := numL r) (L := L) c d 445 0 0 FU FU σ' τ1 0 (-1) (by omega) chk_0 (by unfold FU; omega) (by unfold FU; omega) hR1 hI1 ⟨hrw', hL⟩
      exact ⟨v, σ2, τ2, y⟩
    · exact absurd ⟨numL r, rfl, hrw⟩ hN
