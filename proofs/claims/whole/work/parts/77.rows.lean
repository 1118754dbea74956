/-! a letter read by the trees of a row; does the row stand -/
theorem wiT_y {h t : Int32} {n : Nat} (h0 : h = nI n) (hn : n ≤ 7) (g : Tr n t) : f_X10_within t 0 (h - 1) = some 1 := by
  have h3 := (Tr.iff hn).mp g
  unfold f_X10_within
  rw [if_neg, if_neg]
  · rw [Int32.lt_iff_toInt_lt, h0, n1_toInt hn]; omega
  · rw [Int32.lt_iff_toInt_lt]; show ¬ t.toInt < 0; omega
theorem wiT_n {h t : Int32} {n : Nat} (h0 : h = nI n) (hn : n ≤ 7) (g : ¬ Tr n t) : f_X10_within t 0 (h - 1) = some 0 := by
  have h3 : ¬ _ := fun z => g ((Tr.iff hn).mpr z)
  unfold f_X10_within
  by_cases c1 : t < 0
  · rw [if_pos c1]
  · rw [if_neg c1, if_pos]
    rw [Int32.lt_iff_toInt_lt] at c1
    have c1 : ¬ t.toInt < 0 := c1
    rw [Int32.lt_iff_toInt_lt, h0, n1_toInt hn]
    omega
theorem okR_dg {n : Nat} : ∀ (k u m : Nat), okR n k u m = true → ∀ p, dg m p ≤ n ∧ (m / 10 ^ p ≠ 0 → 1 ≤ dg m p) := by
  intro k
  induction k with
  | zero =>
    intro u m h p
    have h0 : m = 0 := by simpa [okR] using h
    subst h0
    unfold dg
    rw [Nat.zero_div]
    exact ⟨by omega, fun z => absurd rfl z⟩
  | succ k ih =>
    intro u m h p
    rw [okR_s] at h
    by_cases h0 : m = 0
    · subst h0
      unfold dg
      rw [Nat.zero_div]
      exact ⟨by omega, fun z => absurd rfl z⟩
    · rw [if_neg h0] at h
      by_cases g : (1 ≤ m % 10 ∧ m % 10 ≤ n) ∧ u.testBit (m % 10) = false
      · rw [if_pos g] at h
        cases p with
        | zero => rw [dg_0]; exact ⟨g.1.2, fun _ => g.1.1⟩
        | succ p =>
          rw [dg_s, Nat.pow_succ, Nat.mul_comm, ← Nat.div_div_eq_div_mul]
          exact ih _ _ h p
      · rw [if_neg g] at h; cases h
theorem dg_big {m L p : Nat} (h : m < 10 ^ L) (hp : L ≤ p) : dg m p = 0 := by
  unfold dg
  rw [Nat.div_eq_of_lt (Nat.lt_of_lt_of_le h (Nat.pow_le_pow_right (by omega) hp))]
theorem dg_in {n m L p : Nat} (hR : RwN n m) (h : 10 ^ (L - 1) ≤ m) (hp : p < L) : 1 ≤ dg m p ∧ dg m p ≤ n := by
  obtain ⟨h1, h2⟩ := okR_dg 7 0 m hR.2 p
  refine ⟨h2 ?_, h1⟩
  have : 10 ^ p ≤ m := Nat.le_trans (Nat.pow_le_pow_right (by omega) (by omega)) h
  have : 0 < m / 10 ^ p := Nat.div_pos this (Nat.pow_pos (by omega))
  omega
def kdN (M : Nat → Int32) (t : Nat) : Nat := (M (6 + t)).toNatClampNeg
theorem kdN_ok {M : Nat → Int32} {n nn rn un se : Nat} (h : Inv M n nn rn un se) {t : Nat} (ht : t < n) : kdN M t < 6 ∧ M (6 + t) = nI (kdN M t) := by
  obtain ⟨k, hk, e⟩ := h.2.2.2.2.2.1 t ht
  unfold kdN
  rw [e, nI_clamp (by omega)]
  exact ⟨hk, rfl⟩
def rdStep (M : Nat → Int32) (s t : Nat) (q : List Nat × Nat) : List Nat × Nat := (cpL (kdN M t) (s + q.2) q.1, q.2 + tkN (kdN M t) (s + q.2))
def rd (M : Nat → Int32) (s m : Nat) : Nat → List Nat × Nat → List Nat × Nat
  | 0, q => q
  | p + 1, q => rd M s m p (if dg m p = 0 then q else rdStep M s (dg m p - 1) q)
theorem rd_skip {M : Nat → Int32} {s m L : Nat} (h : m < 10 ^ L) : ∀ (d : Nat) (q : List Nat × Nat), rd M s m (L + d) q = rd M s m L q := by
  intro d
  induction d with
  | zero => intro q; rfl
  | succ d ih =>
    intro q
    show rd M s m (L + d) (if dg m (L + d) = 0 then q else _) = _
    rw [if_pos (dg_big h (by omega))]
    exact ih q
theorem rd_good {M : Nat → Int32} {s m : Nat} : ∀ (p : Nat) (q : List Nat × Nat), Lg q.1 → q.1.length ≤ 6 → Lg (rd M s m p q).1 ∧ (rd M s m p q).1.length ≤ 6 ∧ (rd M s m p q).2 ≤ q.2 + 4 * p := by
  intro p
  induction p with
  | zero => intro q h1 h2; exact ⟨h1, h2, by show q.2 ≤ _; omega⟩
  | succ p ih =>
    intro q h1 h2
    show Lg (rd M s m p _).1 ∧ _
    by_cases h : dg m p = 0
    · rw [show rd M s m (p + 1) q = rd M s m p q from by show rd M s m p (if dg m p = 0 then q else _) = _; rw [if_pos h], if_pos h]
      obtain ⟨a, b, c⟩ := ih q h1 h2
      exact ⟨a, b, by omega⟩
    · rw [show rd M s m (p + 1) q = rd M s m p (rdStep M s (dg m p - 1) q) from by show rd M s m p (if dg m p = 0 then q else _) = _; rw [if_neg h], if_neg h]
      obtain ⟨a, b, c⟩ := ih (rdStep M s (dg m p - 1) q) (cpL_g h1) (cpL_l h2)
      refine ⟨a, b, ?_⟩
      have := (tkN_b (kdN M (dg m p - 1)) (s + q.2)).2
      have : (rdStep M s (dg m p - 1) q).2 ≤ q.2 + 4 := by show q.2 + tkN _ _ ≤ _; omega
      omega
theorem p10 {p : Nat} (h : p ≤ 6) : 10 ^ p < 2 ^ 31 := Nat.lt_of_le_of_lt (pow6 h) (by omega)
theorem q10 {m p : Nat} (hm : m < 2 ^ 31) (h : p ≤ 6) : nI m / nI (10 ^ p) = nI (m / 10 ^ p) := pk_div hm (Nat.pow_pos (by omega)) (p10 h)
theorem t10 {m p : Nat} (hm : m < 2 ^ 31) (h : p ≤ 6) : nI m / nI (10 ^ p) - nI m / nI (10 ^ p) / 10 * 10 = nI (dg m p) := by
  rw [q10 hm h, r10 (Nat.lt_of_le_of_lt (Nat.div_le_self ..) hm)]
  rfl
theorem s10 (p : Nat) (h : p + 1 ≤ 6) : nI (10 ^ (p + 1)) / 10 = nI (10 ^ p) := by
  rw [d10 (p10 h), Nat.pow_succ, Nat.mul_div_cancel _ (by omega)]
theorem noT {n : Nat} (hn : n ≤ 7) : ¬ Tr n (nI 0 - 1) := by
  rintro ⟨j, hj, e⟩
  have : (nI 0 - 1).toInt = -1 := by decide
  rw [e, nI_toInt (by omega)] at this
  omega
/-- what the class's follow needs of the forest -/
def Ks (σ : St) (M : Nat → Int32) (n : Nat) : Prop := σ.1 106 = nI n ∧ n ≤ 7 ∧ ∀ t, t < n → σ.2.2 2 t = nI (kdN M t) ∧ kdN M t < 6
theorem RelP.ks {σ τ : St} (hR : RelP σ τ) {n nn rn un se : Nat} (hI : Inv (τ.2.2 1) n nn rn un se) : Ks σ (τ.2.2 1) n := by
  refine ⟨hR.2.1.1.trans hI.1.1, hI.1.2, fun t ht => ?_⟩
  have := kdN_ok hI ht
  have g1 := hR.2.1.2.2.2.2.2.2.1
  rw [hI.c0.1] at g1
  exact ⟨(g1 t ht).trans this.2, this.1⟩
theorem foll_L {σ : St} {M : Nat → Int32} {n m s : Nat} (hK : Ks σ M n) (hR : RwN n m) (hs : s ≤ 999) : ∀ (p fu : Nat) (q : List Nat × Nat) (σ1 : St), p ≤ 7 → p < fu → Lg q.1 → q.1.length ≤ 6 → q.2 ≤ 4 * (7 - p) → (∀ k, k ≠ 3807 → k ≠ 3808 → σ1.1 k = σ.1 k) → σ1.2 = σ.2 → σ1.1 3808 = nI (vL q.1) → σ1.1 3807 = nI q.2 → ∃ σ', f_X7_follow_L19 fu σ1 (nI m) (nI s) (if p = 0 then 0 else nI (10 ^ (p - 1))) = some σ' ∧ (∀ k, k ≠ 3807 → k ≠ 3808 → σ'.1 k = σ.1 k) ∧ σ'.2 = σ.2 ∧ σ'.1 3808 = nI (vL (rd M s m p q).1) ∧ σ'.1 3807 = nI (rd M s m p q).2 := by
  obtain ⟨h106, hn, hk⟩ := hK
  have hm : m < 2 ^ 31 := by have := RwN.le hn hR; omega
  intro p
  induction p with
  | zero =>
    intro fu q σ1 hp hfu hg hl hT e1 e2 e3 e4
    obtain ⟨fu, rfl⟩ : ∃ m, fu = m + 1 := ⟨fu - 1, by omega⟩
    refine ⟨σ1, ?_, e1, e2, e3, e4⟩
    show f_X7_follow_b19 _ σ1 (nI m) (nI s) 0 = _
    unfold f_X7_follow_b19
    rw [if_pos (by decide)]
  | succ p ih =>
    intro fu q σ1 hp hfu hg hl hT e1 e2 e3 e4
    obtain ⟨fu, rfl⟩ : ∃ m, fu = m + 1 := ⟨fu - 1, by omega⟩
    have h6 : p ≤ 6 := by omega
    rw [if_neg (by omega), Nat.add_sub_cancel]
    have hpos : 0 < 10 ^ p := Nat.pow_pos (by omega)
    have nx : nI (10 ^ p) / 10 = if p = 0 then 0 else nI (10 ^ (p - 1)) := by
      by_cases h : p = 0
      · subst h; rw [if_pos rfl]; decide
      · obtain ⟨p', rfl⟩ : ∃ p', p = p' + 1 := ⟨p - 1, by omega⟩
        rw [if_neg h, s10 p' h6, Nat.add_sub_cancel]
    have h106' : σ1.1 106 = nI n := (e1 106 (by omega) (by omega)).trans h106
    have e : f_X7_follow_L19 (fu + 1) σ1 (nI m) (nI s) (nI (10 ^ p)) = f_X7_follow_b19 (f_X7_follow_L19 fu) σ1 (nI m) (nI s) (nI (10 ^ p)) := rfl
    rw [e]
    unfold f_X7_follow_b19 f_X7_follow_b109
    rw [if_neg (nI_nle hpos (p10 h6)), if_neg (nI_ne0 hpos (p10 h6)), t10 hm h6, nx]
    have rs : rd M s m (p + 1) q = rd M s m p (if dg m p = 0 then q else rdStep M s (dg m p - 1) q) := rfl
    by_cases h0 : dg m p = 0
    · rw [rs, h0, if_pos rfl, wiT_n h106' hn (noT hn), b0]
      exact ih fu q σ1 (by omega) (by omega) hg hl (by omega) e1 e2 e3 e4
    · obtain ⟨t, ht⟩ : ∃ t, dg m p = t + 1 := ⟨dg m p - 1, by omega⟩
      have htn : t < n := by have := (okR_dg 7 0 m hR.2 p).1; omega
      obtain ⟨k1, k2⟩ := hk t htn
      rw [rs, if_neg h0, ht, nI_pred, Nat.add_sub_cancel, wiT_y h106' hn ⟨t, htn, rfl⟩, b1, ck_nI (show t < 7 by omega) (by omega), cT, nI_clamp (show t < 2 ^ 31 by omega), e2, k1, ck_nI k2 (by omega), cT, nI_clamp (show kdN M t < 2 ^ 31 by omega), e3, e4, nI_add, cp_C k2 (by omega) hg hl, bs, tk_C k2 (by omega), bs, nI_add]
      refine ih fu (rdStep M s t q) _ (by omega) (by omega) (cpL_g hg) (cpL_l hl) ?_ ?_ e2 ?_ ?_
      · have := (tkN_b (kdN M t) (s + q.2)).2
        show q.2 + tkN _ _ ≤ _
        omega
      · intro k g1 g2
        rw [sI1, if_neg g1, sI1, if_neg g2]
        exact e1 k g1 g2
      · rfl
      · rfl
theorem follow_C {σ : St} {M : Nat → Int32} {n m s : Nat} (hK : Ks σ M n) (hR : RwN n m) (hs : s ≤ 999) {l : List Nat} (hg : Lg l) (hl : l.length ≤ 6) : ∃ σ', f_X7_follow σ (nI m) (nI (vL l)) (nI s) = some σ' ∧ (∀ k, k ≠ 3806 → k ≠ 3807 → k ≠ 3808 → σ'.1 k = σ.1 k) ∧ σ'.2 = σ.2 ∧ σ'.1 3808 = nI (vL (rd M s m 7 (l, 0)).1) ∧ σ'.1 3807 = nI (rd M s m 7 (l, 0)).2 ∧ σ'.1 3806 = nI m := by
  have hK' : Ks (sI (sI (sI σ 3806 (nI m)) 3807 0) 3808 (nI (vL l))) M n := hK
  obtain ⟨σ', a, b, c, d, e⟩ := foll_L hK' hR hs 7 FU (l, 0) (sI (sI (sI σ 3806 (nI m)) 3807 0) 3808 (nI (vL l))) (by omega) (by unfold FU; omega) hg hl (by omega) (fun k _ _ => rfl) rfl rfl rfl
  refine ⟨σ', a, fun k g1 g2 g3 => ?_, c, d, e, ?_⟩
  · rw [b k g2 g3, sI1, if_neg g3, sI1, if_neg g2, sI1, if_neg g1]
  · rw [b 3806 (by omega) (by omega)]
    rfl
theorem SC.of {σ σ' : St} (h : ∀ k, k ≠ 3806 → k ≠ 3807 → k ≠ 3808 → σ'.1 k = σ.1 k) (h2 : σ'.2 = σ.2) : SC σ σ' := ⟨fun k hk => h k (fun e => by subst e; exact absurd hk (by decide)) (fun e => by subst e; exact absurd hk (by decide)) (fun e => by subst e; exact absurd hk (by decide)), fun a _ => by rw [h2], by rw [h2]⟩
theorem SM.of {τ τ' : St} (h : ∀ k, k ≠ 8 → k ≠ 9 → τ'.1 k = τ.1 k) (h2 : τ'.2 = τ.2) : SM τ τ' := ⟨h 18 (by omega) (by omega), fun a _ => by rw [h2], by rw [h2]⟩
/-- a row as the reference has laid it -/
def Laid (τ : St) (n m L : Nat) : Prop := RwN n m ∧ 0 < L ∧ L ≤ 7 ∧ m < 10 ^ L ∧ 10 ^ (L - 1) ≤ m ∧ τ.1 7 = nI L ∧ ∀ j, j < L → τ.2.2 5 j = nI (dg m (L - 1 - j)) - 1
theorem readBy_M {τ : St} {n nn rn un se m L s : Nat} (hI : Inv (τ.2.2 1) n nn rn un se) (hL : Laid τ n m L) (hs : s ≤ 999) {l : List Nat} (hg : Lg l) (hl : l.length ≤ 6) : ∃ τ', f_X11_readBy τ (nI (vL l)) (nI s) = some τ' ∧ (∀ k, k ≠ 8 → k ≠ 9 → τ'.1 k = τ.1 k) ∧ τ'.2 = τ.2 ∧ τ'.1 8 = nI (vL (rd (τ.2.2 1) s m 7 (l, 0)).1) ∧ τ'.1 9 = nI (rd (τ.2.2 1) s m 7 (l, 0)).2 := by
  obtain ⟨hR, hL0, hL7, hm1, hm2, h7, h5⟩ := hL
  have hn : n ≤ 7 := hI.1.2
  have key : ∀ (d j fu : Nat) (q : List Nat × Nat) (τ1 : St), j + d = L → d < fu → Lg q.1 → q.1.length ≤ 6 → q.2 ≤ 4 * j → (∀ k, k ≠ 8 → k ≠ 9 → τ1.1 k = τ.1 k) → τ1.2 = τ.2 → τ1.1 8 = nI (vL q.1) → τ1.1 9 = nI q.2 → ∃ τ', f_X11_readBy_L12 fu τ1 (nI s) (nI j) = some τ' ∧ (∀ k, k ≠ 8 → k ≠ 9 → τ'.1 k = τ.1 k) ∧ τ'.2 = τ.2 ∧ τ'.1 8 = nI (vL (rd (τ.2.2 1) s m d q).1) ∧ τ'.1 9 = nI (rd (τ.2.2 1) s m d q).2 := by
    intro d
    induction d with
    | zero =>
      intro j fu q τ1 hj hfu hg hl hT e1 e2 e3 e4
      obtain ⟨fu, rfl⟩ : ∃ m, fu = m + 1 := ⟨fu - 1, by omega⟩
      refine ⟨τ1, ?_, e1, e2, e3, e4⟩
      show f_X11_readBy_b12 _ τ1 (nI s) (nI j) = _
      unfold f_X11_readBy_b12
      rw [e1 7 (by omega) (by omega), h7, if_pos ((nle (by omega) (by omega)).mpr (by omega))]
    | succ d ih =>
      intro j fu q τ1 hj hfu hg hl hT e1 e2 e3 e4
      obtain ⟨fu, rfl⟩ : ∃ m, fu = m + 1 := ⟨fu - 1, by omega⟩
      have e : f_X11_readBy_L12 (fu + 1) τ1 (nI s) (nI j) = f_X11_readBy_b12 (f_X11_readBy_L12 fu) τ1 (nI s) (nI j) := rfl
      rw [e]
      unfold f_X11_readBy_b12
      have hd := dg_in (p := d) hR hm2 (by omega)
      obtain ⟨t, ht⟩ : ∃ t, dg m d = t + 1 := ⟨dg m d - 1, by omega⟩
      obtain ⟨k1, k2⟩ := kdN_ok hI (show t < n by omega)
      have e5 : τ1.2.2 5 j = nI t := by rw [e2, h5 j (by omega), show L - 1 - j = d by omega, ht, nI_pred]
      have e6 : (6 : Int32) + nI t = nI (6 + t) := nI_add 6 t
      have rs : rd (τ.2.2 1) s m (d + 1) q = rd (τ.2.2 1) s m d (rdStep (τ.2.2 1) s t q) := by
        show rd (τ.2.2 1) s m d (if dg m d = 0 then q else rdStep (τ.2.2 1) s (dg m d - 1) q) = _
        rw [if_neg (by omega), ht, Nat.add_sub_cancel]
      have eM : τ1.2.2 1 (6 + t) = nI (kdN (τ.2.2 1) t) := by rw [e2]; exact k2
      rw [e1 7 (by omega) (by omega), h7, if_neg (show ¬ nI L ≤ nI j from fun z => absurd ((nle (by omega) (by omega)).mp z) (by omega)), ck_nI (show j < 7 by omega) (by omega), cT, nI_clamp (show j < 2 ^ 31 by omega), e5, e6, ck_nI (show 6 + t < 84 by omega) (by omega), cT, nI_clamp (show 6 + t < 2 ^ 31 by omega), eM, e3, e4, nI_add, cp_M k1 (by omega) hg hl, bs, tk_M k1 (by omega), bs, nI_add, nI_1, rs]
      refine ih (j + 1) fu (rdStep (τ.2.2 1) s t q) _ (by omega) (by omega) (cpL_g hg) (cpL_l hl) ?_ ?_ e2 rfl rfl
      · have := (tkN_b (kdN (τ.2.2 1) t) (s + q.2)).2
        show q.2 + tkN _ _ ≤ _
        omega
      · intro k g1 g2
        rw [sI1, if_neg g2, sI1, if_neg g1]
        exact e1 k g1 g2
  have e7 : rd (τ.2.2 1) s m 7 (l, 0) = rd (τ.2.2 1) s m L (l, 0) := by
    rw [show 7 = L + (7 - L) by omega]
    exact rd_skip hm1 _ _
  rw [e7]
  obtain ⟨τ', a, b, c⟩ := key L 0 FU (l, 0) (sI (sI τ 8 (nI (vL l))) 9 0) (by omega) (by unfold FU; omega) hg hl (by omega) (fun k g1 g2 => by rw [sI1, if_neg g2, sI1, if_neg g1]) rfl rfl rfl
  exact ⟨τ', a, b, c⟩
