/-! storms -/
theorem RelP.fr {σ τ σ' τ' : St} (h : RelP σ τ) (c1 : ∀ k ∈ cints, σ'.1 k = σ.1 k) (c2 : ∀ a ∈ crows, σ'.2.2 a = σ.2.2 a) (m1 : τ'.1 18 = τ.1 18) (m2 : ∀ a ∈ mrows, τ'.2.2 a = τ.2.2 a) (e1 : σ'.2.1 11 = τ'.2.1 4) (e2 : σ'.2.1 12 = τ'.2.1 5) : RelP σ' τ' := by
  have g : RelP (σ'.1, σ.2.1, σ'.2.2) (τ'.1, τ.2.1, τ'.2.2) := h.same ⟨c1, c2, rfl⟩ ⟨m1, m2, rfl⟩
  obtain ⟨h1, h2, h3, h4, h5, h6⟩ := g
  exact ⟨h1, h2, h3, h4, h5, h6.1, h6.2.1, h6.2.2.1, e1, e2⟩
def pwL (p : Int64) : Nat → Int64 → Int64
  | 0, A => A
  | d + 1, A => pwL p d (A * p)
def redC : Nat → Nat → Nat → Nat × Nat
  | 0, p, q => (p, q)
  | k + 1, p, q => if p % (k + 2) = 0 ∧ q % (k + 2) = 0 then redC k (p / (k + 2)) (q / (k + 2)) else redC k p q
theorem red_L {σ : St} {x2 : Int32} : ∀ (k p q fu : Nat), p ≤ 10 → q ≤ 10 → k ≤ 9 → k < fu → f_X10_keepChanceToStand_L10 fu σ x2 (nI p) (nI q) (nI (k + 1)) = f_X10_keepChanceToStand_L62 FU (sL (sL σ 11 1) 12 1) x2 (nI (redC k p q).1) (nI (redC k p q).2) 1 := by
  intro k
  induction k with
  | zero =>
    intro p q fu hp hq hk hfu
    obtain ⟨fu, rfl⟩ : ∃ m, fu = m + 1 := ⟨fu - 1, by omega⟩
    show f_X10_keepChanceToStand_b10 _ σ x2 (nI p) (nI q) (nI 1) = _
    unfold f_X10_keepChanceToStand_b10
    rw [if_pos (show nI 1 ≤ 1 by decide)]
    rfl
  | succ k ih =>
    intro p q fu hp hq hk hfu
    obtain ⟨fu, rfl⟩ : ∃ m, fu = m + 1 := ⟨fu - 1, by omega⟩
    have e : f_X10_keepChanceToStand_L10 (fu + 1) σ x2 (nI p) (nI q) (nI (k + 1 + 1)) = f_X10_keepChanceToStand_b10 (f_X10_keepChanceToStand_L10 fu) σ x2 (nI p) (nI q) (nI (k + 1 + 1)) := rfl
    have re : redC (k + 1) p q = if p % (k + 2) = 0 ∧ q % (k + 2) = 0 then redC k (p / (k + 2)) (q / (k + 2)) else redC k p q := rfl
    have h1 : ¬ nI (k + 1 + 1) ≤ 1 := fun z => absurd ((nle (b := 1) (by omega) (by omega)).mp z) (by omega)
    have h2 : ¬ nI (k + 1 + 1) = 0 := nI_ne0 (by omega) (by omega)
    have dec : nI (k + 1 + 1) + (-1) = nI (k + 1) := by
      have : nI (k + 1 + 1) + (-1) = nI (k + 1 + 1) - 1 := (Int32.sub_eq_add_neg ..).symm
      rw [this, nI_pred]
    have m0 : ∀ x, x ≤ 10 → (nI (x % (k + 1 + 1)) = 0 ↔ x % (k + 2) = 0) := fun x hx => (neq (b := 0) (by have := Nat.mod_le x (k + 1 + 1); omega) (by omega))
    rw [e]
    unfold f_X10_keepChanceToStand_b10 f_X10_keepChanceToStand_b43
    rw [if_neg h1, if_neg h2, if_neg h2, if_neg h2, if_neg h2, pk_rem (a := p) (by omega) (by omega) (by omega), pk_rem (a := q) (by omega) (by omega) (by omega), pk_div (a := p) (by omega) (by omega) (by omega), pk_div (a := q) (by omega) (by omega) (by omega), dec, re]
    by_cases g1 : p % (k + 2) = 0
    · rw [if_pos ((m0 p hp).mpr g1)]
      by_cases g2 : q % (k + 2) = 0
      · rw [if_pos ((m0 q hq).mpr g2), if_pos ⟨g1, g2⟩]
        exact ih _ _ fu (Nat.le_trans (Nat.div_le_self ..) hp) (Nat.le_trans (Nat.div_le_self ..) hq) (by omega) (by omega)
      · rw [if_neg (fun z => g2 ((m0 q hq).mp z)), if_neg (fun z => g2 z.2)]
        exact ih _ _ fu hp hq (by omega) (by omega)
    · rw [if_neg (fun z => g1 ((m0 p hp).mp z)), if_neg (fun z => g1 z.1)]
      exact ih _ _ fu hp hq (by omega) (by omega)
theorem chance_L {m L : Nat} (hL : L ≤ 7) (h1 : m < 10 ^ L) (h2 : 10 ^ (L - 1) ≤ m) (x3 x4 : Int32) : ∀ (d j fu : Nat) (σ : St), j + d = L → d < fu → ∃ σ', f_X10_keepChanceToStand_L62 fu σ (nI m) x3 x4 (nI (10 ^ j)) = some σ' ∧ σ'.1 = σ.1 ∧ σ'.2.2 = σ.2.2 ∧ σ'.2.1 11 = pwL x3.toInt64 d (σ.2.1 11) ∧ σ'.2.1 12 = pwL x4.toInt64 d (σ.2.1 12) := by
  have hm : m < 2 ^ 31 := Nat.lt_of_lt_of_le h1 (Nat.le_trans (Nat.pow_le_pow_right (by omega) hL) (by omega))
  intro d
  induction d with
  | zero =>
    intro j fu σ hj hfu
    obtain ⟨fu, rfl⟩ : ∃ m, fu = m + 1 := ⟨fu - 1, by omega⟩
    have hj : j = L := by omega
    subst hj
    have hp : 10 ^ j ≤ 10 ^ 7 := Nat.pow_le_pow_right (by omega) hL
    refine ⟨σ, ?_, rfl, rfl, rfl, rfl⟩
    show f_X10_keepChanceToStand_b62 _ σ (nI m) x3 x4 (nI (10 ^ j)) = _
    unfold f_X10_keepChanceToStand_b62
    by_cases h7 : (1000000 : Int32) < nI (10 ^ j)
    · rw [if_pos h7]
    · rw [if_neg h7, if_pos ((nlt hm (by omega)).mpr h1)]
  | succ d ih =>
    intro j fu σ hj hfu
    obtain ⟨fu, rfl⟩ : ∃ m, fu = m + 1 := ⟨fu - 1, by omega⟩
    have hp : 10 ^ j ≤ 10 ^ 6 := Nat.pow_le_pow_right (by omega) (by omega)
    have hjm : 10 ^ j ≤ m := Nat.le_trans (Nat.pow_le_pow_right (by omega) (by omega)) h2
    have hx : nI (10 ^ j) * 10 = nI (10 ^ (j + 1)) := by
      rw [show (10 : Int32) = nI 10 from rfl, pk_mul, Nat.pow_succ]
    obtain ⟨σ', z1, z2, z3, z4, z5⟩ := ih (j + 1) fu (sL (sL σ 11 ((σ.2.1 11) * x3.toInt64)) 12 ((σ.2.1 12) * x4.toInt64)) (by omega) (by omega)
    refine ⟨σ', ?_, z2, z3, z4, z5⟩
    show f_X10_keepChanceToStand_b62 (f_X10_keepChanceToStand_L62 fu) σ (nI m) x3 x4 (nI (10 ^ j)) = _
    unfold f_X10_keepChanceToStand_b62
    rw [if_neg (show ¬ (1000000 : Int32) < nI (10 ^ j) from fun z => absurd ((nlt (a := 1000000) (by omega) (by omega)).mp z) (by omega)), if_neg (show ¬ nI m < nI (10 ^ j) from fun z => absurd ((nlt hm (by omega)).mp z) (by omega)), hx]
    exact z1
theorem signs_L : ∀ (r : List Nat) (k fu : Nat), (∀ t ∈ r, t < 7) → numL r < 2 ^ 31 → r.length < fu → f_X11_signs_L4 fu (nI k) (nI (numL r)) = some (nI (k + r.length)) := by
  intro r
  induction r with
  | nil =>
    intro k fu _ _ hfu
    obtain ⟨fu, rfl⟩ : ∃ m, fu = m + 1 := ⟨fu - 1, by omega⟩
    show f_X11_signs_b4 _ (nI k) (nI 0) = _
    unfold f_X11_signs_b4
    rw [if_pos (by decide)]
    rfl
  | cons t r ih =>
    intro k fu h7 hb hfu
    rw [List.length_cons] at hfu
    obtain ⟨fu, rfl⟩ : ∃ m, fu = m + 1 := ⟨fu - 1, by omega⟩
    obtain ⟨-, m2⟩ := numL_mod (r := r) (h7 t (List.mem_cons_self ..))
    have hpos : 0 < numL (t :: r) := by show 0 < 10 * numL r + (t + 1); omega
    show f_X11_signs_b4 (f_X11_signs_L4 fu) (nI k) (nI (numL (t :: r))) = _
    unfold f_X11_signs_b4
    rw [if_neg (nI_nle hpos hb), d10 hb, m2, nI_1, ih (k + 1) fu (fun x hx => h7 x (List.mem_cons_of_mem _ hx)) (by rw [← m2]; omega) (by omega), List.length_cons]
    congr 2
    omega
theorem storm_L {τ : St} {m L : Nat} (hm : τ.1 11 = nI m) (hm1 : ¬ nI m = -1) (hs : f_X11_signs (nI m) = some (nI L)) (hL : L ≤ 7) (x3 : Int32) : ∀ (d j fu : Nat) (A B : Int64), j + d = L → d < fu → f_X11_storms_L64 fu τ x3 A B (nI j) = (f_X11_fraction τ (pwL ((10 : Int32) - x3).toInt64 d A) (pwL 10 d B)).bind fun q2 => some ((1 : Int32), q2) := by
  intro d
  induction d with
  | zero =>
    intro j fu A B hj hfu
    obtain ⟨fu, rfl⟩ : ∃ m, fu = m + 1 := ⟨fu - 1, by omega⟩
    show f_X11_storms_b64 _ τ x3 A B (nI j) = _
    unfold f_X11_storms_b64 f_X11_storms_b82
    rw [hm, if_neg hm1, hs, bs, if_pos ((nle (by omega) (by omega)).mpr (by omega))]
    rfl
  | succ d ih =>
    intro j fu A B hj hfu
    obtain ⟨fu, rfl⟩ : ∃ m, fu = m + 1 := ⟨fu - 1, by omega⟩
    show f_X11_storms_b64 (f_X11_storms_L64 fu) τ x3 A B (nI j) = _
    unfold f_X11_storms_b64 f_X11_storms_b82
    rw [hm, if_neg hm1, hs, bs, if_neg (fun z => absurd ((nle (by omega) (by omega)).mp z) (by omega)), nI_1]
    exact ih (j + 1) fu _ _ (by omega) (by omega)
/-- the reference's division of both by what divides both -/
def frM : Nat → Int64 → Int64 → Int64 → Int64 → Option (Int64 × Int64)
  | 0, _, _, _, _ => none
  | k + 1, a, b, x, y => if y = 0 then (if x = 0 then none else some (a / x, b / x)) else frM k a b y (x - x / y * y)
theorem lgc_0 (x : Int64) : lg_cmp x 0 = 0 ↔ x = 0 := by
  constructor
  · intro h
    have h1 : ¬ lg_cmp x 0 < 0 := by rw [h]; decide
    have h2 : ¬ 0 < lg_cmp x 0 := by rw [h]; decide
    rw [lgc_lt] at h1
    rw [lgc_gt] at h2
    exact Int64.toInt_inj.mp (by omega)
  · rintro rfl; rfl
theorem fr_L (τ : St) (a b : Int64) : ∀ (k : Nat) (x y : Int64), f_X11_fraction_L6 k τ a b x y = (frM k a b x y).bind fun q => some (sL (sL τ 4 q.1) 5 q.2) := by
  intro k
  induction k with
  | zero => intro x y; rfl
  | succ k ih =>
    intro x y
    show f_X11_fraction_b6 (f_X11_fraction_L6 k) τ a b x y = _
    have e : frM (k + 1) a b x y = if y = 0 then (if x = 0 then none else some (a / x, b / x)) else frM k a b y (x - x / y * y) := rfl
    unfold f_X11_fraction_b6
    rw [e]
    by_cases h : y = 0
    · rw [if_pos ((lgc_0 y).mpr h), if_pos h]
      by_cases g : x = 0
      · rw [if_pos g, if_pos g]; rfl
      · rw [if_neg g, if_neg g, if_neg g]; rfl
    · rw [if_neg (fun z => h ((lgc_0 y).mp z)), if_neg h, if_neg h]
      exact ih _ _
theorem ten_m : ∀ c : Fin 11, (10 : Int32) - nI c.val = nI (10 - c.val) := by decide +kernel
theorem fr_fin : ∀ c : Fin 11, ∀ L : Fin 7, frM FU (pwL ((10 : Int32) - nI c.val).toInt64 (L.val + 1) 1) (pwL 10 (L.val + 1) 1) (pwL ((10 : Int32) - nI c.val).toInt64 (L.val + 1) 1) (pwL 10 (L.val + 1) 1) = some (pwL (nI (redC 9 (10 - c.val) 10).1).toInt64 (L.val + 1) 1, pwL (nI (redC 9 (10 - c.val) 10).2).toInt64 (L.val + 1) 1) := by decide +kernel
theorem fr_none : frM FU 0 1 0 1 = some (0, 1) := by decide +kernel
theorem op_storms : Op3 RelP f_X10_storms f_X11_storms := by
  intro σ τ hR a b c
  obtain ⟨n, nn, rn, un, se, hI⟩ := hR.n
  have a1 : τ.2.2 1 0 = nI n := hI.1.1
  have a2 : n ≤ 7 := hI.1.2
  have e106 : σ.1 106 = nI n := hR.2.1.1.trans a1
  have bad : (f_X10_storms_b26 σ = some (-2, sI σ 13 (σ.1 13 + 1))) ∧ f_X11_storms_b28 τ = some (-2, sE τ 4 0 (τ.2.2 4 0 + 1)) := ⟨rfl, rfl⟩
  unfold f_X10_storms f_X11_storms
  by_cases hA : ¬ Tr n a
  · exact ⟨-2, _, _, by rw [isT_n e106 a2 hA, p0]; exact bad.1, by rw [isM_n a1 a2 hA, p0]; exact bad.2, hR.bad⟩
  have hA := Classical.not_not.mp hA
  rw [isT_y e106 a2 hA, isM_y a1 a2 hA, p1, p1]
  dsimp only
  by_cases hB : ¬ Tr n b
  · exact ⟨-2, _, _, by rw [isT_n e106 a2 hB, p0]; exact bad.1, by rw [isM_n a1 a2 hB, p0]; exact bad.2, hR.bad⟩
  have hB := Classical.not_not.mp hB
  rw [isT_y e106 a2 hB, isM_y a1 a2 hB, p1, p1]
  dsimp only
  by_cases hC : ¬ Rg 0 10 c
  · exact ⟨-2, _, _, by rw [wi_n (a := 0) (b := 10) (lo := 0) (hi := 10) hC (by omega) (by omega) rfl rfl, b0]; exact bad.1, by rw [in_n (a := 0) (b := 10) (lo := 0) (hi := 10) hC (by omega) (by omega) rfl rfl, b0]; exact bad.2, hR.bad⟩
  have hC := Classical.not_not.mp hC
  rw [wi_y (a := 0) (b := 10) (lo := 0) (hi := 10) hC (by omega) (by omega) rfl rfl, in_y (a := 0) (b := 10) (lo := 0) (hi := 10) hC (by omega) (by omega) rfl rfl, b1, b1]
  obtain ⟨a, ha, rfl⟩ := hA
  obtain ⟨g, hgn, rfl⟩ := hB
  obtain ⟨c, -, hc, rfl⟩ := hC
  have hl0 : Lg [] := fun c hc => by cases hc
  obtain ⟨τ', m1, m2, m3, m4⟩ := soon_M hI ha hgn hl0 (by simp) false
  have m1 : f_X11_laySoonest τ (nI a) (nI g) 0 0 = some τ' := m1
  obtain ⟨σ', c1, c2, c3⟩ := seek_C (σ := sL (sL σ 11 0) 12 1) (hR.wk hI) (hR.ks hI) (hR.2.1.2.2.1.trans hI.2.1.1) hI.2.1.2 hR.2.1.2.1 ha hgn hl0 (by simp) false
  have c1 : f_X7_seek (sL (sL σ 11 0) 12 1) (nI a) (nI g) 0 (-1) = _ := c1
  have be : (if bt (τ.2.2 1 1) a = true then none else bestB (τ.2.2 1) se g [] false none (pre (τ.2.2 1) (stn n (τ.2.2 1 1)) 7 [a])) = bestR (τ.2.2 1) n se a g [] false := rfl
  rw [be] at m2
  have hP := bestR_P (M := τ.2.2 1) (n := n) (se := se) (a := a) (g := g) (l := []) (W := false) a2 ha
  rw [m1, c1, bs, bs]
  dsimp only
  generalize bestR (τ.2.2 1) n se a g [] false = b at c2 m2 hP
  unfold f_X11_storms_b56
  cases b with
  | none =>
    rw [if_pos rfl, if_pos rfl, m2.1, if_pos rfl]
    have z : f_X11_storms_L64 FU τ' (nI c) 0 1 0 = some (1, sL (sL τ' 4 0) 5 1) := by
      obtain ⟨fu, hF⟩ : ∃ m, FU = m + 1 := ⟨999999, rfl⟩
      have hfr : f_X11_fraction τ' 0 1 = some (sL (sL τ' 4 0) 5 1) := by
        unfold f_X11_fraction
        rw [fr_L, fr_none, bs]
      rw [hF]
      show f_X11_storms_b64 _ τ' (nI c) 0 1 0 = _
      unfold f_X11_storms_b64 f_X11_storms_b82
      rw [m2.1, if_pos rfl, show f_X11_signs 0 = some 0 by decide +kernel, bs, if_pos (by decide), hfr, bs]
    rw [z]
    refine ⟨1, σ', _, rfl, rfl, hR.fr c3.1 c3.2.1 m3.1 m3.2.1 ?_ ?_⟩
    · rw [c3.2.2]; rfl
    · rw [c3.2.2]; rfl
  | some r =>
    obtain ⟨h1, h2, h3⟩ := hP r rfl
    have h7 : ∀ t ∈ r, t < 7 := fun t ht => by have := h2 t ht; omega
    have hrw := numL_rw a2 h1 h2 h3
    have hle := RwN.le a2 hrw
    have hL7 : r.length ≤ 7 := by have := nd_len n r h1 h2; omega
    have hpos : 0 < r.length := List.length_pos_iff.mpr h3
    obtain ⟨nb1, nb2⟩ := numL_bd r h7
    have hm1 : ¬ nI (numL r) = -1 := fun z => by
      have : (nI (numL r)).toInt = -1 := by rw [z]; rfl
      rw [nI_toInt (by omega)] at this
      omega
    have hsg : f_X11_signs (nI (numL r)) = some (nI r.length) := by
      have := signs_L r 0 FU h7 (by omega) (by unfold FU; omega)
      rw [Nat.zero_add] at this
      exact this
    have st := storm_L m2.1 hm1 hsg hL7 (nI c) r.length 0 FU 1 1 (by omega) (by unfold FU; omega)
    have st : f_X11_storms_L64 FU τ' (nI c) 1 1 0 = _ := st
    have ff := fr_fin ⟨c, by omega⟩ ⟨r.length - 1, by omega⟩
    dsimp only at ff
    rw [show r.length - 1 + 1 = r.length by omega] at ff
    have hred := red_L (σ := σ') (x2 := nI (numL r)) 9 (10 - c) 10 FU (by omega) (by omega) (by omega) (by unfold FU; omega)
    obtain ⟨σ2, k1, k2, k3, k4, k5⟩ := chance_L (L := r.length) hL7 nb1 (nb2 h3) (nI (redC 9 (10 - c) 10).1) (nI (redC 9 (10 - c) 10).2) r.length 0 FU (sL (sL σ' 11 1) 12 1) (by omega) (by unfold FU; omega)
    have k1 : f_X10_keepChanceToStand_L62 FU (sL (sL σ' 11 1) 12 1) (nI (numL r)) (nI (redC 9 (10 - c) 10).1) (nI (redC 9 (10 - c) 10).2) 1 = some σ2 := k1
    have kc : f_X10_keepChanceToStand σ' ((10 : Int32) - nI c) (nI (numL r)) = some σ2 := by
      rw [ten_m ⟨c, by omega⟩]
      exact hred.trans k1
    rw [if_neg (show ¬ (some r : Option (List Nat)) = none by simp), if_neg (show ¬ (1 : Int32) = 0 by decide), m2.1, if_neg hm1, c2.1, kc, bs, st]
    unfold f_X11_fraction
    rw [fr_L, ff, bs, bs]
    refine ⟨1, σ2, _, rfl, rfl, hR.fr (fun k hk => by rw [k2]; exact c3.1 k hk) (fun k hk => by rw [k3]; exact c3.2.1 k hk) m3.1 m3.2.1 ?_ ?_⟩
    · exact k4
    · exact k5
