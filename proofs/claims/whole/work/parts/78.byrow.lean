/-! does a row stand -/
def tch (M : Nat → Int32) (t : Nat) : Option Nat → Bool
  | none => true
  | some t' => bt (M (13 + t)) t'
def stB (M : Nat → Int32) (m : Nat) : Nat → Option Nat → Bool
  | 0, _ => true
  | p + 1, o => if dg m p = 0 then stB M m p o else tch M (dg m p - 1) o && (!bt (M 1) (dg m p - 1)) && stB M m p (some (dg m p - 1))
theorem stB_skip {M : Nat → Int32} {m L : Nat} (h : m < 10 ^ L) : ∀ (d : Nat) (o : Option Nat), stB M m (L + d) o = stB M m L o := by
  intro d
  induction d with
  | zero => intro o; rfl
  | succ d ih =>
    intro o
    show (if dg m (L + d) = 0 then stB M m (L + d) o else _) = _
    rw [if_pos (dg_big h (by omega))]
    exact ih o
def oI : Option Nat → Int32
  | none => -1
  | some t => nI t
theorem stands_C {σ : St} {M : Nat → Int32} {n m : Nat} (h106 : σ.1 106 = nI n) (hn : n ≤ 7) (h107 : σ.1 107 = M 1) (h3 : ∀ t, t < n → σ.2.2 3 t = M (13 + t)) (hR : RwN n m) : ∀ (p fu : Nat) (o : Option Nat), p ≤ 7 → p < fu → (∀ t, o = some t → t < n) → f_X7_stands_L5 fu σ (nI m) (oI o) (if p = 0 then 0 else nI (10 ^ (p - 1))) = some (if stB M m p o = true then 1 else 0, σ) := by
  have hm : m < 2 ^ 31 := by have := RwN.le hn hR; omega
  intro p
  induction p with
  | zero =>
    intro fu o hp hfu ho
    obtain ⟨fu, rfl⟩ : ∃ m, fu = m + 1 := ⟨fu - 1, by omega⟩
    show f_X7_stands_b5 _ σ (nI m) (oI o) 0 = _
    unfold f_X7_stands_b5
    rw [if_pos (by decide)]
    rfl
  | succ p ih =>
    intro fu o hp hfu ho
    obtain ⟨fu, rfl⟩ : ∃ m, fu = m + 1 := ⟨fu - 1, by omega⟩
    have h6 : p ≤ 6 := by omega
    rw [if_neg (by omega), Nat.add_sub_cancel]
    have hpos : 0 < 10 ^ p := Nat.pow_pos (by omega)
    have nx : nI (10 ^ p) / 10 = if p = 0 then 0 else nI (10 ^ (p - 1)) := by
      by_cases h : p = 0
      · subst h; rw [if_pos rfl]; decide
      · obtain ⟨p', rfl⟩ : ∃ p', p = p' + 1 := ⟨p - 1, by omega⟩
        rw [if_neg h, s10 p' h6, Nat.add_sub_cancel]
    have e : f_X7_stands_L5 (fu + 1) σ (nI m) (oI o) (nI (10 ^ p)) = f_X7_stands_b5 (f_X7_stands_L5 fu) σ (nI m) (oI o) (nI (10 ^ p)) := rfl
    rw [e]
    unfold f_X7_stands_b5 f_X7_stands_b63 f_X7_stands_b68 f_X7_stands_b96
    rw [if_neg (nI_nle hpos (p10 h6)), if_neg (nI_ne0 hpos (p10 h6)), t10 hm h6, nx]
    by_cases h0 : dg m p = 0
    · have rs : stB M m (p + 1) o = stB M m p o := by
        show (if dg m p = 0 then stB M m p o else _) = _
        rw [if_pos h0]
      rw [rs, h0, wiT_n h106 hn (noT hn), b0]
      exact ih fu o (by omega) (by omega) ho
    · obtain ⟨t, ht⟩ : ∃ t, dg m p = t + 1 := ⟨dg m p - 1, by omega⟩
      have htn : t < n := by have := (okR_dg 7 0 m hR.2 p).1; omega
      have rs : stB M m (p + 1) o = (tch M t o && (!bt (M 1) t) && stB M m p (some t)) := by
        show (if dg m p = 0 then stB M m p o else tch M (dg m p - 1) o && (!bt (M 1) (dg m p - 1)) && stB M m p (some (dg m p - 1))) = _
        rw [if_neg h0, ht, Nat.add_sub_cancel]
      have nxt := ih fu (some t) (by omega) (by omega) (fun t' e => by cases e; exact htn)
      have nxt : f_X7_stands_L5 fu σ (nI m) (nI t) (if p = 0 then 0 else nI (10 ^ (p - 1))) = some (if stB M m p (some t) = true then 1 else 0, σ) := nxt
      rw [ht, nI_pred, wiT_y h106 hn ⟨t, htn, rfl⟩, b1, ck_nI (show t < 7 by omega) (by omega), cT, nI_clamp (show t < 2 ^ 31 by omega), h3 t htn, h107, bit_v (show t < 32 by omega), nxt, rs]
      have fin : (if (1 : Int32) = 0 then some ((0 : Int32), σ) else if (if bt (M 1) t = true then (1 : Int32) else 0) = 1 then some ((0 : Int32), σ) else some (if stB M m p (some t) = true then 1 else 0, σ)) = some (if ((!bt (M 1) t) && stB M m p (some t)) = true then 1 else 0, σ) := by
        rw [if_neg (show ¬ (1 : Int32) = 0 by decide)]
        by_cases g : bt (M 1) t = true
        · rw [if_pos g, if_pos rfl, g]; rfl
        · rw [if_neg g, if_neg (show ¬ (0 : Int32) = 1 by decide)]
          have g : bt (M 1) t = false := by simpa using g
          rw [g]; rfl
      cases o with
      | none =>
        rw [if_pos (show oI none = -1 from rfl), fin]
        rfl
      | some t' =>
        have ht' := ho t' rfl
        have hne : ¬ oI (some t') = -1 := fun z => by
          have : (nI t').toInt = (-1 : Int32).toInt := congrArg Int32.toInt z
          rw [nI_toInt (by omega)] at this
          have e1 : (-1 : Int32).toInt = -1 := by decide
          rw [e1] at this
          omega
        rw [if_neg hne, show oI (some t') = nI t' from rfl, bit_v (show t' < 32 by omega)]
        by_cases g : bt (M (13 + t)) t' = true
        · rw [if_pos g, if_pos rfl, fin]
          show _ = some (if (bt (M (13 + t)) t' && (!bt (M 1) t) && stB M m p (some t)) = true then 1 else 0, σ)
          rw [g]; rfl
        · have g2 : bt (M (13 + t)) t' = false := by simpa using g
          rw [if_neg g, if_neg (show ¬ (0 : Int32) = 1 by decide), if_pos rfl]
          show _ = some (if (bt (M (13 + t)) t' && (!bt (M 1) t) && stB M m p (some t)) = true then 1 else 0, σ)
          rw [g2]; rfl
theorem isRow_0 {τ : St} {L : Nat} (h7 : τ.1 7 = nI L) (hL : L ≤ 7) : ∀ (d j fu : Nat), j + d = L → d < fu → f_X11_isRow_L4 fu τ 0 (nI j) = some (0, τ) := by
  intro d
  induction d with
  | zero =>
    intro j fu hj hfu
    obtain ⟨fu, rfl⟩ : ∃ m, fu = m + 1 := ⟨fu - 1, by omega⟩
    show f_X11_isRow_b4 _ τ 0 (nI j) = _
    unfold f_X11_isRow_b4
    rw [h7, if_pos ((nle (by omega) (by omega)).mpr (by omega))]
    rfl
  | succ d ih =>
    intro j fu hj hfu
    obtain ⟨fu, rfl⟩ : ∃ m, fu = m + 1 := ⟨fu - 1, by omega⟩
    show f_X11_isRow_b4 _ τ 0 (nI j) = _
    unfold f_X11_isRow_b4 f_X11_isRow_b70 f_X11_isRow_b71
    rw [h7, if_neg (show ¬ nI L ≤ nI j from fun z => absurd ((nle (by omega) (by omega)).mp z) (by omega)), if_pos rfl, nI_1]
    exact ih (j + 1) fu (by omega) (by omega)
theorem isRow_M {τ : St} {n m L : Nat} (hn : n ≤ 7) (hL : Laid τ n m L) : ∀ (d j fu : Nat), j + d = L → d < fu → f_X11_isRow_L4 fu τ 1 (nI j) = some (if stB (τ.2.2 1) m d (if j = 0 then none else some (dg m (L - j) - 1)) = true then 1 else 0, τ) := by
  obtain ⟨hR, hL0, hL7, hm1, hm2, h7, h5⟩ := hL
  intro d
  induction d with
  | zero =>
    intro j fu hj hfu
    obtain ⟨fu, rfl⟩ : ∃ m, fu = m + 1 := ⟨fu - 1, by omega⟩
    show f_X11_isRow_b4 _ τ 1 (nI j) = _
    unfold f_X11_isRow_b4
    rw [h7, if_pos ((nle (by omega) (by omega)).mpr (by omega))]
    rfl
  | succ d ih =>
    intro j fu hj hfu
    obtain ⟨fu, rfl⟩ : ∃ m, fu = m + 1 := ⟨fu - 1, by omega⟩
    have hd := dg_in (p := d) hR hm2 (by omega)
    obtain ⟨t, ht⟩ : ∃ t, dg m d = t + 1 := ⟨dg m d - 1, by omega⟩
    have e5 : τ.2.2 5 j = nI t := by rw [h5 j (by omega), show L - 1 - j = d by omega, ht, nI_pred]
    have e13 : (13 : Int32) + nI t = nI (13 + t) := nI_add 13 t
    have e : f_X11_isRow_L4 (fu + 1) τ 1 (nI j) = f_X11_isRow_b4 (f_X11_isRow_L4 fu) τ 1 (nI j) := rfl
    have no : f_X11_isRow_b70 (f_X11_isRow_L4 fu) τ (nI j) = some (0, τ) := by
      unfold f_X11_isRow_b70 f_X11_isRow_b71
      rw [nI_1]
      exact isRow_0 h7 hL7 d (j + 1) fu (by omega) (by omega)
    have yes : f_X11_isRow_b66 (f_X11_isRow_L4 fu) τ (nI j) = some (if stB (τ.2.2 1) m d (some t) = true then 1 else 0, τ) := by
      unfold f_X11_isRow_b66 f_X11_isRow_b71
      rw [nI_1, ih (j + 1) fu (by omega) (by omega), if_neg (show ¬ j + 1 = 0 by omega), show L - (j + 1) = d by omega, ht, Nat.add_sub_cancel]
    have rs : ∀ o, stB (τ.2.2 1) m (d + 1) o = (tch (τ.2.2 1) t o && (!bt (τ.2.2 1 1) t) && stB (τ.2.2 1) m d (some t)) := fun o => by
      show (if dg m d = 0 then stB (τ.2.2 1) m d o else tch (τ.2.2 1) (dg m d - 1) o && (!bt (τ.2.2 1 1) (dg m d - 1)) && stB (τ.2.2 1) m d (some (dg m d - 1))) = _
      rw [if_neg (by omega), ht, Nat.add_sub_cancel]
    rw [e]
    unfold f_X11_isRow_b4
    rw [h7, if_neg (show ¬ nI L ≤ nI j from fun z => absurd ((nle (by omega) (by omega)).mp z) (by omega)), if_neg (show ¬ (1 : Int32) = 0 by decide), ck_nI (show j < 7 by omega) (by omega), nI_clamp (show j < 2 ^ 31 by omega), e5, e13, ck_nI (show 13 + t < 84 by omega) (by omega), nI_clamp (show 13 + t < 2 ^ 31 by omega), has_v (show t < 32 by omega), no, yes, rs]
    simp only [cT]
    by_cases g : bt (τ.2.2 1 1) t = true
    · rw [if_pos g, g, b1]
      simp
    · have g2 : bt (τ.2.2 1 1) t = false := by simpa using g
      rw [if_neg g, g2, b0]
      by_cases hj0 : j = 0
      · subst hj0
        rw [if_pos (show nI 0 = 0 from rfl), if_pos rfl, show tch (τ.2.2 1) t none = true from rfl]
        simp
      · obtain ⟨i, hi⟩ : ∃ i, j = i + 1 := ⟨j - 1, by omega⟩
        have hd2 := dg_in (p := L - j) hR hm2 (by omega)
        obtain ⟨t', ht'⟩ : ∃ t', dg m (L - j) = t' + 1 := ⟨dg m (L - j) - 1, by omega⟩
        have e5' : τ.2.2 5 i = nI t' := by rw [h5 i (by omega), show L - 1 - i = L - j by omega, ht', nI_pred]
        have ei : nI j - 1 = nI i := by rw [hi, nI_pred]
        rw [if_neg (nI_ne0 (by omega) (by omega)), if_neg hj0, ei, ck_nI (show i < 7 by omega) (by omega), cT, nI_clamp (show i < 2 ^ 31 by omega), e5', has_v (show t' < 32 by omega), ht', Nat.add_sub_cancel]
        by_cases q : bt (τ.2.2 1 (13 + t)) t' = true
        · rw [if_pos q, show tch (τ.2.2 1) t (some t') = true from q, b1]
          simp
        · have q2 : bt (τ.2.2 1 (13 + t)) t' = false := by simpa using q
          rw [if_neg q, show tch (τ.2.2 1) t (some t') = false from q2, b0]
          simp
theorem rows_both {σ τ : St} (hR : RelP σ τ) {n nn rn un se m L : Nat} (hI : Inv (τ.2.2 1) n nn rn un se) (hL : Laid τ n m L) : ∃ b : Bool, f_X7_stands σ (nI m) = some (if b = true then 1 else 0, σ) ∧ f_X11_isRow τ = some (if b = true then 1 else 0, τ) := by
  have h106 : σ.1 106 = nI n := hR.2.1.1.trans hI.1.1
  have g2 := hR.2.1.2.2.2.2.2.2.2.1
  rw [hI.c0.1] at g2
  refine ⟨stB (τ.2.2 1) m 7 none, ?_, ?_⟩
  · exact stands_C h106 hI.1.2 hR.2.1.2.1 (fun t h => g2 t h) hL.1 7 FU none (by omega) (by unfold FU; omega) (fun t e => by cases e)
  · have hh := isRow_M hI.1.2 hL L 0 FU (by omega) (by unfold FU; have := hL.2.2.1; omega)
    rw [if_pos rfl] at hh
    rw [show stB (τ.2.2 1) m 7 none = stB (τ.2.2 1) m L none from by
      rw [show 7 = L + (7 - L) by have := hL.2.2.1; omega]
      exact stB_skip hL.2.2.2.1 _ _]
    exact hh
theorem Laid.of {τ τ' : St} {n m L : Nat} (h : Laid τ n m L) (h1 : ∀ k, k ≠ 8 → k ≠ 9 → τ'.1 k = τ.1 k) (h2 : τ'.2 = τ.2) : Laid τ' n m L := by
  obtain ⟨a, b, c, d, e, f, g⟩ := h
  exact ⟨a, b, c, d, e, (h1 7 (by omega) (by omega)).trans f, fun j hj => by rw [h2]; exact g j hj⟩
theorem op_byRow : Op3 RelP f_X10_byRow f_X11_byRow := by
  intro σ τ hR a b c
  obtain ⟨n, nn, rn, un, se, hI⟩ := hR.n
  have a1 : τ.2.2 1 0 = nI n := hI.1.1
  have a2 : n ≤ 7 := hI.1.2
  have e106 : σ.1 106 = nI n := hR.2.1.1.trans a1
  unfold f_X10_byRow f_X11_byRow
  have bad : ∀ τ1 : St, (f_X10_byRow_b27 σ = some (-2, sI σ 13 (σ.1 13 + 1))) ∧ f_X11_byRow_b25 τ1 = some (-2, sE τ1 4 0 (τ1.2.2 4 0 + 1)) := fun _ => ⟨rfl, rfl⟩
  rcases told_v e106 a2 a with ⟨hA, hc⟩ | ⟨hA, hc⟩
  case inr =>
    rcases row_v a1 a2 a with ⟨m, τ1, L, rfl, h, -⟩ | ⟨-, τ1, e, hS⟩
    · exact absurd ⟨m, rfl, h⟩ hA
    · rw [hc, e, p0, p0]
      exact ⟨-2, _, _, (bad τ1).1, (bad τ1).2, (hR.same (SC.rf σ) hS).bad⟩
  rcases row_v a1 a2 a with ⟨m, τ1, L, hx, hrw, e, hS, hL⟩ | ⟨hN, -⟩
  case inr => exact absurd hA hN
  subst hx
  rw [hc, e, p1, p1]
  dsimp only
  have hR1 := hR.same (SC.rf σ) hS
  have hLd : Laid τ1 n m L := ⟨hrw, hL⟩
  rw [show τ.2.2 1 = τ1.2.2 1 from (hS.2.1 1 (by decide)).symm] at hI
  clear hc e hS hR a1 hL
  obtain ⟨v, v1, v2, ⟨rfl, hb⟩ | ⟨rfl, hb⟩⟩ := isL b
  case inr => exact ⟨-2, _, _, by rw [v1, b0]; exact (bad τ1).1, by rw [v2, b0]; exact (bad τ1).2, hR1.bad⟩
  rw [v1, v2, b1, b1]
  by_cases hC : ¬ Rg 0 1 c
  · exact ⟨-2, _, _, by rw [wi_n (a := 0) (b := 1) (lo := 0) (hi := 1) hC (by omega) (by omega) rfl rfl, b0]; exact (bad τ1).1, by rw [in_n (a := 0) (b := 1) (lo := 0) (hi := 1) hC (by omega) (by omega) rfl rfl, b0]; exact (bad τ1).2, hR1.bad⟩
  have hC := Classical.not_not.mp hC
  rw [wi_y (a := 0) (b := 1) (lo := 0) (hi := 1) hC (by omega) (by omega) rfl rfl, in_y (a := 0) (b := 1) (lo := 0) (hi := 1) hC (by omega) (by omega) rfl rfl, b1, b1]
  obtain ⟨ml, rfl, hml⟩ := hb
  obtain ⟨l, hl, hg, rfl⟩ := hml.list
  have s1 : τ1.2.2 1 2 = nI se := hI.2.1.1
  have s2 : se ≤ 999 := hI.2.1.2
  have s108 : σ.1 108 = nI se := hR1.2.1.2.2.1.trans s1
  obtain ⟨τ2, t1, t2, t3, t4, t5⟩ := readBy_M hI hLd s2 hg hl
  obtain ⟨σ2, c1, c2, c3, c4, c5, -⟩ := follow_C (hR1.ks hI) hrw s2 hg hl
  have hR2 : RelP σ τ2 := hR1.same (SC.rf σ) (SM.of t2 t3)
  have hI2 : Inv (τ2.2.2 1) n nn rn un se := by rw [t3]; exact hI
  obtain ⟨q, q1, q2⟩ := rows_both hR2 hI2 (hLd.of t2 t3)
  cases q with
  | false =>
    have q1 : f_X7_stands σ (nI m) = some (0, σ) := q1
    have q2 : f_X11_isRow τ2 = some (0, τ2) := q2
    refine ⟨-1, σ, τ2, by rw [q1, p0], ?_, hR2⟩
    rw [s1, t1, bs, q2, p0]
  | true =>
    have q1 : f_X7_stands σ (nI m) = some (1, σ) := q1
    have q2 : f_X11_isRow τ2 = some (1, τ2) := q2
    refine ⟨if c = 0 then nI (vL (rd (τ1.2.2 1) se m 7 (l, 0)).1) else nI (rd (τ1.2.2 1) se m 7 (l, 0)).2, σ2, τ2, ?_, ?_, hR2.same (SC.of c2 c3) (SM.rf τ2)⟩
    · rw [q1, p1]
      dsimp only
      rw [s108, c1, bs, c4, c5]
      split <;> rfl
    · rw [s1, t1, bs, q2, p1]
      dsimp only
      rw [t4, t5]
      split <;> rfl
