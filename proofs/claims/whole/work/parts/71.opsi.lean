/-! rows of trees: told as numbers -/
theorem okR_s (n k u m : Nat) : okR n (k + 1) u m = if m = 0 then true else if (1 ≤ m % 10 ∧ m % 10 ≤ n) ∧ u.testBit (m % 10) = false then okR n k (u ||| 2 ^ (m % 10)) (m / 10) else false := by
  show (m == 0 || (decide (1 ≤ m % 10 ∧ m % 10 ≤ n) && !u.testBit (m % 10) && okR n k (u ||| 2 ^ (m % 10)) (m / 10))) = _
  by_cases h : m = 0
  · simp [h]
  · rw [if_neg h]
    by_cases g : 1 ≤ m % 10 ∧ m % 10 ≤ n
    · by_cases q : u.testBit (m % 10) = false
      · rw [if_pos ⟨g, q⟩]; simp [h, g, q]
      · rw [if_neg (fun z => q z.2)]; simp at q; simp [h, q]
    · rw [if_neg (fun z => g z.1)]; simp [h]; intro a b; omega
def Bm : Nat → Nat → Nat
  | 0, _ => 0
  | k + 1, u => max (if u.testBit 1 then 0 else 1 + 10 * Bm k (u ||| 2 ^ 1)) (max (if u.testBit 2 then 0 else 2 + 10 * Bm k (u ||| 2 ^ 2)) (max (if u.testBit 3 then 0 else 3 + 10 * Bm k (u ||| 2 ^ 3)) (max (if u.testBit 4 then 0 else 4 + 10 * Bm k (u ||| 2 ^ 4)) (max (if u.testBit 5 then 0 else 5 + 10 * Bm k (u ||| 2 ^ 5)) (max (if u.testBit 6 then 0 else 6 + 10 * Bm k (u ||| 2 ^ 6)) (if u.testBit 7 then 0 else 7 + 10 * Bm k (u ||| 2 ^ 7)))))))
theorem okR_B {n : Nat} (hn : n ≤ 7) : ∀ (k u m : Nat), okR n k u m = true → m ≤ Bm k u := by
  intro k
  induction k with
  | zero => intro u m h; have : m = 0 := by simpa [okR] using h
            omega
  | succ k ih =>
    intro u m h
    rw [okR_s] at h
    by_cases h0 : m = 0
    · omega
    · rw [if_neg h0] at h
      by_cases g : (1 ≤ m % 10 ∧ m % 10 ≤ n) ∧ u.testBit (m % 10) = false
      · rw [if_pos g] at h
        have := ih _ _ h
        obtain ⟨⟨g1, g2⟩, g3⟩ := g
        unfold Bm
        rcases (show m % 10 = 1 ∨ m % 10 = 2 ∨ m % 10 = 3 ∨ m % 10 = 4 ∨ m % 10 = 5 ∨ m % 10 = 6 ∨ m % 10 = 7 by omega) with e | e | e | e | e | e | e
        all_goals
          rw [e] at this g3
          rw [g3]
          simp only [Bool.false_eq_true, if_false]
          omega
      · rw [if_neg g] at h; cases h
theorem Bm7 : Bm 7 0 = 7654321 := by decide +kernel
theorem RwN.le {n m : Nat} (hn : n ≤ 7) (h : RwN n m) : m ≤ 7654321 := Bm7 ▸ okR_B hn 7 0 m h.2
theorem tb_or {u d i : Nat} : (u ||| 2 ^ d).testBit i = (u.testBit i || decide (i = d)) := by
  rw [Nat.testBit_or, Nat.testBit_two_pow]
  congr 1
  exact decide_eq_decide.mpr eq_comm
theorem told_L {σ : St} {nt : Nat} (h106 : σ.1 106 = nI nt) (hnt : nt ≤ 7) : ∀ (d k n u m : Nat) (x2 : Int32), k + d = 7 → d < n → m < 10 ^ d → m < 2 ^ 31 → (∀ i, bt x2 i = u.testBit i) → f_X7_isTold_L20 n σ x2 (nI m) (nI k) = some (if okR nt d u m = true then 1 else 0, σ) := by
  intro d
  induction d with
  | zero =>
    intro k n u m x2 hk hn h10 hm hu
    obtain ⟨n, rfl⟩ : ∃ m, n = m + 1 := ⟨n - 1, by omega⟩
    have hk : k = 7 := by omega
    subst hk
    have h0 : m = 0 := by simpa using h10
    subst h0
    show f_X7_isTold_b20 _ σ x2 (nI 0) (nI 7) = _
    unfold f_X7_isTold_b20
    rw [if_pos (by decide)]
    rfl
  | succ d ih =>
    intro k n u m x2 hk hn h10 hm hu
    obtain ⟨n, rfl⟩ : ∃ m, n = m + 1 := ⟨n - 1, by omega⟩
    show f_X7_isTold_b20 _ σ x2 (nI m) (nI k) = _
    unfold f_X7_isTold_b20
    rw [if_neg (show ¬ (7 : Int32) ≤ nI k from nI_ge (b := 7) (by omega) (by omega)), okR_s]
    by_cases h0 : m = 0
    · subst h0
      rw [if_pos (by decide), if_pos rfl]
      rfl
    · rw [if_neg (nI_nle (by omega) hm), if_neg h0, r10 hm, d10 hm, nI_1]
      by_cases g : 1 ≤ m % 10 ∧ m % 10 ≤ nt
      · rw [wi_y (a := 1) (b := nt) (lo := 1) (hi := σ.1 106) ((Rg.nat (by omega) (by omega)).mpr g) (by omega) (by omega) rfl h106, b1, bit_v (by omega), hu]
        by_cases q : u.testBit (m % 10) = true
        · have hq : ¬ ((1 ≤ m % 10 ∧ m % 10 ≤ nt) ∧ u.testBit (m % 10) = false) := fun z => by rw [q] at z; cases z.2
          rw [if_pos q, if_pos rfl, if_neg hq]
          rfl
        · have q2 : u.testBit (m % 10) = false := by simpa using q
          have hq : ((1 ≤ m % 10 ∧ m % 10 ≤ nt) ∧ u.testBit (m % 10) = false) := ⟨g, q2⟩
          rw [if_neg q, if_neg (show ¬ (0 : Int32) = 1 by decide), if_pos hq]
          refine ih (k + 1) n (u ||| 2 ^ (m % 10)) (m / 10) _ (by omega) (by omega) (by rw [Nat.pow_succ] at h10; omega) (by omega) ?_
          intro i
          rw [bt_set (by omega), tb_or, hu]
      · rw [wi_n (a := 1) (b := nt) (lo := 1) (hi := σ.1 106) (fun z => g ((Rg.nat (by omega) (by omega)).mp z)) (by omega) (by omega) rfl h106, b0]
        have hq : ¬ ((1 ≤ m % 10 ∧ m % 10 ≤ nt) ∧ u.testBit (m % 10) = false) := fun z => g z.1
        rw [if_neg hq]
        rfl
theorem told_v {σ : St} {nt : Nat} (h106 : σ.1 106 = nI nt) (hnt : nt ≤ 7) (x : Int32) : (RwI nt x ∧ f_X7_isTold σ x = some (1, σ)) ∨ (¬ RwI nt x ∧ f_X7_isTold σ x = some (0, σ)) := by
  by_cases hR : Rg 1 7654321 x
  · obtain ⟨m, h1, hm, rfl⟩ := id hR
    have e : f_X7_isTold σ (nI m) = some (if okR nt 7 0 m = true then 1 else 0, σ) := by
      unfold f_X7_isTold
      rw [if_neg (show ¬ nI m < (1 : Int32) from fun z => absurd ((nlt (b := 1) (by omega) (by omega)).mp z) (by omega)), if_pos (show nI m ≤ (7654321 : Int32) from (nle (b := 7654321) (by omega) (by omega)).mpr hm)]
      exact told_L h106 hnt 7 0 FU 0 m 0 (by omega) (by unfold FU; omega) (by omega) (by omega) (fun i => by rw [b_0, Nat.zero_testBit])
    by_cases g : okR nt 7 0 m = true
    · rw [e, if_pos g]
      exact Or.inl ⟨⟨m, rfl, by omega, g⟩, rfl⟩
    · rw [e, if_neg g]
      refine Or.inr ⟨?_, rfl⟩
      rintro ⟨m', e, h1, h2⟩
      have hle := RwN.le hnt ⟨h1, h2⟩
      have : m = m' := (neq (by omega) (by omega)).mp e
      subst this
      exact g h2
  · refine Or.inr ⟨fun ⟨m, e, h⟩ => hR ⟨m, h.1, RwN.le hnt h, e⟩, ?_⟩
    unfold f_X7_isTold
    by_cases h : x < 1
    · rw [if_pos h]
    · rw [if_neg h, if_neg]
      intro g
      have h' : ¬ x < 0 := fun z => by
        rw [Int32.lt_iff_toInt_lt] at h z
        have z : x.toInt < 0 := z
        have h : ¬ x.toInt < 1 := h
        omega
      obtain ⟨j, hj, e⟩ := nI_of2 (n := 7654321) (M := 7654321) rfl h' g
      subst e
      have : ¬ j < 1 := fun z => h ((nlt (b := 1) (by omega) (by omega)).mpr z)
      exact hR ⟨j, by omega, hj, rfl⟩
/-- the figures as the reference lays them -/
def dg (m k : Nat) : Nat := m / 10 ^ k % 10
theorem dg_0 (m : Nat) : dg m 0 = m % 10 := by unfold dg; rw [Nat.pow_zero, Nat.div_one]
theorem dg_s (m k : Nat) : dg m (k + 1) = dg (m / 10) k := by unfold dg; rw [Nat.pow_succ, Nat.mul_comm, Nat.div_div_eq_div_mul]
theorem lay_fill {τ : St} : ∀ (L n m : Nat) (τ1 : St), L ≤ 7 → L < n → m < 2 ^ 31 → SM τ τ1 → ∃ τ', f_X11_layRow_L121 n τ1 1 (nI m) (nI L + (-1)) = some (1, τ') ∧ SM τ τ' ∧ τ'.1 = τ1.1 ∧ (∀ j, τ'.2.2 5 j = if j < L then nI (dg m (L - 1 - j)) - 1 else τ1.2.2 5 j) := by
  intro L
  induction L with
  | zero =>
    intro n m τ1 hL hn hm hS
    obtain ⟨n, rfl⟩ : ∃ m, n = m + 1 := ⟨n - 1, by omega⟩
    refine ⟨τ1, ?_, hS, rfl, fun j => by rw [if_neg (by omega)]⟩
    show f_X11_layRow_b121 _ τ1 1 (nI m) (nI 0 + (-1)) = _
    unfold f_X11_layRow_b121
    rw [if_pos (by decide)]
    rfl
  | succ L ih =>
    intro n m τ1 hL hn hm hS
    obtain ⟨n, rfl⟩ : ∃ m, n = m + 1 := ⟨n - 1, by omega⟩
    obtain ⟨τ', e, h1, h2, h3⟩ := ih n (m / 10) (sE τ1 5 L (nI (m % 10) - 1)) (by omega) (by omega) (by omega) (hS.tr (SM.e τ1 5 L _ (by decide)))
    refine ⟨τ', ?_, h1, h2, ?_⟩
    · rw [← e]
      show f_X11_layRow_b121 _ τ1 1 (nI m) (nI (L + 1) + (-1)) = _
      unfold f_X11_layRow_b121
      rw [pk_m1, if_neg (nI_pos (by omega)), if_neg (show ¬ (1 : Int32) = 0 by decide), ck_nI (by omega) (by omega), cT, r10 hm, d10 hm, nI_clamp (by omega)]
    · intro j
      rw [h3, sE3, if_pos rfl, upd_a]
      by_cases g1 : j < L
      · rw [if_pos g1, if_pos (by omega), show L + 1 - 1 - j = (L - 1 - j) + 1 by omega, dg_s]
      · rw [if_neg g1]
        by_cases g2 : j = L
        · rw [if_pos g2, if_pos (by omega), show L + 1 - 1 - j = 0 by omega, dg_0]
        · rw [if_neg g2, if_neg (by omega)]
theorem lay_no (n : Nat) (τ1 : St) (x y : Int32) : f_X11_layRow_L121 (n + 1) τ1 0 x y = some (0, τ1) := by
  show f_X11_layRow_b121 _ τ1 0 x y = _
  unfold f_X11_layRow_b121
  by_cases h : y < 0
  · rw [if_pos h]; rfl
  · rw [if_neg h, if_pos rfl]; rfl
theorem lay_no28 (n : Nat) (τ1 : St) (x y z : Int32) : f_X11_layRow_L28 (n + 1) τ1 x y 0 z = some (0, τ1) := by
  show f_X11_layRow_b28 _ τ1 x y 0 z = _
  unfold f_X11_layRow_b28
  have : f_X11_layRow_b110 τ1 x 0 = some (0, τ1) := lay_no _ τ1 x _
  by_cases h : z ≤ 0
  · rw [if_pos h, this]
  · rw [if_neg h, if_pos rfl, this]
theorem lay_L {τ : St} {nt : Nat} (h0 : τ.2.2 1 0 = nI nt) (hnt : nt ≤ 7) (X : Int32) : ∀ (d k n u m : Nat) (x2 : Int32) (τ1 : St), k + d = 7 → d + 1 < n → m < 2 ^ 31 → (∀ i, bt x2 i = u.testBit (i + 1)) → SM τ τ1 → τ1.1 7 = nI k → (okR nt d u m = true → ∃ τ2 L, f_X11_layRow_L28 n τ1 X x2 1 (nI m) = f_X11_layRow_b110 τ2 X 1 ∧ SM τ τ2 ∧ L ≤ d ∧ m < 10 ^ L ∧ (0 < L → 10 ^ (L - 1) ≤ m) ∧ τ2.1 7 = nI (k + L)) ∧ (okR nt d u m = false → ∃ τ2, f_X11_layRow_L28 n τ1 X x2 1 (nI m) = some (0, τ2) ∧ SM τ τ2) := by
  intro d
  induction d with
  | zero =>
    intro k n u m x2 τ1 hk hn hm hu hS h7
    obtain ⟨n, rfl⟩ : ∃ m, n = m + 2 := ⟨n - 2, by omega⟩
    have hk : k = 7 := by omega
    subst hk
    have e : f_X11_layRow_L28 (n + 2) τ1 X x2 1 (nI m) = f_X11_layRow_b28 (f_X11_layRow_L28 (n + 1)) τ1 X x2 1 (nI m) := rfl
    rw [e]
    unfold f_X11_layRow_b28
    constructor
    · intro h
      have hm0 : m = 0 := by simpa [okR] using h
      subst hm0
      rw [if_pos (by decide)]
      exact ⟨τ1, 0, rfl, hS, by omega, by omega, fun z => absurd z (by omega), h7⟩
    · intro h
      have hm0 : m ≠ 0 := by simpa [okR] using h
      rw [if_neg (nI_nle (by omega) hm), if_neg (show ¬ (1 : Int32) = 0 by decide), h7, if_pos (by decide)]
      unfold f_X11_layRow_b77 f_X11_layRow_b78
      rw [if_pos rfl]
      exact ⟨τ1, lay_no28 n τ1 _ _ _, hS⟩
  | succ d ih =>
    intro k n u m x2 τ1 hk hn hm hu hS h7
    obtain ⟨n, rfl⟩ : ∃ m, n = m + 2 := ⟨n - 2, by omega⟩
    have e : f_X11_layRow_L28 (n + 2) τ1 X x2 1 (nI m) = f_X11_layRow_b28 (f_X11_layRow_L28 (n + 1)) τ1 X x2 1 (nI m) := rfl
    rw [e]
    unfold f_X11_layRow_b28
    rw [okR_s]
    by_cases hm0 : m = 0
    · subst hm0
      rw [if_pos (show (0 : Nat) = 0 from rfl), if_pos (show nI 0 ≤ 0 by decide)]
      exact ⟨fun _ => ⟨τ1, 0, rfl, hS, by omega, by omega, fun z => absurd z (by omega), h7⟩, fun h => by cases h⟩
    rw [if_neg (nI_nle (by omega) hm), if_neg (show ¬ (1 : Int32) = 0 by decide), h7, if_neg (show ¬ (7 : Int32) ≤ nI k from nI_ge (b := 7) (by omega) (by omega)), if_neg hm0, r10 hm]
    have h01 : τ1.2.2 1 0 = nI nt := by rw [hS.2.1 1 (by decide)]; exact h0
    have no : ∃ τ2, f_X11_layRow_b77 (f_X11_layRow_L28 (n + 1)) τ1 X x2 (nI m) (nI (m % 10) - 1) = some (0, τ2) ∧ SM τ τ2 := by
      unfold f_X11_layRow_b77 f_X11_layRow_b78
      rw [if_pos rfl]
      exact ⟨τ1, lay_no28 n τ1 _ _ _, hS⟩
    by_cases g : 1 ≤ m % 10 ∧ m % 10 ≤ nt
    · obtain ⟨j, hj⟩ : ∃ j, m % 10 = j + 1 := ⟨m % 10 - 1, by omega⟩
      have ej : nI (m % 10) - 1 = nI j := by rw [hj]; exact nI_pred j
      rw [ej] at no ⊢
      rw [isM_y h01 hnt ⟨j, by omega, rfl⟩, p1, has_v (by omega), hu, ← hj]
      by_cases q : u.testBit (m % 10) = true
      · rw [if_pos q, if_neg (fun z => by rw [q] at z; cases z.2), b1]
        exact ⟨fun h => (by cases h), fun _ => no⟩
      · have q2 : u.testBit (m % 10) = false := by simpa using q
        rw [if_neg q, b0, if_pos ⟨g, q2⟩]
        unfold f_X11_layRow_b78
        rw [if_neg (show ¬ (1 : Int32) = 0 by decide)]
        unfold f_X11_layRow_b100
        dsimp only
        rw [d10 hm]
        have h7' : (sI τ1 7 (τ1.1 7 + 1)).1 7 = nI (k + 1) := by rw [sI1, if_pos rfl, h7, nI_1]
        obtain ⟨A, B⟩ := ih (k + 1) (n + 1) (u ||| 2 ^ (m % 10)) (m / 10) (x2 ||| ((1 : Int32) <<< (nI j &&& 31))) (sI τ1 7 (τ1.1 7 + 1)) (by omega) (by omega) (by omega) (fun i => by rw [bt_set (by omega), tb_or, hu]; congr 1; rw [hj]; exact decide_eq_decide.mpr (by omega)) (hS.tr (SM.i τ1 7 _ (by omega))) h7'
        refine ⟨fun h => ?_, B⟩
        obtain ⟨τ2, L, e1, e2, e3, e4, e5, e6⟩ := A h
        refine ⟨τ2, L + 1, e1, e2, by omega, by rw [Nat.pow_succ]; omega, fun _ => ?_, by rw [e6]; congr 1; omega⟩
        show 10 ^ L ≤ m
        by_cases hL : L = 0
        · subst hL; rw [Nat.pow_zero]; omega
        · have := e5 (by omega)
          obtain ⟨l, rfl⟩ : ∃ l, L = l + 1 := ⟨L - 1, by omega⟩
          rw [Nat.pow_succ]
          have this : 10 ^ l ≤ m / 10 := this
          omega
    · have hT : ¬ Tr nt (nI (m % 10) - 1) := by
        rintro ⟨j, hj, ej⟩
        have : (nI (m % 10) - nI 1).toInt = ((m % 10 : Nat) : Int) - (1 : Nat) := pk_sub_toInt (by omega) (by omega)
        have e2 : (nI (m % 10) - 1).toInt = (j : Int) := by rw [ej, nI_toInt (by omega)]
        have : (nI (m % 10) - 1).toInt = ((m % 10 : Nat) : Int) - (1 : Nat) := this
        omega
      rw [isM_n h01 hnt hT, p0, if_neg (fun z => g z.1)]
      exact ⟨fun h => (by cases h), fun _ => no⟩
