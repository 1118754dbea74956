/-! counts and the digest -/
theorem low7 {x : Int32} {n : Nat} (hn : n ≤ 7) (h : ∀ i, bt x i = true → i < n) : ∃ k : Nat, k < 128 ∧ x = nI k ∧ ∀ i, k.testBit i = bt x i := by
  have e : x = x &&& 127 := by
    apply b_ext
    intro i hi
    rw [b_and]
    cases q : bt x i
    · rfl
    · have := h i q
      have e127 : ∀ i, i < 7 → bt 127 i = true := by decide +kernel
      rw [e127 i (by omega)]
      rfl
  obtain ⟨k, hk, e2⟩ := pk_andE x (m := 127) 7 (by decide)
  have hx : x = nI k := e.trans e2
  refine ⟨k, hk, hx, fun i => ?_⟩
  rw [hx]
  show k.testBit i = (BitVec.ofNat 32 k).getLsbD i
  rw [BitVec.getLsbD_ofNat]
  by_cases q : i < 32
  · simp [q]
  · have : k.testBit i = false := Nat.testBit_lt_two_pow (Nat.lt_of_lt_of_le hk (by
      calc 128 = 2 ^ 7 := by decide
        _ ≤ 2 ^ i := Nat.pow_le_pow_right (by omega) (by omega)))
    simp [this]
theorem bits_all : ∀ k : Fin 128, ∃ v : Fin 8, f_J6_bitCount_0f7a4 (nI k.val) = some (nI v.val) ∧ f_X11_bits (nI k.val) = some (nI v.val) := by decide +kernel
theorem bits_both {x : Int32} {n : Nat} (hn : n ≤ 7) (h : ∀ i, bt x i = true → i < n) : ∃ v : Int32, f_J6_bitCount_0f7a4 x = some v ∧ f_X11_bits x = some v := by
  obtain ⟨k, hk, rfl, -⟩ := low7 hn h
  obtain ⟨v, h1, h2⟩ := bits_all ⟨k, hk⟩
  exact ⟨_, h1, h2⟩
theorem touches_both {σ τ : St} (hR : RelP σ τ) : ∃ v : Int32, f_X2_touches_1 σ = some (v, σ) ∧ f_X11_manyTouches τ = some (v, τ) := by
  obtain ⟨n, nn, rn, un, se, hI⟩ := hR.n
  obtain ⟨k0, k3, k4, k5⟩ := hI.c0
  obtain ⟨⟨a1, a2⟩, ⟨s1, s2⟩, ⟨n1, n2⟩, ⟨r1, r2⟩, ⟨u1, u2⟩, hk, ht, hf, hno, hre, hun⟩ := id hI
  obtain ⟨f0, f1, f2, f3, f4, f5, g1, g2, g3, g4, g5, g6⟩ := id hR.2.1
  have e106 : σ.1 106 = nI n := f0.trans a1
  have key : ∀ (d k fu : Nat) (x : Int32), k + d = n → d < fu → ∃ v : Int32, f_X2_touches_1_L4 fu σ x (nI k) = some (v, σ) ∧ f_X11_manyTouches_L4 fu τ x (nI k) = some (v, τ) := by
    intro d
    induction d with
    | zero =>
      intro k fu x hk hfu
      obtain ⟨fu, rfl⟩ : ∃ m, fu = m + 1 := ⟨fu - 1, by omega⟩
      refine ⟨x / 2, ?_, ?_⟩
      · show f_X2_touches_1_b4 _ σ x (nI k) = _
        unfold f_X2_touches_1_b4
        rw [e106, if_pos ((nle (by omega) (by omega)).mpr (by omega))]
      · show f_X11_manyTouches_b4 _ τ x (nI k) = _
        unfold f_X11_manyTouches_b4 f_X11_many
        rw [bs]
        dsimp only
        rw [a1, if_pos ((nle (by omega) (by omega)).mpr (by omega))]
    | succ d ih =>
      intro k fu x hk hfu
      obtain ⟨fu, rfl⟩ : ∃ m, fu = m + 1 := ⟨fu - 1, by omega⟩
      obtain ⟨w, w1, w2⟩ := bits_both (x := τ.2.2 1 (13 + k)) a2 (fun i hb => (ht k i (by omega) hb).2.1)
      obtain ⟨v, v1, v2⟩ := ih (k + 1) fu (x + w) (by omega) (by omega)
      have hle : ¬ nI n ≤ nI k := fun z => absurd ((nle (by omega) (by omega)).mp z) (by omega)
      refine ⟨v, ?_, ?_⟩
      · rw [← v1]
        show f_X2_touches_1_b4 _ σ x (nI k) = _
        unfold f_X2_touches_1_b4
        rw [e106, if_neg hle, ck_nI (by omega) (by omega), cT, nI_clamp (by omega), g2 k (by omega), w1, bs, nI_1]
      · rw [← v2]
        show f_X11_manyTouches_b4 _ τ x (nI k) = _
        unfold f_X11_manyTouches_b4 f_X11_many
        rw [bs]
        dsimp only
        have e13 : (13 : Int32) + nI k = nI (13 + k) := nI_add 13 k
        rw [a1, if_neg hle, e13, ck_nI (by omega) (by omega), cT, nI_clamp (by omega), w2, bs, nI_1]
  exact key n 0 FU 0 (by omega) (by unfold FU; omega)
theorem cnt_both {σ τ : St} (hR : RelP σ τ) (x : Int32) : ∃ v : Int32, f_X10_howMuch σ x = some (v, σ) ∧ f_X11_counted τ x = some (v, τ) := by
  obtain ⟨n, nn, rn, un, se, hI⟩ := hR.n
  obtain ⟨f0, f1, f2, f3, f4, f5, -⟩ := id hR.2.1
  obtain ⟨tl, -, t1, t2, -⟩ := hR.2.2.2.2.1
  obtain ⟨w, w1, w2⟩ := bits_both hI.1.2 hI.2.2.2.2.2.2.2.1
  obtain ⟨z, z1, z2⟩ := touches_both hR
  unfold f_X10_howMuch f_X11_counted f_X11_many
  rw [f0, f1, f2, f3, f4, f5, t1, t2, w1, w2, z1, z2, bs, bs, bs, bs, bs]
  refine ⟨if x = 0 then τ.2.2 1 0 else if x = 1 then τ.2.2 1 2 else if x = 2 then w else if x = 3 then z else if x = 4 then τ.2.2 1 3 else if x = 5 then τ.2.2 1 4 else if x = 6 then τ.2.2 1 5 else nI tl, ?_, ?_⟩
  all_goals (repeat' split) <;> rfl
theorem op_count : Op1 RelP f_X10_count f_X11_count := by
  intro σ τ hR a
  unfold f_X10_count f_X11_count
  by_cases hC : ¬ Rg 0 7 a
  · exact ⟨-2, _, _, by rw [wi_n (a := 0) (b := 7) (lo := 0) (hi := 7) hC (by omega) (by omega) rfl rfl, b0]; rfl, by rw [in_n (a := 0) (b := 7) (lo := 0) (hi := 7) hC (by omega) (by omega) rfl rfl, b0]; rfl, hR.bad⟩
  have hC := Classical.not_not.mp hC
  rw [wi_y (a := 0) (b := 7) (lo := 0) (hi := 7) hC (by omega) (by omega) rfl rfl, in_y (a := 0) (b := 7) (lo := 0) (hi := 7) hC (by omega) (by omega) rfl rfl, b1, b1]
  obtain ⟨v, v1, v2⟩ := cnt_both hR a
  rw [v1, v2]
  exact ⟨v, σ, τ, rfl, rfl, hR⟩
theorem op_digest : OpL0 RelP f_X10_digest f_X11_digest := by
  intro σ τ hR
  obtain ⟨n, nn, rn, un, se, hI⟩ := hR.n
  obtain ⟨k0, k3, k4, k5⟩ := hI.c0
  obtain ⟨⟨a1, a2⟩, ⟨s1, s2⟩, ⟨n1, n2⟩, ⟨r1, r2⟩, ⟨u1, u2⟩, hk, ht, hf, hno, hre, hun⟩ := id hI
  obtain ⟨f0, f1, f2, f3, f4, f5, g1, g2, g3, g4, g5, g6⟩ := id hR.2.1
  obtain ⟨-, -, -, q4, q5⟩ := hR.2.2.2.2.2
  have e106 : σ.1 106 = nI n := f0.trans a1
  have e109 : σ.1 109 = nI nn := f3.trans n1
  have e110 : σ.1 110 = nI rn := f4.trans r1
  have m5 : nI nn * 5 = nI (5 * nn) := by rw [show (5 : Int32) = nI 5 from rfl, pk_mul, Nat.mul_comm]
  have m3 : nI rn * 3 = nI (3 * rn) := by rw [show (3 : Int32) = nI 3 from rfl, pk_mul, Nat.mul_comm]
  have w5 : (5 : Int32) * nI nn = nI (5 * nn) := pk_mul 5 nn
  have w3 : (3 : Int32) * nI rn = nI (3 * rn) := pk_mul 3 rn
  -- the last row
  have k143 : ∀ (d k fu : Nat) (x : Int64), k + d = 3 * rn → d < fu → ∃ v : Int64, f_X10_digest_L143 fu σ x (nI k) = some (31 * (31 * v + τ.2.1 4) + τ.2.1 5, σ) ∧ f_X11_sums_L6 fu τ 50 (nI (3 * rn)) x (nI k) = some (v, τ) := by
    intro d
    induction d with
    | zero =>
      intro k fu x hk hfu
      obtain ⟨fu, rfl⟩ : ∃ m, fu = m + 1 := ⟨fu - 1, by omega⟩
      refine ⟨x, ?_, ?_⟩
      · show f_X10_digest_b143 _ σ x (nI k) = _
        unfold f_X10_digest_b143
        rw [e110, m3, if_pos ((nle (by omega) (by omega)).mpr (by omega)), q4, q5]
      · show f_X11_sums_b6 _ τ 50 (nI (3 * rn)) x (nI k) = _
        unfold f_X11_sums_b6
        rw [if_pos ((nle (by omega) (by omega)).mpr (by omega))]
    | succ d ih =>
      intro k fu x hk hfu
      obtain ⟨fu, rfl⟩ : ∃ m, fu = m + 1 := ⟨fu - 1, by omega⟩
      have hle : ¬ nI (3 * rn) ≤ nI k := fun z => absurd ((nle (by omega) (by omega)).mp z) (by omega)
      obtain ⟨v, v1, v2⟩ := ih (k + 1) fu (31 * x + (τ.2.2 1 (50 + k)).toInt64) (by omega) (by omega)
      refine ⟨v, ?_, ?_⟩
      · rw [← v1]
        show f_X10_digest_b143 _ σ x (nI k) = _
        unfold f_X10_digest_b143
        rw [e110, m3, if_neg hle, ck_nI (by omega) (by omega), cT, nI_clamp (by omega), g4 k (by omega), nI_1]
      · rw [← v2]
        show f_X11_sums_b6 _ τ 50 (nI (3 * rn)) x (nI k) = _
        unfold f_X11_sums_b6
        have e50 : (50 : Int32) + nI k = nI (50 + k) := nI_add 50 k
        rw [if_neg hle, e50, ck_nI (by omega) (by omega), cT, nI_clamp (by omega), nI_1]
  have k105 : ∀ (d k fu : Nat) (x : Int64), k + d = 5 * nn → d < fu → ∃ v : Int64, f_X10_digest_L105 fu σ x (nI k) = f_X10_digest_L143 FU σ v 0 ∧ f_X11_sums_L6 fu τ 20 (nI (5 * nn)) x (nI k) = some (v, τ) := by
    intro d
    induction d with
    | zero =>
      intro k fu x hk hfu
      obtain ⟨fu, rfl⟩ : ∃ m, fu = m + 1 := ⟨fu - 1, by omega⟩
      refine ⟨x, ?_, ?_⟩
      · show f_X10_digest_b105 _ σ x (nI k) = _
        unfold f_X10_digest_b105
        rw [e109, m5, if_pos ((nle (by omega) (by omega)).mpr (by omega))]
      · show f_X11_sums_b6 _ τ 20 (nI (5 * nn)) x (nI k) = _
        unfold f_X11_sums_b6
        rw [if_pos ((nle (by omega) (by omega)).mpr (by omega))]
    | succ d ih =>
      intro k fu x hk hfu
      obtain ⟨fu, rfl⟩ : ∃ m, fu = m + 1 := ⟨fu - 1, by omega⟩
      have hle : ¬ nI (5 * nn) ≤ nI k := fun z => absurd ((nle (by omega) (by omega)).mp z) (by omega)
      obtain ⟨v, v1, v2⟩ := ih (k + 1) fu (31 * x + (τ.2.2 1 (20 + k)).toInt64) (by omega) (by omega)
      refine ⟨v, ?_, ?_⟩
      · rw [← v1]
        show f_X10_digest_b105 _ σ x (nI k) = _
        unfold f_X10_digest_b105
        rw [e109, m5, if_neg hle, ck_nI (by omega) (by omega), cT, nI_clamp (by omega), g3 k (by omega), nI_1]
      · rw [← v2]
        show f_X11_sums_b6 _ τ 20 (nI (5 * nn)) x (nI k) = _
        unfold f_X11_sums_b6
        have e50 : (20 : Int32) + nI k = nI (20 + k) := nI_add 20 k
        rw [if_neg hle, e50, ck_nI (by omega) (by omega), cT, nI_clamp (by omega), nI_1]
  have k33 : ∀ (d k fu : Nat) (x : Int64), k + d = n → d < fu → ∃ v : Int64, f_X10_digest_L33 fu σ x (nI k) = some (v, σ) ∧ f_X11_digest_L33 fu τ x (nI k) = some (v, τ) := by
    intro d
    induction d with
    | zero =>
      intro k fu x hk hfu
      obtain ⟨fu, rfl⟩ : ∃ m, fu = m + 1 := ⟨fu - 1, by omega⟩
      obtain ⟨v, v1, v2⟩ := k105 (5 * nn) 0 FU x (by omega) (by unfold FU; omega)
      obtain ⟨w, w1, w2⟩ := k143 (3 * rn) 0 FU v (by omega) (by unfold FU; omega)
      refine ⟨31 * (31 * w + τ.2.1 4) + τ.2.1 5, ?_, ?_⟩
      · show f_X10_digest_b33 _ σ x (nI k) = _
        unfold f_X10_digest_b33
        rw [e106, if_pos ((nle (by omega) (by omega)).mpr (by omega))]
        exact v1.trans w1
      · show f_X11_digest_b33 _ τ x (nI k) = _
        unfold f_X11_digest_b33 f_X11_many
        rw [bs]
        dsimp only
        rw [a1, if_pos ((nle (by omega) (by omega)).mpr (by omega)), n1, w5]
        unfold f_X11_sums
        have v2' : f_X11_sums_L6 FU τ 20 (nI (5 * nn)) x 0 = some (v, τ) := v2
        have w2' : f_X11_sums_L6 FU τ 50 (nI (3 * rn)) v 0 = some (w, τ) := w2
        rw [v2', bs]
        dsimp only
        rw [r1, w3, w2', bs]
    | succ d ih =>
      intro k fu x hk hfu
      obtain ⟨fu, rfl⟩ : ∃ m, fu = m + 1 := ⟨fu - 1, by omega⟩
      have hle : ¬ nI n ≤ nI k := fun z => absurd ((nle (by omega) (by omega)).mp z) (by omega)
      obtain ⟨v, v1, v2⟩ := ih (k + 1) fu (31 * (31 * (31 * x + (τ.2.2 1 (6 + k)).toInt64) + (((τ.2.2 1 1) >>> (nI k &&& 31)) &&& 1).toInt64) + (τ.2.2 1 (13 + k)).toInt64) (by omega) (by omega)
      refine ⟨v, ?_, ?_⟩
      · rw [← v1]
        show f_X10_digest_b33 _ σ x (nI k) = _
        unfold f_X10_digest_b33
        rw [e106, if_neg hle, ck_nI (by omega) (by omega), cT, cT, nI_clamp (by omega), g1 k (by omega), g2 k (by omega), f1, nI_1]
      · rw [← v2]
        show f_X11_digest_b33 _ τ x (nI k) = _
        unfold f_X11_digest_b33 f_X11_many
        rw [bs]
        dsimp only
        have e6 : (6 : Int32) + nI k = nI (6 + k) := nI_add 6 k
        have e13 : (13 : Int32) + nI k = nI (13 + k) := nI_add 13 k
        rw [a1, if_neg hle, e6, e13, ck_nI (by omega) (by omega), ck_nI (by omega) (by omega), cT, cT, nI_clamp (by omega), nI_clamp (by omega), nI_1]
  have k6 : ∀ (d k fu : Nat) (x : Int64), k + d = 8 → d < fu → ∃ v : Int64, f_X10_digest_L6 fu σ x (nI k) = some (v, σ) ∧ f_X11_digest_L6 fu τ x (nI k) = some (v, τ) := by
    intro d
    induction d with
    | zero =>
      intro k fu x hk hfu
      obtain ⟨fu, rfl⟩ : ∃ m, fu = m + 1 := ⟨fu - 1, by omega⟩
      have hk : k = 8 := by omega
      subst hk
      obtain ⟨v, v1, v2⟩ := k33 n 0 FU x (by omega) (by unfold FU; omega)
      refine ⟨v, ?_, ?_⟩
      · show f_X10_digest_b6 _ σ x (nI 8) = _
        unfold f_X10_digest_b6
        rw [if_pos (by decide)]
        exact v1
      · show f_X11_digest_b6 _ τ x (nI 8) = _
        unfold f_X11_digest_b6
        rw [if_pos (by decide)]
        exact v2
    | succ d ih =>
      intro k fu x hk hfu
      obtain ⟨fu, rfl⟩ : ∃ m, fu = m + 1 := ⟨fu - 1, by omega⟩
      have hle : ¬ (8 : Int32) ≤ nI k := nI_ge (b := 8) (by omega) (by omega)
      obtain ⟨c, c1, c2⟩ := cnt_both hR (nI k)
      obtain ⟨v, v1, v2⟩ := ih (k + 1) fu (31 * x + c.toInt64) (by omega) (by omega)
      refine ⟨v, ?_, ?_⟩
      · rw [← v1]
        show f_X10_digest_b6 _ σ x (nI k) = _
        unfold f_X10_digest_b6
        rw [if_neg hle, c1, bs, nI_1]
      · rw [← v2]
        show f_X11_digest_b6 _ τ x (nI k) = _
        unfold f_X11_digest_b6
        rw [if_neg hle, c2, bs, nI_1]
  obtain ⟨v, v1, v2⟩ := k6 8 0 FU 1319 (by omega) (by unfold FU; omega)
  exact ⟨v, σ, τ, v1, v2, hR⟩
