/-! the fewest trees to part two trees -/
def pcN (k : Nat) : Nat := (k.testBit 0).toNat + (k.testBit 1).toNat + (k.testBit 2).toNat + (k.testBit 3).toNat + (k.testBit 4).toNat + (k.testBit 5).toNat + (k.testBit 6).toNat
theorem bits_pc : ∀ k : Fin 128, f_J6_bitCount_0f7a4 (nI k.val) = some (nI (pcN k.val)) ∧ f_X11_bits (nI k.val) = some (nI (pcN k.val)) := by decide +kernel
theorem pc_6 : ∀ a : Fin 7, ∀ k : Fin 128, k.val.testBit a.val = false → pcN k.val ≤ 6 := by decide +kernel
theorem pc_cut : ∀ p k : Fin 128, k.val &&& p.val ≠ 0 → (k.val &&& (127 ^^^ p.val)) < k.val ∧ pcN (k.val &&& (127 ^^^ p.val)) < pcN k.val := by decide +kernel
theorem pw2 : ∀ n : Fin 8, (1 : Int32) <<< (nI n.val &&& 31) = nI (2 ^ n.val) := by decide +kernel
theorem bt_nI {k : Nat} (hk : k < 128) (i : Nat) : bt (nI k) i = k.testBit i := by
  show (BitVec.ofNat 32 k).getLsbD i = k.testBit i
  rw [BitVec.getLsbD_ofNat]
  by_cases q : i < 32
  · simp [q]
  · have : k.testBit i = false := Nat.testBit_lt_two_pow (Nat.lt_of_lt_of_le hk (by
      calc 128 = 2 ^ 7 := by decide
        _ ≤ 2 ^ i := Nat.pow_le_pow_right (by omega) (by omega)))
    simp [this]
theorem and_0 (A B : Int32) : A &&& B = 0 ↔ ∀ i, bt A i = true → bt B i = false := by
  constructor
  · intro h i hA
    have : bt (A &&& B) i = false := by rw [h, b_0]
    rw [b_and, hA] at this
    simpa using this
  · intro h
    apply bt_none
    intro i hi
    rw [b_and] at hi
    simp only [Bool.and_eq_true] at hi
    rw [h i hi.1] at hi
    cases hi.2
theorem stn_ext {n : Nat} (hn : n ≤ 7) {f f' : Int32} (h : ∀ c, c < n → bt f c = bt f' c) : stn n f = stn n f' := by
  apply b_ext
  intro i _
  rw [stn_b hn, stn_b hn]
  by_cases q : i < n
  · rw [h i q]
  · rw [decide_eq_false q]; rfl
