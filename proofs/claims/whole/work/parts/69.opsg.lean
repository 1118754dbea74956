/-! letters, rows of trees, and the notes of them -/
theorem okL_s (d m : Nat) : okL (d + 1) m = if m = 0 then true else if 1 ≤ m % 10 ∧ m % 10 ≤ 4 then okL d (m / 10) else false := by
  show (m == 0 || (decide (1 ≤ m % 10 ∧ m % 10 ≤ 4) && okL d (m / 10))) = _
  by_cases h : m = 0
  · simp [h]
  · by_cases g : 1 ≤ m % 10 ∧ m % 10 ≤ 4
    · rw [if_neg h, if_pos g]; simp [h, g]
    · rw [if_neg h, if_neg g]; simp [h]; intro a b; omega
theorem Rg.nat {a b j : Nat} (hb : b < 2 ^ 31) (hj : j < 2 ^ 31) : Rg a b (nI j) ↔ a ≤ j ∧ j ≤ b := by rw [Rg.iff hb, nI_toInt hj]; omega
theorem d10 {m : Nat} (h : m < 2 ^ 31) : nI m / 10 = nI (m / 10) := pk_div (d := 10) h (by omega) (by omega)
theorem r10 {m : Nat} (h : m < 2 ^ 31) : nI m - nI m / 10 * 10 = nI (m % 10) := pk_rem (d := 10) h (by omega) (by omega)
theorem lt_C : ∀ (d k n m : Nat), k + d = 6 → d < n → m < 2 ^ 31 → f_X3_isLetter_L16 n (nI m) (nI k) = some (if okL d m = true then 1 else 0) := by
  intro d
  induction d with
  | zero =>
    intro k n m hk hn hm
    obtain ⟨n, rfl⟩ : ∃ m, n = m + 1 := ⟨n - 1, by omega⟩
    have hk : k = 6 := by omega
    subst hk
    show f_X3_isLetter_b16 _ (nI m) (nI 6) = _
    unfold f_X3_isLetter_b16
    rw [if_pos (by decide)]
    rfl
  | succ d ih =>
    intro k n m hk hn hm
    obtain ⟨n, rfl⟩ : ∃ m, n = m + 1 := ⟨n - 1, by omega⟩
    show f_X3_isLetter_b16 _ (nI m) (nI k) = _
    unfold f_X3_isLetter_b16
    rw [if_neg (show ¬ (6 : Int32) ≤ nI k from nI_ge (b := 6) (by omega) (by omega)), okL_s]
    by_cases h0 : m = 0
    · subst h0
      rw [if_pos (by decide), if_pos rfl]
      rfl
    · rw [if_neg (nI_nle (by omega) hm), if_neg h0, r10 hm, d10 hm, nI_1]
      by_cases g : 1 ≤ m % 10 ∧ m % 10 ≤ 4
      · rw [wi_y (a := 1) (b := 4) (lo := 1) (hi := 4) ((Rg.nat (by omega) (by omega)).mpr g) (by omega) (by omega) rfl rfl, b1, if_pos g]
        exact ih (k + 1) n (m / 10) (by omega) (by omega) (by omega)
      · rw [wi_n (a := 1) (b := 4) (lo := 1) (hi := 4) (fun z => g ((Rg.nat (by omega) (by omega)).mp z)) (by omega) (by omega) rfl rfl, b0, if_neg g]
        rfl
theorem lt_M0 (n : Nat) (x : Int32) : f_X11_isLetter_L12 (n + 1) 0 x = some 0 := by
  show f_X11_isLetter_b12 _ 0 x = _
  unfold f_X11_isLetter_b12
  by_cases h : x ≤ 0
  · rw [if_pos h]; rfl
  · rw [if_neg h, if_pos rfl]; rfl
theorem lt_M : ∀ (d n m : Nat), m < 10 ^ d → d + 1 < n → m < 2 ^ 31 → f_X11_isLetter_L12 n 1 (nI m) = some (if okL d m = true then 1 else 0) := by
  intro d
  induction d with
  | zero =>
    intro n m hk hn hm
    obtain ⟨n, rfl⟩ : ∃ m, n = m + 1 := ⟨n - 1, by omega⟩
    have h0 : m = 0 := by simpa using hk
    subst h0
    show f_X11_isLetter_b12 _ 1 (nI 0) = _
    unfold f_X11_isLetter_b12
    rw [if_pos (by decide)]
    rfl
  | succ d ih =>
    intro n m hk hn hm
    obtain ⟨n, rfl⟩ : ∃ m, n = m + 1 := ⟨n - 1, by omega⟩
    show f_X11_isLetter_b12 _ 1 (nI m) = _
    unfold f_X11_isLetter_b12
    rw [okL_s]
    by_cases h0 : m = 0
    · subst h0
      rw [if_pos (by decide), if_pos rfl]
      rfl
    · rw [if_neg (nI_nle (by omega) hm), if_neg h0, if_neg (show ¬ (1 : Int32) = 0 by decide), r10 hm, d10 hm]
      by_cases g : 1 ≤ m % 10 ∧ m % 10 ≤ 4
      · rw [in_y (a := 1) (b := 4) (lo := 1) (hi := 4) ((Rg.nat (by omega) (by omega)).mpr g) (by omega) (by omega) rfl rfl, bs, if_pos g]
        exact ih n (m / 10) (by rw [Nat.pow_succ] at hk; omega) (by omega) (by omega)
      · rw [in_n (a := 1) (b := 4) (lo := 1) (hi := 4) (fun z => g ((Rg.nat (by omega) (by omega)).mp z)) (by omega) (by omega) rfl rfl, bs, if_neg g]
        obtain ⟨n, rfl⟩ : ∃ m, n = m + 1 := ⟨n - 1, by omega⟩
        exact lt_M0 n _
theorem isL (x : Int32) : ∃ v : Int32, f_X3_isLetter x = some v ∧ f_X11_isLetter x = some v ∧ ((v = 1 ∧ LtI x) ∨ (v = 0 ∧ ¬ LtI x)) := by
  by_cases hR : Rg 0 444444 x
  · obtain ⟨m, -, hm, rfl⟩ := id hR
    refine ⟨if okL 6 m = true then 1 else 0, ?_, ?_, ?_⟩
    · unfold f_X3_isLetter
      rw [if_neg (nI_pos (by omega)), if_pos (show nI m ≤ (444444 : Int32) from (nle (b := 444444) (by omega) (by omega)).mpr hm)]
      exact lt_C 6 0 FU m (by omega) (by unfold FU; omega) (by omega)
    · unfold f_X11_isLetter
      rw [in_y (a := 0) (b := 444444) (lo := 0) (hi := 444444) hR (by omega) (by omega) rfl rfl, bs]
      exact lt_M 6 FU m (by omega) (by unfold FU; omega) (by omega)
    · by_cases g : okL 6 m = true
      · rw [if_pos g]
        exact Or.inl ⟨rfl, m, rfl, hm, g⟩
      · rw [if_neg g]
        refine Or.inr ⟨rfl, ?_⟩
        rintro ⟨m', e, h1, h2⟩
        have : m = m' := (neq (by omega) (by omega)).mp e
        subst this
        exact g h2
  · refine ⟨0, ?_, ?_, Or.inr ⟨rfl, fun ⟨m, e, h1, h2⟩ => hR ⟨m, by omega, h1, e⟩⟩⟩
    · unfold f_X3_isLetter
      by_cases h : x < 0
      · rw [if_pos h]
      · rw [if_neg h, if_neg]
        intro g
        obtain ⟨j, hj, e⟩ := nI_of2 (n := 444444) (M := 444444) rfl h g
        exact hR ⟨j, by omega, hj, e⟩
    · unfold f_X11_isLetter
      rw [in_n (a := 0) (b := 444444) (lo := 0) (hi := 444444) hR (by omega) (by omega) rfl rfl, bs]
      exact lt_M0 _ x
theorem bit_v {b : Nat} (hb : b < 32) (x : Int32) : (x >>> (nI b &&& 31)) &&& 1 = if bt x b = true then 1 else 0 := by
  apply b_ext
  intro i hi
  rw [b_and, b_sshr b hb x hi, bt_1]
  by_cases h0 : i = 0
  · subst h0
    rw [if_pos (by omega)]
    by_cases h : bt x b = true
    · rw [if_pos h, bt_1]; simp [h]
    · rw [if_neg h, b_0]; simp at h; simp [h]
  · by_cases h : bt x b = true
    · rw [if_pos h, bt_1]; simp [h0]
    · rw [if_neg h, b_0]; simp [h0]
theorem has_v {b : Nat} (hb : b < 32) (x : Int32) : f_X11_has x (nI b) = some (if bt x b = true then 1 else 0) := by
  unfold f_X11_has
  rw [bit_v hb]
  by_cases h : bt x b = true
  · rw [if_pos h, if_pos rfl]
  · rw [if_neg h, if_neg (by decide)]
