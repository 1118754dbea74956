/-! words and numbers of the text, in both -/
def Wl (x2 x3 x4 x5 x6 x7 : Int32) (j : Nat) : Int32 := if nI j = 0 then x2 else if nI j = 1 then x3 else if nI j = 2 then x4 else if nI j = 3 then x5 else if nI j = 4 then x6 else x7
section WORDS
variable {B : Nat → Int32} {N : Nat}
theorem spl_0 (fu : Nat) (τ : St) (x1 x2 x3 x4 x5 x6 x7 x9 : Int32) : f_X11_spells_L26 (fu + 1) τ x1 x2 x3 x4 x5 x6 x7 0 x9 = some (0, τ) := by
  show f_X11_spells_b26 _ τ x1 x2 x3 x4 x5 x6 x7 0 x9 = _
  unfold f_X11_spells_b26 f_X11_spells_b119
  by_cases h : x1 ≤ x9
  · rw [if_pos h]; rfl
  · rw [if_neg h, if_pos rfl]; rfl
theorem spl_L {τ : St} (hX : τ.2.2 9 = B) {s z : Nat} (hz : z ≤ 5) (hs : s + z ≤ 150) (h19 : τ.1 19 = nI s) (x2 x3 x4 x5 x6 x7 : Int32) : ∀ (d j fu : Nat), j + d = z → d + 1 < fu → ∃ b : Bool, f_X11_spells_L26 fu τ (nI z) x2 x3 x4 x5 x6 x7 1 (nI j) = some (if b = true then 1 else 0, τ) ∧ (b = true ↔ ∀ i, j ≤ i → i < z → B (s + i) = Wl x2 x3 x4 x5 x6 x7 i) := by
  intro d
  induction d with
  | zero =>
    intro j fu hj hfu
    obtain ⟨fu, rfl⟩ : ∃ m, fu = m + 1 := ⟨fu - 1, by omega⟩
    refine ⟨true, ?_, fun _ i h1 h2 => by omega, fun _ => rfl⟩
    show f_X11_spells_b26 _ τ (nI z) x2 x3 x4 x5 x6 x7 1 (nI j) = _
    unfold f_X11_spells_b26 f_X11_spells_b119
    rw [if_pos ((nle (by omega) (by omega)).mpr (by omega))]
    rfl
  | succ d ih =>
    intro j fu hj hfu
    obtain ⟨fu, rfl⟩ : ∃ m, fu = m + 2 := ⟨fu - 2, by omega⟩
    obtain ⟨b, z1, z2⟩ := ih (j + 1) (fu + 1) (by omega) (by omega)
    have e : f_X11_spells_L26 (fu + 2) τ (nI z) x2 x3 x4 x5 x6 x7 1 (nI j) = f_X11_spells_b103 (f_X11_spells_L26 (fu + 1)) τ (nI z) x2 x3 x4 x5 x6 x7 (nI j) (Wl x2 x3 x4 x5 x6 x7 j) (B (s + j)) := by
      show f_X11_spells_b26 (f_X11_spells_L26 (fu + 1)) τ (nI z) x2 x3 x4 x5 x6 x7 1 (nI j) = _
      unfold f_X11_spells_b26
      rw [if_neg (show ¬ nI z ≤ nI j from fun z => absurd ((nle (by omega) (by omega)).mp z) (by omega)), if_neg (show ¬ (1 : Int32) = 0 by decide), h19, nI_add, ck_nI (show s + j < 150 by omega) (by omega), cT, nI_clamp (show s + j < 2 ^ 31 by omega), hX]
      unfold Wl
      by_cases c0 : nI j = 0
      · rw [if_pos c0, if_pos c0]
      · rw [if_neg c0, if_neg c0]
        by_cases c1 : nI j = 1
        · rw [if_pos c1, if_pos c1]
        · rw [if_neg c1, if_neg c1]
          by_cases c2 : nI j = 2
          · rw [if_pos c2, if_pos c2]
          · rw [if_neg c2, if_neg c2]
            by_cases c3 : nI j = 3
            · rw [if_pos c3, if_pos c3]
            · rw [if_neg c3, if_neg c3]
              by_cases c4 : nI j = 4
              · rw [if_pos c4, if_pos c4]
              · rw [if_neg c4, if_neg c4]
    rw [e]
    unfold f_X11_spells_b103 f_X11_spells_b111
    by_cases g : B (s + j) = Wl x2 x3 x4 x5 x6 x7 j
    · rw [if_pos g, nI_1]
      refine ⟨b, z1, z2.trans ⟨fun h i h1 h2 => ?_, fun h i h1 h2 => h i (by omega) h2⟩⟩
      by_cases q : i = j
      · rw [q]; exact g
      · exact h i (by omega) h2
    · rw [if_neg g]
      exact ⟨false, spl_0 fu τ _ _ _ _ _ _ _ _, fun h => (by cases h), fun h => absurd (h j (Nat.le_refl _) (by omega)) g⟩
theorem spells_M (hN : N ≤ 150) {τ : St} (hX : MX B N τ) {p : Nat} (hp : p ≤ N) (h : TM B N τ p) {z : Nat} (hz : z ≤ 5) (x2 x3 x4 x5 x6 x7 : Int32) : ∃ b : Bool, f_X11_spells τ (nI z) x2 x3 x4 x5 x6 x7 = some (if b = true then 1 else 0, τ) ∧ (b = true ↔ (tkK B N p = 1 ∧ tkE B N p - tkS B N p = z ∧ ∀ i, i < z → B (tkS B N p + i) = Wl x2 x3 x4 x5 x6 x7 i)) := by
  have hb := tkE_b B hp
  have no : f_X11_spells_b20 τ (nI z) x2 x3 x4 x5 x6 x7 = some (0, τ) := by
    unfold f_X11_spells_b20 f_X11_spells_b21
    obtain ⟨m, hF⟩ : ∃ m, FU = m + 1 := ⟨999999, rfl⟩
    rw [hF]
    exact spl_0 m τ _ _ _ _ _ _ _ _
  unfold f_X11_spells
  rw [h.2.2.1, h.2.1]
  by_cases g : tkK B N p = 1
  · rw [if_pos g]
    by_cases g2 : tkE B N p - tkS B N p = z
    · rw [if_pos (by rw [g2])]
      obtain ⟨b, z1, z2⟩ := spl_L (B := B) hX.2 (s := tkS B N p) hz (by omega) h.1 x2 x3 x4 x5 x6 x7 z 0 FU (by omega) (by unfold FU; omega)
      exact ⟨b, z1, z2.trans ⟨fun h => ⟨g, g2, fun i hi => h i (by omega) hi⟩, fun h i _ hi => h.2.2 i hi⟩⟩
    · rw [if_neg (fun e => g2 ((neq (by omega) (by omega)).mp e))]
      exact ⟨false, no, fun h => (by cases h), fun h => absurd h.2.1 g2⟩
  · rw [if_neg g]
    exact ⟨false, no, fun h => (by cases h), fun h => absurd h.1 g⟩
theorem len_S0 : f_J0_length_8abf5_S0 = some (nI 4) := by decide +kernel
theorem chr_S0 : ∀ i : Fin 4, f_J0_charAt_5068e_S0 (nI i.val) = some (Wl 119 111 111 100 0 0 i.val) := by decide +kernel
theorem spc_S0 {σ : St} {s : Nat} (hs : s + 4 ≤ 150) (h42 : ∀ k, k < s + 4 → σ.2.2 42 k = B k) (h4 : σ.1 4104 = nI s) : ∀ (d j fu : Nat), j + d = 4 → d < fu → ∃ b : Bool, f_X9_spells_S0_L20 fu σ (nI j) = some (if b = true then 1 else 0, σ) ∧ (b = true ↔ ∀ i, j ≤ i → i < 4 → B (s + i) = Wl 119 111 111 100 0 0 i) := by
  intro d
  induction d with
  | zero =>
    intro j fu hj hfu
    obtain ⟨fu, rfl⟩ : ∃ m, fu = m + 1 := ⟨fu - 1, by omega⟩
    refine ⟨true, ?_, fun _ i h1 h2 => by omega, fun _ => rfl⟩
    show f_X9_spells_S0_b20 _ σ (nI j) = _
    unfold f_X9_spells_S0_b20
    rw [len_S0, bs, if_pos ((nle (by omega) (by omega)).mpr (by omega))]
    rfl
  | succ d ih =>
    intro j fu hj hfu
    obtain ⟨fu, rfl⟩ : ∃ m, fu = m + 1 := ⟨fu - 1, by omega⟩
    obtain ⟨b, z1, z2⟩ := ih (j + 1) fu (by omega) (by omega)
    show ∃ b : Bool, f_X9_spells_S0_b20 (f_X9_spells_S0_L20 fu) σ (nI j) = _ ∧ _
    unfold f_X9_spells_S0_b20
    rw [len_S0, bs, if_neg (show ¬ nI 4 ≤ nI j from fun z => absurd ((nle (by omega) (by omega)).mp z) (by omega)), h4, nI_add, ck_nI (show s + j < 150 by omega) (by omega), cT, nI_clamp (show s + j < 2 ^ 31 by omega), chr_S0 ⟨j, by omega⟩, bs, h42 (s + j) (by omega), nI_1]
    by_cases g : B (s + j) = Wl 119 111 111 100 0 0 j
    · rw [if_pos g]
      refine ⟨b, z1, z2.trans ⟨fun h i h1 h2 => ?_, fun h i h1 h2 => h i (by omega) h2⟩⟩
      by_cases q : i = j
      · rw [q]; exact g
      · exact h i (by omega) h2
    · rw [if_neg g]
      exact ⟨false, rfl, fun h => (by cases h), fun h => absurd (h j (Nat.le_refl _) (by omega)) g⟩
theorem spC_S0 (hN : N ≤ 150) {σ : St} (hX : CX B N σ) {p : Nat} (hp : p ≤ N) (h : TC B N σ p) : ∃ b : Bool, f_X9_spells_S0 σ = some (if b = true then 1 else 0, σ) ∧ (b = true ↔ (tkE B N p - tkS B N p = 4 ∧ ∀ i, i < 4 → B (tkS B N p + i) = Wl 119 111 111 100 0 0 i)) := by
  have hb := tkE_b B hp
  unfold f_X9_spells_S0
  rw [len_S0, bs, h.1, h.2.1, pk_sub hb.1]
  by_cases g : tkE B N p - tkS B N p = 4
  · rw [if_pos (by rw [g])]
    obtain ⟨b, z1, z2⟩ := spc_S0 (B := B) (σ := σ) (s := tkS B N p) (by omega) (fun k hk => hX.2 k (by omega)) h.1 4 0 FU (by omega) (by unfold FU; omega)
    exact ⟨b, z1, z2.trans ⟨fun h => ⟨g, fun i hi => h i (by omega) hi⟩, fun h i _ hi => h.2 i hi⟩⟩
  · rw [if_neg (fun e => g ((neq (by omega) (by omega)).mp e))]
    exact ⟨false, rfl, fun h => (by cases h), fun h => absurd h.1 g⟩
theorem len_S1 : f_J0_length_8abf5_S1 = some (nI 4) := by decide +kernel
theorem chr_S1 : ∀ i : Fin 4, f_J0_charAt_5068e_S1 (nI i.val) = some (Wl 116 114 101 101 0 0 i.val) := by decide +kernel
theorem spc_S1 {σ : St} {s : Nat} (hs : s + 4 ≤ 150) (h42 : ∀ k, k < s + 4 → σ.2.2 42 k = B k) (h4 : σ.1 4104 = nI s) : ∀ (d j fu : Nat), j + d = 4 → d < fu → ∃ b : Bool, f_X9_spells_S1_L20 fu σ (nI j) = some (if b = true then 1 else 0, σ) ∧ (b = true ↔ ∀ i, j ≤ i → i < 4 → B (s + i) = Wl 116 114 101 101 0 0 i) := by
  intro d
  induction d with
  | zero =>
    intro j fu hj hfu
    obtain ⟨fu, rfl⟩ : ∃ m, fu = m + 1 := ⟨fu - 1, by omega⟩
    refine ⟨true, ?_, fun _ i h1 h2 => by omega, fun _ => rfl⟩
    show f_X9_spells_S1_b20 _ σ (nI j) = _
    unfold f_X9_spells_S1_b20
    rw [len_S1, bs, if_pos ((nle (by omega) (by omega)).mpr (by omega))]
    rfl
  | succ d ih =>
    intro j fu hj hfu
    obtain ⟨fu, rfl⟩ : ∃ m, fu = m + 1 := ⟨fu - 1, by omega⟩
    obtain ⟨b, z1, z2⟩ := ih (j + 1) fu (by omega) (by omega)
    show ∃ b : Bool, f_X9_spells_S1_b20 (f_X9_spells_S1_L20 fu) σ (nI j) = _ ∧ _
    unfold f_X9_spells_S1_b20
    rw [len_S1, bs, if_neg (show ¬ nI 4 ≤ nI j from fun z => absurd ((nle (by omega) (by omega)).mp z) (by omega)), h4, nI_add, ck_nI (show s + j < 150 by omega) (by omega), cT, nI_clamp (show s + j < 2 ^ 31 by omega), chr_S1 ⟨j, by omega⟩, bs, h42 (s + j) (by omega), nI_1]
    by_cases g : B (s + j) = Wl 116 114 101 101 0 0 j
    · rw [if_pos g]
      refine ⟨b, z1, z2.trans ⟨fun h i h1 h2 => ?_, fun h i h1 h2 => h i (by omega) h2⟩⟩
      by_cases q : i = j
      · rw [q]; exact g
      · exact h i (by omega) h2
    · rw [if_neg g]
      exact ⟨false, rfl, fun h => (by cases h), fun h => absurd (h j (Nat.le_refl _) (by omega)) g⟩
theorem spC_S1 (hN : N ≤ 150) {σ : St} (hX : CX B N σ) {p : Nat} (hp : p ≤ N) (h : TC B N σ p) : ∃ b : Bool, f_X9_spells_S1 σ = some (if b = true then 1 else 0, σ) ∧ (b = true ↔ (tkE B N p - tkS B N p = 4 ∧ ∀ i, i < 4 → B (tkS B N p + i) = Wl 116 114 101 101 0 0 i)) := by
  have hb := tkE_b B hp
  unfold f_X9_spells_S1
  rw [len_S1, bs, h.1, h.2.1, pk_sub hb.1]
  by_cases g : tkE B N p - tkS B N p = 4
  · rw [if_pos (by rw [g])]
    obtain ⟨b, z1, z2⟩ := spc_S1 (B := B) (σ := σ) (s := tkS B N p) (by omega) (fun k hk => hX.2 k (by omega)) h.1 4 0 FU (by omega) (by unfold FU; omega)
    exact ⟨b, z1, z2.trans ⟨fun h => ⟨g, fun i hi => h i (by omega) hi⟩, fun h i _ hi => h.2 i hi⟩⟩
  · rw [if_neg (fun e => g ((neq (by omega) (by omega)).mp e))]
    exact ⟨false, rfl, fun h => (by cases h), fun h => absurd h.1 g⟩
theorem len_S2 : f_J0_length_8abf5_S2 = some (nI 5) := by decide +kernel
theorem chr_S2 : ∀ i : Fin 5, f_J0_charAt_5068e_S2 (nI i.val) = some (Wl 116 111 117 99 104 0 i.val) := by decide +kernel
theorem spc_S2 {σ : St} {s : Nat} (hs : s + 5 ≤ 150) (h42 : ∀ k, k < s + 5 → σ.2.2 42 k = B k) (h4 : σ.1 4104 = nI s) : ∀ (d j fu : Nat), j + d = 5 → d < fu → ∃ b : Bool, f_X9_spells_S2_L20 fu σ (nI j) = some (if b = true then 1 else 0, σ) ∧ (b = true ↔ ∀ i, j ≤ i → i < 5 → B (s + i) = Wl 116 111 117 99 104 0 i) := by
  intro d
  induction d with
  | zero =>
    intro j fu hj hfu
    obtain ⟨fu, rfl⟩ : ∃ m, fu = m + 1 := ⟨fu - 1, by omega⟩
    refine ⟨true, ?_, fun _ i h1 h2 => by omega, fun _ => rfl⟩
    show f_X9_spells_S2_b20 _ σ (nI j) = _
    unfold f_X9_spells_S2_b20
    rw [len_S2, bs, if_pos ((nle (by omega) (by omega)).mpr (by omega))]
    rfl
  | succ d ih =>
    intro j fu hj hfu
    obtain ⟨fu, rfl⟩ : ∃ m, fu = m + 1 := ⟨fu - 1, by omega⟩
    obtain ⟨b, z1, z2⟩ := ih (j + 1) fu (by omega) (by omega)
    show ∃ b : Bool, f_X9_spells_S2_b20 (f_X9_spells_S2_L20 fu) σ (nI j) = _ ∧ _
    unfold f_X9_spells_S2_b20
    rw [len_S2, bs, if_neg (show ¬ nI 5 ≤ nI j from fun z => absurd ((nle (by omega) (by omega)).mp z) (by omega)), h4, nI_add, ck_nI (show s + j < 150 by omega) (by omega), cT, nI_clamp (show s + j < 2 ^ 31 by omega), chr_S2 ⟨j, by omega⟩, bs, h42 (s + j) (by omega), nI_1]
    by_cases g : B (s + j) = Wl 116 111 117 99 104 0 j
    · rw [if_pos g]
      refine ⟨b, z1, z2.trans ⟨fun h i h1 h2 => ?_, fun h i h1 h2 => h i (by omega) h2⟩⟩
      by_cases q : i = j
      · rw [q]; exact g
      · exact h i (by omega) h2
    · rw [if_neg g]
      exact ⟨false, rfl, fun h => (by cases h), fun h => absurd (h j (Nat.le_refl _) (by omega)) g⟩
theorem spC_S2 (hN : N ≤ 150) {σ : St} (hX : CX B N σ) {p : Nat} (hp : p ≤ N) (h : TC B N σ p) : ∃ b : Bool, f_X9_spells_S2 σ = some (if b = true then 1 else 0, σ) ∧ (b = true ↔ (tkE B N p - tkS B N p = 5 ∧ ∀ i, i < 5 → B (tkS B N p + i) = Wl 116 111 117 99 104 0 i)) := by
  have hb := tkE_b B hp
  unfold f_X9_spells_S2
  rw [len_S2, bs, h.1, h.2.1, pk_sub hb.1]
  by_cases g : tkE B N p - tkS B N p = 5
  · rw [if_pos (by rw [g])]
    obtain ⟨b, z1, z2⟩ := spc_S2 (B := B) (σ := σ) (s := tkS B N p) (by omega) (fun k hk => hX.2 k (by omega)) h.1 5 0 FU (by omega) (by unfold FU; omega)
    exact ⟨b, z1, z2.trans ⟨fun h => ⟨g, fun i hi => h i (by omega) hi⟩, fun h i _ hi => h.2 i hi⟩⟩
  · rw [if_neg (fun e => g ((neq (by omega) (by omega)).mp e))]
    exact ⟨false, rfl, fun h => (by cases h), fun h => absurd h.1 g⟩
theorem len_S3 : f_J0_length_8abf5_S3 = some (nI 4) := by decide +kernel
theorem chr_S3 : ∀ i : Fin 4, f_J0_charAt_5068e_S3 (nI i.val) = some (Wl 102 101 108 108 0 0 i.val) := by decide +kernel
theorem spc_S3 {σ : St} {s : Nat} (hs : s + 4 ≤ 150) (h42 : ∀ k, k < s + 4 → σ.2.2 42 k = B k) (h4 : σ.1 4104 = nI s) : ∀ (d j fu : Nat), j + d = 4 → d < fu → ∃ b : Bool, f_X9_spells_S3_L20 fu σ (nI j) = some (if b = true then 1 else 0, σ) ∧ (b = true ↔ ∀ i, j ≤ i → i < 4 → B (s + i) = Wl 102 101 108 108 0 0 i) := by
  intro d
  induction d with
  | zero =>
    intro j fu hj hfu
    obtain ⟨fu, rfl⟩ : ∃ m, fu = m + 1 := ⟨fu - 1, by omega⟩
    refine ⟨true, ?_, fun _ i h1 h2 => by omega, fun _ => rfl⟩
    show f_X9_spells_S3_b20 _ σ (nI j) = _
    unfold f_X9_spells_S3_b20
    rw [len_S3, bs, if_pos ((nle (by omega) (by omega)).mpr (by omega))]
    rfl
  | succ d ih =>
    intro j fu hj hfu
    obtain ⟨fu, rfl⟩ : ∃ m, fu = m + 1 := ⟨fu - 1, by omega⟩
    obtain ⟨b, z1, z2⟩ := ih (j + 1) fu (by omega) (by omega)
    show ∃ b : Bool, f_X9_spells_S3_b20 (f_X9_spells_S3_L20 fu) σ (nI j) = _ ∧ _
    unfold f_X9_spells_S3_b20
    rw [len_S3, bs, if_neg (show ¬ nI 4 ≤ nI j from fun z => absurd ((nle (by omega) (by omega)).mp z) (by omega)), h4, nI_add, ck_nI (show s + j < 150 by omega) (by omega), cT, nI_clamp (show s + j < 2 ^ 31 by omega), chr_S3 ⟨j, by omega⟩, bs, h42 (s + j) (by omega), nI_1]
    by_cases g : B (s + j) = Wl 102 101 108 108 0 0 j
    · rw [if_pos g]
      refine ⟨b, z1, z2.trans ⟨fun h i h1 h2 => ?_, fun h i h1 h2 => h i (by omega) h2⟩⟩
      by_cases q : i = j
      · rw [q]; exact g
      · exact h i (by omega) h2
    · rw [if_neg g]
      exact ⟨false, rfl, fun h => (by cases h), fun h => absurd (h j (Nat.le_refl _) (by omega)) g⟩
theorem spC_S3 (hN : N ≤ 150) {σ : St} (hX : CX B N σ) {p : Nat} (hp : p ≤ N) (h : TC B N σ p) : ∃ b : Bool, f_X9_spells_S3 σ = some (if b = true then 1 else 0, σ) ∧ (b = true ↔ (tkE B N p - tkS B N p = 4 ∧ ∀ i, i < 4 → B (tkS B N p + i) = Wl 102 101 108 108 0 0 i)) := by
  have hb := tkE_b B hp
  unfold f_X9_spells_S3
  rw [len_S3, bs, h.1, h.2.1, pk_sub hb.1]
  by_cases g : tkE B N p - tkS B N p = 4
  · rw [if_pos (by rw [g])]
    obtain ⟨b, z1, z2⟩ := spc_S3 (B := B) (σ := σ) (s := tkS B N p) (by omega) (fun k hk => hX.2 k (by omega)) h.1 4 0 FU (by omega) (by unfold FU; omega)
    exact ⟨b, z1, z2.trans ⟨fun h => ⟨g, fun i hi => h i (by omega) hi⟩, fun h i _ hi => h.2 i hi⟩⟩
  · rw [if_neg (fun e => g ((neq (by omega) (by omega)).mp e))]
    exact ⟨false, rfl, fun h => (by cases h), fun h => absurd h.1 g⟩
/-- a number is told there, and is at most x -/
def okN (B : Nat → Int32) (N p : Nat) (x : Int32) : Prop := tkK B N p = 2 ∧ ¬ x < nI (tkV B N p)
theorem num_C (hN : N ≤ 150) {σ : St} (hX : CX B N σ) {p : Nat} (hp : p ≤ N) (h : σ.1 4103 = nI p) (x : Int32) : ∃ σ', Rd σ σ' ∧ TC B N σ' p ∧ (okN B N p x → f_X9_takesNumber σ x = some (1, σ') ∧ σ'.1 4106 = nI (tkV B N p)) ∧ (¬ okN B N p x → f_X9_takesNumber σ x = some (0, σ')) := by
  obtain ⟨σ', z1, z2, z3⟩ := advance_C hN hX hp h
  refine ⟨σ', z2, z3, fun hk => ?_, fun hk => ?_⟩
  · unfold f_X9_takesNumber
    rw [z1, bs, z3.2.2.1, if_pos hk.1, z3.2.2.2 hk.1, if_neg hk.2]
    exact ⟨rfl, rfl⟩
  · unfold f_X9_takesNumber
    rw [z1, bs, z3.2.2.1]
    by_cases g : tkK B N p = 2
    · rw [if_pos g, z3.2.2.2 g, if_pos (Classical.not_not.mp (fun z => hk ⟨g, z⟩))]
    · rw [if_neg g]
theorem val_p {p : Nat} (hp : p ≤ N) (hk : tkK B N p = 2) : tkV B N p ≤ 99 := (val_b B (tkS_b B hp).2 hk).1
/-- all but the tokens and the values -/
def Rv (τ τ' : St) : Prop := (∀ k, k ≠ 19 → k ≠ 20 → k ≠ 21 → k ≠ 22 → τ'.1 k = τ.1 k) ∧ τ'.2.1 = τ.2.1 ∧ ∀ a, a ≠ 11 → τ'.2.2 a = τ.2.2 a
theorem Rm.rv {τ τ' : St} (h : Rm τ τ') : Rv τ τ' := ⟨h.1, by rw [h.2], fun a _ => by rw [h.2]⟩
theorem Rv.tr {a b c : St} (h : Rv a b) (g : Rv b c) : Rv a c := ⟨fun k h1 h2 h3 h4 => (g.1 k h1 h2 h3 h4).trans (h.1 k h1 h2 h3 h4), g.2.1.trans h.2.1, fun k hk => (g.2.2 k hk).trans (h.2.2 k hk)⟩
theorem MX.rv {τ τ' : St} (h : MX B N τ) (g : Rv τ τ') : MX B N τ' := ⟨(g.1 18 (by omega) (by omega) (by omega) (by omega)).trans h.1, by rw [g.2.2 9 (by omega)]; exact h.2⟩
theorem takes_M (hN : N ≤ 150) {τ : St} (hX : MX B N τ) {p : Nat} (hp : p ≤ N) (h : TM B N τ p) {j : Nat} (hj : j < 2) (x : Int32) : (okN B N p x → ∃ τ', f_X11_takes τ (nI j) 0 x = some (1, τ') ∧ Rv τ τ' ∧ TM B N τ' (tkE B N p) ∧ ∀ i, τ'.2.2 11 i = if i = j then nI (tkV B N p) else τ.2.2 11 i) ∧ (¬ okN B N p x → f_X11_takes τ (nI j) 0 x = some (0, τ)) := by
  refine ⟨fun hk => ?_, fun hk => ?_⟩
  · have hv := val_p hp hk.1
    have hin : f_X11_in ((nI (tkV B N p)).toInt64) ((0 : Int32).toInt64) x.toInt64 = some 1 := by
      have h2 := hk.2
      rw [Int32.lt_iff_toInt_lt, nI_toInt (by omega)] at h2
      unfold f_X11_in
      rw [if_neg, if_neg]
      · rw [lgc_gt, Int32.toInt_toInt64, Int32.toInt_toInt64, nI_toInt (by omega)]; omega
      · rw [lgc_lt, Int32.toInt_toInt64, Int32.toInt_toInt64, nI_toInt (by omega)]; show ¬ ((tkV B N p : Nat) : Int) < 0; omega
    have hX1 : MX B N (sE τ 11 j (nI (tkV B N p))) := hX
    have hT1 : TM B N (sE τ 11 j (nI (tkV B N p))) p := h
    obtain ⟨τ', z1, z2, z3⟩ := behind_M hN hX1 hp hT1
    refine ⟨τ', ?_, ⟨z2.1, by rw [z2.2]; rfl, fun a ha => by rw [z2.2, sE3, if_neg ha]⟩, z3, fun i => by rw [z2.2]; rfl⟩
    unfold f_X11_takes
    rw [h.2.2.1, if_pos hk.1, h.2.2.2 hk.1, hin, bs, if_neg (show ¬ (1 : Int32) = 0 by decide), ck_nI hj (by omega), cT, nI_clamp (show j < 2 ^ 31 by omega), z1, bs]
  · unfold f_X11_takes
    rw [h.2.2.1]
    by_cases g : tkK B N p = 2
    · have hv := val_p hp g
      have h2 : x < nI (tkV B N p) := Classical.not_not.mp (fun z => hk ⟨g, z⟩)
      rw [Int32.lt_iff_toInt_lt, nI_toInt (by omega)] at h2
      have hin : f_X11_in ((nI (tkV B N p)).toInt64) ((0 : Int32).toInt64) x.toInt64 = some 0 := by
        unfold f_X11_in
        rw [if_neg, if_pos]
        · rw [lgc_gt, Int32.toInt_toInt64, Int32.toInt_toInt64, nI_toInt (by omega)]; omega
        · rw [lgc_lt, Int32.toInt_toInt64, Int32.toInt_toInt64, nI_toInt (by omega)]; show ¬ ((tkV B N p : Nat) : Int) < 0; omega
      rw [if_pos g, h.2.2.2 g, hin, bs, if_pos rfl]
    · rw [if_neg g]
end WORDS
