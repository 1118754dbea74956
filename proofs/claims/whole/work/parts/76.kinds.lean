/-! the start, and which kinds the notes leave -/
theorem start_ok : ∃ outM, f_X11_begin_1 σM0 0 = some outM ∧ RelP σC0 outM := by
  obtain ⟨τ', e1, hS, e2, e3⟩ := begin_1 σM0 0
  have hM : ∀ k, k < 68 → k ≠ 2 → τ'.2.2 1 k = 0 := by
    intro k h1 h2
    rw [e2, upd_a, if_neg h2]
    unfold bgF
    rw [if_pos h1]
  have hM2 : τ'.2.2 1 2 = nI 0 := by rw [e2, upd_a, if_pos rfl]; rfl
  have e33 : τ'.2.2 3 = σM0.2.2 3 := hS.2.1 3 (by decide)
  have e4 : τ'.2.2 4 = σM0.2.2 4 := hS.2.1 4 (by decide)
  refine ⟨τ', e1, ⟨0, 0, 0, 0, 0, Inv.empty (by omega) hM hM2⟩, ?_, ?_, ?_, ?_, ?_⟩
  · unfold FR1
    rw [hM 0 (by omega) (by omega), hM 1 (by omega) (by omega), hM2, hM 3 (by omega) (by omega), hM 4 (by omega) (by omega), hM 5 (by omega) (by omega)]
    refine ⟨rfl, rfl, rfl, rfl, rfl, rfl, ?_, ?_, ?_, ?_, ?_, ?_⟩ <;> intro t ht <;> exact absurd ht (by simp [sb_cl0])
  · unfold Im0
    rw [e33]
    exact ⟨rfl, Or.inl rfl⟩
  · unfold Im1
    rw [e33]
    exact ⟨rfl, Or.inl rfl⟩
  · exact ⟨0, by omega, rfl, by rw [hS.1]; rfl, fun k hk => absurd hk (by omega)⟩
  · unfold Msc
    rw [e4, hS.2.2]
    exact ⟨rfl, rfl, rfl, rfl, rfl⟩
theorem note_cp {σ τ : St} {n nn rn un se : Nat} (hI : Inv (τ.2.2 1) n nn rn un se) {k κ : Nat} (hk : k < nn) (hκ : κ < 6) : ∃ v w : Int32, f_X11_copyAs (nI κ) (τ.2.2 1 (21 + 5 * k)) (τ.2.2 1 (22 + 5 * k)) = some v ∧ kcopied κ (τ.2.2 1 (21 + 5 * k)) (τ.2.2 1 (22 + 5 * k)) = some v ∧ f_X11_takesAs (nI κ) (τ.2.2 1 (22 + 5 * k)) = some w ∧ klasts κ (τ.2.2 1 (22 + 5 * k)) = some w := by
  obtain ⟨-, ⟨m, e1, hm⟩, ⟨s, -, hs, e2⟩, -, -⟩ := hI.2.2.2.2.2.2.2.2.1 k hk
  obtain ⟨l, hl, hg, rfl⟩ := hm.list
  rw [e1, e2]
  exact ⟨_, _, cp_M hκ (by omega) hg hl, cp_C hκ (by omega) hg hl, tk_M hκ (by omega), tk_C hκ (by omega)⟩
theorem ifI {α : Type} {p : Prop} [Decidable p] (f : Int32 → α) (x y : Int32) : f (if p then x else y) = if p then f x else f y := by split <;> rfl
theorem stepM {σ τ : St} {n nn rn un se : Nat} (hI : Inv (τ.2.2 1) n nn rn un se) {k κ : Nat} (hk : k < nn) {v w : Int32} (h1 : f_X11_copyAs (nI κ) (τ.2.2 1 (21 + 5 * k)) (τ.2.2 1 (22 + 5 * k)) = some v) (h2 : f_X11_takesAs (nI κ) (τ.2.2 1 (22 + 5 * k)) = some w) (K4 : St → Int32 → Int32 → Int32 → Option (Int32 × St)) (K16 : St → Int32 → Int32 → Int32 → Int32 → Int32 → Option (Int32 × St)) (t x2 x4 : Int32) : f_X11_kindsOf_b16 K4 K16 τ t x2 (nI κ) x4 (nI k) = f_X11_kindsOf_b100 K4 K16 τ t x2 (nI κ) x4 (nI k) (nI (20 + 5 * k)) (if v = τ.2.2 1 (23 + 5 * k) ∧ w = τ.2.2 1 (24 + 5 * k) then 1 else 0) := by
  have n6 : nn ≤ 6 := hI.2.2.1.2
  have n1 : τ.2.2 1 3 = nI nn := hI.2.2.1.1
  have w0 : (20 : Int32) + 5 * nI k = nI (20 + 5 * k) := by rw [show (5 : Int32) = nI 5 from rfl, pk_mul]; exact nI_add 20 _
  have w1 : nI (20 + 5 * k) + 1 = nI (21 + 5 * k) := by rw [nI_1]; congr 1; omega
  have w2 : nI (20 + 5 * k) + 2 = nI (22 + 5 * k) := by rw [show (2 : Int32) = nI 2 from rfl, nI_add]; congr 1; omega
  have w3 : nI (20 + 5 * k) + 3 = nI (23 + 5 * k) := by rw [show (3 : Int32) = nI 3 from rfl, nI_add]; congr 1; omega
  have w4 : nI (20 + 5 * k) + 4 = nI (24 + 5 * k) := by rw [show (4 : Int32) = nI 4 from rfl, nI_add]; congr 1; omega
  unfold f_X11_kindsOf_b16 f_X11_kindsOf_b99
  rw [n1, if_neg (show ¬ nI nn ≤ nI k from fun z => absurd ((nle (by omega) (by omega)).mp z) (by omega)), w0, w1, w2, w3, w4, nI_clamp (show 21 + 5 * k < 2 ^ 31 by omega), nI_clamp (show 22 + 5 * k < 2 ^ 31 by omega), nI_clamp (show 23 + 5 * k < 2 ^ 31 by omega), nI_clamp (show 24 + 5 * k < 2 ^ 31 by omega), ck_nI (show 21 + 5 * k < 84 by omega) (by omega), ck_nI (show 22 + 5 * k < 84 by omega) (by omega), ck_nI (show 23 + 5 * k < 84 by omega) (by omega), ck_nI (show 24 + 5 * k < 84 by omega) (by omega), h1, h2]
  simp only [cT, bs]
  by_cases g1 : v = τ.2.2 1 (23 + 5 * k)
  · rw [if_pos g1]
    by_cases g2 : w = τ.2.2 1 (24 + 5 * k)
    · rw [if_pos g2, if_pos ⟨g1, g2⟩]
    · rw [if_neg g2, if_neg (fun z => g2 z.2)]
  · rw [if_neg g1, if_neg (fun z => g1 z.1)]
theorem stepC {σ τ : St} {n nn rn un se : Nat} (hI : Inv (τ.2.2 1) n nn rn un se) (hF : FR1 σ (τ.2.2 1)) {k κ : Nat} (hk : k < nn) (hκ : κ < 6) {v w : Int32} (h1 : kcopied κ (τ.2.2 1 (21 + 5 * k)) (τ.2.2 1 (22 + 5 * k)) = some v) (h2 : klasts κ (τ.2.2 1 (22 + 5 * k)) = some w) (K : St → Int32 → Int32 → Int32 → Option (Int32 × St)) (t : Int32) : f_X10_fitsAllNotes_b11 K σ (nI κ) t (nI k) = f_X10_fitsAllNotes_b88 K σ (nI κ) t (nI k) (nI (5 * k)) (if v = τ.2.2 1 (23 + 5 * k) ∧ w = τ.2.2 1 (24 + 5 * k) then 1 else 0) := by
  have n6 : nn ≤ 6 := hI.2.2.1.2
  have n1 : σ.1 109 = nI nn := hF.2.2.2.1.trans hI.2.2.1.1
  have g3 := hF.2.2.2.2.2.2.2.2.1
  rw [hI.c0.2.1] at g3
  have q0 : nI k * 5 = nI (5 * k) := by rw [show (5 : Int32) = nI 5 from rfl, pk_mul, Nat.mul_comm]
  have q1 : nI (5 * k) + 1 = nI (5 * k + 1) := nI_add _ 1
  have q2 : nI (5 * k) + 2 = nI (5 * k + 2) := nI_add _ 2
  have q3 : nI (5 * k) + 3 = nI (5 * k + 3) := nI_add _ 3
  have q4 : nI (5 * k) + 4 = nI (5 * k + 4) := nI_add _ 4
  have r1 : σ.2.2 4 (5 * k + 1) = τ.2.2 1 (21 + 5 * k) := by rw [g3 _ (by omega), show 20 + (5 * k + 1) = 21 + 5 * k by omega]
  have r2 : σ.2.2 4 (5 * k + 2) = τ.2.2 1 (22 + 5 * k) := by rw [g3 _ (by omega), show 20 + (5 * k + 2) = 22 + 5 * k by omega]
  have r3 : σ.2.2 4 (5 * k + 3) = τ.2.2 1 (23 + 5 * k) := by rw [g3 _ (by omega), show 20 + (5 * k + 3) = 23 + 5 * k by omega]
  have r4 : σ.2.2 4 (5 * k + 4) = τ.2.2 1 (24 + 5 * k) := by rw [g3 _ (by omega), show 20 + (5 * k + 4) = 24 + 5 * k by omega]
  unfold f_X10_fitsAllNotes_b11 f_X10_fitsAllNotes_b87
  rw [n1, if_neg (show ¬ nI nn ≤ nI k from fun z => absurd ((nle (by omega) (by omega)).mp z) (by omega)), q0, q1, q2, q3, q4, nI_clamp (show 5 * k + 1 < 2 ^ 31 by omega), nI_clamp (show 5 * k + 2 < 2 ^ 31 by omega), nI_clamp (show 5 * k + 3 < 2 ^ 31 by omega), nI_clamp (show 5 * k + 4 < 2 ^ 31 by omega), nI_clamp (show κ < 2 ^ 31 by omega), r1, r2, r3, r4, ck_nI (show 5 * k + 1 < 30 by omega) (by omega), ck_nI (show 5 * k + 2 < 30 by omega) (by omega), ck_nI (show 5 * k + 3 < 30 by omega) (by omega), ck_nI (show 5 * k + 4 < 30 by omega) (by omega), ck_nI (show κ < 6 by omega) (by omega), h1, h2]
  simp only [cT, bs]
  by_cases g1 : v = τ.2.2 1 (23 + 5 * k)
  · rw [if_pos g1]
    by_cases g2 : w = τ.2.2 1 (24 + 5 * k)
    · rw [if_pos g2, if_pos ⟨g1, g2⟩]
    · rw [if_neg g2, if_neg (fun z => g2 z.2)]
  · rw [if_neg g1, if_neg (fun z => g1 z.1)]
theorem inner0 {τ : St} {n nn rn un se : Nat} (hI : Inv (τ.2.2 1) n nn rn un se) {κ : Nat} (hκ : κ < 6) (K4 : St → Int32 → Int32 → Int32 → Option (Int32 × St)) (t x2 : Int32) : ∀ (d k fu : Nat), k + d = nn → d < fu → f_X11_kindsOf_L16 K4 fu τ t x2 (nI κ) 0 (nI k) = f_X11_kindsOf_b149 K4 τ t (nI κ) 0 x2 := by
  have n6 : nn ≤ 6 := hI.2.2.1.2
  have n1 : τ.2.2 1 3 = nI nn := hI.2.2.1.1
  intro d
  induction d with
  | zero =>
    intro k fu hk hfu
    obtain ⟨fu, rfl⟩ : ∃ m, fu = m + 1 := ⟨fu - 1, by omega⟩
    show f_X11_kindsOf_b16 K4 _ τ t x2 (nI κ) 0 (nI k) = _
    unfold f_X11_kindsOf_b16
    rw [n1, if_pos ((nle (by omega) (by omega)).mpr (by omega)), if_pos rfl]
  | succ d ih =>
    intro k fu hk hfu
    obtain ⟨fu, rfl⟩ : ∃ m, fu = m + 1 := ⟨fu - 1, by omega⟩
    obtain ⟨v, w, h1, -, h2, -⟩ := note_cp (σ := τ) hI (show k < nn by omega) hκ
    show f_X11_kindsOf_b16 K4 _ τ t x2 (nI κ) 0 (nI k) = _
    rw [stepM (σ := τ) hI (by omega) h1 h2]
    unfold f_X11_kindsOf_b100 f_X11_kindsOf_b127 f_X11_kindsOf_b128
    rw [if_pos rfl, nI_1]
    exact ih (k + 1) fu (by omega) (by omega)
theorem inner_both {σ τ : St} {n nn rn un se : Nat} (hI : Inv (τ.2.2 1) n nn rn un se) (hF : FR1 σ (τ.2.2 1)) {κ : Nat} (hκ : κ < 6) (t : Int32) : ∀ (d k fu : Nat), k + d = nn → d < fu → (f_X10_fitsAllNotes_L11 fu σ (nI κ) t (nI k) = some (1, σ) ∧ ∀ K4 x2, f_X11_kindsOf_L16 K4 fu τ t x2 (nI κ) 1 (nI k) = f_X11_kindsOf_b149 K4 τ t (nI κ) ((1 : Int32) <<< (nI κ &&& 31)) x2) ∨ (f_X10_fitsAllNotes_L11 fu σ (nI κ) t (nI k) = some (0, σ) ∧ ∀ K4 x2, f_X11_kindsOf_L16 K4 fu τ t x2 (nI κ) 1 (nI k) = f_X11_kindsOf_b149 K4 τ t (nI κ) 0 x2) := by
  have n6 : nn ≤ 6 := hI.2.2.1.2
  have n1 : τ.2.2 1 3 = nI nn := hI.2.2.1.1
  have n1c : σ.1 109 = nI nn := hF.2.2.2.1.trans n1
  have g3 := hF.2.2.2.2.2.2.2.2.1
  rw [hI.c0.2.1] at g3
  intro d
  induction d with
  | zero =>
    intro k fu hk hfu
    obtain ⟨fu, rfl⟩ : ∃ m, fu = m + 1 := ⟨fu - 1, by omega⟩
    left
    constructor
    · show f_X10_fitsAllNotes_b11 _ σ (nI κ) t (nI k) = _
      unfold f_X10_fitsAllNotes_b11
      rw [n1c, if_pos ((nle (by omega) (by omega)).mpr (by omega))]
    · intro K4 x2
      show f_X11_kindsOf_b16 K4 _ τ t x2 (nI κ) 1 (nI k) = _
      unfold f_X11_kindsOf_b16
      rw [n1, if_pos ((nle (by omega) (by omega)).mpr (by omega)), if_neg (show ¬ (1 : Int32) = 0 by decide)]
  | succ d ih =>
    intro k fu hk hfu
    obtain ⟨fu, rfl⟩ : ∃ m, fu = m + 1 := ⟨fu - 1, by omega⟩
    obtain ⟨v, w, h1, h3, h2, h4⟩ := note_cp (σ := τ) hI (show k < nn by omega) hκ
    have eC : f_X10_fitsAllNotes_L11 (fu + 1) σ (nI κ) t (nI k) = f_X10_fitsAllNotes_b88 (f_X10_fitsAllNotes_L11 fu) σ (nI κ) t (nI k) (nI (5 * k)) (if v = τ.2.2 1 (23 + 5 * k) ∧ w = τ.2.2 1 (24 + 5 * k) then 1 else 0) := stepC hI hF (by omega) hκ h3 h4 _ t
    have eM : ∀ K4 x2, f_X11_kindsOf_L16 K4 (fu + 1) τ t x2 (nI κ) 1 (nI k) = f_X11_kindsOf_b100 K4 (f_X11_kindsOf_L16 K4 fu) τ t x2 (nI κ) 1 (nI k) (nI (20 + 5 * k)) (if v = τ.2.2 1 (23 + 5 * k) ∧ w = τ.2.2 1 (24 + 5 * k) then 1 else 0) := fun K4 x2 => stepM (σ := τ) hI (by omega) h1 h2 K4 _ t x2 1
    have go := ih (k + 1) fu (by omega) (by omega)
    have c5 : (nI (5 * k)).toNatClampNeg = 5 * k := nI_clamp (by omega)
    have c20 : (nI (20 + 5 * k)).toNatClampNeg = 20 + 5 * k := nI_clamp (by omega)
    have r0 : σ.2.2 4 (5 * k) = τ.2.2 1 (20 + 5 * k) := g3 _ (by omega)
    have yesC : f_X10_fitsAllNotes_b105 (f_X10_fitsAllNotes_L11 fu) σ (nI κ) t (nI k) = f_X10_fitsAllNotes_L11 fu σ (nI κ) t (nI (k + 1)) := by unfold f_X10_fitsAllNotes_b105; rw [nI_1]
    have yesM : ∀ K4 x2, f_X11_kindsOf_b123 K4 (f_X11_kindsOf_L16 K4 fu) τ t x2 (nI κ) (nI k) = f_X11_kindsOf_L16 K4 fu τ t x2 (nI κ) 1 (nI (k + 1)) := fun K4 x2 => by unfold f_X11_kindsOf_b123 f_X11_kindsOf_b128; rw [nI_1]
    have noM : ∀ K4 x2, f_X11_kindsOf_b127 K4 (f_X11_kindsOf_L16 K4 fu) τ t x2 (nI κ) (nI k) = f_X11_kindsOf_b149 K4 τ t (nI κ) 0 x2 := fun K4 x2 => by
      unfold f_X11_kindsOf_b127 f_X11_kindsOf_b128
      rw [nI_1]
      exact inner0 hI hκ K4 t x2 d (k + 1) fu (by omega) (by omega)
    by_cases g : τ.2.2 1 (20 + 5 * k) = t
    · by_cases q : v = τ.2.2 1 (23 + 5 * k) ∧ w = τ.2.2 1 (24 + 5 * k)
      · have zC : f_X10_fitsAllNotes_L11 (fu + 1) σ (nI κ) t (nI k) = f_X10_fitsAllNotes_L11 fu σ (nI κ) t (nI (k + 1)) := by
          rw [eC, if_pos q]
          unfold f_X10_fitsAllNotes_b88
          rw [ck_nI (by omega) (by omega), cT, c5, r0, if_pos g, if_neg (show ¬ (1 : Int32) = 0 by decide), yesC]
        have zM : ∀ K4 x2, f_X11_kindsOf_L16 K4 (fu + 1) τ t x2 (nI κ) 1 (nI k) = f_X11_kindsOf_L16 K4 fu τ t x2 (nI κ) 1 (nI (k + 1)) := fun K4 x2 => by
          rw [eM, if_pos q]
          unfold f_X11_kindsOf_b100
          rw [if_neg (show ¬ (1 : Int32) = 0 by decide), ck_nI (by omega) (by omega), cT, c20, if_pos g, if_neg (show ¬ (1 : Int32) = 0 by decide), yesM]
        rw [zC]
        exact go.imp (fun z => ⟨z.1, fun K4 x2 => (zM K4 x2).trans (z.2 K4 x2)⟩) (fun z => ⟨z.1, fun K4 x2 => (zM K4 x2).trans (z.2 K4 x2)⟩)
      · right
        constructor
        · rw [eC, if_neg q]
          unfold f_X10_fitsAllNotes_b88
          rw [ck_nI (by omega) (by omega), cT, c5, r0, if_pos g, if_pos rfl]
        · intro K4 x2
          rw [eM, if_neg q]
          unfold f_X11_kindsOf_b100
          rw [if_neg (show ¬ (1 : Int32) = 0 by decide), ck_nI (by omega) (by omega), cT, c20, if_pos g, if_pos rfl, noM]
    · have zC : f_X10_fitsAllNotes_L11 (fu + 1) σ (nI κ) t (nI k) = f_X10_fitsAllNotes_L11 fu σ (nI κ) t (nI (k + 1)) := by
        rw [eC]
        unfold f_X10_fitsAllNotes_b88
        rw [ck_nI (by omega) (by omega), cT, c5, r0, if_neg g, yesC]
      have zM : ∀ K4 x2, f_X11_kindsOf_L16 K4 (fu + 1) τ t x2 (nI κ) 1 (nI k) = f_X11_kindsOf_L16 K4 fu τ t x2 (nI κ) 1 (nI (k + 1)) := fun K4 x2 => by
        rw [eM]
        unfold f_X11_kindsOf_b100
        rw [if_neg (show ¬ (1 : Int32) = 0 by decide), ck_nI (by omega) (by omega), cT, c20, if_neg g, yesM]
      rw [zC]
      exact go.imp (fun z => ⟨z.1, fun K4 x2 => (zM K4 x2).trans (z.2 K4 x2)⟩) (fun z => ⟨z.1, fun K4 x2 => (zM K4 x2).trans (z.2 K4 x2)⟩)
theorem kinds_both {σ τ : St} (hR : RelP σ τ) (t : Int32) : ∃ v : Int32, f_X10_fittingKinds σ t = some (v, σ) ∧ f_X11_kindsOf τ t = some (v, τ) ∧ (∀ i, bt v i = true → i < 6) := by
  obtain ⟨n, nn, rn, un, se, hI⟩ := hR.n
  have n6 : nn ≤ 6 := hI.2.2.1.2
  have key : ∀ (d κ fu : Nat) (x : Int32), κ + d = 6 → d < fu → (∀ i, bt x i = true → i < 6) → ∃ v : Int32, f_X10_fittingKinds_L4 fu σ t x (nI κ) = some (v, σ) ∧ f_X11_kindsOf_L4 fu τ t x (nI κ) = some (v, τ) ∧ (∀ i, bt v i = true → i < 6) := by
    intro d
    induction d with
    | zero =>
      intro κ fu x hk hfu hx
      obtain ⟨fu, rfl⟩ : ∃ m, fu = m + 1 := ⟨fu - 1, by omega⟩
      have hk : κ = 6 := by omega
      subst hk
      refine ⟨x, ?_, ?_, hx⟩
      · show f_X10_fittingKinds_b4 _ σ t x (nI 6) = _
        unfold f_X10_fittingKinds_b4
        rw [if_pos (by decide)]
      · show f_X11_kindsOf_b4 _ τ t x (nI 6) = _
        unfold f_X11_kindsOf_b4
        rw [if_pos (by decide)]
    | succ d ih =>
      intro κ fu x hk hfu hx
      obtain ⟨fu, rfl⟩ : ∃ m, fu = m + 1 := ⟨fu - 1, by omega⟩
      have hle : ¬ (6 : Int32) ≤ nI κ := nI_ge (b := 6) (by omega) (by omega)
      have eC : f_X10_fittingKinds_L4 (fu + 1) σ t x (nI κ) = f_X10_fittingKinds_b4 (f_X10_fittingKinds_L4 fu) σ t x (nI κ) := rfl
      have eM : f_X11_kindsOf_L4 (fu + 1) τ t x (nI κ) = f_X11_kindsOf_b4 (f_X11_kindsOf_L4 fu) τ t x (nI κ) := rfl
      rw [eC, eM]
      unfold f_X10_fittingKinds_b4 f_X11_kindsOf_b4 f_X10_fitsAllNotes f_X10_fittingKinds_b25
      rw [if_neg hle, if_neg hle]
      rcases inner_both hI hR.2.1 (show κ < 6 by omega) t nn 0 FU (by omega) (by unfold FU; omega) with ⟨h1, h2⟩ | ⟨h1, h2⟩
      · have h1 : f_X10_fitsAllNotes_L11 FU σ (nI κ) t 0 = some (1, σ) := h1
        have h2 : f_X11_kindsOf_L16 (f_X11_kindsOf_L4 fu) FU τ t x (nI κ) 1 0 = _ := h2 _ x
        rw [h1, h2, p1]
        unfold f_X11_kindsOf_b149
        dsimp only
        rw [nI_1]
        refine ih (κ + 1) fu _ (by omega) (by omega) ?_
        intro i hb
        rw [bt_set (by omega)] at hb
        by_cases e : i = κ
        · omega
        · simp [e] at hb; exact hx i hb
      · have h1 : f_X10_fitsAllNotes_L11 FU σ (nI κ) t 0 = some (0, σ) := h1
        have h2 : f_X11_kindsOf_L16 (f_X11_kindsOf_L4 fu) FU τ t x (nI κ) 1 0 = _ := h2 _ x
        rw [h1, h2, p0]
        unfold f_X11_kindsOf_b149
        dsimp only
        rw [nI_1, or_0]
        exact ih (κ + 1) fu _ (by omega) (by omega) hx
  exact key 6 0 FU 0 (by omega) (by unfold FU; omega) (fun i hb => by rw [b_0] at hb; cases hb)
theorem op_is : Op1 RelP f_X10_is f_X11_is := by
  intro σ τ hR a
  obtain ⟨n, nn, rn, un, se, hI⟩ := hR.n
  have a1 : τ.2.2 1 0 = nI n := hI.1.1
  have a2 : n ≤ 7 := hI.1.2
  have e106 : σ.1 106 = nI n := hR.2.1.1.trans a1
  unfold f_X10_is f_X11_is
  by_cases hA : ¬ Tr n a
  · exact ⟨-2, _, _, by rw [isT_n e106 a2 hA, p0]; rfl, by rw [isM_n a1 a2 hA, p0]; rfl, hR.bad⟩
  have hA := Classical.not_not.mp hA
  rw [isT_y e106 a2 hA, isM_y a1 a2 hA, p1, p1]
  dsimp only
  obtain ⟨v, v1, v2, -⟩ := kinds_both hR a
  rw [v1, v2]
  exact ⟨v, σ, τ, rfl, rfl, hR⟩
