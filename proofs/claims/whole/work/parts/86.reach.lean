/-! the class's reach says the same -/
theorem and_not (A f : Int32) (c : Nat) : bt (A &&& (f ^^^ (-1))) c = true ↔ bt A c = true ∧ bt f c = false := by
  by_cases h : c < 32
  · rw [b_and, b_xor, b_m1 c h]
    cases bt A c <;> cases bt f c <;> simp
  · rw [b_big (by omega), b_big (x := A) (by omega)]
    simp
section REACH
variable {σ : St} {M : Nat → Int32} {n : Nat}
theorem j31 (h106 : σ.1 106 = nI n) (hn : n ≤ 7) (h3 : ∀ t, t < n → σ.2.2 3 t = M (13 + t)) (K12 : St → Int32 → Int32 → Int32 → Int32 → Option (Int32 × St)) (g f X : Int32) (s : Nat) : ∀ (d x fu : Nat) (Y : Int32), x + d = n → d < fu → ∃ Y', f_X7_joins_L31 K12 fu σ g f X (nI s) Y (nI x) = K12 σ g f Y' (nI (s + 1)) ∧ ∀ c, bt Y' c = true ↔ (bt Y c = true ∨ ∃ t, x ≤ t ∧ t < n ∧ bt X t = true ∧ bt (M (13 + t)) c = true ∧ bt f c = false) := by
  intro d
  induction d with
  | zero =>
    intro x fu Y hx hfu
    obtain ⟨fu, rfl⟩ : ∃ m, fu = m + 1 := ⟨fu - 1, by omega⟩
    refine ⟨Y, ?_, fun c => ⟨fun h => Or.inl h, fun h => h.elim id (fun ⟨t, h1, h2, _⟩ => absurd h1 (by omega))⟩⟩
    show f_X7_joins_b31 K12 _ σ g f X (nI s) Y (nI x) = _
    unfold f_X7_joins_b31
    rw [h106, if_pos ((nle (by omega) (by omega)).mpr (by omega)), nI_1]
  | succ d ih =>
    intro x fu Y hx hfu
    obtain ⟨fu, rfl⟩ : ∃ m, fu = m + 1 := ⟨fu - 1, by omega⟩
    have e : f_X7_joins_L31 K12 (fu + 1) σ g f X (nI s) Y (nI x) = f_X7_joins_b31 K12 (f_X7_joins_L31 K12 fu) σ g f X (nI s) Y (nI x) := rfl
    rw [e]
    unfold f_X7_joins_b31 f_X7_joins_b73
    rw [h106, if_neg (show ¬ nI n ≤ nI x from fun z => absurd ((nle (by omega) (by omega)).mp z) (by omega)), bit_v (show x < 32 by omega), nI_1, ck_nI (show x < 7 by omega) (by omega), cT, nI_clamp (show x < 2 ^ 31 by omega), h3 x (by omega)]
    by_cases q : bt X x = true
    · rw [if_pos q, if_pos rfl]
      obtain ⟨Y', z1, z2⟩ := ih (x + 1) fu (Y ||| (M (13 + x) &&& (f ^^^ (-1)))) (by omega) (by omega)
      refine ⟨Y', z1, fun c => ?_⟩
      rw [z2 c, b_or, Bool.or_eq_true, and_not]
      constructor
      · rintro ((h | h) | ⟨t, h1, h2, h3, h4⟩)
        · exact Or.inl h
        · exact Or.inr ⟨x, Nat.le_refl _, by omega, q, h.1, h.2⟩
        · exact Or.inr ⟨t, by omega, h2, h3, h4⟩
      · rintro (h | ⟨t, h1, h2, h3, h4, h5⟩)
        · exact Or.inl (Or.inl h)
        · by_cases et : t = x
          · subst et; exact Or.inl (Or.inr ⟨h4, h5⟩)
          · exact Or.inr ⟨t, by omega, h2, h3, h4, h5⟩
    · rw [if_neg q, if_neg (show ¬ (0 : Int32) = 1 by decide)]
      obtain ⟨Y', z1, z2⟩ := ih (x + 1) fu Y (by omega) (by omega)
      refine ⟨Y', z1, fun c => ?_⟩
      rw [z2 c]
      constructor
      · rintro (h | ⟨t, h1, h2, h3, h4⟩)
        · exact Or.inl h
        · exact Or.inr ⟨t, by omega, h2, h3, h4⟩
      · rintro (h | ⟨t, h1, h2, h3, h4, h5⟩)
        · exact Or.inl h
        · by_cases et : t = x
          · subst et; exact absurd h3 q
          · exact Or.inr ⟨t, by omega, h2, h3, h4, h5⟩
theorem joins_C (h106 : σ.1 106 = nI n) (hn : n ≤ 7) (h3 : ∀ t, t < n → σ.2.2 3 t = M (13 + t)) (h4 : ∀ t i, t < 7 → bt (M (13 + t)) i = true → i < n) {a g : Nat} (ha : a < n) (hg : g < n) (f : Int32) : ∃ b : Bool, f_X7_joins σ (nI a) (nI g) f = some (if b = true then 1 else 0, σ) ∧ (b = true ↔ Way M (stn n f) a g) := by
  have hs : ∀ c, bt (stn n f) c = true ↔ c < n ∧ bt f c = false := fun c => by
    rw [stn_b hn]
    simp
  have key : ∀ (d s fu : Nat) (X : Int32), 1 ≤ s → s + d = n → d < fu → (∀ c, bt X c = true → Way M (stn n f) a c) → (∀ r c, IsRow M (stn n f) a r → r.head? = some c → r.length ≤ s → bt X c = true) → ∃ b : Bool, f_X7_joins_L12 fu σ (nI g) f X (nI s) = some (if b = true then 1 else 0, σ) ∧ (b = true ↔ Way M (stn n f) a g) := by
    intro d
    induction d with
    | zero =>
      intro s fu X hs1 hsd hfu h1 h2
      obtain ⟨fu, rfl⟩ : ∃ m, fu = m + 1 := ⟨fu - 1, by omega⟩
      refine ⟨bt X g, ?_, fun h => h1 g h, fun ⟨r, hr, hh⟩ => h2 r g hr hh (by have := hr.len (fun c hc => ((hs c).mp hc).1); omega)⟩
      show f_X7_joins_b12 _ σ (nI g) f X (nI s) = _
      unfold f_X7_joins_b12
      rw [h106, if_pos ((nle (by omega) (by omega)).mpr (by omega)), bit_v (show g < 32 by omega)]
      by_cases q : bt X g = true
      · rw [if_pos q, if_pos rfl]
      · rw [if_neg q, if_neg (show ¬ (0 : Int32) = 1 by decide)]
    | succ d ih =>
      intro s fu X hs1 hsd hfu h1 h2
      obtain ⟨fu, rfl⟩ : ∃ m, fu = m + 1 := ⟨fu - 1, by omega⟩
      have e : f_X7_joins_L12 (fu + 1) σ (nI g) f X (nI s) = f_X7_joins_b12 (f_X7_joins_L12 fu) σ (nI g) f X (nI s) := rfl
      rw [e]
      unfold f_X7_joins_b12
      rw [h106, if_neg (show ¬ nI n ≤ nI s from fun z => absurd ((nle (by omega) (by omega)).mp z) (by omega))]
      obtain ⟨Y, y1, y2⟩ := j31 h106 hn h3 (f_X7_joins_L12 fu) (nI g) f X s n 0 FU X (by omega) (by unfold FU; omega)
      have y1 : f_X7_joins_L31 (f_X7_joins_L12 fu) FU σ (nI g) f X (nI s) X 0 = _ := y1
      rw [y1]
      refine ih (s + 1) fu Y (by omega) (by omega) (by omega) ?_ ?_
      · intro c hc
        rcases (y2 c).mp hc with h | ⟨t, -, ht, hX, hT, hF⟩
        · exact h1 c h
        · obtain ⟨r, hr, hh⟩ := h1 t hX
          have hcn : c < n := h4 t c (by omega) hT
          by_cases hm : c ∈ r
          · exact hr.cut hm
          · refine ⟨c :: r, hr.add ?_, rfl⟩
            cases r with
            | nil => cases hh
            | cons t' r' =>
              have : t' = t := by simpa using hh
              subst this
              have fe : fr M (stn n f) (t' :: r') c = (bt (M (13 + t')) c && bt (stn n f) c && !decide (c ∈ t' :: r')) := rfl
              rw [fe, hT, (hs c).mpr ⟨hcn, hF⟩, decide_eq_false hm]
              rfl
      · intro r c hr hh hlen
        by_cases hl : r.length ≤ s
        · exact (y2 c).mpr (Or.inl (h2 r c hr hh hl))
        · cases r with
          | nil => cases hh
          | cons c' r' =>
            have : c' = c := by simpa using hh
            subst this
            cases r' with
            | nil =>
              simp only [List.length_cons, List.length_nil] at hl hlen
              omega
            | cons t r'' =>
              obtain ⟨hf, hr'⟩ := hr
              have hX := h2 (t :: r'') t hr' rfl (by simp only [List.length_cons] at hlen ⊢; omega)
              have fe : fr M (stn n f) (t :: r'') c' = (bt (M (13 + t)) c' && bt (stn n f) c' && !decide (c' ∈ t :: r'')) := rfl
              rw [fe] at hf
              simp only [Bool.and_eq_true] at hf
              have ht : t < n := ((hs t).mp (hr'.sd t (List.mem_cons_self ..))).1
              exact (y2 c').mpr (Or.inr ⟨t, by omega, ht, hX, hf.1.1, ((hs c').mp hf.1.2).2⟩)
  unfold f_X7_joins
  have hX0 : ∀ c, bt (((1 : Int32) <<< (nI a &&& 31)) &&& (f ^^^ (-1))) c = true ↔ c = a ∧ bt f c = false := fun c => by
    rw [and_not, bt_shl1 (by omega)]
    simp
  refine key (n - 1) 1 FU _ (by omega) (by omega) (by unfold FU; omega) ?_ ?_
  · intro c hc
    obtain ⟨e, hf⟩ := (hX0 c).mp hc
    subst e
    exact ⟨[c], .one ((hs c).mpr ⟨ha, hf⟩), rfl⟩
  · intro r c hr hh hl
    cases r with
    | nil => cases hh
    | cons c' r' =>
      have : c' = c := by simpa using hh
      subst this
      cases r' with
      | nil =>
        obtain ⟨e, h⟩ := hr
        subst e
        exact (hX0 c').mpr ⟨rfl, ((hs c').mp h).2⟩
      | cons t r'' => simp only [List.length_cons] at hl; omega
end REACH
