/-! the letter that tells most -/
section ALIKE
variable (v : Int32) (cv tv : Nat → Int32)
def alk (i j : Nat) : Bool := bt v i && bt v j && decide (cv i = cv j) && decide (tv i = tv j)
def cnt (i : Nat) : Nat → Nat → Nat → Nat
  | 0, _, a => a
  | d + 1, j, a => cnt i d (j + 1) (if alk v cv tv i j = true then a + 1 else a)
def mxa : Nat → Nat → Nat → Nat
  | 0, _, b => b
  | d + 1, i, b => mxa d (i + 1) (if cnt v cv tv i 6 0 0 ≤ b then b else cnt v cv tv i 6 0 0)
theorem cnt_le (i : Nat) : ∀ d j a, cnt v cv tv i d j a ≤ a + d := by
  intro d
  induction d with
  | zero => intro j a; exact Nat.le_refl _
  | succ d ih =>
    intro j a
    have h1 := ih (j + 1) (if alk v cv tv i j = true then a + 1 else a)
    have h2 : (if alk v cv tv i j = true then a + 1 else a) ≤ a + 1 := by split <;> omega
    show cnt v cv tv i d (j + 1) (if alk v cv tv i j = true then a + 1 else a) ≤ _
    omega
theorem cnt_0 (i : Nat) (h : bt v i = false) : ∀ d j, cnt v cv tv i d j 0 = 0 := by
  intro d
  induction d with
  | zero => intro j; rfl
  | succ d ih =>
    intro j
    show cnt v cv tv i d (j + 1) _ = 0
    rw [if_neg (by unfold alk; rw [h]; simp)]
    exact ih (j + 1)
theorem mxa_le : ∀ d i b, b ≤ 6 → mxa v cv tv d i b ≤ 6 := by
  intro d
  induction d with
  | zero => intro i b h; exact h
  | succ d ih =>
    intro i b h
    have := cnt_le v cv tv i 6 0 0
    show mxa v cv tv d (i + 1) _ ≤ 6
    apply ih
    split <;> omega
end ALIKE
section NEXT
variable {v : Int32} {cv tv : Nat → Int32}
theorem c77 {σ : St} (h43 : ∀ i, i < 6 → σ.2.2 43 i = cv i) (h44 : ∀ i, i < 6 → σ.2.2 44 i = tv i) (K64 : St → Int32 → Int32 → Int32 → Option (Int32 × St)) (b i : Nat) (hi : i < 6) (hb : b ≤ 6) : ∀ (d j fu a : Nat), j + d = 6 → d < fu → a ≤ j → f_X10_mostAlike_L77 K64 fu σ v (nI b) (nI i) (nI a) (nI j) = K64 σ v (nI (if cnt v cv tv i d j a ≤ b then b else cnt v cv tv i d j a)) (nI (i + 1)) := by
  intro d
  induction d with
  | zero =>
    intro j fu a hj hfu ha
    obtain ⟨fu, rfl⟩ : ∃ m, fu = m + 1 := ⟨fu - 1, by omega⟩
    have hj : j = 6 := by omega
    subst hj
    show f_X10_mostAlike_b77 K64 _ σ v (nI b) (nI i) (nI a) (nI 6) = K64 σ v (nI (if a ≤ b then b else a)) (nI (i + 1))
    unfold f_X10_mostAlike_b77
    rw [if_pos (by decide), nI_1]
    by_cases g : a ≤ b
    · rw [if_neg (show ¬ nI b < nI a from fun z => absurd ((nlt (by omega) (by omega)).mp z) (by omega)), if_pos g]
    · rw [if_pos ((nlt (by omega) (by omega)).mpr (by omega)), if_neg g]
  | succ d ih =>
    intro j fu a hj hfu ha
    obtain ⟨fu, rfl⟩ : ∃ m, fu = m + 1 := ⟨fu - 1, by omega⟩
    have e : f_X10_mostAlike_L77 K64 (fu + 1) σ v (nI b) (nI i) (nI a) (nI j) = f_X10_mostAlike_b77 K64 (f_X10_mostAlike_L77 K64 fu) σ v (nI b) (nI i) (nI a) (nI j) := rfl
    have eb : ((v >>> (nI i &&& 31)) &&& (v >>> (nI j &&& 31))) &&& 1 = if bt v i = true ∧ bt v j = true then 1 else 0 := by
      apply b_ext
      intro q hq
      rw [b_and, b_and, b_sshr i (by omega) v hq, b_sshr j (by omega) v hq, bt_1]
      by_cases h0 : q = 0
      · subst h0
        rw [if_pos (by omega), if_pos (by omega), Nat.add_zero, Nat.add_zero]
        by_cases g : bt v i = true ∧ bt v j = true
        · rw [if_pos g, bt_1, g.1, g.2]; rfl
        · rw [if_neg g, b_0]
          cases h1 : bt v i <;> cases h2 : bt v j <;> simp_all
      · by_cases g : bt v i = true ∧ bt v j = true
        · rw [if_pos g, bt_1]; simp [h0]
        · rw [if_neg g, b_0]; simp [h0]
    have yes : f_X10_mostAlike_b148 K64 (f_X10_mostAlike_L77 K64 fu) σ v (nI b) (nI i) (nI a + 1) (nI j) = f_X10_mostAlike_L77 K64 fu σ v (nI b) (nI i) (nI (a + 1)) (nI (j + 1)) := by unfold f_X10_mostAlike_b148; rw [nI_1, nI_1]
    have no : f_X10_mostAlike_b148 K64 (f_X10_mostAlike_L77 K64 fu) σ v (nI b) (nI i) (nI a) (nI j) = f_X10_mostAlike_L77 K64 fu σ v (nI b) (nI i) (nI a) (nI (j + 1)) := by unfold f_X10_mostAlike_b148; rw [nI_1]
    have step : f_X10_mostAlike_b77 K64 (f_X10_mostAlike_L77 K64 fu) σ v (nI b) (nI i) (nI a) (nI j) = f_X10_mostAlike_L77 K64 fu σ v (nI b) (nI i) (nI (if alk v cv tv i j = true then a + 1 else a)) (nI (j + 1)) := by
      unfold f_X10_mostAlike_b77 f_X10_mostAlike_b104 alk
      rw [if_neg (show ¬ (6 : Int32) ≤ nI j from nI_ge (b := 6) (by omega) (by omega)), eb, ck_nI hi (by omega), ck_nI (show j < 6 by omega) (by omega), nI_clamp (show i < 2 ^ 31 by omega), nI_clamp (show j < 2 ^ 31 by omega), h43 i hi, h43 j (by omega), h44 i hi, h44 j (by omega), yes, no]
      simp only [cT]
      cases h1 : bt v i
      · simp
      · cases h2 : bt v j
        · simp
        · by_cases h3 : cv i = cv j
          · by_cases h4 : tv i = tv j
            · simp [h3, h4]
            · simp [h3, h4]
          · simp [h3]
    rw [e, step]
    refine (ih (j + 1) fu _ (by omega) (by omega) ?_).trans rfl
    split <;> omega
theorem c64 {σ : St} (h43 : ∀ i, i < 6 → σ.2.2 43 i = cv i) (h44 : ∀ i, i < 6 → σ.2.2 44 i = tv i) : ∀ (d i fu b : Nat), i + d = 6 → d < fu → b ≤ 6 → f_X10_mostAlike_L64 fu σ v (nI b) (nI i) = some (nI (mxa v cv tv d i b), σ) := by
  intro d
  induction d with
  | zero =>
    intro i fu b hi hfu hb
    obtain ⟨fu, rfl⟩ : ∃ m, fu = m + 1 := ⟨fu - 1, by omega⟩
    have hi : i = 6 := by omega
    subst hi
    show f_X10_mostAlike_b64 _ σ v (nI b) (nI 6) = _
    unfold f_X10_mostAlike_b64
    rw [if_pos (by decide)]
    rfl
  | succ d ih =>
    intro i fu b hi hfu hb
    obtain ⟨fu, rfl⟩ : ∃ m, fu = m + 1 := ⟨fu - 1, by omega⟩
    show f_X10_mostAlike_b64 (f_X10_mostAlike_L64 fu) σ v (nI b) (nI i) = _
    unfold f_X10_mostAlike_b64
    have := c77 (v := v) h43 h44 (f_X10_mostAlike_L64 fu) b i (by omega) hb 6 0 FU 0 (by omega) (by unfold FU; omega) (by omega)
    have this : f_X10_mostAlike_L77 (f_X10_mostAlike_L64 fu) FU σ v (nI b) (nI i) 0 0 = _ := this
    rw [if_neg (show ¬ (6 : Int32) ≤ nI i from nI_ge (b := 6) (by omega) (by omega)), this, ih (i + 1) fu _ (by omega) (by omega) (by have := cnt_le v cv tv i 6 0 0; split <;> omega)]
    rfl
theorem alike_C {σ : St} {x : Int32} (hc : ∀ i, i < 6 → kcopied i x (σ.1 108) = some (cv i)) (ht : ∀ i, i < 6 → klasts i (σ.1 108) = some (tv i)) : ∃ σ', f_X10_mostAlike σ v x = some (nI (mxa v cv tv 6 0 0), σ') ∧ SC σ σ' := by
  have key : ∀ (d i fu : Nat) (σ1 : St), i + d = 6 → d < fu → SC σ σ1 → σ1.1 = σ.1 → (∀ j, j < i → σ1.2.2 43 j = cv j ∧ σ1.2.2 44 j = tv j) → ∃ σ', f_X10_mostAlike_L2 fu σ1 v x (nI i) = some (nI (mxa v cv tv 6 0 0), σ') ∧ SC σ σ' := by
    intro d
    induction d with
    | zero =>
      intro i fu σ1 hi hfu hS e1 h
      obtain ⟨fu, rfl⟩ : ∃ m, fu = m + 1 := ⟨fu - 1, by omega⟩
      have hi : i = 6 := by omega
      subst hi
      refine ⟨σ1, ?_, hS⟩
      show f_X10_mostAlike_b2 _ σ1 v x (nI 6) = _
      unfold f_X10_mostAlike_b2
      rw [if_pos (by decide)]
      exact c64 (fun i hi => (h i hi).1) (fun i hi => (h i hi).2) 6 0 FU 0 (by omega) (by unfold FU; omega) (by omega)
    | succ d ih =>
      intro i fu σ1 hi hfu hS e1 h
      obtain ⟨fu, rfl⟩ : ∃ m, fu = m + 1 := ⟨fu - 1, by omega⟩
      have e : f_X10_mostAlike_L2 (fu + 1) σ1 v x (nI i) = f_X10_mostAlike_b2 (f_X10_mostAlike_L2 fu) σ1 v x (nI i) := rfl
      rw [e]
      unfold f_X10_mostAlike_b2
      rw [if_neg (show ¬ (6 : Int32) ≤ nI i from nI_ge (b := 6) (by omega) (by omega)), ck_nI (show i < 6 by omega) (by omega), nI_clamp (show i < 2 ^ 31 by omega), e1, hc i (by omega), ht i (by omega), nI_1]
      simp only [cT, bs]
      refine ih (i + 1) fu _ (by omega) (by omega) ((hS.tr (SC.e σ1 43 i _ (by decide))).tr (SC.e _ 44 i _ (by decide))) e1 ?_
      intro j hj
      have r43 : (sE (sE σ1 43 i (cv i)) 44 i (tv i)).2.2 43 j = if j = i then cv i else σ1.2.2 43 j := rfl
      have r44 : (sE (sE σ1 43 i (cv i)) 44 i (tv i)).2.2 44 j = if j = i then tv i else σ1.2.2 44 j := rfl
      rw [r43, r44]
      by_cases g : j = i
      · rw [if_pos g, if_pos g, g]; exact ⟨rfl, rfl⟩
      · rw [if_neg g, if_neg g]; exact h j (by omega)
  exact key 6 0 FU σ (by omega) (by unfold FU; omega) (SC.rf σ) rfl (fun j hj => absurd hj (by omega))
theorem n81 {τ : St} {x : Int32} (hc : ∀ i, i < 6 → f_X11_copyAs (nI i) x (τ.2.2 1 2) = some (cv i)) (ht : ∀ i, i < 6 → f_X11_takesAs (nI i) (τ.2.2 1 2) = some (tv i)) (K30 : St → Int32 → Int32 → Int32 → Int32 → Option (Int32 × St)) (K61 : St → Int32 → Int32 → Int32 → Int32 → Int32 → Int32 → Option (Int32 × St)) (y z w : Int32) (i : Nat) (hi : i < 6) : ∀ (d j fu a : Nat), j + d = 6 → d < fu → a ≤ j → (bt v i = false → a = 0) → f_X11_next_L81 K30 K61 fu τ v y z x w (nI i) (nI a) (nI j) = f_X11_next_b140 K30 K61 τ v y z x w (nI i) (nI (cnt v cv tv i d j a)) := by
  intro d
  induction d with
  | zero =>
    intro j fu a hj hfu ha hv
    obtain ⟨fu, rfl⟩ : ∃ m, fu = m + 1 := ⟨fu - 1, by omega⟩
    have hj : j = 6 := by omega
    subst hj
    show f_X11_next_b81 K30 K61 _ τ v y z x w (nI i) (nI a) (nI 6) = _
    unfold f_X11_next_b81
    rw [if_pos (by decide)]
    rfl
  | succ d ih =>
    intro j fu a hj hfu ha hv
    obtain ⟨fu, rfl⟩ : ∃ m, fu = m + 1 := ⟨fu - 1, by omega⟩
    have e : f_X11_next_L81 K30 K61 (fu + 1) τ v y z x w (nI i) (nI a) (nI j) = f_X11_next_b81 K30 K61 (f_X11_next_L81 K30 K61 fu) τ v y z x w (nI i) (nI a) (nI j) := rfl
    rw [e]
    unfold f_X11_next_b81
    rw [if_neg (show ¬ (6 : Int32) ≤ nI j from nI_ge (b := 6) (by omega) (by omega)), has_v (show i < 32 by omega), has_v (show j < 32 by omega)]
    by_cases h1 : bt v i = true
    · rw [if_pos h1, b1]
      have yes : f_X11_next_b131 K30 K61 (f_X11_next_L81 K30 K61 fu) τ v y z x w (nI i) (nI j) 1 (nI a) = f_X11_next_L81 K30 K61 fu τ v y z x w (nI i) (nI (a + 1)) (nI (j + 1)) := by unfold f_X11_next_b131; rw [nI_1, nI_1]
      have no : f_X11_next_b130 K30 K61 (f_X11_next_L81 K30 K61 fu) τ v y z x w (nI i) (nI j) (nI a) = f_X11_next_L81 K30 K61 fu τ v y z x w (nI i) (nI a) (nI (j + 1)) := by
        unfold f_X11_next_b130 f_X11_next_b131
        rw [nI_1, show (0 : Int32) = nI 0 from rfl, nI_add, Nat.add_zero]
      have step : ∀ b : Nat, (if alk v cv tv i j = true then a + 1 else a) = b → f_X11_next_L81 K30 K61 fu τ v y z x w (nI i) (nI b) (nI (j + 1)) = f_X11_next_b140 K30 K61 τ v y z x w (nI i) (nI (cnt v cv tv i (d + 1) j a)) := by
        intro b hb
        subst hb
        refine (ih (j + 1) fu _ (by omega) (by omega) (by split <;> omega) (fun q => by rw [h1] at q; cases q)).trans rfl
      by_cases h2 : bt v j = true
      · rw [if_pos h2, b1]
        unfold f_X11_doAlike
        rw [hc i hi, hc j (by omega), ht i hi, ht j (by omega), yes, no]
        simp only [bs]
        by_cases h3 : cv i = cv j
        · by_cases h4 : tv i = tv j
          · rw [if_pos h3, if_pos h4]
            exact step (a + 1) (by unfold alk; simp [h1, h2, h3, h4])
          · rw [if_pos h3, if_neg h4]
            exact step a (by unfold alk; simp [h1, h2, h3, h4])
        · rw [if_neg h3]
          exact step a (by unfold alk; simp [h1, h2, h3])
      · rw [if_neg h2, b0, no]
        have h2 : bt v j = false := by simpa using h2
        exact step a (by unfold alk; simp [h1, h2])
    · have h1 : bt v i = false := by simpa using h1
      rw [if_neg (by rw [h1]; decide), b0, hv h1, cnt_0 v cv tv i h1]
theorem n61 {τ : St} {x : Int32} (hc : ∀ i, i < 6 → f_X11_copyAs (nI i) x (τ.2.2 1 2) = some (cv i)) (ht : ∀ i, i < 6 → f_X11_takesAs (nI i) (τ.2.2 1 2) = some (tv i)) (K30 : St → Int32 → Int32 → Int32 → Int32 → Option (Int32 × St)) (y z : Int32) : ∀ (d i fu b : Nat), i + d = 6 → d < fu → b ≤ 6 → f_X11_next_L61 K30 fu τ v y z x (nI b) (nI i) = f_X11_next_b162 K30 τ v y z x (nI (mxa v cv tv d i b)) := by
  intro d
  induction d with
  | zero =>
    intro i fu b hi hfu hb
    obtain ⟨fu, rfl⟩ : ∃ m, fu = m + 1 := ⟨fu - 1, by omega⟩
    have hi : i = 6 := by omega
    subst hi
    show f_X11_next_b61 K30 _ τ v y z x (nI b) (nI 6) = _
    unfold f_X11_next_b61
    rw [if_pos (by decide)]
    rfl
  | succ d ih =>
    intro i fu b hi hfu hb
    obtain ⟨fu, rfl⟩ : ∃ m, fu = m + 1 := ⟨fu - 1, by omega⟩
    show f_X11_next_b61 K30 (f_X11_next_L61 K30 fu) τ v y z x (nI b) (nI i) = _
    unfold f_X11_next_b61
    have := n81 (v := v) hc ht K30 (f_X11_next_L61 K30 fu) y z (nI b) i (by omega) 6 0 FU 0 (by omega) (by unfold FU; omega) (by omega) (fun _ => rfl)
    have this : f_X11_next_L81 K30 (f_X11_next_L61 K30 fu) FU τ v y z x (nI b) (nI i) 0 0 = _ := this
    rw [if_neg (show ¬ (6 : Int32) ≤ nI i from nI_ge (b := 6) (by omega) (by omega)), if_neg (show ¬ (1000000 : Int32) ≤ nI b from nI_ge (b := 1000000) (by omega) (by omega)), this]
    have hcl := cnt_le v cv tv i 6 0 0
    unfold f_X11_next_b140 f_X11_next_b154
    have r : mxa v cv tv (d + 1) i b = mxa v cv tv d (i + 1) (if cnt v cv tv i 6 0 0 ≤ b then b else cnt v cv tv i 6 0 0) := rfl
    rw [r, nI_1]
    by_cases g : cnt v cv tv i 6 0 0 ≤ b
    · rw [if_pos ((nle (by omega) (by omega)).mpr g), if_pos g]
      exact ih (i + 1) fu b (by omega) (by omega) hb
    · rw [if_neg (fun q => g ((nle (by omega) (by omega)).mp q)), if_neg g]
      exact ih (i + 1) fu _ (by omega) (by omega) (by omega)
end NEXT
theorem op_next : Op1 RelP f_X10_next f_X11_next := by
  intro σ τ hR a
  obtain ⟨n, nn, rn, un, se, hI⟩ := hR.n
  have a1 : τ.2.2 1 0 = nI n := hI.1.1
  have a2 : n ≤ 7 := hI.1.2
  have e106 : σ.1 106 = nI n := hR.2.1.1.trans a1
  have s1 : τ.2.2 1 2 = nI se := hI.2.1.1
  have s2 : se ≤ 999 := hI.2.1.2
  unfold f_X10_next f_X11_next
  by_cases hA : ¬ Tr n a
  · exact ⟨-2, _, _, by rw [isT_n e106 a2 hA, p0]; rfl, by rw [isM_n a1 a2 hA, p0]; rfl, hR.bad⟩
  have hA := Classical.not_not.mp hA
  rw [isT_y e106 a2 hA, isM_y a1 a2 hA, p1, p1]
  dsimp only
  obtain ⟨v, v1, v2, v3⟩ := kinds_both hR a
  rw [v1, v2, bs, bs]
  dsimp only
  by_cases hv0 : v = 0
  · subst hv0
    exact ⟨-1, σ, τ, rfl, rfl, hR⟩
  have hvp : ¬ v ≤ 0 := by
    obtain ⟨k, hk, e, -⟩ := low7 (n := 6) (by omega) v3
    subst e
    refine nI_nle ?_ (by omega)
    rcases Nat.eq_zero_or_pos k with e | e
    · subst e; exact absurd rfl hv0
    · exact e
  have key : ∀ (d x i fu gu : Nat) (σ τ1 : St) (b c l : Int32), x + d = 445 → chk d x i = true → i + gu ≥ 86 → d < fu → RelP σ τ1 → τ1.2.2 1 2 = nI se → ((b = nI 7 ∧ c = nI 1000000) ∨ ∃ q, q ≤ 6 ∧ b = nI q ∧ c = nI q) → ∃ w σ' τ', f_X10_next_L28 gu σ v b l (nI i) = some (w, σ') ∧ f_X11_next_L30 fu τ1 v l c (nI x) = some (w, τ') ∧ RelP σ' τ' := by
    intro d
    induction d with
    | zero =>
      intro x i fu gu σ τ1 b c l hx hc hgu hfu hR hs hbc
      have hx : x = 445 := by omega
      have hi : i = 85 := by simpa [chk] using hc
      subst hx hi
      obtain ⟨fu, rfl⟩ : ∃ m, fu = m + 1 := ⟨fu - 1, by omega⟩
      obtain ⟨gu, rfl⟩ : ∃ m, gu = m + 1 := ⟨gu - 1, by omega⟩
      refine ⟨l, σ, τ1, ?_, ?_, hR⟩
      · show f_X10_next_b28 _ σ v b l (nI 85) = _
        unfold f_X10_next_b28
        rw [if_pos (by decide)]
        rfl
      · show f_X11_next_b30 _ τ1 v l c (nI 445) = _
        unfold f_X11_next_b30
        rw [if_pos (by decide)]
        rfl
    | succ d ih =>
      intro x i fu gu σ τ1 b c l hx hc hgu hfu hR hs hbc
      obtain ⟨fu, rfl⟩ : ∃ m, fu = m + 1 := ⟨fu - 1, by omega⟩
      have eM : f_X11_next_L30 (fu + 1) τ1 v l c (nI x) = f_X11_next_b30 (f_X11_next_L30 fu) τ1 v l c (nI x) := rfl
      have hx4 : ¬ (444 : Int32) < nI x := fun z => absurd ((nlt (a := 444) (by omega) (by omega)).mp z) (by omega)
      by_cases g : okL 6 x = true
      · obtain ⟨t1, t2, t3⟩ := chk_y hc g
        obtain ⟨gu, rfl⟩ : ∃ m, gu = m + 1 := ⟨gu - 1, by omega⟩
        have eC : f_X10_next_L28 (gu + 1) σ v b l (nI i) = f_X10_next_b28 (f_X10_next_L28 gu) σ v b l (nI i) := rfl
        obtain ⟨ll, hl, hg, hxl⟩ := Lt.list (m := x) ⟨by omega, g⟩
        have hs108 : σ.1 108 = nI se := hR.2.1.2.2.1.trans hs
        obtain ⟨σ1, z1, hS⟩ := alike_C (v := v) (x := nI x) (σ := σ) (cv := fun k => nI (vL (cpL k se ll))) (tv := fun k => nI (tkN k se)) (fun k hk => by rw [hs108, hxl]; exact cp_C hk (by omega) hg hl) (fun k hk => by rw [hs108]; exact tk_C hk (by omega))
        have z2 := n61 (v := v) (x := nI x) (τ := τ1) (cv := fun k => nI (vL (cpL k se ll))) (tv := fun k => nI (tkN k se)) (fun k hk => by rw [hs, hxl]; exact cp_M hk (by omega) hg hl) (fun k hk => by rw [hs]; exact tk_M hk (by omega)) (f_X11_next_L30 fu) l c 6 0 FU 0 (by omega) (by unfold FU; omega) (by omega)
        have z2 : f_X11_next_L61 (f_X11_next_L30 fu) FU τ1 v l c (nI x) 0 0 = _ := z2
        have hq6 := mxa_le v (fun k => nI (vL (cpL k se ll))) (fun k => nI (tkN k se)) 6 0 0 (by omega)
        generalize mxa v (fun k => nI (vL (cpL k se ll))) (fun k => nI (tkN k se)) 6 0 0 = q at z1 z2 hq6
        have hR1 : RelP σ1 τ1 := hR.same hS (SM.rf τ1)
        rw [eC, eM]
        unfold f_X10_next_b28 f_X11_next_b30 f_X11_next_b56 f_X10_next_b68
        rw [if_neg (show ¬ (85 : Int32) ≤ nI i from nI_ge (b := 85) t2 (by omega)), if_neg hv0, t1, bs, z1, bs, if_neg hx4, if_neg hvp, isLM x (by omega), if_pos g, b1, z2]
        unfold f_X11_next_b162 f_X11_next_b175 f_X11_next_b190
        dsimp only
        rw [nI_1, nI_1]
        rcases hbc with ⟨rfl, rfl⟩ | ⟨p, hp, rfl, rfl⟩
        · have n1 : ¬ nI 7 ≤ nI q := fun w => absurd ((nle (by omega) (by omega)).mp w) (by omega)
          have n2 : ¬ nI 1000000 ≤ nI q := fun w => absurd ((nle (by omega) (by omega)).mp w) (by omega)
          rw [if_neg n1, if_neg n2, if_neg n2]
          exact ih (x + 1) (i + 1) fu gu σ1 τ1 _ _ _ (by omega) t3 (by omega) (by omega) hR1 hs (Or.inr ⟨q, hq6, rfl, rfl⟩)
        · by_cases gq : p ≤ q
          · have n1 : nI p ≤ nI q := (nle (by omega) (by omega)).mpr gq
            rw [if_pos n1, if_pos n1, if_pos n1]
            exact ih (x + 1) (i + 1) fu gu σ1 τ1 _ _ _ (by omega) t3 (by omega) (by omega) hR1 hs (Or.inr ⟨p, hp, rfl, rfl⟩)
          · have n1 : ¬ nI p ≤ nI q := fun w => gq ((nle (by omega) (by omega)).mp w)
            rw [if_neg n1, if_neg n1, if_neg n1]
            exact ih (x + 1) (i + 1) fu gu σ1 τ1 _ _ _ (by omega) t3 (by omega) (by omega) hR1 hs (Or.inr ⟨q, hq6, rfl, rfl⟩)
      · have g : okL 6 x = false := by simpa using g
        have t3 := chk_n hc g
        have hcl : c ≤ 1000000 := by
          rcases hbc with ⟨-, rfl⟩ | ⟨p, hp, -, rfl⟩
          · exact (nle (b := 1000000) (by omega) (by omega)).mpr (by omega)
          · exact (nle (b := 1000000) (by omega) (by omega)).mpr (by omega)
        rw [eM]
        unfold f_X11_next_b30 f_X11_next_b56
        rw [if_neg hx4, if_neg hvp, isLM x (by omega), if_neg (by rw [g]; decide), b0]
        have z : f_X11_next_L61 (f_X11_next_L30 fu) FU τ1 v l c (nI x) 1000000 0 = f_X11_next_b162 (f_X11_next_L30 fu) τ1 v l c (nI x) 1000000 := by
          show f_X11_next_b61 _ _ τ1 v l c (nI x) 1000000 0 = _
          unfold f_X11_next_b61
          rw [if_neg (by decide), if_pos (by decide)]
        rw [z]
        unfold f_X11_next_b162 f_X11_next_b175 f_X11_next_b190
        rw [if_pos hcl, if_pos hcl, nI_1]
        exact ih (x + 1) i fu gu σ τ1 b c l (by omega) t3 (by omega) (by omega) hR hs hbc
  exact key 444 1 1 FU FU σ τ 7 1000000 (-1) (by omega) chk_1 (by unfold FU; omega) (by unfold FU; omega) hR s1 (Or.inl ⟨rfl, rfl⟩)
