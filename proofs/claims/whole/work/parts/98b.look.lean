/-! the text's tokens in the reference -/
section TOKM
variable {B : Nat → Int32} {N : Nat}
def MX (B : Nat → Int32) (N : Nat) (τ : St) : Prop := τ.1 18 = nI N ∧ τ.2.2 9 = B
def Rm (τ τ' : St) : Prop := (∀ k, k ≠ 19 → k ≠ 20 → k ≠ 21 → k ≠ 22 → τ'.1 k = τ.1 k) ∧ τ'.2 = τ.2
theorem Rm.rf (τ : St) : Rm τ τ := ⟨fun _ _ _ _ _ => rfl, rfl⟩
theorem Rm.tr {a b c : St} (h : Rm a b) (g : Rm b c) : Rm a c := ⟨fun k h1 h2 h3 h4 => (g.1 k h1 h2 h3 h4).trans (h.1 k h1 h2 h3 h4), g.2.trans h.2⟩
theorem Rm.i {a b : St} (h : Rm a b) (k : Nat) (v : Int32) (hk : k = 19 ∨ k = 20 ∨ k = 21 ∨ k = 22) : Rm a (sI b k v) := ⟨fun j h1 h2 h3 h4 => by rw [sI1, if_neg (by omega)]; exact h.1 j h1 h2 h3 h4, h.2⟩
def TM (B : Nat → Int32) (N : Nat) (τ : St) (p : Nat) : Prop := τ.1 19 = nI (tkS B N p) ∧ τ.1 20 = nI (tkE B N p - tkS B N p) ∧ τ.1 21 = tkK B N p ∧ (tkK B N p = 2 → τ.1 22 = nI (tkV B N p))
theorem MX.rm {τ τ' : St} (h : MX B N τ) (g : Rm τ τ') : MX B N τ' := ⟨(g.1 18 (by omega) (by omega) (by omega) (by omega)).trans h.1, by rw [g.2]; exact h.2⟩
/-- the run's end -/
theorem goes_L (hN : N ≤ 150) {s a b : Nat} {tk : Int32} (hab : (tk = 1 ∧ a = 97 ∧ b = 122) ∨ (tk = 2 ∧ a = 48 ∧ b = 57)) : ∀ (d x fu : Nat) (τ : St), x + d = N → s < x → d + 1 < fu → MX B N τ → τ.1 19 = nI s → τ.1 20 = nI (x - s) → τ.1 21 = tk → ∃ τ', f_X11_lookAt_L136 fu τ 1 = f_X11_lookAt_b215 τ' ∧ Rm τ τ' ∧ τ'.1 19 = nI s ∧ τ'.1 20 = nI (ff (out B a b) d x - s) ∧ τ'.1 21 = tk ∧ τ'.1 22 = τ.1 22 := by
  intro d
  induction d with
  | zero =>
    intro x fu τ hx hs hfu hX h19 h20 h21
    obtain ⟨fu, rfl⟩ : ∃ m, fu = m + 1 := ⟨fu - 1, by omega⟩
    refine ⟨τ, ?_, Rm.rf τ, h19, h20, h21, rfl⟩
    show f_X11_lookAt_b136 _ τ 1 = _
    unfold f_X11_lookAt_b136
    rw [if_neg (show ¬ (1 : Int32) = 0 by decide), hX.1, h19, h20, nI_add, if_pos ((nle (by omega) (by omega)).mpr (by omega))]
  | succ d ih =>
    intro x fu τ hx hs hfu hX h19 h20 h21
    obtain ⟨fu, rfl⟩ : ∃ m, fu = m + 2 := ⟨fu - 2, by omega⟩
    have e : f_X11_lookAt_L136 (fu + 2) τ 1 = f_X11_lookAt_b136 (f_X11_lookAt_L136 (fu + 1)) τ 1 := rfl
    have fe : ff (out B a b) (d + 1) x = if out B a b x = true then x else ff (out B a b) d (x + 1) := rfl
    have hc : ∀ (q : Int32), (q = if inr B a b x = true then 1 else 0) → ∃ τ', f_X11_lookAt_b193 (f_X11_lookAt_L136 (fu + 1)) τ q = f_X11_lookAt_b215 τ' ∧ Rm τ τ' ∧ τ'.1 19 = nI s ∧ τ'.1 20 = nI (ff (out B a b) (d + 1) x - s) ∧ τ'.1 21 = tk ∧ τ'.1 22 = τ.1 22 := by
      intro q hq
      unfold f_X11_lookAt_b193 f_X11_lookAt_b208
      rw [fe]
      by_cases g : inr B a b x = true
      · rw [if_pos g] at hq
        rw [hq, if_neg (show ¬ (1 : Int32) = 0 by decide), out_f g, if_neg (show ¬ false = true by decide), h20, nI_1]
        obtain ⟨τ', z1, z2, z3, z4, z5, z6⟩ := ih (x + 1) (fu + 1) (sI τ 20 (nI (x - s + 1))) (by omega) (by omega) (by omega) (hX.rm ((Rm.rf τ).i 20 _ (by omega))) h19 (by rw [show x + 1 - s = x - s + 1 by omega]; rfl) h21
        exact ⟨τ', z1, ((Rm.rf τ).i 20 _ (by omega)).tr z2, z3, z4, z5, z6⟩
      · rw [if_neg g] at hq
        have ho : out B a b x = true := by unfold out; simpa using g
        rw [hq, if_pos rfl, ho, if_pos rfl, h20, Int32.add_zero]
        refine ⟨sI τ 20 (nI (x - s)), ?_, (Rm.rf τ).i 20 _ (by omega), h19, rfl, h21, rfl⟩
        show f_X11_lookAt_b136 _ _ 0 = _
        unfold f_X11_lookAt_b136
        rw [if_pos rfl]
    rw [e]
    unfold f_X11_lookAt_b136
    rw [if_neg (show ¬ (1 : Int32) = 0 by decide), hX.1, h19, h20, nI_add, show s + (x - s) = x by omega, if_neg (show ¬ nI N ≤ nI x from fun z => absurd ((nle (by omega) (by omega)).mp z) (by omega)), ck_nI (show x < 150 by omega) (by omega), cT, nI_clamp (show x < 2 ^ 31 by omega), hX.2, h21]
    rcases hab with ⟨rfl, rfl, rfl⟩ | ⟨rfl, rfl, rfl⟩
    · rw [if_pos rfl, small_v rfl, bs]
      exact hc _ rfl
    · rw [if_neg (show ¬ (2 : Int32) = 1 by decide), fig_v rfl, bs]
      exact hc _ rfl
/-- the number, and what too long a run is -/
theorem tail_M (hN : N ≤ 150) {s : Nat} {τ : St} (hs : s < N) (hX : MX B N τ) (h19 : τ.1 19 = nI s) (h20 : τ.1 20 = nI (endOf B N s - s)) (h21 : τ.1 21 = if inr B 97 122 s = true then 1 else if inr B 48 57 s = true then 2 else if B s = 59 then 3 else 4) (h22 : τ.1 22 = 0) : ∃ τ', f_X11_lookAt_b215 τ = some τ' ∧ Rm τ τ' ∧ τ'.1 19 = nI s ∧ τ'.1 20 = nI (endOf B N s - s) ∧ τ'.1 21 = kindOf B N s ∧ (kindOf B N s = 2 → τ'.1 22 = nI (valOf B N s)) := by
  have hE := end_b B (show s ≤ N by omega)
  have hlt := hE.2.2 hs
  obtain ⟨m, hF⟩ : ∃ m, FU = m + 3 := ⟨999997, rfl⟩
  unfold f_X11_lookAt_b215
  rw [hF]
  by_cases g : inr B 97 122 s = false ∧ inr B 48 57 s = true
  · obtain ⟨g1, g2⟩ := g
    rw [g1, g2, if_neg (show ¬ false = true by decide), if_pos rfl] at h21
    have ee : endOf B N s = ff (out B 48 57) (N - s) s := by unfold endOf; rw [if_pos hs, g1, if_neg (show ¬ false = true by decide), if_pos g2]
    have ek : kindOf B N s = if endOf B N s - s ≤ 2 then 2 else 4 := by unfold kindOf; rw [if_pos hs, g1, if_neg (show ¬ false = true by decide), if_pos g2]
    have hr : ∀ k, s ≤ k → k < endOf B N s → inr B 48 57 k = true := fun k k1 k2 => run_in B k k1 (ee ▸ k2)
    obtain ⟨d1, c1, c2, c3⟩ := fig_d (hr s (by omega) (by omega))
    have v1 : ((10 : Int32) * τ.1 22 + τ.2.2 9 s) - 48 = nI d1 := by
      rw [h22, hX.2, c2, Int32.mul_zero]
      have := dgv 0 d1
      rw [show nI 0 * 10 = 0 from by decide] at this
      rw [this]
      congr 1
      omega
    show ∃ τ', f_X11_lookAt_b218 (f_X11_lookAt_L218 (m + 2)) τ (nI 0) = some τ' ∧ _
    unfold f_X11_lookAt_b218
    rw [h20, h21, if_neg (show ¬ nI (endOf B N s - s) ≤ nI 0 from fun z => absurd ((nle (by omega) (by omega)).mp z) (by omega)), if_neg (show ¬ (2 : Int32) ≤ nI 0 by decide), if_pos rfl, h19, nI_add, Nat.add_zero, ck_nI (show s < 150 by omega) (by omega), cT, nI_clamp (show s < 2 ^ 31 by omega), v1, nI_1]
    have R1 := (Rm.rf τ).i 22 (nI d1) (by omega)
    have a19 : (sI τ 22 (nI d1)).1 19 = nI s := h19
    have a20 : (sI τ 22 (nI d1)).1 20 = nI (endOf B N s - s) := h20
    have a21 : (sI τ 22 (nI d1)).1 21 = 2 := h21
    have a22 : (sI τ 22 (nI d1)).1 22 = nI d1 := rfl
    have aX : MX B N (sI τ 22 (nI d1)) := hX.rm R1
    generalize sI τ 22 (nI d1) = τ1 at *
    show ∃ τ', f_X11_lookAt_b218 (f_X11_lookAt_L218 (m + 1)) τ1 (nI (0 + 1)) = some τ' ∧ _
    unfold f_X11_lookAt_b218
    rw [a20, a21]
    by_cases h1 : endOf B N s - s = 1
    · rw [if_pos ((nle (by omega) (by omega)).mpr (by omega))]
      unfold f_X11_lookAt_b274 f_X11_lookAt_b295 f_X11_lookAt_b299
      rw [if_pos (show endOf B N s - s ≤ 2 by omega)] at ek
      rw [a20, a21, if_pos rfl, if_pos (show nI (endOf B N s - s) ≤ 2 from (nle (b := 2) (by omega) (by omega)).mpr (by omega)), ek]
      refine ⟨_, rfl, R1.i 21 2 (by omega), a19, a20, rfl, fun _ => ?_⟩
      show τ1.1 22 = _
      unfold valOf
      rw [a22, if_pos h1, c3]
    · obtain ⟨d2, e1, e2, e3⟩ := fig_d (hr (s + 1) (by omega) (by omega))
      have v2 : ((10 : Int32) * τ1.1 22 + τ1.2.2 9 (s + 1)) - 48 = nI (10 * d1 + d2) := by
        rw [a22, aX.2, e2, Int32.mul_comm]
        exact dgv d1 d2
      rw [if_neg (show ¬ nI (endOf B N s - s) ≤ nI (0 + 1) from fun z => absurd ((nle (by omega) (by omega)).mp z) (by omega)), if_neg (show ¬ (2 : Int32) ≤ nI (0 + 1) by decide), if_pos rfl, a19, nI_add, show s + (0 + 1) = s + 1 by omega, ck_nI (show s + 1 < 150 by omega) (by omega), cT, nI_clamp (show s + 1 < 2 ^ 31 by omega), v2, nI_1]
      have R2 := R1.i 22 (nI (10 * d1 + d2)) (by omega)
      have b19 : (sI τ1 22 (nI (10 * d1 + d2))).1 19 = nI s := a19
      have b20 : (sI τ1 22 (nI (10 * d1 + d2))).1 20 = nI (endOf B N s - s) := a20
      have b21 : (sI τ1 22 (nI (10 * d1 + d2))).1 21 = 2 := a21
      have b22 : (sI τ1 22 (nI (10 * d1 + d2))).1 22 = nI (10 * d1 + d2) := rfl
      generalize sI τ1 22 (nI (10 * d1 + d2)) = τ2 at *
      show ∃ τ', f_X11_lookAt_b218 (f_X11_lookAt_L218 m) τ2 (nI (0 + 1 + 1)) = some τ' ∧ _
      have hstop : f_X11_lookAt_b218 (f_X11_lookAt_L218 m) τ2 (nI (0 + 1 + 1)) = f_X11_lookAt_b274 τ2 := by
        unfold f_X11_lookAt_b218
        by_cases q : τ2.1 20 ≤ nI (0 + 1 + 1)
        · rw [if_pos q]
        · rw [if_neg q, if_pos (show (2 : Int32) ≤ nI (0 + 1 + 1) by decide)]
      rw [hstop]
      unfold f_X11_lookAt_b274 f_X11_lookAt_b295 f_X11_lookAt_b299
      rw [b20, b21, if_pos rfl]
      by_cases h3 : endOf B N s - s ≤ 2
      · rw [if_pos h3] at ek
        rw [if_pos (show nI (endOf B N s - s) ≤ 2 from (nle (b := 2) (by omega) (by omega)).mpr h3), ek]
        refine ⟨_, rfl, R2.i 21 2 (by omega), b19, b20, rfl, fun _ => ?_⟩
        show τ2.1 22 = _
        unfold valOf
        rw [b22, if_neg h1, c3, e3]
      · rw [if_neg h3] at ek
        rw [if_neg (show ¬ nI (endOf B N s - s) ≤ 2 from fun z => absurd ((nle (b := 2) (by omega) (by omega)).mp z) h3), ek]
        exact ⟨_, rfl, R2.i 21 4 (by omega), b19, b20, rfl, fun z => absurd z (by decide)⟩
  · have hk : kindOf B N s = τ.1 21 ∧ ¬ τ.1 21 = 2 := by
      rw [h21]
      unfold kindOf
      rw [if_pos hs]
      by_cases g1 : inr B 97 122 s = true
      · rw [if_pos g1, if_pos g1]; exact ⟨rfl, by decide⟩
      · have g2 : ¬ inr B 48 57 s = true := fun z => g ⟨by simpa using g1, z⟩
        rw [if_neg g1, if_neg g2, if_neg g1, if_neg g2]
        refine ⟨rfl, ?_⟩
        split <;> decide
    have hstop : f_X11_lookAt_b218 (f_X11_lookAt_L218 (m + 2)) τ 0 = f_X11_lookAt_b274 τ := by
      unfold f_X11_lookAt_b218
      by_cases q : τ.1 20 ≤ 0
      · rw [if_pos q]
      · rw [if_neg q, if_neg (show ¬ (2 : Int32) ≤ 0 by decide), if_neg hk.2]
    show ∃ τ', f_X11_lookAt_b218 (f_X11_lookAt_L218 (m + 2)) τ 0 = some τ' ∧ _
    rw [hstop]
    unfold f_X11_lookAt_b274 f_X11_lookAt_b295 f_X11_lookAt_b299
    rw [if_neg hk.2, hk.1]
    exact ⟨_, rfl, (Rm.rf τ).i 21 _ (by omega), h19, h20, rfl, fun z => absurd z hk.2⟩
theorem at_M (hN : N ≤ 150) {s : Nat} {τ : St} (hs : s ≤ N) (hX : MX B N τ) (h19 : τ.1 19 = nI s) : ∃ τ', f_X11_lookAt_b43 τ = some τ' ∧ Rm τ τ' ∧ τ'.1 19 = nI s ∧ τ'.1 20 = nI (endOf B N s - s) ∧ τ'.1 21 = kindOf B N s ∧ (kindOf B N s = 2 → τ'.1 22 = nI (valOf B N s)) := by
  unfold f_X11_lookAt_b43
  rw [h19, hX.1]
  by_cases g : s < N
  · rw [if_neg (fun z => absurd ((neq (by omega) (by omega)).mp z) (by omega)), ck_nI (show s < 150 by omega) (by omega), cT, nI_clamp (show s < 2 ^ 31 by omega), hX.2, small_v rfl, fig_v rfl]
    have R0 := (((Rm.rf τ).i 20 0 (by omega)).i 21 0 (by omega)).i 22 0 (by omega)
    have x19 : (sI (sI (sI τ 20 0) 21 0) 22 0).1 19 = nI s := h19
    have x22 : (sI (sI (sI τ 20 0) 21 0) 22 0).1 22 = 0 := rfl
    have xX := hX.rm R0
    generalize sI (sI (sI τ 20 0) 21 0) 22 0 = τ0 at *
    -- one sign alone
    have one : ∀ y : Int32, (y = 3 ∨ y = 4) → endOf B N s = s + 1 → (y = if inr B 97 122 s = true then 1 else if inr B 48 57 s = true then 2 else if B s = 59 then 3 else 4) → ∃ τ', f_X11_lookAt_b114 τ0 y = some τ' ∧ Rm τ τ' ∧ τ'.1 19 = nI s ∧ τ'.1 20 = nI (endOf B N s - s) ∧ τ'.1 21 = kindOf B N s ∧ (kindOf B N s = 2 → τ'.1 22 = nI (valOf B N s)) := by
      intro y hy he hv
      unfold f_X11_lookAt_b114 f_X11_lookAt_b135
      rw [if_pos (by rcases hy with rfl | rfl <;> decide)]
      have e : f_X11_lookAt_L136 FU (sI (sI τ0 21 y) 20 1) 0 = f_X11_lookAt_b215 (sI (sI τ0 21 y) 20 1) := by
        obtain ⟨m, hF⟩ : ∃ m, FU = m + 1 := ⟨999999, rfl⟩
        rw [hF]
        show f_X11_lookAt_b136 _ _ 0 = _
        unfold f_X11_lookAt_b136
        rw [if_pos rfl]
      rw [e]
      have R1 := (R0.i 21 y (by omega)).i 20 1 (by omega)
      obtain ⟨τ', z1, z2, z3⟩ := tail_M (τ := sI (sI τ0 21 y) 20 1) hN g (hX.rm R1) x19 (by rw [he, show s + 1 - s = 1 by omega]; rfl) hv x22
      exact ⟨τ', z1, R1.tr z2, z3⟩
    have many : ∀ (y : Int32) (a b : Nat), ((y = 1 ∧ a = 97 ∧ b = 122) ∨ (y = 2 ∧ a = 48 ∧ b = 57)) → inr B a b s = true → endOf B N s = ff (out B a b) (N - s) s → (y = if inr B 97 122 s = true then 1 else if inr B 48 57 s = true then 2 else if B s = 59 then 3 else 4) → ∃ τ', f_X11_lookAt_b114 τ0 y = some τ' ∧ Rm τ τ' ∧ τ'.1 19 = nI s ∧ τ'.1 20 = nI (endOf B N s - s) ∧ τ'.1 21 = kindOf B N s ∧ (kindOf B N s = 2 → τ'.1 22 = nI (valOf B N s)) := by
      intro y a b hy hi he hv
      unfold f_X11_lookAt_b114 f_X11_lookAt_b135
      rw [if_neg (by rcases hy with ⟨rfl, -⟩ | ⟨rfl, -⟩ <;> decide)]
      have R1 := (R0.i 21 y (by omega)).i 20 1 (by omega)
      obtain ⟨τ1, y1, y2, y3, y4, y5, y6⟩ := goes_L (B := B) (N := N) (s := s) hN hy (N - s - 1) (s + 1) FU (sI (sI τ0 21 y) 20 1) (by omega) (by omega) (by unfold FU; omega) (hX.rm R1) x19 (by rw [show s + 1 - s = 1 by omega]; rfl) rfl
      rw [y1]
      rw [← ff_hit (out_f hi) (by omega), ← he] at y4
      obtain ⟨τ', z1, z2, z3⟩ := tail_M (τ := τ1) hN g (hX.rm (R1.tr y2)) y3 y4 (y5.trans hv) (y6.trans x22)
      exact ⟨τ', z1, (R1.tr y2).tr z2, z3⟩
    by_cases h1 : inr B 97 122 s = true
    · rw [if_pos h1, b1]
      exact many 1 97 122 (Or.inl ⟨rfl, rfl, rfl⟩) h1 (by unfold endOf; rw [if_pos g, if_pos h1]) (by rw [if_pos h1])
    · rw [if_neg h1, b0]
      by_cases h2 : inr B 48 57 s = true
      · rw [if_pos h2, b1]
        exact many 2 48 57 (Or.inr ⟨rfl, rfl, rfl⟩) h2 (by unfold endOf; rw [if_pos g, if_neg h1, if_pos h2]) (by rw [if_neg h1, if_pos h2])
      · rw [if_neg h2, b0]
        have he : endOf B N s = s + 1 := by unfold endOf; rw [if_pos g, if_neg h1, if_neg h2]
        by_cases h3 : B s = 59
        · rw [if_pos h3]
          exact one 3 (Or.inl rfl) he (by rw [if_neg h1, if_neg h2, if_pos h3])
        · rw [if_neg h3]
          exact one 4 (Or.inr rfl) he (by rw [if_neg h1, if_neg h2, if_neg h3])
  · have hs : s = N := by omega
    have ee : endOf B N s = s := by unfold endOf; rw [if_neg g]
    have ek : kindOf B N s = 0 := by unfold kindOf; rw [if_neg g]
    rw [if_pos (by rw [hs]), ee, ek, Nat.sub_self]
    exact ⟨_, rfl, (((Rm.rf τ).i 20 0 (by omega)).i 21 0 (by omega)).i 22 0 (by omega), h19, rfl, rfl, fun z => absurd z (by decide)⟩
theorem look_L (hN : N ≤ 150) : ∀ (d p fu : Nat) (τ : St), p + d = N → d < fu → MX B N τ → τ.1 19 = nI p → ∃ τ', f_X11_lookAt_L5 fu τ = some τ' ∧ Rm τ τ' ∧ τ'.1 19 = nI (ff (out B 32 32) d p) ∧ τ'.1 20 = nI (endOf B N (ff (out B 32 32) d p) - ff (out B 32 32) d p) ∧ τ'.1 21 = kindOf B N (ff (out B 32 32) d p) ∧ (kindOf B N (ff (out B 32 32) d p) = 2 → τ'.1 22 = nI (valOf B N (ff (out B 32 32) d p))) := by
  intro d
  induction d with
  | zero =>
    intro p fu τ hp hfu hX h19
    obtain ⟨fu, rfl⟩ : ∃ m, fu = m + 1 := ⟨fu - 1, by omega⟩
    show ∃ τ', f_X11_lookAt_b5 _ τ = some τ' ∧ _
    unfold f_X11_lookAt_b5
    rw [hX.1, h19, if_pos ((nle (by omega) (by omega)).mpr (by omega))]
    exact at_M hN (show p ≤ N by omega) hX h19
  | succ d ih =>
    intro p fu τ hp hfu hX h19
    obtain ⟨fu, rfl⟩ : ∃ m, fu = m + 1 := ⟨fu - 1, by omega⟩
    have fe : ff (out B 32 32) (d + 1) p = if out B 32 32 p = true then p else ff (out B 32 32) d (p + 1) := rfl
    show ∃ τ', f_X11_lookAt_b5 (f_X11_lookAt_L5 fu) τ = some τ' ∧ _
    unfold f_X11_lookAt_b5
    rw [hX.1, h19, if_neg (show ¬ nI N ≤ nI p from fun z => absurd ((nle (by omega) (by omega)).mp z) (by omega)), ck_nI (show p < 150 by omega) (by omega), cT, nI_clamp (show p < 2 ^ 31 by omega), hX.2, fe, nI_1]
    by_cases g : B p = 32
    · have hi : inr B 32 32 p = true := by unfold inr; rw [g]; decide
      rw [if_pos g, out_f hi, if_neg (show ¬ false = true by decide)]
      have R := (Rm.rf τ).i 19 (nI (p + 1)) (by omega)
      obtain ⟨τ', z1, z2, z3⟩ := ih (p + 1) fu (sI τ 19 (nI (p + 1))) (by omega) (by omega) (hX.rm R) rfl
      exact ⟨τ', z1, R.tr z2, z3⟩
    · have ho : out B 32 32 p = true := by
        unfold out
        cases e : inr B 32 32 p
        · rfl
        · have := of_decide_eq_true (show decide _ = true from e)
          exact absurd (Int32.toInt_inj.mp (show (B p).toInt = (32 : Int32).toInt from by show _ = (32 : Int); omega)) g
      rw [if_neg g, ho, if_pos rfl]
      exact at_M hN (show p ≤ N by omega) hX h19
theorem look_M (hN : N ≤ 150) {τ : St} (hX : MX B N τ) {p : Nat} (hp : p ≤ N) : ∃ τ', f_X11_lookAt τ (nI p) = some τ' ∧ Rm τ τ' ∧ TM B N τ' p := by
  have R := (Rm.rf τ).i 19 (nI p) (by omega)
  obtain ⟨τ', z1, z2, z3⟩ := look_L hN (N - p) p FU (sI τ 19 (nI p)) (by omega) (by unfold FU; omega) (hX.rm R) rfl
  exact ⟨τ', z1, R.tr z2, z3⟩
theorem behind_M (hN : N ≤ 150) {τ : St} (hX : MX B N τ) {p : Nat} (hp : p ≤ N) (h : TM B N τ p) : ∃ τ', f_X11_goBehind τ = some τ' ∧ Rm τ τ' ∧ TM B N τ' (tkE B N p) := by
  have hb := tkE_b B hp
  unfold f_X11_goBehind
  rw [h.1, h.2.1, nI_add, show tkS B N p + (tkE B N p - tkS B N p) = tkE B N p by omega]
  obtain ⟨τ', z1, z2, z3⟩ := look_M hN hX hb.2.1
  exact ⟨τ', by rw [z1, bs], z2, z3⟩
end TOKM
