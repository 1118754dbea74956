/-! what may be undone -/
def kpU (un : Nat) : Nat := if un = 8 then 7 else un
def kpM (M : Nat → Int32) (un : Nat) : Nat → Int32 := fun k => if k = 5 then nI (kpU un + 1) else if k = 69 + 2 * kpU un then M 2 else if k = 68 + 2 * kpU un then M 1 else if un = 8 ∧ 68 ≤ k ∧ k < 82 then M (k + 2) else M k
theorem keep_b51 (τ : St) (u : Nat) (hu : u < 8) (h5 : τ.2.2 1 5 = nI u) : f_X11_keep_b51 τ = some (sE (sE (sE τ 1 (68 + 2 * u) (τ.2.2 1 1)) 1 (69 + 2 * u) (τ.2.2 1 2)) 1 5 (nI (u + 1))) := by
  have e1 : (68 : Int32) + 2 * τ.2.2 1 5 = nI (68 + 2 * u) := by rw [h5, show (2 : Int32) = nI 2 from rfl, pk_mul]; exact nI_add 68 (2 * u)
  have c1 : (nI (68 + 2 * u)).toNatClampNeg = 68 + 2 * u := nI_clamp (by omega)
  have r1 : ∀ v k, k ≠ 68 + 2 * u → (sE τ 1 (68 + 2 * u) v).2.2 1 k = τ.2.2 1 k := fun v k hk => by rw [sE3, if_pos rfl, upd_a, if_neg hk]
  have e2 : (68 : Int32) + 2 * (sE τ 1 (68 + 2 * u) (τ.2.2 1 1)).2.2 1 5 + 1 = nI (69 + 2 * u) := by
    rw [r1 _ 5 (by omega), e1, nI_1]
    congr 1
    omega
  have c2 : (nI (69 + 2 * u)).toNatClampNeg = 69 + 2 * u := nI_clamp (by omega)
  unfold f_X11_keep_b51
  rw [e1, c1, e2, c2, ck_nI (by omega) (by omega), ck_nI (by omega) (by omega), cT, cT, r1 _ 2 (by omega)]
  have r2 : (sE (sE τ 1 (68 + 2 * u) (τ.2.2 1 1)) 1 (69 + 2 * u) (τ.2.2 1 2)).2.2 1 5 + 1 = nI (u + 1) := by
    rw [sE3, if_pos rfl, upd_a, if_neg (by omega), r1 _ 5 (by omega), h5]
    exact nI_1 u
  rw [r2]
theorem keep_M (τ : St) (un : Nat) (hu : un ≤ 8) (h5 : τ.2.2 1 5 = nI un) : ∃ τ', f_X11_keep τ = some τ' ∧ SMo τ τ' ∧ τ'.2.2 1 = kpM (τ.2.2 1) un := by
  by_cases h8 : un = 8
  · subst h8
    have key : ∀ (d k n : Nat) (τ1 : St), k + d = 14 → d < n → SMo τ τ1 → (∀ j, τ1.2.2 1 j = if 68 ≤ j ∧ j < 68 + k then τ.2.2 1 (j + 2) else τ.2.2 1 j) → ∃ τ', f_X11_keep_L13 n τ1 (nI k) = some τ' ∧ SMo τ τ' ∧ τ'.2.2 1 = kpM (τ.2.2 1) 8 := by
      intro d
      induction d with
      | zero =>
        intro k n τ1 hk hn hS h1
        obtain ⟨n, rfl⟩ : ∃ m, n = m + 1 := ⟨n - 1, by omega⟩
        have hk : k = 14 := by omega
        subst hk
        have e5 : (sE τ1 1 5 7).2.2 1 5 = nI 7 := rfl
        have hb := keep_b51 (sE τ1 1 5 7) 7 (by omega) e5
        refine ⟨sE (sE (sE (sE τ1 1 5 7) 1 (68 + 2 * 7) ((sE τ1 1 5 7).2.2 1 1)) 1 (69 + 2 * 7) ((sE τ1 1 5 7).2.2 1 2)) 1 5 (nI (7 + 1)), ?_, ?_, ?_⟩
        · show f_X11_keep_b13 _ τ1 (nI 14) = _
          unfold f_X11_keep_b13
          rw [if_pos (by decide)]
          exact hb
        · exact (((hS.e 5 7).e _ _).e _ _).e _ _
        · funext j
          show (if j = 5 then nI (7 + 1) else if j = 83 then τ1.2.2 1 2 else if j = 82 then τ1.2.2 1 1 else if j = 5 then 7 else τ1.2.2 1 j) = (if j = 5 then nI (7 + 1) else if j = 83 then τ.2.2 1 2 else if j = 82 then τ.2.2 1 1 else if 8 = 8 ∧ 68 ≤ j ∧ j < 82 then τ.2.2 1 (j + 2) else τ.2.2 1 j)
          rw [h1, h1, h1]
          by_cases g1 : j = 5
          · (repeat (first | rw [if_neg (by omega)] | rw [if_pos (by omega)]))
          · by_cases g2 : j = 83
            · (repeat (first | rw [if_neg (by omega)] | rw [if_pos (by omega)]))
            · by_cases g3 : j = 82
              · (repeat (first | rw [if_neg (by omega)] | rw [if_pos (by omega)]))
              · by_cases g4 : 68 ≤ j ∧ j < 82
                · (repeat (first | rw [if_neg (by omega)] | rw [if_pos (by omega)]))
                · (repeat (first | rw [if_neg (by omega)] | rw [if_pos (by omega)]))
      | succ d ih =>
        intro k n τ1 hk hn hS h1
        obtain ⟨n, rfl⟩ : ∃ m, n = m + 1 := ⟨n - 1, by omega⟩
        have e : f_X11_keep_L13 (n + 1) τ1 (nI k) = f_X11_keep_L13 n (sE τ1 1 (68 + k) (τ1.2.2 1 (70 + k))) (nI (k + 1)) := by
          show f_X11_keep_b13 _ τ1 (nI k) = _
          unfold f_X11_keep_b13
          have e1 : (70 : Int32) + nI k = nI (70 + k) := nI_add 70 k
          have e2 : (68 : Int32) + nI k = nI (68 + k) := nI_add 68 k
          rw [if_neg (show ¬ (14 : Int32) ≤ nI k from nI_ge (b := 14) (by omega) (by omega)), e1, e2, ck_nI (by omega) (by omega), ck_nI (by omega) (by omega), nI_1, nI_clamp (by omega), nI_clamp (by omega)]
          rfl
        rw [e]
        refine ih (k + 1) n _ (by omega) (by omega) (hS.e _ _) ?_
        intro j
        rw [sE3, if_pos rfl, upd_a, h1, h1]
        by_cases g1 : j = 68 + k
        · (repeat (first | rw [if_neg (by omega)] | rw [if_pos (by omega)]))
          rw [g1, show 70 + k = 68 + k + 2 by omega]
        · by_cases g2 : 68 ≤ j ∧ j < 68 + k
          · (repeat (first | rw [if_neg (by omega)] | rw [if_pos (by omega)]))
          · (repeat (first | rw [if_neg (by omega)] | rw [if_pos (by omega)]))
    obtain ⟨τ', h1, h2, h3⟩ := key 14 0 FU τ (by omega) (by unfold FU; omega) (SMo.rf τ) (by intro j; rw [if_neg (by omega)])
    refine ⟨τ', ?_, h2, h3⟩
    unfold f_X11_keep
    rw [if_pos (show τ.2.2 1 5 = (8 : Int32) from h5)]
    exact h1
  · refine ⟨_, ?_, (((SMo.rf τ).e (68 + 2 * un) (τ.2.2 1 1)).e (69 + 2 * un) (τ.2.2 1 2)).e 5 (nI (un + 1)), ?_⟩
    · unfold f_X11_keep
      rw [if_neg (show ¬ τ.2.2 1 5 = (8 : Int32) from by rw [h5]; exact fun e => h8 ((nI_eq (b := 8) (by omega) (by omega)).mp e))]
      exact keep_b51 τ un (by omega) h5
    · funext j
      rw [sE3, if_pos rfl, upd_a, sE3, if_pos rfl, upd_a, sE3, if_pos rfl, upd_a]
      unfold kpM kpU
      rw [if_neg h8]
      by_cases g1 : j = 5
      · (repeat (first | rw [if_neg (by omega)] | rw [if_pos (by omega)]))
      · by_cases g2 : j = 69 + 2 * un
        · (repeat (first | rw [if_neg (by omega)] | rw [if_pos (by omega)]))
        · by_cases g3 : j = 68 + 2 * un
          · (repeat (first | rw [if_neg (by omega)] | rw [if_pos (by omega)]))
          · (repeat (first | rw [if_neg (by omega)] | rw [if_pos (by omega)]))
theorem rem_C (σ : St) (un : Nat) (hu : un ≤ 8) (h5 : σ.1 111 = nI un) : ∃ σ', f_X2_remember_1 σ = some σ' ∧ SCo σ σ' ∧ (∀ k, σ'.1 k = if k = 111 then nI (kpU un + 1) else σ.1 k) ∧ (∀ a, a ≤ 5 → σ'.2.2 a = σ.2.2 a) ∧ (∀ k, k ≤ kpU un → σ'.2.2 6 k = if k = kpU un then σ.1 107 else if un = 8 then σ.2.2 6 (k + 1) else σ.2.2 6 k) ∧ (∀ k, k ≤ kpU un → σ'.2.2 7 k = if k = kpU un then σ.1 108 else if un = 8 then σ.2.2 7 (k + 1) else σ.2.2 7 k) := by
  have key : ∀ (σ1 : St) (u : Nat), u < 8 → σ1.1 111 = nI u → f_X2_remember_1_b45 σ1 = some (sI (sE (sE σ1 6 u (σ1.1 107)) 7 u (σ1.1 108)) 111 (nI (u + 1))) := by
    intro σ1 u hu h
    unfold f_X2_remember_1_b45
    rw [h, ck_nI (by omega) (by omega), cT, cT, nI_clamp (by omega), nI_1]
  by_cases h8 : un = 8
  · subst h8
    let σ1 := sI (scp (scp σ 6 6 1 0 7) 7 7 1 0 7) 111 7
    have hb := key σ1 7 (by omega) rfl
    refine ⟨sI (sE (sE σ1 6 7 (σ1.1 107)) 7 7 (σ1.1 108)) 111 (nI (7 + 1)), ?_, ?_, ?_, ?_, ?_, ?_⟩
    · unfold f_X2_remember_1
      rw [h5, if_neg (by decide)]
      exact hb
    · exact (((((SCo.rf σ).cp 6 6 1 0 7 (by omega)).cp 7 7 1 0 7 (by omega)).i 111 7 (by simp)).e 6 7 _ (by omega)).e 7 7 _ (by omega) |>.i 111 _ (by simp)
    · intro k
      rw [sI1]
      by_cases g : k = 111
      · rw [if_pos g, if_pos g]; rfl
      · rw [if_neg g, if_neg g]
        show (sI _ 111 7).1 k = _
        rw [sI1, if_neg g]
        rfl
    · intro a ha
      show (sE (sE σ1 6 7 _) 7 7 _).2.2 a = _
      rw [sE3, if_neg (by omega), sE3, if_neg (by omega)]
      show (scp (scp σ 6 6 1 0 7) 7 7 1 0 7).2.2 a = _
      rw [scp3, if_neg (by omega), scp3, if_neg (by omega)]
    · intro k hk
      have hk7 : k ≤ 7 := hk
      show (sE (sE σ1 6 7 (σ.1 107)) 7 7 _).2.2 6 k = if k = 7 then _ else _
      rw [sE3, if_neg (by omega), sE3, if_pos rfl, upd_a, if_pos rfl]
      by_cases g : k = 7
      · rw [if_pos g, if_pos g]
      · rw [if_neg g, if_neg g]
        show va_cpy (σ.2.2 6) (σ.2.2 6) 1 0 7 k = _
        rw [pk_cpy_in (by omega) (by omega), show 1 + (k - 0) = k + 1 by omega]
    · intro k hk
      have hk7 : k ≤ 7 := hk
      show (sE (sE σ1 6 7 (σ.1 107)) 7 7 (σ.1 108)).2.2 7 k = if k = 7 then _ else _
      rw [sE3, if_pos rfl, upd_a, if_pos rfl]
      by_cases g : k = 7
      · rw [if_pos g, if_pos g]
      · rw [if_neg g, if_neg g]
        show va_cpy (σ.2.2 7) (σ.2.2 7) 1 0 7 k = _
        rw [pk_cpy_in (by omega) (by omega), show 1 + (k - 0) = k + 1 by omega]
  · have hb := key σ un (by omega) h5
    have ku : kpU un = un := if_neg h8
    rw [ku]
    refine ⟨_, ?_, (((SCo.rf σ).e 6 un (σ.1 107) (by omega)).e 7 un (σ.1 108) (by omega)).i 111 (nI (un + 1)) (by simp), ?_, ?_, ?_, ?_⟩
    · unfold f_X2_remember_1
      rw [h5, if_pos (show nI un < (8 : Int32) from nI_lt (b := 8) (by omega) (by omega))]
      exact hb
    · intro k
      rw [sI1]
      rfl
    · intro a ha
      show (sE (sE σ 6 un _) 7 un _).2.2 a = _
      rw [sE3, if_neg (by omega), sE3, if_neg (by omega)]
    · intro k hk
      show (sE (sE σ 6 un (σ.1 107)) 7 un _).2.2 6 k = _
      rw [sE3, if_neg (by omega), sE3, if_pos rfl, upd_a, if_neg h8]
    · intro k hk
      show (sE (sE σ 6 un (σ.1 107)) 7 un (σ.1 108)).2.2 7 k = _
      rw [sE3, if_pos rfl, upd_a, if_neg h8]
      rfl
/-- both sides keep what may be undone -/
theorem keep_both {σ τ : St} {n nn rn un se : Nat} (hI : Inv (τ.2.2 1) n nn rn un se) (hF : FR1 σ (τ.2.2 1)) : ∃ σ' τ', f_X2_remember_1 σ = some σ' ∧ f_X11_keep τ = some τ' ∧ SCo σ σ' ∧ SMo τ τ' ∧ FR1 σ' (τ'.2.2 1) ∧ Inv (τ'.2.2 1) n nn rn (kpU un + 1) se ∧ (∀ k, k < 5 → τ'.2.2 1 k = τ.2.2 1 k) := by
  obtain ⟨k0, k3, k4, k5⟩ := hI.c0
  obtain ⟨⟨a1, a2⟩, ⟨s1, s2⟩, ⟨n1, n2⟩, ⟨r1, r2⟩, ⟨u1, u2⟩, hk, ht, hf, hno, hre, hun⟩ := id hI
  obtain ⟨f0, f1, f2, f3, f4, f5, g1, g2, g3, g4, g5, g6⟩ := id hF
  obtain ⟨σ', c1, c2, c3, c4, c6, c7⟩ := rem_C σ un u2 (f5.trans u1)
  obtain ⟨τ', m1, m2, m3⟩ := keep_M τ un u2 u1
  have hu7 : kpU un ≤ 7 := by unfold kpU; by_cases h : un = 8 <;> simp [h]; omega
  have hue : un = 8 → kpU un = 7 := fun h => by unfold kpU; rw [if_pos h]
  have hun8 : un ≠ 8 → kpU un = un := fun h => by unfold kpU; rw [if_neg h]
  generalize hU : kpU un = U at *
  have m4 : ∀ k, τ'.2.2 1 k = if k = 5 then nI (U + 1) else if k = 69 + 2 * U then τ.2.2 1 2 else if k = 68 + 2 * U then τ.2.2 1 1 else if un = 8 ∧ 68 ≤ k ∧ k < 82 then τ.2.2 1 (k + 2) else τ.2.2 1 k := fun k => by rw [m3]; unfold kpM; rw [hU]
  have dd : ∀ k, k < 68 → k ≠ 5 → τ'.2.2 1 k = τ.2.2 1 k := fun k h1 h2 => by rw [m4]; (repeat (first | rw [if_neg (by omega)] | rw [if_pos (by omega)]))
  have d5 : τ'.2.2 1 5 = nI (U + 1) := by rw [m4]; rfl
  refine ⟨σ', τ', c1, m1, c2, m2, ?_, ?_, fun k hk => dd k (by omega) (by omega)⟩
  · unfold FR1
    rw [c3, c3, c3, c3, c3, c3, dd 0 (by omega) (by omega), dd 1 (by omega) (by omega), dd 2 (by omega) (by omega), dd 3 (by omega) (by omega), dd 4 (by omega) (by omega), d5, nI_clamp (by omega), c4 2 (by omega), c4 3 (by omega), c4 4 (by omega), c4 5 (by omega)]
    refine ⟨f0, f1, f2, f3, f4, rfl, fun t h => ?_, fun t h => ?_, fun t h => ?_, fun t h => ?_, fun k h => ?_, fun k h => ?_⟩
    · rw [dd (6 + t) (by omega) (by omega)]; exact g1 t h
    · rw [dd (13 + t) (by omega) (by omega)]; exact g2 t h
    · rw [dd (20 + t) (by omega) (by omega)]; exact g3 t h
    · rw [dd (50 + t) (by omega) (by omega)]; exact g4 t h
    · rw [c6 k (by omega), m4]
      by_cases e1 : k = U
      · (repeat (first | rw [if_neg (by omega)] | rw [if_pos (by omega)]))
        exact f1
      · by_cases e8 : un = 8
        · have := hue e8
          (repeat (first | rw [if_neg (by omega)] | rw [if_pos (by omega)]))
          rw [show 68 + 2 * k + 2 = 68 + 2 * (k + 1) by omega]
          exact g5 (k + 1) (by omega)
        · have := hun8 e8
          (repeat (first | rw [if_neg (by omega)] | rw [if_pos (by omega)]))
          exact g5 k (by omega)
    · rw [c7 k (by omega), m4]
      by_cases e1 : k = U
      · (repeat (first | rw [if_neg (by omega)] | rw [if_pos (by omega)]))
        exact f2
      · by_cases e8 : un = 8
        · have := hue e8
          (repeat (first | rw [if_neg (by omega)] | rw [if_pos (by omega)]))
          rw [show 69 + 2 * k + 2 = 69 + 2 * (k + 1) by omega]
          exact g6 (k + 1) (by omega)
        · have := hun8 e8
          (repeat (first | rw [if_neg (by omega)] | rw [if_pos (by omega)]))
          exact g6 k (by omega)
  · refine ⟨⟨by rw [dd 0 (by omega) (by omega)]; exact a1, a2⟩, ⟨by rw [dd 2 (by omega) (by omega)]; exact s1, s2⟩, ⟨by rw [dd 3 (by omega) (by omega)]; exact n1, n2⟩, ⟨by rw [dd 4 (by omega) (by omega)]; exact r1, r2⟩, ⟨d5, by omega⟩, hI.hK (fun t h => dd _ (by omega) (by omega)), hI.hT (fun t h => dd _ (by omega) (by omega)), hI.hF (dd 1 (by omega) (by omega)), hI.hN (fun t h => dd _ (by omega) (by omega)), hI.hRd (fun t h => dd _ (by omega) (by omega)), fun k h => ?_⟩
    rw [m4, m4]
    by_cases e1 : k = U
    · (repeat (first | rw [if_neg (by omega)] | rw [if_pos (by omega)]))
      exact ⟨hf, ⟨se, by omega, s2, s1⟩⟩
    · by_cases e8 : un = 8
      · have := hue e8
        (repeat (first | rw [if_neg (by omega)] | rw [if_pos (by omega)]))
        rw [show 68 + 2 * k + 2 = 68 + 2 * (k + 1) by omega, show 69 + 2 * k + 2 = 69 + 2 * (k + 1) by omega]
        exact hun (k + 1) (by omega)
      · have := hun8 e8
        (repeat (first | rw [if_neg (by omega)] | rw [if_pos (by omega)]))
        exact hun k (by omega)
