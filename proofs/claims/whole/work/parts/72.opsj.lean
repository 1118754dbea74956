/-! a row laid, or not; a read one told -/
theorem row_v {τ : St} {nt : Nat} (h0 : τ.2.2 1 0 = nI nt) (hnt : nt ≤ 7) (x : Int32) : (∃ m τ' L, x = nI m ∧ RwN nt m ∧ f_X11_layRow τ x = some (1, τ') ∧ SM τ τ' ∧ 0 < L ∧ L ≤ 7 ∧ m < 10 ^ L ∧ 10 ^ (L - 1) ≤ m ∧ τ'.1 7 = nI L ∧ (∀ j, j < L → τ'.2.2 5 j = nI (dg m (L - 1 - j)) - 1)) ∨ (¬ RwI nt x ∧ ∃ τ', f_X11_layRow τ x = some (0, τ') ∧ SM τ τ') := by
  unfold f_X11_layRow
  by_cases hx : x ≤ 0
  · right
    refine ⟨?_, sI τ 7 0, ?_, SM.i τ 7 0 (by omega)⟩
    · rintro ⟨m, rfl, h⟩
      exact nI_nle h.1 (by have := RwN.le hnt h; omega) hx
    · rw [if_pos hx]
      unfold f_X11_layRow_b11
      rw [if_pos hx]
      exact lay_no28 _ _ _ _ _
  · obtain ⟨m, hm, rfl⟩ := nI_of (x := x) (fun z => hx (fa_of_lt z).1)
    have hm0 : 0 < m := by
      rcases Nat.eq_zero_or_pos m with e | e
      · subst e; exact absurd (show nI 0 ≤ 0 by decide) hx
      · exact e
    rw [if_neg hx]
    unfold f_X11_layRow_b11
    rw [if_neg hx]
    unfold f_X11_layRow_b26
    obtain ⟨A, B⟩ := lay_L h0 hnt (nI m) 7 0 FU 0 m 0 (sI τ 7 0) (by omega) (by unfold FU; omega) hm (fun i => by rw [b_0, Nat.zero_testBit]) (SM.i τ 7 0 (by omega)) rfl
    by_cases g : okR nt 7 0 m = true
    · left
      obtain ⟨τ2, L, e1, e2, e3, e4, e5, e6⟩ := A g
      have hL : 0 < L := by
        rcases Nat.eq_zero_or_pos L with e | e
        · subst e; rw [Nat.pow_zero] at e4; omega
        · exact e
      obtain ⟨τ', c1, c2, c3, c4⟩ := lay_fill (τ := τ) L FU m τ2 e3 (by unfold FU; omega) hm e2
      refine ⟨m, τ', L, rfl, ⟨hm0, g⟩, ?_, c2, hL, e3, e4, e5 hL, ?_, fun j hj => by rw [c4, if_pos hj]⟩
      · rw [e1, ← c1]
        unfold f_X11_layRow_b110
        rw [e6, Nat.zero_add, Int32.sub_eq_add_neg]
      · rw [c3, e6, Nat.zero_add]
    · right
      have g : okR nt 7 0 m = false := by simpa using g
      refine ⟨?_, B g⟩
      rintro ⟨m', e, h⟩
      have hle := RwN.le hnt h
      have : m = m' := (neq hm (by omega)).mp e
      subst this
      rw [h.2] at g
      cases g
theorem op_came : Op3 RelP f_X10_came f_X11_came := by
  intro σ τ hR a b c
  obtain ⟨n, nn, rn, un, se, hI⟩ := hR.n
  have a1 : τ.2.2 1 0 = nI n := hI.1.1
  have a2 : n ≤ 7 := hI.1.2
  have e106 : σ.1 106 = nI n := hR.2.1.1.trans a1
  unfold f_X10_came f_X11_came
  have bad : ∀ τ1 : St, (f_X10_came_b28 σ = some (-2, sI σ 13 (σ.1 13 + 1))) ∧ f_X11_came_b27 τ1 = some (-2, sE τ1 4 0 (τ1.2.2 4 0 + 1)) := fun _ => ⟨rfl, rfl⟩
  rcases told_v e106 a2 a with ⟨hA, hc⟩ | ⟨hA, hc⟩
  case inr =>
    rcases row_v a1 a2 a with ⟨m, τ1, L, rfl, h, -⟩ | ⟨-, τ1, e, hS⟩
    · exact absurd ⟨m, rfl, h⟩ hA
    · rw [hc, e, p0, p0]
      exact ⟨-2, _, _, (bad τ1).1, (bad τ1).2, (hR.same (SC.rf σ) hS).bad⟩
  rcases row_v a1 a2 a with ⟨m, τ1, L, hx, h, e, hS, -⟩ | ⟨hN, -⟩
  case inr => exact absurd hA hN
  rw [hc, e, p1, p1]
  dsimp only
  have hR1 := hR.same (SC.rf σ) hS
  rw [show τ.2.2 1 = τ1.2.2 1 from (hS.2.1 1 (by decide)).symm] at hI
  clear hc e hS hR a1
  obtain ⟨k0, k3, k4, k5⟩ := hI.c0
  obtain ⟨⟨a1, -⟩, ⟨s1, s2⟩, ⟨n1, n2⟩, ⟨r1, r2⟩, ⟨u1, u2⟩, hk, ht, hf, hno, hre, hun⟩ := id hI
  obtain ⟨f0, f1, f2, f3, f4, f5, g1, g2, g3, g4, g5, g6⟩ := id hR1.2.1
  by_cases hB : ¬ Rg 0 99 b
  · exact ⟨-2, _, _, by rw [wi_n (a := 0) (b := 99) (lo := 0) (hi := 99) hB (by omega) (by omega) rfl rfl, b0]; exact (bad τ1).1, by rw [in_n (a := 0) (b := 99) (lo := 0) (hi := 99) hB (by omega) (by omega) rfl rfl, b0]; exact (bad τ1).2, hR1.bad⟩
  have hB := Classical.not_not.mp hB
  rw [wi_y (a := 0) (b := 99) (lo := 0) (hi := 99) hB (by omega) (by omega) rfl rfl, in_y (a := 0) (b := 99) (lo := 0) (hi := 99) hB (by omega) (by omega) rfl rfl, b1, b1]
  obtain ⟨v, v1, v2, ⟨rfl, hc⟩ | ⟨rfl, hc⟩⟩ := isL c
  case inr => exact ⟨-2, _, _, by rw [v1, b0]; exact (bad τ1).1, by rw [v2, b0]; exact (bad τ1).2, hR1.bad⟩
  rw [v1, v2, b1, b1]
  have e110 : σ.1 110 = nI rn := f4.trans r1
  by_cases h6 : rn = 6
  · subst h6
    rw [e110, r1, if_neg (by decide), if_pos (by decide)]
    exact ⟨-4, _, _, rfl, rfl, hR1.full⟩
  have hn6 : rn < 6 := by omega
  rw [e110, r1, if_pos (show nI rn < (6 : Int32) from nI_lt (b := 6) hn6 (by omega)), if_neg (show ¬ nI rn = (6 : Int32) from fun z => h6 ((neq (b := 6) (by omega) (by omega)).mp z))]
  have q0 : nI rn * 3 = nI (3 * rn) := by rw [show (3 : Int32) = nI 3 from rfl, pk_mul, Nat.mul_comm]
  have q1 : nI (3 * rn) + 1 = nI (3 * rn + 1) := nI_add _ 1
  have q2 : nI (3 * rn) + 2 = nI (3 * rn + 2) := nI_add _ 2
  have w0 : (50 : Int32) + 3 * nI rn = nI (50 + 3 * rn) := by rw [show (3 : Int32) = nI 3 from rfl, pk_mul]; exact nI_add 50 _
  have w1 : nI (50 + 3 * rn) + 1 = nI (51 + 3 * rn) := by rw [nI_1]; congr 1; omega
  have w2 : nI (50 + 3 * rn) + 2 = nI (52 + 3 * rn) := by rw [show (2 : Int32) = nI 2 from rfl, nI_add]; congr 1; omega
  let σ' := sI (sE (sE (sE σ 5 (3 * rn) a) 5 (3 * rn + 1) b) 5 (3 * rn + 2) c) 110 (nI (rn + 1))
  let τ' := sE (sE (sE (sE τ1 1 (50 + 3 * rn) a) 1 (51 + 3 * rn) b) 1 (52 + 3 * rn) c) 1 4 (nI (rn + 1))
  have hM : ∀ k, τ'.2.2 1 k = if k = 4 then nI (rn + 1) else if k = 52 + 3 * rn then c else if k = 51 + 3 * rn then b else if k = 50 + 3 * rn then a else τ1.2.2 1 k := fun k => rfl
  have hT : ∀ k, σ'.2.2 5 k = if k = 3 * rn + 2 then c else if k = 3 * rn + 1 then b else if k = 3 * rn then a else σ.2.2 5 k := fun k => rfl
  refine ⟨nI (rn + 1), σ', τ', ?_, ?_, ?_⟩
  · unfold f_X2_addReadOne_1
    rw [e110, if_neg (show ¬ (6 : Int32) ≤ nI rn from nI_ge (b := 6) hn6 (by omega)), q0, q1, q2, ck_nI (by omega) (by omega), ck_nI (by omega) (by omega), ck_nI (by omega) (by omega), nI_clamp (by omega), nI_clamp (by omega), nI_clamp (by omega), nI_1]
    rfl
  · rw [w0, w1, w2, ck_nI (by omega) (by omega), ck_nI (by omega) (by omega), ck_nI (by omega) (by omega), nI_clamp (by omega), nI_clamp (by omega), nI_clamp (by omega)]
    have r3 : (sE (sE (sE τ1 1 (50 + 3 * rn) a) 1 (51 + 3 * rn) b) 1 (52 + 3 * rn) c).2.2 1 4 + 1 = nI (rn + 1) := by
      have : (sE (sE (sE τ1 1 (50 + 3 * rn) a) 1 (51 + 3 * rn) b) 1 (52 + 3 * rn) c).2.2 1 4 = τ1.2.2 1 4 := by
        show (if 4 = 52 + 3 * rn then c else if 4 = 51 + 3 * rn then b else if 4 = 50 + 3 * rn then a else τ1.2.2 1 4) = _
        (repeat (first | rw [if_neg (by omega)] | rw [if_pos (by omega)]))
      rw [this, r1, nI_1]
    rw [r3]
    rfl
  · have dd : ∀ k, k ≠ 4 → (k < 50 + 3 * rn ∨ 53 + 3 * rn ≤ k) → τ'.2.2 1 k = τ1.2.2 1 k := fun k h1 h2 => by rw [hM]; (repeat (first | rw [if_neg (by omega)] | rw [if_pos (by omega)]))
    have d3 : τ'.2.2 1 4 = nI (rn + 1) := rfl
    refine RelP.mk ⟨n, nn, rn + 1, un, se, ?_⟩ ?_ (hR1.o.same (((((SCo.rf σ).e 5 (3 * rn) a (by omega)).e 5 (3 * rn + 1) b (by omega)).e 5 (3 * rn + 2) c (by omega)).i 110 (nI (rn + 1)) (by simp)) (((((SMo.rf τ1).e (50 + 3 * rn) a).e (51 + 3 * rn) b).e (52 + 3 * rn) c).e 4 (nI (rn + 1))))
    · refine ⟨⟨(dd 0 (by omega) (by omega)).trans a1, a2⟩, ⟨(dd 2 (by omega) (by omega)).trans s1, s2⟩, ⟨(dd 3 (by omega) (by omega)).trans n1, n2⟩, ⟨d3, by omega⟩, ⟨(dd 5 (by omega) (by omega)).trans u1, u2⟩, hI.hK (fun t h => dd _ (by omega) (by omega)), hI.hT (fun t h => dd _ (by omega) (by omega)), hI.hF (dd 1 (by omega) (by omega)), hI.hN (fun t h => dd _ (by omega) (by omega)), ?_, hI.hU (fun t h => dd _ (by omega) (by omega))⟩
      intro k hk
      by_cases g : k = rn
      · subst g
        have z0 : τ'.2.2 1 (50 + 3 * k) = a := by rw [hM]; (repeat (first | rw [if_neg (by omega)] | rw [if_pos (by omega)]))
        have z1 : τ'.2.2 1 (51 + 3 * k) = b := by rw [hM]; (repeat (first | rw [if_neg (by omega)] | rw [if_pos (by omega)]))
        have z2 : τ'.2.2 1 (52 + 3 * k) = c := by rw [hM]; (repeat (first | rw [if_neg (by omega)] | rw [if_pos (by omega)]))
        rw [z0, z1, z2]
        exact ⟨hA, hB, hc⟩
      · rw [dd _ (by omega) (by omega), dd _ (by omega) (by omega), dd _ (by omega) (by omega)]
        exact hre k (by omega)
    · unfold FR1
      rw [d3, nI_clamp (by omega), dd 0 (by omega) (by omega), dd 1 (by omega) (by omega), dd 2 (by omega) (by omega), dd 3 (by omega) (by omega), dd 5 (by omega) (by omega)]
      refine ⟨f0, f1, f2, f3, rfl, f5, fun t h => ?_, fun t h => ?_, fun t h => ?_, fun t h => ?_, fun k h => ?_, fun k h => ?_⟩
      · rw [dd (6 + t) (by omega) (by omega)]; exact g1 t h
      · rw [dd (13 + t) (by omega) (by omega)]; exact g2 t h
      · rw [dd (20 + t) (by omega) (by omega)]; exact g3 t h
      · by_cases q : t < 3 * rn
        · rw [dd (50 + t) (by omega) (by omega), hT]
          (repeat (first | rw [if_neg (by omega)] | rw [if_pos (by omega)]))
          exact g4 t (by omega)
        · rw [hT, hM]
          rcases (show t = 3 * rn ∨ t = 3 * rn + 1 ∨ t = 3 * rn + 2 by omega) with z | z | z
          all_goals (repeat (first | rw [if_neg (by omega)] | rw [if_pos (by omega)]))
      · rw [dd _ (by omega) (by omega)]; exact g5 k h
      · rw [dd _ (by omega) (by omega)]; exact g6 k h
