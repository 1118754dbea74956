/-! a note told -/
theorem op_note : Op5 RelP f_X10_note f_X11_note := by
  intro σ τ hR a b c d e
  obtain ⟨n, nn, rn, un, se, hI⟩ := hR.n
  obtain ⟨k0, k3, k4, k5⟩ := hI.c0
  obtain ⟨⟨a1, a2⟩, ⟨s1, s2⟩, ⟨n1, n2⟩, ⟨r1, r2⟩, ⟨u1, u2⟩, hk, ht, hf, hno, hre, hun⟩ := id hI
  obtain ⟨f0, f1, f2, f3, f4, f5, g1, g2, g3, g4, g5, g6⟩ := id hR.2.1
  have e106 : σ.1 106 = nI n := f0.trans a1
  have bad : (f_X10_note_b44 σ = some (-2, sI σ 13 (σ.1 13 + 1))) ∧ f_X11_note_b48 τ = some (-2, sE τ 4 0 (τ.2.2 4 0 + 1)) := ⟨rfl, rfl⟩
  unfold f_X10_note f_X11_note
  by_cases hA : ¬ Tr n a
  · exact ⟨-2, _, _, by rw [isT_n e106 a2 hA, p0]; exact bad.1, by rw [isM_n a1 a2 hA, p0]; exact bad.2, hR.bad⟩
  have hA := Classical.not_not.mp hA
  rw [isT_y e106 a2 hA, isM_y a1 a2 hA, p1, p1]
  dsimp only
  obtain ⟨v, v1, v2, ⟨rfl, hb⟩ | ⟨rfl, hb⟩⟩ := isL b
  case inr => exact ⟨-2, _, _, by rw [v1, b0]; exact bad.1, by rw [v2, b0]; exact bad.2, hR.bad⟩
  rw [v1, v2, b1, b1]
  by_cases hC : ¬ Rg 0 99 c
  · exact ⟨-2, _, _, by rw [wi_n (a := 0) (b := 99) (lo := 0) (hi := 99) hC (by omega) (by omega) rfl rfl, b0]; exact bad.1, by rw [in_n (a := 0) (b := 99) (lo := 0) (hi := 99) hC (by omega) (by omega) rfl rfl, b0]; exact bad.2, hR.bad⟩
  have hC := Classical.not_not.mp hC
  rw [wi_y (a := 0) (b := 99) (lo := 0) (hi := 99) hC (by omega) (by omega) rfl rfl, in_y (a := 0) (b := 99) (lo := 0) (hi := 99) hC (by omega) (by omega) rfl rfl, b1, b1]
  obtain ⟨v, v1, v2, ⟨rfl, hd⟩ | ⟨rfl, hd⟩⟩ := isL d
  case inr => exact ⟨-2, _, _, by rw [v1, b0]; exact bad.1, by rw [v2, b0]; exact bad.2, hR.bad⟩
  rw [v1, v2, b1, b1]
  by_cases hE : ¬ Rg 0 20 e
  · exact ⟨-2, _, _, by rw [wi_n (a := 0) (b := 20) (lo := 0) (hi := 20) hE (by omega) (by omega) rfl rfl, b0]; exact bad.1, by rw [in_n (a := 0) (b := 20) (lo := 0) (hi := 20) hE (by omega) (by omega) rfl rfl, b0]; exact bad.2, hR.bad⟩
  have hE := Classical.not_not.mp hE
  rw [wi_y (a := 0) (b := 20) (lo := 0) (hi := 20) hE (by omega) (by omega) rfl rfl, in_y (a := 0) (b := 20) (lo := 0) (hi := 20) hE (by omega) (by omega) rfl rfl, b1, b1]
  have e109 : σ.1 109 = nI nn := f3.trans n1
  by_cases h6 : nn = 6
  · subst h6
    rw [e109, n1, if_neg (by decide), if_pos (by decide)]
    exact ⟨-4, _, _, rfl, rfl, hR.full⟩
  have hn6 : nn < 6 := by omega
  rw [e109, n1, if_pos (show nI nn < (6 : Int32) from nI_lt (b := 6) hn6 (by omega)), if_neg (show ¬ nI nn = (6 : Int32) from fun z => h6 ((neq (b := 6) (by omega) (by omega)).mp z))]
  have q0 : nI nn * 5 = nI (5 * nn) := by rw [show (5 : Int32) = nI 5 from rfl, pk_mul, Nat.mul_comm]
  have q1 : nI (5 * nn) + 1 = nI (5 * nn + 1) := nI_add _ 1
  have q2 : nI (5 * nn) + 2 = nI (5 * nn + 2) := nI_add _ 2
  have q3 : nI (5 * nn) + 3 = nI (5 * nn + 3) := nI_add _ 3
  have q4 : nI (5 * nn) + 4 = nI (5 * nn + 4) := nI_add _ 4
  have w0 : (20 : Int32) + 5 * nI nn = nI (20 + 5 * nn) := by rw [show (5 : Int32) = nI 5 from rfl, pk_mul]; exact nI_add 20 _
  have w1 : nI (20 + 5 * nn) + 1 = nI (21 + 5 * nn) := by rw [nI_1]; congr 1; omega
  have w2 : nI (20 + 5 * nn) + 2 = nI (22 + 5 * nn) := by rw [show (2 : Int32) = nI 2 from rfl, nI_add]; congr 1; omega
  have w3 : nI (20 + 5 * nn) + 3 = nI (23 + 5 * nn) := by rw [show (3 : Int32) = nI 3 from rfl, nI_add]; congr 1; omega
  have w4 : nI (20 + 5 * nn) + 4 = nI (24 + 5 * nn) := by rw [show (4 : Int32) = nI 4 from rfl, nI_add]; congr 1; omega
  let σ' := sI (sE (sE (sE (sE (sE σ 4 (5 * nn) a) 4 (5 * nn + 1) b) 4 (5 * nn + 2) c) 4 (5 * nn + 3) d) 4 (5 * nn + 4) e) 109 (nI (nn + 1))
  let τ' := sE (sE (sE (sE (sE (sE τ 1 (20 + 5 * nn) a) 1 (21 + 5 * nn) b) 1 (22 + 5 * nn) c) 1 (23 + 5 * nn) d) 1 (24 + 5 * nn) e) 1 3 (nI (nn + 1))
  have hM : ∀ k, τ'.2.2 1 k = if k = 3 then nI (nn + 1) else if k = 24 + 5 * nn then e else if k = 23 + 5 * nn then d else if k = 22 + 5 * nn then c else if k = 21 + 5 * nn then b else if k = 20 + 5 * nn then a else τ.2.2 1 k := fun k => rfl
  have hS : ∀ k, σ'.2.2 4 k = if k = 5 * nn + 4 then e else if k = 5 * nn + 3 then d else if k = 5 * nn + 2 then c else if k = 5 * nn + 1 then b else if k = 5 * nn then a else σ.2.2 4 k := fun k => rfl
  refine ⟨nI (nn + 1), σ', τ', ?_, ?_, ?_⟩
  · unfold f_X2_addNote_1
    rw [e109, if_neg (show ¬ (6 : Int32) ≤ nI nn from nI_ge (b := 6) hn6 (by omega)), q0, q1, q2, q3, q4, ck_nI (by omega) (by omega), ck_nI (by omega) (by omega), ck_nI (by omega) (by omega), ck_nI (by omega) (by omega), ck_nI (by omega) (by omega), nI_clamp (by omega), nI_clamp (by omega), nI_clamp (by omega), nI_clamp (by omega), nI_clamp (by omega), nI_1]
    rfl
  · rw [w0, w1, w2, w3, w4, ck_nI (by omega) (by omega), ck_nI (by omega) (by omega), ck_nI (by omega) (by omega), ck_nI (by omega) (by omega), ck_nI (by omega) (by omega), nI_clamp (by omega), nI_clamp (by omega), nI_clamp (by omega), nI_clamp (by omega), nI_clamp (by omega)]
    have r3 : (sE (sE (sE (sE (sE τ 1 (20 + 5 * nn) a) 1 (21 + 5 * nn) b) 1 (22 + 5 * nn) c) 1 (23 + 5 * nn) d) 1 (24 + 5 * nn) e).2.2 1 3 + 1 = nI (nn + 1) := by
      have : (sE (sE (sE (sE (sE τ 1 (20 + 5 * nn) a) 1 (21 + 5 * nn) b) 1 (22 + 5 * nn) c) 1 (23 + 5 * nn) d) 1 (24 + 5 * nn) e).2.2 1 3 = τ.2.2 1 3 := by
        show (if 3 = 24 + 5 * nn then e else if 3 = 23 + 5 * nn then d else if 3 = 22 + 5 * nn then c else if 3 = 21 + 5 * nn then b else if 3 = 20 + 5 * nn then a else τ.2.2 1 3) = _
        (repeat (first | rw [if_neg (by omega)] | rw [if_pos (by omega)]))
      rw [this, n1, nI_1]
    rw [r3]
    rfl
  · have dd : ∀ k, k ≠ 3 → (k < 20 + 5 * nn ∨ 25 + 5 * nn ≤ k) → τ'.2.2 1 k = τ.2.2 1 k := fun k h1 h2 => by rw [hM]; (repeat (first | rw [if_neg (by omega)] | rw [if_pos (by omega)]))
    have d3 : τ'.2.2 1 3 = nI (nn + 1) := rfl
    refine RelP.mk ⟨n, nn + 1, rn, un, se, ?_⟩ ?_ (hR.o.same (((((((SCo.rf σ).e 4 (5 * nn) a (by omega)).e 4 (5 * nn + 1) b (by omega)).e 4 (5 * nn + 2) c (by omega)).e 4 (5 * nn + 3) d (by omega)).e 4 (5 * nn + 4) e (by omega)).i 109 (nI (nn + 1)) (by simp)) (((((((SMo.rf τ).e (20 + 5 * nn) a).e (21 + 5 * nn) b).e (22 + 5 * nn) c).e (23 + 5 * nn) d).e (24 + 5 * nn) e).e 3 (nI (nn + 1))))
    · refine ⟨⟨(dd 0 (by omega) (by omega)).trans a1, a2⟩, ⟨(dd 2 (by omega) (by omega)).trans s1, s2⟩, ⟨d3, by omega⟩, ⟨(dd 4 (by omega) (by omega)).trans r1, r2⟩, ⟨(dd 5 (by omega) (by omega)).trans u1, u2⟩, hI.hK (fun t h => dd _ (by omega) (by omega)), hI.hT (fun t h => dd _ (by omega) (by omega)), hI.hF (dd 1 (by omega) (by omega)), ?_, hI.hRd (fun t h => dd _ (by omega) (by omega)), hI.hU (fun t h => dd _ (by omega) (by omega))⟩
      intro k hk
      by_cases g : k = nn
      · subst g
        have z0 : τ'.2.2 1 (20 + 5 * k) = a := by rw [hM]; (repeat (first | rw [if_neg (by omega)] | rw [if_pos (by omega)]))
        have z1 : τ'.2.2 1 (21 + 5 * k) = b := by rw [hM]; (repeat (first | rw [if_neg (by omega)] | rw [if_pos (by omega)]))
        have z2 : τ'.2.2 1 (22 + 5 * k) = c := by rw [hM]; (repeat (first | rw [if_neg (by omega)] | rw [if_pos (by omega)]))
        have z3 : τ'.2.2 1 (23 + 5 * k) = d := by rw [hM]; (repeat (first | rw [if_neg (by omega)] | rw [if_pos (by omega)]))
        have z4 : τ'.2.2 1 (24 + 5 * k) = e := by rw [hM]; (repeat (first | rw [if_neg (by omega)] | rw [if_pos (by omega)]))
        rw [z0, z1, z2, z3, z4]
        exact ⟨hA, hb, hC, hd, hE⟩
      · rw [dd _ (by omega) (by omega), dd _ (by omega) (by omega), dd _ (by omega) (by omega), dd _ (by omega) (by omega), dd _ (by omega) (by omega)]
        exact hno k (by omega)
    · unfold FR1
      rw [d3, nI_clamp (by omega), dd 0 (by omega) (by omega), dd 1 (by omega) (by omega), dd 2 (by omega) (by omega), dd 4 (by omega) (by omega), dd 5 (by omega) (by omega)]
      refine ⟨f0, f1, f2, rfl, f4, f5, fun t h => ?_, fun t h => ?_, fun t h => ?_, fun t h => ?_, fun k h => ?_, fun k h => ?_⟩
      · rw [dd (6 + t) (by omega) (by omega)]; exact g1 t h
      · rw [dd (13 + t) (by omega) (by omega)]; exact g2 t h
      · by_cases q : t < 5 * nn
        · rw [dd (20 + t) (by omega) (by omega), hS]
          (repeat (first | rw [if_neg (by omega)] | rw [if_pos (by omega)]))
          exact g3 t (by omega)
        · rw [hS, hM]
          rcases (show t = 5 * nn ∨ t = 5 * nn + 1 ∨ t = 5 * nn + 2 ∨ t = 5 * nn + 3 ∨ t = 5 * nn + 4 by omega) with z | z | z | z | z
          all_goals (repeat (first | rw [if_neg (by omega)] | rw [if_pos (by omega)]))
      · rw [dd (50 + t) (by omega) (by omega)]; exact g4 t h
      · rw [dd _ (by omega) (by omega)]; exact g5 k h
      · rw [dd _ (by omega) (by omega)]; exact g6 k h
