/-! how the kinds copy and how long that lasts -/
def cpL (k s : Nat) (l : List Nat) : List Nat := if k = 1 then l.tail else if k = 3 then l.map up else if k = 4 then l.reverse else if k = 5 then (if s % 2 = 1 then l.tail else l) else l
def tkN (k s : Nat) : Nat := if k = 2 then 2 else if k = 4 then 4 else if k = 5 then (if s % 4 = 0 then 4 else 1) else 1
theorem cpL_g {k s : Nat} {l : List Nat} (h : Lg l) : Lg (cpL k s l) := by
  unfold cpL
  repeat' split
  all_goals first | exact h | exact h.tail | exact h.map | exact h.rev
theorem cpL_l {k s : Nat} {l : List Nat} (h : l.length ≤ 6) : (cpL k s l).length ≤ 6 := by
  unfold cpL
  repeat' split
  all_goals first | exact h | (simp; omega)
theorem tail_I {l : List Nat} (h : Lg l) (hl : l.length ≤ 6) : nI (vL l) / 10 = nI (vL l.tail) := by
  cases l with
  | nil => decide
  | cons c l => exact vc_d h.hd (by have := vl_le h hl; omega)
theorem m2 {s : Nat} (h : s < 2 ^ 31) : nI s - nI s / 2 * 2 = nI (s % 2) := pk_rem (d := 2) h (by omega) (by omega)
theorem cp_M {k s : Nat} {l : List Nat} (hk : k < 6) (hs : s < 2 ^ 31) (h : Lg l) (hl : l.length ≤ 6) : f_X11_copyAs (nI k) (nI (vL l)) (nI s) = some (nI (vL (cpL k s l))) := by
  unfold f_X11_copyAs f_X11_copyAs_b67
  rw [oneMore_M h hl, turned_M h hl, tail_I h hl, m2 hs, bs, bs]
  rcases (show k = 0 ∨ k = 1 ∨ k = 2 ∨ k = 3 ∨ k = 4 ∨ k = 5 by omega) with rfl | rfl | rfl | rfl | rfl | rfl
  · rfl
  · rfl
  · rfl
  · rfl
  · rfl
  · show (if nI (s % 2) = 1 then some (nI (vL l.tail)) else some (nI (vL l))) = some (nI (vL (if s % 2 = 1 then l.tail else l)))
    rcases (show s % 2 = 0 ∨ s % 2 = 1 by omega) with e | e
    · rw [e]; rfl
    · rw [e]; rfl
theorem cp_C {k s : Nat} {l : List Nat} (hk : k < 6) (hs : s < 2 ^ 31) (h : Lg l) (hl : l.length ≤ 6) : kcopied k (nI (vL l)) (nI s) = some (nI (vL (cpL k s l))) := by
  rcases (show k = 0 ∨ k = 1 ∨ k = 2 ∨ k = 3 ∨ k = 4 ∨ k = 5 by omega) with rfl | rfl | rfl | rfl | rfl | rfl
  · rfl
  · show some (nI (vL l) / 10) = _
    rw [tail_I h hl]
    rfl
  · rfl
  · show (f_X3_raised (nI (vL l))).bind _ = _
    rw [raised_C h hl]
    rfl
  · show (f_X3_turned (nI (vL l))).bind _ = _
    rw [turned_C h hl]
    rfl
  · show (if (nI s - nI s / 2 * 2) = 0 then some (nI (vL l)) else some (nI (vL l) / 10)) = some (nI (vL (if s % 2 = 1 then l.tail else l)))
    rw [m2 hs, tail_I h hl]
    rcases (show s % 2 = 0 ∨ s % 2 = 1 by omega) with e | e
    · rw [e]; rfl
    · rw [e]; rfl
theorem tk_M {k s : Nat} (hk : k < 6) (hs : s < 2 ^ 31) : f_X11_takesAs (nI k) (nI s) = some (nI (tkN k s)) := by
  unfold f_X11_takesAs
  rw [up_I hs]
  rcases (show k = 0 ∨ k = 1 ∨ k = 2 ∨ k = 3 ∨ k = 4 ∨ k = 5 by omega) with rfl | rfl | rfl | rfl | rfl | rfl
  · rfl
  · rfl
  · rfl
  · rfl
  · rfl
  · show (if nI (s % 4) = 0 then some 4 else some 1) = some (nI (if s % 4 = 0 then 4 else 1))
    rcases (show s % 4 = 0 ∨ s % 4 = 1 ∨ s % 4 = 2 ∨ s % 4 = 3 by omega) with e | e | e | e <;> rw [e] <;> rfl
theorem tk_C {k s : Nat} (hk : k < 6) (hs : s < 2 ^ 31) : klasts k (nI s) = some (nI (tkN k s)) := by
  rcases (show k = 0 ∨ k = 1 ∨ k = 2 ∨ k = 3 ∨ k = 4 ∨ k = 5 by omega) with rfl | rfl | rfl | rfl | rfl | rfl
  · rfl
  · rfl
  · rfl
  · rfl
  · rfl
  · show (if (nI s - nI s / 4 * 4) = 0 then _ else _) = some (nI (if s % 4 = 0 then 4 else 1))
    rw [up_I hs]
    rcases (show s % 4 = 0 ∨ s % 4 = 1 ∨ s % 4 = 2 ∨ s % 4 = 3 by omega) with e | e | e | e <;> rw [e] <;> rfl
theorem tkN_b (k s : Nat) : 1 ≤ tkN k s ∧ tkN k s ≤ 4 := by
  unfold tkN
  repeat' split
  all_goals omega
theorem op_copy : Op3 RelP f_X10_copy f_X11_copy := by
  intro σ τ hR a b c
  obtain ⟨n, nn, rn, un, se, hI⟩ := hR.n
  obtain ⟨k0, k3, k4, k5⟩ := hI.c0
  obtain ⟨⟨a1, a2⟩, ⟨s1, s2⟩, ⟨n1, n2⟩, ⟨r1, r2⟩, ⟨u1, u2⟩, hk, ht, hf, hno, hre, hun⟩ := id hI
  obtain ⟨f0, f1, f2, f3, f4, f5, g1, g2, g3, g4, g5, g6⟩ := id hR.2.1
  have e106 : σ.1 106 = nI n := f0.trans a1
  have bad : (f_X10_copy_b24 σ = some (-2, sI σ 13 (σ.1 13 + 1))) ∧ f_X11_copy_b25 τ = some (-2, sE τ 4 0 (τ.2.2 4 0 + 1)) := ⟨rfl, rfl⟩
  unfold f_X10_copy f_X11_copy
  by_cases hA : ¬ Tr n a
  · exact ⟨-2, _, _, by rw [isT_n e106 a2 hA, p0]; exact bad.1, by rw [isM_n a1 a2 hA, p0]; exact bad.2, hR.bad⟩
  have hA := Classical.not_not.mp hA
  rw [isT_y e106 a2 hA, isM_y a1 a2 hA, p1, p1]
  dsimp only
  obtain ⟨v, v1, v2, ⟨rfl, hb⟩ | ⟨rfl, hb⟩⟩ := isL b
  case inr => exact ⟨-2, _, _, by rw [v1, b0]; exact bad.1, by rw [v2, b0]; exact bad.2, hR.bad⟩
  rw [v1, v2, b1, b1]
  by_cases hC : ¬ Rg 0 1 c
  · exact ⟨-2, _, _, by rw [wi_n (a := 0) (b := 1) (lo := 0) (hi := 1) hC (by omega) (by omega) rfl rfl, b0]; exact bad.1, by rw [in_n (a := 0) (b := 1) (lo := 0) (hi := 1) hC (by omega) (by omega) rfl rfl, b0]; exact bad.2, hR.bad⟩
  have hC := Classical.not_not.mp hC
  rw [wi_y (a := 0) (b := 1) (lo := 0) (hi := 1) hC (by omega) (by omega) rfl rfl, in_y (a := 0) (b := 1) (lo := 0) (hi := 1) hC (by omega) (by omega) rfl rfl, b1, b1]
  obtain ⟨i, hi, rfl⟩ := hA
  obtain ⟨m, rfl, hm⟩ := hb
  obtain ⟨l, hl, hg, rfl⟩ := hm.list
  obtain ⟨kd, hkd, ek⟩ := hk i hi
  have e6 : (6 : Int32) + nI i = nI (6 + i) := nI_add 6 i
  have c6 : (nI (6 + i)).toNatClampNeg = 6 + i := nI_clamp (by omega)
  have ek2 : σ.2.2 2 i = nI kd := (g1 i (by omega)).trans ek
  have e108 : σ.1 108 = nI se := f2.trans s1
  rw [e6, c6, ek, s1, e108, nI_clamp (show i < 2 ^ 31 by omega), ek2, ck_nI (by omega) (by omega), ck_nI (by omega) (by omega), ck_nI (by omega) (by omega), cT, cT, cT, cT, nI_clamp (show kd < 2 ^ 31 by omega), cp_C hkd (by omega) hg hl, tk_C hkd (by omega), cp_M hkd (by omega) hg hl, tk_M hkd (by omega)]
  by_cases h0 : c = 0
  · rw [if_pos h0, if_pos h0]
    exact ⟨_, σ, τ, rfl, rfl, hR⟩
  · rw [if_neg h0, if_neg h0]
    exact ⟨_, σ, τ, rfl, rfl, hR⟩
