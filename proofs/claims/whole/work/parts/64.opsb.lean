/-! bits set and cleared -/
theorem bt_1 : ∀ j, bt 1 j = decide (j = 0) := by
  intro j
  by_cases h : j < 32
  · revert j; decide +kernel
  · rw [b_big (by omega), decide_eq_false (by omega)]
theorem bt_shl1 {b : Nat} (hb : b < 32) (i : Nat) : bt ((1 : Int32) <<< (nI b &&& 31)) i = decide (i = b) := by
  by_cases h : i < 32
  · rw [b_shl b hb 1 h, bt_1]
    by_cases e : i = b
    · subst e; simp
    · by_cases g : b ≤ i
      · simp [e, g]; omega
      · simp [e, g]
  · rw [b_big (by omega), decide_eq_false (by omega)]
theorem bt_set {b : Nat} (hb : b < 32) (x : Int32) (i : Nat) : bt (x ||| ((1 : Int32) <<< (nI b &&& 31))) i = (bt x i || decide (i = b)) := by rw [b_or, bt_shl1 hb]
theorem bt_clr {b : Nat} (hb : b < 32) (x : Int32) (i : Nat) : bt (x &&& (((1 : Int32) <<< (nI b &&& 31)) ^^^ (-1))) i = (bt x i && !decide (i = b)) := by
  rw [b_and, b_xor, bt_shl1 hb]
  by_cases h : i < 32
  · rw [b_m1 i h]; simp
  · rw [b_big (x := x) (by omega)]; rfl
theorem or_set {b : Nat} (hb : b < 32) (x : Int32) : (x &&& (((1 : Int32) <<< (nI b &&& 31)) ^^^ (-1))) ||| ((1 : Int32) <<< (nI b &&& 31)) = x ||| ((1 : Int32) <<< (nI b &&& 31)) := by
  apply b_ext
  intro i _
  rw [b_or, bt_clr hb, bt_set hb, bt_shl1 hb]
  cases bt x i <;> cases decide (i = b) <;> rfl
theorem shl0 (x : Int32) : ∀ b, b < 32 → (0 : Int32) <<< (nI b &&& 31) = 0 := by decide +kernel
theorem or_0 (x : Int32) : x ||| 0 = x := by
  apply b_ext
  intro i _
  rw [b_or, b_0, Bool.or_false]
theorem or_clr {b : Nat} (hb : b < 32) (x : Int32) : (x &&& (((1 : Int32) <<< (nI b &&& 31)) ^^^ (-1))) ||| ((0 : Int32) <<< (nI b &&& 31)) = x &&& (((1 : Int32) <<< (nI b &&& 31)) ^^^ (-1)) := by rw [shl0 0 b hb, or_0]
theorem bt_none {x : Int32} (h : ∀ i, bt x i = true → False) : x = 0 := by
  apply b_ext
  intro i _
  rw [b_0]
  cases e : bt x i
  · rfl
  · exact absurd e (fun z => h i z)
theorem okR_mono {n n' : Nat} (hn : n ≤ n') : ∀ (k u m : Nat), okR n k u m = true → okR n' k u m = true := by
  intro k
  induction k with
  | zero => intro u m h; exact h
  | succ k ih =>
    intro u m h
    unfold okR at h ⊢
    simp only [Bool.or_eq_true, Bool.and_eq_true, decide_eq_true_eq] at h ⊢
    rcases h with h | ⟨⟨⟨h1, h2⟩, h3⟩, h4⟩
    · exact Or.inl h
    · exact Or.inr ⟨⟨⟨h1, by omega⟩, h3⟩, ih _ _ h4⟩
theorem Tr.mono {n n' : Nat} {t : Int32} (hn : n ≤ n') (h : Tr n t) : Tr n' t := by
  obtain ⟨j, hj, e⟩ := h
  exact ⟨j, by omega, e⟩
theorem RwI.mono {n n' : Nat} {t : Int32} (hn : n ≤ n') (h : RwI n t) : RwI n' t := by
  obtain ⟨m, e, h1, h2⟩ := h
  exact ⟨m, e, h1, okR_mono hn _ _ _ h2⟩
theorem Inv.c0 {M : Nat → Int32} {n nn rn un se : Nat} (h : Inv M n nn rn un se) : (M 0).toNatClampNeg = n ∧ (M 3).toNatClampNeg = nn ∧ (M 4).toNatClampNeg = rn ∧ (M 5).toNatClampNeg = un := by
  obtain ⟨⟨a1, a2⟩, -, ⟨b1, b2⟩, ⟨c1, c2⟩, ⟨d1, d2⟩, -⟩ := h
  rw [a1, b1, c1, d1]
  exact ⟨nI_clamp (by omega), nI_clamp (by omega), nI_clamp (by omega), nI_clamp (by omega)⟩
theorem op_tree : Op1 RelP f_X10_tree f_X11_tree := by
  intro σ τ hR a
  by_cases ha : Rg 0 5 a
  · obtain ⟨n, nn, rn, un, se, hI⟩ := hR.n
    obtain ⟨kd, -, hkd, rfl⟩ := id ha
    obtain ⟨k0, k3, k4, k5⟩ := hI.c0
    obtain ⟨⟨a1, a2⟩, ⟨s1, s2⟩, ⟨n1, n2⟩, ⟨r1, r2⟩, ⟨u1, u2⟩, hk, ht, hf, hno, hre, hun⟩ := id hI
    obtain ⟨f0, f1, f2, f3, f4, f5, g1, g2, g3, g4, g5, g6⟩ := id hR.2.1
    rw [k0] at g1 g2
    rw [k3] at g3
    rw [k4] at g4
    have e106 : σ.1 106 = nI n := f0.trans a1
    by_cases h7 : n = 7
    · subst h7
      refine ⟨-4, _, _, ?_, ?_, hR.full⟩
      · unfold f_X10_tree
        rw [wi_y (a := 0) (b := 5) (lo := 0) (hi := 5) ha (by omega) (by omega) rfl rfl, b1, e106, if_neg (by decide)]
        rfl
      · unfold f_X11_tree
        rw [in_y (a := 0) (b := 5) (lo := 0) (hi := 5) ha (by omega) (by omega) rfl rfl, b1]
        unfold f_X11_many
        rw [bs]
        show (if τ.2.2 1 0 = 7 then _ else _) = _
        rw [a1, if_pos (by decide)]
        rfl
    · have hn : n < 7 := by omega
      have hz : τ.2.2 1 (13 + n) = 0 := bt_none (fun i hb => absurd (ht n i hn hb).1 (by omega))
      let σ' := sI (sI (sE (sE σ 2 n (nI kd)) 3 n 0) 106 (nI (n + 1))) 111 0
      let τ' := sE (sE (sE τ 1 (6 + n) (nI kd)) 1 0 (nI (n + 1))) 1 5 0
      have hM : ∀ k, τ'.2.2 1 k = if k = 5 then 0 else if k = 0 then nI (n + 1) else if k = 6 + n then nI kd else τ.2.2 1 k := fun k => rfl
      refine ⟨nI n, σ', τ', ?_, ?_, ?_⟩
      · unfold f_X10_tree
        rw [wi_y (a := 0) (b := 5) (lo := 0) (hi := 5) ha (by omega) (by omega) rfl rfl, b1, e106, if_pos (show nI n < (7 : Int32) from nI_lt (b := 7) hn (by omega))]
        unfold f_X2_plant_1
        rw [e106, if_neg (show ¬ (7 : Int32) ≤ nI n from nI_ge (b := 7) hn (by omega)), ck_nI hn (by omega), nI_clamp (by omega), nI_1]
        show some (nI (n + 1) - 1, _) = _
        rw [nI_pred]
      · unfold f_X11_tree
        rw [in_y (a := 0) (b := 5) (lo := 0) (hi := 5) ha (by omega) (by omega) rfl rfl, b1]
        unfold f_X11_many
        rw [bs]
        show (if τ.2.2 1 0 = 7 then _ else _) = _
        rw [if_neg (show ¬ τ.2.2 1 0 = (7 : Int32) from by rw [a1]; exact fun e => h7 ((nI_eq (b := 7) (by omega) (by omega)).mp e)), bs]
        have e6 : (6 : Int32) + τ.2.2 1 0 = nI (6 + n) := by rw [a1]; exact nI_add 6 n
        have c0 : (sE τ 1 (6 + n) (nI kd)).2.2 1 0 = τ.2.2 1 0 := by rw [sE3, if_pos rfl, upd_a, if_neg (by omega)]
        show (cond (ckI ((6 : Int32) + τ.2.2 1 0) 84) _ _) = _
        rw [e6, ck_nI (by omega) (by omega), cT, nI_clamp (by omega)]
        show (some ((_ : Int32), _)).bind _ = _
        rw [bs]
        have c1 : (sE τ 1 (6 + n) (nI kd)).2.2 1 0 + 1 = nI (n + 1) := by rw [c0, a1]; exact nI_1 n
        rw [c1]
        show some ((nI (n + 1)) - 1, _) = _
        rw [nI_pred]
      · refine RelP.mk ⟨n + 1, nn, rn, 0, se, ?_⟩ ?_ (hR.o.same (((((SCo.rf σ).e 2 n (nI kd) (by omega)).e 3 n 0 (by omega)).i 106 (nI (n + 1)) (by simp)).i 111 0 (by simp)) ((((SMo.rf τ).e (6 + n) (nI kd)).e 0 (nI (n + 1))).e 5 0))
        · refine ⟨⟨by rw [hM]; simp, by omega⟩, ⟨by rw [hM, if_neg (by omega), if_neg (by omega), if_neg (by omega)]; exact s1, s2⟩, ⟨by rw [hM, if_neg (by omega), if_neg (by omega), if_neg (by omega)]; exact n1, n2⟩, ⟨by rw [hM, if_neg (by omega), if_neg (by omega), if_neg (by omega)]; exact r1, r2⟩, ⟨by rw [hM]; rfl, by omega⟩, ?_, ?_, ?_, ?_, ?_, fun k hk => absurd hk (by omega)⟩
          · intro t h
            rw [hM, if_neg (by omega), if_neg (by omega)]
            by_cases e : t = n
            · rw [if_pos (by omega)]
              exact ⟨kd, by omega, rfl⟩
            · rw [if_neg (by omega)]
              exact hk t (by omega)
          · intro t i h hb
            rw [hM, if_neg (by omega), if_neg (by omega), if_neg (by omega)] at hb
            obtain ⟨z1, z2, z3, z4⟩ := ht t i h hb
            refine ⟨by omega, by omega, z3, ?_⟩
            rw [hM, if_neg (by omega), if_neg (by omega), if_neg (by omega)]
            exact z4
          · intro i hb
            rw [hM, if_neg (by omega), if_neg (by omega), if_neg (by omega)] at hb
            exact Nat.lt_succ_of_lt (hf i hb)
          · intro k hk
            rw [hM, hM, hM, hM, hM]
            simp only [show ¬ (20 + 5 * k = 5) by omega, show ¬ (20 + 5 * k = 0) by omega, show ¬ (20 + 5 * k = 6 + n) by omega, show ¬ (21 + 5 * k = 5) by omega, show ¬ (21 + 5 * k = 0) by omega, show ¬ (21 + 5 * k = 6 + n) by omega, show ¬ (22 + 5 * k = 5) by omega, show ¬ (22 + 5 * k = 0) by omega, show ¬ (22 + 5 * k = 6 + n) by omega, show ¬ (23 + 5 * k = 5) by omega, show ¬ (23 + 5 * k = 0) by omega, show ¬ (23 + 5 * k = 6 + n) by omega, show ¬ (24 + 5 * k = 5) by omega, show ¬ (24 + 5 * k = 0) by omega, show ¬ (24 + 5 * k = 6 + n) by omega, if_false]
            obtain ⟨z1, z2, z3, z4, z5⟩ := hno k hk
            exact ⟨z1.mono (by omega), z2, z3, z4, z5⟩
          · intro k hk
            rw [hM, hM, hM]
            simp only [show ¬ (50 + 3 * k = 5) by omega, show ¬ (50 + 3 * k = 0) by omega, show ¬ (50 + 3 * k = 6 + n) by omega, show ¬ (51 + 3 * k = 5) by omega, show ¬ (51 + 3 * k = 0) by omega, show ¬ (51 + 3 * k = 6 + n) by omega, show ¬ (52 + 3 * k = 5) by omega, show ¬ (52 + 3 * k = 0) by omega, show ¬ (52 + 3 * k = 6 + n) by omega, if_false]
            obtain ⟨z1, z2, z3⟩ := hre k hk
            exact ⟨z1.mono (by omega), z2, z3⟩
        · have d0 : τ'.2.2 1 0 = nI (n + 1) := by rw [hM]; simp
          have d5 : τ'.2.2 1 5 = 0 := by rw [hM]; rfl
          have dd : ∀ k, k ≠ 5 → k ≠ 0 → k ≠ 6 + n → τ'.2.2 1 k = τ.2.2 1 k := fun k h1 h2 h3 => by rw [hM, if_neg h1, if_neg h2, if_neg h3]
          unfold FR1
          rw [d0, d5, nI_clamp (by omega), dd 1 (by omega) (by omega) (by omega), dd 2 (by omega) (by omega) (by omega), dd 3 (by omega) (by omega) (by omega), dd 4 (by omega) (by omega) (by omega)]
          refine ⟨rfl, f1, f2, f3, f4, rfl, ?_, ?_, ?_, ?_, ?_, ?_⟩
          · intro t h
            have e1 : σ'.2.2 2 t = if t = n then nI kd else σ.2.2 2 t := rfl
            rw [e1, hM]
            by_cases e : t = n
            · (repeat (first | rw [if_neg (by omega)] | rw [if_pos (by omega)]))
            · (repeat (first | rw [if_neg (by omega)] | rw [if_pos (by omega)]))
              exact g1 t (by omega)
          · intro t h
            have e1 : σ'.2.2 3 t = if t = n then 0 else σ.2.2 3 t := rfl
            rw [e1, dd (13 + t) (by omega) (by omega) (by omega)]
            by_cases e : t = n
            · rw [if_pos e, e, hz]
            · rw [if_neg e]
              exact g2 t (by omega)
          · intro k h
            rw [k3] at h
            rw [dd (20 + k) (by omega) (by omega) (by omega)]
            exact g3 k h
          · intro k h
            rw [k4] at h
            rw [dd (50 + k) (by omega) (by omega) (by omega)]
            exact g4 k h
          · intro k h
            rw [sb_cl0] at h
            exact absurd h (by omega)
          · intro k h
            rw [sb_cl0] at h
            exact absurd h (by omega)
  · refine ⟨-2, _, _, ?_, ?_, hR.bad⟩
    · unfold f_X10_tree
      rw [wi_n (a := 0) (b := 5) (lo := 0) (hi := 5) ha (by omega) (by omega) rfl rfl]
      rfl
    · unfold f_X11_tree
      rw [in_n (a := 0) (b := 5) (lo := 0) (hi := 5) ha (by omega) (by omega) rfl rfl]
      rfl
