/-! the wood that is read, item by item -/
theorem Inv.tree {A A' : Nat → Int32} {n se kd : Nat} (h : Inv A n 0 0 0 se) (hn : n < 7) (hkd : kd < 6) (hM : ∀ k, A' k = if k = 0 then nI (n + 1) else if k = 6 + n then nI kd else A k) : Inv A' (n + 1) 0 0 0 se := by
  obtain ⟨⟨a1, a2⟩, ⟨s1, s2⟩, ⟨n1, n2⟩, ⟨r1, r2⟩, ⟨u1, u2⟩, hk, ht, hf, -, -, -⟩ := id h
  refine ⟨⟨by rw [hM, if_pos rfl], by omega⟩, ⟨by rw [hM, if_neg (by omega), if_neg (by omega)]; exact s1, s2⟩, ⟨by rw [hM, if_neg (by omega), if_neg (by omega)]; exact n1, n2⟩, ⟨by rw [hM, if_neg (by omega), if_neg (by omega)]; exact r1, r2⟩, ⟨by rw [hM, if_neg (by omega), if_neg (by omega)]; exact u1, u2⟩, ?_, ?_, ?_, fun k hk => absurd hk (by omega), fun k hk => absurd hk (by omega), fun k hk => absurd hk (by omega)⟩
  · intro t h
    rw [hM, if_neg (by omega)]
    by_cases e : t = n
    · rw [if_pos (by omega)]
      exact ⟨kd, by omega, rfl⟩
    · rw [if_neg (by omega)]
      exact hk t (by omega)
  · intro t i h hb
    rw [hM, if_neg (by omega), if_neg (by omega)] at hb
    obtain ⟨z1, z2, z3, z4⟩ := ht t i h hb
    refine ⟨by omega, by omega, z3, ?_⟩
    rw [hM, if_neg (by omega), if_neg (by omega)]
    exact z4
  · intro i hb
    rw [hM, if_neg (by omega), if_neg (by omega)] at hb
    exact Nat.lt_succ_of_lt (hf i hb)
theorem Inv.fell {A A' : Nat → Int32} {n se v : Nat} (h : Inv A n 0 0 0 se) (hv : v < n) (hM : ∀ k, A' k = if k = 1 then A 1 ||| ((1 : Int32) <<< (nI v &&& 31)) else A k) : Inv A' n 0 0 0 se := by
  obtain ⟨⟨a1, a2⟩, ⟨s1, s2⟩, ⟨n1, n2⟩, ⟨r1, r2⟩, ⟨u1, u2⟩, -, -, hf, -, -, -⟩ := id h
  refine ⟨⟨by rw [hM, if_neg (by omega)]; exact a1, a2⟩, ⟨by rw [hM, if_neg (by omega)]; exact s1, s2⟩, ⟨by rw [hM, if_neg (by omega)]; exact n1, n2⟩, ⟨by rw [hM, if_neg (by omega)]; exact r1, r2⟩, ⟨by rw [hM, if_neg (by omega)]; exact u1, u2⟩, h.hK (fun t _ => by rw [hM, if_neg (by omega)]), h.hT (fun t _ => by rw [hM, if_neg (by omega)]), ?_, fun k hk => absurd hk (by omega), fun k hk => absurd hk (by omega), fun k hk => absurd hk (by omega)⟩
  intro i hb
  rw [hM, if_pos rfl, bt_set (by omega)] at hb
  rcases Bool.or_eq_true_iff.mp hb with g | g
  · exact hf i g
  · have := of_decide_eq_true g; omega
theorem Inv.touch {A A' : Nat → Int32} {n se i j : Nat} (h : Inv A n 0 0 0 se) (hi : i < n) (hj : j < n) (hij : i ≠ j) (hM : ∀ k, A' k = if k = 13 + j then A (13 + j) ||| ((1 : Int32) <<< (nI i &&& 31)) else if k = 13 + i then A (13 + i) ||| ((1 : Int32) <<< (nI j &&& 31)) else A k) : Inv A' n 0 0 0 se := by
  obtain ⟨⟨a1, a2⟩, ⟨s1, s2⟩, ⟨n1, n2⟩, ⟨r1, r2⟩, ⟨u1, u2⟩, -, ht, -, -, -, -⟩ := id h
  have hB : ∀ t k, t < 7 → bt (A' (13 + t)) k = (bt (A (13 + t)) k || decide ((t = i ∧ k = j) ∨ (t = j ∧ k = i))) := by
    intro t k ht7
    rw [hM]
    by_cases h1 : t = j
    · rw [if_pos (by omega), bt_set (by omega), h1]
      by_cases h2 : k = i <;> simp [h2, Ne.symm hij]
    · rw [if_neg (by omega)]
      by_cases h3 : t = i
      · rw [if_pos (by omega), bt_set (by omega), h3]
        by_cases h2 : k = j <;> simp [h2, hij]
      · rw [if_neg (by omega)]
        simp [h1, h3]
  refine ⟨⟨by rw [hM, if_neg (by omega), if_neg (by omega)]; exact a1, a2⟩, ⟨by rw [hM, if_neg (by omega), if_neg (by omega)]; exact s1, s2⟩, ⟨by rw [hM, if_neg (by omega), if_neg (by omega)]; exact n1, n2⟩, ⟨by rw [hM, if_neg (by omega), if_neg (by omega)]; exact r1, r2⟩, ⟨by rw [hM, if_neg (by omega), if_neg (by omega)]; exact u1, u2⟩, h.hK (fun t _ => by rw [hM, if_neg (by omega), if_neg (by omega)]), ?_, h.hF (by rw [hM, if_neg (by omega), if_neg (by omega)]), fun k hk => absurd hk (by omega), fun k hk => absurd hk (by omega), fun k hk => absurd hk (by omega)⟩
  intro t k h7 hb
  rw [hB t k h7] at hb
  rcases Bool.or_eq_true_iff.mp hb with g | g
  · obtain ⟨z1, z2, z3, z4⟩ := ht t k h7 g
    refine ⟨z1, z2, z3, ?_⟩
    rw [hB k t (by omega), z4]
    rfl
  · have g := of_decide_eq_true g
    refine ⟨by omega, by omega, by omega, ?_⟩
    rw [hB k t (by omega), Bool.or_eq_true_iff]
    exact Or.inr (decide_eq_true (by omega))
/-- the draft, as both have it -/
def Dr (σ : St) (A : Nat → Int32) (n se : Nat) : Prop := Inv A n 0 0 0 se ∧ (σ.1 806 = A 0 ∧ σ.1 807 = A 1 ∧ σ.1 808 = A 2 ∧ σ.1 809 = A 3 ∧ σ.1 810 = A 4 ∧ σ.1 811 = A 5) ∧ (∀ t, t < n → σ.2.2 9 t = A (6 + t)) ∧ (∀ t, t < n → σ.2.2 10 t = A (13 + t))
theorem Dr.rd {σ σ' : St} {A : Nat → Int32} {n se : Nat} (h : Dr σ A n se) (g : Rd σ σ') : Dr σ' A n se := by
  obtain ⟨h1, ⟨h2, h3, h4, h5, h6, h7⟩, h8, h9⟩ := h
  refine ⟨h1, ⟨?_, ?_, ?_, ?_, ?_, ?_⟩, by rw [g.2]; exact h8, by rw [g.2]; exact h9⟩
  · exact (g.1 806 (by omega) (by omega) (by omega) (by omega)).trans h2
  · exact (g.1 807 (by omega) (by omega) (by omega) (by omega)).trans h3
  · exact (g.1 808 (by omega) (by omega) (by omega) (by omega)).trans h4
  · exact (g.1 809 (by omega) (by omega) (by omega) (by omega)).trans h5
  · exact (g.1 810 (by omega) (by omega) (by omega) (by omega)).trans h6
  · exact (g.1 811 (by omega) (by omega) (by omega) (by omega)).trans h7
/-- all but tokens and draft -/
def Rc (σ σ' : St) : Prop := (∀ k, (k < 806 ∨ 811 < k) → (k < 4103 ∨ 4106 < k) → σ'.1 k = σ.1 k) ∧ σ'.2.1 = σ.2.1 ∧ ∀ a, a ≠ 9 → a ≠ 10 → σ'.2.2 a = σ.2.2 a
def Rn (τ τ' : St) : Prop := (∀ k, k ≠ 19 → k ≠ 20 → k ≠ 21 → k ≠ 22 → τ'.1 k = τ.1 k) ∧ τ'.2.1 = τ.2.1 ∧ ∀ a, a ≠ 10 → a ≠ 11 → τ'.2.2 a = τ.2.2 a
theorem Rc.rf (σ : St) : Rc σ σ := ⟨fun _ _ _ => rfl, rfl, fun _ _ _ => rfl⟩
theorem Rc.tr {a b c : St} (h : Rc a b) (g : Rc b c) : Rc a c := ⟨fun k h1 h2 => (g.1 k h1 h2).trans (h.1 k h1 h2), g.2.1.trans h.2.1, fun k h1 h2 => (g.2.2 k h1 h2).trans (h.2.2 k h1 h2)⟩
theorem Rn.rf (τ : St) : Rn τ τ := ⟨fun _ _ _ _ _ => rfl, rfl, fun _ _ _ => rfl⟩
theorem Rn.tr {a b c : St} (h : Rn a b) (g : Rn b c) : Rn a c := ⟨fun k h1 h2 h3 h4 => (g.1 k h1 h2 h3 h4).trans (h.1 k h1 h2 h3 h4), g.2.1.trans h.2.1, fun k h1 h2 => (g.2.2 k h1 h2).trans (h.2.2 k h1 h2)⟩
theorem Rd.rc {σ σ' : St} (h : Rd σ σ') : Rc σ σ' := ⟨fun k _ h2 => h.1 k (by omega) (by omega) (by omega) (by omega), by rw [h.2], fun a _ _ => by rw [h.2]⟩
theorem Rv.rn {τ τ' : St} (h : Rv τ τ') : Rn τ τ' := ⟨h.1, h.2.1, fun a _ h2 => h.2.2 a h2⟩
theorem Rm.rn {τ τ' : St} (h : Rm τ τ') : Rn τ τ' := h.rv.rn
theorem Rc.i {a b : St} (h : Rc a b) (k : Nat) (v : Int32) (hk : (806 ≤ k ∧ k ≤ 811) ∨ (4103 ≤ k ∧ k ≤ 4106)) : Rc a (sI b k v) := ⟨fun j h1 h2 => by rw [sI1, if_neg (by omega)]; exact h.1 j h1 h2, h.2.1, h.2.2⟩
theorem Rc.e {a b : St} (h : Rc a b) (r i : Nat) (v : Int32) (hk : r = 9 ∨ r = 10) : Rc a (sE b r i v) := ⟨h.1, h.2.1, fun x h1 h2 => by rw [sE3, if_neg (by omega)]; exact h.2.2 x h1 h2⟩
theorem Rn.e {a b : St} (h : Rn a b) (i : Nat) (v : Int32) : Rn a (sE b 10 i v) := ⟨h.1, h.2.1, fun x h1 h2 => by rw [sE3, if_neg h1]; exact h.2.2 x h1 h2⟩
section ITEM
variable {B : Nat → Int32} {N : Nat}
theorem CX.rc {σ σ' : St} (h : CX B N σ) (g : Rc σ σ') : CX B N σ' := ⟨(g.1 4102 (by omega) (by omega)).trans h.1, fun k hk => by rw [g.2.2 42 (by omega) (by omega)]; exact h.2 k hk⟩
theorem MX.rn {τ τ' : St} (h : MX B N τ) (g : Rn τ τ') : MX B N τ' := ⟨(g.1 18 (by omega) (by omega) (by omega) (by omega)).trans h.1, by rw [g.2.2 9 (by omega) (by omega)]; exact h.2⟩
/-- how an item ends ahead of its semicolon: not taken, at one place in both; or taken, the reference looking at what comes next -/
def After (B : Nat → Int32) (N : Nat) (σ τ : St) (p se : Nat) (y : Int32) (σ1 τ1 : St) : Prop := Rc σ σ1 ∧ Rn τ τ1 ∧ ((y = 0 ∧ ∃ f, f ≤ N ∧ σ1.1 4104 = nI f ∧ τ1.1 19 = nI f) ∨ (y = 1 ∧ ∃ q n', p ≤ q ∧ q ≤ N ∧ σ1.1 4103 = nI q ∧ TM B N τ1 q ∧ Dr σ1 (τ1.2.2 10) n' se))
theorem okv {n : Nat} (hn : n ≤ 7) {p : Nat} (hp : p ≤ N) (h : okN B N p (nI n - 1)) : tkV B N p < n := by
  have hv := val_p hp h.1
  have h2 := h.2
  rw [Int32.lt_iff_toInt_lt, nI_toInt (by omega), n1_toInt hn] at h2
  omega
theorem okv2 {m : Nat} (hm : m < 2 ^ 31) {p : Nat} (hp : p ≤ N) {x : Int32} (e : x = nI m) (h : okN B N p x) : tkV B N p ≤ m := by
  have hv := val_p hp h.1
  have h2 := h.2
  rw [e, Int32.lt_iff_toInt_lt, nI_toInt hm, nI_toInt (show tkV B N p < 2 ^ 31 by omega)] at h2
  omega
theorem tree_both (hN : N ≤ 150) {σ τ : St} (hC : CX B N σ) (hM : MX B N τ) {p n se : Nat} (hp : p ≤ N) (hT : TC B N σ p) (hV : TM B N τ p) (hD : Dr σ (τ.2.2 10) n se) (hn : n < 7) : ∃ y σ1 τ1, f_X9_takesTree σ = some (y, σ1) ∧ f_X11_takesTree τ = some (y, τ1) ∧ (y = 0 ∨ y = 1) ∧ After B N σ τ p se y σ1 τ1 := by
  have hb := tkE_b B hp
  obtain ⟨σ1, c1, c2, c3, c4⟩ := num_C hN hC hb.2.1 hT.2.1 5
  obtain ⟨τ1, m1, m2, m3⟩ := behind_M hN hM hp hV
  have hM1 := hM.rm m2
  have hb1 := tkE_b B hb.2.1
  obtain ⟨k1, k2⟩ := takes_M hN hM1 hb.2.1 m3 (j := 0) (by omega) 5
  have k1 : okN B N (tkE B N p) 5 → ∃ τ', f_X11_takes τ1 0 0 5 = some (1, τ') ∧ _ := k1
  have k2 : ¬ okN B N (tkE B N p) 5 → f_X11_takes τ1 0 0 5 = some (0, τ1) := k2
  have a0 : τ.2.2 10 0 = nI n := hD.1.1.1
  unfold f_X9_takesTree f_X11_takesTree
  rw [a0, if_neg (show ¬ nI n = 7 from fun z => absurd ((neq (b := 7) (by omega) (by omega)).mp z) (by omega)), m1, bs]
  by_cases g : okN B N (tkE B N p) 5
  · obtain ⟨e1, e2⟩ := c3 g
    obtain ⟨τ2, z1, z2, z3, z4⟩ := k1 g
    have hkd := okv2 (m := 5) (by omega) hb.2.1 rfl g
    have hD1 := hD.rd c1
    have r10 : τ2.2.2 10 = τ.2.2 10 := by rw [z2.2.2 10 (by omega), m2.2]
    have v0 : τ2.2.2 11 0 = nI (tkV B N (tkE B N p)) := by rw [z4, if_pos rfl]
    have e806 : σ1.1 806 = nI n := hD1.2.1.1.trans a0
    have hz : τ.2.2 10 (13 + n) = 0 := bt_none (fun i hb => absurd (hD.1.2.2.2.2.2.2.1 n i hn hb).1 (by omega))
    generalize tkV B N (tkE B N p) = kd at *
    have pl : f_X2_plant_8 σ1 (nI kd) = some (sI (sE (sE σ1 9 n (nI kd)) 10 n 0) 806 (nI (n + 1))) := by
      unfold f_X2_plant_8
      rw [e806, if_neg (show ¬ (7 : Int32) ≤ nI n from nI_ge (b := 7) hn (by omega)), ck_nI hn (by omega), cT, cT, nI_clamp (show n < 2 ^ 31 by omega), nI_1]
    have e6 : (6 : Int32) + nI n = nI (6 + n) := nI_add 6 n
    have u0 : (sE τ2 10 (6 + n) (nI kd)).2.2 10 0 + 1 = nI (n + 1) := by
      have : (sE τ2 10 (6 + n) (nI kd)).2.2 10 0 = τ2.2.2 10 0 := by rw [sE3, if_pos rfl, upd_a, if_neg (by omega)]
      rw [this, r10, a0, nI_1]
    rw [e1, z1, bs, bs]
    dsimp only
    rw [if_neg (show ¬ (1 : Int32) = 0 by decide), if_neg (show ¬ (1 : Int32) = 0 by decide), e2, pl, bs, v0, r10, a0, e6, ck_nI (show 6 + n < 68 by omega) (by omega), cT, nI_clamp (show 6 + n < 2 ^ 31 by omega), u0]
    have hA : ∀ k, (sE (sE τ2 10 (6 + n) (nI kd)) 10 0 (nI (n + 1))).2.2 10 k = if k = 0 then nI (n + 1) else if k = 6 + n then nI kd else τ.2.2 10 k := fun k => by
      rw [← r10]; rfl
    refine ⟨1, _, _, rfl, rfl, Or.inr rfl, ((c1.rc.e 9 n (nI kd) (by omega)).e 10 n 0 (by omega)).i 806 _ (by omega), (((m2.rn.tr z2.rn).e _ _).e _ _), Or.inr ⟨rfl, tkE B N (tkE B N p), n + 1, by omega, hb1.2.1, c2.2.1, z3, hD1.1.tree hn (by omega) hA, ?_, ?_, ?_⟩⟩
    · obtain ⟨-, ⟨-, g1, g2, g3, g4, g5⟩, -, -⟩ := hD1
      rw [hA, hA, hA, hA, hA, hA, if_pos rfl, if_neg (show ¬ 1 = 0 by omega), if_neg (show ¬ 1 = 6 + n by omega), if_neg (show ¬ 2 = 0 by omega), if_neg (show ¬ 2 = 6 + n by omega), if_neg (show ¬ 3 = 0 by omega), if_neg (show ¬ 3 = 6 + n by omega), if_neg (show ¬ 4 = 0 by omega), if_neg (show ¬ 4 = 6 + n by omega), if_neg (show ¬ 5 = 0 by omega), if_neg (show ¬ 5 = 6 + n by omega)]
      exact ⟨rfl, g1, g2, g3, g4, g5⟩
    · intro t ht
      have e9 : (sI (sE (sE σ1 9 n (nI kd)) 10 n 0) 806 (nI (n + 1))).2.2 9 t = if t = n then nI kd else σ1.2.2 9 t := rfl
      rw [e9, hA, if_neg (show ¬ 6 + t = 0 by omega)]
      by_cases q : t = n
      · rw [if_pos q, if_pos (by omega)]
      · rw [if_neg q, if_neg (by omega)]
        exact hD1.2.2.1 t (by omega)
    · intro t ht
      have e10 : (sI (sE (sE σ1 9 n (nI kd)) 10 n 0) 806 (nI (n + 1))).2.2 10 t = if t = n then 0 else σ1.2.2 10 t := rfl
      rw [e10, hA, if_neg (show ¬ 13 + t = 0 by omega), if_neg (show ¬ 13 + t = 6 + n by omega)]
      by_cases q : t = n
      · rw [if_pos q, q, hz]
      · rw [if_neg q]
        exact hD1.2.2.2 t (by omega)
  · rw [c4 g, k2 g, bs, bs]
    exact ⟨0, σ1, τ1, rfl, rfl, Or.inl rfl, c1.rc, m2.rn, Or.inl ⟨rfl, _, (tkS_b B hb.2.1).2, c2.1, m3.1⟩⟩
theorem fell_both (hN : N ≤ 150) {σ τ : St} (hC : CX B N σ) (hM : MX B N τ) {p n se : Nat} (hp : p ≤ N) (hT : TC B N σ p) (hV : TM B N τ p) (hD : Dr σ (τ.2.2 10) n se) : ∃ y σ1 τ1, f_X9_takesFelled σ = some (y, σ1) ∧ f_X11_takesFell τ = some (y, τ1) ∧ (y = 0 ∨ y = 1) ∧ After B N σ τ p se y σ1 τ1 := by
  have hb := tkE_b B hp
  have a0 : τ.2.2 10 0 = nI n := hD.1.1.1
  have hn : n ≤ 7 := hD.1.1.2
  have e806 : σ.1 806 = nI n := hD.2.1.1.trans a0
  obtain ⟨σ1, c1, c2, c3, c4⟩ := num_C hN hC hb.2.1 hT.2.1 (nI n - 1)
  obtain ⟨τ1, m1, m2, m3⟩ := behind_M hN hM hp hV
  have hM1 := hM.rm m2
  have hb1 := tkE_b B hb.2.1
  obtain ⟨k1, k2⟩ := takes_M hN hM1 hb.2.1 m3 (j := 0) (by omega) (nI n - 1)
  have k1 : okN B N (tkE B N p) (nI n - 1) → ∃ τ', f_X11_takes τ1 0 0 (nI n - 1) = some (1, τ') ∧ _ := k1
  have k2 : ¬ okN B N (tkE B N p) (nI n - 1) → f_X11_takes τ1 0 0 (nI n - 1) = some (0, τ1) := k2
  have t0 : τ1.2.2 10 0 = nI n := by rw [m2.2]; exact a0
  unfold f_X9_takesFelled f_X11_takesFell
  rw [e806, m1, bs, t0]
  by_cases g : okN B N (tkE B N p) (nI n - 1)
  · obtain ⟨e1, e2⟩ := c3 g
    obtain ⟨τ2, z1, z2, z3, z4⟩ := k1 g
    have hv := okv hn hb.2.1 g
    have hD1 := hD.rd c1
    have r10 : τ2.2.2 10 = τ.2.2 10 := by rw [z2.2.2 10 (by omega), m2.2]
    have v0 : τ2.2.2 11 0 = nI (tkV B N (tkE B N p)) := by rw [z4, if_pos rfl]
    generalize tkV B N (tkE B N p) = v at *
    have e807 : σ1.1 807 = τ.2.2 10 1 := hD1.2.1.2.1
    have mk : f_X2_markFelled_8 σ1 (nI v) 1 = some (sI σ1 807 (τ.2.2 10 1 ||| ((1 : Int32) <<< (nI v &&& 31)))) := by
      unfold f_X2_markFelled_8
      rw [or_set (by omega), e807]
    rw [e1, z1, bs, bs]
    dsimp only
    rw [if_neg (show ¬ (1 : Int32) = 0 by decide), if_neg (show ¬ (1 : Int32) = 0 by decide), e2, mk, bs, v0, r10]
    have hA : ∀ k, (sE τ2 10 1 (τ.2.2 10 1 ||| ((1 : Int32) <<< (nI v &&& 31)))).2.2 10 k = if k = 1 then τ.2.2 10 1 ||| ((1 : Int32) <<< (nI v &&& 31)) else τ.2.2 10 k := fun k => by
      have : (sE τ2 10 1 (τ.2.2 10 1 ||| ((1 : Int32) <<< (nI v &&& 31)))).2.2 10 k = if k = 1 then τ.2.2 10 1 ||| ((1 : Int32) <<< (nI v &&& 31)) else τ2.2.2 10 k := rfl
      rw [this, r10]
    refine ⟨1, _, _, rfl, rfl, Or.inr rfl, c1.rc.i 807 _ (by omega), ((m2.rn.tr z2.rn).e _ _), Or.inr ⟨rfl, tkE B N (tkE B N p), n, by omega, hb1.2.1, c2.2.1, z3, hD1.1.fell hv hA, ?_, ?_, ?_⟩⟩
    · obtain ⟨-, ⟨g0, -, g2, g3, g4, g5⟩, -, -⟩ := hD1
      rw [hA, hA, hA, hA, hA, hA, if_pos rfl, if_neg (show ¬ 0 = 1 by omega), if_neg (show ¬ 2 = 1 by omega), if_neg (show ¬ 3 = 1 by omega), if_neg (show ¬ 4 = 1 by omega), if_neg (show ¬ 5 = 1 by omega)]
      exact ⟨g0, rfl, g2, g3, g4, g5⟩
    · intro t ht
      rw [hA, if_neg (by omega)]
      exact hD1.2.2.1 t ht
    · intro t ht
      rw [hA, if_neg (by omega)]
      exact hD1.2.2.2 t ht
  · rw [c4 g, k2 g, bs, bs]
    exact ⟨0, σ1, τ1, rfl, rfl, Or.inl rfl, c1.rc, m2.rn, Or.inl ⟨rfl, _, (tkS_b B hb.2.1).2, c2.1, m3.1⟩⟩
theorem touch_both (hN : N ≤ 150) {σ τ : St} (hC : CX B N σ) (hM : MX B N τ) {p n se : Nat} (hp : p ≤ N) (hT : TC B N σ p) (hV : TM B N τ p) (hD : Dr σ (τ.2.2 10) n se) : ∃ y σ1 τ1, f_X9_takesTouch σ = some (y, σ1) ∧ f_X11_takesTouch τ = some (y, τ1) ∧ (y = 0 ∨ y = 1) ∧ After B N σ τ p se y σ1 τ1 := by
  have hb := tkE_b B hp
  have a0 : τ.2.2 10 0 = nI n := hD.1.1.1
  have hn : n ≤ 7 := hD.1.1.2
  have e806 : σ.1 806 = nI n := hD.2.1.1.trans a0
  obtain ⟨σ1, c1, c2, c3, c4⟩ := num_C hN hC hb.2.1 hT.2.1 (nI n - 1)
  obtain ⟨τ1, m1, m2, m3⟩ := behind_M hN hM hp hV
  have hM1 := hM.rm m2
  have hb1 := tkE_b B hb.2.1
  obtain ⟨k1, k2⟩ := takes_M hN hM1 hb.2.1 m3 (j := 0) (by omega) (nI n - 1)
  have k1 : okN B N (tkE B N p) (nI n - 1) → ∃ τ', f_X11_takes τ1 0 0 (nI n - 1) = some (1, τ') ∧ _ := k1
  have k2 : ¬ okN B N (tkE B N p) (nI n - 1) → f_X11_takes τ1 0 0 (nI n - 1) = some (0, τ1) := k2
  have t0 : τ1.2.2 10 0 = nI n := by rw [m2.2]; exact a0
  unfold f_X9_takesTouch f_X11_takesTouch
  rw [e806, m1, bs, t0]
  by_cases g : okN B N (tkE B N p) (nI n - 1)
  · obtain ⟨e1, e2⟩ := c3 g
    obtain ⟨τ2, z1, z2, z3, z4⟩ := k1 g
    have hv := okv hn hb.2.1 g
    have hD1 := hD.rd c1
    have r10 : τ2.2.2 10 = τ.2.2 10 := by rw [z2.2.2 10 (by omega), m2.2]
    have v0 : τ2.2.2 11 0 = nI (tkV B N (tkE B N p)) := by rw [z4, if_pos rfl]
    have f806 : σ1.1 806 = nI n := hD1.2.1.1.trans a0
    have hC1 := hC.rd c1
    have hM2 := hM1.rv z2
    obtain ⟨σ2, d1, d2, d3, d4⟩ := num_C hN hC1 hb1.2.1 c2.2.1 (nI n - 1)
    have hb2 := tkE_b B hb1.2.1
    obtain ⟨l1, l2⟩ := takes_M hN hM2 hb1.2.1 z3 (j := 1) (by omega) (nI n - 1)
    have l1 : okN B N (tkE B N (tkE B N p)) (nI n - 1) → ∃ τ', f_X11_takes τ2 1 0 (nI n - 1) = some (1, τ') ∧ _ := l1
    have l2 : ¬ okN B N (tkE B N (tkE B N p)) (nI n - 1) → f_X11_takes τ2 1 0 (nI n - 1) = some (0, τ2) := l2
    have fail : After B N σ τ p se 0 σ2 τ2 := ⟨c1.rc.tr d1.rc, m2.rn.tr z2.rn, Or.inl ⟨rfl, _, (tkS_b B hb1.2.1).2, d2.1, z3.1⟩⟩
    have t2 : τ2.2.2 10 0 = nI n := by rw [r10]; exact a0
    rw [e1, z1, bs, bs]
    dsimp only
    rw [if_neg (show ¬ (1 : Int32) = 0 by decide), if_neg (show ¬ (1 : Int32) = 0 by decide), f806, t2, e2, v0, z3.2.2.1]
    by_cases h : okN B N (tkE B N (tkE B N p)) (nI n - 1)
    · obtain ⟨y1, y2⟩ := d3 h
      obtain ⟨τ3, w1, w2, w3, w4⟩ := l1 h
      have hv2 := okv hn hb1.2.1 h
      rw [y1, bs]
      dsimp only
      rw [if_neg (show ¬ (1 : Int32) = 0 by decide), if_pos h.1, y2, z3.2.2.2 h.1]
      by_cases q : tkV B N (tkE B N (tkE B N p)) = tkV B N (tkE B N p)
      · rw [if_pos (by rw [q]), if_pos (by rw [q])]
        exact ⟨0, σ2, τ2, rfl, rfl, Or.inl rfl, fail⟩
      · have hne : ¬ nI (tkV B N (tkE B N (tkE B N p))) = nI (tkV B N (tkE B N p)) := fun z => q ((neq (by omega) (by omega)).mp z)
        rw [if_neg hne, if_neg hne, w1, bs]
        dsimp only
        rw [if_neg (show ¬ (1 : Int32) = 0 by decide)]
        have s10 : τ3.2.2 10 = τ.2.2 10 := by rw [w2.2.2 10 (by omega), r10]
        have x0 : τ3.2.2 11 0 = nI (tkV B N (tkE B N p)) := by rw [w4, if_neg (by omega)]; exact v0
        have x1 : τ3.2.2 11 1 = nI (tkV B N (tkE B N (tkE B N p))) := by rw [w4, if_pos rfl]
        have hD2 := hD1.rd d1
        rw [x0, x1]
        have hij : tkV B N (tkE B N p) ≠ tkV B N (tkE B N (tkE B N p)) := fun e => q e.symm
        generalize tkV B N (tkE B N p) = i at *
        generalize tkV B N (tkE B N (tkE B N p)) = j at *
        have qi : σ2.2.2 10 i = τ.2.2 10 (13 + i) := hD2.2.2.2 i hv
        have qj : σ2.2.2 10 j = τ.2.2 10 (13 + j) := hD2.2.2.2 j hv2
        have jn : f_X2_join_8 σ2 (nI i) (nI j) 1 = some (sE (sE σ2 10 i (τ.2.2 10 (13 + i) ||| ((1 : Int32) <<< (nI j &&& 31)))) 10 j (τ.2.2 10 (13 + j) ||| ((1 : Int32) <<< (nI i &&& 31)))) := by
          unfold f_X2_join_8
          rw [ck_nI (show i < 7 by omega) (by omega), ck_nI (show j < 7 by omega) (by omega), nI_clamp (show i < 2 ^ 31 by omega), nI_clamp (show j < 2 ^ 31 by omega), qi, or_set (by omega)]
          simp only [cT]
          have e2 : (sE σ2 10 i (τ.2.2 10 (13 + i) ||| ((1 : Int32) <<< (nI j &&& 31)))).2.2 10 j = τ.2.2 10 (13 + j) := by rw [sE3, if_pos rfl, upd_a, if_neg (by omega), qj]
          rw [e2, or_set (by omega)]
        have vi : (13 : Int32) + nI i = nI (13 + i) := nI_add 13 i
        have vj : (13 : Int32) + nI j = nI (13 + j) := nI_add 13 j
        have ly : f_X11_layTouch_10 τ3 (nI i) (nI j) 1 = some (sE (sE τ3 10 (13 + i) (τ.2.2 10 (13 + i) ||| ((1 : Int32) <<< (nI j &&& 31)))) 10 (13 + j) (τ.2.2 10 (13 + j) ||| ((1 : Int32) <<< (nI i &&& 31)))) := by
          unfold f_X11_layTouch_10 f_X11_layTouch_10_b34 f_X11_layTouch_10_b69
          rw [if_neg (show ¬ (1 : Int32) = 0 by decide), if_neg (show ¬ (1 : Int32) = 0 by decide), vi, vj, ck_nI (show 13 + i < 68 by omega) (by omega), ck_nI (show 13 + j < 68 by omega) (by omega), nI_clamp (show 13 + i < 2 ^ 31 by omega), nI_clamp (show 13 + j < 2 ^ 31 by omega)]
          simp only [cT]
          have e2 : ∀ v : Int32, (sE τ3 10 (13 + i) v).2.2 10 (13 + j) = τ.2.2 10 (13 + j) := fun v => by rw [sE3, if_pos rfl, upd_a, if_neg (by omega), s10]
          rw [e2, s10]
        rw [jn, ly, bs, bs]
        have hA : ∀ k, (sE (sE τ3 10 (13 + i) (τ.2.2 10 (13 + i) ||| ((1 : Int32) <<< (nI j &&& 31)))) 10 (13 + j) (τ.2.2 10 (13 + j) ||| ((1 : Int32) <<< (nI i &&& 31)))).2.2 10 k = if k = 13 + j then τ.2.2 10 (13 + j) ||| ((1 : Int32) <<< (nI i &&& 31)) else if k = 13 + i then τ.2.2 10 (13 + i) ||| ((1 : Int32) <<< (nI j &&& 31)) else τ.2.2 10 k := fun k => by
          have : (sE (sE τ3 10 (13 + i) (τ.2.2 10 (13 + i) ||| ((1 : Int32) <<< (nI j &&& 31)))) 10 (13 + j) (τ.2.2 10 (13 + j) ||| ((1 : Int32) <<< (nI i &&& 31)))).2.2 10 k = if k = 13 + j then τ.2.2 10 (13 + j) ||| ((1 : Int32) <<< (nI i &&& 31)) else if k = 13 + i then τ.2.2 10 (13 + i) ||| ((1 : Int32) <<< (nI j &&& 31)) else τ3.2.2 10 k := rfl
          rw [this, s10]
        refine ⟨1, _, _, rfl, rfl, Or.inr rfl, (((c1.rc.tr d1.rc).e 10 i _ (by omega)).e 10 j _ (by omega)), (((m2.rn.tr z2.rn).tr w2.rn).e _ _).e _ _, Or.inr ⟨rfl, tkE B N (tkE B N (tkE B N p)), n, by omega, hb2.2.1, d2.2.1, w3, hD2.1.touch hv hv2 hij hA, ?_, ?_, ?_⟩⟩
        · obtain ⟨-, ⟨g0, g1, g2, g3, g4, g5⟩, -, -⟩ := hD2
          have dd : ∀ k, k < 13 → (sE (sE τ3 10 (13 + i) (τ.2.2 10 (13 + i) ||| ((1 : Int32) <<< (nI j &&& 31)))) 10 (13 + j) (τ.2.2 10 (13 + j) ||| ((1 : Int32) <<< (nI i &&& 31)))).2.2 10 k = τ.2.2 10 k := fun k hk => by rw [hA, if_neg (by omega), if_neg (by omega)]
          rw [dd 0 (by omega), dd 1 (by omega), dd 2 (by omega), dd 3 (by omega), dd 4 (by omega), dd 5 (by omega)]
          exact ⟨g0, g1, g2, g3, g4, g5⟩
        · intro t ht
          rw [hA, if_neg (by omega), if_neg (by omega)]
          exact hD2.2.2.1 t ht
        · intro t ht
          have e10 : (sE (sE σ2 10 i (τ.2.2 10 (13 + i) ||| ((1 : Int32) <<< (nI j &&& 31)))) 10 j (τ.2.2 10 (13 + j) ||| ((1 : Int32) <<< (nI i &&& 31)))).2.2 10 t = if t = j then τ.2.2 10 (13 + j) ||| ((1 : Int32) <<< (nI i &&& 31)) else if t = i then τ.2.2 10 (13 + i) ||| ((1 : Int32) <<< (nI j &&& 31)) else σ2.2.2 10 t := rfl
          rw [e10, hA]
          by_cases h1 : t = j
          · rw [if_pos h1, if_pos (show 13 + t = 13 + j by omega)]
          · rw [if_neg h1, if_neg (show ¬ 13 + t = 13 + j by omega)]
            by_cases h3 : t = i
            · rw [if_pos h3, if_pos (show 13 + t = 13 + i by omega)]
            · rw [if_neg h3, if_neg (show ¬ 13 + t = 13 + i by omega)]
              exact hD2.2.2.2 t ht
    · rw [d4 h, bs]
      dsimp only
      rw [if_pos rfl]
      refine ⟨0, σ2, τ2, rfl, ?_, Or.inl rfl, fail⟩
      by_cases g2 : tkK B N (tkE B N (tkE B N p)) = 2
      · rw [if_pos g2]
        by_cases q : τ2.1 22 = nI (tkV B N (tkE B N p))
        · rw [if_pos q]
        · rw [if_neg q, l2 h, bs]
          rfl
      · rw [if_neg g2]
  · rw [c4 g, k2 g, bs, bs]
    exact ⟨0, σ1, τ1, rfl, rfl, Or.inl rfl, c1.rc, m2.rn, Or.inl ⟨rfl, _, (tkS_b B hb.2.1).2, c2.1, m3.1⟩⟩
end ITEM
