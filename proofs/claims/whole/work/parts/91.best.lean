/-! a row as a list and as a number; the soonest of many -/
def numL : List Nat → Nat
  | [] => 0
  | t :: r => 10 * numL r + (t + 1)
theorem numL_mod {t : Nat} {r : List Nat} (h : t < 7) : numL (t :: r) % 10 = t + 1 ∧ numL (t :: r) / 10 = numL r := by
  have e : numL (t :: r) = 10 * numL r + (t + 1) := rfl
  rw [e]
  omega
theorem numL_bd : ∀ r : List Nat, (∀ t ∈ r, t < 7) → numL r < 10 ^ r.length ∧ (r ≠ [] → 10 ^ (r.length - 1) ≤ numL r) := by
  intro r
  induction r with
  | nil => intro _; exact ⟨by show 0 < 1; omega, fun h => absurd rfl h⟩
  | cons t r ih =>
    intro h
    have ht := h t (List.mem_cons_self ..)
    obtain ⟨h1, h2⟩ := ih (fun x hx => h x (List.mem_cons_of_mem _ hx))
    have e : numL (t :: r) = 10 * numL r + (t + 1) := rfl
    rw [e, List.length_cons, Nat.pow_succ, Nat.add_sub_cancel]
    refine ⟨by omega, fun _ => ?_⟩
    cases r with
    | nil => show 1 ≤ _; omega
    | cons c r =>
      have := h2 (by simp)
      rw [List.length_cons, Nat.add_sub_cancel] at this
      rw [List.length_cons, Nat.pow_succ]
      omega
theorem numL_ok {n : Nat} (hn : n ≤ 7) : ∀ (r : List Nat) (k u : Nat), r.length ≤ k → r.Nodup → (∀ t ∈ r, t < n ∧ u.testBit (t + 1) = false) → okR n k u (numL r) = true := by
  intro r
  induction r with
  | nil =>
    intro k u _ _ _
    cases k with
    | zero => rfl
    | succ k => rw [okR_s, if_pos (show numL [] = 0 from rfl)]
  | cons t r ih =>
    intro k u hk hd hu
    cases k with
    | zero => rw [List.length_cons] at hk; omega
    | succ k =>
      rw [List.length_cons] at hk
      obtain ⟨h1, h2⟩ := hu t (List.mem_cons_self ..)
      obtain ⟨m1, m2⟩ := numL_mod (r := r) (show t < 7 by omega)
      have hne : numL (t :: r) ≠ 0 := by show 10 * numL r + (t + 1) ≠ 0; omega
      rw [okR_s, if_neg hne, m1, m2, if_pos ⟨by omega, h2⟩]
      refine ih k _ (by omega) (List.nodup_cons.mp hd).2 (fun x hx => ?_)
      obtain ⟨g1, g2⟩ := hu x (List.mem_cons_of_mem _ hx)
      refine ⟨g1, ?_⟩
      have : x ≠ t := fun e => (List.nodup_cons.mp hd).1 (e ▸ hx)
      rw [tb_or, g2, Bool.false_or]
      exact decide_eq_false (by omega)
theorem numL_rw {n : Nat} (hn : n ≤ 7) {r : List Nat} (hd : r.Nodup) (hr : ∀ t ∈ r, t < n) (hne : r ≠ []) : RwN n (numL r) := by
  refine ⟨?_, numL_ok hn r 7 0 ?_ hd (fun t ht => ⟨hr t ht, Nat.zero_testBit _⟩)⟩
  · cases r with
    | nil => exact absurd rfl hne
    | cons t r => show 0 < 10 * numL r + (t + 1); omega
  · have := nd_len n r hd hr; omega
theorem numL_dg : ∀ (r : List Nat) (p : Nat), (∀ t ∈ r, t < 7) → p < r.length → dg (numL r) p = r.getD p 0 + 1 := by
  intro r
  induction r with
  | nil => intro p _ h; simp at h
  | cons t r ih =>
    intro p h hp
    obtain ⟨m1, m2⟩ := numL_mod (r := r) (h t (List.mem_cons_self ..))
    cases p with
    | zero => rw [dg_0, m1]; rfl
    | succ p =>
      rw [dg_s, m2]
      exact ih p (fun x hx => h x (List.mem_cons_of_mem _ hx)) (by rw [List.length_cons] at hp; omega)
theorem RS.laid {τ : St} {r : List Nat} {n : Nat} (hS : RS τ r) (hn : n ≤ 7) (hd : r.Nodup) (hr : ∀ t ∈ r, t < n) (hne : r ≠ []) : Laid τ n (numL r) r.length := by
  have h7 : ∀ t ∈ r, t < 7 := fun t ht => by have := hr t ht; omega
  obtain ⟨b1, b2⟩ := numL_bd r h7
  refine ⟨numL_rw hn hd hr hne, List.length_pos_iff.mpr hne, by have := nd_len n r hd hr; omega, b1, b2 hne, hS.1, fun j hj => ?_⟩
  rw [hS.2 j hj, numL_dg r _ h7 (by omega), nI_pred]
def rdL (M : Nat → Int32) (s : Nat) (l : List Nat) : List Nat → List Nat × Nat
  | [] => (l, 0)
  | t :: r => rdStep M s t (rdL M s l r)
theorem rd_end (M : Nat → Int32) (s : Nat) : ∀ (p m : Nat) (q : List Nat × Nat), rd M s m (p + 1) q = if dg m 0 = 0 then rd M s (m / 10) p q else rdStep M s (dg m 0 - 1) (rd M s (m / 10) p q) := by
  intro p
  induction p with
  | zero => intro m q; rfl
  | succ p ih =>
    intro m q
    have e : rd M s m (p + 1 + 1) q = rd M s m (p + 1) (if dg m (p + 1) = 0 then q else rdStep M s (dg m (p + 1) - 1) q) := rfl
    rw [e, ih, dg_s]
    rfl
theorem rd_num {M : Nat → Int32} {s : Nat} {l : List Nat} : ∀ r : List Nat, (∀ t ∈ r, t < 7) → rd M s (numL r) r.length (l, 0) = rdL M s l r := by
  intro r
  induction r with
  | nil => intro _; rfl
  | cons t r ih =>
    intro h
    obtain ⟨m1, m2⟩ := numL_mod (r := r) (h t (List.mem_cons_self ..))
    rw [List.length_cons, rd_end, dg_0, m1, m2, if_neg (by omega), Nat.add_sub_cancel, ih (fun x hx => h x (List.mem_cons_of_mem _ hx))]
    rfl
theorem rd_num7 {M : Nat → Int32} {s : Nat} {l : List Nat} {r : List Nat} (h : ∀ t ∈ r, t < 7) (hl : r.length ≤ 7) : rd M s (numL r) 7 (l, 0) = rdL M s l r := by
  have := rd_skip (M := M) (s := s) (numL_bd r h).1 (7 - r.length) (l, 0)
  rw [show r.length + (7 - r.length) = 7 by omega] at this
  rw [this, rd_num r h]
theorem rdL_good {M : Nat → Int32} {s : Nat} {l : List Nat} (h1 : Lg l) (h2 : l.length ≤ 6) : ∀ r : List Nat, Lg (rdL M s l r).1 ∧ (rdL M s l r).1.length ≤ 6 ∧ (rdL M s l r).2 ≤ 4 * r.length := by
  intro r
  induction r with
  | nil => exact ⟨h1, h2, Nat.zero_le _⟩
  | cons t r ih =>
    obtain ⟨a, b, c⟩ := ih
    refine ⟨cpL_g a, cpL_l b, ?_⟩
    have := (tkN_b (kdN M t) (s + (rdL M s l r).2)).2
    show (rdL M s l r).2 + tkN (kdN M t) (s + (rdL M s l r).2) ≤ _
    rw [List.length_cons]
    omega
theorem rdL_more (M : Nat → Int32) (s : Nat) (l : List Nat) (t : Nat) (r : List Nat) : (rdL M s l r).2 + 1 ≤ (rdL M s l (t :: r)).2 := by
  have := (tkN_b (kdN M t) (s + (rdL M s l r).2)).1
  show _ ≤ (rdL M s l r).2 + tkN (kdN M t) (s + (rdL M s l r).2)
  omega
theorem rdL_pre (M : Nat → Int32) (st : Int32) (s : Nat) (l : List Nat) : ∀ (d : Nat) (r r' : List Nat), r' ∈ pre M st d r → (rdL M s l r).2 ≤ (rdL M s l r').2 := by
  intro d
  induction d with
  | zero => intro r r' h; rw [List.mem_singleton.mp h]; exact Nat.le_refl _
  | succ d ih =>
    intro r r' h
    rcases List.mem_cons.mp h with e | e
    · rw [e]; exact Nat.le_refl _
    · obtain ⟨c, hc, hr⟩ := List.mem_flatMap.mp e
      have := ih _ _ hr
      have := rdL_more M s l c r
      omega
section BEST
variable (M : Nat → Int32) (s g : Nat) (l : List Nat) (W : Bool)
def okQ (q : List Nat) : Bool := !W || decide (nI (vL q) = nI (vL l))
def sooner (T : Nat) : Option (List Nat) → Bool
  | none => true
  | some b => decide (T < (rdL M s l b).2)
def stepB (b : Option (List Nat)) (r : List Nat) : Option (List Nat) := if (isE g r && okQ l W (rdL M s l r).1 && sooner M s l (rdL M s l r).2 b) = true then some r else b
def bestB (b : Option (List Nat)) (L : List (List Nat)) : Option (List Nat) := L.foldl (stepB M s g l W) b
theorem best_app (b : Option (List Nat)) (L L' : List (List Nat)) : bestB M s g l W b (L ++ L') = bestB M s g l W (bestB M s g l W b L) L' := List.foldl_append
theorem best_id (b : Option (List Nat)) : ∀ L : List (List Nat), (∀ r ∈ L, isE g r = true → sooner M s l (rdL M s l r).2 b = true → False) → bestB M s g l W b L = b := by
  intro L
  induction L with
  | nil => intro _; rfl
  | cons r L ih =>
    intro h
    have e : stepB M s g l W b r = b := by
      unfold stepB
      rw [if_neg]
      intro z
      simp only [Bool.and_eq_true] at z
      exact h r (List.mem_cons_self ..) z.1.1 z.2
    show bestB M s g l W (stepB M s g l W b r) L = b
    rw [e]
    exact ih (fun x hx => h x (List.mem_cons_of_mem _ hx))
theorem best_P {P : List Nat → Prop} : ∀ (L : List (List Nat)) (b : Option (List Nat)), (∀ r ∈ L, isE g r = true → P r) → (∀ r, b = some r → P r) → ∀ r, bestB M s g l W b L = some r → P r := by
  intro L
  induction L with
  | nil => intro b _ h; exact h
  | cons x L ih =>
    intro b h1 h2
    refine ih (stepB M s g l W b x) (fun r hr => h1 r (List.mem_cons_of_mem _ hr)) (fun r hr => ?_)
    unfold stepB at hr
    by_cases z : (isE g x && okQ l W (rdL M s l x).1 && sooner M s l (rdL M s l x).2 b) = true
    · rw [if_pos z] at hr
      cases hr
      simp only [Bool.and_eq_true] at z
      exact h1 _ (List.mem_cons_self ..) z.1.1
    · rw [if_neg z] at hr
      exact h2 r hr
/-- what the reference holds of the soonest so far -/
def EM (τ : St) : Option (List Nat) → Prop
  | none => τ.1 11 = -1 ∧ τ.1 12 = -1 ∧ τ.1 13 = -1
  | some r => τ.1 11 = nI (numL r) ∧ τ.1 12 = nI (rdL M s l r).2 ∧ τ.1 13 = nI (vL (rdL M s l r).1)
def EC (σ : St) : Option (List Nat) → Prop
  | none => σ.1 3806 = 0 ∧ σ.1 3807 = 1000000
  | some r => σ.1 3806 = nI (numL r) ∧ σ.1 3807 = nI (rdL M s l r).2 ∧ σ.1 3808 = nI (vL (rdL M s l r).1)
end BEST
theorem num_L {τ : St} {r : List Nat} (hS : RS τ r) (hl : r.length ≤ 7) : ∀ (d fu : Nat), d ≤ r.length → d < fu → f_X11_numberOfRow_L4 fu τ (nI (numL (r.drop d))) (nI (r.length - d)) = some (nI (numL r), τ) := by
  intro d
  induction d with
  | zero =>
    intro fu hd hfu
    obtain ⟨fu, rfl⟩ : ∃ m, fu = m + 1 := ⟨fu - 1, by omega⟩
    show f_X11_numberOfRow_b4 _ τ _ _ = _
    unfold f_X11_numberOfRow_b4
    rw [hS.1, if_pos ((nle (by omega) (by omega)).mpr (by omega)), List.drop_zero]
  | succ d ih =>
    intro fu hd hfu
    obtain ⟨fu, rfl⟩ : ∃ m, fu = m + 1 := ⟨fu - 1, by omega⟩
    have := ih fu (by omega) (by omega)
    rw [← this]
    show f_X11_numberOfRow_b4 (f_X11_numberOfRow_L4 fu) τ _ _ = _
    unfold f_X11_numberOfRow_b4
    have hx : r.drop d = r.getD d 0 :: r.drop (d + 1) := by
      rw [List.drop_eq_getElem_cons (show d < r.length by omega), List.getD_eq_getElem?_getD, List.getElem?_eq_getElem (by omega)]
      rfl
    have e : ((10 : Int32) * nI (numL (r.drop (d + 1))) + nI (r.getD d 0)) + 1 = nI (numL (r.drop d)) := by
      rw [hx, show (10 : Int32) = nI 10 from rfl, pk_mul, nI_add, nI_1]
      rfl
    rw [hS.1, if_neg (show ¬ nI r.length ≤ nI (r.length - (d + 1)) from fun z => absurd ((nle (by omega) (by omega)).mp z) (by omega)), ck_nI (show r.length - (d + 1) < 7 by omega) (by omega), cT, nI_clamp (show r.length - (d + 1) < 2 ^ 31 by omega), hS.2 _ (by omega), show r.length - 1 - (r.length - (d + 1)) = d by omega, e, nI_1, show r.length - (d + 1) + 1 = r.length - d by omega]
theorem num_M {τ : St} {r : List Nat} (hS : RS τ r) (hl : r.length ≤ 7) : f_X11_numberOfRow τ = some (nI (numL r), τ) := by
  have := num_L hS hl r.length FU (Nat.le_refl _) (by unfold FU; omega)
  rw [List.drop_length, Nat.sub_self] at this
  exact this
