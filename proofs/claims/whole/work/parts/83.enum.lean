/-! all rows from a row on, in their order -/
def kidsR (P : Nat → Bool) : Nat → Nat → List Nat
  | 0, _ => []
  | d + 1, x => if P x = true then x :: kidsR P d (x + 1) else kidsR P d (x + 1)
theorem kidsR_ff (P : Nat → Bool) : ∀ d x, (ff P d x < x + d → kidsR P d x = ff P d x :: kidsR P (x + d - (ff P d x + 1)) (ff P d x + 1)) ∧ (ff P d x = x + d → kidsR P d x = []) := by
  intro d
  induction d with
  | zero => intro x; exact ⟨fun h => absurd h (Nat.lt_irrefl _), fun _ => rfl⟩
  | succ d ih =>
    intro x
    by_cases g : P x = true
    · have e : ff P (d + 1) x = x := by show (if P x = true then x else _) = x; rw [if_pos g]
      have k : kidsR P (d + 1) x = x :: kidsR P d (x + 1) := by show (if P x = true then _ else _) = _; rw [if_pos g]
      rw [e, k, show x + (d + 1) - (x + 1) = d by omega]
      exact ⟨fun _ => rfl, fun h => absurd h (by omega)⟩
    · have e : ff P (d + 1) x = ff P d (x + 1) := by show (if P x = true then x else _) = _; rw [if_neg g]
      have k : kidsR P (d + 1) x = kidsR P d (x + 1) := by show (if P x = true then _ else _) = _; rw [if_neg g]
      rw [e, k, show x + (d + 1) = x + 1 + d by omega]
      exact ih (x + 1)
theorem kidsR_mem (P : Nat → Bool) : ∀ d x c, c ∈ kidsR P d x → P c = true ∧ x ≤ c ∧ c < x + d := by
  intro d
  induction d with
  | zero => intro x c h; cases h
  | succ d ih =>
    intro x c h
    have k : kidsR P (d + 1) x = if P x = true then x :: kidsR P d (x + 1) else kidsR P d (x + 1) := rfl
    rw [k] at h
    by_cases g : P x = true
    · rw [if_pos g] at h
      rcases List.mem_cons.mp h with e | e
      · rw [e]; exact ⟨g, Nat.le_refl _, by omega⟩
      · have := ih _ _ e; exact ⟨this.1, by omega, by omega⟩
    · rw [if_neg g] at h
      have := ih _ _ h; exact ⟨this.1, by omega, by omega⟩
theorem kidsR_len (P : Nat → Bool) : ∀ d x, (kidsR P d x).length ≤ d := by
  intro d
  induction d with
  | zero => intro x; exact Nat.le_refl _
  | succ d ih =>
    intro x
    show (if P x = true then x :: kidsR P d (x + 1) else kidsR P d (x + 1)).length ≤ _
    have := ih (x + 1)
    split
    · rw [List.length_cons]; omega
    · omega
section ENUM
variable (M : Nat → Int32) (st : Int32)
def pre : Nat → List Nat → List (List Nat)
  | 0, r => [r]
  | d + 1, r => r :: (kidsR (fr M st r) 7 0).flatMap (fun c => pre d (c :: r))
def subs (r : List Nat) (x : Nat) : List (List Nat) := (kidsR (fr M st r) (7 - x) x).flatMap (fun c => pre M st (7 - r.length) (c :: r))
def rem : List Nat → Nat → List (List Nat)
  | [], _ => []
  | t :: r, x => subs M st (t :: r) x ++ rem r (t + 1)
theorem pre_s {r : List Nat} (h : r.length ≤ 7) : pre M st (8 - r.length) r = r :: subs M st r 0 := by
  rw [show 8 - r.length = (7 - r.length) + 1 by omega]
  rfl
theorem rem_nx : ∀ (r : List Nat) (x : Nat), Rok r → x ≤ 7 → (nx M st r x = [] ∧ rem M st r x = []) ∨ (nx M st r x ≠ [] ∧ rem M st r x = nx M st r x :: rem M st (nx M st r x) 0) := by
  intro r
  induction r with
  | nil => intro x _ _; exact Or.inl ⟨rfl, rfl⟩
  | cons t r ih =>
    intro x h hx
    have hf := ff_b (fr M st (t :: r)) (7 - x) x
    have hk := kidsR_ff (fr M st (t :: r)) (7 - x) x
    have nxe : nx M st (t :: r) x = if ff (fr M st (t :: r)) (7 - x) x < 7 then ff (fr M st (t :: r)) (7 - x) x :: t :: r else nx M st r (t + 1) := rfl
    have re : rem M st (t :: r) x = subs M st (t :: r) x ++ rem M st r (t + 1) := rfl
    rw [nxe, re]
    unfold subs
    by_cases g : ff (fr M st (t :: r)) (7 - x) x < 7
    · right
      rw [if_pos g, hk.1 (by omega)]
      generalize hc : ff (fr M st (t :: r)) (7 - x) x = c at hf g
      have hcf := hf.2.2.1 (by omega)
      have hr2 := h.cons (fr_no hcf) g
      have hl2 := hr2.le
      rw [List.length_cons, List.length_cons] at hl2
      refine ⟨by simp, ?_⟩
      rw [List.flatMap_cons, show 7 - (t :: r).length = 8 - (c :: t :: r).length by simp only [List.length_cons]; omega, pre_s M st (by simp only [List.length_cons]; omega), show x + (7 - x) - (c + 1) = 7 - (c + 1) by omega]
      show (c :: t :: r) :: ((subs M st (c :: t :: r) 0 ++ _) ++ _) = (c :: t :: r) :: (subs M st (c :: t :: r) 0 ++ (subs M st (t :: r) (c + 1) ++ rem M st r (t + 1)))
      unfold subs
      rw [List.append_assoc]
      congr 4
      rw [show 8 - (c :: t :: r).length = 7 - (t :: r).length by simp only [List.length_cons]; omega]
    · rw [if_neg g, hk.2 (by omega)]
      have := ih (t + 1) h.tl (by have := h.2 t (List.mem_cons_self ..); omega)
      exact this
def Bd : Nat → Nat
  | 0 => 1
  | d + 1 => 1 + 7 * Bd d
theorem flat_len {α β : Type} (f : α → List β) (b : Nat) : ∀ l : List α, (∀ x ∈ l, (f x).length ≤ b) → (l.flatMap f).length ≤ l.length * b := by
  intro l
  induction l with
  | nil => intro _; simp
  | cons a l ih =>
    intro h
    rw [List.flatMap_cons, List.length_append, List.length_cons, Nat.add_mul, Nat.one_mul]
    have h1 := h a (List.mem_cons_self ..)
    have h2 := ih (fun x hx => h x (List.mem_cons_of_mem _ hx))
    omega
theorem pre_len : ∀ d r, (pre M st d r).length ≤ Bd d := by
  intro d
  induction d with
  | zero => intro r; exact Nat.le_refl _
  | succ d ih =>
    intro r
    show (r :: (kidsR (fr M st r) 7 0).flatMap (fun c => pre M st d (c :: r))).length ≤ 1 + 7 * Bd d
    rw [List.length_cons]
    have h1 := flat_len (fun c => pre M st d (c :: r)) (Bd d) (kidsR (fr M st r) 7 0) (fun c _ => ih (c :: r))
    have h2 := kidsR_len (fr M st r) 7 0
    have h3 := Nat.mul_le_mul_right (Bd d) h2
    omega
theorem rem_one (t : Nat) : ([t] : List Nat) :: rem M st [t] 0 = pre M st 7 [t] := by
  show [t] :: (subs M st [t] 0 ++ []) = _
  rw [List.append_nil]
  exact (pre_s M st (r := [t]) (by simp)).symm
theorem pre_fu (t : Nat) : (pre M st 7 [t]).length < 1000000 := Nat.lt_of_le_of_lt (pre_len M st 7 [t]) (by decide)
end ENUM
/-- the rows that are still to come, the one that is laid among them -/
def here (M : Nat → Int32) (st : Int32) (r : List Nat) : List (List Nat) := if r = [] then [] else r :: rem M st r 0
theorem here_nx (M : Nat → Int32) (st : Int32) {r : List Nat} (h : Rok r) (hne : r ≠ []) : here M st r = r :: here M st (nx M st r 0) := by
  unfold here
  rw [if_neg hne]
  rcases rem_nx M st r 0 h (by omega) with ⟨a, b⟩ | ⟨a, b⟩
  · rw [a, b, if_pos rfl]
  · rw [if_neg a, ← b]
def isE (g : Nat) (r : List Nat) : Bool := decide (r.head? = some g)
theorem ends_M {τ : St} {r : List Nat} (hS : RS τ r) (hr : Rok r) (hne : r ≠ []) (g : Nat) (hg : g < 7) : f_X11_ends τ (nI g) = some (if isE g r = true then 1 else 0, τ) := by
  cases r with
  | nil => exact absurd rfl hne
  | cons t r =>
    have hl := hr.le
    rw [List.length_cons] at hl
    have ht : t < 7 := hr.2 t (List.mem_cons_self ..)
    have h7 : τ.1 7 = nI (r.length + 1) := hS.1
    have e5 : τ.2.2 5 r.length = nI t := by
      have := hS.2 r.length (by rw [List.length_cons]; omega)
      rw [List.length_cons, show r.length + 1 - 1 - r.length = 0 by omega] at this
      exact this
    unfold f_X11_ends isE
    rw [h7, nI_pred, ck_nI (show r.length < 7 by omega) (by omega), cT, nI_clamp (show r.length < 2 ^ 31 by omega), e5]
    by_cases q : t = g
    · rw [if_pos (by rw [q]), if_pos (by simp [q])]
    · rw [if_neg (fun z => q ((neq (by omega) (by omega)).mp z)), if_neg (by simp [q])]
theorem ways_L {g : Nat} (hg : g < 7) {τ0 : St} : ∀ (l : List (List Nat)) (r : List Nat) (fu a : Nat) (τ : St), here (τ0.2.2 1) (τ0.1 10) r = l → l.length < fu → RS τ r → Rok r → SR τ0 τ → ∃ τ', f_X11_manyWays_L9 fu τ (nI g) (nI a) = some (nI (a + l.countP (isE g)), τ') ∧ SR τ0 τ' := by
  intro l
  induction l with
  | nil =>
    intro r fu a τ hh hfu hS hr h0
    obtain ⟨fu, rfl⟩ : ∃ m, fu = m + 1 := ⟨fu - 1, by omega⟩
    have hr0 : r = [] := by
      unfold here at hh
      by_cases q : r = []
      · exact q
      · rw [if_neg q] at hh; cases hh
    subst hr0
    refine ⟨τ, ?_, h0⟩
    show f_X11_manyWays_b9 _ τ (nI g) (nI a) = _
    unfold f_X11_manyWays_b9
    rw [hS.1, if_pos (by decide)]
    rfl
  | cons r1 l ih =>
    intro r fu a τ hh hfu hS hr h0
    rw [List.length_cons] at hfu
    obtain ⟨fu, rfl⟩ : ∃ m, fu = m + 1 := ⟨fu - 1, by omega⟩
    have hne : r ≠ [] := fun q => by unfold here at hh; rw [if_pos q] at hh; cases hh
    rw [here_nx _ _ hr hne] at hh
    injection hh with e1 e2
    subst e1
    have hl := hr.le
    obtain ⟨τ1, g1, g2, g3⟩ := goOn_M hS hr
    rw [h0.2.2 1 (by omega), h0.1 10 (by omega)] at g2
    obtain ⟨τ', z1, z2⟩ := ih _ fu (a + if isE g r = true then 1 else 0) τ1 e2 (by omega) g2 (nx_ok r 0 hr (by omega)) (h0.tr g3)
    refine ⟨τ', ?_, z2⟩
    show f_X11_manyWays_b9 _ τ (nI g) (nI a) = _
    unfold f_X11_manyWays_b9 f_X11_manyWays_b31
    have hpos : 0 < r.length := List.length_pos_iff.mpr hne
    rw [hS.1, if_neg (nI_nle hpos (by omega)), ends_M hS hr hne g hg, bs]
    dsimp only
    rw [g1, bs, bs]
    rw [List.countP_cons]
    by_cases q : isE g r = true
    · rw [if_pos q, if_neg (show ¬ (1 : Int32) = 0 by decide), nI_1]
      rw [if_pos q] at z1
      rw [z1, if_pos q, show a + 1 + l.countP (isE g) = a + (l.countP (isE g) + 1) by omega]
    · rw [if_neg q, if_pos rfl, show (0 : Int32) = nI 0 from rfl, nI_add]
      rw [if_neg q] at z1
      rw [z1, if_neg q, show a + 0 + l.countP (isE g) = a + (l.countP (isE g) + 0) by omega]
