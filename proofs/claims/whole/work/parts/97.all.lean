/-! all rows at once, counted -/
def hd (r : List Nat) : Nat := r.headD 0
def so : List Nat → Nat
  | [] => 0
  | t :: r => 2 ^ t + so r
theorem so_fin : ∀ t : Fin 7, ∀ s : Fin 128, s.val.testBit t.val = false → 2 ^ t.val + s.val < 128 ∧ pcN (2 ^ t.val + s.val) = pcN s.val + 1 ∧ ∀ i : Fin 7, (2 ^ t.val + s.val).testBit i.val = (decide (i.val = t.val) || s.val.testBit i.val) := by decide +kernel
theorem tb_7 {x i : Nat} (h : x < 128) (hi : 7 ≤ i) : x.testBit i = false := Nat.testBit_lt_two_pow (Nat.lt_of_lt_of_le h (by
  calc 128 = 2 ^ 7 := by decide
    _ ≤ 2 ^ i := Nat.pow_le_pow_right (by omega) hi))
theorem so_ok : ∀ r : List Nat, r.Nodup → (∀ t ∈ r, t < 7) → so r < 128 ∧ (∀ i, (so r).testBit i = decide (i ∈ r)) ∧ pcN (so r) = r.length := by
  intro r
  induction r with
  | nil => intro _ _; exact ⟨by show 0 < 128; omega, fun i => by show (0 : Nat).testBit i = _; rw [Nat.zero_testBit]; simp, by decide⟩
  | cons t r ih =>
    intro hd h7
    obtain ⟨h1, h2, h3⟩ := ih (List.nodup_cons.mp hd).2 (fun x hx => h7 x (List.mem_cons_of_mem _ hx))
    have ht : t < 7 := h7 t (List.mem_cons_self ..)
    have hn : t ∉ r := (List.nodup_cons.mp hd).1
    have hf : (so r).testBit t = false := by rw [h2]; exact decide_eq_false hn
    obtain ⟨g1, g2, g3⟩ := so_fin ⟨t, ht⟩ ⟨so r, h1⟩ hf
    have e : so (t :: r) = 2 ^ t + so r := rfl
    rw [e]
    refine ⟨g1, fun i => ?_, by rw [g2, h3, List.length_cons]⟩
    by_cases hi : i < 7
    · rw [g3 ⟨i, hi⟩, h2]
      by_cases g : i = t
      · simp [g]
      · simp [g]
    · rw [tb_7 g1 (by omega)]
      have : i ∉ t :: r := fun z => by have := h7 i z; omega
      exact (decide_eq_false this).symm
theorem cp_sum {α : Type} (p : α → Bool) : ∀ l : List α, l.countP p = (l.map (fun a => if p a = true then 1 else 0)).sum := by
  intro l
  induction l with
  | nil => rfl
  | cons a l ih => rw [List.countP_cons, List.map_cons, List.sum_cons, ih, Nat.add_comm]
theorem sum_flat {α β : Type} (f : α → List β) (F : β → Nat) : ∀ l : List α, ((l.flatMap f).map F).sum = (l.map (fun a => ((f a).map F).sum)).sum := by
  intro l
  induction l with
  | nil => rfl
  | cons a l ih => rw [List.flatMap_cons, List.map_append, List.sum_append, ih, List.map_cons, List.sum_cons]
theorem sum_add {α : Type} (g h : α → Nat) : ∀ l : List α, (l.map (fun a => g a + h a)).sum = (l.map g).sum + (l.map h).sum := by
  intro l
  induction l with
  | nil => rfl
  | cons a l ih => simp only [List.map_cons, List.sum_cons, ih]; omega
theorem cp_split {α : Type} {p q s : α → Bool} : ∀ l : List α, (∀ a ∈ l, (if p a = true then 1 else 0) = (if q a = true then 1 else 0) + (if s a = true then 1 else 0)) → l.countP p = l.countP q + l.countP s := by
  intro l
  induction l with
  | nil => intro _; rfl
  | cons a l ih =>
    intro h
    rw [List.countP_cons, List.countP_cons, List.countP_cons, ih (fun x hx => h x (List.mem_cons_of_mem _ hx)), h a (List.mem_cons_self ..)]
    omega
theorem cp_congr {α : Type} {p q : α → Bool} : ∀ l : List α, (∀ a ∈ l, p a = q a) → l.countP p = l.countP q := by
  intro l
  induction l with
  | nil => intro _; rfl
  | cons a l ih =>
    intro h
    rw [List.countP_cons, List.countP_cons, ih (fun x hx => h x (List.mem_cons_of_mem _ hx)), h a (List.mem_cons_self ..)]
theorem cp_0 {α : Type} {p : α → Bool} {l : List α} (h : ∀ a ∈ l, p a = true → False) : l.countP p = 0 := List.countP_eq_zero.mpr (fun a ha hp => h a ha hp)
section ALL
variable (M : Nat → Int32) (st : Int32) (n : Nat)
def ext (r : List Nat) : List (List Nat) := (kidsR (fr M st r) 7 0).map (fun c => c :: r)
def allR : List (List Nat) := (List.range n).flatMap (fun a => if bt st a = true then pre M st 7 [a] else [])
theorem pre_cnt (p : List Nat → Bool) : ∀ (d : Nat) (r : List Nat), Rok r → r.length + d = 8 → (pre M st d r).countP p = (if p r = true then 1 else 0) + ((pre M st d r).map (fun r' => (ext M st r').countP p)).sum := by
  intro d
  induction d with
  | zero => intro r h hl; have := h.le; omega
  | succ d ih =>
    intro r h hl
    have e : pre M st (d + 1) r = r :: (kidsR (fr M st r) 7 0).flatMap (fun c => pre M st d (c :: r)) := rfl
    have ee : (ext M st r).countP p = ((kidsR (fr M st r) 7 0).map (fun c => if p (c :: r) = true then 1 else 0)).sum := by
      unfold ext
      rw [List.countP_map, cp_sum]
      rfl
    have hk : (kidsR (fr M st r) 7 0).map (fun c => (pre M st d (c :: r)).countP p) = (kidsR (fr M st r) 7 0).map (fun c => (if p (c :: r) = true then 1 else 0) + ((pre M st d (c :: r)).map (fun r' => (ext M st r').countP p)).sum) := by
      apply List.map_congr_left
      intro c hc
      have := kidsR_mem _ _ _ _ hc
      exact ih (c :: r) (h.cons (fr_no this.1) (by omega)) (by rw [List.length_cons]; omega)
    rw [e, List.countP_cons, count_flat, hk, sum_add, List.map_cons, List.sum_cons, sum_flat, ee]
    omega
theorem all_cnt (hn : n ≤ 7) (p : List Nat → Bool) : (allR M st n).countP p = ((List.range n).map (fun a => if (bt st a && p [a]) = true then 1 else 0)).sum + ((allR M st n).map (fun r' => (ext M st r').countP p)).sum := by
  unfold allR
  rw [count_flat, sum_flat, ← sum_add]
  congr 1
  apply List.map_congr_left
  intro a ha
  have ha := List.mem_range.mp ha
  by_cases h : bt st a = true
  · rw [if_pos h, pre_cnt M st p 7 [a] (rok_1 (by omega)) rfl, h, Bool.true_and]
  · rw [if_neg h, if_neg (by simp [h])]
    rfl
theorem kid_one (P Q : Nat → Bool) (z : Nat) : ∀ d x, (kidsR P d x).countP (fun c => decide (c = z) && Q c) = if (P z && Q z) = true ∧ x ≤ z ∧ z < x + d then 1 else 0 := by
  intro d
  induction d with
  | zero =>
    intro x
    rw [if_neg (by omega)]
    rfl
  | succ d ih =>
    intro x
    show (if P x = true then x :: kidsR P d (x + 1) else kidsR P d (x + 1)).countP _ = _
    by_cases hx : x = z
    · subst hx
      have h0 : (kidsR P d (x + 1)).countP (fun c => decide (c = x) && Q c) = 0 := by rw [ih, if_neg (by omega)]
      by_cases g : P x = true
      · rw [if_pos g, List.countP_cons, h0, g]
        by_cases q : Q x = true
        · rw [if_pos (by simp [q]), if_pos ⟨by simp [q], by omega, by omega⟩]
        · rw [if_neg (by simp [q]), if_neg (fun z => q (by simpa using z.1))]
      · rw [if_neg g, h0, if_neg (fun z => g (by have := z.1; simp only [Bool.and_eq_true] at this; exact this.1))]
    · have h1 : ((P z && Q z) = true ∧ x ≤ z ∧ z < x + (d + 1)) ↔ ((P z && Q z) = true ∧ x + 1 ≤ z ∧ z < x + 1 + d) := by
        constructor
        · rintro ⟨a, b, c⟩; exact ⟨a, by omega, by omega⟩
        · rintro ⟨a, b, c⟩; exact ⟨a, by omega, by omega⟩
      have : (kidsR P d (x + 1)).countP (fun c => decide (c = z) && Q c) = if (P z && Q z) = true ∧ x ≤ z ∧ z < x + (d + 1) then 1 else 0 := by
        rw [ih]
        by_cases w : (P z && Q z) = true ∧ x + 1 ≤ z ∧ z < x + 1 + d
        · rw [if_pos w, if_pos (h1.mpr w)]
        · rw [if_neg w, if_neg (fun y => w (h1.mp y))]
      split
      · rw [List.countP_cons, this, if_neg (show ¬ (decide (x = z) && Q x) = true by simp [hx])]
        omega
      · exact this
/-- how many rows of these trees (bits) end in this one -/
def En (S z : Nat) : Nat := (allR M st n).countP (fun r => decide (so r = S) && decide (hd r = z))
theorem one_range (Q : Nat → Bool) (z : Nat) : ∀ n, ((List.range n).map (fun a => if (decide (a = z) && Q a) = true then 1 else 0)).sum = if z < n ∧ Q z = true then 1 else 0 := by
  intro n
  induction n with
  | zero => rw [if_neg (by omega)]; rfl
  | succ n ih =>
    rw [List.range_succ, List.map_append, List.sum_append, ih]
    show _ + ((if (decide (n = z) && Q n) = true then 1 else 0) + 0) = _
    by_cases h : n = z
    · subst h
      by_cases q : Q n = true
      · rw [if_neg (by omega), if_pos (by simp [q]), if_pos ⟨by omega, q⟩]; rfl
      · rw [if_neg (fun z => q z.2), if_neg (by simp [q]), if_neg (fun z => q z.2)]; rfl
    · rw [if_neg (show ¬ (decide (n = z) && Q n) = true by simp [h])]
      by_cases w : z < n ∧ Q z = true
      · rw [if_pos w, if_pos ⟨by omega, w.2⟩]; rfl
      · rw [if_neg w, if_neg (fun y => w ⟨by omega, y.2⟩)]; rfl
theorem En_rec (hn : n ≤ 7) (S z : Nat) (hz : z < n) : En M st n S z = (if (bt st z && decide (2 ^ z = S)) = true then 1 else 0) + (allR M st n).countP (fun r => fr M st r z && decide (2 ^ z + so r = S)) := by
  unfold En
  rw [all_cnt M st n hn, cp_sum (fun r => fr M st r z && decide (2 ^ z + so r = S))]
  congr 1
  · have e : ((List.range n).map (fun a => if (bt st a && (decide (so [a] = S) && decide (hd [a] = z))) = true then 1 else 0)) = ((List.range n).map (fun a => if (decide (a = z) && (bt st a && decide (2 ^ a = S))) = true then 1 else 0)) := by
      apply List.map_congr_left
      intro a _
      have h1 : so [a] = 2 ^ a := rfl
      have h2 : hd [a] = a := rfl
      rw [h1, h2]
      cases bt st a <;> cases decide (2 ^ a = S) <;> cases decide (a = z) <;> rfl
    rw [e, one_range (fun a => bt st a && decide (2 ^ a = S)) z n]
    by_cases w : (bt st z && decide (2 ^ z = S)) = true
    · rw [if_pos ⟨hz, w⟩, if_pos w]
    · rw [if_neg (fun y => w y.2), if_neg w]
  · congr 1
    apply List.map_congr_left
    intro r _
    unfold ext
    rw [List.countP_map]
    have e : ((fun r => decide (so r = S) && decide (hd r = z)) ∘ fun c => c :: r) = (fun c => decide (c = z) && decide (2 ^ c + so r = S)) := by
      funext c
      have h1 : so (c :: r) = 2 ^ c + so r := rfl
      have h2 : hd (c :: r) = c := rfl
      show (decide (so (c :: r) = S) && decide (hd (c :: r) = z)) = _
      rw [h1, h2, Bool.and_comm]
    rw [e, kid_one (fr M st r) (fun c => decide (2 ^ c + so r = S)) z 7 0]
    by_cases w : (fr M st r z && decide (2 ^ z + so r = S)) = true
    · rw [if_pos ⟨w, by omega, by omega⟩, if_pos w]
    · rw [if_neg (fun y => w y.1), if_neg w]
theorem all_ok (hs : ∀ c, bt st c = true → c < n) {r : List Nat} (h : r ∈ allR M st n) : r.Nodup ∧ (∀ t ∈ r, bt st t = true ∧ t < n) ∧ r ≠ [] := by
  unfold allR at h
  obtain ⟨a, -, hr⟩ := List.mem_flatMap.mp h
  by_cases g : bt st a = true
  · rw [if_pos g] at hr
    have := pre_row 7 [a] r (.one g) hr
    exact ⟨this.nd, fun t ht => ⟨this.sd t ht, hs t (this.sd t ht)⟩, this.ne⟩
  · rw [if_neg g] at hr
    cases hr
end ALL
