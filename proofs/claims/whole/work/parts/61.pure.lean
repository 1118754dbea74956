/-! the pure part: state, relation, small functions -/
theorem sI1 (σ : St) (k : Nat) (v : Int32) (j : Nat) : (sI σ k v).1 j = if j = k then v else σ.1 j := by
  show cond (Nat.beq j k) v (σ.1 j) = _
  by_cases h : j = k
  · subst h; rw [if_pos rfl]; rw [show Nat.beq j j = true from Nat.beq_refl j]; rfl
  · rw [if_neg h]; rw [show Nat.beq j k = false from by cases e : Nat.beq j k; rfl; exact absurd (Nat.eq_of_beq_eq_true e) h]; rfl
theorem sI2 (σ : St) (k : Nat) (v : Int32) : (sI σ k v).2 = σ.2 := rfl
theorem sL1 (σ : St) (k : Nat) (v : Int64) : (sL σ k v).1 = σ.1 := rfl
theorem sL3 (σ : St) (k : Nat) (v : Int64) : (sL σ k v).2.2 = σ.2.2 := rfl
theorem sL2 (σ : St) (k : Nat) (v : Int64) (j : Nat) : (sL σ k v).2.1 j = if j = k then v else σ.2.1 j := by
  show cond (Nat.beq j k) v (σ.2.1 j) = _
  by_cases h : j = k
  · subst h; rw [if_pos rfl]; rw [show Nat.beq j j = true from Nat.beq_refl j]; rfl
  · rw [if_neg h]; rw [show Nat.beq j k = false from by cases e : Nat.beq j k; rfl; exact absurd (Nat.eq_of_beq_eq_true e) h]; rfl
theorem sA1 (σ : St) (a : Nat) (g : Nat → Int32) : (sA σ a g).1 = σ.1 := rfl
theorem sA2 (σ : St) (a : Nat) (g : Nat → Int32) : (sA σ a g).2.1 = σ.2.1 := rfl
theorem sA3 (σ : St) (a : Nat) (g : Nat → Int32) (b : Nat) : (sA σ a g).2.2 b = if b = a then g else σ.2.2 b := by
  show cond (Nat.beq b a) g (σ.2.2 b) = _
  by_cases h : b = a
  · subst h; rw [if_pos rfl]; rw [show Nat.beq b b = true from Nat.beq_refl b]; rfl
  · rw [if_neg h]; rw [show Nat.beq b a = false from by cases e : Nat.beq b a; rfl; exact absurd (Nat.eq_of_beq_eq_true e) h]; rfl
theorem sE1 (σ : St) (a i : Nat) (v : Int32) : (sE σ a i v).1 = σ.1 := rfl
theorem sE2 (σ : St) (a i : Nat) (v : Int32) : (sE σ a i v).2.1 = σ.2.1 := rfl
theorem sE3 (σ : St) (a i : Nat) (v : Int32) (b : Nat) : (sE σ a i v).2.2 b = if b = a then upd (σ.2.2 a) i v else σ.2.2 b := sA3 σ a _ b
theorem scp1 (σ : St) (a b : Nat) (x y z : Int32) : (scp σ a b x y z).1 = σ.1 := rfl
theorem scp2 (σ : St) (a b : Nat) (x y z : Int32) : (scp σ a b x y z).2.1 = σ.2.1 := rfl
theorem scp3 (σ : St) (a b : Nat) (x y z : Int32) (c : Nat) : (scp σ a b x y z).2.2 c = if c = b then va_cpy (σ.2.2 a) (σ.2.2 b) x.toNatClampNeg y.toNatClampNeg z.toNatClampNeg else σ.2.2 c := sA3 σ b _ c
theorem upd_a (f : Nat → Int32) (i : Nat) (v : Int32) (j : Nat) : upd f i v j = if j = i then v else f j := rfl
theorem ck_nI {j n : Nat} (h : j < n) (hn : n < 2 ^ 31) : ckI (nI j) n = true := by
  unfold ckI
  rw [nI_toInt (by omega)]
  exact decide_eq_true ⟨by omega, by omega⟩
theorem ckZ0 : ckZ 0 = true := by decide
theorem ckZ1 : ckZ 1 = true := by decide
/-- a number in a range, or not -/
def Rg (a b : Nat) (x : Int32) : Prop := ∃ j : Nat, a ≤ j ∧ j ≤ b ∧ x = nI j
theorem Rg.iff {a b : Nat} {x : Int32} (hb : b < 2 ^ 31) : Rg a b x ↔ (a : Int) ≤ x.toInt ∧ x.toInt ≤ b := by
  constructor
  · rintro ⟨j, h1, h2, rfl⟩
    rw [nI_toInt (by omega)]
    omega
  · rintro ⟨h1, h2⟩
    refine ⟨x.toInt.toNat, by omega, by omega, Int32.toInt_inj.mp ?_⟩
    rw [nI_toInt (by omega)]
    omega
theorem wi_y {x lo hi : Int32} {a b : Nat} (h : Rg a b x) (hb : b < 2 ^ 31) (ha : a < 2 ^ 31) (h1 : lo = nI a) (h2 : hi = nI b) : f_X10_within x lo hi = some 1 := by
  have h3 := (Rg.iff hb).mp h
  unfold f_X10_within
  rw [if_neg, if_neg]
  · rw [Int32.lt_iff_toInt_lt, h2, nI_toInt hb]; omega
  · rw [Int32.lt_iff_toInt_lt, h1, nI_toInt ha]; omega
theorem wi_n {x lo hi : Int32} {a b : Nat} (h : ¬ Rg a b x) (hb : b < 2 ^ 31) (ha : a < 2 ^ 31) (h1 : lo = nI a) (h2 : hi = nI b) : f_X10_within x lo hi = some 0 := by
  have h3 : ¬ _ := fun z => h ((Rg.iff hb).mpr z)
  unfold f_X10_within
  by_cases c1 : x < lo
  · rw [if_pos c1]
  · rw [if_neg c1, if_pos]
    rw [Int32.lt_iff_toInt_lt, h1, nI_toInt ha] at c1
    rw [Int32.lt_iff_toInt_lt, h2, nI_toInt hb]
    omega
theorem lgc_lt (x y : Int64) : lg_cmp x y < 0 ↔ x.toInt < y.toInt := by
  unfold lg_cmp
  simp only [gt_iff_lt, Int64.lt_iff_toInt_lt, ← Int64.toInt_inj]
  split
  · constructor
    · intro h; exact absurd h (by decide)
    · intro h; omega
  · split
    · constructor
      · intro h; exact absurd h (by decide)
      · intro h; omega
    · constructor
      · intro _; omega
      · intro _; decide
theorem lgc_gt (x y : Int64) : 0 < lg_cmp x y ↔ y.toInt < x.toInt := by
  unfold lg_cmp
  simp only [gt_iff_lt, Int64.lt_iff_toInt_lt, ← Int64.toInt_inj]
  split
  · constructor
    · intro _; omega
    · intro _; decide
  · split
    · constructor
      · intro h; exact absurd h (by decide)
      · intro h; omega
    · constructor
      · intro h; exact absurd h (by decide)
      · intro h; omega
theorem in_y {x : Int32} {lo hi : Int64} {a b : Nat} (h : Rg a b x) (hb : b < 2 ^ 31) (ha : a < 2 ^ 31) (h1 : lo = lN a) (h2 : hi = lN b) : f_X11_in x.toInt64 lo hi = some 1 := by
  have h3 := (Rg.iff hb).mp h
  unfold f_X11_in
  rw [if_neg, if_neg]
  · rw [lgc_gt, h2, lN_toInt hb, Int32.toInt_toInt64]; omega
  · rw [lgc_lt, h1, lN_toInt ha, Int32.toInt_toInt64]; omega
theorem in_n {x : Int32} {lo hi : Int64} {a b : Nat} (h : ¬ Rg a b x) (hb : b < 2 ^ 31) (ha : a < 2 ^ 31) (h1 : lo = lN a) (h2 : hi = lN b) : f_X11_in x.toInt64 lo hi = some 0 := by
  have h3 : ¬ _ := fun z => h ((Rg.iff hb).mpr z)
  unfold f_X11_in
  by_cases c1 : lg_cmp x.toInt64 lo < 0
  · rw [if_pos c1]
  · rw [if_neg c1, if_pos]
    rw [lgc_lt, h1, lN_toInt ha, Int32.toInt_toInt64] at c1
    rw [lgc_gt, h2, lN_toInt hb, Int32.toInt_toInt64]
    omega
/-- a tree's number, of n trees -/
def Tr (n : Nat) (t : Int32) : Prop := ∃ j : Nat, j < n ∧ t = nI j
theorem Tr.iff {n : Nat} {t : Int32} (hn : n ≤ 7) : Tr n t ↔ 0 ≤ t.toInt ∧ t.toInt ≤ (n : Int) - 1 := by
  constructor
  · rintro ⟨j, h1, rfl⟩
    rw [nI_toInt (by omega)]
    omega
  · rintro ⟨h1, h2⟩
    refine ⟨t.toInt.toNat, by omega, Int32.toInt_inj.mp ?_⟩
    rw [nI_toInt (by omega)]
    omega
theorem n1_toInt {n : Nat} (hn : n ≤ 7) : (nI n - 1).toInt = (n : Int) - 1 := pk_sub_toInt (b := 1) (by omega) (by omega)
theorem isT_y {σ : St} {n : Nat} {t : Int32} (h0 : σ.1 106 = nI n) (hn : n ≤ 7) (h : Tr n t) : f_X10_isTree σ t = some (1, σ) := by
  have h3 := (Tr.iff hn).mp h
  have e : f_X10_within t 0 (σ.1 106 - 1) = some 1 := by
    unfold f_X10_within
    rw [if_neg, if_neg]
    · rw [Int32.lt_iff_toInt_lt, h0, n1_toInt hn]; omega
    · rw [Int32.lt_iff_toInt_lt]; show ¬ t.toInt < 0; omega
  unfold f_X10_isTree
  rw [e]
  rfl
theorem isT_n {σ : St} {n : Nat} {t : Int32} (h0 : σ.1 106 = nI n) (hn : n ≤ 7) (h : ¬ Tr n t) : f_X10_isTree σ t = some (0, σ) := by
  have h3 : ¬ _ := fun z => h ((Tr.iff hn).mpr z)
  have e : f_X10_within t 0 (σ.1 106 - 1) = some 0 := by
    unfold f_X10_within
    by_cases c1 : t < 0
    · rw [if_pos c1]
    · rw [if_neg c1, if_pos]
      rw [Int32.lt_iff_toInt_lt] at c1
      have c1 : ¬ t.toInt < 0 := c1
      rw [Int32.lt_iff_toInt_lt, h0, n1_toInt hn]
      omega
  unfold f_X10_isTree
  rw [e]
  rfl
theorem isM_y {τ : St} {n : Nat} {t : Int32} (h0 : τ.2.2 1 0 = nI n) (hn : n ≤ 7) (h : Tr n t) : f_X11_isTree τ t = some (1, τ) := by
  have h3 := (Tr.iff hn).mp h
  have e : f_X11_in t.toInt64 0 ((τ.2.2 1 0 - 1).toInt64) = some 1 := by
    unfold f_X11_in
    rw [if_neg, if_neg]
    · rw [lgc_gt, Int32.toInt_toInt64, Int32.toInt_toInt64, h0, n1_toInt hn]; omega
    · rw [lgc_lt, Int32.toInt_toInt64]; show ¬ t.toInt < 0; omega
  unfold f_X11_isTree f_X11_many
  show (f_X11_in t.toInt64 0 ((τ.2.2 1 0 - 1).toInt64)).bind _ = _
  rw [e]
  rfl
theorem isM_n {τ : St} {n : Nat} {t : Int32} (h0 : τ.2.2 1 0 = nI n) (hn : n ≤ 7) (h : ¬ Tr n t) : f_X11_isTree τ t = some (0, τ) := by
  have h3 : ¬ _ := fun z => h ((Tr.iff hn).mpr z)
  have e : f_X11_in t.toInt64 0 ((τ.2.2 1 0 - 1).toInt64) = some 0 := by
    unfold f_X11_in
    by_cases c1 : lg_cmp t.toInt64 0 < 0
    · rw [if_pos c1]
    · rw [if_neg c1, if_pos]
      rw [lgc_lt, Int32.toInt_toInt64] at c1
      have c1 : ¬ t.toInt < 0 := c1
      rw [lgc_gt, Int32.toInt_toInt64, Int32.toInt_toInt64, h0, n1_toInt hn]
      omega
  unfold f_X11_isTree f_X11_many
  show (f_X11_in t.toInt64 0 ((τ.2.2 1 0 - 1).toInt64)).bind _ = _
  rw [e]
  rfl
theorem b1 {β : Type} {A B : Int32 → Option β} : ((some (1 : Int32)).bind fun q => if q = 0 then A q else B q) = B 1 := rfl
theorem b0 {β : Type} {A B : Int32 → Option β} : ((some (0 : Int32)).bind fun q => if q = 0 then A q else B q) = A 0 := rfl
theorem p1 {β : Type} {σ : St} {A B : Int32 × St → Option β} : ((some ((1 : Int32), σ)).bind fun q => if q.1 = 0 then A q else B q) = B (1, σ) := rfl
theorem p0 {β : Type} {σ : St} {A B : Int32 × St → Option β} : ((some ((0 : Int32), σ)).bind fun q => if q.1 = 0 then A q else B q) = A (0, σ) := rfl
theorem bs {α β : Type} (a : α) (f : α → Option β) : (some a).bind f = f a := rfl
theorem cT {α : Type} {a b : α} : cond true a b = a := rfl
theorem cF {α : Type} {a b : α} : cond false a b = b := rfl
