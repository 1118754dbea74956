/-! letters and rows of trees, as numbers -/
def okL : Nat → Nat → Bool
  | 0, _ => true
  | k + 1, m => m == 0 || (decide (1 ≤ m % 10 ∧ m % 10 ≤ 4) && okL k (m / 10))
def Lt (m : Nat) : Prop := m ≤ 444444 ∧ okL 6 m = true
def LtI (x : Int32) : Prop := ∃ m : Nat, x = nI m ∧ Lt m
/-- the figures of a number, from the last one: unlike ones of 1 .. n; u: those that were there (bits) -/
def okR (n : Nat) : Nat → Nat → Nat → Bool
  | 0, _, m => m == 0
  | k + 1, u, m => m == 0 || (decide (1 ≤ m % 10 ∧ m % 10 ≤ n) && !u.testBit (m % 10) && okR n k (u ||| 2 ^ (m % 10)) (m / 10))
def RwN (n m : Nat) : Prop := 0 < m ∧ okR n 7 0 m = true
def RwI (n : Nat) (x : Int32) : Prop := ∃ m : Nat, x = nI m ∧ RwN n m
/-! what holds of the numbers in which all that is told lies (the reference's own row) -/
def Inv (M : Nat → Int32) (n nn rn un se : Nat) : Prop :=
  (M 0 = nI n ∧ n ≤ 7) ∧ (M 2 = nI se ∧ se ≤ 999) ∧ (M 3 = nI nn ∧ nn ≤ 6) ∧ (M 4 = nI rn ∧ rn ≤ 6) ∧ (M 5 = nI un ∧ un ≤ 8) ∧
  (∀ t, t < n → ∃ k, k < 6 ∧ M (6 + t) = nI k) ∧
  (∀ t i, t < 7 → bt (M (13 + t)) i = true → t < n ∧ i < n ∧ i ≠ t ∧ bt (M (13 + i)) t = true) ∧
  (∀ i, bt (M 1) i = true → i < n) ∧
  (∀ k, k < nn → Tr n (M (20 + 5 * k)) ∧ LtI (M (21 + 5 * k)) ∧ Rg 0 99 (M (22 + 5 * k)) ∧ LtI (M (23 + 5 * k)) ∧ Rg 0 20 (M (24 + 5 * k))) ∧
  (∀ k, k < rn → RwI n (M (50 + 3 * k)) ∧ Rg 0 99 (M (51 + 3 * k)) ∧ LtI (M (52 + 3 * k))) ∧
  (∀ k, k < un → (∀ i, bt (M (68 + 2 * k)) i = true → i < n) ∧ Rg 0 999 (M (69 + 2 * k)))
def Good (M : Nat → Int32) : Prop := ∃ n nn rn un se : Nat, Inv M n nn rn un se
def FR1 (σ : St) (M : Nat → Int32) : Prop := σ.1 106 = M 0 ∧ σ.1 107 = M 1 ∧ σ.1 108 = M 2 ∧ σ.1 109 = M 3 ∧ σ.1 110 = M 4 ∧ σ.1 111 = M 5 ∧ (∀ t, t < (M 0).toNatClampNeg → σ.2.2 2 t = M (6 + t)) ∧ (∀ t, t < (M 0).toNatClampNeg → σ.2.2 3 t = M (13 + t)) ∧ (∀ k, k < 5 * (M 3).toNatClampNeg → σ.2.2 4 k = M (20 + k)) ∧ (∀ k, k < 3 * (M 4).toNatClampNeg → σ.2.2 5 k = M (50 + k)) ∧ (∀ k, k < (M 5).toNatClampNeg → σ.2.2 6 k = M (68 + 2 * k)) ∧ (∀ k, k < (M 5).toNatClampNeg → σ.2.2 7 k = M (69 + 2 * k))
def FR15 (σ : St) (M : Nat → Int32) : Prop := σ.1 1506 = M 0 ∧ σ.1 1507 = M 1 ∧ σ.1 1508 = M 2 ∧ σ.1 1509 = M 3 ∧ σ.1 1510 = M 4 ∧ σ.1 1511 = M 5 ∧ (∀ t, t < (M 0).toNatClampNeg → σ.2.2 16 t = M (6 + t)) ∧ (∀ t, t < (M 0).toNatClampNeg → σ.2.2 17 t = M (13 + t)) ∧ (∀ k, k < 5 * (M 3).toNatClampNeg → σ.2.2 18 k = M (20 + k)) ∧ (∀ k, k < 3 * (M 4).toNatClampNeg → σ.2.2 19 k = M (50 + k)) ∧ (∀ k, k < (M 5).toNatClampNeg → σ.2.2 20 k = M (68 + 2 * k)) ∧ (∀ k, k < (M 5).toNatClampNeg → σ.2.2 21 k = M (69 + 2 * k))
def FR22 (σ : St) (M : Nat → Int32) : Prop := σ.1 2206 = M 0 ∧ σ.1 2207 = M 1 ∧ σ.1 2208 = M 2 ∧ σ.1 2209 = M 3 ∧ σ.1 2210 = M 4 ∧ σ.1 2211 = M 5 ∧ (∀ t, t < (M 0).toNatClampNeg → σ.2.2 23 t = M (6 + t)) ∧ (∀ t, t < (M 0).toNatClampNeg → σ.2.2 24 t = M (13 + t)) ∧ (∀ k, k < 5 * (M 3).toNatClampNeg → σ.2.2 25 k = M (20 + k)) ∧ (∀ k, k < 3 * (M 4).toNatClampNeg → σ.2.2 26 k = M (50 + k)) ∧ (∀ k, k < (M 5).toNatClampNeg → σ.2.2 27 k = M (68 + 2 * k)) ∧ (∀ k, k < (M 5).toNatClampNeg → σ.2.2 28 k = M (69 + 2 * k))
def KP (τ : St) (i : Nat) : Nat → Int32 := fun k => τ.2.2 2 (84 * i + k)
def Im0 (σ τ : St) : Prop := σ.2.2 37 0 = τ.2.2 3 0 ∧ (τ.2.2 3 0 = 0 ∨ (τ.2.2 3 0 = 1 ∧ Good (KP τ 0) ∧ FR15 σ (KP τ 0)))
def Im1 (σ τ : St) : Prop := σ.2.2 37 1 = τ.2.2 3 1 ∧ (τ.2.2 3 1 = 0 ∨ (τ.2.2 3 1 = 1 ∧ Good (KP τ 1) ∧ FR22 σ (KP τ 1)))
def Txt (σ τ : St) : Prop := ∃ tl : Nat, tl ≤ 150 ∧ σ.1 10 = nI tl ∧ τ.1 18 = nI tl ∧ ∀ k, k < tl → σ.2.2 42 k = τ.2.2 9 k ∧ Rg 0 127 (τ.2.2 9 k)
def Msc (σ τ : St) : Prop := σ.1 13 = τ.2.2 4 0 ∧ σ.1 14 = τ.2.2 4 1 ∧ σ.1 15 = τ.2.2 4 2 ∧ σ.2.1 11 = τ.2.1 4 ∧ σ.2.1 12 = τ.2.1 5
def RelP (σ τ : St) : Prop := Good (τ.2.2 1) ∧ FR1 σ (τ.2.2 1) ∧ Im0 σ τ ∧ Im1 σ τ ∧ Txt σ τ ∧ Msc σ τ
def cints : List Nat := [106, 107, 108, 109, 110, 111, 1506, 1507, 1508, 1509, 1510, 1511, 2206, 2207, 2208, 2209, 2210, 2211, 10, 13, 14, 15]
def crows : List Nat := [2, 3, 4, 5, 6, 7, 16, 17, 18, 19, 20, 21, 23, 24, 25, 26, 27, 28, 37, 42]
def mrows : List Nat := [1, 2, 3, 4, 9]
/-- the class: nothing that the relation sees has changed -/
def SC (σ σ1 : St) : Prop := (∀ k ∈ cints, σ1.1 k = σ.1 k) ∧ (∀ a ∈ crows, σ1.2.2 a = σ.2.2 a) ∧ σ1.2.1 = σ.2.1
def SM (τ τ1 : St) : Prop := τ1.1 18 = τ.1 18 ∧ (∀ a ∈ mrows, τ1.2.2 a = τ.2.2 a) ∧ τ1.2.1 = τ.2.1
theorem SC.rf (σ : St) : SC σ σ := ⟨fun _ _ => rfl, fun _ _ => rfl, rfl⟩
theorem SM.rf (τ : St) : SM τ τ := ⟨rfl, fun _ _ => rfl, rfl⟩
theorem SC.tr {a b c : St} (h : SC a b) (g : SC b c) : SC a c := ⟨fun k hk => (g.1 k hk).trans (h.1 k hk), fun k hk => (g.2.1 k hk).trans (h.2.1 k hk), g.2.2.trans h.2.2⟩
theorem SM.tr {a b c : St} (h : SM a b) (g : SM b c) : SM a c := ⟨g.1.trans h.1, fun k hk => (g.2.1 k hk).trans (h.2.1 k hk), g.2.2.trans h.2.2⟩
theorem SC.i (σ : St) (k : Nat) (v : Int32) (h : k ∉ cints) : SC σ (sI σ k v) := ⟨fun j hj => by rw [sI1, if_neg (fun e : j = k => h (e ▸ hj))], fun _ _ => rfl, rfl⟩
theorem SC.e (σ : St) (a i : Nat) (v : Int32) (h : a ∉ crows) : SC σ (sE σ a i v) := ⟨fun _ _ => rfl, fun j hj => by rw [sE3, if_neg (fun e : j = a => h (e ▸ hj))], rfl⟩
theorem SM.i (τ : St) (k : Nat) (v : Int32) (h : k ≠ 18) : SM τ (sI τ k v) := ⟨by rw [sI1, if_neg (fun e => h e.symm)], fun _ _ => rfl, rfl⟩
theorem SM.e (τ : St) (a i : Nat) (v : Int32) (h : a ∉ mrows) : SM τ (sE τ a i v) := ⟨rfl, fun j hj => by rw [sE3, if_neg (fun e : j = a => h (e ▸ hj))], rfl⟩
theorem FR1.same {σ σ1 : St} {M : Nat → Int32} (c : SC σ σ1) (h : FR1 σ M) : FR1 σ1 M := by
  unfold FR1 at h ⊢
  rw [c.1 106 (by decide), c.1 107 (by decide), c.1 108 (by decide), c.1 109 (by decide), c.1 110 (by decide), c.1 111 (by decide), c.2.1 2 (by decide), c.2.1 3 (by decide), c.2.1 4 (by decide), c.2.1 5 (by decide), c.2.1 6 (by decide), c.2.1 7 (by decide)]
  exact h
theorem FR15.same {σ σ1 : St} {M : Nat → Int32} (c : SC σ σ1) (h : FR15 σ M) : FR15 σ1 M := by
  unfold FR15 at h ⊢
  rw [c.1 1506 (by decide), c.1 1507 (by decide), c.1 1508 (by decide), c.1 1509 (by decide), c.1 1510 (by decide), c.1 1511 (by decide), c.2.1 16 (by decide), c.2.1 17 (by decide), c.2.1 18 (by decide), c.2.1 19 (by decide), c.2.1 20 (by decide), c.2.1 21 (by decide)]
  exact h
theorem FR22.same {σ σ1 : St} {M : Nat → Int32} (c : SC σ σ1) (h : FR22 σ M) : FR22 σ1 M := by
  unfold FR22 at h ⊢
  rw [c.1 2206 (by decide), c.1 2207 (by decide), c.1 2208 (by decide), c.1 2209 (by decide), c.1 2210 (by decide), c.1 2211 (by decide), c.2.1 23 (by decide), c.2.1 24 (by decide), c.2.1 25 (by decide), c.2.1 26 (by decide), c.2.1 27 (by decide), c.2.1 28 (by decide)]
  exact h
theorem RelP.same {σ σ1 τ τ1 : St} (h : RelP σ τ) (c : SC σ σ1) (m : SM τ τ1) : RelP σ1 τ1 := by
  obtain ⟨h1, h2, h3, h4, h5, h6⟩ := h
  have e1 := m.2.1 1 (by decide)
  have e2 := m.2.1 2 (by decide)
  have e3 := m.2.1 3 (by decide)
  have e4 := m.2.1 4 (by decide)
  have e9 := m.2.1 9 (by decide)
  have k0 : KP τ1 0 = KP τ 0 := by unfold KP; rw [e2]
  have k1 : KP τ1 1 = KP τ 1 := by unfold KP; rw [e2]
  refine ⟨by rw [e1]; exact h1, by rw [e1]; exact h2.same c, ?_, ?_, ?_, ?_⟩
  · unfold Im0 at h3 ⊢
    rw [c.2.1 37 (by decide), e3, k0]
    exact ⟨h3.1, h3.2.imp id (fun z => ⟨z.1, z.2.1, z.2.2.same c⟩)⟩
  · unfold Im1 at h4 ⊢
    rw [c.2.1 37 (by decide), e3, k1]
    exact ⟨h4.1, h4.2.imp id (fun z => ⟨z.1, z.2.1, z.2.2.same c⟩)⟩
  · unfold Txt at h5 ⊢
    rw [c.1 10 (by decide), m.1, c.2.1 42 (by decide), e9]
    exact h5
  · unfold Msc at h6 ⊢
    rw [c.1 13 (by decide), c.1 14 (by decide), c.1 15 (by decide), c.2.2, m.2.2, e4]
    exact h6
theorem RelP.bad {σ τ : St} (h : RelP σ τ) : RelP (sI σ 13 (σ.1 13 + 1)) (sE τ 4 0 (τ.2.2 4 0 + 1)) := by
  obtain ⟨h1, h2, h3, h4, h5, h6⟩ := h
  refine ⟨h1, h2, h3, h4, h5, ?_⟩
  obtain ⟨g1, g2, g3, g4, g5⟩ := h6
  refine ⟨?_, ?_, ?_, g4, g5⟩
  all_goals simp only [sI1, sE3, upd_a, if_pos rfl]
  all_goals simp [g1, g2, g3, upd_a]
theorem RelP.no {σ τ : St} (h : RelP σ τ) : RelP (sI σ 14 (σ.1 14 + 1)) (sE τ 4 1 (τ.2.2 4 1 + 1)) := by
  obtain ⟨h1, h2, h3, h4, h5, h6⟩ := h
  refine ⟨h1, h2, h3, h4, h5, ?_⟩
  obtain ⟨g1, g2, g3, g4, g5⟩ := h6
  refine ⟨?_, ?_, ?_, g4, g5⟩
  all_goals simp only [sI1, sE3, upd_a, if_pos rfl]
  all_goals simp [g1, g2, g3, upd_a]
theorem RelP.full {σ τ : St} (h : RelP σ τ) : RelP (sI σ 15 (σ.1 15 + 1)) (sE τ 4 2 (τ.2.2 4 2 + 1)) := by
  obtain ⟨h1, h2, h3, h4, h5, h6⟩ := h
  refine ⟨h1, h2, h3, h4, h5, ?_⟩
  obtain ⟨g1, g2, g3, g4, g5⟩ := h6
  refine ⟨?_, ?_, ?_, g4, g5⟩
  all_goals simp only [sI1, sE3, upd_a, if_pos rfl]
  all_goals simp [g1, g2, g3, upd_a]
/-- all but the forest -/
def RelO (σ τ : St) : Prop := Im0 σ τ ∧ Im1 σ τ ∧ Txt σ τ ∧ Msc σ τ
def SCo (σ σ1 : St) : Prop := (∀ k ∈ [1506, 1507, 1508, 1509, 1510, 1511, 2206, 2207, 2208, 2209, 2210, 2211, 10, 13, 14, 15], σ1.1 k = σ.1 k) ∧ (∀ a ∈ [16, 17, 18, 19, 20, 21, 23, 24, 25, 26, 27, 28, 37, 42], σ1.2.2 a = σ.2.2 a) ∧ σ1.2.1 = σ.2.1
def SMo (τ τ1 : St) : Prop := τ1.1 18 = τ.1 18 ∧ (∀ a ∈ [2, 3, 4, 9], τ1.2.2 a = τ.2.2 a) ∧ τ1.2.1 = τ.2.1
theorem FR15.sameo {σ σ1 : St} {M : Nat → Int32} (c : SCo σ σ1) (h : FR15 σ M) : FR15 σ1 M := by
  unfold FR15 at h ⊢
  rw [c.1 1506 (by decide), c.1 1507 (by decide), c.1 1508 (by decide), c.1 1509 (by decide), c.1 1510 (by decide), c.1 1511 (by decide), c.2.1 16 (by decide), c.2.1 17 (by decide), c.2.1 18 (by decide), c.2.1 19 (by decide), c.2.1 20 (by decide), c.2.1 21 (by decide)]
  exact h
theorem FR22.sameo {σ σ1 : St} {M : Nat → Int32} (c : SCo σ σ1) (h : FR22 σ M) : FR22 σ1 M := by
  unfold FR22 at h ⊢
  rw [c.1 2206 (by decide), c.1 2207 (by decide), c.1 2208 (by decide), c.1 2209 (by decide), c.1 2210 (by decide), c.1 2211 (by decide), c.2.1 23 (by decide), c.2.1 24 (by decide), c.2.1 25 (by decide), c.2.1 26 (by decide), c.2.1 27 (by decide), c.2.1 28 (by decide)]
  exact h
theorem RelO.same {σ σ1 τ τ1 : St} (h : RelO σ τ) (c : SCo σ σ1) (m : SMo τ τ1) : RelO σ1 τ1 := by
  obtain ⟨h3, h4, h5, h6⟩ := h
  have e2 := m.2.1 2 (by decide)
  have e3 := m.2.1 3 (by decide)
  have e4 := m.2.1 4 (by decide)
  have e9 := m.2.1 9 (by decide)
  have k0 : KP τ1 0 = KP τ 0 := by unfold KP; rw [e2]
  have k1 : KP τ1 1 = KP τ 1 := by unfold KP; rw [e2]
  refine ⟨?_, ?_, ?_, ?_⟩
  · unfold Im0 at h3 ⊢
    rw [c.2.1 37 (by decide), e3, k0]
    exact ⟨h3.1, h3.2.imp id (fun z => ⟨z.1, z.2.1, z.2.2.sameo c⟩)⟩
  · unfold Im1 at h4 ⊢
    rw [c.2.1 37 (by decide), e3, k1]
    exact ⟨h4.1, h4.2.imp id (fun z => ⟨z.1, z.2.1, z.2.2.sameo c⟩)⟩
  · unfold Txt at h5 ⊢
    rw [c.1 10 (by decide), m.1, c.2.1 42 (by decide), e9]
    exact h5
  · unfold Msc at h6 ⊢
    rw [c.1 13 (by decide), c.1 14 (by decide), c.1 15 (by decide), c.2.2, m.2.2, e4]
    exact h6
