/-! the reference's rows, one after another -/
def Rok (r : List Nat) : Prop := r.Nodup ∧ ∀ t ∈ r, t < 7
theorem Rok.tl {t : Nat} {r : List Nat} (h : Rok (t :: r)) : Rok r := ⟨(List.nodup_cons.mp h.1).2, fun x hx => h.2 x (List.mem_cons_of_mem _ hx)⟩
theorem rok_len : ∀ r : List Nat, Rok r → ((List.range 7).filter (fun c => decide (c ∉ r))).length + r.length = 7 := by
  intro r
  induction r with
  | nil => intro _; decide
  | cons t r ih =>
    intro h
    have h1 := ih h.tl
    have hn : t ∉ r := (List.nodup_cons.mp h.1).1
    have ht : t < 7 := h.2 t (List.mem_cons_self ..)
    have nd : ((List.range 7).filter (fun c => decide (c ∉ r))).Nodup := List.Pairwise.filter _ (show (List.range 7).Nodup by decide)
    have e : (List.range 7).filter (fun c => decide (c ∉ t :: r)) = ((List.range 7).filter (fun c => decide (c ∉ r))).erase t := by
      rw [List.Nodup.erase_eq_filter nd, List.filter_filter]
      apply List.filter_congr
      intro c _
      by_cases g1 : c = t
      · simp [g1]
      · simp [g1]
    have hm : t ∈ (List.range 7).filter (fun c => decide (c ∉ r)) := List.mem_filter.mpr ⟨List.mem_range.mpr ht, by simpa using hn⟩
    rw [e, List.length_erase_of_mem hm, List.length_cons]
    have := List.length_pos_of_mem hm
    omega
theorem Rok.le {r : List Nat} (h : Rok r) : r.length ≤ 7 := by have := rok_len r h; omega
def RS (τ : St) (r : List Nat) : Prop := τ.1 7 = nI r.length ∧ ∀ j, j < r.length → τ.2.2 5 j = nI (r.getD (r.length - 1 - j) 0)
theorem RS.push {τ : St} {r : List Nat} (h : RS τ r) (c : Nat) : RS (sI (sE τ 5 r.length (nI c)) 7 (nI (r.length + 1))) (c :: r) := by
  refine ⟨rfl, fun j hj => ?_⟩
  rw [List.length_cons] at hj ⊢
  have e : (sI (sE τ 5 r.length (nI c)) 7 (nI (r.length + 1))).2.2 5 j = if j = r.length then nI c else τ.2.2 5 j := rfl
  rw [e]
  by_cases g : j = r.length
  · rw [if_pos g, show r.length + 1 - 1 - j = 0 by omega]; rfl
  · rw [if_neg g, show r.length + 1 - 1 - j = (r.length - 1 - j) + 1 by omega, h.2 j (by omega)]; rfl
theorem RS.pop {τ : St} {t : Nat} {r : List Nat} (h : RS τ (t :: r)) : RS (sI τ 7 (nI r.length)) r := by
  refine ⟨rfl, fun j hj => ?_⟩
  have h2 := h.2 j (by rw [List.length_cons]; omega)
  rw [List.length_cons, show r.length + 1 - 1 - j = (r.length - 1 - j) + 1 by omega] at h2
  exact h2
theorem used_L {τ : St} {r : List Nat} (hS : RS τ r) (hr : Rok r) : ∀ (d fu : Nat) (x : Int32), d ≤ r.length → d < fu → ∃ m : Int32, f_X11_used_L4 fu τ x (nI (r.length - d)) = some (m, τ) ∧ ∀ c, bt m c = true ↔ (bt x c = true ∨ ∃ i, i < d ∧ r.getD i 0 = c) := by
  have hl := hr.le
  intro d
  induction d with
  | zero =>
    intro fu x hd hfu
    obtain ⟨fu, rfl⟩ : ∃ m, fu = m + 1 := ⟨fu - 1, by omega⟩
    refine ⟨x, ?_, fun c => ⟨fun h => Or.inl h, fun h => h.elim id (fun ⟨i, hi, _⟩ => absurd hi (by omega))⟩⟩
    show f_X11_used_b4 _ τ x (nI (r.length - 0)) = _
    unfold f_X11_used_b4
    rw [hS.1, if_pos ((nle (by omega) (by omega)).mpr (by omega))]
  | succ d ih =>
    intro fu x hd hfu
    obtain ⟨fu, rfl⟩ : ∃ m, fu = m + 1 := ⟨fu - 1, by omega⟩
    have hx : r.getD d 0 < 7 := by
      rw [List.getD_eq_getElem?_getD, List.getElem?_eq_getElem (by omega)]
      exact hr.2 _ (List.getElem_mem ..)
    obtain ⟨m, h1, h2⟩ := ih fu (x ||| ((1 : Int32) <<< (nI (r.getD d 0) &&& 31))) (by omega) (by omega)
    refine ⟨m, ?_, fun c => ?_⟩
    · rw [← h1]
      show f_X11_used_b4 _ τ x (nI (r.length - (d + 1))) = _
      unfold f_X11_used_b4
      rw [hS.1, if_neg (show ¬ nI r.length ≤ nI (r.length - (d + 1)) from fun z => absurd ((nle (by omega) (by omega)).mp z) (by omega)), ck_nI (show r.length - (d + 1) < 7 by omega) (by omega), cT, nI_clamp (show r.length - (d + 1) < 2 ^ 31 by omega), hS.2 _ (by omega), show r.length - 1 - (r.length - (d + 1)) = d by omega, nI_1, show r.length - (d + 1) + 1 = r.length - d by omega]
    · rw [h2 c, bt_set (by omega)]
      constructor
      · rintro (h | ⟨i, hi, e⟩)
        · rcases Bool.or_eq_true_iff.mp h with h | h
          · exact Or.inl h
          · exact Or.inr ⟨d, by omega, (of_decide_eq_true h).symm⟩
        · exact Or.inr ⟨i, by omega, e⟩
      · rintro (h | ⟨i, hi, e⟩)
        · exact Or.inl (by rw [h]; rfl)
        · by_cases g : i = d
          · exact Or.inl (by rw [← e, g]; simp)
          · exact Or.inr ⟨i, by omega, e⟩
theorem used_M {τ : St} {r : List Nat} (hS : RS τ r) (hr : Rok r) : ∃ m : Int32, f_X11_used τ = some (m, τ) ∧ ∀ c, bt m c = decide (c ∈ r) := by
  obtain ⟨m, h1, h2⟩ := used_L hS hr r.length FU 0 (Nat.le_refl _) (by unfold FU; have := hr.le; omega)
  rw [Nat.sub_self] at h1
  refine ⟨m, h1, fun c => ?_⟩
  have : bt m c = true ↔ c ∈ r := by
    rw [h2 c, b_0]
    constructor
    · rintro (h | ⟨i, hi, e⟩)
      · cases h
      · rw [List.getD_eq_getElem?_getD, List.getElem?_eq_getElem hi] at e
        exact e ▸ List.getElem_mem ..
    · intro h
      obtain ⟨i, hi, e⟩ := List.mem_iff_getElem.mp h
      exact Or.inr ⟨i, hi, by rw [List.getD_eq_getElem?_getD, List.getElem?_eq_getElem hi]; exact e⟩
  by_cases g : c ∈ r
  · rw [decide_eq_true g]; exact this.mpr g
  · rw [decide_eq_false g]
    cases e : bt m c
    · rfl
    · exact absurd (this.mp e) g
def ff (P : Nat → Bool) : Nat → Nat → Nat
  | 0, x => x
  | d + 1, x => if P x = true then x else ff P d (x + 1)
theorem ff_b (P : Nat → Bool) : ∀ d x, x ≤ ff P d x ∧ ff P d x ≤ x + d ∧ (ff P d x < x + d → P (ff P d x) = true) ∧ ∀ y, x ≤ y → y < ff P d x → P y = false := by
  intro d
  induction d with
  | zero => intro x; exact ⟨Nat.le_refl _, Nat.le_refl _, fun h => absurd h (Nat.lt_irrefl _), fun y h1 h2 => absurd h2 (by show ¬ y < x; omega)⟩
  | succ d ih =>
    intro x
    show x ≤ (if P x = true then x else ff P d (x + 1)) ∧ _ ∧ _ ∧ _
    by_cases g : P x = true
    · have e : ff P (d + 1) x = x := by show (if P x = true then x else _) = x; rw [if_pos g]
      rw [e, if_pos g]
      exact ⟨Nat.le_refl _, by omega, fun _ => g, fun y h1 h2 => absurd h2 (by omega)⟩
    · have e : ff P (d + 1) x = ff P d (x + 1) := by show (if P x = true then x else _) = _; rw [if_neg g]
      obtain ⟨a, b, c, f⟩ := ih (x + 1)
      rw [e, if_neg g]
      refine ⟨by omega, by omega, fun h => c (by omega), fun y h1 h2 => ?_⟩
      by_cases q : y = x
      · rw [q]; simpa using g
      · exact f y (by omega) h2
def fr (M : Nat → Int32) (st : Int32) (r : List Nat) (c : Nat) : Bool := match r with
  | [] => false
  | t :: _ => bt (M (13 + t)) c && bt st c && !decide (c ∈ r)
def nx (M : Nat → Int32) (st : Int32) : List Nat → Nat → List Nat
  | [], _ => []
  | t :: r, x => if ff (fr M st (t :: r)) (7 - x) x < 7 then ff (fr M st (t :: r)) (7 - x) x :: t :: r else nx M st r (t + 1)
theorem find_M {K4 : St → Int32 → Int32 → Option St} {τ : St} {a b free : Int32} {P : Nat → Bool} (hP : ∀ c, c < 7 → bt free c = P c) : ∀ (d x fu : Nat), x + d = 7 → d < fu → f_X11_goOn_L50 K4 fu τ a b free (nI x) = f_X11_goOn_b72 K4 τ a b (nI (ff P d x)) := by
  intro d
  induction d with
  | zero =>
    intro x fu hx hfu
    obtain ⟨fu, rfl⟩ : ∃ m, fu = m + 1 := ⟨fu - 1, by omega⟩
    have hx : x = 7 := by omega
    subst hx
    show f_X11_goOn_b50 K4 _ τ a b free (nI 7) = _
    unfold f_X11_goOn_b50
    rw [if_pos (by decide)]
    rfl
  | succ d ih =>
    intro x fu hx hfu
    obtain ⟨fu, rfl⟩ : ∃ m, fu = m + 1 := ⟨fu - 1, by omega⟩
    have e : f_X11_goOn_L50 K4 (fu + 1) τ a b free (nI x) = f_X11_goOn_b50 K4 (f_X11_goOn_L50 K4 fu) τ a b free (nI x) := rfl
    rw [e]
    unfold f_X11_goOn_b50
    rw [if_neg (show ¬ (7 : Int32) ≤ nI x from nI_ge (b := 7) (by omega) (by omega)), has_v (show x < 32 by omega), hP x (by omega)]
    by_cases g : P x = true
    · rw [if_pos g, b1, show ff P (d + 1) x = x from by show (if P x = true then x else _) = x; rw [if_pos g]]
    · rw [if_neg g, b0, nI_1, show ff P (d + 1) x = ff P d (x + 1) from by show (if P x = true then x else _) = _; rw [if_neg g]]
      exact ih (x + 1) fu (by omega) (by omega)
/-- all but the row -/
def SR (τ τ' : St) : Prop := (∀ k, k ≠ 7 → τ'.1 k = τ.1 k) ∧ τ'.2.1 = τ.2.1 ∧ ∀ a, a ≠ 5 → τ'.2.2 a = τ.2.2 a
theorem SR.rf (τ : St) : SR τ τ := ⟨fun _ _ => rfl, rfl, fun _ _ => rfl⟩
theorem SR.tr {a b c : St} (h : SR a b) (g : SR b c) : SR a c := ⟨fun k hk => (g.1 k hk).trans (h.1 k hk), g.2.1.trans h.2.1, fun k hk => (g.2.2 k hk).trans (h.2.2 k hk)⟩
theorem SR.i (τ : St) (v : Int32) : SR τ (sI τ 7 v) := ⟨fun k hk => by rw [sI1, if_neg hk], rfl, fun _ _ => rfl⟩
theorem SR.e (τ : St) (i : Nat) (v : Int32) : SR τ (sE τ 5 i v) := ⟨fun _ _ => rfl, rfl, fun a ha => by rw [sE3, if_neg ha]⟩
theorem SR.sm {τ τ' : St} (h : SR τ τ') : SM τ τ' := ⟨h.1 18 (by omega), fun a ha => h.2.2 a (fun e => by subst e; exact absurd ha (by decide)), h.2.1⟩
theorem Rok.cons {c : Nat} {r : List Nat} (h : Rok r) (h1 : c ∉ r) (h2 : c < 7) : Rok (c :: r) := ⟨List.nodup_cons.mpr ⟨h1, h.1⟩, fun x hx => by
  rcases List.mem_cons.mp hx with e | e
  · rw [e]; exact h2
  · exact h.2 x e⟩
theorem fr_no {M : Nat → Int32} {st : Int32} {r : List Nat} {c : Nat} (h : fr M st r c = true) : c ∉ r := by
  cases r with
  | nil => exact fun h => by cases h
  | cons t r =>
    unfold fr at h
    simp only [Bool.and_eq_true, Bool.not_eq_true', decide_eq_false_iff_not] at h
    exact h.2
theorem nx_ok {M : Nat → Int32} {st : Int32} : ∀ (r : List Nat) (x : Nat), Rok r → x ≤ 7 → Rok (nx M st r x) := by
  intro r
  induction r with
  | nil => intro x h _; exact h
  | cons t r ih =>
    intro x h hx
    unfold nx
    by_cases g : ff (fr M st (t :: r)) (7 - x) x < 7
    · rw [if_pos g]
      have := (ff_b (fr M st (t :: r)) (7 - x) x).2.2.1 (by omega)
      exact h.cons (fr_no this) g
    · rw [if_neg g]
      exact ih (t + 1) h.tl (by have := h.2 t (List.mem_cons_self ..); omega)
theorem goOn_L {τ0 : St} : ∀ (r : List Nat) (x fu : Nat) (τ : St), RS τ r → Rok r → x ≤ 7 → r.length + 1 < fu → SR τ0 τ → ∃ τ', f_X11_goOn_L4 fu τ (nI x) 0 = some τ' ∧ RS τ' (nx (τ0.2.2 1) (τ0.1 10) r x) ∧ SR τ0 τ' := by
  intro r
  induction r with
  | nil =>
    intro x fu τ hS hr hx hfu h0
    obtain ⟨fu, rfl⟩ : ∃ m, fu = m + 1 := ⟨fu - 1, by omega⟩
    refine ⟨τ, ?_, hS, h0⟩
    show f_X11_goOn_b4 _ τ (nI x) 0 = _
    unfold f_X11_goOn_b4
    rw [hS.1, if_pos (by decide)]
  | cons t r ih =>
    intro x fu τ hS hr hx hfu h0
    have hl := hr.le
    rw [List.length_cons] at hl hfu
    obtain ⟨fu, rfl⟩ : ∃ m, fu = m + 2 := ⟨fu - 2, by omega⟩
    have ht : t < 7 := hr.2 t (List.mem_cons_self ..)
    obtain ⟨m, u1, u2⟩ := used_M hS hr
    have h7 : τ.1 7 = nI (r.length + 1) := hS.1
    have e5 : τ.2.2 5 r.length = nI t := by
      have := hS.2 r.length (by rw [List.length_cons]; omega)
      rw [List.length_cons, show r.length + 1 - 1 - r.length = 0 by omega] at this
      exact this
    have e13 : (13 : Int32) + nI t = nI (13 + t) := nI_add 13 t
    have eM : τ.2.2 1 = τ0.2.2 1 := h0.2.2 1 (by omega)
    have e10 : τ.1 10 = τ0.1 10 := h0.1 10 (by omega)
    have hP : ∀ c, c < 7 → bt ((τ.2.2 1 (13 + t) &&& τ.1 10) &&& (m ^^^ (-1))) c = fr (τ0.2.2 1) (τ0.1 10) (t :: r) c := by
      intro c hc
      rw [b_and, b_and, b_xor, u2, b_m1 c (by omega), eM, e10]
      unfold fr
      cases decide (c ∈ t :: r) <;> simp
    have e : f_X11_goOn_L4 (fu + 2) τ (nI x) 0 = f_X11_goOn_b4 (f_X11_goOn_L4 (fu + 1)) τ (nI x) 0 := rfl
    rw [e]
    unfold f_X11_goOn_b4
    rw [h7, if_neg (nI_nle (by omega) (by omega)), if_pos rfl, nI_pred, ck_nI (show r.length < 7 by omega) (by omega), cT, nI_clamp (show r.length < 2 ^ 31 by omega), e5, e13, ck_nI (show 13 + t < 84 by omega) (by omega), cT, nI_clamp (show 13 + t < 2 ^ 31 by omega), u1, bs]
    dsimp only
    rw [find_M hP (7 - x) x FU (by omega) (by unfold FU; omega)]
    have nxe : nx (τ0.2.2 1) (τ0.1 10) (t :: r) x = if ff (fr (τ0.2.2 1) (τ0.1 10) (t :: r)) (7 - x) x < 7 then ff (fr (τ0.2.2 1) (τ0.1 10) (t :: r)) (7 - x) x :: t :: r else nx (τ0.2.2 1) (τ0.1 10) r (t + 1) := rfl
    have hf := ff_b (fr (τ0.2.2 1) (τ0.1 10) (t :: r)) (7 - x) x
    rw [nxe]
    generalize ff (fr (τ0.2.2 1) (τ0.1 10) (t :: r)) (7 - x) x = c at hf ⊢
    unfold f_X11_goOn_b72
    by_cases g : c < 7
    · have hc := hf.2.2.1 (by omega)
      have hl2 := (hr.cons (fr_no hc) g).le
      simp only [List.length_cons] at hl2
      have hp := hS.push c
      rw [List.length_cons] at hp
      rw [if_neg (show ¬ (7 : Int32) ≤ nI c from nI_ge (b := 7) g (by omega)), h7, ck_nI (show r.length + 1 < 7 by omega) (by omega), cT, nI_clamp (show r.length + 1 < 2 ^ 31 by omega), nI_1, if_pos g]
      refine ⟨_, ?_, hp, (h0.tr (SR.e τ (r.length + 1) (nI c))).tr (SR.i _ _)⟩
      show f_X11_goOn_b4 _ _ (nI x) 1 = _
      unfold f_X11_goOn_b4
      rw [if_neg (show ¬ (sI (sE τ 5 (r.length + 1) (nI c)) 7 (nI (r.length + 1 + 1))).1 7 ≤ 0 from nI_nle (by omega) (by omega)), if_neg (show ¬ (1 : Int32) = 0 by decide)]
    · rw [if_pos (show (7 : Int32) ≤ nI c from (nle (a := 7) (by omega) (by omega)).mpr (by omega)), h7, nI_pred, ck_nI (show r.length < 7 by omega) (by omega), cT, nI_clamp (show r.length < 2 ^ 31 by omega), e5, nI_1, if_neg g]
      exact ih (t + 1) (fu + 1) _ hS.pop hr.tl (by omega) (by omega) (h0.tr (SR.i τ _))
theorem goOn_M {τ : St} {r : List Nat} (hS : RS τ r) (hr : Rok r) : ∃ τ', f_X11_goOn τ = some τ' ∧ RS τ' (nx (τ.2.2 1) (τ.1 10) r 0) ∧ SR τ τ' := goOn_L r 0 FU τ hS hr (by omega) (by unfold FU; have := hr.le; omega) (SR.rf τ)
