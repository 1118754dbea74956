/-! letters as rows of signs, the last sign first -/
def vL : List Nat → Nat
  | [] => 0
  | c :: l => c + 10 * vL l
def Lg (l : List Nat) : Prop := ∀ c ∈ l, 1 ≤ c ∧ c ≤ 4
theorem Lg.hd {c : Nat} {l : List Nat} (h : Lg (c :: l)) : 1 ≤ c ∧ c ≤ 4 := h c (List.mem_cons_self ..)
theorem Lg.tl {c : Nat} {l : List Nat} (h : Lg (c :: l)) : Lg l := fun x hx => h x (List.mem_cons_of_mem _ hx)
theorem vl_bd : ∀ l : List Nat, Lg l → 9 * vL l + 4 ≤ 4 * 10 ^ l.length := by
  intro l
  induction l with
  | nil => intro _; simp [vL]
  | cons c l ih =>
    intro h
    have h1 := h.hd
    have h2 := ih h.tl
    show 9 * (c + 10 * vL l) + 4 ≤ 4 * 10 ^ (l.length + 1)
    rw [Nat.pow_succ]
    omega
theorem pow6 {n : Nat} (h : n ≤ 6) : 10 ^ n ≤ 1000000 := Nat.pow_le_pow_right (by omega) h
theorem vl_le {l : List Nat} (h : Lg l) (hl : l.length ≤ 6) : vL l ≤ 444444 := by
  have h1 := vl_bd l h
  have h2 := pow6 hl
  omega
theorem vl_ok : ∀ (d : Nat) (l : List Nat), Lg l → l.length ≤ d → okL d (vL l) = true := by
  intro d
  induction d with
  | zero => intro l _ _; rfl
  | succ d ih =>
    intro l h hl
    rw [okL_s]
    cases l with
    | nil => rfl
    | cons c l =>
      have h1 := h.hd
      have e1 : vL (c :: l) % 10 = c := by show (c + 10 * vL l) % 10 = c; omega
      have e2 : vL (c :: l) / 10 = vL l := by show (c + 10 * vL l) / 10 = vL l; omega
      have e0 : ¬ vL (c :: l) = 0 := by show ¬ c + 10 * vL l = 0; omega
      rw [if_neg e0, e1, e2, if_pos h1]
      exact ih l h.tl (by simpa using hl)
theorem Lg.lt {l : List Nat} (h : Lg l) (hl : l.length ≤ 6) : Lt (vL l) := ⟨vl_le h hl, vl_ok 6 l h hl⟩
theorem ok_vl : ∀ (d m : Nat), m < 10 ^ d → okL d m = true → ∃ l : List Nat, l.length ≤ d ∧ Lg l ∧ m = vL l := by
  intro d
  induction d with
  | zero => intro m h _; exact ⟨[], by simp, fun c hc => absurd hc (by simp), show m = 0 by simpa using h⟩
  | succ d ih =>
    intro m h hk
    rw [okL_s] at hk
    by_cases h0 : m = 0
    · exact ⟨[], by simp, fun c hc => absurd hc (by simp), h0⟩
    · rw [if_neg h0] at hk
      by_cases g : 1 ≤ m % 10 ∧ m % 10 ≤ 4
      · rw [if_pos g] at hk
        obtain ⟨l, h1, h2, h3⟩ := ih (m / 10) (by rw [Nat.pow_succ] at h; omega) hk
        refine ⟨m % 10 :: l, by simpa using h1, ?_, ?_⟩
        · intro c hc
          rcases List.mem_cons.mp hc with rfl | hc
          · exact g
          · exact h2 c hc
        · show m = m % 10 + 10 * vL l
          omega
      · rw [if_neg g] at hk; cases hk
theorem Lt.list {m : Nat} (h : Lt m) : ∃ l : List Nat, l.length ≤ 6 ∧ Lg l ∧ m = vL l := ok_vl 6 m (by have := h.1; omega) h.2
theorem vl_inj : ∀ l l' : List Nat, Lg l → Lg l' → vL l = vL l' → l = l' := by
  intro l
  induction l with
  | nil =>
    intro l' _ h' e
    cases l' with
    | nil => rfl
    | cons c l' => have := h'.hd; have e : 0 = c + 10 * vL l' := e; omega
  | cons c l ih =>
    intro l' h h' e
    cases l' with
    | nil => have := h.hd; have e : c + 10 * vL l = 0 := e; omega
    | cons c' l' =>
      have h1 := h.hd
      have h2 := h'.hd
      have e : c + 10 * vL l = c' + 10 * vL l' := e
      have e1 : c = c' := by omega
      have e2 : vL l = vL l' := by omega
      rw [e1, ih l' h.tl h'.tl e2]
def up (c : Nat) : Nat := c % 4 + 1
theorem Lg.map {l : List Nat} (h : Lg l) : Lg (l.map up) := by
  intro c hc
  obtain ⟨x, -, rfl⟩ := List.mem_map.mp hc
  unfold up
  omega
theorem Lg.rev {l : List Nat} (h : Lg l) : Lg l.reverse := fun c hc => h c (List.mem_reverse.mp hc)
theorem Lg.tail {l : List Nat} (h : Lg l) : Lg l.tail := fun c hc => h c (List.mem_of_mem_tail hc)
section ONE
variable {c : Nat} {l : List Nat}
theorem vc_r (h : 1 ≤ c ∧ c ≤ 4) (hb : vL (c :: l) < 2 ^ 31) : nI (vL (c :: l)) - nI (vL (c :: l)) / 10 * 10 = nI c := by
  rw [r10 hb]
  congr 1
  show (c + 10 * vL l) % 10 = c
  omega
theorem vc_d (h : 1 ≤ c ∧ c ≤ 4) (hb : vL (c :: l) < 2 ^ 31) : nI (vL (c :: l)) / 10 = nI (vL l) := by
  rw [d10 hb]
  congr 1
  show (c + 10 * vL l) / 10 = vL l
  omega
theorem vc_p (h : 1 ≤ c ∧ c ≤ 4) (hb : vL (c :: l) < 2 ^ 31) : ¬ nI (vL (c :: l)) ≤ 0 := nI_nle (by show 0 < c + 10 * vL l; omega) hb
end ONE
theorem vl_tl {c : Nat} {l : List Nat} (h : vL (c :: l) < 2 ^ 31) : vL l < 2 ^ 31 := by
  have h : c + 10 * vL l < 2 ^ 31 := h
  omega
theorem push (p : List Nat) (c : Nat) : nI (vL p) * 10 + nI c = nI (vL (c :: p)) := by
  rw [show (10 : Int32) = nI 10 from rfl, pk_mul, nI_add]
  congr 1
  show vL p * 10 + c = c + 10 * vL p
  omega
theorem pushM (p : List Nat) (c : Nat) : (10 : Int32) * nI (vL p) + nI c = nI (vL (c :: p)) := by
  rw [show (10 : Int32) = nI 10 from rfl, pk_mul, nI_add]
  congr 1
  show 10 * vL p + c = c + 10 * vL p
  omega
theorem turn_C : ∀ (l p : List Nat) (k n : Nat), Lg l → vL l < 2 ^ 31 → k + l.length ≤ 6 → l.length < n → f_X3_turned_L6 n (nI (vL p)) (nI (vL l)) (nI k) = some (nI (vL (l.reverse ++ p))) := by
  intro l
  induction l with
  | nil =>
    intro p k n _ _ hk hn
    obtain ⟨n, rfl⟩ : ∃ m, n = m + 1 := ⟨n - 1, by omega⟩
    show f_X3_turned_b6 _ (nI (vL p)) (nI 0) (nI k) = _
    unfold f_X3_turned_b6 f_X3_turned_b37
    by_cases h : (6 : Int32) ≤ nI k
    · rw [if_pos h]; rfl
    · rw [if_neg h, if_pos (by decide)]; rfl
  | cons c l ih =>
    intro p k n h hb hk hn
    simp only [List.length_cons] at hk hn
    obtain ⟨n, rfl⟩ : ∃ m, n = m + 1 := ⟨n - 1, by omega⟩
    show f_X3_turned_b6 _ (nI (vL p)) (nI (vL (c :: l))) (nI k) = _
    unfold f_X3_turned_b6
    rw [if_neg (show ¬ (6 : Int32) ≤ nI k from nI_ge (b := 6) (by omega) (by omega)), if_neg (vc_p h.hd hb), vc_r h.hd hb, vc_d h.hd hb, push, nI_1, ih (c :: p) (k + 1) n h.tl (vl_tl hb) (by omega) (by omega), List.reverse_cons, List.append_assoc]
    rfl
theorem turn_M : ∀ (l p : List Nat) (n : Nat), Lg l → vL l < 2 ^ 31 → l.length < n → f_X11_turned_L4 n (nI (vL p)) (nI (vL l)) = some (nI (vL (l.reverse ++ p))) := by
  intro l
  induction l with
  | nil =>
    intro p n _ _ hn
    obtain ⟨n, rfl⟩ : ∃ m, n = m + 1 := ⟨n - 1, by omega⟩
    show f_X11_turned_b4 _ (nI (vL p)) (nI 0) = _
    unfold f_X11_turned_b4
    rw [if_pos (by decide)]
    rfl
  | cons c l ih =>
    intro p n h hb hn
    simp only [List.length_cons] at hn
    obtain ⟨n, rfl⟩ : ∃ m, n = m + 1 := ⟨n - 1, by omega⟩
    show f_X11_turned_b4 _ (nI (vL p)) (nI (vL (c :: l))) = _
    unfold f_X11_turned_b4
    rw [if_neg (vc_p h.hd hb), vc_r h.hd hb, vc_d h.hd hb, pushM, ih (c :: p) n h.tl (vl_tl hb) (by omega), List.reverse_cons, List.append_assoc]
    rfl
theorem turned_C {l : List Nat} (h : Lg l) (hl : l.length ≤ 6) : f_X3_turned (nI (vL l)) = some (nI (vL l.reverse)) := by
  have := turn_C l [] 0 FU h (by have := vl_le h hl; omega) (by omega) (by unfold FU; omega)
  rw [List.append_nil] at this
  exact this
theorem turned_M {l : List Nat} (h : Lg l) (hl : l.length ≤ 6) : f_X11_turned (nI (vL l)) = some (nI (vL l.reverse)) := by
  have := turn_M l [] FU h (by have := vl_le h hl; omega) (by unfold FU; omega)
  rw [List.append_nil] at this
  exact this
theorem up_I {c : Nat} (h : c < 2 ^ 31) : nI c - nI c / 4 * 4 = nI (c % 4) := pk_rem (d := 4) h (by omega) (by omega)
theorem more_M : ∀ (l p : List Nat) (n : Nat), Lg l → vL l < 2 ^ 31 → l.length < n → f_X11_oneMore_L7 n (nI (vL p)) (nI (vL l)) = some (nI (vL ((l.map up).reverse ++ p))) := by
  intro l
  induction l with
  | nil =>
    intro p n _ _ hn
    obtain ⟨n, rfl⟩ : ∃ m, n = m + 1 := ⟨n - 1, by omega⟩
    show f_X11_oneMore_b7 _ (nI (vL p)) (nI 0) = _
    unfold f_X11_oneMore_b7
    rw [if_pos (by decide)]
    rfl
  | cons c l ih =>
    intro p n h hb hn
    simp only [List.length_cons] at hn
    obtain ⟨n, rfl⟩ : ∃ m, n = m + 1 := ⟨n - 1, by omega⟩
    show f_X11_oneMore_b7 _ (nI (vL p)) (nI (vL (c :: l))) = _
    unfold f_X11_oneMore_b7
    have e : (10 : Int32) * nI (vL p) + nI (c % 4) + 1 = nI (vL (up c :: p)) := by
      rw [show (10 : Int32) = nI 10 from rfl, pk_mul, nI_add, nI_1]
      congr 1
      show 10 * vL p + c % 4 + 1 = (c % 4 + 1) + 10 * vL p
      omega
    rw [if_neg (vc_p h.hd hb), vc_r h.hd hb, vc_d h.hd hb, up_I (by have := h.hd; omega), e, ih (up c :: p) n h.tl (vl_tl hb) (by omega), List.map_cons, List.reverse_cons, List.append_assoc]
    rfl
theorem oneMore_M {l : List Nat} (h : Lg l) (hl : l.length ≤ 6) : f_X11_oneMore (nI (vL l)) = some (nI (vL (l.map up))) := by
  unfold f_X11_oneMore
  rw [turned_M h hl, bs]
  have := more_M l.reverse [] FU h.rev (by have := vl_le h.rev (by simpa using hl); omega) (by unfold FU; simp; omega)
  rw [List.append_nil, List.map_reverse, List.reverse_reverse] at this
  exact this
theorem raise_C : ∀ (l : List Nat) (a p k n : Nat), Lg l → vL l < 2 ^ 31 → k + l.length ≤ 6 → l.length < n → f_X3_raised_L9 n (nI a) (nI (vL l)) (nI p) (nI k) = some (nI (a + p * vL (l.map up))) := by
  intro l
  induction l with
  | nil =>
    intro a p k n _ _ hk hn
    obtain ⟨n, rfl⟩ : ∃ m, n = m + 1 := ⟨n - 1, by omega⟩
    show f_X3_raised_b9 _ (nI a) (nI 0) (nI p) (nI k) = some (nI (a + p * 0))
    unfold f_X3_raised_b9 f_X3_raised_b49
    by_cases h : (6 : Int32) ≤ nI k
    · rw [if_pos h]; rfl
    · rw [if_neg h, if_pos (by decide)]; rfl
  | cons c l ih =>
    intro a p k n h hb hk hn
    simp only [List.length_cons] at hk hn
    obtain ⟨n, rfl⟩ : ∃ m, n = m + 1 := ⟨n - 1, by omega⟩
    show f_X3_raised_b9 _ (nI a) (nI (vL (c :: l))) (nI p) (nI k) = _
    unfold f_X3_raised_b9
    have e : nI a + (nI (c % 4) + 1) * nI p = nI (a + up c * p) := by rw [nI_1, pk_mul, nI_add]; rfl
    have e2 : nI p * 10 = nI (p * 10) := pk_mul p 10
    rw [if_neg (show ¬ (6 : Int32) ≤ nI k from nI_ge (b := 6) (by omega) (by omega)), if_neg (vc_p h.hd hb), vc_r h.hd hb, vc_d h.hd hb, up_I (by have := h.hd; omega), e, e2, nI_1, ih (a + up c * p) (p * 10) (k + 1) n h.tl (vl_tl hb) (by omega) (by omega), List.map_cons]
    congr 2
    show a + up c * p + p * 10 * vL (l.map up) = a + p * (up c + 10 * vL (l.map up))
    rw [Nat.mul_add, Nat.mul_assoc, Nat.mul_comm (up c) p, Nat.add_assoc]
theorem raised_C {l : List Nat} (h : Lg l) (hl : l.length ≤ 6) : f_X3_raised (nI (vL l)) = some (nI (vL (l.map up))) := by
  have := raise_C l 0 1 0 FU h (by have := vl_le h hl; omega) (by omega) (by unfold FU; omega)
  rw [Nat.zero_add, Nat.one_mul] at this
  exact this
