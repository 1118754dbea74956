/-! the soonest row, in the reference and in the class -/
theorem EM.of {M : Nat → Int32} {s : Nat} {l : List Nat} {τ τ' : St} (h1 : τ'.1 11 = τ.1 11) (h2 : τ'.1 12 = τ.1 12) (h3 : τ'.1 13 = τ.1 13) : ∀ {b : Option (List Nat)}, EM M s l τ b → EM M s l τ' b := by
  intro b h
  cases b with
  | none => exact ⟨h1.trans h.1, h2.trans h.2.1, h3.trans h.2.2⟩
  | some r => exact ⟨h1.trans h.1, h2.trans h.2.1, h3.trans h.2.2⟩
/-- all but the row, what is read, the soonest -/
def SQ (τ τ' : St) : Prop := (∀ k, k ≠ 7 → k ≠ 8 → k ≠ 9 → k ≠ 11 → k ≠ 12 → k ≠ 13 → τ'.1 k = τ.1 k) ∧ τ'.2.1 = τ.2.1 ∧ ∀ a, a ≠ 5 → τ'.2.2 a = τ.2.2 a
theorem SQ.rf (τ : St) : SQ τ τ := ⟨fun _ _ _ _ _ _ _ => rfl, rfl, fun _ _ => rfl⟩
theorem SQ.tr {a b c : St} (h : SQ a b) (g : SQ b c) : SQ a c := ⟨fun k h1 h2 h3 h4 h5 h6 => (g.1 k h1 h2 h3 h4 h5 h6).trans (h.1 k h1 h2 h3 h4 h5 h6), g.2.1.trans h.2.1, fun k hk => (g.2.2 k hk).trans (h.2.2 k hk)⟩
theorem SR.sq {τ τ' : St} (h : SR τ τ') : SQ τ τ' := ⟨fun k h1 _ _ _ _ _ => h.1 k h1, h.2.1, h.2.2⟩
theorem soon_L {n nn rn un se g : Nat} (hg : g < 7) {l : List Nat} (hlg : Lg l) (hll : l.length ≤ 6) (W : Bool) {τ0 : St} (hI : Inv (τ0.2.2 1) n nn rn un se) : ∀ (L : List (List Nat)) (r : List Nat) (fu : Nat) (b : Option (List Nat)) (τ : St), here (τ0.2.2 1) (τ0.1 10) r = L → L.length < fu → RS τ r → Rok r → (∀ r' ∈ L, ∀ t ∈ r', t < n) → (∀ r', b = some r' → r'.length ≤ 7) → EM (τ0.2.2 1) se l τ b → SQ τ0 τ → ∃ τ', f_X11_laySoonest_L26 fu τ (nI g) (nI (vL l)) (if W = true then 1 else 0) = some τ' ∧ EM (τ0.2.2 1) se l τ' (bestB (τ0.2.2 1) se g l W b L) ∧ SQ τ0 τ' := by
  have hn := hI.1.2
  intro L
  induction L with
  | nil =>
    intro r fu b τ hh hfu hS hr hL hb hE h0
    obtain ⟨fu, rfl⟩ : ∃ m, fu = m + 1 := ⟨fu - 1, by omega⟩
    have hr0 : r = [] := by
      unfold here at hh
      by_cases q : r = []
      · exact q
      · rw [if_neg q] at hh; cases hh
    subst hr0
    refine ⟨τ, ?_, hE, h0⟩
    show f_X11_laySoonest_b26 _ τ _ _ _ = _
    unfold f_X11_laySoonest_b26
    rw [hS.1, if_pos (by decide)]
  | cons r1 L ih =>
    intro r fu b τ hh hfu hS hr hL hb hE h0
    rw [List.length_cons] at hfu
    obtain ⟨fu, rfl⟩ : ∃ m, fu = m + 1 := ⟨fu - 1, by omega⟩
    have hne : r ≠ [] := fun q => by unfold here at hh; rw [if_pos q] at hh; cases hh
    rw [here_nx _ _ hr hne] at hh
    injection hh with e1 e2
    subst e1
    have hl := hr.le
    have hpos : 0 < r.length := List.length_pos_iff.mpr hne
    have hrn := hL r (List.mem_cons_self ..)
    have r7 : ∀ t ∈ r, t < 7 := hr.2
    have eM : τ.2.2 1 = τ0.2.2 1 := h0.2.2 1 (by omega)
    have hI1 : Inv (τ.2.2 1) n nn rn un se := by rw [eM]; exact hI
    have be : bestB (τ0.2.2 1) se g l W b (r :: L) = bestB (τ0.2.2 1) se g l W (stepB (τ0.2.2 1) se g l W b r) L := rfl
    rw [be]
    -- going on, from any state with the same row laid
    have on : ∀ (τ1 : St) (b1 : Option (List Nat)), RS τ1 r → SQ τ0 τ1 → (∀ r', b1 = some r' → r'.length ≤ 7) → EM (τ0.2.2 1) se l τ1 b1 → ∃ τ', f_X11_laySoonest_b108 (f_X11_laySoonest_L26 fu) τ1 (nI g) (nI (vL l)) (if W = true then 1 else 0) = some τ' ∧ EM (τ0.2.2 1) se l τ' (bestB (τ0.2.2 1) se g l W b1 L) ∧ SQ τ0 τ' := by
      intro τ1 b1 hS1 h01 hb1 hE1
      obtain ⟨τ2, g1, g2, g3⟩ := goOn_M hS1 hr
      rw [h01.2.2 1 (by omega), h01.1 10 (by omega) (by omega) (by omega) (by omega) (by omega) (by omega)] at g2
      unfold f_X11_laySoonest_b108
      rw [g1, bs]
      exact ih _ fu b1 τ2 e2 (by omega) g2 (nx_ok r 0 hr (by omega)) (fun r' h' => hL r' (List.mem_cons_of_mem _ h')) hb1 (hE1.of (g3.1 11 (by omega)) (g3.1 12 (by omega)) (g3.1 13 (by omega))) (h01.tr g3.sq)
    have e : f_X11_laySoonest_L26 (fu + 1) τ (nI g) (nI (vL l)) (if W = true then 1 else 0) = f_X11_laySoonest_b26 (f_X11_laySoonest_L26 fu) τ (nI g) (nI (vL l)) (if W = true then 1 else 0) := rfl
    rw [e]
    unfold f_X11_laySoonest_b26
    rw [hS.1, if_neg (nI_nle hpos (by omega)), ends_M hS hr hne g hg, bs]
    dsimp only
    by_cases q : isE g r = true
    · rw [if_pos q, if_neg (show ¬ (1 : Int32) = 0 by decide)]
      obtain ⟨τ1, t1, t2, t3, t4, t5⟩ := readBy_M hI1 (hS.laid hn hr.1 hrn hne) hI.2.1.2 hlg hll
      rw [rd_num7 r7 hl, eM] at t4 t5
      have s1 : τ.2.2 1 2 = nI se := hI1.2.1.1
      have hS1 : RS τ1 r := ⟨(t2 7 (by omega) (by omega)).trans hS.1, fun j hj => by rw [t3]; exact hS.2 j hj⟩
      have h01 : SQ τ0 τ1 := h0.tr ⟨fun k h1 h2 h3 _ _ _ => t2 k h2 h3, by rw [t3], fun a _ => by rw [t3]⟩
      have hE1 : EM (τ0.2.2 1) se l τ1 b := hE.of (t2 11 (by omega) (by omega)) (t2 12 (by omega) (by omega)) (t2 13 (by omega) (by omega))
      obtain ⟨G1, G2, G3⟩ := rdL_good (M := τ0.2.2 1) (s := se) hlg hll r
      rw [s1, t1, bs]
      -- kept or not, once it is sooner
      have kp : sooner (τ0.2.2 1) se l (rdL (τ0.2.2 1) se l r).2 b = true → ∃ τ', f_X11_laySoonest_b71 (f_X11_laySoonest_L26 fu) τ1 (nI g) (nI (vL l)) (if W = true then 1 else 0) = some τ' ∧ EM (τ0.2.2 1) se l τ' (bestB (τ0.2.2 1) se g l W (stepB (τ0.2.2 1) se g l W b r) L) ∧ SQ τ0 τ' := by
        intro hso
        have put : ∃ τ', f_X11_laySoonest_b84 (f_X11_laySoonest_L26 fu) τ1 (nI g) (nI (vL l)) (if W = true then 1 else 0) = some τ' ∧ EM (τ0.2.2 1) se l τ' (bestB (τ0.2.2 1) se g l W (some r) L) ∧ SQ τ0 τ' := by
          unfold f_X11_laySoonest_b84
          rw [num_M hS1 hl, bs]
          refine on _ (some r) hS1 (h01.tr ⟨fun k h1 h2 h3 h4 h5 h6 => ?_, rfl, fun _ _ => rfl⟩) (fun r' h' => by cases h'; exact hl) ⟨rfl, ?_, ?_⟩
          · rw [sI1, if_neg h6, sI1, if_neg h5, sI1, if_neg h4]
          · exact t5
          · exact t4
        unfold f_X11_laySoonest_b71 stepB
        rw [q, hso]
        cases W with
        | false =>
          rw [if_pos (show (if false = true then (1 : Int32) else 0) = 0 from rfl), if_pos (show (true && okQ l false (rdL (τ0.2.2 1) se l r).1 && true) = true from rfl)]
          exact put
        | true =>
          rw [if_neg (show ¬ (if true = true then (1 : Int32) else 0) = 0 by decide), t4]
          by_cases w : nI (vL (rdL (τ0.2.2 1) se l r).1) = nI (vL l)
          · rw [if_pos w, if_pos (show (true && okQ l true (rdL (τ0.2.2 1) se l r).1 && true) = true by unfold okQ; simp [w])]
            exact put
          · rw [if_neg w, if_neg (show ¬ (true && okQ l true (rdL (τ0.2.2 1) se l r).1 && true) = true by unfold okQ; simp [w])]
            exact on τ1 b hS1 h01 hb hE1
      cases b with
      | none =>
        rw [if_pos (show τ1.1 12 = -1 from hE1.2.1)]
        exact kp rfl
      | some b' =>
        have hb' := hb b' rfl
        have G4 := (rdL_good (M := τ0.2.2 1) (s := se) hlg hll b').2.2
        have h12 : τ1.1 12 = nI (rdL (τ0.2.2 1) se l b').2 := hE1.2.1
        have hm1 : ¬ nI (rdL (τ0.2.2 1) se l b').2 = -1 := fun z => by
          have : (nI (rdL (τ0.2.2 1) se l b').2).toInt = -1 := by rw [z]; rfl
          rw [nI_toInt (by omega)] at this
          omega
        rw [h12, if_neg hm1, t5]
        by_cases w : (rdL (τ0.2.2 1) se l r).2 < (rdL (τ0.2.2 1) se l b').2
        · rw [if_neg (show ¬ nI (rdL (τ0.2.2 1) se l b').2 ≤ nI (rdL (τ0.2.2 1) se l r).2 from fun z => absurd ((nle (by omega) (by omega)).mp z) (by omega))]
          exact kp (decide_eq_true w)
        · rw [if_pos ((nle (by omega) (by omega)).mpr (by omega))]
          have : stepB (τ0.2.2 1) se g l W (some b') r = some b' := by
            unfold stepB
            rw [if_neg]
            intro z
            simp only [Bool.and_eq_true] at z
            exact w (of_decide_eq_true z.2)
          rw [this]
          exact on τ1 (some b') hS1 h01 hb hE1
    · rw [if_neg q, if_pos rfl]
      have : stepB (τ0.2.2 1) se g l W b r = b := by
        unfold stepB
        rw [if_neg]
        intro z
        simp only [Bool.and_eq_true] at z
        exact q z.1.1
      rw [this]
      exact on τ b hS h0 hb hE
theorem soon_M {τ : St} {n nn rn un se : Nat} (hI : Inv (τ.2.2 1) n nn rn un se) {a g : Nat} (ha : a < n) (hg : g < n) {l : List Nat} (hlg : Lg l) (hll : l.length ≤ 6) (W : Bool) : ∃ τ', f_X11_laySoonest τ (nI a) (nI g) (nI (vL l)) (if W = true then 1 else 0) = some τ' ∧ EM (τ.2.2 1) se l τ' (if bt (τ.2.2 1 1) a = true then none else bestB (τ.2.2 1) se g l W none (pre (τ.2.2 1) (stn n (τ.2.2 1 1)) 7 [a])) ∧ SM τ τ' ∧ τ'.2.2 1 = τ.2.2 1 := by
  have hn := hI.1.2
  obtain ⟨τ1, q1, q2, q3, q4, q5, q6⟩ := first_M (τ := sI (sI (sI τ 11 (-1)) 12 (-1)) 13 (-1)) hI.1.1 hn ha (τ.2.2 1 1)
  have m1 : τ1.2.2 1 = τ.2.2 1 := q6 1 (by omega)
  have hI1 : Inv (τ1.2.2 1) n nn rn un se := by rw [m1]; exact hI
  have hE1 : EM (τ1.2.2 1) se l τ1 none := ⟨q4 11 (by omega) (by omega), q4 12 (by omega) (by omega), q4 13 (by omega) (by omega)⟩
  have hsm : SM τ τ1 := ⟨by rw [q4 18 (by omega) (by omega)]; rfl, fun a ha => q6 a (fun e => by subst e; exact absurd ha (by decide)), q5⟩
  have hs : ∀ c, bt (stn n (τ.2.2 1 1)) c = true → c < n := fun c hb => by
    rw [stn_b hn] at hb
    simp only [Bool.and_eq_true, decide_eq_true_eq] at hb
    exact hb.1
  have sq : ∀ {τ' : St}, SQ τ1 τ' → SM τ τ' ∧ τ'.2.2 1 = τ.2.2 1 := fun {τ'} h => ⟨hsm.tr ⟨h.1 18 (by omega) (by omega) (by omega) (by omega) (by omega) (by omega), fun a ha => h.2.2 a (fun e => by subst e; exact absurd ha (by decide)), h.2.1⟩, (h.2.2 1 (by omega)).trans m1⟩
  unfold f_X11_laySoonest
  rw [q1, bs]
  by_cases hf : bt (τ.2.2 1 1) a = true
  · rw [if_pos hf] at q3 ⊢
    obtain ⟨τ2, z1, z2, z3⟩ := soon_L (g := g) (by omega) hlg hll W hI1 [] [] FU none τ1 rfl (by unfold FU; simp) q3 ⟨by simp, fun x hx => by cases hx⟩ (fun r' h' => by cases h') (fun r' h' => by cases h') hE1 (SQ.rf τ1)
    rw [m1] at z2
    exact ⟨τ2, z1, z2, sq z3⟩
  · rw [if_neg hf] at q3 ⊢
    have sa : bt (stn n (τ.2.2 1 1)) a = true := by
      have : bt (τ.2.2 1 1) a = false := by simpa using hf
      rw [stn_b hn, this, decide_eq_true ha]; rfl
    obtain ⟨τ2, z1, z2, z3⟩ := soon_L (g := g) (by omega) hlg hll W hI1 (pre (τ1.2.2 1) (τ1.1 10) 7 [a]) [a] FU none τ1 (here_1 _ _ a) (by unfold FU; exact pre_fu _ _ a) q3 (rok_1 (by omega)) (fun r' h' t ht => by
      rw [m1, q2] at h'
      exact hs t ((pre_row 7 [a] r' (.one sa) h').sd t ht)) (fun r' h' => by cases h') hE1 (SQ.rf τ1)
    rw [m1, q2] at z2
    exact ⟨τ2, z1, z2, sq z3⟩
