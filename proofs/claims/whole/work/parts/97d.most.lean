/-! most, in the reference, and both -/
def S6 (τ τ' : St) : Prop := (∀ k, k ≠ 7 → τ'.1 k = τ.1 k) ∧ τ'.2.1 = τ.2.1 ∧ ∀ a, a ≠ 5 → a ≠ 6 → τ'.2.2 a = τ.2.2 a
theorem S6.rf (τ : St) : S6 τ τ := ⟨fun _ _ => rfl, rfl, fun _ _ _ => rfl⟩
theorem S6.tr {a b c : St} (h : S6 a b) (g : S6 b c) : S6 a c := ⟨fun k hk => (g.1 k hk).trans (h.1 k hk), g.2.1.trans h.2.1, fun k h1 h2 => (g.2.2 k h1 h2).trans (h.2.2 k h1 h2)⟩
theorem SR.s6 {τ τ' : St} (h : SR τ τ') : S6 τ τ' := ⟨h.1, h.2.1, fun a h1 _ => h.2.2 a h1⟩
def ind (p : Prop) [Decidable p] : Int32 := if p then 1 else 0
theorem row_L {K25 K44 : St → Int32 → Option (Int32 × St)} {a : Int32} {r : List Nat} (hr : Rok r) (h2 : 2 ≤ r.length) : ∀ (d fu : Nat) (τ : St), RS τ r → d ≤ r.length → d < fu → ∃ τ', f_X11_most_L53 K25 K44 fu τ a (nI (r.length - d)) = f_X11_most_b90 K25 K44 τ' a ∧ (∀ t, τ'.2.2 6 t = τ.2.2 6 t + ind (t ∈ r.take d)) ∧ τ'.1 = τ.1 ∧ τ'.2.1 = τ.2.1 ∧ ∀ x, x ≠ 6 → τ'.2.2 x = τ.2.2 x := by
  have hl := hr.le
  intro d
  induction d with
  | zero =>
    intro fu τ hS hd hfu
    obtain ⟨fu, rfl⟩ : ∃ m, fu = m + 1 := ⟨fu - 1, by omega⟩
    refine ⟨τ, ?_, fun t => ?_, rfl, rfl, fun _ _ => rfl⟩
    · show f_X11_most_b53 K25 K44 _ τ a (nI (r.length - 0)) = _
      unfold f_X11_most_b53
      rw [hS.1, if_pos ((nle (by omega) (by omega)).mpr (by omega))]
    · rw [List.take_zero, show ind (t ∈ ([] : List Nat)) = 0 from if_neg (by simp), Int32.add_zero]
  | succ d ih =>
    intro fu τ hS hd hfu
    obtain ⟨fu, rfl⟩ : ∃ m, fu = m + 1 := ⟨fu - 1, by omega⟩
    have hg : r.getD d 0 = r[d] := by
      rw [List.getD_eq_getElem?_getD, List.getElem?_eq_getElem (by omega)]
      rfl
    have he : r.getD d 0 < 7 := by
      rw [hg]
      exact hr.2 _ (List.getElem_mem ..)
    have tk : r.take (d + 1) = r.take d ++ [r.getD d 0] := by
      rw [hg, List.take_succ_eq_append_getElem (by omega)]
    have nd : (r.take (d + 1)).Nodup := hr.1.sublist (List.take_sublist ..)
    have hn : r.getD d 0 ∉ r.take d := by
      rw [tk] at nd
      intro hm
      exact (List.nodup_append.mp nd).2.2 _ hm _ (List.mem_singleton.mpr rfl) rfl
    have hS1 : RS (sE τ 6 (r.getD d 0) (τ.2.2 6 (r.getD d 0) + 1)) r := ⟨hS.1, fun j hj => hS.2 j hj⟩
    obtain ⟨τ', z1, z2, z3, z4, z5⟩ := ih fu (sE τ 6 (r.getD d 0) (τ.2.2 6 (r.getD d 0) + 1)) hS1 (by omega) (by omega)
    refine ⟨τ', ?_, fun t => ?_, z3, z4, fun x hx => (z5 x hx).trans (by rw [sE3, if_neg hx])⟩
    · rw [← z1]
      show f_X11_most_b53 K25 K44 (f_X11_most_L53 K25 K44 fu) τ a (nI (r.length - (d + 1))) = _
      unfold f_X11_most_b53
      rw [hS.1, if_neg (show ¬ nI r.length ≤ nI (r.length - (d + 1)) from fun z => absurd ((nle (by omega) (by omega)).mp z) (by omega)), if_neg (show ¬ nI r.length ≤ 1 from fun z => absurd ((nle (b := 1) (by omega) (by omega)).mp z) (by omega)), ck_nI (show r.length - (d + 1) < 7 by omega) (by omega), cT, nI_clamp (show r.length - (d + 1) < 2 ^ 31 by omega), hS.2 _ (by omega), show r.length - 1 - (r.length - (d + 1)) = d by omega, ck_nI he (by omega), cT, cT, nI_clamp (show r.getD d 0 < 2 ^ 31 by omega), nI_1, show r.length - (d + 1) + 1 = r.length - d by omega]
    · have e6 : (sE τ 6 (r.getD d 0) (τ.2.2 6 (r.getD d 0) + 1)).2.2 6 t = if t = r.getD d 0 then τ.2.2 6 (r.getD d 0) + 1 else τ.2.2 6 t := rfl
      rw [z2 t, e6, tk]
      unfold ind
      by_cases g : t = r.getD d 0
      · rw [if_pos g, if_neg (g ▸ hn), if_pos (by rw [g]; simp), g, Int32.add_zero]
      · rw [if_neg g]
        by_cases w : t ∈ r.take d
        · rw [if_pos w, if_pos (List.mem_append_left _ w)]
        · rw [if_neg w, if_neg (fun z => (List.mem_append.mp z).elim w (fun y => g (List.mem_singleton.mp y)))]
def onP (t : Nat) (r : List Nat) : Bool := decide (t ∈ r) && decide (2 ≤ r.length)
theorem rows_L {K25 : St → Int32 → Option (Int32 × St)} {a : Nat} {τ0 : St} : ∀ (L : List (List Nat)) (r : List Nat) (fu : Nat) (τ : St), here (τ0.2.2 1) (τ0.1 10) r = L → L.length < fu → RS τ r → Rok r → S6 τ0 τ → ∃ τ', f_X11_most_L44 K25 fu τ (nI a) = K25 τ' (nI (a + 1)) ∧ (∀ t, τ'.2.2 6 t = τ.2.2 6 t + nI (L.countP (onP t))) ∧ S6 τ0 τ' := by
  intro L
  induction L with
  | nil =>
    intro r fu τ hh hfu hS hr h0
    obtain ⟨fu, rfl⟩ : ∃ m, fu = m + 1 := ⟨fu - 1, by omega⟩
    have hr0 : r = [] := by
      unfold here at hh
      by_cases q : r = []
      · exact q
      · rw [if_neg q] at hh; cases hh
    subst hr0
    refine ⟨τ, ?_, fun t => (Int32.add_zero _).symm, h0⟩
    show f_X11_most_b44 K25 _ τ (nI a) = _
    unfold f_X11_most_b44
    rw [hS.1, if_pos (by decide), nI_1]
  | cons r1 L ih =>
    intro r fu τ hh hfu hS hr h0
    rw [List.length_cons] at hfu
    obtain ⟨fu, rfl⟩ : ∃ m, fu = m + 1 := ⟨fu - 1, by omega⟩
    have hne : r ≠ [] := fun q => by unfold here at hh; rw [if_pos q] at hh; cases hh
    rw [here_nx _ _ hr hne] at hh
    injection hh with e1 e2
    subst e1
    have hl := hr.le
    have hpos : 0 < r.length := List.length_pos_iff.mpr hne
    have on : ∀ τ1, RS τ1 r → S6 τ0 τ1 → (∀ t, τ1.2.2 6 t = τ.2.2 6 t + nI (if onP t r = true then 1 else 0)) → ∃ τ', f_X11_most_b90 K25 (f_X11_most_L44 K25 fu) τ1 (nI a) = K25 τ' (nI (a + 1)) ∧ (∀ t, τ'.2.2 6 t = τ.2.2 6 t + nI ((r :: L).countP (onP t))) ∧ S6 τ0 τ' := by
      intro τ1 hS1 h01 h6
      obtain ⟨τ2, g1, g2, g3⟩ := goOn_M hS1 hr
      rw [h01.2.2 1 (by omega) (by omega), h01.1 10 (by omega)] at g2
      obtain ⟨τ', z1, z2, z3⟩ := ih _ fu τ2 e2 (by omega) g2 (nx_ok r 0 hr (by omega)) (h01.tr g3.s6)
      refine ⟨τ', ?_, fun t => ?_, z3⟩
      · unfold f_X11_most_b90
        rw [g1, bs]
        exact z1
      · rw [z2 t, g3.2.2 6 (by omega), h6 t, Int32.add_assoc, nI_add, List.countP_cons, Nat.add_comm (L.countP (onP t))]
    have e : f_X11_most_L44 K25 (fu + 1) τ (nI a) = f_X11_most_b44 K25 (f_X11_most_L44 K25 fu) τ (nI a) := rfl
    rw [e]
    unfold f_X11_most_b44
    rw [hS.1, if_neg (nI_nle hpos (by omega))]
    by_cases h2 : 2 ≤ r.length
    · obtain ⟨τ1, y1, y2, y3, y4, y5⟩ := row_L (K25 := K25) (K44 := f_X11_most_L44 K25 fu) (a := nI a) hr h2 r.length FU τ hS (Nat.le_refl _) (by unfold FU; omega)
      rw [Nat.sub_self] at y1
      have y1 : f_X11_most_L53 K25 (f_X11_most_L44 K25 fu) FU τ (nI a) 0 = _ := y1
      rw [y1]
      refine on τ1 ⟨by rw [y3]; exact hS.1, fun j hj => by rw [y5 5 (by omega)]; exact hS.2 j hj⟩ (h0.tr ⟨fun k _ => by rw [y3], y4, fun x _ hx => y5 x hx⟩) (fun t => ?_)
      rw [y2 t, List.take_length]
      unfold ind onP
      by_cases w : t ∈ r
      · rw [if_pos w, if_pos (by simp [w, h2])]; rfl
      · rw [if_neg w, if_neg (by simp [w])]; rfl
    · have y1 : f_X11_most_L53 K25 (f_X11_most_L44 K25 fu) FU τ (nI a) 0 = f_X11_most_b90 K25 (f_X11_most_L44 K25 fu) τ (nI a) := by
        obtain ⟨m, hF⟩ : ∃ m, FU = m + 1 := ⟨999999, rfl⟩
        rw [hF]
        show f_X11_most_b53 K25 _ _ τ (nI a) 0 = _
        unfold f_X11_most_b53
        rw [hS.1, if_neg (nI_nle hpos (by omega)), if_pos (show nI r.length ≤ 1 from (nle (b := 1) (by omega) (by omega)).mpr (by omega))]
      rw [y1]
      refine on τ hS h0 (fun t => ?_)
      unfold onP
      rw [if_neg (by simp [h2]), show nI 0 = 0 from rfl, Int32.add_zero]
theorem all_s (M : Nat → Int32) (st : Int32) (a : Nat) : allR M st (a + 1) = allR M st a ++ (if bt st a = true then pre M st 7 [a] else []) := by
  unfold allR
  rw [List.range_succ, List.flatMap_append]
  congr 1
  rw [List.flatMap_cons, List.flatMap_nil, List.append_nil]
def S7 (τ τ' : St) : Prop := (∀ k, k ≠ 7 → k ≠ 10 → τ'.1 k = τ.1 k) ∧ τ'.2.1 = τ.2.1 ∧ ∀ a, a ≠ 5 → a ≠ 6 → τ'.2.2 a = τ.2.2 a
theorem starts_L {n : Nat} (hn : n ≤ 7) {τ0 : St} (h0 : τ0.2.2 1 0 = nI n) : ∀ (d a fu : Nat) (τ : St), a + d = n → d < fu → S7 τ0 τ → (∀ t, t < n → τ.2.2 6 t = nI ((allR (τ0.2.2 1) (stn n (τ0.2.2 1 1)) a).countP (onP t))) → ∃ τ', f_X11_most_L25 fu τ (nI a) = f_X11_most_L107 FU τ' (-1) 0 ∧ (∀ t, t < n → τ'.2.2 6 t = nI ((allR (τ0.2.2 1) (stn n (τ0.2.2 1 1)) n).countP (onP t))) ∧ S7 τ0 τ' := by
  intro d
  induction d with
  | zero =>
    intro a fu τ ha hfu hS h6
    obtain ⟨fu, rfl⟩ : ∃ m, fu = m + 1 := ⟨fu - 1, by omega⟩
    have ha : a = n := by omega
    subst ha
    refine ⟨τ, ?_, h6, hS⟩
    show f_X11_most_b25 _ τ (nI a) = _
    unfold f_X11_most_b25 f_X11_many
    rw [bs]
    dsimp only
    rw [hS.2.2 1 (by omega) (by omega), h0, if_pos ((nle (by omega) (by omega)).mpr (by omega))]
  | succ d ih =>
    intro a fu τ ha hfu hS h6
    obtain ⟨fu, rfl⟩ : ∃ m, fu = m + 1 := ⟨fu - 1, by omega⟩
    have eM := hS.2.2 1 (by omega) (by omega)
    obtain ⟨τ1, q1, q2, q3, q4, q5, q6⟩ := first_M (τ := τ) (by rw [eM]; exact h0) hn (t := a) (by omega) (τ0.2.2 1 1)
    have m1 : τ1.2.2 1 = τ0.2.2 1 := (q6 1 (by omega)).trans eM
    have sa : bt (stn n (τ0.2.2 1 1)) a = !bt (τ0.2.2 1 1) a := by rw [stn_b hn, decide_eq_true (show a < n by omega)]; rfl
    have fin : ∀ (r : List Nat) (L : List (List Nat)), here (τ1.2.2 1) (τ1.1 10) r = L → L.length < FU → RS τ1 r → Rok r → L = (if bt (stn n (τ0.2.2 1 1)) a = true then pre (τ0.2.2 1) (stn n (τ0.2.2 1 1)) 7 [a] else []) → ∃ τ', f_X11_most_L44 (f_X11_most_L25 fu) FU τ1 (nI a) = f_X11_most_L107 FU τ' (-1) 0 ∧ (∀ t, t < n → τ'.2.2 6 t = nI ((allR (τ0.2.2 1) (stn n (τ0.2.2 1 1)) n).countP (onP t))) ∧ S7 τ0 τ' := by
      intro r L k1 k2 k3 k4 k5
      obtain ⟨τ2, y1, y2, y3⟩ := rows_L (K25 := f_X11_most_L25 fu) (a := a) L r FU τ1 k1 k2 k3 k4 (S6.rf τ1)
      rw [y1]
      refine ih (a + 1) fu τ2 (by omega) (by omega) ⟨fun k h1 h2 => ((y3.1 k h1).trans (q4 k h1 h2)).trans (hS.1 k h1 h2), (y3.2.1.trans q5).trans hS.2.1, fun x h1 h2 => ((y3.2.2 x h1 h2).trans (q6 x h1)).trans (hS.2.2 x h1 h2)⟩ (fun t ht => ?_)
      rw [y2 t, q6 6 (by omega), h6 t ht, nI_add, all_s, List.countP_append, k5]
    have e : f_X11_most_L25 (fu + 1) τ (nI a) = f_X11_most_b25 (f_X11_most_L25 fu) τ (nI a) := rfl
    rw [e]
    unfold f_X11_most_b25 f_X11_many
    rw [bs]
    dsimp only
    rw [eM, h0, if_neg (fun z => absurd ((nle (by omega) (by omega)).mp z) (by omega)), q1, bs]
    by_cases hf : bt (τ0.2.2 1 1) a = true
    · rw [if_pos hf] at q3
      refine fin [] [] rfl (by unfold FU; simp) q3 ⟨by simp, fun x hx => by cases hx⟩ ?_
      rw [if_neg (by rw [sa, hf]; decide)]
    · rw [if_neg hf] at q3
      have hf2 : bt (τ0.2.2 1 1) a = false := by simpa using hf
      refine fin [a] (pre (τ1.2.2 1) (τ1.1 10) 7 [a]) (here_1 _ _ a) (by unfold FU; exact pre_fu _ _ a) q3 (rok_1 (by omega)) ?_
      rw [if_pos (by rw [sa, hf2]; rfl), m1, q2]
theorem zeroM_L {n : Nat} (hn : n ≤ 7) {τ0 : St} (h0 : τ0.2.2 1 0 = nI n) : ∀ (d x fu : Nat) (τ : St), x + d = n → d < fu → S7 τ0 τ → (∀ t, t < x → τ.2.2 6 t = 0) → ∃ τ', f_X11_most_L2 fu τ (nI x) = f_X11_most_L25 FU τ' 0 ∧ (∀ t, t < n → τ'.2.2 6 t = 0) ∧ S7 τ0 τ' := by
  intro d
  induction d with
  | zero =>
    intro x fu τ hx hfu hS h6
    obtain ⟨fu, rfl⟩ : ∃ m, fu = m + 1 := ⟨fu - 1, by omega⟩
    refine ⟨τ, ?_, fun t ht => h6 t (by omega), hS⟩
    show f_X11_most_b2 _ τ (nI x) = _
    unfold f_X11_most_b2 f_X11_many
    rw [bs]
    dsimp only
    rw [hS.2.2 1 (by omega) (by omega), h0, if_pos ((nle (by omega) (by omega)).mpr (by omega))]
  | succ d ih =>
    intro x fu τ hx hfu hS h6
    obtain ⟨fu, rfl⟩ : ∃ m, fu = m + 1 := ⟨fu - 1, by omega⟩
    obtain ⟨τ', z1, z2, z3⟩ := ih (x + 1) fu (sE τ 6 x 0) (by omega) (by omega) ⟨hS.1, hS.2.1, fun a h1 h2 => by rw [sE3, if_neg h2]; exact hS.2.2 a h1 h2⟩ (fun t ht => by
      have e6 : (sE τ 6 x 0).2.2 6 t = if t = x then 0 else τ.2.2 6 t := rfl
      rw [e6]
      by_cases q : t = x
      · rw [if_pos q]
      · rw [if_neg q]; exact h6 t (by omega))
    refine ⟨τ', ?_, z2, z3⟩
    show f_X11_most_b2 (f_X11_most_L2 fu) τ (nI x) = _
    unfold f_X11_most_b2 f_X11_many
    rw [bs]
    dsimp only
    rw [hS.2.2 1 (by omega) (by omega), h0, if_neg (fun z => absurd ((nle (by omega) (by omega)).mp z) (by omega)), ck_nI (show x < 7 by omega) (by omega), cT, nI_clamp (show x < 2 ^ 31 by omega), nI_1]
    exact z1
theorem pick_L {σ τ : St} {n : Nat} (hn : n ≤ 7) (h106 : σ.1 106 = nI n) (h0 : τ.2.2 1 0 = nI n) (h107 : σ.1 107 = τ.2.2 1 1) (hT : ∀ t, t < n → σ.2.2 40 t = τ.2.2 6 t) : ∀ (d x fu gu : Nat) (b : Int32), x + d = n → d < fu → d < gu → (b = -1 ∨ ∃ j, j < n ∧ b = nI j) → ∃ v, f_X7_onMost_L8 gu σ b (nI x) = some (v, σ) ∧ f_X11_most_L107 fu τ b (nI x) = some (v, τ) := by
  intro d
  induction d with
  | zero =>
    intro x fu gu b hx hfu hgu hb
    obtain ⟨fu, rfl⟩ : ∃ m, fu = m + 1 := ⟨fu - 1, by omega⟩
    obtain ⟨gu, rfl⟩ : ∃ m, gu = m + 1 := ⟨gu - 1, by omega⟩
    have hle : nI n ≤ nI x := (nle (by omega) (by omega)).mpr (by omega)
    refine ⟨b, ?_, ?_⟩
    · show f_X7_onMost_b8 _ σ b (nI x) = _
      unfold f_X7_onMost_b8
      rw [h106, if_pos hle]
    · show f_X11_most_b107 _ τ b (nI x) = _
      unfold f_X11_most_b107 f_X11_many
      rw [bs]
      dsimp only
      rw [h0, if_pos hle]
  | succ d ih =>
    intro x fu gu b hx hfu hgu hb
    obtain ⟨fu, rfl⟩ : ∃ m, fu = m + 1 := ⟨fu - 1, by omega⟩
    obtain ⟨gu, rfl⟩ : ∃ m, gu = m + 1 := ⟨gu - 1, by omega⟩
    have hle : ¬ nI n ≤ nI x := fun z => absurd ((nle (by omega) (by omega)).mp z) (by omega)
    have old := ih (x + 1) fu gu b (by omega) (by omega) (by omega) hb
    have new := ih (x + 1) fu gu (nI x) (by omega) (by omega) (by omega) (Or.inr ⟨x, by omega, rfl⟩)
    have eC : f_X7_onMost_L8 (gu + 1) σ b (nI x) = f_X7_onMost_b8 (f_X7_onMost_L8 gu) σ b (nI x) := rfl
    have eM : f_X11_most_L107 (fu + 1) τ b (nI x) = f_X11_most_b107 (f_X11_most_L107 fu) τ b (nI x) := rfl
    rw [eC, eM]
    unfold f_X7_onMost_b8 f_X7_onMost_b39 f_X7_onMost_b64 f_X7_onMost_b66 f_X11_most_b107 f_X11_most_b135 f_X11_most_b140 f_X11_most_b162 f_X11_most_b163 f_X11_many
    rw [bs]
    dsimp only
    rw [h106, h0, if_neg hle, if_neg hle, bit_v (show x < 32 by omega), has_v (show x < 32 by omega), bs, bs, h107, nI_1]
    rcases hb with rfl | ⟨j, hj, rfl⟩
    · rw [if_pos (show (-1 : Int32) = -1 from rfl), if_pos (show (-1 : Int32) = -1 from rfl)]
      by_cases hf : bt (τ.2.2 1 1) x = true
      · rw [if_pos hf, if_pos rfl, if_neg (show ¬ (1 : Int32) = 0 by decide), if_neg (show ¬ (1 : Int32) = 0 by decide)]
        exact old
      · rw [if_neg hf, if_neg (show ¬ (0 : Int32) = 1 by decide), if_pos rfl, if_pos rfl, if_neg (show ¬ (1 : Int32) = 0 by decide)]
        exact new
    · have hm1 : ¬ nI j = -1 := fun z => by
        have : (nI j).toInt = -1 := by rw [z]; rfl
        rw [nI_toInt (by omega)] at this
        omega
      rw [if_neg hm1, if_neg hm1, ck_nI (show x < 7 by omega) (by omega), ck_nI (show j < 7 by omega) (by omega), cT, cT, cT, cT, nI_clamp (show x < 2 ^ 31 by omega), nI_clamp (show j < 2 ^ 31 by omega), hT x (by omega), hT j hj]
      by_cases hf : bt (τ.2.2 1 1) x = true
      · rw [if_pos hf, if_pos rfl, if_neg (show ¬ (1 : Int32) = 0 by decide), if_neg (show ¬ (1 : Int32) = 0 by decide), if_neg (show ¬ (1 : Int32) = 0 by decide)]
        by_cases w : τ.2.2 6 x ≤ τ.2.2 6 j
        · rw [if_pos w]; exact old
        · rw [if_neg w]; exact old
      · rw [if_neg hf, if_neg (show ¬ (0 : Int32) = 1 by decide), if_pos rfl, if_pos rfl, if_pos rfl, if_pos rfl, if_neg (show ¬ (1 : Int32) = 0 by decide)]
        by_cases w : τ.2.2 6 x ≤ τ.2.2 6 j
        · rw [if_pos w, if_pos w]; exact old
        · rw [if_neg w, if_neg w]; exact new
theorem op_most : Op0 RelP f_X10_most f_X11_most := by
  intro σ τ hR
  obtain ⟨n, nn, rn, un, se, hI⟩ := hR.n
  have a1 : τ.2.2 1 0 = nI n := hI.1.1
  have a2 : n ≤ 7 := hI.1.2
  have e106 : σ.1 106 = nI n := hR.2.1.1.trans a1
  have e107 : σ.1 107 = τ.2.2 1 1 := hR.2.1.2.1
  obtain ⟨σ1, c1, c2, c3⟩ := count_C (σ := σ) ⟨hR.wk hI, fun t i ht hb => (hI.2.2.2.2.2.2.1 t i ht hb).2.2.2⟩
  obtain ⟨τ1, z1, z2, z3⟩ := zeroM_L a2 a1 n 0 FU τ (by omega) (by unfold FU; omega) ⟨fun _ _ _ => rfl, rfl, fun _ _ _ => rfl⟩ (fun t ht => by omega)
  have z1 : f_X11_most τ = f_X11_most_L25 FU τ1 0 := z1
  obtain ⟨τ2, y1, y2, y3⟩ := starts_L a2 a1 n 0 FU τ1 (by omega) (by unfold FU; omega) z3 (fun t ht => by rw [z2 t ht]; rfl)
  have y1 : f_X11_most_L25 FU τ1 0 = _ := y1
  have hsm : SM τ τ2 := ⟨y3.1 18 (by omega) (by omega), fun a ha => y3.2.2 a (fun e => by subst e; exact absurd ha (by decide)) (fun e => by subst e; exact absurd ha (by decide)), y3.2.1⟩
  have hsc : SC σ σ1 := ⟨fun k _ => by rw [c2.1], fun a ha => c2.2.2 a (fun e => by subst e; exact absurd ha (by decide)) (fun e => by subst e; exact absurd ha (by decide)), c2.2.1⟩
  have m1 : τ2.2.2 1 = τ.2.2 1 := y3.2.2 1 (by omega) (by omega)
  obtain ⟨v, v1, v2⟩ := pick_L (σ := σ1) (τ := τ2) a2 (by rw [c2.1]; exact e106) (by rw [m1]; exact a1) (by rw [c2.1, m1]; exact e107) (fun t ht => by rw [c3 t ht, y2 t ht]; rfl) n 0 FU FU (-1) (by omega) (by unfold FU; omega) (by unfold FU; omega) (Or.inl rfl)
  have v1 : f_X7_onMost_L8 FU σ1 (-1) 0 = _ := v1
  have v2 : f_X11_most_L107 FU τ2 (-1) 0 = _ := v2
  refine ⟨v, σ1, τ2, ?_, ?_, hR.same hsc hsm⟩
  · unfold f_X10_most f_X7_onMost
    rw [c1, bs, v1, bs]
  · rw [z1, y1, v2]
